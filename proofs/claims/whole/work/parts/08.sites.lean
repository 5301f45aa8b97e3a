def LC : mm_Ly := [.inr (.inr (6, [some 1, some 17, some 20, some 8, some 24, some 42, some 33, some 55, some 68, some 69, none, none, none])), .inr (.inl ([2, 4, 6], 1)), .inr (.inr (4, [none, none, some 3, none, none])), .inl 23, .inr (.inr (4, [none, none, some 5, none, none])), .inl 47, .inr (.inr (4, [none, none, some 7, none, none])), .inl 47, .inr (.inl ([9, 11, 13, 15], 2)), .inr (.inr (3, [some 10, none, none])), .inl 60, .inr (.inr (3, [some 12, none, none])), .inl 60, .inr (.inr (3, [some 14, none, none])), .inl 60, .inr (.inr (3, [some 16, none, none])), .inl 60, .inr (.inr (2, [some 18, some 19, none])), .inl 8, .inl 8, .inr (.inr (0, [some 21, some 22, some 23, none])), .inl 8, .inl 8, .inl 8, .inr (.inr (5, [none, some 25, some 26, none, some 27, some 28, some 29, none, some 30, some 31, some 32])), .inl 8, .inl 8, .inl 12, .inl 12, .inl 12, .inl 13, .inl 13, .inl 13, .inr (.inr (5, [none, some 34, some 35, none, some 36, some 37, some 38, none, some 39, some 40, some 41])), .inl 8, .inl 8, .inl 12, .inl 12, .inl 12, .inl 13, .inl 13, .inl 13, .inr (.inr (1, [none, some 43, some 44, some 45, some 46, none, some 47, some 48, some 49, some 50, some 51, some 52, some 53, some 54])), .inl 12, .inl 12, .inl 8, .inl 8, .inl 24, .inl 24, .inl 24, .inl 13, .inl 288, .inl 288, .inl 192, .inl 8, .inr (.inr (1, [none, some 56, some 57, some 58, some 59, none, some 60, some 61, some 62, some 63, some 64, some 65, some 66, some 67])), .inl 12, .inl 12, .inl 8, .inl 8, .inl 24, .inl 24, .inl 24, .inl 13, .inl 288, .inl 288, .inl 192, .inl 8, .inl 240, .inl 108]
theorem lc_0 : LC[0]? = some (.inr (.inr (6, [some 1, some 17, some 20, some 8, some 24, some 42, some 33, some 55, some 68, some 69, none, none, none]))) := rfl
theorem lc_1 : LC[1]? = some (.inr (.inl ([2, 4, 6], 1))) := rfl
theorem lc_2 : LC[2]? = some (.inr (.inr (4, [none, none, some 3, none, none]))) := rfl
theorem lc_3 : LC[3]? = some (.inl 23) := rfl
theorem lc_4 : LC[4]? = some (.inr (.inr (4, [none, none, some 5, none, none]))) := rfl
theorem lc_5 : LC[5]? = some (.inl 47) := rfl
theorem lc_6 : LC[6]? = some (.inr (.inr (4, [none, none, some 7, none, none]))) := rfl
theorem lc_7 : LC[7]? = some (.inl 47) := rfl
theorem lc_8 : LC[8]? = some (.inr (.inl ([9, 11, 13, 15], 2))) := rfl
theorem lc_9 : LC[9]? = some (.inr (.inr (3, [some 10, none, none]))) := rfl
theorem lc_10 : LC[10]? = some (.inl 60) := rfl
theorem lc_11 : LC[11]? = some (.inr (.inr (3, [some 12, none, none]))) := rfl
theorem lc_12 : LC[12]? = some (.inl 60) := rfl
theorem lc_13 : LC[13]? = some (.inr (.inr (3, [some 14, none, none]))) := rfl
theorem lc_14 : LC[14]? = some (.inl 60) := rfl
theorem lc_15 : LC[15]? = some (.inr (.inr (3, [some 16, none, none]))) := rfl
theorem lc_16 : LC[16]? = some (.inl 60) := rfl
theorem lc_17 : LC[17]? = some (.inr (.inr (2, [some 18, some 19, none]))) := rfl
theorem lc_18 : LC[18]? = some (.inl 8) := rfl
theorem lc_19 : LC[19]? = some (.inl 8) := rfl
theorem lc_20 : LC[20]? = some (.inr (.inr (0, [some 21, some 22, some 23, none]))) := rfl
theorem lc_21 : LC[21]? = some (.inl 8) := rfl
theorem lc_22 : LC[22]? = some (.inl 8) := rfl
theorem lc_23 : LC[23]? = some (.inl 8) := rfl
theorem lc_24 : LC[24]? = some (.inr (.inr (5, [none, some 25, some 26, none, some 27, some 28, some 29, none, some 30, some 31, some 32]))) := rfl
theorem lc_25 : LC[25]? = some (.inl 8) := rfl
theorem lc_26 : LC[26]? = some (.inl 8) := rfl
theorem lc_27 : LC[27]? = some (.inl 12) := rfl
theorem lc_28 : LC[28]? = some (.inl 12) := rfl
theorem lc_29 : LC[29]? = some (.inl 12) := rfl
theorem lc_30 : LC[30]? = some (.inl 13) := rfl
theorem lc_31 : LC[31]? = some (.inl 13) := rfl
theorem lc_32 : LC[32]? = some (.inl 13) := rfl
theorem lc_33 : LC[33]? = some (.inr (.inr (5, [none, some 34, some 35, none, some 36, some 37, some 38, none, some 39, some 40, some 41]))) := rfl
theorem lc_34 : LC[34]? = some (.inl 8) := rfl
theorem lc_35 : LC[35]? = some (.inl 8) := rfl
theorem lc_36 : LC[36]? = some (.inl 12) := rfl
theorem lc_37 : LC[37]? = some (.inl 12) := rfl
theorem lc_38 : LC[38]? = some (.inl 12) := rfl
theorem lc_39 : LC[39]? = some (.inl 13) := rfl
theorem lc_40 : LC[40]? = some (.inl 13) := rfl
theorem lc_41 : LC[41]? = some (.inl 13) := rfl
theorem lc_42 : LC[42]? = some (.inr (.inr (1, [none, some 43, some 44, some 45, some 46, none, some 47, some 48, some 49, some 50, some 51, some 52, some 53, some 54]))) := rfl
theorem lc_43 : LC[43]? = some (.inl 12) := rfl
theorem lc_44 : LC[44]? = some (.inl 12) := rfl
theorem lc_45 : LC[45]? = some (.inl 8) := rfl
theorem lc_46 : LC[46]? = some (.inl 8) := rfl
theorem lc_47 : LC[47]? = some (.inl 24) := rfl
theorem lc_48 : LC[48]? = some (.inl 24) := rfl
theorem lc_49 : LC[49]? = some (.inl 24) := rfl
theorem lc_50 : LC[50]? = some (.inl 13) := rfl
theorem lc_51 : LC[51]? = some (.inl 288) := rfl
theorem lc_52 : LC[52]? = some (.inl 288) := rfl
theorem lc_53 : LC[53]? = some (.inl 192) := rfl
theorem lc_54 : LC[54]? = some (.inl 8) := rfl
theorem lc_55 : LC[55]? = some (.inr (.inr (1, [none, some 56, some 57, some 58, some 59, none, some 60, some 61, some 62, some 63, some 64, some 65, some 66, some 67]))) := rfl
theorem lc_56 : LC[56]? = some (.inl 12) := rfl
theorem lc_57 : LC[57]? = some (.inl 12) := rfl
theorem lc_58 : LC[58]? = some (.inl 8) := rfl
theorem lc_59 : LC[59]? = some (.inl 8) := rfl
theorem lc_60 : LC[60]? = some (.inl 24) := rfl
theorem lc_61 : LC[61]? = some (.inl 24) := rfl
theorem lc_62 : LC[62]? = some (.inl 24) := rfl
theorem lc_63 : LC[63]? = some (.inl 13) := rfl
theorem lc_64 : LC[64]? = some (.inl 288) := rfl
theorem lc_65 : LC[65]? = some (.inl 288) := rfl
theorem lc_66 : LC[66]? = some (.inl 192) := rfl
theorem lc_67 : LC[67]? = some (.inl 8) := rfl
theorem lc_68 : LC[68]? = some (.inl 240) := rfl
theorem lc_69 : LC[69]? = some (.inl 108) := rfl
def LR : mm_Ly := [.inr (.inr (7, [some 1, some 2, some 3, some 4, none, some 5, some 6, none, some 7, none, some 8, none, some 9, none, some 10, none, none, none, none, some 11, some 12, some 13, some 14, some 15, some 16, some 17, some 18, none, some 19, some 20, none])), .inl 4, .inl 4, .inl 240, .inl 60, .inl 144, .inl 3, .inl 16, .inl 36, .inl 36, .inl 16, .inl 12, .inl 12, .inl 8, .inl 8, .inl 288, .inl 288, .inl 192, .inl 8, .inl 24, .inl 240]
theorem lr_0 : LR[0]? = some (.inr (.inr (7, [some 1, some 2, some 3, some 4, none, some 5, some 6, none, some 7, none, some 8, none, some 9, none, some 10, none, none, none, none, some 11, some 12, some 13, some 14, some 15, some 16, some 17, some 18, none, some 19, some 20, none]))) := rfl
theorem lr_1 : LR[1]? = some (.inl 4) := rfl
theorem lr_2 : LR[2]? = some (.inl 4) := rfl
theorem lr_3 : LR[3]? = some (.inl 240) := rfl
theorem lr_4 : LR[4]? = some (.inl 60) := rfl
theorem lr_5 : LR[5]? = some (.inl 144) := rfl
theorem lr_6 : LR[6]? = some (.inl 3) := rfl
theorem lr_7 : LR[7]? = some (.inl 16) := rfl
theorem lr_8 : LR[8]? = some (.inl 36) := rfl
theorem lr_9 : LR[9]? = some (.inl 36) := rfl
theorem lr_10 : LR[10]? = some (.inl 16) := rfl
theorem lr_11 : LR[11]? = some (.inl 12) := rfl
theorem lr_12 : LR[12]? = some (.inl 12) := rfl
theorem lr_13 : LR[13]? = some (.inl 8) := rfl
theorem lr_14 : LR[14]? = some (.inl 8) := rfl
theorem lr_15 : LR[15]? = some (.inl 288) := rfl
theorem lr_16 : LR[16]? = some (.inl 288) := rfl
theorem lr_17 : LR[17]? = some (.inl 192) := rfl
theorem lr_18 : LR[18]? = some (.inl 8) := rfl
theorem lr_19 : LR[19]? = some (.inl 24) := rfl
theorem lr_20 : LR[20]? = some (.inl 240) := rfl
def tl (k : Nat) : Nat := if k = 2 then 23 else 47
def isTx (k : Nat) : Prop := k = 2 ∨ k = 4 ∨ k = 6
theorem isTx_2 : isTx 2 := by unfold isTx; decide
theorem isTx_4 : isTx 4 := by unfold isTx; decide
theorem isTx_6 : isTx 6 := by unfold isTx; decide
theorem lc_Tx {k : Nat} (hk : isTx k) : LC[k]? = some (.inr (.inr (4, [none, none, some (k + 1), none, none]))) := by
  rcases hk with h | h | h <;> subst h <;> rfl
theorem lc_Tx_1 {k : Nat} (hk : isTx k) : LC[k + 1]? = some (.inl (tl k)) := by
  rcases hk with h | h | h <;> subst h <;> rfl
def isSh (k : Nat) : Prop := k = 9 ∨ k = 11 ∨ k = 13 ∨ k = 15
theorem isSh_9 : isSh 9 := by unfold isSh; decide
theorem isSh_11 : isSh 11 := by unfold isSh; decide
theorem isSh_13 : isSh 13 := by unfold isSh; decide
theorem isSh_15 : isSh 15 := by unfold isSh; decide
theorem lc_Sh {k : Nat} (hk : isSh k) : LC[k]? = some (.inr (.inr (3, [some (k + 1), none, none]))) := by
  rcases hk with h | h | h | h <;> subst h <;> rfl
theorem lc_Sh_1 {k : Nat} (hk : isSh k) : LC[k + 1]? = some (.inl (60)) := by
  rcases hk with h | h | h | h <;> subst h <;> rfl
def isTo (k : Nat) : Prop := k = 24 ∨ k = 33
theorem isTo_24 : isTo 24 := by unfold isTo; decide
theorem isTo_33 : isTo 33 := by unfold isTo; decide
theorem lc_To {k : Nat} (hk : isTo k) : LC[k]? = some (.inr (.inr (5, [none, some (k + 1), some (k + 2), none, some (k + 3), some (k + 4), some (k + 5), none, some (k + 6), some (k + 7), some (k + 8)]))) := by
  rcases hk with h | h <;> subst h <;> rfl
theorem lc_To_1 {k : Nat} (hk : isTo k) : LC[k + 1]? = some (.inl (8)) := by
  rcases hk with h | h <;> subst h <;> rfl
theorem lc_To_2 {k : Nat} (hk : isTo k) : LC[k + 2]? = some (.inl (8)) := by
  rcases hk with h | h <;> subst h <;> rfl
theorem lc_To_3 {k : Nat} (hk : isTo k) : LC[k + 3]? = some (.inl (12)) := by
  rcases hk with h | h <;> subst h <;> rfl
theorem lc_To_4 {k : Nat} (hk : isTo k) : LC[k + 4]? = some (.inl (12)) := by
  rcases hk with h | h <;> subst h <;> rfl
theorem lc_To_5 {k : Nat} (hk : isTo k) : LC[k + 5]? = some (.inl (12)) := by
  rcases hk with h | h <;> subst h <;> rfl
theorem lc_To_6 {k : Nat} (hk : isTo k) : LC[k + 6]? = some (.inl (13)) := by
  rcases hk with h | h <;> subst h <;> rfl
theorem lc_To_7 {k : Nat} (hk : isTo k) : LC[k + 7]? = some (.inl (13)) := by
  rcases hk with h | h <;> subst h <;> rfl
theorem lc_To_8 {k : Nat} (hk : isTo k) : LC[k + 8]? = some (.inl (13)) := by
  rcases hk with h | h <;> subst h <;> rfl
def isCo (k : Nat) : Prop := k = 42 ∨ k = 55
theorem isCo_42 : isCo 42 := by unfold isCo; decide
theorem isCo_55 : isCo 55 := by unfold isCo; decide
theorem lc_Co {k : Nat} (hk : isCo k) : LC[k]? = some (.inr (.inr (1, [none, some (k + 1), some (k + 2), some (k + 3), some (k + 4), none, some (k + 5), some (k + 6), some (k + 7), some (k + 8), some (k + 9), some (k + 10), some (k + 11), some (k + 12)]))) := by
  rcases hk with h | h <;> subst h <;> rfl
theorem lc_Co_1 {k : Nat} (hk : isCo k) : LC[k + 1]? = some (.inl (12)) := by
  rcases hk with h | h <;> subst h <;> rfl
theorem lc_Co_2 {k : Nat} (hk : isCo k) : LC[k + 2]? = some (.inl (12)) := by
  rcases hk with h | h <;> subst h <;> rfl
theorem lc_Co_3 {k : Nat} (hk : isCo k) : LC[k + 3]? = some (.inl (8)) := by
  rcases hk with h | h <;> subst h <;> rfl
theorem lc_Co_4 {k : Nat} (hk : isCo k) : LC[k + 4]? = some (.inl (8)) := by
  rcases hk with h | h <;> subst h <;> rfl
theorem lc_Co_5 {k : Nat} (hk : isCo k) : LC[k + 5]? = some (.inl (24)) := by
  rcases hk with h | h <;> subst h <;> rfl
theorem lc_Co_6 {k : Nat} (hk : isCo k) : LC[k + 6]? = some (.inl (24)) := by
  rcases hk with h | h <;> subst h <;> rfl
theorem lc_Co_7 {k : Nat} (hk : isCo k) : LC[k + 7]? = some (.inl (24)) := by
  rcases hk with h | h <;> subst h <;> rfl
theorem lc_Co_8 {k : Nat} (hk : isCo k) : LC[k + 8]? = some (.inl (13)) := by
  rcases hk with h | h <;> subst h <;> rfl
theorem lc_Co_9 {k : Nat} (hk : isCo k) : LC[k + 9]? = some (.inl (288)) := by
  rcases hk with h | h <;> subst h <;> rfl
theorem lc_Co_10 {k : Nat} (hk : isCo k) : LC[k + 10]? = some (.inl (288)) := by
  rcases hk with h | h <;> subst h <;> rfl
theorem lc_Co_11 {k : Nat} (hk : isCo k) : LC[k + 11]? = some (.inl (192)) := by
  rcases hk with h | h <;> subst h <;> rfl
theorem lc_Co_12 {k : Nat} (hk : isCo k) : LC[k + 12]? = some (.inl (8)) := by
  rcases hk with h | h <;> subst h <;> rfl
theorem isTx_of {i : Int32} {x : Nat} (h : mm_ra [2, 4, 6] i = some x) : isTx x := by
  have := mm_ra_mem h
  simpa [isTx] using this
theorem isSh_of {i : Int32} {x : Nat} (h : mm_ra [9, 11, 13, 15] i = some x) : isSh x := by
  have := mm_ra_mem h
  simpa [isSh] using this
theorem in_X0 : ∀ w ∈ u_ws RX0 TX0 4, w ∈ mm_tb := by
  intro w hw
  obtain ⟨k, hk, rfl⟩ := List.mem_map.mp hw
  have hk := List.mem_range.mp hk
  rcases (show k = 0 ∨ k = 1 ∨ k = 2 ∨ k = 3 by omega) with rfl | rfl | rfl | rfl
  · exact mt_122
  · exact mt_124
  · exact mt_126
  · exact mt_128
theorem in_X1 : ∀ w ∈ u_ws RX1 TX1 14, w ∈ mm_tb := by
  intro w hw
  obtain ⟨k, hk, rfl⟩ := List.mem_map.mp hw
  have hk := List.mem_range.mp hk
  rcases (show k = 0 ∨ k = 1 ∨ k = 2 ∨ k = 3 ∨ k = 4 ∨ k = 5 ∨ k = 6 ∨ k = 7 ∨ k = 8 ∨ k = 9 ∨ k = 10 ∨ k = 11 ∨ k = 12 ∨ k = 13 by omega) with rfl | rfl | rfl | rfl | rfl | rfl | rfl | rfl | rfl | rfl | rfl | rfl | rfl | rfl
  · exact mt_215
  · exact mt_217
  · exact mt_219
  · exact mt_221
  · exact mt_223
  · exact mt_225
  · exact mt_227
  · exact mt_229
  · exact mt_231
  · exact mt_233
  · exact mt_235
  · exact mt_237
  · exact mt_239
  · exact mt_241
theorem in_X2 : ∀ w ∈ u_ws RX2 TX2 3, w ∈ mm_tb := by
  intro w hw
  obtain ⟨k, hk, rfl⟩ := List.mem_map.mp hw
  have hk := List.mem_range.mp hk
  rcases (show k = 0 ∨ k = 1 ∨ k = 2 by omega) with rfl | rfl | rfl
  · exact mt_103
  · exact mt_105
  · exact mt_107
theorem in_X3 : ∀ w ∈ u_ws RX3 TX3 3, w ∈ mm_tb := by
  intro w hw
  obtain ⟨k, hk, rfl⟩ := List.mem_map.mp hw
  have hk := List.mem_range.mp hk
  rcases (show k = 0 ∨ k = 1 ∨ k = 2 by omega) with rfl | rfl | rfl
  · exact mt_276
  · exact mt_278
  · exact mt_280
theorem in_X4 : ∀ w ∈ u_ws RX4 TX4 5, w ∈ mm_tb := by
  intro w hw
  obtain ⟨k, hk, rfl⟩ := List.mem_map.mp hw
  have hk := List.mem_range.mp hk
  rcases (show k = 0 ∨ k = 1 ∨ k = 2 ∨ k = 3 ∨ k = 4 by omega) with rfl | rfl | rfl | rfl | rfl
  · exact mt_254
  · exact mt_256
  · exact mt_258
  · exact mt_260
  · exact mt_262
theorem in_X5 : ∀ w ∈ u_ws RX5 TX5 11, w ∈ mm_tb := by
  intro w hw
  obtain ⟨k, hk, rfl⟩ := List.mem_map.mp hw
  have hk := List.mem_range.mp hk
  rcases (show k = 0 ∨ k = 1 ∨ k = 2 ∨ k = 3 ∨ k = 4 ∨ k = 5 ∨ k = 6 ∨ k = 7 ∨ k = 8 ∨ k = 9 ∨ k = 10 by omega) with rfl | rfl | rfl | rfl | rfl | rfl | rfl | rfl | rfl | rfl | rfl
  · exact mt_172
  · exact mt_174
  · exact mt_176
  · exact mt_178
  · exact mt_180
  · exact mt_182
  · exact mt_184
  · exact mt_186
  · exact mt_188
  · exact mt_190
  · exact mt_192
theorem in_X6 : ∀ w ∈ u_ws RX6 TX6 13, w ∈ mm_tb := by
  intro w hw
  obtain ⟨k, hk, rfl⟩ := List.mem_map.mp hw
  have hk := List.mem_range.mp hk
  rcases (show k = 0 ∨ k = 1 ∨ k = 2 ∨ k = 3 ∨ k = 4 ∨ k = 5 ∨ k = 6 ∨ k = 7 ∨ k = 8 ∨ k = 9 ∨ k = 10 ∨ k = 11 ∨ k = 12 by omega) with rfl | rfl | rfl | rfl | rfl | rfl | rfl | rfl | rfl | rfl | rfl | rfl | rfl
  · exact mt_296
  · exact mt_298
  · exact mt_300
  · exact mt_302
  · exact mt_304
  · exact mt_306
  · exact mt_308
  · exact mt_310
  · exact mt_312
  · exact mt_314
  · exact mt_316
  · exact mt_318
  · exact mt_320
theorem in_X7 : ∀ w ∈ u_ws RX7 TX7 31, w ∈ mm_tb := by
  intro w hw
  obtain ⟨k, hk, rfl⟩ := List.mem_map.mp hw
  have hk := List.mem_range.mp hk
  rcases (show k = 0 ∨ k = 1 ∨ k = 2 ∨ k = 3 ∨ k = 4 ∨ k = 5 ∨ k = 6 ∨ k = 7 ∨ k = 8 ∨ k = 9 ∨ k = 10 ∨ k = 11 ∨ k = 12 ∨ k = 13 ∨ k = 14 ∨ k = 15 ∨ k = 16 ∨ k = 17 ∨ k = 18 ∨ k = 19 ∨ k = 20 ∨ k = 21 ∨ k = 22 ∨ k = 23 ∨ k = 24 ∨ k = 25 ∨ k = 26 ∨ k = 27 ∨ k = 28 ∨ k = 29 ∨ k = 30 by omega) with rfl | rfl | rfl | rfl | rfl | rfl | rfl | rfl | rfl | rfl | rfl | rfl | rfl | rfl | rfl | rfl | rfl | rfl | rfl | rfl | rfl | rfl | rfl | rfl | rfl | rfl | rfl | rfl | rfl | rfl | rfl
  · exact mt_808
  · exact mt_810
  · exact mt_812
  · exact mt_814
  · exact mt_816
  · exact mt_818
  · exact mt_820
  · exact mt_822
  · exact mt_824
  · exact mt_826
  · exact mt_828
  · exact mt_830
  · exact mt_832
  · exact mt_834
  · exact mt_836
  · exact mt_838
  · exact mt_840
  · exact mt_842
  · exact mt_844
  · exact mt_846
  · exact mt_848
  · exact mt_850
  · exact mt_852
  · exact mt_854
  · exact mt_856
  · exact mt_858
  · exact mt_860
  · exact mt_862
  · exact mt_864
  · exact mt_866
  · exact mt_868
theorem ps_X0_3 : mm_ps 0 3 .int := ⟨RX0, TX0, 4, tyX0, rfl, tyX0_ok, nmX0, rfl, rfl⟩
theorem ps_X1_0 : mm_ps 1 0 .int := ⟨RX1, TX1, 14, tyX1, rfl, tyX1_ok, nmX1, rfl, rfl⟩
theorem ps_X1_5 : mm_ps 1 5 .int := ⟨RX1, TX1, 14, tyX1, rfl, tyX1_ok, nmX1, rfl, rfl⟩
theorem ps_X2_2 : mm_ps 2 2 .int := ⟨RX2, TX2, 3, tyX2, rfl, tyX2_ok, nmX2, rfl, rfl⟩
theorem ps_X3_1 : mm_ps 3 1 .int := ⟨RX3, TX3, 3, tyX3, rfl, tyX3_ok, nmX3, rfl, rfl⟩
theorem ps_X3_2 : mm_ps 3 2 .int := ⟨RX3, TX3, 3, tyX3, rfl, tyX3_ok, nmX3, rfl, rfl⟩
theorem ps_X4_3 : mm_ps 4 3 .int := ⟨RX4, TX4, 5, tyX4, rfl, tyX4_ok, nmX4, rfl, rfl⟩
theorem ps_X4_4 : mm_ps 4 4 .int := ⟨RX4, TX4, 5, tyX4, rfl, tyX4_ok, nmX4, rfl, rfl⟩
theorem ps_X5_0 : mm_ps 5 0 .int := ⟨RX5, TX5, 11, tyX5, rfl, tyX5_ok, nmX5, rfl, rfl⟩
theorem ps_X5_3 : mm_ps 5 3 .int := ⟨RX5, TX5, 11, tyX5, rfl, tyX5_ok, nmX5, rfl, rfl⟩
theorem ps_X5_7 : mm_ps 5 7 .int := ⟨RX5, TX5, 11, tyX5, rfl, tyX5_ok, nmX5, rfl, rfl⟩
theorem ps_X6_10 : mm_ps 6 10 .boolean := ⟨RX6, TX6, 13, tyX6, rfl, tyX6_ok, nmX6, rfl, rfl⟩
theorem ps_X6_11 : mm_ps 6 11 .boolean := ⟨RX6, TX6, 13, tyX6, rfl, tyX6_ok, nmX6, rfl, rfl⟩
theorem ps_X6_12 : mm_ps 6 12 .int := ⟨RX6, TX6, 13, tyX6, rfl, tyX6_ok, nmX6, rfl, rfl⟩
theorem ps_X7_4 : mm_ps 7 4 .int := ⟨RX7, TX7, 31, tyX7, rfl, tyX7_ok, nmX7, rfl, rfl⟩
theorem ps_X7_7 : mm_ps 7 7 .int := ⟨RX7, TX7, 31, tyX7, rfl, tyX7_ok, nmX7, rfl, rfl⟩
theorem ps_X7_9 : mm_ps 7 9 .int := ⟨RX7, TX7, 31, tyX7, rfl, tyX7_ok, nmX7, rfl, rfl⟩
theorem ps_X7_11 : mm_ps 7 11 .int := ⟨RX7, TX7, 31, tyX7, rfl, tyX7_ok, nmX7, rfl, rfl⟩
theorem ps_X7_13 : mm_ps 7 13 .int := ⟨RX7, TX7, 31, tyX7, rfl, tyX7_ok, nmX7, rfl, rfl⟩
theorem ps_X7_15 : mm_ps 7 15 .int := ⟨RX7, TX7, 31, tyX7, rfl, tyX7_ok, nmX7, rfl, rfl⟩
theorem ps_X7_16 : mm_ps 7 16 .int := ⟨RX7, TX7, 31, tyX7, rfl, tyX7_ok, nmX7, rfl, rfl⟩
theorem ps_X7_17 : mm_ps 7 17 .int := ⟨RX7, TX7, 31, tyX7, rfl, tyX7_ok, nmX7, rfl, rfl⟩
theorem ps_X7_18 : mm_ps 7 18 .int := ⟨RX7, TX7, 31, tyX7, rfl, tyX7_ok, nmX7, rfl, rfl⟩
theorem ps_X7_27 : mm_ps 7 27 .int := ⟨RX7, TX7, 31, tyX7, rfl, tyX7_ok, nmX7, rfl, rfl⟩
theorem ps_X7_30 : mm_ps 7 30 .int := ⟨RX7, TX7, 31, tyX7, rfl, tyX7_ok, nmX7, rfl, rfl⟩
theorem fd_X2_9 : mm_fd RX2 9 2 0 := ⟨RX2, TX2, 3, rfl, Nat.le_of_ble_eq_true rfl, in_X2, mt_96⟩
theorem fd_X1_106 : mm_fdN RX1 106 2 0 := ⟨RX2, TX2, 3, "WordsLent", rfl, Nat.le_of_ble_eq_true rfl, in_X2, mt_97⟩
theorem fd_X2_15 : mm_fd RX2 15 2 1 := ⟨RX2, TX2, 3, rfl, Nat.le_of_ble_eq_true rfl, in_X2, mt_98⟩
theorem fd_X1_109 : mm_fdN RX1 109 2 1 := ⟨RX2, TX2, 3, "WordsLent", rfl, Nat.le_of_ble_eq_true rfl, in_X2, mt_99⟩
theorem fd_X2_22 : mm_fd RX2 22 2 2 := ⟨RX2, TX2, 3, rfl, Nat.le_of_ble_eq_true rfl, in_X2, mt_100⟩
theorem fd_X1_101 : mm_fdN RX1 101 2 2 := ⟨RX2, TX2, 3, "WordsLent", rfl, Nat.le_of_ble_eq_true rfl, in_X2, mt_101⟩
theorem fd_X6_134 : mm_fdN RX6 134 2 2 := ⟨RX2, TX2, 3, "WordsLent", rfl, Nat.le_of_ble_eq_true rfl, in_X2, mt_102⟩
theorem fd_X0_9 : mm_fd RX0 9 0 0 := ⟨RX0, TX0, 4, rfl, Nat.le_of_ble_eq_true rfl, in_X0, mt_117⟩
theorem fd_X0_15 : mm_fd RX0 15 0 1 := ⟨RX0, TX0, 4, rfl, Nat.le_of_ble_eq_true rfl, in_X0, mt_118⟩
theorem fd_X0_18 : mm_fd RX0 18 0 2 := ⟨RX0, TX0, 4, rfl, Nat.le_of_ble_eq_true rfl, in_X0, mt_119⟩
theorem fd_X0_21 : mm_fd RX0 21 0 3 := ⟨RX0, TX0, 4, rfl, Nat.le_of_ble_eq_true rfl, in_X0, mt_120⟩
theorem fd_X6_212 : mm_fdN RX6 212 0 3 := ⟨RX0, TX0, 4, "WordsLent", rfl, Nat.le_of_ble_eq_true rfl, in_X0, mt_121⟩
theorem fd_X5_48 : mm_fd RX5 48 5 0 := ⟨RX5, TX5, 11, rfl, Nat.le_of_ble_eq_true rfl, in_X5, mt_139⟩
theorem fd_X1_79 : mm_fdN RX1 79 5 0 := ⟨RX5, TX5, 11, "WordsLent", rfl, Nat.le_of_ble_eq_true rfl, in_X5, mt_140⟩
theorem fd_X6_90 : mm_fdN RX6 90 5 0 := ⟨RX5, TX5, 11, "WordsLent", rfl, Nat.le_of_ble_eq_true rfl, in_X5, mt_141⟩
theorem fd_X5_9 : mm_fd RX5 9 5 1 := ⟨RX5, TX5, 11, rfl, Nat.le_of_ble_eq_true rfl, in_X5, mt_142⟩
theorem fd_X1_119 : mm_fdN RX1 119 5 1 := ⟨RX5, TX5, 11, "WordsLent", rfl, Nat.le_of_ble_eq_true rfl, in_X5, mt_143⟩
theorem fd_X6_94 : mm_fdN RX6 94 5 1 := ⟨RX5, TX5, 11, "WordsLent", rfl, Nat.le_of_ble_eq_true rfl, in_X5, mt_144⟩
theorem fd_X5_15 : mm_fd RX5 15 5 2 := ⟨RX5, TX5, 11, rfl, Nat.le_of_ble_eq_true rfl, in_X5, mt_145⟩
theorem fd_X1_112 : mm_fdN RX1 112 5 2 := ⟨RX5, TX5, 11, "WordsLent", rfl, Nat.le_of_ble_eq_true rfl, in_X5, mt_146⟩
theorem fd_X6_97 : mm_fdN RX6 97 5 2 := ⟨RX5, TX5, 11, "WordsLent", rfl, Nat.le_of_ble_eq_true rfl, in_X5, mt_147⟩
theorem fd_X1_84 : mm_fdN RX1 84 5 3 := ⟨RX5, TX5, 11, "WordsLent", rfl, Nat.le_of_ble_eq_true rfl, in_X5, mt_148⟩
theorem fd_X5_55 : mm_fd RX5 55 5 3 := ⟨RX5, TX5, 11, rfl, Nat.le_of_ble_eq_true rfl, in_X5, mt_149⟩
theorem fd_X6_100 : mm_fdN RX6 100 5 3 := ⟨RX5, TX5, 11, "WordsLent", rfl, Nat.le_of_ble_eq_true rfl, in_X5, mt_150⟩
theorem fd_X5_18 : mm_fd RX5 18 5 4 := ⟨RX5, TX5, 11, rfl, Nat.le_of_ble_eq_true rfl, in_X5, mt_151⟩
theorem fd_X1_85 : mm_fdN RX1 85 5 4 := ⟨RX5, TX5, 11, "WordsLent", rfl, Nat.le_of_ble_eq_true rfl, in_X5, mt_152⟩
theorem fd_X6_103 : mm_fdN RX6 103 5 4 := ⟨RX5, TX5, 11, "WordsLent", rfl, Nat.le_of_ble_eq_true rfl, in_X5, mt_153⟩
theorem fd_X5_21 : mm_fd RX5 21 5 5 := ⟨RX5, TX5, 11, rfl, Nat.le_of_ble_eq_true rfl, in_X5, mt_154⟩
theorem fd_X1_88 : mm_fdN RX1 88 5 5 := ⟨RX5, TX5, 11, "WordsLent", rfl, Nat.le_of_ble_eq_true rfl, in_X5, mt_155⟩
theorem fd_X6_106 : mm_fdN RX6 106 5 5 := ⟨RX5, TX5, 11, "WordsLent", rfl, Nat.le_of_ble_eq_true rfl, in_X5, mt_156⟩
theorem fd_X5_24 : mm_fd RX5 24 5 6 := ⟨RX5, TX5, 11, rfl, Nat.le_of_ble_eq_true rfl, in_X5, mt_157⟩
theorem fd_X1_95 : mm_fdN RX1 95 5 6 := ⟨RX5, TX5, 11, "WordsLent", rfl, Nat.le_of_ble_eq_true rfl, in_X5, mt_158⟩
theorem fd_X6_109 : mm_fdN RX6 109 5 6 := ⟨RX5, TX5, 11, "WordsLent", rfl, Nat.le_of_ble_eq_true rfl, in_X5, mt_159⟩
theorem fd_X5_58 : mm_fd RX5 58 5 7 := ⟨RX5, TX5, 11, rfl, Nat.le_of_ble_eq_true rfl, in_X5, mt_160⟩
theorem fd_X1_115 : mm_fdN RX1 115 5 7 := ⟨RX5, TX5, 11, "WordsLent", rfl, Nat.le_of_ble_eq_true rfl, in_X5, mt_161⟩
theorem fd_X6_112 : mm_fdN RX6 112 5 7 := ⟨RX5, TX5, 11, "WordsLent", rfl, Nat.le_of_ble_eq_true rfl, in_X5, mt_162⟩
theorem fd_X5_27 : mm_fd RX5 27 5 8 := ⟨RX5, TX5, 11, rfl, Nat.le_of_ble_eq_true rfl, in_X5, mt_163⟩
theorem fd_X1_118 : mm_fdN RX1 118 5 8 := ⟨RX5, TX5, 11, "WordsLent", rfl, Nat.le_of_ble_eq_true rfl, in_X5, mt_164⟩
theorem fd_X6_115 : mm_fdN RX6 115 5 8 := ⟨RX5, TX5, 11, "WordsLent", rfl, Nat.le_of_ble_eq_true rfl, in_X5, mt_165⟩
theorem fd_X5_30 : mm_fd RX5 30 5 9 := ⟨RX5, TX5, 11, rfl, Nat.le_of_ble_eq_true rfl, in_X5, mt_166⟩
theorem fd_X1_128 : mm_fdN RX1 128 5 9 := ⟨RX5, TX5, 11, "WordsLent", rfl, Nat.le_of_ble_eq_true rfl, in_X5, mt_167⟩
theorem fd_X6_118 : mm_fdN RX6 118 5 9 := ⟨RX5, TX5, 11, "WordsLent", rfl, Nat.le_of_ble_eq_true rfl, in_X5, mt_168⟩
theorem fd_X5_33 : mm_fd RX5 33 5 10 := ⟨RX5, TX5, 11, rfl, Nat.le_of_ble_eq_true rfl, in_X5, mt_169⟩
theorem fd_X1_131 : mm_fdN RX1 131 5 10 := ⟨RX5, TX5, 11, "WordsLent", rfl, Nat.le_of_ble_eq_true rfl, in_X5, mt_170⟩
theorem fd_X6_121 : mm_fdN RX6 121 5 10 := ⟨RX5, TX5, 11, "WordsLent", rfl, Nat.le_of_ble_eq_true rfl, in_X5, mt_171⟩
theorem fd_X1_69 : mm_fd RX1 69 1 0 := ⟨RX1, TX1, 14, rfl, Nat.le_of_ble_eq_true rfl, in_X1, mt_201⟩
theorem fd_X1_9 : mm_fd RX1 9 1 1 := ⟨RX1, TX1, 14, rfl, Nat.le_of_ble_eq_true rfl, in_X1, mt_202⟩
theorem fd_X1_15 : mm_fd RX1 15 1 2 := ⟨RX1, TX1, 14, rfl, Nat.le_of_ble_eq_true rfl, in_X1, mt_203⟩
theorem fd_X1_18 : mm_fd RX1 18 1 3 := ⟨RX1, TX1, 14, rfl, Nat.le_of_ble_eq_true rfl, in_X1, mt_204⟩
theorem fd_X1_21 : mm_fd RX1 21 1 4 := ⟨RX1, TX1, 14, rfl, Nat.le_of_ble_eq_true rfl, in_X1, mt_205⟩
theorem fd_X1_98 : mm_fd RX1 98 1 5 := ⟨RX1, TX1, 14, rfl, Nat.le_of_ble_eq_true rfl, in_X1, mt_206⟩
theorem fd_X1_24 : mm_fd RX1 24 1 6 := ⟨RX1, TX1, 14, rfl, Nat.le_of_ble_eq_true rfl, in_X1, mt_207⟩
theorem fd_X1_27 : mm_fd RX1 27 1 7 := ⟨RX1, TX1, 14, rfl, Nat.le_of_ble_eq_true rfl, in_X1, mt_208⟩
theorem fd_X1_30 : mm_fd RX1 30 1 8 := ⟨RX1, TX1, 14, rfl, Nat.le_of_ble_eq_true rfl, in_X1, mt_209⟩
theorem fd_X1_33 : mm_fd RX1 33 1 9 := ⟨RX1, TX1, 14, rfl, Nat.le_of_ble_eq_true rfl, in_X1, mt_210⟩
theorem fd_X1_36 : mm_fd RX1 36 1 10 := ⟨RX1, TX1, 14, rfl, Nat.le_of_ble_eq_true rfl, in_X1, mt_211⟩
theorem fd_X1_39 : mm_fd RX1 39 1 11 := ⟨RX1, TX1, 14, rfl, Nat.le_of_ble_eq_true rfl, in_X1, mt_212⟩
theorem fd_X1_42 : mm_fd RX1 42 1 12 := ⟨RX1, TX1, 14, rfl, Nat.le_of_ble_eq_true rfl, in_X1, mt_213⟩
theorem fd_X1_45 : mm_fd RX1 45 1 13 := ⟨RX1, TX1, 14, rfl, Nat.le_of_ble_eq_true rfl, in_X1, mt_214⟩
theorem fd_X4_15 : mm_fd RX4 15 4 0 := ⟨RX4, TX4, 5, rfl, Nat.le_of_ble_eq_true rfl, in_X4, mt_249⟩
theorem fd_X4_18 : mm_fd RX4 18 4 1 := ⟨RX4, TX4, 5, rfl, Nat.le_of_ble_eq_true rfl, in_X4, mt_250⟩
theorem fd_X4_21 : mm_fd RX4 21 4 2 := ⟨RX4, TX4, 5, rfl, Nat.le_of_ble_eq_true rfl, in_X4, mt_251⟩
theorem fd_X4_25 : mm_fd RX4 25 4 3 := ⟨RX4, TX4, 5, rfl, Nat.le_of_ble_eq_true rfl, in_X4, mt_252⟩
theorem fd_X4_9 : mm_fd RX4 9 4 4 := ⟨RX4, TX4, 5, rfl, Nat.le_of_ble_eq_true rfl, in_X4, mt_253⟩
theorem fd_X3_9 : mm_fd RX3 9 3 0 := ⟨RX3, TX3, 3, rfl, Nat.le_of_ble_eq_true rfl, in_X3, mt_270⟩
theorem fd_X6_146 : mm_fdN RX6 146 3 0 := ⟨RX3, TX3, 3, "WordsLent", rfl, Nat.le_of_ble_eq_true rfl, in_X3, mt_271⟩
theorem fd_X3_15 : mm_fd RX3 15 3 1 := ⟨RX3, TX3, 3, rfl, Nat.le_of_ble_eq_true rfl, in_X3, mt_272⟩
theorem fd_X6_248 : mm_fdN RX6 248 3 1 := ⟨RX3, TX3, 3, "WordsLent", rfl, Nat.le_of_ble_eq_true rfl, in_X3, mt_273⟩
theorem fd_X3_19 : mm_fd RX3 19 3 2 := ⟨RX3, TX3, 3, rfl, Nat.le_of_ble_eq_true rfl, in_X3, mt_274⟩
theorem fd_X6_144 : mm_fdN RX6 144 3 2 := ⟨RX3, TX3, 3, "WordsLent", rfl, Nat.le_of_ble_eq_true rfl, in_X3, mt_275⟩
theorem fd_X6_11 : mm_fd RX6 11 6 0 := ⟨RX6, TX6, 13, rfl, Nat.le_of_ble_eq_true rfl, in_X6, mt_283⟩
theorem fd_X6_18 : mm_fd RX6 18 6 1 := ⟨RX6, TX6, 13, rfl, Nat.le_of_ble_eq_true rfl, in_X6, mt_284⟩
theorem fd_X6_25 : mm_fd RX6 25 6 2 := ⟨RX6, TX6, 13, rfl, Nat.le_of_ble_eq_true rfl, in_X6, mt_285⟩
theorem fd_X6_31 : mm_fd RX6 31 6 3 := ⟨RX6, TX6, 13, rfl, Nat.le_of_ble_eq_true rfl, in_X6, mt_286⟩
theorem fd_X6_38 : mm_fd RX6 38 6 4 := ⟨RX6, TX6, 13, rfl, Nat.le_of_ble_eq_true rfl, in_X6, mt_287⟩
theorem fd_X6_45 : mm_fd RX6 45 6 5 := ⟨RX6, TX6, 13, rfl, Nat.le_of_ble_eq_true rfl, in_X6, mt_288⟩
theorem fd_X6_49 : mm_fd RX6 49 6 6 := ⟨RX6, TX6, 13, rfl, Nat.le_of_ble_eq_true rfl, in_X6, mt_289⟩
theorem fd_X6_52 : mm_fd RX6 52 6 7 := ⟨RX6, TX6, 13, rfl, Nat.le_of_ble_eq_true rfl, in_X6, mt_290⟩
theorem fd_X6_55 : mm_fd RX6 55 6 8 := ⟨RX6, TX6, 13, rfl, Nat.le_of_ble_eq_true rfl, in_X6, mt_291⟩
theorem fd_X6_59 : mm_fd RX6 59 6 9 := ⟨RX6, TX6, 13, rfl, Nat.le_of_ble_eq_true rfl, in_X6, mt_292⟩
theorem fd_X6_356 : mm_fd RX6 356 6 10 := ⟨RX6, TX6, 13, rfl, Nat.le_of_ble_eq_true rfl, in_X6, mt_293⟩
theorem fd_X6_360 : mm_fd RX6 360 6 11 := ⟨RX6, TX6, 13, rfl, Nat.le_of_ble_eq_true rfl, in_X6, mt_294⟩
theorem fd_X6_265 : mm_fd RX6 265 6 12 := ⟨RX6, TX6, 13, rfl, Nat.le_of_ble_eq_true rfl, in_X6, mt_295⟩
theorem cn_J6_265 : Cond.constant RJ6 265 (1431655765 : Int32) ∈ mm_tb := mt_613
theorem cn_J6_266 : Cond.constant RJ6 266 (858993459 : Int32) ∈ mm_tb := mt_614
theorem cn_J6_267 : Cond.constant RJ6 267 (252645135 : Int32) ∈ mm_tb := mt_615
theorem cn_X6_225 : Cond.constantLong RX6 225 (-9223372036854775806 : Int64) ∈ mm_tb := mt_667
theorem cn_X5_69 : Cond.constant RX5 69 (1103515245 : Int32) ∈ mm_tb := mt_686
theorem cn_X6_247 : Cond.constant RX6 247 (-2147483648 : Int32) ∈ mm_tb := mt_715
theorem cn_X6_268 : Cond.constantLong RX6 268 (17 : Int64) ∈ mm_tb := mt_738
theorem cn_X6_270 : Cond.constantLong RX6 270 (31 : Int64) ∈ mm_tb := mt_739
theorem fs_X6_315 : Cond.fieldLink RX6 315 "WordsLent" "DIGEST_DAYS" "[I" ∈ mm_tb := mt_748
theorem fd_X7_7 : mm_fd RX7 7 7 0 := ⟨RX7, TX7, 31, rfl, Nat.le_of_ble_eq_true rfl, in_X7, mt_777⟩
theorem fd_X7_13 : mm_fd RX7 13 7 1 := ⟨RX7, TX7, 31, rfl, Nat.le_of_ble_eq_true rfl, in_X7, mt_778⟩
theorem fd_X7_16 : mm_fd RX7 16 7 2 := ⟨RX7, TX7, 31, rfl, Nat.le_of_ble_eq_true rfl, in_X7, mt_779⟩
theorem fd_X7_19 : mm_fd RX7 19 7 3 := ⟨RX7, TX7, 31, rfl, Nat.le_of_ble_eq_true rfl, in_X7, mt_780⟩
theorem fd_X7_80 : mm_fd RX7 80 7 4 := ⟨RX7, TX7, 31, rfl, Nat.le_of_ble_eq_true rfl, in_X7, mt_781⟩
theorem fd_X7_22 : mm_fd RX7 22 7 5 := ⟨RX7, TX7, 31, rfl, Nat.le_of_ble_eq_true rfl, in_X7, mt_782⟩
theorem fd_X7_25 : mm_fd RX7 25 7 6 := ⟨RX7, TX7, 31, rfl, Nat.le_of_ble_eq_true rfl, in_X7, mt_783⟩
theorem fd_X7_116 : mm_fd RX7 116 7 7 := ⟨RX7, TX7, 31, rfl, Nat.le_of_ble_eq_true rfl, in_X7, mt_784⟩
theorem fd_X7_28 : mm_fd RX7 28 7 8 := ⟨RX7, TX7, 31, rfl, Nat.le_of_ble_eq_true rfl, in_X7, mt_785⟩
theorem fd_X7_125 : mm_fd RX7 125 7 9 := ⟨RX7, TX7, 31, rfl, Nat.le_of_ble_eq_true rfl, in_X7, mt_786⟩
theorem fd_X7_31 : mm_fd RX7 31 7 10 := ⟨RX7, TX7, 31, rfl, Nat.le_of_ble_eq_true rfl, in_X7, mt_787⟩
theorem fd_X7_131 : mm_fd RX7 131 7 11 := ⟨RX7, TX7, 31, rfl, Nat.le_of_ble_eq_true rfl, in_X7, mt_788⟩
theorem fd_X7_34 : mm_fd RX7 34 7 12 := ⟨RX7, TX7, 31, rfl, Nat.le_of_ble_eq_true rfl, in_X7, mt_789⟩
theorem fd_X7_171 : mm_fd RX7 171 7 13 := ⟨RX7, TX7, 31, rfl, Nat.le_of_ble_eq_true rfl, in_X7, mt_790⟩
theorem fd_X7_37 : mm_fd RX7 37 7 14 := ⟨RX7, TX7, 31, rfl, Nat.le_of_ble_eq_true rfl, in_X7, mt_791⟩
theorem fd_X7_176 : mm_fd RX7 176 7 15 := ⟨RX7, TX7, 31, rfl, Nat.le_of_ble_eq_true rfl, in_X7, mt_792⟩
theorem fd_X7_70 : mm_fd RX7 70 7 16 := ⟨RX7, TX7, 31, rfl, Nat.le_of_ble_eq_true rfl, in_X7, mt_793⟩
theorem fd_X7_205 : mm_fd RX7 205 7 17 := ⟨RX7, TX7, 31, rfl, Nat.le_of_ble_eq_true rfl, in_X7, mt_794⟩
theorem fd_X7_208 : mm_fd RX7 208 7 18 := ⟨RX7, TX7, 31, rfl, Nat.le_of_ble_eq_true rfl, in_X7, mt_795⟩
theorem fd_X7_40 : mm_fd RX7 40 7 19 := ⟨RX7, TX7, 31, rfl, Nat.le_of_ble_eq_true rfl, in_X7, mt_796⟩
theorem fd_X7_43 : mm_fd RX7 43 7 20 := ⟨RX7, TX7, 31, rfl, Nat.le_of_ble_eq_true rfl, in_X7, mt_797⟩
theorem fd_X7_46 : mm_fd RX7 46 7 21 := ⟨RX7, TX7, 31, rfl, Nat.le_of_ble_eq_true rfl, in_X7, mt_798⟩
theorem fd_X7_49 : mm_fd RX7 49 7 22 := ⟨RX7, TX7, 31, rfl, Nat.le_of_ble_eq_true rfl, in_X7, mt_799⟩
theorem fd_X7_52 : mm_fd RX7 52 7 23 := ⟨RX7, TX7, 31, rfl, Nat.le_of_ble_eq_true rfl, in_X7, mt_800⟩
theorem fd_X7_55 : mm_fd RX7 55 7 24 := ⟨RX7, TX7, 31, rfl, Nat.le_of_ble_eq_true rfl, in_X7, mt_801⟩
theorem fd_X7_58 : mm_fd RX7 58 7 25 := ⟨RX7, TX7, 31, rfl, Nat.le_of_ble_eq_true rfl, in_X7, mt_802⟩
theorem fd_X7_61 : mm_fd RX7 61 7 26 := ⟨RX7, TX7, 31, rfl, Nat.le_of_ble_eq_true rfl, in_X7, mt_803⟩
theorem fd_X7_279 : mm_fd RX7 279 7 27 := ⟨RX7, TX7, 31, rfl, Nat.le_of_ble_eq_true rfl, in_X7, mt_804⟩
theorem fd_X7_64 : mm_fd RX7 64 7 28 := ⟨RX7, TX7, 31, rfl, Nat.le_of_ble_eq_true rfl, in_X7, mt_805⟩
theorem fd_X7_67 : mm_fd RX7 67 7 29 := ⟨RX7, TX7, 31, rfl, Nat.le_of_ble_eq_true rfl, in_X7, mt_806⟩
theorem fd_X7_316 : mm_fd RX7 316 7 30 := ⟨RX7, TX7, 31, rfl, Nat.le_of_ble_eq_true rfl, in_X7, mt_807⟩
theorem cn_X7_83 : Cond.constantLong RX7 83 (3 : Int64) ∈ mm_tb := mt_878
theorem cn_X7_89 : Cond.constantLong RX7 89 (2 : Int64) ∈ mm_tb := mt_882
theorem cn_X7_103 : Cond.constant RX7 103 (-2147483648 : Int32) ∈ mm_tb := mt_906
theorem cn_X7_107 : Cond.constantLong RX7 107 (255 : Int64) ∈ mm_tb := mt_918
theorem cn_X7_109 : Cond.constantLong RX7 109 (97 : Int64) ∈ mm_tb := mt_945
theorem cn_X7_111 : Cond.constantLong RX7 111 (120 : Int64) ∈ mm_tb := mt_946
theorem cn_X7_161 : Cond.constantLong RX7 161 (11 : Int64) ∈ mm_tb := mt_987
theorem cn_X7_150 : Cond.constantLong RX7 150 (23 : Int64) ∈ mm_tb := mt_999
theorem cn_X7_169 : Cond.constantLong RX7 169 (7 : Int64) ∈ mm_tb := mt_1000
theorem cn_X7_272 : Cond.constantLong RX7 272 (-1 : Int64) ∈ mm_tb := mt_1155
theorem cn_X7_277 : Cond.constantLong RX7 277 (9 : Int64) ∈ mm_tb := mt_1168
theorem cn_X7_305 : Cond.constantLong RX7 305 (16 : Int64) ∈ mm_tb := mt_1217
theorem cn_X7_74 : Cond.constantLong RX7 74 (-9223372036854775808 : Int64) ∈ mm_tb := mt_1228
theorem cn_X7_322 : Cond.constantLong RX7 322 (12 : Int64) ∈ mm_tb := mt_1233
theorem cn_X7_315 : Cond.constant RX7 315 (1103515245 : Int32) ∈ mm_tb := mt_1242
theorem cn_X7_333 : Cond.constantLong RX7 333 (17 : Int64) ∈ mm_tb := mt_1255
theorem cn_X7_327 : Cond.constantLong RX7 327 (31 : Int64) ∈ mm_tb := mt_1256
theorem ms_X6_66 : mm_sS RX6 66 yX6_isOutside cX6_isOutside 2 (some .boolean) 2 := ⟨mt_327, mt_328, mt_69, mt_329, ⟨by decide +kernel, by decide +kernel, by decide +kernel⟩, Nat.le_of_ble_eq_true rfl⟩
theorem ms_X6_70 : mm_sV RX6 70 yX4_isFull cX4_isFull 1 (some .boolean) 0 := ⟨mt_330, mt_331, mt_332, mt_74, mt_333, ⟨by decide +kernel, by decide +kernel, by decide +kernel⟩, Nat.le_of_ble_eq_true rfl⟩
theorem ms_X6_74 : mm_sV RX6 74 yX4_append cX4_append 2 none 1 := ⟨mt_334, mt_335, mt_336, mt_74, mt_337, ⟨by decide +kernel, by decide +kernel, by decide +kernel⟩, Nat.le_of_ble_eq_true rfl⟩
theorem ms_X4_28 : mm_sV RX4 28 yX4_isFull cX4_isFull 1 (some .boolean) 0 := ⟨mt_338, mt_331, mt_332, mt_74, mt_333, ⟨by decide +kernel, by decide +kernel, by decide +kernel⟩, Nat.le_of_ble_eq_true rfl⟩
theorem ms_X4_32 : mm_sV RX4 32 yX4_meaning cX4_meaning 3 (some .int) 2 := ⟨mt_339, mt_341, mt_0, mt_74, mt_342, ⟨by decide +kernel, by decide +kernel, by decide +kernel⟩, Nat.le_of_ble_eq_true rfl⟩
theorem ms_X4_44 : mm_sS RX4 44 yX4_sortOf cX4_sortOf 1 (some .int) 1 := ⟨mt_343, mt_344, mt_74, mt_345, ⟨by decide +kernel, by decide +kernel, by decide +kernel⟩, Nat.le_of_ble_eq_true rfl⟩
theorem ms_X4_48 : mm_sS RX4 48 yX4_within cX4_within 4 (some .int) 4 := ⟨mt_346, mt_347, mt_74, mt_348, ⟨by decide +kernel, by decide +kernel, by decide +kernel⟩, Nat.le_of_ble_eq_true rfl⟩
theorem ms_X6_77 : mm_sV RX6 77 yX6_tellAgain cX6_tellAgain 2 none 1 := ⟨mt_349, mt_351, mt_1, mt_69, mt_352, ⟨by decide +kernel, by decide +kernel, by decide +kernel⟩, Nat.le_of_ble_eq_true rfl⟩
theorem ms_X6_346 : mm_sV RX6 346 yX5_readPeople cX5_readPeople 3 none 1 := ⟨mt_353, mt_354, mt_355, mt_72, mt_356, ⟨by decide +kernel, by decide +kernel, by decide +kernel⟩, Nat.le_of_ble_eq_true rfl⟩
theorem ms_X5_36 : mm_sV RX5 36 yX4_things cX4_things 1 (some .int) 0 := ⟨mt_357, mt_358, mt_359, mt_74, mt_360, ⟨by decide +kernel, by decide +kernel, by decide +kernel⟩, Nat.le_of_ble_eq_true rfl⟩
theorem ms_X4_36 : mm_sV RX4 36 yX4_faultPlace cX4_faultPlace 1 (some .int) 0 := ⟨mt_361, mt_362, mt_363, mt_74, mt_364, ⟨by decide +kernel, by decide +kernel, by decide +kernel⟩, Nat.le_of_ble_eq_true rfl⟩
theorem cs_X5_42 : Cond.methodLink RX5 42 Lib.Math.min.name ∈ mm_tb := mt_365
theorem ms_X5_52 : mm_sV RX5 52 yX4_valueOf cX4_valueOf 4 (some .int) 2 := ⟨mt_368, mt_369, mt_370, mt_74, mt_371, ⟨by decide +kernel, by decide +kernel, by decide +kernel⟩, Nat.le_of_ble_eq_true rfl⟩
theorem ms_X4_40 : mm_sSN RX4 40 yX6_isOutside cX6_isOutside 2 (some .boolean) 2 := ⟨⟨"WordsLent", mt_372⟩, mt_328, mt_69, mt_329, ⟨by decide +kernel, by decide +kernel, by decide +kernel⟩, Nat.le_of_ble_eq_true rfl⟩
theorem ms_X6_350 : mm_sV RX6 350 yX5_readWords cX5_readWords 3 none 1 := ⟨mt_373, mt_374, mt_375, mt_72, mt_376, ⟨by decide +kernel, by decide +kernel, by decide +kernel⟩, Nat.le_of_ble_eq_true rfl⟩
theorem ms_X6_353 : mm_sV RX6 353 yX5_readMeetings cX5_readMeetings 4 none 1 := ⟨mt_377, mt_378, mt_379, mt_72, mt_380, ⟨by decide +kernel, by decide +kernel, by decide +kernel⟩, Nat.le_of_ble_eq_true rfl⟩
theorem ms_X5_61 : mm_sV RX5 61 yX5_addMeeting cX5_addMeeting 4 none 3 := ⟨mt_381, mt_382, mt_383, mt_72, mt_384, ⟨by decide +kernel, by decide +kernel, by decide +kernel⟩, Nat.le_of_ble_eq_true rfl⟩
theorem ms_X6_131 : mm_sV RX6 131 yX6_courseChanged cX6_courseChanged 1 none 0 := ⟨mt_385, mt_387, mt_2, mt_69, mt_388, ⟨by decide +kernel, by decide +kernel, by decide +kernel⟩, Nat.le_of_ble_eq_true rfl⟩
theorem ms_X6_80 : mm_sV RX6 80 yX4_size cX4_size 1 (some .int) 0 := ⟨mt_389, mt_390, mt_391, mt_74, mt_392, ⟨by decide +kernel, by decide +kernel, by decide +kernel⟩, Nat.le_of_ble_eq_true rfl⟩
theorem ms_X6_84 : mm_sV RX6 84 yX4_cutTo cX4_cutTo 2 none 1 := ⟨mt_397, mt_398, mt_399, mt_74, mt_400, ⟨by decide +kernel, by decide +kernel, by decide +kernel⟩, Nat.le_of_ble_eq_true rfl⟩
theorem ms_X6_87 : mm_sV RX6 87 yX4_faultPlace cX4_faultPlace 1 (some .int) 0 := ⟨mt_409, mt_362, mt_363, mt_74, mt_364, ⟨by decide +kernel, by decide +kernel, by decide +kernel⟩, Nat.le_of_ble_eq_true rfl⟩
theorem ms_X6_124 : mm_sS RX6 124 yX2_mayBe cX2_mayBe 2 (some .boolean) 2 := ⟨mt_426, mt_427, mt_70, mt_428, ⟨by decide +kernel, by decide +kernel, by decide +kernel⟩, Nat.le_of_ble_eq_true rfl⟩
theorem ms_X2_18 : mm_sSN RX2 18 yX6_isOutside cX6_isOutside 2 (some .boolean) 2 := ⟨⟨"WordsLent", mt_429⟩, mt_328, mt_69, mt_329, ⟨by decide +kernel, by decide +kernel, by decide +kernel⟩, Nat.le_of_ble_eq_true rfl⟩
theorem ms_X6_127 : mm_sV RX6 127 yX2_isFull cX2_isFull 1 (some .boolean) 0 := ⟨mt_430, mt_431, mt_432, mt_70, mt_433, ⟨by decide +kernel, by decide +kernel, by decide +kernel⟩, Nat.le_of_ble_eq_true rfl⟩
theorem ms_X6_128 : mm_sV RX6 128 yX2_append cX2_append 3 none 2 := ⟨mt_434, mt_435, mt_436, mt_70, mt_437, ⟨by decide +kernel, by decide +kernel, by decide +kernel⟩, Nat.le_of_ble_eq_true rfl⟩
theorem ms_X2_26 : mm_sV RX2 26 yX2_isFull cX2_isFull 1 (some .boolean) 0 := ⟨mt_438, mt_431, mt_432, mt_70, mt_433, ⟨by decide +kernel, by decide +kernel, by decide +kernel⟩, Nat.le_of_ble_eq_true rfl⟩
theorem ms_X6_137 : mm_sV RX6 137 yX3_isLost cX3_isLost 1 (some .boolean) 0 := ⟨mt_447, mt_448, mt_449, mt_75, mt_450, ⟨by decide +kernel, by decide +kernel, by decide +kernel⟩, Nat.le_of_ble_eq_true rfl⟩
theorem ms_X6_140 : mm_sV RX6 140 yX6_finding cX6_finding 2 (some .int) 1 := ⟨mt_451, mt_453, mt_3, mt_69, mt_454, ⟨by decide +kernel, by decide +kernel, by decide +kernel⟩, Nat.le_of_ble_eq_true rfl⟩
theorem ms_X6_149 : mm_sV RX6 149 yX6_learnCourse cX6_learnCourse 1 none 0 := ⟨mt_459, mt_461, mt_4, mt_69, mt_462, ⟨by decide +kernel, by decide +kernel, by decide +kernel⟩, Nat.le_of_ble_eq_true rfl⟩
theorem ms_X6_185 : mm_sV RX6 185 yX2_all cX2_all 1 (some .int) 0 := ⟨mt_463, mt_464, mt_465, mt_70, mt_466, ⟨by decide +kernel, by decide +kernel, by decide +kernel⟩, Nat.le_of_ble_eq_true rfl⟩
theorem ms_X6_188 : mm_sV RX6 188 yX1_run cX1_run 5 none 3 := ⟨mt_467, mt_468, mt_469, mt_73, mt_470, ⟨by decide +kernel, by decide +kernel, by decide +kernel⟩, Nat.le_of_ble_eq_true rfl⟩
theorem ms_X1_48 : mm_sV RX1 48 yX1_beginWords cX1_beginWords 3 none 1 := ⟨mt_471, mt_473, mt_5, mt_73, mt_474, ⟨by decide +kernel, by decide +kernel, by decide +kernel⟩, Nat.le_of_ble_eq_true rfl⟩
theorem ms_X1_91 : mm_sV RX1 91 yX5_areTwo cX5_areTwo 3 (some .boolean) 2 := ⟨mt_475, mt_476, mt_477, mt_72, mt_478, ⟨by decide +kernel, by decide +kernel, by decide +kernel⟩, Nat.le_of_ble_eq_true rfl⟩
theorem ms_X1_52 : mm_sV RX1 52 yX1_beginPeople cX1_beginPeople 3 none 1 := ⟨mt_479, mt_481, mt_6, mt_73, mt_482, ⟨by decide +kernel, by decide +kernel, by decide +kernel⟩, Nat.le_of_ble_eq_true rfl⟩
theorem ms_X1_55 : mm_sV RX1 55 yX1_beginDays cX1_beginDays 5 none 3 := ⟨mt_483, mt_485, mt_7, mt_73, mt_486, ⟨by decide +kernel, by decide +kernel, by decide +kernel⟩, Nat.le_of_ble_eq_true rfl⟩
theorem ms_X1_59 : mm_sV RX1 59 yX1_growDebts cX1_growDebts 4 none 1 := ⟨mt_487, mt_489, mt_8, mt_73, mt_490, ⟨by decide +kernel, by decide +kernel, by decide +kernel⟩, Nat.le_of_ble_eq_true rfl⟩
theorem cs_X1_122 : Cond.methodLink RX1 122 Lib.Math.min.name ∈ mm_tb := mt_491
theorem ms_X1_62 : mm_sV RX1 62 yX1_holdMeetings cX1_holdMeetings 7 none 2 := ⟨mt_492, mt_494, mt_9, mt_73, mt_495, ⟨by decide +kernel, by decide +kernel, by decide +kernel⟩, Nat.le_of_ble_eq_true rfl⟩
theorem ms_X1_134 : mm_sV RX1 134 yX1_leastOpen cX1_leastOpen 5 (some .int) 3 := ⟨mt_496, mt_498, mt_10, mt_73, mt_499, ⟨by decide +kernel, by decide +kernel, by decide +kernel⟩, Nat.le_of_ble_eq_true rfl⟩
theorem ms_X1_138 : mm_sV RX1 138 yX1_speak cX1_speak 5 none 4 := ⟨mt_500, mt_502, mt_11, mt_73, mt_503, ⟨by decide +kernel, by decide +kernel, by decide +kernel⟩, Nat.le_of_ble_eq_true rfl⟩
theorem ms_X1_66 : mm_sV RX1 66 yX1_bury cX1_bury 4 none 2 := ⟨mt_504, mt_506, mt_12, mt_73, mt_507, ⟨by decide +kernel, by decide +kernel, by decide +kernel⟩, Nat.le_of_ble_eq_true rfl⟩
theorem cs_X1_73 : Cond.methodLink RX1 73 arraycopyName ∈ mm_tb := mt_508
theorem ms_X6_152 : mm_sV RX6 152 yX1_stateBehind cX1_stateBehind 3 (some .int) 2 := ⟨mt_511, mt_512, mt_513, mt_73, mt_514, ⟨by decide +kernel, by decide +kernel, by decide +kernel⟩, Nat.le_of_ble_eq_true rfl⟩
theorem ms_X1_142 : mm_sSN RX1 142 yX6_isOutside cX6_isOutside 2 (some .boolean) 2 := ⟨⟨"WordsLent", mt_515⟩, mt_328, mt_69, mt_329, ⟨by decide +kernel, by decide +kernel, by decide +kernel⟩, Nat.le_of_ble_eq_true rfl⟩
theorem ms_X6_156 : mm_sV RX6 156 yX1_leftBehind cX1_leftBehind 3 (some .int) 2 := ⟨mt_516, mt_517, mt_518, mt_73, mt_519, ⟨by decide +kernel, by decide +kernel, by decide +kernel⟩, Nat.le_of_ble_eq_true rfl⟩
theorem ms_X6_159 : mm_sV RX6 159 yX1_openUses cX1_openUses 6 (some .int) 3 := ⟨mt_524, mt_525, mt_526, mt_73, mt_527, ⟨by decide +kernel, by decide +kernel, by decide +kernel⟩, Nat.le_of_ble_eq_true rfl⟩
theorem ms_X1_145 : mm_sV RX1 145 yX1_stateBehind cX1_stateBehind 3 (some .int) 2 := ⟨mt_528, mt_512, mt_513, mt_73, mt_514, ⟨by decide +kernel, by decide +kernel, by decide +kernel⟩, Nat.le_of_ble_eq_true rfl⟩
theorem ms_X1_148 : mm_sV RX1 148 yX1_leftBehind cX1_leftBehind 3 (some .int) 2 := ⟨mt_529, mt_517, mt_518, mt_73, mt_519, ⟨by decide +kernel, by decide +kernel, by decide +kernel⟩, Nat.le_of_ble_eq_true rfl⟩
theorem ms_X6_163 : mm_sV RX6 163 yX1_saidBehind cX1_saidBehind 3 (some .int) 2 := ⟨mt_530, mt_531, mt_532, mt_73, mt_533, ⟨by decide +kernel, by decide +kernel, by decide +kernel⟩, Nat.le_of_ble_eq_true rfl⟩
theorem ms_X6_166 : mm_sV RX6 166 yX1_owesNothing cX1_owesNothing 4 (some .boolean) 3 := ⟨mt_538, mt_539, mt_540, mt_73, mt_541, ⟨by decide +kernel, by decide +kernel, by decide +kernel⟩, Nat.le_of_ble_eq_true rfl⟩
theorem ms_X1_151 : mm_sV RX1 151 yX1_openUses cX1_openUses 6 (some .int) 3 := ⟨mt_542, mt_525, mt_526, mt_73, mt_527, ⟨by decide +kernel, by decide +kernel, by decide +kernel⟩, Nat.le_of_ble_eq_true rfl⟩
theorem ms_X1_155 : mm_sV RX1 155 yX1_hasLost cX1_hasLost 5 (some .boolean) 3 := ⟨mt_543, mt_544, mt_545, mt_73, mt_546, ⟨by decide +kernel, by decide +kernel, by decide +kernel⟩, Nat.le_of_ble_eq_true rfl⟩
theorem ms_X6_170 : mm_sV RX6 170 yX1_followDebts cX1_followDebts 4 none 2 := ⟨mt_555, mt_556, mt_557, mt_73, mt_558, ⟨by decide +kernel, by decide +kernel, by decide +kernel⟩, Nat.le_of_ble_eq_true rfl⟩
theorem ms_X6_174 : mm_sV RX6 174 yX1_stepsAround cX1_stepsAround 4 (some .int) 1 := ⟨mt_559, mt_560, mt_561, mt_73, mt_562, ⟨by decide +kernel, by decide +kernel, by decide +kernel⟩, Nat.le_of_ble_eq_true rfl⟩
theorem ms_X1_159 : mm_sV RX1 159 yX1_oneDebtOn cX1_oneDebtOn 4 (some .int) 1 := ⟨mt_563, mt_565, mt_13, mt_73, mt_566, ⟨by decide +kernel, by decide +kernel, by decide +kernel⟩, Nat.le_of_ble_eq_true rfl⟩
theorem ms_X6_177 : mm_sV RX6 177 yX5_becomeLike cX5_becomeLike 2 none 1 := ⟨mt_575, mt_576, mt_577, mt_72, mt_578, ⟨by decide +kernel, by decide +kernel, by decide +kernel⟩, Nat.le_of_ble_eq_true rfl⟩
theorem cs_X5_70 : Cond.methodLink RX5 70 arraycopyName ∈ mm_tb := mt_579
theorem ms_X6_181 : mm_sV RX6 181 yX5_addMeeting cX5_addMeeting 4 none 3 := ⟨mt_580, mt_382, mt_383, mt_72, mt_384, ⟨by decide +kernel, by decide +kernel, by decide +kernel⟩, Nat.le_of_ble_eq_true rfl⟩
theorem ms_X6_192 : mm_sV RX6 192 yX1_openOrLostUses cX1_openOrLostUses 4 (some .int) 0 := ⟨mt_581, mt_582, mt_583, mt_73, mt_584, ⟨by decide +kernel, by decide +kernel, by decide +kernel⟩, Nat.le_of_ble_eq_true rfl⟩
theorem ms_X6_195 : mm_sV RX6 195 yX1_hasLost cX1_hasLost 5 (some .boolean) 3 := ⟨mt_589, mt_544, mt_545, mt_73, mt_546, ⟨by decide +kernel, by decide +kernel, by decide +kernel⟩, Nat.le_of_ble_eq_true rfl⟩
theorem ms_X6_198 : mm_sV RX6 198 yX1_wordsThatAre cX1_wordsThatAre 4 (some .int) 1 := ⟨mt_594, mt_595, mt_596, mt_73, mt_597, ⟨by decide +kernel, by decide +kernel, by decide +kernel⟩, Nat.le_of_ble_eq_true rfl⟩
theorem ms_X6_201 : mm_sV RX6 201 yX6_sparedEchoes cX6_sparedEchoes 3 (some .int) 0 := ⟨mt_602, mt_604, mt_14, mt_69, mt_605, ⟨by decide +kernel, by decide +kernel, by decide +kernel⟩, Nat.le_of_ble_eq_true rfl⟩
theorem ms_X6_363 : mm_sV RX6 363 yX6_losesNothingWithout cX6_losesNothingWithout 2 (some .boolean) 1 := ⟨mt_606, mt_608, mt_15, mt_69, mt_609, ⟨by decide +kernel, by decide +kernel, by decide +kernel⟩, Nat.le_of_ble_eq_true rfl⟩
theorem ms_X6_204 : mm_sS RX6 204 yJ6_bitCount_0f7a4 cJ6_bitCount_0f7a4 1 (some .int) 1 := ⟨mt_610, mt_611, mt_79, mt_612, ⟨by decide +kernel, by decide +kernel, by decide +kernel⟩, Nat.le_of_ble_eq_true rfl⟩
theorem ms_X6_209 : mm_sS RX6 209 yX6_lowestBit cX6_lowestBit 2 (some .int) 1 := ⟨mt_616, mt_617, mt_69, mt_618, ⟨by decide +kernel, by decide +kernel, by decide +kernel⟩, Nat.le_of_ble_eq_true rfl⟩
theorem ms_X6_213 : mm_sV RX6 213 yX0_append cX0_append 4 none 3 := ⟨mt_623, mt_624, mt_625, mt_71, mt_626, ⟨by decide +kernel, by decide +kernel, by decide +kernel⟩, Nat.le_of_ble_eq_true rfl⟩
theorem ms_X6_215 : mm_sV RX6 215 yX0_comesOut cX0_comesOut 3 (some .boolean) 1 := ⟨mt_635, mt_636, mt_637, mt_71, mt_638, ⟨by decide +kernel, by decide +kernel, by decide +kernel⟩, Nat.le_of_ble_eq_true rfl⟩
theorem ms_X0_25 : mm_sV RX0 25 yX1_leftBehind cX1_leftBehind 3 (some .int) 2 := ⟨mt_639, mt_517, mt_518, mt_73, mt_519, ⟨by decide +kernel, by decide +kernel, by decide +kernel⟩, Nat.le_of_ble_eq_true rfl⟩
theorem ms_X6_219 : mm_sV RX6 219 yX6_sortByWhatIsLeft cX6_sortByWhatIsLeft 5 none 1 := ⟨mt_652, mt_654, mt_16, mt_69, mt_655, ⟨by decide +kernel, by decide +kernel, by decide +kernel⟩, Nat.le_of_ble_eq_true rfl⟩
theorem ms_X6_222 : mm_sV RX6 222 yX6_mostAlike cX6_mostAlike 4 (some .int) 1 := ⟨mt_656, mt_658, mt_17, mt_69, mt_659, ⟨by decide +kernel, by decide +kernel, by decide +kernel⟩, Nat.le_of_ble_eq_true rfl⟩
theorem cs_X6_367 : Cond.methodLink RX6 367 Lib.Math.max.name ∈ mm_tb := mt_660
theorem ms_X6_227 : mm_sV RX6 227 yX6_learnOdds cX6_learnOdds 4 none 0 := ⟨mt_668, mt_670, mt_18, mt_69, mt_671, ⟨by decide +kernel, by decide +kernel, by decide +kernel⟩, Nat.le_of_ble_eq_true rfl⟩
theorem ms_X6_230 : mm_sS RX6 230 yX6_power cX6_power 6 (some .long) 2 := ⟨mt_672, mt_673, mt_69, mt_674, ⟨by decide +kernel, by decide +kernel, by decide +kernel⟩, Nat.le_of_ble_eq_true rfl⟩
theorem ms_X6_234 : mm_sV RX6 234 yX5_drawMeetings cX5_drawMeetings 7 none 2 := ⟨mt_679, mt_680, mt_681, mt_72, mt_682, ⟨by decide +kernel, by decide +kernel, by decide +kernel⟩, Nat.le_of_ble_eq_true rfl⟩
theorem ms_X5_65 : mm_sS RX5 65 yX5_nextSeed cX5_nextSeed 1 (some .int) 1 := ⟨mt_683, mt_684, mt_72, mt_685, ⟨by decide +kernel, by decide +kernel, by decide +kernel⟩, Nat.le_of_ble_eq_true rfl⟩
theorem ms_X6_237 : mm_sV RX6 237 yX3_begin cX3_begin 4 none 2 := ⟨mt_691, mt_692, mt_693, mt_75, mt_694, ⟨by decide +kernel, by decide +kernel, by decide +kernel⟩, Nat.le_of_ble_eq_true rfl⟩
theorem ms_X6_240 : mm_sS RX6 240 yX6_whatIsAmiss cX6_whatIsAmiss 3 (some .int) 3 := ⟨mt_703, mt_704, mt_69, mt_705, ⟨by decide +kernel, by decide +kernel, by decide +kernel⟩, Nat.le_of_ble_eq_true rfl⟩
theorem ms_X6_244 : mm_sV RX6 244 yX3_put cX3_put 3 none 2 := ⟨mt_706, mt_707, mt_708, mt_75, mt_709, ⟨by decide +kernel, by decide +kernel, by decide +kernel⟩, Nat.le_of_ble_eq_true rfl⟩
theorem ms_X3_22 : mm_sSN RX3 22 yX6_isOutside cX6_isOutside 2 (some .boolean) 2 := ⟨⟨"WordsLent", mt_710⟩, mt_328, mt_69, mt_329, ⟨by decide +kernel, by decide +kernel, by decide +kernel⟩, Nat.le_of_ble_eq_true rfl⟩
theorem ms_X6_251 : mm_sV RX6 251 yX3_hasItems cX3_hasItems 3 (some .boolean) 2 := ⟨mt_720, mt_721, mt_722, mt_75, mt_723, ⟨by decide +kernel, by decide +kernel, by decide +kernel⟩, Nat.le_of_ble_eq_true rfl⟩
theorem cs_X6_254 : Cond.methodLink RX6 254 arraycopyName ∈ mm_tb := mt_724
theorem cs_X6_260 : Cond.methodLink RX6 260 Lib.Math.min.name ∈ mm_tb := mt_729
theorem ms_X6_272 : mm_sV RX6 272 yX6_count cX6_count 2 (some .int) 1 := ⟨mt_740, mt_731, mt_732, mt_69, mt_733, ⟨by decide +kernel, by decide +kernel, by decide +kernel⟩, Nat.le_of_ble_eq_true rfl⟩
theorem ms_X6_275 : mm_sV RX6 275 yX6_fault cX6_fault 2 (some .int) 1 := ⟨mt_741, mt_406, mt_407, mt_69, mt_408, ⟨by decide +kernel, by decide +kernel, by decide +kernel⟩, Nat.le_of_ble_eq_true rfl⟩
theorem ms_X6_278 : mm_sV RX6 278 yX6_meeting cX6_meeting 3 (some .int) 2 := ⟨mt_742, mt_419, mt_420, mt_69, mt_421, ⟨by decide +kernel, by decide +kernel, by decide +kernel⟩, Nat.le_of_ble_eq_true rfl⟩
theorem ms_X6_281 : mm_sV RX6 281 yX6_digestWord cX6_digestWord 10 (some .long) 2 := ⟨mt_743, mt_745, mt_19, mt_69, mt_746, ⟨by decide +kernel, by decide +kernel, by decide +kernel⟩, Nat.le_of_ble_eq_true rfl⟩
theorem ms_X6_312 : mm_sV RX6 312 yX6_word cX6_word 3 (some .int) 2 := ⟨mt_747, mt_415, mt_416, mt_69, mt_417, ⟨by decide +kernel, by decide +kernel, by decide +kernel⟩, Nat.le_of_ble_eq_true rfl⟩
theorem ms_X6_318 : mm_sV RX6 318 yX6_stands cX6_stands 4 (some .int) 3 := ⟨mt_750, mt_456, mt_457, mt_69, mt_458, ⟨by decide +kernel, by decide +kernel, by decide +kernel⟩, Nat.le_of_ble_eq_true rfl⟩
theorem ms_X6_321 : mm_sV RX6 321 yX6_lent cX6_lent 4 (some .int) 1 := ⟨mt_751, mt_645, mt_646, mt_69, mt_647, ⟨by decide +kernel, by decide +kernel, by decide +kernel⟩, Nat.le_of_ble_eq_true rfl⟩
theorem ms_X6_324 : mm_sV RX6 324 yX6_ask cX6_ask 6 (some .int) 1 := ⟨mt_752, mt_649, mt_650, mt_69, mt_651, ⟨by decide +kernel, by decide +kernel, by decide +kernel⟩, Nat.le_of_ble_eq_true rfl⟩
theorem ms_X6_327 : mm_sV RX6 327 yX6_chance cX6_chance 10 (some .long) 3 := ⟨mt_753, mt_664, mt_665, mt_69, mt_666, ⟨by decide +kernel, by decide +kernel, by decide +kernel⟩, Nat.le_of_ble_eq_true rfl⟩
theorem ms_X6_284 : mm_sV RX6 284 yX6_digestPerson cX6_digestPerson 7 (some .long) 2 := ⟨mt_754, mt_756, mt_20, mt_69, mt_757, ⟨by decide +kernel, by decide +kernel, by decide +kernel⟩, Nat.le_of_ble_eq_true rfl⟩
theorem ms_X6_331 : mm_sV RX6 331 yX6_person cX6_person 3 (some .int) 2 := ⟨mt_758, mt_411, mt_412, mt_69, mt_413, ⟨by decide +kernel, by decide +kernel, by decide +kernel⟩, Nat.le_of_ble_eq_true rfl⟩
theorem ms_X6_334 : mm_sV RX6 334 yX6_at cX6_at 4 (some .int) 3 := ⟨mt_759, mt_521, mt_522, mt_69, mt_523, ⟨by decide +kernel, by decide +kernel, by decide +kernel⟩, Nat.le_of_ble_eq_true rfl⟩
theorem ms_X6_337 : mm_sV RX6 337 yX6_clear cX6_clear 3 (some .int) 1 := ⟨mt_760, mt_535, mt_536, mt_69, mt_537, ⟨by decide +kernel, by decide +kernel, by decide +kernel⟩, Nat.le_of_ble_eq_true rfl⟩
theorem ms_X6_340 : mm_sV RX6 340 yX6_live cX6_live 3 (some .int) 1 := ⟨mt_761, mt_586, mt_587, mt_69, mt_588, ⟨by decide +kernel, by decide +kernel, by decide +kernel⟩, Nat.le_of_ble_eq_true rfl⟩
theorem ms_X6_343 : mm_sV RX6 343 yX6_sort cX6_sort 4 (some .int) 1 := ⟨mt_762, mt_641, mt_642, mt_69, mt_643, ⟨by decide +kernel, by decide +kernel, by decide +kernel⟩, Nat.le_of_ble_eq_true rfl⟩
theorem ms_X6_287 : mm_sV RX6 287 yX6_bank cX6_bank 6 (some .int) 1 := ⟨mt_763, mt_548, mt_549, mt_69, mt_550, ⟨by decide +kernel, by decide +kernel, by decide +kernel⟩, Nat.le_of_ble_eq_true rfl⟩
theorem ms_X6_290 : mm_sV RX6 290 yX6_ring cX6_ring 7 (some .int) 2 := ⟨mt_764, mt_552, mt_553, mt_69, mt_554, ⟨by decide +kernel, by decide +kernel, by decide +kernel⟩, Nat.le_of_ble_eq_true rfl⟩
theorem ms_X6_293 : mm_sV RX6 293 yX6_silent cX6_silent 3 (some .int) 0 := ⟨mt_765, mt_568, mt_569, mt_69, mt_570, ⟨by decide +kernel, by decide +kernel, by decide +kernel⟩, Nat.le_of_ble_eq_true rfl⟩
theorem ms_X6_296 : mm_sV RX6 296 yX6_meet cX6_meet 9 (some .int) 2 := ⟨mt_766, mt_572, mt_573, mt_69, mt_574, ⟨by decide +kernel, by decide +kernel, by decide +kernel⟩, Nat.le_of_ble_eq_true rfl⟩
theorem ms_X6_299 : mm_sV RX6 299 yX6_voice cX6_voice 6 (some .int) 1 := ⟨mt_767, mt_591, mt_592, mt_69, mt_593, ⟨by decide +kernel, by decide +kernel, by decide +kernel⟩, Nat.le_of_ble_eq_true rfl⟩
theorem ms_X6_302 : mm_sV RX6 302 yX6_spare cX6_spare 3 (some .int) 1 := ⟨mt_768, mt_599, mt_600, mt_69, mt_601, ⟨by decide +kernel, by decide +kernel, by decide +kernel⟩, Nat.le_of_ble_eq_true rfl⟩
theorem ms_X6_305 : mm_sV RX6 305 yX6_never cX6_never 3 (some .int) 0 := ⟨mt_769, mt_632, mt_633, mt_69, mt_634, ⟨by decide +kernel, by decide +kernel, by decide +kernel⟩, Nat.le_of_ble_eq_true rfl⟩
theorem ms_X6_308 : mm_sV RX6 308 yX6_lives cX6_lives 4 (some .int) 3 := ⟨mt_770, mt_676, mt_677, mt_69, mt_678, ⟨by decide +kernel, by decide +kernel, by decide +kernel⟩, Nat.le_of_ble_eq_true rfl⟩
theorem ms_X7_85 : mm_sS RX7 85 yX7_isSheet cX7_isSheet 1 (some .boolean) 1 := ⟨mt_875, mt_876, mt_76, mt_877, ⟨by decide +kernel, by decide +kernel, by decide +kernel⟩, Nat.le_of_ble_eq_true rfl⟩
theorem ms_X7_76 : mm_sS RX7 76 yX7_in cX7_in 6 (some .boolean) 3 := ⟨mt_879, mt_880, mt_76, mt_881, ⟨by decide +kernel, by decide +kernel, by decide +kernel⟩, Nat.le_of_ble_eq_true rfl⟩
theorem ms_X7_91 : mm_sV RX7 91 yX7_finds cX7_finds 2 (some .int) 1 := ⟨mt_883, mt_885, mt_21, mt_76, mt_886, ⟨by decide +kernel, by decide +kernel, by decide +kernel⟩, Nat.le_of_ble_eq_true rfl⟩
theorem ms_X7_95 : mm_sV RX7 95 yX7_lacks cX7_lacks 4 (some .int) 3 := ⟨mt_895, mt_897, mt_22, mt_76, mt_898, ⟨by decide +kernel, by decide +kernel, by decide +kernel⟩, Nat.le_of_ble_eq_true rfl⟩
theorem ms_X7_99 : mm_sS RX7 99 yX7_cut cX7_cut 2 (some .int) 2 := ⟨mt_899, mt_900, mt_76, mt_901, ⟨by decide +kernel, by decide +kernel, by decide +kernel⟩, Nat.le_of_ble_eq_true rfl⟩
theorem ms_X7_104 : mm_sS RX7 104 yX7_isText cX7_isText 1 (some .boolean) 1 := ⟨mt_915, mt_916, mt_76, mt_917, ⟨by decide +kernel, by decide +kernel, by decide +kernel⟩, Nat.le_of_ble_eq_true rfl⟩
theorem ms_X7_147 : mm_sV RX7 147 yX7_readsText cX7_readsText 2 (some .int) 1 := ⟨mt_931, mt_933, mt_23, mt_76, mt_934, ⟨by decide +kernel, by decide +kernel, by decide +kernel⟩, Nat.le_of_ble_eq_true rfl⟩
theorem ms_X7_137 : mm_sV RX7 137 yX7_readsPeople cX7_readsPeople 5 (some .int) 0 := ⟨mt_935, mt_937, mt_24, mt_76, mt_938, ⟨by decide +kernel, by decide +kernel, by decide +kernel⟩, Nat.le_of_ble_eq_true rfl⟩
theorem ms_X7_119 : mm_sS RX7 119 yX7_personOf cX7_personOf 2 (some .int) 2 := ⟨mt_939, mt_940, mt_76, mt_941, ⟨by decide +kernel, by decide +kernel, by decide +kernel⟩, Nat.le_of_ble_eq_true rfl⟩
theorem ms_X7_113 : mm_sS RX7 113 yX7_dayOf cX7_dayOf 1 (some .int) 1 := ⟨mt_942, mt_943, mt_76, mt_944, ⟨by decide +kernel, by decide +kernel, by decide +kernel⟩, Nat.le_of_ble_eq_true rfl⟩
theorem ms_X7_141 : mm_sV RX7 141 yX7_readsWords cX7_readsWords 5 (some .int) 0 := ⟨mt_947, mt_949, mt_25, mt_76, mt_950, ⟨by decide +kernel, by decide +kernel, by decide +kernel⟩, Nat.le_of_ble_eq_true rfl⟩
theorem ms_X7_128 : mm_sS RX7 128 yX7_wordOf cX7_wordOf 2 (some .int) 2 := ⟨mt_951, mt_952, mt_76, mt_953, ⟨by decide +kernel, by decide +kernel, by decide +kernel⟩, Nat.le_of_ble_eq_true rfl⟩
theorem ms_X7_122 : mm_sS RX7 122 yX7_figureOf cX7_figureOf 3 (some .int) 3 := ⟨mt_954, mt_955, mt_76, mt_956, ⟨by decide +kernel, by decide +kernel, by decide +kernel⟩, Nat.le_of_ble_eq_true rfl⟩
theorem ms_X7_144 : mm_sV RX7 144 yX7_readsMeetings cX7_readsMeetings 5 (some .int) 0 := ⟨mt_957, mt_959, mt_26, mt_76, mt_960, ⟨by decide +kernel, by decide +kernel, by decide +kernel⟩, Nat.le_of_ble_eq_true rfl⟩
theorem ms_X7_134 : mm_sS RX7 134 yX7_meetingOf cX7_meetingOf 2 (some .int) 2 := ⟨mt_961, mt_962, mt_76, mt_963, ⟨by decide +kernel, by decide +kernel, by decide +kernel⟩, Nat.le_of_ble_eq_true rfl⟩
theorem ms_X7_152 : mm_sV RX7 152 yX7_isPerson cX7_isPerson 2 (some .boolean) 1 := ⟨mt_968, mt_970, mt_27, mt_76, mt_971, ⟨by decide +kernel, by decide +kernel, by decide +kernel⟩, Nat.le_of_ble_eq_true rfl⟩
theorem ms_X7_155 : mm_sS RX7 155 yX7_isTwo cX7_isTwo 1 (some .boolean) 1 := ⟨mt_972, mt_973, mt_76, mt_974, ⟨by decide +kernel, by decide +kernel, by decide +kernel⟩, Nat.le_of_ble_eq_true rfl⟩
theorem ms_X7_158 : mm_sV RX7 158 yX7_isWord cX7_isWord 2 (some .boolean) 1 := ⟨mt_979, mt_981, mt_28, mt_76, mt_982, ⟨by decide +kernel, by decide +kernel, by decide +kernel⟩, Nat.le_of_ble_eq_true rfl⟩
theorem ms_X7_163 : mm_sV RX7 163 yX7_meetingBy cX7_meetingBy 3 (some .int) 2 := ⟨mt_988, mt_990, mt_29, mt_76, mt_991, ⟨by decide +kernel, by decide +kernel, by decide +kernel⟩, Nat.le_of_ble_eq_true rfl⟩
theorem ms_X7_166 : mm_sS RX7 166 yX7_isDay cX7_isDay 1 (some .boolean) 1 := ⟨mt_996, mt_997, mt_76, mt_998, ⟨by decide +kernel, by decide +kernel, by decide +kernel⟩, Nat.le_of_ble_eq_true rfl⟩
theorem ms_X7_174 : mm_sV RX7 174 yX7_echo cX7_echo 3 (some .int) 2 := ⟨mt_1009, mt_993, mt_994, mt_76, mt_995, ⟨by decide +kernel, by decide +kernel, by decide +kernel⟩, Nat.le_of_ble_eq_true rfl⟩
theorem ms_X7_221 : mm_sV RX7 221 yX7_find cX7_find 1 none 0 := ⟨mt_1014, mt_1016, mt_30, mt_76, mt_1017, ⟨by decide +kernel, by decide +kernel, by decide +kernel⟩, Nat.le_of_ble_eq_true rfl⟩
theorem ms_X7_218 : mm_sV RX7 218 yX7_runs cX7_runs 3 none 0 := ⟨mt_1018, mt_1020, mt_31, mt_76, mt_1021, ⟨by decide +kernel, by decide +kernel, by decide +kernel⟩, Nat.le_of_ble_eq_true rfl⟩
theorem ms_X7_215 : mm_sV RX7 215 yX7_passes cX7_passes 3 none 1 := ⟨mt_1022, mt_1024, mt_32, mt_76, mt_1025, ⟨by decide +kernel, by decide +kernel, by decide +kernel⟩, Nat.le_of_ble_eq_true rfl⟩
theorem ms_X7_199 : mm_sV RX7 199 yX7_grows cX7_grows 2 none 0 := ⟨mt_1026, mt_1028, mt_33, mt_76, mt_1029, ⟨by decide +kernel, by decide +kernel, by decide +kernel⟩, Nat.le_of_ble_eq_true rfl⟩
theorem ms_X7_183 : mm_sS RX7 183 yX7_lesser cX7_lesser 2 (some .int) 2 := ⟨mt_1030, mt_1031, mt_76, mt_1032, ⟨by decide +kernel, by decide +kernel, by decide +kernel⟩, Nat.le_of_ble_eq_true rfl⟩
theorem ms_X7_202 : mm_sV RX7 202 yX7_talk cX7_talk 4 none 3 := ⟨mt_1033, mt_1035, mt_34, mt_76, mt_1036, ⟨by decide +kernel, by decide +kernel, by decide +kernel⟩, Nat.le_of_ble_eq_true rfl⟩
theorem ms_X7_192 : mm_sV RX7 192 yX7_isDead cX7_isDead 3 (some .boolean) 2 := ⟨mt_1037, mt_1039, mt_35, mt_76, mt_1040, ⟨by decide +kernel, by decide +kernel, by decide +kernel⟩, Nat.le_of_ble_eq_true rfl⟩
theorem ms_X7_195 : mm_sV RX7 195 yX7_says cX7_says 6 none 3 := ⟨mt_1041, mt_1043, mt_36, mt_76, mt_1044, ⟨by decide +kernel, by decide +kernel, by decide +kernel⟩, Nat.le_of_ble_eq_true rfl⟩
theorem ms_X7_186 : mm_sV RX7 186 yX7_isEcho cX7_isEcho 5 (some .boolean) 2 := ⟨mt_1045, mt_1047, mt_37, mt_76, mt_1048, ⟨by decide +kernel, by decide +kernel, by decide +kernel⟩, Nat.le_of_ble_eq_true rfl⟩
theorem ms_X7_179 : mm_sS RX7 179 yX7_isIn cX7_isIn 2 (some .boolean) 2 := ⟨mt_1049, mt_1050, mt_76, mt_1051, ⟨by decide +kernel, by decide +kernel, by decide +kernel⟩, Nat.le_of_ble_eq_true rfl⟩
theorem ms_X7_189 : mm_sS RX7 189 yX7_greater cX7_greater 2 (some .int) 2 := ⟨mt_1052, mt_1053, mt_76, mt_1054, ⟨by decide +kernel, by decide +kernel, by decide +kernel⟩, Nat.le_of_ble_eq_true rfl⟩
theorem ms_X7_211 : mm_sV RX7 211 yX7_dies cX7_dies 5 none 1 := ⟨mt_1055, mt_1057, mt_38, mt_76, mt_1058, ⟨by decide +kernel, by decide +kernel, by decide +kernel⟩, Nat.le_of_ble_eq_true rfl⟩
theorem ms_X7_224 : mm_sV RX7 224 yX7_standsBy cX7_standsBy 4 (some .int) 3 := ⟨mt_1059, mt_1061, mt_39, mt_76, mt_1062, ⟨by decide +kernel, by decide +kernel, by decide +kernel⟩, Nat.le_of_ble_eq_true rfl⟩
theorem ms_X7_230 : mm_sV RX7 230 yX7_atOf cX7_atOf 4 (some .int) 3 := ⟨mt_1067, mt_1069, mt_40, mt_76, mt_1070, ⟨by decide +kernel, by decide +kernel, by decide +kernel⟩, Nat.le_of_ble_eq_true rfl⟩
theorem ms_X7_227 : mm_sV RX7 227 yX7_openOf cX7_openOf 6 (some .int) 3 := ⟨mt_1071, mt_1073, mt_41, mt_76, mt_1074, ⟨by decide +kernel, by decide +kernel, by decide +kernel⟩, Nat.le_of_ble_eq_true rfl⟩
theorem ms_X7_236 : mm_sV RX7 236 yX7_clearOf cX7_clearOf 4 (some .int) 1 := ⟨mt_1079, mt_1081, mt_42, mt_76, mt_1082, ⟨by decide +kernel, by decide +kernel, by decide +kernel⟩, Nat.le_of_ble_eq_true rfl⟩
theorem ms_X7_233 : mm_sV RX7 233 yX7_isLost cX7_isLost 5 (some .boolean) 2 := ⟨mt_1083, mt_1085, mt_43, mt_76, mt_1086, ⟨by decide +kernel, by decide +kernel, by decide +kernel⟩, Nat.le_of_ble_eq_true rfl⟩
theorem ms_X7_239 : mm_sV RX7 239 yX7_bankOf cX7_bankOf 6 (some .int) 1 := ⟨mt_1091, mt_1093, mt_44, mt_76, mt_1094, ⟨by decide +kernel, by decide +kernel, by decide +kernel⟩, Nat.le_of_ble_eq_true rfl⟩
theorem ms_X7_248 : mm_sV RX7 248 yX7_ringOf cX7_ringOf 7 (some .int) 2 := ⟨mt_1099, mt_1101, mt_45, mt_76, mt_1102, ⟨by decide +kernel, by decide +kernel, by decide +kernel⟩, Nat.le_of_ble_eq_true rfl⟩
theorem ms_X7_242 : mm_sV RX7 242 yX7_debts cX7_debts 3 none 1 := ⟨mt_1103, mt_1105, mt_46, mt_76, mt_1106, ⟨by decide +kernel, by decide +kernel, by decide +kernel⟩, Nat.le_of_ble_eq_true rfl⟩
theorem ms_X7_245 : mm_sV RX7 245 yX7_ringWith cX7_ringWith 6 (some .int) 1 := ⟨mt_1107, mt_1109, mt_47, mt_76, mt_1110, ⟨by decide +kernel, by decide +kernel, by decide +kernel⟩, Nat.le_of_ble_eq_true rfl⟩
theorem ms_X7_251 : mm_sV RX7 251 yX7_silentNow cX7_silentNow 3 (some .int) 0 := ⟨mt_1115, mt_1117, mt_48, mt_76, mt_1118, ⟨by decide +kernel, by decide +kernel, by decide +kernel⟩, Nat.le_of_ble_eq_true rfl⟩
theorem ms_X7_257 : mm_sV RX7 257 yX7_meetOf cX7_meetOf 7 (some .int) 2 := ⟨mt_1123, mt_1125, mt_49, mt_76, mt_1126, ⟨by decide +kernel, by decide +kernel, by decide +kernel⟩, Nat.le_of_ble_eq_true rfl⟩
theorem ms_X7_254 : mm_sV RX7 254 yX7_owedYet cX7_owedYet 3 (some .int) 0 := ⟨mt_1127, mt_1129, mt_50, mt_76, mt_1130, ⟨by decide +kernel, by decide +kernel, by decide +kernel⟩, Nat.le_of_ble_eq_true rfl⟩
theorem ms_X7_260 : mm_sV RX7 260 yX7_liveOf cX7_liveOf 5 (some .int) 1 := ⟨mt_1135, mt_1137, mt_51, mt_76, mt_1138, ⟨by decide +kernel, by decide +kernel, by decide +kernel⟩, Nat.le_of_ble_eq_true rfl⟩
theorem ms_X7_266 : mm_sV RX7 266 yX7_voiceBy cX7_voiceBy 7 (some .int) 1 := ⟨mt_1143, mt_1145, mt_52, mt_76, mt_1146, ⟨by decide +kernel, by decide +kernel, by decide +kernel⟩, Nat.le_of_ble_eq_true rfl⟩
theorem ms_X7_263 : mm_sV RX7 263 yX7_many cX7_many 4 (some .int) 1 := ⟨mt_1147, mt_1149, mt_53, mt_76, mt_1150, ⟨by decide +kernel, by decide +kernel, by decide +kernel⟩, Nat.le_of_ble_eq_true rfl⟩
theorem ms_X7_274 : mm_sV RX7 274 yX7_spareBy cX7_spareBy 4 (some .int) 1 := ⟨mt_1156, mt_1158, mt_54, mt_76, mt_1159, ⟨by decide +kernel, by decide +kernel, by decide +kernel⟩, Nat.le_of_ble_eq_true rfl⟩
theorem ms_X7_269 : mm_sV RX7 269 yX7_isSpared cX7_isSpared 2 (some .boolean) 1 := ⟨mt_1160, mt_1162, mt_55, mt_76, mt_1163, ⟨by decide +kernel, by decide +kernel, by decide +kernel⟩, Nat.le_of_ble_eq_true rfl⟩
theorem ms_X7_286 : mm_sV RX7 286 yX7_neverNow cX7_neverNow 3 (some .int) 0 := ⟨mt_1177, mt_1179, mt_56, mt_76, mt_1180, ⟨by decide +kernel, by decide +kernel, by decide +kernel⟩, Nat.le_of_ble_eq_true rfl⟩
theorem ms_X7_282 : mm_sV RX7 282 yX7_isCounted cX7_isCounted 4 (some .boolean) 0 := ⟨mt_1181, mt_1183, mt_57, mt_76, mt_1184, ⟨by decide +kernel, by decide +kernel, by decide +kernel⟩, Nat.le_of_ble_eq_true rfl⟩
theorem ms_X7_289 : mm_sV RX7 289 yX7_sortOf cX7_sortOf 5 (some .int) 1 := ⟨mt_1189, mt_1191, mt_58, mt_76, mt_1192, ⟨by decide +kernel, by decide +kernel, by decide +kernel⟩, Nat.le_of_ble_eq_true rfl⟩
theorem ms_X7_292 : mm_sV RX7 292 yX7_lentOf cX7_lentOf 6 (some .int) 1 := ⟨mt_1197, mt_1199, mt_59, mt_76, mt_1200, ⟨by decide +kernel, by decide +kernel, by decide +kernel⟩, Nat.le_of_ble_eq_true rfl⟩
theorem ms_X7_298 : mm_sV RX7 298 yX7_askOf cX7_askOf 5 (some .int) 1 := ⟨mt_1205, mt_1207, mt_60, mt_76, mt_1208, ⟨by decide +kernel, by decide +kernel, by decide +kernel⟩, Nat.le_of_ble_eq_true rfl⟩
theorem ms_X7_295 : mm_sV RX7 295 yX7_alike cX7_alike 7 (some .int) 2 := ⟨mt_1209, mt_1211, mt_61, mt_76, mt_1212, ⟨by decide +kernel, by decide +kernel, by decide +kernel⟩, Nat.le_of_ble_eq_true rfl⟩
theorem ms_X7_307 : mm_sV RX7 307 yX7_chanceOf cX7_chanceOf 10 (some .long) 3 := ⟨mt_1218, mt_1220, mt_62, mt_76, mt_1221, ⟨by decide +kernel, by decide +kernel, by decide +kernel⟩, Nat.le_of_ble_eq_true rfl⟩
theorem ms_X7_301 : mm_sS RX7 301 yX7_part cX7_part 11 (some .long) 3 := ⟨mt_1222, mt_1223, mt_76, mt_1224, ⟨by decide +kernel, by decide +kernel, by decide +kernel⟩, Nat.le_of_ble_eq_true rfl⟩
theorem ms_X7_311 : mm_sS RX7 311 yX7_no cX7_no 1 (some .long) 1 := ⟨mt_1225, mt_1226, mt_76, mt_1227, ⟨by decide +kernel, by decide +kernel, by decide +kernel⟩, Nat.le_of_ble_eq_true rfl⟩
theorem ms_X7_324 : mm_sV RX7 324 yX7_livesOf cX7_livesOf 5 (some .int) 3 := ⟨mt_1234, mt_1236, mt_63, mt_76, mt_1237, ⟨by decide +kernel, by decide +kernel, by decide +kernel⟩, Nat.le_of_ble_eq_true rfl⟩
theorem ms_X7_319 : mm_sV RX7 319 yX7_lot cX7_lot 2 (some .int) 1 := ⟨mt_1238, mt_1240, mt_64, mt_76, mt_1241, ⟨by decide +kernel, by decide +kernel, by decide +kernel⟩, Nat.le_of_ble_eq_true rfl⟩
theorem ms_X7_335 : mm_sV RX7 335 yX7_count cX7_count 2 (some .int) 1 := ⟨mt_1257, mt_1248, mt_1249, mt_76, mt_1250, ⟨by decide +kernel, by decide +kernel, by decide +kernel⟩, Nat.le_of_ble_eq_true rfl⟩
theorem ms_X7_338 : mm_sV RX7 338 yX7_tellsWord cX7_tellsWord 7 (some .long) 2 := ⟨mt_1258, mt_1260, mt_65, mt_76, mt_1261, ⟨by decide +kernel, by decide +kernel, by decide +kernel⟩, Nat.le_of_ble_eq_true rfl⟩
theorem ms_X7_329 : mm_sV RX7 329 yX7_tellsDay cX7_tellsDay 5 (some .long) 3 := ⟨mt_1262, mt_1264, mt_66, mt_76, mt_1265, ⟨by decide +kernel, by decide +kernel, by decide +kernel⟩, Nat.le_of_ble_eq_true rfl⟩
theorem ms_X7_342 : mm_sV RX7 342 yX7_tellsPerson cX7_tellsPerson 7 (some .long) 2 := ⟨mt_1266, mt_1268, mt_67, mt_76, mt_1269, ⟨by decide +kernel, by decide +kernel, by decide +kernel⟩, Nat.le_of_ble_eq_true rfl⟩
theorem ma_max_1 : Cond.static Lib.Math.max.name ∈ mm_tb := mt_661
theorem ma_max_2 : Cond.code Lib.Math.max.name Lib.Math.max.code 2 (some .int) ∈ mm_tb := mt_662
theorem ma_min_1 : Cond.static Lib.Math.min.name ∈ mm_tb := mt_366
theorem ma_min_2 : Cond.code Lib.Math.min.name Lib.Math.min.code 2 (some .int) ∈ mm_tb := mt_367
theorem ma_0 : Cond.initialized "java/lang/Math" ∈ mm_tb := mt_77
theorem ac_1 : Cond.native arraycopyName ∈ mm_tb := mt_510
theorem ac_2 : Cond.static arraycopyName ∈ mm_tb := mt_509
theorem ac_3 : Cond.initialized "java/lang/System" ∈ mm_tb := mt_78
theorem ic_m1 : Int32.ofInt (-1) = (-1 : Int32) := by decide
theorem ic_0 : Int32.ofInt (0) = (0 : Int32) := by decide
theorem ic_1 : Int32.ofInt (1) = (1 : Int32) := by decide
theorem ic_2 : Int32.ofInt (2) = (2 : Int32) := by decide
theorem ic_3 : Int32.ofInt (3) = (3 : Int32) := by decide
theorem ic_4 : Int32.ofInt (4) = (4 : Int32) := by decide
theorem ic_5 : Int32.ofInt (5) = (5 : Int32) := by decide
theorem bp_m10 : (Int8.ofInt (-10)).toInt32 = (-10 : Int32) := by decide
theorem bp_m9 : (Int8.ofInt (-9)).toInt32 = (-9 : Int32) := by decide
theorem bp_m4 : (Int8.ofInt (-4)).toInt32 = (-4 : Int32) := by decide
theorem bp_m3 : (Int8.ofInt (-3)).toInt32 = (-3 : Int32) := by decide
theorem bp_m2 : (Int8.ofInt (-2)).toInt32 = (-2 : Int32) := by decide
theorem bp_6 : (Int8.ofInt (6)).toInt32 = (6 : Int32) := by decide
theorem bp_7 : (Int8.ofInt (7)).toInt32 = (7 : Int32) := by decide
theorem bp_8 : (Int8.ofInt (8)).toInt32 = (8 : Int32) := by decide
theorem bp_9 : (Int8.ofInt (9)).toInt32 = (9 : Int32) := by decide
theorem bp_10 : (Int8.ofInt (10)).toInt32 = (10 : Int32) := by decide
theorem bp_12 : (Int8.ofInt (12)).toInt32 = (12 : Int32) := by decide
theorem bp_13 : (Int8.ofInt (13)).toInt32 = (13 : Int32) := by decide
theorem bp_16 : (Int8.ofInt (16)).toInt32 = (16 : Int32) := by decide
theorem bp_17 : (Int8.ofInt (17)).toInt32 = (17 : Int32) := by decide
theorem bp_20 : (Int8.ofInt (20)).toInt32 = (20 : Int32) := by decide
theorem bp_23 : (Int8.ofInt (23)).toInt32 = (23 : Int32) := by decide
theorem bp_24 : (Int8.ofInt (24)).toInt32 = (24 : Int32) := by decide
theorem bp_32 : (Int8.ofInt (32)).toInt32 = (32 : Int32) := by decide
theorem bp_36 : (Int8.ofInt (36)).toInt32 = (36 : Int32) := by decide
theorem bp_47 : (Int8.ofInt (47)).toInt32 = (47 : Int32) := by decide
theorem bp_48 : (Int8.ofInt (48)).toInt32 = (48 : Int32) := by decide
theorem bp_49 : (Int8.ofInt (49)).toInt32 = (49 : Int32) := by decide
theorem bp_55 : (Int8.ofInt (55)).toInt32 = (55 : Int32) := by decide
theorem bp_57 : (Int8.ofInt (57)).toInt32 = (57 : Int32) := by decide
theorem bp_59 : (Int8.ofInt (59)).toInt32 = (59 : Int32) := by decide
theorem bp_60 : (Int8.ofInt (60)).toInt32 = (60 : Int32) := by decide
theorem bp_63 : (Int8.ofInt (63)).toInt32 = (63 : Int32) := by decide
theorem bp_64 : (Int8.ofInt (64)).toInt32 = (64 : Int32) := by decide
theorem bp_96 : (Int8.ofInt (96)).toInt32 = (96 : Int32) := by decide
theorem bp_97 : (Int8.ofInt (97)).toInt32 = (97 : Int32) := by decide
theorem bp_98 : (Int8.ofInt (98)).toInt32 = (98 : Int32) := by decide
theorem bp_108 : (Int8.ofInt (108)).toInt32 = (108 : Int32) := by decide
theorem bp_109 : (Int8.ofInt (109)).toInt32 = (109 : Int32) := by decide
theorem bp_111 : (Int8.ofInt (111)).toInt32 = (111 : Int32) := by decide
theorem bp_112 : (Int8.ofInt (112)).toInt32 = (112 : Int32) := by decide
theorem bp_120 : (Int8.ofInt (120)).toInt32 = (120 : Int32) := by decide
theorem sp_144 : (Int16.ofInt (144)).toInt32 = (144 : Int32) := by decide
theorem sp_192 : (Int16.ofInt (192)).toInt32 = (192 : Int32) := by decide
theorem sp_240 : (Int16.ofInt (240)).toInt32 = (240 : Int32) := by decide
theorem sp_256 : (Int16.ofInt (256)).toInt32 = (256 : Int32) := by decide
theorem sp_288 : (Int16.ofInt (288)).toInt32 = (288 : Int32) := by decide
theorem sp_999 : (Int16.ofInt (999)).toInt32 = (999 : Int32) := by decide
theorem sp_12345 : (Int16.ofInt (12345)).toInt32 = (12345 : Int32) := by decide
theorem ii_m1 (x : Int32) : x + Int32.ofInt (-1) = x + (-1 : Int32) := by rw [show Int32.ofInt (-1) = (-1 : Int32) by decide]
theorem ii_1 (x : Int32) : x + Int32.ofInt (1) = x + (1 : Int32) := by rw [show Int32.ofInt (1) = (1 : Int32) by decide]
theorem ii_2 (x : Int32) : x + Int32.ofInt (2) = x + (2 : Int32) := by rw [show Int32.ofInt (2) = (2 : Int32) by decide]
theorem ii_6 (x : Int32) : x + Int32.ofInt (6) = x + (6 : Int32) := by rw [show Int32.ofInt (6) = (6 : Int32) by decide]
theorem lk_0 : Int64.ofNat ((0 : Fin 2) : Nat) = (0 : Int64) := by decide
theorem lk_1 : Int64.ofNat ((1 : Fin 2) : Nat) = (1 : Int64) := by decide
