
/-! the law's loop -/
section LWL
variable {p : Program} {l : Launch} {e : Env} {s : State} {m : MethodId} {below : List Frame} {meth : Method} {c : Code} {D : va_G} {cA : Nat → ClassId} {b L td : Nat} {xs : Nat → Int32} {adC adR : Nat → Nat}
theorem lw_exit (X : lw_X p s m c D cA b L xs td) (hr : meth.sig.returnType = ret) (hlk : meth.locks = false) {lv : List (Nat × Value)} {ws : va_W} : lw_C p l e s m below meth c D b 1268 lv [] ws := by
  refine nw_iconst X.1 (q := 1269) (v := 1) dL_law_1268 rfl (by decide) ?_
  intro H locs ls hP hD hS hL
  refine va_forget (fun q hq => hS.2.2 q hq) ?_
  refine W.widen (k := 600000) (n := 7302249) (Nat.le_of_ble_eq_true rfl) (Nat.le_of_ble_eq_true rfl) ?_
  exact lw_ret X.1.1.1 X.1.1.2.1 hr hlk dL_law_1269
set_option maxRecDepth 100000 in
set_option maxHeartbeats 4000000 in
theorem lw_switch (X : lw_X p s m c D cA b L xs td) (hC : adC 1000 = td) (hRR : adR 1000 = td) {i : Nat} {M N : mm_M} (hi : i + 6 ≤ L) (hR : Rel M N) (k : ∀ M' N', Rel M' N' → lw_C p l e s m below meth c D b 1262 (lw_lv b adC adR i) [] (mm_w LC adC cA M' ++ mm_w LR adR cA N')) : lw_C p l e s m below meth c D b 27 (lw_lv b adC adR i) [] (mm_w LC adC cA M ++ mm_w LR adR cA N) := by
  refine nw_aload X.1 (q := 28) (z := 3) dL_law_27 rfl rfl rfl ?_
  refine nw_iload X.1 (q := 29) (z := 0) dL_law_28 rfl rfl rfl ?_
  refine lw_sld X (q := 30) (by omega) dL_law_29 rfl ?_
  refine nw_bipush X.1 (q := 32) (v := 63) dL_law_30 rfl (by decide) ?_
  refine nw_iand X.1 (q := 33) dL_law_32 rfl ?_
  obtain ⟨j, hj, ej⟩ := pk_andE (xs i) (m := 63) 6 (by decide)
  rw [ej]
  have hj : j < 64 := hj
  rcases (show j = 0 ∨ j = 1 ∨ j = 2 ∨ j = 3 ∨ j = 4 ∨ j = 5 ∨ j = 6 ∨ j = 7 ∨ j = 8 ∨ j = 9 ∨ j = 10 ∨ j = 11 ∨ j = 12 ∨ j = 13 ∨ j = 14 ∨ j = 15 ∨ j = 16 ∨ j = 17 ∨ j = 18 ∨ j = 19 ∨ j = 20 ∨ j = 21 ∨ j = 22 ∨ j = 23 ∨ j = 24 ∨ j = 25 ∨ j = 26 ∨ j = 27 ∨ j = 28 ∨ j = 29 ∨ j = 30 ∨ j = 31 ∨ j = 32 ∨ j = 33 ∨ j = 34 ∨ j = 35 ∨ 36 ≤ j by omega) with rfl | rfl | rfl | rfl | rfl | rfl | rfl | rfl | rfl | rfl | rfl | rfl | rfl | rfl | rfl | rfl | rfl | rfl | rfl | rfl | rfl | rfl | rfl | rfl | rfl | rfl | rfl | rfl | rfl | rfl | rfl | rfl | rfl | rfl | rfl | rfl | h36
  · exact nw_tab X.1 (v := 0) (tgt := 192) (by decide) dL_law_33 (by decide) (by decide) rfl rfl (lw_case_0 X hC hRR hi hR k)
  · exact nw_tab X.1 (v := 1) (tgt := 225) (by decide) dL_law_33 (by decide) (by decide) rfl rfl (lw_case_1 X hC hRR hi hR k)
  · exact nw_tab X.1 (v := 2) (tgt := 248) (by decide) dL_law_33 (by decide) (by decide) rfl rfl (lw_case_2 X hC hRR hi hR k)
  · exact nw_tab X.1 (v := 3) (tgt := 271) (by decide) dL_law_33 (by decide) (by decide) rfl rfl (lw_case_3 X hC hRR hi hR k)
  · exact nw_tab X.1 (v := 4) (tgt := 294) (by decide) dL_law_33 (by decide) (by decide) rfl rfl (lw_case_4 X hC hRR hi hR k)
  · exact nw_tab X.1 (v := 5) (tgt := 327) (by decide) dL_law_33 (by decide) (by decide) rfl rfl (lw_case_5 X hC hRR hi hR k)
  · exact nw_tab X.1 (v := 6) (tgt := 360) (by decide) dL_law_33 (by decide) (by decide) rfl rfl (lw_case_6 X hC hRR hi hR k)
  · exact nw_tab X.1 (v := 7) (tgt := 393) (by decide) dL_law_33 (by decide) (by decide) rfl rfl (lw_case_7 X hC hRR hi hR k)
  · exact nw_tab X.1 (v := 8) (tgt := 426) (by decide) dL_law_33 (by decide) (by decide) rfl rfl (lw_case_8 X hC hRR hi hR k)
  · exact nw_tab X.1 (v := 9) (tgt := 439) (by decide) dL_law_33 (by decide) (by decide) rfl rfl (lw_case_9 X hC hRR hi hR k)
  · exact nw_tab X.1 (v := 10) (tgt := 462) (by decide) dL_law_33 (by decide) (by decide) rfl rfl (lw_case_10 X hC hRR hi hR k)
  · exact nw_tab X.1 (v := 11) (tgt := 505) (by decide) dL_law_33 (by decide) (by decide) rfl rfl (lw_case_11 X hC hRR hi hR k)
  · exact nw_tab X.1 (v := 12) (tgt := 548) (by decide) dL_law_33 (by decide) (by decide) rfl rfl (lw_case_12 X hC hRR hi hR k)
  · exact nw_tab X.1 (v := 13) (tgt := 571) (by decide) dL_law_33 (by decide) (by decide) rfl rfl (lw_case_13 X hC hRR hi hR k)
  · exact nw_tab X.1 (v := 14) (tgt := 594) (by decide) dL_law_33 (by decide) (by decide) rfl rfl (lw_case_14 X hC hRR hi hR k)
  · exact nw_tab X.1 (v := 15) (tgt := 627) (by decide) dL_law_33 (by decide) (by decide) rfl rfl (lw_case_15 X hC hRR hi hR k)
  · exact nw_tab X.1 (v := 16) (tgt := 640) (by decide) dL_law_33 (by decide) (by decide) rfl rfl (lw_case_16 X hC hRR hi hR k)
  · exact nw_tab X.1 (v := 17) (tgt := 673) (by decide) dL_law_33 (by decide) (by decide) rfl rfl (lw_case_17 X hC hRR hi hR k)
  · exact nw_tab X.1 (v := 18) (tgt := 696) (by decide) dL_law_33 (by decide) (by decide) rfl rfl (lw_case_18 X hC hRR hi hR k)
  · exact nw_tab X.1 (v := 19) (tgt := 719) (by decide) dL_law_33 (by decide) (by decide) rfl rfl (lw_case_19 X hC hRR hi hR k)
  · exact nw_tab X.1 (v := 20) (tgt := 742) (by decide) dL_law_33 (by decide) (by decide) rfl rfl (lw_case_20 X hC hRR hi hR k)
  · exact nw_tab X.1 (v := 21) (tgt := 785) (by decide) dL_law_33 (by decide) (by decide) rfl rfl (lw_case_21 X hC hRR hi hR k)
  · exact nw_tab X.1 (v := 22) (tgt := 798) (by decide) dL_law_33 (by decide) (by decide) rfl rfl (lw_case_22 X hC hRR hi hR k)
  · exact nw_tab X.1 (v := 23) (tgt := 811) (by decide) dL_law_33 (by decide) (by decide) rfl rfl (lw_case_23 X hC hRR hi hR k)
  · exact nw_tab X.1 (v := 24) (tgt := 834) (by decide) dL_law_33 (by decide) (by decide) rfl rfl (lw_case_24 X hC hRR hi hR k)
  · exact nw_tab X.1 (v := 25) (tgt := 857) (by decide) dL_law_33 (by decide) (by decide) rfl rfl (lw_case_25 X hC hRR hi hR k)
  · exact nw_tab X.1 (v := 26) (tgt := 880) (by decide) dL_law_33 (by decide) (by decide) rfl rfl (lw_case_26 X hC hRR hi hR k)
  · exact nw_tab X.1 (v := 27) (tgt := 924) (by decide) dL_law_33 (by decide) (by decide) rfl rfl (lw_case_27 X hC hRR hi hR k)
  · exact nw_tab X.1 (v := 28) (tgt := 967) (by decide) dL_law_33 (by decide) (by decide) rfl rfl (lw_case_28 X hC hRR hi hR k)
  · exact nw_tab X.1 (v := 29) (tgt := 1010) (by decide) dL_law_33 (by decide) (by decide) rfl rfl (lw_case_29 X hC hRR hi hR k)
  · exact nw_tab X.1 (v := 30) (tgt := 1033) (by decide) dL_law_33 (by decide) (by decide) rfl rfl (lw_case_30 X hC hRR hi hR k)
  · exact nw_tab X.1 (v := 31) (tgt := 1086) (by decide) dL_law_33 (by decide) (by decide) rfl rfl (lw_case_31 X hC hRR hi hR k)
  · exact nw_tab X.1 (v := 32) (tgt := 1129) (by decide) dL_law_33 (by decide) (by decide) rfl rfl (lw_case_32 X hC hRR hi hR k)
  · exact nw_tab X.1 (v := 33) (tgt := 1192) (by decide) dL_law_33 (by decide) (by decide) rfl rfl (lw_case_33 X hC hRR hi hR k)
  · exact nw_tab X.1 (v := 34) (tgt := 1225) (by decide) dL_law_33 (by decide) (by decide) rfl rfl (lw_case_34 X hC hRR hi hR k)
  · exact nw_tab X.1 (v := 35) (tgt := 1248) (by decide) dL_law_33 (by decide) (by decide) rfl rfl (lw_case_35 X hC hRR hi hR k)
  · refine nw_tabO X.1 (tgt := 1262) (Or.inr ?_) dL_law_33 rfl ?_
    · rw [nI_toInt (by omega)]; omega
    · exact k M N hR
set_option maxRecDepth 100000 in
theorem lw_loop (X : lw_X p s m c D cA b L xs td) (hr : meth.sig.returnType = ret) (hlk : meth.locks = false) (hC : adC 1000 = td) (hRR : adR 1000 = td) : ∀ (f i : Nat) (M N : mm_M), i ≤ L → L < i + f → Rel M N → lw_C p l e s m below meth c D b 18 (lw_lv b adC adR i) [] (mm_w LC adC cA M ++ mm_w LR adR cA N)
  | 0, i, M, N, h1, h2, hR => by omega
  | f + 1, i, M, N, h1, h2, hR => by
    have hL := X.2.2.2.2
    refine nw_iload X.1 (q := 19) (z := 0) dL_law_18 rfl rfl rfl ?_
    refine nw_aload X.1 (q := 20) (z := 3) dL_law_19 rfl rfl rfl ?_
    refine lw_slen X (q := 21) dL_law_20 rfl ?_
    refine nw_bipush X.1 (q := 23) (v := 6) dL_law_21 rfl (by decide) ?_
    refine nw_isub X.1 (q := 24) dL_law_23 rfl ?_
    have et : (nI L - (6 : Int32)).toInt = (L : Int) - 6 := pk_sub_toInt (b := 6) (by omega) (by omega)
    by_cases c6 : i + 6 ≤ L
    · refine nw_gt_f X.1 (q := 27) (tgt := 1268) ?_ dL_law_24 rfl rfl ?_
      · rw [Int32.lt_iff_toInt_lt, et, nI_toInt (by omega)]; omega
      · refine lw_switch X hC hRR c6 hR (fun M' N' hR' => ?_)
        refine nw_iinc X.1 (q := 1265) (z := 0) (v := nI (i + 6)) (lv' := lw_lv b adC adR (i + 6)) dL_law_1262 rfl rfl (nI_add i 6) (by decide) rfl ?_
        refine nw_goto X.1 (tgt := 18) dL_law_1265 rfl ?_
        exact lw_loop X hr hlk hC hRR f (i + 6) M' N' c6 (by omega) hR'
    · refine nw_gt_t X.1 (tgt := 1268) ?_ dL_law_24 rfl ?_
      · rw [Int32.lt_iff_toInt_lt, et, nI_toInt (by omega)]; omega
      · exact lw_exit X hr hlk
end LWL
theorem lw_tbm : ∀ w ∈ mm_tb, w ∈ lw_tbl := fun w h => (List.mem_filter.mp h).1
theorem lw_Nof {s : State} {args : Array Value} (hts : ∀ w ∈ lw_tbl, w.before args s = true) : mm_N s := by
  intro w hw hn
  have h := hts w hw
  cases w <;> simp [mm_isN] at hn
  · exact h
  · exact h
set_option maxHeartbeats 4000000 in
set_option maxRecDepth 100000 in
/-- THE LAW, from its entry -/
theorem whole_start {p : Program} {e : Env} {s : State} {m : MethodId} {below : List Frame} {meth : Method} {c : Code} (l : Launch) (hflags : l.flags = flags0) {b L : Nat} {xs : Nat → Int32} (hL : L ≤ 384) (C0 : lw_At p s m meth c b L xs) : W p l e room_1 s m #[Value.ref b] below meth c s.heap [] 0 0 (lw_Z below #[Value.ref b] s) (entryFrame m ([Value.ref b] : List Value).toArray 4) := by
  obtain ⟨hx, hb, hr, hml, hown, hts, hX, hbl, hlocks, hgv⟩ := id C0
  have htm : ∀ w ∈ mm_tb, w.before #[Value.ref b] s = true := fun w hw => hts w (lw_tbm w hw)
  obtain ⟨cC0, iS0, hKn0⟩ := u_known (C := RX0) (T := TX0) (N := 4) (n := 4) htm in_X0 (htm _ mt_112)
  obtain ⟨cC1, iS1, hKn1⟩ := u_known (C := RX1) (T := TX1) (N := 14) (n := 14) htm in_X1 (htm _ mt_196)
  obtain ⟨cC2, iS2, hKn2⟩ := u_known (C := RX2) (T := TX2) (N := 3) (n := 3) htm in_X2 (htm _ mt_91)
  obtain ⟨cC3, iS3, hKn3⟩ := u_known (C := RX3) (T := TX3) (N := 3) (n := 3) htm in_X3 (htm _ mt_265)
  obtain ⟨cC4, iS4, hKn4⟩ := u_known (C := RX4) (T := TX4) (N := 5) (n := 5) htm in_X4 (htm _ mt_244)
  obtain ⟨cC5, iS5, hKn5⟩ := u_known (C := RX5) (T := TX5) (N := 11) (n := 11) htm in_X5 (htm _ mt_134)
  obtain ⟨cC6, iS6, hKn6⟩ := u_known (C := RX6) (T := TX6) (N := 13) (n := 13) htm in_X6 (htm _ mt_81)
  obtain ⟨cC7, iS7, hKn7⟩ := u_known (C := RX7) (T := TX7) (N := 31) (n := 31) htm in_X7 (htm _ mt_772)
  obtain ⟨D, hKc⟩ : ∃ D : va_G, ∀ (k : Nat) (q : vw_C), vwCl[k]? = some q → u_Kn s q.1 q.2.1 q.2.2 (D.1 k) (D.2 k) := by
    refine ⟨(fun k => if k = 0 then cC0 else if k = 1 then cC1 else if k = 2 then cC2 else if k = 3 then cC3 else if k = 4 then cC4 else if k = 5 then cC5 else if k = 6 then cC6 else cC7, fun k => if k = 0 then iS0 else if k = 1 then iS1 else if k = 2 then iS2 else if k = 3 then iS3 else if k = 4 then iS4 else if k = 5 then iS5 else if k = 6 then iS6 else iS7), ?_⟩
    intro k q hq
    match k, hq with
    | 0, hq => cases hq; exact hKn0
    | 1, hq => cases hq; exact hKn1
    | 2, hq => cases hq; exact hKn2
    | 3, hq => cases hq; exact hKn3
    | 4, hq => cases hq; exact hKn4
    | 5, hq => cases hq; exact hKn5
    | 6, hq => cases hq; exact hKn6
    | 7, hq => cases hq; exact hKn7
    | k + 8, hq => simp at hq
  obtain ⟨cI, kI, compI, hI1, hI2, hI3⟩ := Cond.arrayClass_spec (hts _ (lw_tbm _ mt_110))
  obtain ⟨comp1, c1, k1, t11, t12, t13, t14, t15⟩ := Cond.arrayOver_spec (hts _ mt_89)
  obtain ⟨comp2, c2, k2, t21, t22, t23, t24, t25⟩ := Cond.arrayOver_spec (hts _ mt_132)
  obtain ⟨cA, hK⟩ : ∃ cA : Nat → ClassId, va_K D vwCl (mm_tys cA) s := by
    refine ⟨fun k => if k = 0 then cI else if k = 1 then c1 else c2, hKc, ?_⟩
    intro k q hq
    match k, hq with
    | 0, hq => cases hq; exact ⟨fun n z => ⟨fun k h => (by cases h), kI, hI2, compI, hI3⟩, hI1⟩
    | 1, hq => cases hq; exact ⟨fun n z => ⟨fun k h => (by cases h), k1, t13, comp1, t14⟩, k1, comp1, t13, t14, t11, t15⟩
    | 2, hq => cases hq; exact ⟨fun n z => ⟨fun k h => (by cases h), k2, t23, comp2, t24⟩, k2, comp2, t23, t24, t21, t25⟩
    | k + 3, hq => simp [mm_tys] at hq
  have hg := flat_of_before _ hgv
  have hnA : ∀ a : Nat, a < s.heap.size → ¬ lw_A s a := fun a h => Nat.not_le.mpr h
  obtain ⟨td, htd, hT⟩ := va_Tof (tm := .static "WordsLent" "DIGEST_DAYS" "[I") (ty := .int) (N := 4) (f := mm_dg) (A := lw_A s) (s := s) (args := #[Value.ref b]) (by decide) (hg _ (by decide +kernel)) (va_eqt (hg _ (by decide +kernel))) (fun j hj => by
    rcases (show j = 0 ∨ j = 1 ∨ j = 2 ∨ j = 3 by omega) with rfl | rfl | rfl | rfl
    · exact va_eqt (z := 0) (hg _ (by decide +kernel))
    · exact va_eqt (z := 6) (hg _ (by decide +kernel))
    · exact va_eqt (z := 13) (hg _ (by decide +kernel))
    · exact va_eqt (z := 23) (hg _ (by decide +kernel))) hnA
  have hZ : nw_Z td (lw_A s) s := ⟨va_Zof (hts _ mt_749) (htm _ mt_69) htd hnA, hT⟩
  have X0 : nw_Cx cL_law 4 RL D cA (lw_A s) p s m #[Value.ref b] c := ⟨⟨hx, hb, hml, hown, htm⟩, hK, lw_Nof hts, fun q h => h, va_AO.of (hts _ mt_89), va_AO.of (hts _ mt_132)⟩
  have X : lw_X p s m c D cA b L xs td := ⟨X0, hZ, hX, hbl, hL⟩
  have hl := lv_entry ([.ref b]) (n := 4) (Nat.le_of_ble_eq_true rfl)
  rw [lg_entry_eq]
  have K : nw_C p l e room_1 s m #[Value.ref b] below meth c D (lw_A s) 4 (lw_Z below #[Value.ref b] s) 0 [(0, .ref b)] [] [] 0 0 := by
    refine nw_new X0 (q := 3) (ci := 6) (fs := [.null, .null, .null, .null, .null, .null, .null, .null, .null, .null, .int 0, .int 0, .int 0]) (ce' := 1) (sl' := 13) dL_law_0 rfl in_X6 tyX6_ok mt_80 mt_81 mt_69 rfl nf_X6 (Nat.le_of_ble_eq_true rfl) (Nat.le_of_ble_eq_true rfl) rfl rfl (fun q6 => ?_)
    refine nw_dup X0 (q := 4) dL_law_3 rfl rfl ?_
    refine nw_callI X0 (q := 7) (ce' := 70) (sl' := 2833) (ws := []) (st := [.ref q6]) td c_X6 mt_82 mt_83 mt_69 mt_84 ⟨by decide +kernel, by decide +kernel, by decide +kernel⟩ rfl rfl ⟨(Nat.le_of_ble_eq_true rfl), (Nat.le_of_ble_eq_true rfl)⟩ (Nat.le_of_ble_eq_true rfl) rfl (Nat.le_of_ble_eq_true rfl) (Nat.le_of_ble_eq_true rfl) rfl rfl dL_law_4 rfl (fun adC h0 hC => ?_)
    subst h0
    refine nw_astore X0 (q := 8) (lv' := [(1, .ref (adC 0)), (0, .ref b)]) dL_law_7 rfl rfl (by decide) rfl ?_
    refine nw_new X0 (q := 11) (ci := 7) (fs := [.null, .null, .null, .null, .int 0, .null, .null, .int 0, .null, .int 0, .null, .int 0, .null, .int 0, .null, .int 0, .int 0, .int 0, .int 0, .null, .null, .null, .null, .null, .null, .null, .null, .int 0, .null, .null, .int 0]) (ce' := 71) (sl' := 2864) dL_law_8 rfl in_X7 tyX7_ok mt_771 mt_772 mt_76 rfl nf_X7 (Nat.le_of_ble_eq_true rfl) (Nat.le_of_ble_eq_true rfl) rfl rfl (fun q7 => ?_)
    refine nw_dup X0 (q := 12) dL_law_11 rfl rfl ?_
    refine nw_callI X0 (q := 15) (ce' := 91) (sl' := 4503) (ws := [] ++ mm_w LC adC cA nw_M0) (st := [.ref q7]) td c_X7 mt_773 mt_774 mt_76 mt_775 ⟨by decide +kernel, by decide +kernel, by decide +kernel⟩ rfl rfl ⟨(Nat.le_of_ble_eq_true rfl), (Nat.le_of_ble_eq_true rfl)⟩ (Nat.le_of_ble_eq_true rfl) rfl (Nat.le_of_ble_eq_true rfl) (Nat.le_of_ble_eq_true rfl) rfl rfl dL_law_12 rfl (fun adR h0 hRR => ?_)
    subst h0
    refine nw_astore X0 (q := 16) (lv' := [(2, .ref (adR 0)), (1, .ref (adC 0)), (0, .ref b)]) dL_law_15 rfl rfl (by decide) rfl ?_
    refine nw_iconst X0 (q := 17) (v := nI 0) dL_law_16 rfl (by decide) ?_
    refine nw_istore X0 (q := 18) (lv' := lw_lv b adC adR 0) dL_law_17 rfl rfl (by decide) rfl ?_
    refine nw_ws (ws' := mm_w LC adC cA nw_M0 ++ mm_w LR adR cA nw_N0) (by rw [List.nil_append]) ?_
    exact lw_loop X hr hlocks hC hRR (L + 1) 0 nw_M0 nw_N0 (Nat.zero_le _) (by omega) rel_0
  exact K s.heap [] _ (fun k q h => by simp at h) ⟨fun i j p q h => by simp at h, fun k q h => by simp at h⟩ va_S.rf hl
