def fX7_isIn (x0 : Int32) (x1 : Int32)  : Int32 :=
  if ((x0 >>> (x1 &&& 31)) &&& (1 : Int32)) = (1 : Int32) then
    (1 : Int32)
  else
    (0 : Int32)
set_option maxRecDepth 100000 in
set_option maxHeartbeats 4000000 in
theorem fX7_isIn_ok (x0 : Int32) (x1 : Int32) (M : mm_M)  : mm_E LR yX7_isIn cX7_isIn 2 (some .boolean) 0 (mm_pI M) [.int x0, .int x1] M (some (fX7_isIn x0 x1)) := by
  refine mm_E.of (own := RX7) (ls := [some (.int x0), some (.int x1)]) (by decide) rfl rfl (Nat.le_of_ble_eq_true rfl) ?_
  unfold fX7_isIn
  refine mm_iload_n (q := 1) dX7_isIn_0 rfl rfl rfl ?_
  refine mm_iload_n (q := 2) dX7_isIn_1 rfl rfl rfl ?_
  refine mm_ishr (q := 3) dX7_isIn_2 rfl ?_
  refine mm_iconst (q := 4) dX7_isIn_3 rfl ic_1 ?_
  refine mm_iand (q := 5) dX7_isIn_4 rfl ?_
  refine mm_iconst (q := 6) dX7_isIn_5 rfl ic_1 ?_
  by_cases c1 : ((x0 >>> (x1 &&& 31)) &&& (1 : Int32)) = (1 : Int32)
  · simp only [if_pos c1]
    refine mm_icmp_ne_t (q := 9) (tgt := 13) c1 dX7_isIn_6 rfl (by decide) ?_
    refine mm_iconst (q := 10) dX7_isIn_9 rfl ic_1 ?_
    refine mm_goto (tgt := 14) dX7_isIn_10 (by decide) ?_
    exact mm_zret rfl rfl dX7_isIn_14
  · simp only [if_neg c1]
    refine mm_icmp_ne_f (tgt := 13) c1 dX7_isIn_6 (by decide) ?_
    refine mm_iconst (q := 14) dX7_isIn_13 rfl ic_0 ?_
    exact mm_zret rfl rfl dX7_isIn_14
def fX7_greater (x0 : Int32) (x1 : Int32)  : Int32 :=
  if x0 ≤ x1 then
    x1
  else
    x0
set_option maxRecDepth 100000 in
set_option maxHeartbeats 4000000 in
theorem fX7_greater_ok (x0 : Int32) (x1 : Int32) (M : mm_M)  : mm_E LR yX7_greater cX7_greater 2 (some .int) 0 (mm_pI M) [.int x0, .int x1] M (some (fX7_greater x0 x1)) := by
  refine mm_E.of (own := RX7) (ls := [some (.int x0), some (.int x1)]) (by decide) rfl rfl (Nat.le_of_ble_eq_true rfl) ?_
  unfold fX7_greater
  refine mm_iload_n (q := 1) dX7_greater_0 rfl rfl rfl ?_
  refine mm_iload_n (q := 2) dX7_greater_1 rfl rfl rfl ?_
  by_cases c1 : x0 ≤ x1
  · simp only [if_pos c1]
    refine mm_icmp_le_t (tgt := 9) c1 dX7_greater_2 (by decide) ?_
    refine mm_iload_n (q := 10) dX7_greater_9 rfl rfl rfl ?_
    exact mm_iret rfl dX7_greater_10
  · simp only [if_neg c1]
    refine mm_icmp_le_f (q := 5) (tgt := 9) c1 dX7_greater_2 rfl (by decide) ?_
    refine mm_iload_n (q := 6) dX7_greater_5 rfl rfl rfl ?_
    refine mm_goto (tgt := 10) dX7_greater_6 (by decide) ?_
    exact mm_iret rfl dX7_greater_10
def fX7_alike_L18 (x1 : Int32) (x2 : Int32) (x3 : Int32) (x4 : Int32) (M : mm_M) (k86 : Int32 → Option (Int32)) : Nat → Int32 → Int32 → Option (Int32)
  | 0, _, _ => none
  | n + 1, x5, x6 =>
    if (10 : Int32) ≤ x6 then
      k86 x5
    else
      if (fX7_isIn x1 x4) = 0 then
        fX7_alike_L18 x1 x2 x3 x4 M k86 n (x5 + (0 : Int32)) (x6 + (1 : Int32))
      else
        if (fX7_isIn x1 x6) = 0 then
          fX7_alike_L18 x1 x2 x3 x4 M k86 n (x5 + (0 : Int32)) (x6 + (1 : Int32))
        else
          (mm_rd M 20 240 (((24 : Int32) * x4) + x2)).bind fun b5 =>
          (mm_rd M 20 240 (((24 : Int32) * x6) + x2)).bind fun b6 =>
          fX7_alike_L18 x1 x2 x3 x4 M k86 n (if b5 = b6 then x5 + (1 : Int32) else x5 + (0 : Int32)) (x6 + (1 : Int32))
set_option maxRecDepth 100000 in
set_option maxHeartbeats 4000000 in
theorem fX7_alike_L18_ok (x1 : Int32) (x2 : Int32) (x3 : Int32) (x4 : Int32) (M : mm_M)  (k86 : Int32 → Option (Int32)) (hk86 : ∀ (x5 : Int32), mm_C LR cX7_alike 7 RX7 (some .int) 1 (mm_pI M) 86 [some (.ref 0), some (.int x1), some (.int x2), some (.int x3), some (.int x4), some (.int x5), none] [] M (k86 x5)) : ∀ (n : Nat) (x5 : Int32) (x6 : Int32), mm_C LR cX7_alike 7 RX7 (some .int) 1 (mm_pI M) 18 [some (.ref 0), some (.int x1), some (.int x2), some (.int x3), some (.int x4), some (.int x5), some (.int x6)] [] M (fX7_alike_L18 x1 x2 x3 x4 M k86 n x5 x6) := by
  intro n
  induction n with
  | zero => intro x5 x6; exact mm_none
  | succ n ih =>
    intro x5 x6
    rw [fX7_alike_L18]
    refine mm_iload (q := 20) dX7_alike_18 rfl rfl ?_
    refine mm_bipush (q := 22) dX7_alike_20 rfl bp_10 ?_
    refine mm_icmp_ge (q := 25) (tgt := 86) dX7_alike_22 rfl (by decide) (fun c2 => ?_) (fun c2 => ?_)
    · refine mm_drop (ls' := [some (.ref 0), some (.int x1), some (.int x2), some (.int x3), some (.int x4), some (.int x5), none]) (mm_sub_at _ _ (And.intro rfl (And.intro rfl (And.intro rfl (And.intro rfl (And.intro rfl (And.intro rfl trivial))))))) ?_
      exact hk86 _
    · refine mm_iload (q := 27) dX7_alike_25 rfl rfl ?_
      refine mm_iload_n (q := 28) dX7_alike_27 rfl rfl rfl ?_
      refine mm_iload (q := 30) dX7_alike_28 rfl rfl ?_
      refine mm_callST (as := [.int x1, .int x4]) (st := [.int x5]) (q := 33) (fX7_isIn_ok x1 x4 M) ms_X7_179 rfl (Nat.le_of_ble_eq_true rfl) (Nat.le_of_ble_eq_true rfl) rfl dX7_alike_30 rfl ?_
      refine mm_if_eq (q := 36) (tgt := 76) dX7_alike_33 rfl (by decide) (fun c3 => ?_) (fun c3 => ?_)
      · refine mm_iconst (q := 77) dX7_alike_76 rfl ic_0 ?_
        refine mm_iadd (q := 78) dX7_alike_77 rfl ?_
        refine mm_istore (q := 80) (ls' := [some (.ref 0), some (.int x1), some (.int x2), some (.int x3), some (.int x4), some (.int (x5 + (0 : Int32))), some (.int x6)]) dX7_alike_78 rfl rfl (Nat.le_of_ble_eq_true rfl) rfl ?_
        refine mm_iinc (q := 83) (ls' := [some (.ref 0), some (.int x1), some (.int x2), some (.int x3), some (.int x4), some (.int (x5 + (0 : Int32))), some (.int (x6 + (1 : Int32)))]) dX7_alike_80 rfl rfl (ii_1 _) rfl (Nat.le_of_ble_eq_true rfl) rfl ?_
        refine mm_goto (tgt := 18) dX7_alike_83 (by decide) ?_
        exact ih _ _
      · refine mm_iload_n (q := 37) dX7_alike_36 rfl rfl rfl ?_
        refine mm_iload (q := 39) dX7_alike_37 rfl rfl ?_
        refine mm_callST (as := [.int x1, .int x6]) (st := [.int x5]) (q := 42) (fX7_isIn_ok x1 x6 M) ms_X7_179 rfl (Nat.le_of_ble_eq_true rfl) (Nat.le_of_ble_eq_true rfl) rfl dX7_alike_39 rfl ?_
        refine mm_if_eq (q := 45) (tgt := 76) dX7_alike_42 rfl (by decide) (fun c4 => ?_) (fun c4 => ?_)
        · refine mm_iconst (q := 77) dX7_alike_76 rfl ic_0 ?_
          refine mm_iadd (q := 78) dX7_alike_77 rfl ?_
          refine mm_istore (q := 80) (ls' := [some (.ref 0), some (.int x1), some (.int x2), some (.int x3), some (.int x4), some (.int (x5 + (0 : Int32))), some (.int x6)]) dX7_alike_78 rfl rfl (Nat.le_of_ble_eq_true rfl) rfl ?_
          refine mm_iinc (q := 83) (ls' := [some (.ref 0), some (.int x1), some (.int x2), some (.int x3), some (.int x4), some (.int (x5 + (0 : Int32))), some (.int (x6 + (1 : Int32)))]) dX7_alike_80 rfl rfl (ii_1 _) rfl (Nat.le_of_ble_eq_true rfl) rfl ?_
          refine mm_goto (tgt := 18) dX7_alike_83 (by decide) ?_
          exact ih _ _
        · refine mm_aload_n (q := 46) dX7_alike_45 rfl rfl rfl ?_
          refine mm_getR (q := 49) (k1 := 20) dX7_alike_46 rfl lr_0 fd_X7_67 rfl ?_
          refine mm_bipush (q := 51) dX7_alike_49 rfl bp_24 ?_
          refine mm_iload (q := 53) dX7_alike_51 rfl rfl ?_
          refine mm_imul (q := 54) dX7_alike_53 rfl ?_
          refine mm_iload_n (q := 55) dX7_alike_54 rfl rfl rfl ?_
          refine mm_iadd (q := 56) dX7_alike_55 rfl ?_
          refine mm_iald (q := 57) dX7_alike_56 rfl lr_20 (fun b5 _ => ?_)
          refine mm_aload_n (q := 58) dX7_alike_57 rfl rfl rfl ?_
          refine mm_getR (q := 61) (k1 := 20) dX7_alike_58 rfl lr_0 fd_X7_67 rfl ?_
          refine mm_bipush (q := 63) dX7_alike_61 rfl bp_24 ?_
          refine mm_iload (q := 65) dX7_alike_63 rfl rfl ?_
          refine mm_imul (q := 66) dX7_alike_65 rfl ?_
          refine mm_iload_n (q := 67) dX7_alike_66 rfl rfl rfl ?_
          refine mm_iadd (q := 68) dX7_alike_67 rfl ?_
          refine mm_iald (q := 69) dX7_alike_68 rfl lr_20 (fun b6 _ => ?_)
          by_cases c7 : b5 = b6
          · simp only [if_pos c7]
            refine mm_icmp_ne_t (q := 72) (tgt := 76) c7 dX7_alike_69 rfl (by decide) ?_
            refine mm_iconst (q := 73) dX7_alike_72 rfl ic_1 ?_
            refine mm_goto (tgt := 77) dX7_alike_73 (by decide) ?_
            refine mm_iadd (q := 78) dX7_alike_77 rfl ?_
            refine mm_istore (q := 80) (ls' := [some (.ref 0), some (.int x1), some (.int x2), some (.int x3), some (.int x4), some (.int (x5 + (1 : Int32))), some (.int x6)]) dX7_alike_78 rfl rfl (Nat.le_of_ble_eq_true rfl) rfl ?_
            refine mm_iinc (q := 83) (ls' := [some (.ref 0), some (.int x1), some (.int x2), some (.int x3), some (.int x4), some (.int (x5 + (1 : Int32))), some (.int (x6 + (1 : Int32)))]) dX7_alike_80 rfl rfl (ii_1 _) rfl (Nat.le_of_ble_eq_true rfl) rfl ?_
            refine mm_goto (tgt := 18) dX7_alike_83 (by decide) ?_
            exact ih _ _
          · simp only [if_neg c7]
            refine mm_icmp_ne_f (tgt := 76) c7 dX7_alike_69 (by decide) ?_
            refine mm_iconst (q := 77) dX7_alike_76 rfl ic_0 ?_
            refine mm_iadd (q := 78) dX7_alike_77 rfl ?_
            refine mm_istore (q := 80) (ls' := [some (.ref 0), some (.int x1), some (.int x2), some (.int x3), some (.int x4), some (.int (x5 + (0 : Int32))), some (.int x6)]) dX7_alike_78 rfl rfl (Nat.le_of_ble_eq_true rfl) rfl ?_
            refine mm_iinc (q := 83) (ls' := [some (.ref 0), some (.int x1), some (.int x2), some (.int x3), some (.int x4), some (.int (x5 + (0 : Int32))), some (.int (x6 + (1 : Int32)))]) dX7_alike_80 rfl rfl (ii_1 _) rfl (Nat.le_of_ble_eq_true rfl) rfl ?_
            refine mm_goto (tgt := 18) dX7_alike_83 (by decide) ?_
            exact ih _ _
def fX7_alike_L5 (x1 : Int32) (x2 : Int32) (M : mm_M)  : Nat → Int32 → Int32 → Option (Int32)
  | 0, _, _ => none
  | n + 1, x3, x4 =>
    if (10 : Int32) ≤ x4 then
      some x3
    else
      fX7_alike_L18 x1 x2 x3 x4 M (fun z8 =>
      fX7_alike_L5 x1 x2 M n (fX7_greater z8 x3) (x4 + (1 : Int32))) 1000 (0 : Int32) (1 : Int32)
set_option maxRecDepth 100000 in
set_option maxHeartbeats 4000000 in
theorem fX7_alike_L5_ok (x1 : Int32) (x2 : Int32) (M : mm_M)    : ∀ (n : Nat) (x3 : Int32) (x4 : Int32), mm_C LR cX7_alike 7 RX7 (some .int) 1 (mm_pI M) 5 [some (.ref 0), some (.int x1), some (.int x2), some (.int x3), some (.int x4), none, none] [] M (fX7_alike_L5 x1 x2 M n x3 x4) := by
  intro n
  induction n with
  | zero => intro x3 x4; exact mm_none
  | succ n ih =>
    intro x3 x4
    rw [fX7_alike_L5]
    refine mm_iload (q := 7) dX7_alike_5 rfl rfl ?_
    refine mm_bipush (q := 9) dX7_alike_7 rfl bp_10 ?_
    refine mm_icmp_ge (q := 12) (tgt := 99) dX7_alike_9 rfl (by decide) (fun c1 => ?_) (fun c1 => ?_)
    · refine mm_iload_n (q := 100) dX7_alike_99 rfl rfl rfl ?_
      exact mm_iret rfl dX7_alike_100
    · refine mm_iconst (q := 13) dX7_alike_12 rfl ic_0 ?_
      refine mm_istore (q := 15) (ls' := [some (.ref 0), some (.int x1), some (.int x2), some (.int x3), some (.int x4), some (.int (0 : Int32)), none]) dX7_alike_13 rfl rfl (Nat.le_of_ble_eq_true rfl) rfl ?_
      refine mm_iconst (q := 16) dX7_alike_15 rfl ic_1 ?_
      refine mm_istore (q := 18) (ls' := [some (.ref 0), some (.int x1), some (.int x2), some (.int x3), some (.int x4), some (.int (0 : Int32)), some (.int (1 : Int32))]) dX7_alike_16 rfl rfl (Nat.le_of_ble_eq_true rfl) rfl ?_
      refine fX7_alike_L18_ok x1 x2 x3 x4 M _ (fun z8 => ?_) _ _ _
      refine mm_iload (q := 88) dX7_alike_86 rfl rfl ?_
      refine mm_iload_n (q := 89) dX7_alike_88 rfl rfl rfl ?_
      refine mm_callST (as := [.int z8, .int x3]) (st := []) (q := 92) (fX7_greater_ok z8 x3 M) ms_X7_189 rfl (Nat.le_of_ble_eq_true rfl) (Nat.le_of_ble_eq_true rfl) rfl dX7_alike_89 rfl ?_
      refine mm_istore_n (q := 93) (ls' := [some (.ref 0), some (.int x1), some (.int x2), some (.int (fX7_greater z8 x3)), some (.int x4), some (.int z8), none]) dX7_alike_92 rfl rfl rfl (Nat.le_of_ble_eq_true rfl) rfl ?_
      refine mm_iinc (q := 96) (ls' := [some (.ref 0), some (.int x1), some (.int x2), some (.int (fX7_greater z8 x3)), some (.int (x4 + (1 : Int32))), some (.int z8), none]) dX7_alike_93 rfl rfl (ii_1 _) rfl (Nat.le_of_ble_eq_true rfl) rfl ?_
      refine mm_goto (tgt := 5) dX7_alike_96 (by decide) ?_
      refine mm_drop (ls' := [some (.ref 0), some (.int x1), some (.int x2), some (.int (fX7_greater z8 x3)), some (.int (x4 + (1 : Int32))), none, none]) (mm_sub_at _ _ (And.intro rfl (And.intro rfl (And.intro rfl (And.intro rfl (And.intro rfl trivial)))))) ?_
      exact ih _ _
def fX7_alike (x1 : Int32) (x2 : Int32) (M : mm_M) : Option (Int32) :=
  fX7_alike_L5 x1 x2 M 1000 (0 : Int32) (1 : Int32)
set_option maxRecDepth 100000 in
set_option maxHeartbeats 4000000 in
theorem fX7_alike_ok (x1 : Int32) (x2 : Int32) (M : mm_M)  : mm_E LR yX7_alike cX7_alike 7 (some .int) 1 (mm_pI M) [.ref 0, .int x1, .int x2] M (fX7_alike x1 x2 M) := by
  refine mm_E.of (own := RX7) (ls := [some (.ref 0), some (.int x1), some (.int x2), none, none, none, none]) (by decide) rfl rfl (Nat.le_of_ble_eq_true rfl) ?_
  unfold fX7_alike
  refine mm_iconst (q := 1) dX7_alike_0 rfl ic_0 ?_
  refine mm_istore_n (q := 2) (ls' := [some (.ref 0), some (.int x1), some (.int x2), some (.int (0 : Int32)), none, none, none]) dX7_alike_1 rfl rfl rfl (Nat.le_of_ble_eq_true rfl) rfl ?_
  refine mm_iconst (q := 3) dX7_alike_2 rfl ic_1 ?_
  refine mm_istore (q := 5) (ls' := [some (.ref 0), some (.int x1), some (.int x2), some (.int (0 : Int32)), some (.int (1 : Int32)), none, none]) dX7_alike_3 rfl rfl (Nat.le_of_ble_eq_true rfl) rfl ?_
  exact fX7_alike_L5_ok x1 x2 M _ _ _
def fX7_in (x0 : Int64) (x2 : Int64) (x4 : Int64)  : Int32 :=
  if (lg_cmp x0 x2) < 0 then
    (0 : Int32)
  else
    if 0 < (lg_cmp x0 x4) then
      (0 : Int32)
    else
      (1 : Int32)
set_option maxRecDepth 100000 in
set_option maxHeartbeats 4000000 in
theorem fX7_in_ok (x0 : Int64) (x2 : Int64) (x4 : Int64) (M : mm_M)  : mm_E LR yX7_in cX7_in 6 (some .boolean) 0 (mm_pI M) [.long x0, .long x2, .long x4] M (some (fX7_in x0 x2 x4)) := by
  refine mm_E.of (own := RX7) (ls := [some (.long x0), none, some (.long x2), none, some (.long x4), none]) (by decide) rfl rfl (Nat.le_of_ble_eq_true rfl) ?_
  unfold fX7_in
  refine mm_lload_n (q := 1) dX7_in_0 rfl rfl rfl ?_
  refine mm_lload_n (q := 2) dX7_in_1 rfl rfl rfl ?_
  refine mm_lcmp (q := 3) dX7_in_2 rfl ?_
  by_cases c1 : (lg_cmp x0 x2) < 0
  · simp only [if_pos c1]
    refine mm_if_lt_t (tgt := 17) c1 dX7_in_3 (by decide) ?_
    refine mm_iconst (q := 18) dX7_in_17 rfl ic_0 ?_
    exact mm_zret rfl rfl dX7_in_18
  · simp only [if_neg c1]
    refine mm_if_lt_f (q := 6) (tgt := 17) c1 dX7_in_3 rfl (by decide) ?_
    refine mm_lload_n (q := 7) dX7_in_6 rfl rfl rfl ?_
    refine mm_lload (q := 9) dX7_in_7 rfl rfl ?_
    refine mm_lcmp (q := 10) dX7_in_9 rfl ?_
    by_cases c2 : 0 < (lg_cmp x0 x4)
    · simp only [if_pos c2]
      refine mm_if_gt_t (tgt := 17) c2 dX7_in_10 (by decide) ?_
      refine mm_iconst (q := 18) dX7_in_17 rfl ic_0 ?_
      exact mm_zret rfl rfl dX7_in_18
    · simp only [if_neg c2]
      refine mm_if_gt_f (q := 13) (tgt := 17) c2 dX7_in_10 rfl (by decide) ?_
      refine mm_iconst (q := 14) dX7_in_13 rfl ic_1 ?_
      refine mm_goto (tgt := 18) dX7_in_14 (by decide) ?_
      exact mm_zret rfl rfl dX7_in_18
def fX7_dayOf (x0 : Int32)  : Int32 :=
  if (fX7_in ((x0).toInt64) (97 : Int64) (120 : Int64)) = 0 then
    (-9 : Int32)
  else
    x0 - (97 : Int32)
set_option maxRecDepth 100000 in
set_option maxHeartbeats 4000000 in
theorem fX7_dayOf_ok (x0 : Int32) (M : mm_M)  : mm_E LR yX7_dayOf cX7_dayOf 1 (some .int) 1 (mm_pI M) [.int x0] M (some (fX7_dayOf x0)) := by
  refine mm_E.of (own := RX7) (ls := [some (.int x0)]) (by decide) rfl rfl (Nat.le_of_ble_eq_true rfl) ?_
  unfold fX7_dayOf
  refine mm_iload_n (q := 1) dX7_dayOf_0 rfl rfl rfl ?_
  refine mm_i2l (q := 2) dX7_dayOf_1 rfl ?_
  refine mm_ldc2 (q := 5) dX7_dayOf_2 rfl cn_X7_109 ?_
  refine mm_ldc2 (q := 8) dX7_dayOf_5 rfl cn_X7_111 ?_
  refine mm_callST (as := [.long ((x0).toInt64), .long (97 : Int64), .long (120 : Int64)]) (st := []) (q := 11) (fX7_in_ok ((x0).toInt64) (97 : Int64) (120 : Int64) M) ms_X7_76 rfl (Nat.le_of_ble_eq_true rfl) (Nat.le_of_ble_eq_true rfl) rfl dX7_dayOf_8 rfl ?_
  by_cases c1 : (fX7_in ((x0).toInt64) (97 : Int64) (120 : Int64)) = 0
  · simp only [if_pos c1]
    refine mm_if_eq_t (tgt := 21) c1 dX7_dayOf_11 (by decide) ?_
    refine mm_bipush (q := 23) dX7_dayOf_21 rfl bp_m9 ?_
    exact mm_iret rfl dX7_dayOf_23
  · simp only [if_neg c1]
    refine mm_if_eq_f (q := 14) (tgt := 21) c1 dX7_dayOf_11 rfl (by decide) ?_
    refine mm_iload_n (q := 15) dX7_dayOf_14 rfl rfl rfl ?_
    refine mm_bipush (q := 17) dX7_dayOf_15 rfl bp_97 ?_
    refine mm_isub (q := 18) dX7_dayOf_17 rfl ?_
    refine mm_goto (tgt := 23) dX7_dayOf_18 (by decide) ?_
    exact mm_iret rfl dX7_dayOf_23
def fX7_personOf (x0 : Int32) (x1 : Int32)  : Int32 :=
  if x0 = 0 then
    (if x1 = (112 : Int32) then
      (0 : Int32)
    else
      if x1 = (111 : Int32) then
        (1 : Int32)
      else
        if x1 = (109 : Int32) then
          (2 : Int32)
        else
          if x1 = (98 : Int32) then
            (3 : Int32)
          else
            (-9 : Int32))
  else
    if x0 = (1 : Int32) then
      fX7_dayOf x1
    else
      if x1 = (59 : Int32) then
        (0 : Int32)
      else
        (-9 : Int32)
set_option maxRecDepth 100000 in
set_option maxHeartbeats 4000000 in
theorem fX7_personOf_ok (x0 : Int32) (x1 : Int32) (M : mm_M)  : mm_E LR yX7_personOf cX7_personOf 2 (some .int) 2 (mm_pI M) [.int x0, .int x1] M (some (fX7_personOf x0 x1)) := by
  refine mm_E.of (own := RX7) (ls := [some (.int x0), some (.int x1)]) (by decide) rfl rfl (Nat.le_of_ble_eq_true rfl) ?_
  unfold fX7_personOf
  refine mm_iload_n (q := 1) dX7_personOf_0 rfl rfl rfl ?_
  by_cases c1 : x0 = 0
  · simp only [if_pos c1]
    refine mm_if_ne_t (q := 4) (tgt := 47) c1 dX7_personOf_1 rfl (by decide) ?_
    refine mm_iload_n (q := 5) dX7_personOf_4 rfl rfl rfl ?_
    refine mm_bipush (q := 7) dX7_personOf_5 rfl bp_112 ?_
    by_cases c2 : x1 = (112 : Int32)
    · simp only [if_pos c2]
      refine mm_icmp_ne_t (q := 10) (tgt := 14) c2 dX7_personOf_7 rfl (by decide) ?_
      refine mm_iconst (q := 11) dX7_personOf_10 rfl ic_0 ?_
      refine mm_goto (tgt := 46) dX7_personOf_11 (by decide) ?_
      exact mm_iret rfl dX7_personOf_46
    · simp only [if_neg c2]
      refine mm_icmp_ne_f (tgt := 14) c2 dX7_personOf_7 (by decide) ?_
      refine mm_iload_n (q := 15) dX7_personOf_14 rfl rfl rfl ?_
      refine mm_bipush (q := 17) dX7_personOf_15 rfl bp_111 ?_
      by_cases c3 : x1 = (111 : Int32)
      · simp only [if_pos c3]
        refine mm_icmp_ne_t (q := 20) (tgt := 24) c3 dX7_personOf_17 rfl (by decide) ?_
        refine mm_iconst (q := 21) dX7_personOf_20 rfl ic_1 ?_
        refine mm_goto (tgt := 46) dX7_personOf_21 (by decide) ?_
        exact mm_iret rfl dX7_personOf_46
      · simp only [if_neg c3]
        refine mm_icmp_ne_f (tgt := 24) c3 dX7_personOf_17 (by decide) ?_
        refine mm_iload_n (q := 25) dX7_personOf_24 rfl rfl rfl ?_
        refine mm_bipush (q := 27) dX7_personOf_25 rfl bp_109 ?_
        by_cases c4 : x1 = (109 : Int32)
        · simp only [if_pos c4]
          refine mm_icmp_ne_t (q := 30) (tgt := 34) c4 dX7_personOf_27 rfl (by decide) ?_
          refine mm_iconst (q := 31) dX7_personOf_30 rfl ic_2 ?_
          refine mm_goto (tgt := 46) dX7_personOf_31 (by decide) ?_
          exact mm_iret rfl dX7_personOf_46
        · simp only [if_neg c4]
          refine mm_icmp_ne_f (tgt := 34) c4 dX7_personOf_27 (by decide) ?_
          refine mm_iload_n (q := 35) dX7_personOf_34 rfl rfl rfl ?_
          refine mm_bipush (q := 37) dX7_personOf_35 rfl bp_98 ?_
          by_cases c5 : x1 = (98 : Int32)
          · simp only [if_pos c5]
            refine mm_icmp_ne_t (q := 40) (tgt := 44) c5 dX7_personOf_37 rfl (by decide) ?_
            refine mm_iconst (q := 41) dX7_personOf_40 rfl ic_3 ?_
            refine mm_goto (tgt := 46) dX7_personOf_41 (by decide) ?_
            exact mm_iret rfl dX7_personOf_46
          · simp only [if_neg c5]
            refine mm_icmp_ne_f (tgt := 44) c5 dX7_personOf_37 (by decide) ?_
            refine mm_bipush (q := 46) dX7_personOf_44 rfl bp_m9 ?_
            exact mm_iret rfl dX7_personOf_46
  · simp only [if_neg c1]
    refine mm_if_ne_f (tgt := 47) c1 dX7_personOf_1 (by decide) ?_
    refine mm_iload_n (q := 48) dX7_personOf_47 rfl rfl rfl ?_
    refine mm_iconst (q := 49) dX7_personOf_48 rfl ic_1 ?_
    by_cases c6 : x0 = (1 : Int32)
    · simp only [if_pos c6]
      refine mm_icmp_ne_t (q := 52) (tgt := 59) c6 dX7_personOf_49 rfl (by decide) ?_
      refine mm_iload_n (q := 53) dX7_personOf_52 rfl rfl rfl ?_
      refine mm_callST (as := [.int x1]) (st := []) (q := 56) (fX7_dayOf_ok x1 M) ms_X7_113 rfl (Nat.le_of_ble_eq_true rfl) (Nat.le_of_ble_eq_true rfl) rfl dX7_personOf_53 rfl ?_
      refine mm_goto (tgt := 71) dX7_personOf_56 (by decide) ?_
      exact mm_iret rfl dX7_personOf_71
    · simp only [if_neg c6]
      refine mm_icmp_ne_f (tgt := 59) c6 dX7_personOf_49 (by decide) ?_
      refine mm_iload_n (q := 60) dX7_personOf_59 rfl rfl rfl ?_
      refine mm_bipush (q := 62) dX7_personOf_60 rfl bp_59 ?_
      by_cases c7 : x1 = (59 : Int32)
      · simp only [if_pos c7]
        refine mm_icmp_ne_t (q := 65) (tgt := 69) c7 dX7_personOf_62 rfl (by decide) ?_
        refine mm_iconst (q := 66) dX7_personOf_65 rfl ic_0 ?_
        refine mm_goto (tgt := 71) dX7_personOf_66 (by decide) ?_
        exact mm_iret rfl dX7_personOf_71
      · simp only [if_neg c7]
        refine mm_icmp_ne_f (tgt := 69) c7 dX7_personOf_62 (by decide) ?_
        refine mm_bipush (q := 71) dX7_personOf_69 rfl bp_m9 ?_
        exact mm_iret rfl dX7_personOf_71
def fX7_readsPeople_J68 (x1 : Int32) (x2 : Int32) (x3 : Int32) (kr : Int32 → mm_M → Option (Int32 × mm_M)) (M : mm_M) : Option (Int32 × mm_M) :=
  if x3 = (1 : Int32) then
    ((mm_pf M 0 7 ((M 0 7) + (1 : Int32))).bind fun M8 =>
    kr (x2 + (1 : Int32)) M8)
  else
    (mm_pf M 0 7 ((M 0 7) + (0 : Int32))).bind fun M9 =>
    kr (x2 + (1 : Int32)) M9
set_option maxRecDepth 100000 in
set_option maxHeartbeats 4000000 in
theorem fX7_readsPeople_J68_ok (x1 : Int32) (x2 : Int32) (x3 : Int32)  (M : mm_M)  (kr : Int32 → mm_M → Option (Int32 × mm_M)) (hkr : ∀ (x2 : Int32) (M : mm_M), mm_C LR cX7_readsPeople 5 RX7 (some .int) 3 mm_eI 14 [some (.ref 0), some (.int x1), some (.int x2), none, none] [] M (kr x2 M)) : mm_C LR cX7_readsPeople 5 RX7 (some .int) 3 mm_eI 68 [some (.ref 0), some (.int x1), some (.int x2), some (.int x3), none] [] M (fX7_readsPeople_J68 x1 x2 x3 kr M) := by
  unfold fX7_readsPeople_J68
  refine mm_aload_n (q := 69) dX7_readsPeople_68 rfl rfl rfl ?_
  refine mm_dup (q := 70) dX7_readsPeople_69 rfl rfl ?_
  refine mm_getI (q := 73) dX7_readsPeople_70 rfl lr_0 fd_X7_116 rfl ?_
  refine mm_iload_n (q := 74) dX7_readsPeople_73 rfl rfl rfl ?_
  refine mm_iconst (q := 75) dX7_readsPeople_74 rfl ic_1 ?_
  refine mm_icmp_ne (q := 78) (tgt := 82) dX7_readsPeople_75 rfl (by decide) (fun c7 => ?_) (fun c7 => ?_)
  · refine mm_iconst (q := 79) dX7_readsPeople_78 rfl ic_1 ?_
    refine mm_goto (tgt := 83) dX7_readsPeople_79 (by decide) ?_
    refine mm_iadd (q := 84) dX7_readsPeople_83 rfl ?_
    refine mm_put (q := 87) dX7_readsPeople_84 rfl lr_0 fd_X7_116 ps_X7_7 rfl rfl rfl (fun M8 _ => ?_)
    refine mm_iinc (q := 90) (ls' := [some (.ref 0), some (.int x1), some (.int (x2 + (1 : Int32))), some (.int x3), none]) dX7_readsPeople_87 rfl rfl (ii_1 _) rfl (Nat.le_of_ble_eq_true rfl) rfl ?_
    refine mm_goto (tgt := 14) dX7_readsPeople_90 (by decide) ?_
    refine mm_drop (ls' := [some (.ref 0), some (.int x1), some (.int (x2 + (1 : Int32))), none, none]) (mm_sub_at _ _ (And.intro rfl (And.intro rfl (And.intro rfl trivial)))) ?_
    exact hkr _ _
  · refine mm_iconst (q := 83) dX7_readsPeople_82 rfl ic_0 ?_
    refine mm_iadd (q := 84) dX7_readsPeople_83 rfl ?_
    refine mm_put (q := 87) dX7_readsPeople_84 rfl lr_0 fd_X7_116 ps_X7_7 rfl rfl rfl (fun M9 _ => ?_)
    refine mm_iinc (q := 90) (ls' := [some (.ref 0), some (.int x1), some (.int (x2 + (1 : Int32))), some (.int x3), none]) dX7_readsPeople_87 rfl rfl (ii_1 _) rfl (Nat.le_of_ble_eq_true rfl) rfl ?_
    refine mm_goto (tgt := 14) dX7_readsPeople_90 (by decide) ?_
    refine mm_drop (ls' := [some (.ref 0), some (.int x1), some (.int (x2 + (1 : Int32))), none, none]) (mm_sub_at _ _ (And.intro rfl (And.intro rfl (And.intro rfl trivial)))) ?_
    exact hkr _ _
def fX7_readsPeople_L14 (x1 : Int32) (k42 : Int32 → mm_M → Option (Int32 × mm_M)) (k93 : mm_M → Option (Int32 × mm_M)) : Nat → Int32 → mm_M → Option (Int32 × mm_M)
  | 0, _, _ => none
  | n + 1, x2, M =>
    if x1 ≤ x2 then
      k93 M
    else
      (mm_rd M 5 144 x2).bind fun b4 =>
      if (fX7_personOf (x2 - x2 / (3 : Int32) * (3 : Int32)) b4) = (-9 : Int32) then
        k42 x2 M
      else
        if (2 : Int32) ≤ (x2 - x2 / (3 : Int32) * (3 : Int32)) then
          fX7_readsPeople_J68 x1 x2 (x2 - x2 / (3 : Int32) * (3 : Int32)) (fX7_readsPeople_L14 x1 k42 k93 n) M
        else
          (mm_wa M 7 16 (((2 : Int32) * (x2 / (3 : Int32))) + (x2 - x2 / (3 : Int32) * (3 : Int32))) (fX7_personOf (x2 - x2 / (3 : Int32) * (3 : Int32)) b4)).bind fun M10 =>
          fX7_readsPeople_J68 x1 x2 (x2 - x2 / (3 : Int32) * (3 : Int32)) (fX7_readsPeople_L14 x1 k42 k93 n) M10
set_option maxRecDepth 100000 in
set_option maxHeartbeats 4000000 in
theorem fX7_readsPeople_L14_ok (x1 : Int32)  (k42 : Int32 → mm_M → Option (Int32 × mm_M)) (k93 : mm_M → Option (Int32 × mm_M)) (hk42 : ∀ (x2 : Int32) (M : mm_M), mm_C LR cX7_readsPeople 5 RX7 (some .int) 3 mm_eI 42 [some (.ref 0), none, some (.int x2), none, none] [] M (k42 x2 M)) (hk93 : ∀  (M : mm_M), mm_C LR cX7_readsPeople 5 RX7 (some .int) 3 mm_eI 93 [some (.ref 0), some (.int x1), none, none, none] [] M (k93 M)) : ∀ (n : Nat) (x2 : Int32) (M : mm_M), mm_C LR cX7_readsPeople 5 RX7 (some .int) 3 mm_eI 14 [some (.ref 0), some (.int x1), some (.int x2), none, none] [] M (fX7_readsPeople_L14 x1 k42 k93 n x2 M) := by
  intro n
  induction n with
  | zero => intro x2 M; exact mm_none
  | succ n ih =>
    intro x2 M
    rw [fX7_readsPeople_L14]
    refine mm_iload_n (q := 15) dX7_readsPeople_14 rfl rfl rfl ?_
    refine mm_iload_n (q := 16) dX7_readsPeople_15 rfl rfl rfl ?_
    refine mm_icmp_ge (q := 19) (tgt := 93) dX7_readsPeople_16 rfl (by decide) (fun c3 => ?_) (fun c3 => ?_)
    · refine mm_drop (ls' := [some (.ref 0), some (.int x1), none, none, none]) (mm_sub_at _ _ (And.intro rfl (And.intro rfl trivial))) ?_
      exact hk93  _
    · refine mm_iload_n (q := 20) dX7_readsPeople_19 rfl rfl rfl ?_
      refine mm_iconst (q := 21) dX7_readsPeople_20 rfl ic_3 ?_
      refine mm_iremC (q := 22) dX7_readsPeople_21 rfl (by decide) ?_
      refine mm_istore_n (q := 23) (ls' := [some (.ref 0), some (.int x1), some (.int x2), some (.int (x2 - x2 / (3 : Int32) * (3 : Int32))), none]) dX7_readsPeople_22 rfl rfl rfl (Nat.le_of_ble_eq_true rfl) rfl ?_
      refine mm_iload_n (q := 24) dX7_readsPeople_23 rfl rfl rfl ?_
      refine mm_aload_n (q := 25) dX7_readsPeople_24 rfl rfl rfl ?_
      refine mm_getR (q := 28) (k1 := 5) dX7_readsPeople_25 rfl lr_0 fd_X7_22 rfl ?_
      refine mm_iload_n (q := 29) dX7_readsPeople_28 rfl rfl rfl ?_
      refine mm_iald (q := 30) dX7_readsPeople_29 rfl lr_5 (fun b4 _ => ?_)
      refine mm_callST (as := [.int (x2 - x2 / (3 : Int32) * (3 : Int32)), .int b4]) (st := []) (q := 33) (fX7_personOf_ok (x2 - x2 / (3 : Int32) * (3 : Int32)) b4 M) ms_X7_119 rfl (Nat.le_of_ble_eq_true rfl) (Nat.le_of_ble_eq_true rfl) rfl dX7_readsPeople_30 rfl ?_
      refine mm_istore (q := 35) (ls' := [some (.ref 0), some (.int x1), some (.int x2), some (.int (x2 - x2 / (3 : Int32) * (3 : Int32))), some (.int (fX7_personOf (x2 - x2 / (3 : Int32) * (3 : Int32)) b4))]) dX7_readsPeople_33 rfl rfl (Nat.le_of_ble_eq_true rfl) rfl ?_
      refine mm_iload (q := 37) dX7_readsPeople_35 rfl rfl ?_
      refine mm_bipush (q := 39) dX7_readsPeople_37 rfl bp_m9 ?_
      refine mm_icmp_ne (q := 42) (tgt := 49) dX7_readsPeople_39 rfl (by decide) (fun c5 => ?_) (fun c5 => ?_)
      · refine mm_drop (ls' := [some (.ref 0), none, some (.int x2), none, none]) (mm_sub_at _ _ (And.intro rfl (And.intro rfl trivial))) ?_
        exact hk42 _ _
      · refine mm_iload_n (q := 50) dX7_readsPeople_49 rfl rfl rfl ?_
        refine mm_iconst (q := 51) dX7_readsPeople_50 rfl ic_2 ?_
        refine mm_icmp_ge (q := 54) (tgt := 68) dX7_readsPeople_51 rfl (by decide) (fun c6 => ?_) (fun c6 => ?_)
        · refine mm_drop (ls' := [some (.ref 0), some (.int x1), some (.int x2), some (.int (x2 - x2 / (3 : Int32) * (3 : Int32))), none]) (mm_sub_at _ _ (And.intro rfl (And.intro rfl (And.intro rfl (And.intro rfl trivial))))) ?_
          exact fX7_readsPeople_J68_ok _ _ _ _ _ ih
        · refine mm_aload_n (q := 55) dX7_readsPeople_54 rfl rfl rfl ?_
          refine mm_getR (q := 58) (k1 := 7) dX7_readsPeople_55 rfl lr_0 fd_X7_28 rfl ?_
          refine mm_iconst (q := 59) dX7_readsPeople_58 rfl ic_2 ?_
          refine mm_iload_n (q := 60) dX7_readsPeople_59 rfl rfl rfl ?_
          refine mm_iconst (q := 61) dX7_readsPeople_60 rfl ic_3 ?_
          refine mm_idivC (q := 62) dX7_readsPeople_61 rfl (by decide) ?_
          refine mm_imul (q := 63) dX7_readsPeople_62 rfl ?_
          refine mm_iload_n (q := 64) dX7_readsPeople_63 rfl rfl rfl ?_
          refine mm_iadd (q := 65) dX7_readsPeople_64 rfl ?_
          refine mm_iload (q := 67) dX7_readsPeople_65 rfl rfl ?_
          refine mm_iast (q := 68) dX7_readsPeople_67 rfl lr_7 (fun M10 _ => ?_)
          refine mm_drop (ls' := [some (.ref 0), some (.int x1), some (.int x2), some (.int (x2 - x2 / (3 : Int32) * (3 : Int32))), none]) (mm_sub_at _ _ (And.intro rfl (And.intro rfl (And.intro rfl (And.intro rfl trivial))))) ?_
          exact fX7_readsPeople_J68_ok _ _ _ _ _ ih
def fX7_readsPeople  (M : mm_M) : Option (Int32 × mm_M) :=
  (mm_pf M 0 7 (0 : Int32)).bind fun M1 =>
  (mm_rd M1 6 3 (0 : Int32)).bind fun b2 =>
  fX7_readsPeople_L14 b2 (fun z11 M12 =>
      (mm_pf M12 0 7 (0 : Int32)).bind fun M13 =>
      some (z11, M13)) (fun M14 =>
      if b2 ≤ 0 then
        some ((-1 : Int32), M14)
      else
        if (b2 - b2 / (3 : Int32) * (3 : Int32)) = (2 : Int32) then
          some ((-1 : Int32), M14)
        else
          (mm_pf M14 0 7 (0 : Int32)).bind fun M17 =>
          some (b2, M17)) 1000 (0 : Int32) M1
set_option maxRecDepth 100000 in
set_option maxHeartbeats 4000000 in
theorem fX7_readsPeople_ok  (M : mm_M)  : mm_E LR yX7_readsPeople cX7_readsPeople 5 (some .int) 3 mm_eI [.ref 0] M (fX7_readsPeople M) := by
  refine mm_E.of (own := RX7) (ls := [some (.ref 0), none, none, none, none]) (by decide) rfl rfl (Nat.le_of_ble_eq_true rfl) ?_
  unfold fX7_readsPeople
  refine mm_aload_n (q := 1) dX7_readsPeople_0 rfl rfl rfl ?_
  refine mm_iconst (q := 2) dX7_readsPeople_1 rfl ic_0 ?_
  refine mm_put (q := 5) dX7_readsPeople_2 rfl lr_0 fd_X7_116 ps_X7_7 rfl rfl rfl (fun M1 _ => ?_)
  refine mm_aload_n (q := 6) dX7_readsPeople_5 rfl rfl rfl ?_
  refine mm_getR (q := 9) (k1 := 6) dX7_readsPeople_6 rfl lr_0 fd_X7_25 rfl ?_
  refine mm_iconst (q := 10) dX7_readsPeople_9 rfl ic_0 ?_
  refine mm_iald (q := 11) dX7_readsPeople_10 rfl lr_6 (fun b2 _ => ?_)
  refine mm_istore_n (q := 12) (ls' := [some (.ref 0), some (.int b2), none, none, none]) dX7_readsPeople_11 rfl rfl rfl (Nat.le_of_ble_eq_true rfl) rfl ?_
  refine mm_iconst (q := 13) dX7_readsPeople_12 rfl ic_0 ?_
  refine mm_istore_n (q := 14) (ls' := [some (.ref 0), some (.int b2), some (.int (0 : Int32)), none, none]) dX7_readsPeople_13 rfl rfl rfl (Nat.le_of_ble_eq_true rfl) rfl ?_
  refine fX7_readsPeople_L14_ok b2 _ _ (fun z11 M12 => ?_) (fun M14 => ?_) _ _ _
  · refine mm_aload_n (q := 43) dX7_readsPeople_42 rfl rfl rfl ?_
    refine mm_iconst (q := 44) dX7_readsPeople_43 rfl ic_0 ?_
    refine mm_put (q := 47) dX7_readsPeople_44 rfl lr_0 fd_X7_116 ps_X7_7 rfl rfl rfl (fun M13 _ => ?_)
    refine mm_iload_n (q := 48) dX7_readsPeople_47 rfl rfl rfl ?_
    exact mm_iret rfl dX7_readsPeople_48
  · refine mm_iload_n (q := 94) dX7_readsPeople_93 rfl rfl rfl ?_
    refine mm_if_le (q := 97) (tgt := 111) dX7_readsPeople_94 rfl (by decide) (fun c15 => ?_) (fun c15 => ?_)
    · refine mm_iconst (q := 112) dX7_readsPeople_111 rfl ic_m1 ?_
      exact mm_iret rfl dX7_readsPeople_112
    · refine mm_iload_n (q := 98) dX7_readsPeople_97 rfl rfl rfl ?_
      refine mm_iconst (q := 99) dX7_readsPeople_98 rfl ic_3 ?_
      refine mm_iremC (q := 100) dX7_readsPeople_99 rfl (by decide) ?_
      refine mm_iconst (q := 101) dX7_readsPeople_100 rfl ic_2 ?_
      refine mm_icmp_eq (q := 104) (tgt := 111) dX7_readsPeople_101 rfl (by decide) (fun c16 => ?_) (fun c16 => ?_)
      · refine mm_iconst (q := 112) dX7_readsPeople_111 rfl ic_m1 ?_
        exact mm_iret rfl dX7_readsPeople_112
      · refine mm_aload_n (q := 105) dX7_readsPeople_104 rfl rfl rfl ?_
        refine mm_iconst (q := 106) dX7_readsPeople_105 rfl ic_0 ?_
        refine mm_put (q := 109) dX7_readsPeople_106 rfl lr_0 fd_X7_116 ps_X7_7 rfl rfl rfl (fun M17 _ => ?_)
        refine mm_iload_n (q := 110) dX7_readsPeople_109 rfl rfl rfl ?_
        exact mm_iret rfl dX7_readsPeople_110
def fX7_figureOf (x0 : Int32) (x1 : Int32) (x2 : Int32)  : Int32 :=
  if (fX7_in ((x0).toInt64) (((48 : Int32) + x1).toInt64) (((48 : Int32) + x2).toInt64)) = 0 then
    (-9 : Int32)
  else
    x0 - (48 : Int32)
set_option maxRecDepth 100000 in
set_option maxHeartbeats 4000000 in
theorem fX7_figureOf_ok (x0 : Int32) (x1 : Int32) (x2 : Int32) (M : mm_M)  : mm_E LR yX7_figureOf cX7_figureOf 3 (some .int) 1 (mm_pI M) [.int x0, .int x1, .int x2] M (some (fX7_figureOf x0 x1 x2)) := by
  refine mm_E.of (own := RX7) (ls := [some (.int x0), some (.int x1), some (.int x2)]) (by decide) rfl rfl (Nat.le_of_ble_eq_true rfl) ?_
  unfold fX7_figureOf
  refine mm_iload_n (q := 1) dX7_figureOf_0 rfl rfl rfl ?_
  refine mm_i2l (q := 2) dX7_figureOf_1 rfl ?_
  refine mm_bipush (q := 4) dX7_figureOf_2 rfl bp_48 ?_
  refine mm_iload_n (q := 5) dX7_figureOf_4 rfl rfl rfl ?_
  refine mm_iadd (q := 6) dX7_figureOf_5 rfl ?_
  refine mm_i2l (q := 7) dX7_figureOf_6 rfl ?_
  refine mm_bipush (q := 9) dX7_figureOf_7 rfl bp_48 ?_
  refine mm_iload_n (q := 10) dX7_figureOf_9 rfl rfl rfl ?_
  refine mm_iadd (q := 11) dX7_figureOf_10 rfl ?_
  refine mm_i2l (q := 12) dX7_figureOf_11 rfl ?_
  refine mm_callST (as := [.long ((x0).toInt64), .long (((48 : Int32) + x1).toInt64), .long (((48 : Int32) + x2).toInt64)]) (st := []) (q := 15) (fX7_in_ok ((x0).toInt64) (((48 : Int32) + x1).toInt64) (((48 : Int32) + x2).toInt64) M) ms_X7_76 rfl (Nat.le_of_ble_eq_true rfl) (Nat.le_of_ble_eq_true rfl) rfl dX7_figureOf_12 rfl ?_
  by_cases c1 : (fX7_in ((x0).toInt64) (((48 : Int32) + x1).toInt64) (((48 : Int32) + x2).toInt64)) = 0
  · simp only [if_pos c1]
    refine mm_if_eq_t (tgt := 25) c1 dX7_figureOf_15 (by decide) ?_
    refine mm_bipush (q := 27) dX7_figureOf_25 rfl bp_m9 ?_
    exact mm_iret rfl dX7_figureOf_27
  · simp only [if_neg c1]
    refine mm_if_eq_f (q := 18) (tgt := 25) c1 dX7_figureOf_15 rfl (by decide) ?_
    refine mm_iload_n (q := 19) dX7_figureOf_18 rfl rfl rfl ?_
    refine mm_bipush (q := 21) dX7_figureOf_19 rfl bp_48 ?_
    refine mm_isub (q := 22) dX7_figureOf_21 rfl ?_
    refine mm_goto (tgt := 27) dX7_figureOf_22 (by decide) ?_
    exact mm_iret rfl dX7_figureOf_27
def fX7_wordOf (x0 : Int32) (x1 : Int32)  : Int32 :=
  if (2 : Int32) ≤ x0 then
    (if x0 = (2 : Int32) then
      fX7_figureOf x1 (1 : Int32) (9 : Int32)
    else
      if x1 = (59 : Int32) then
        (0 : Int32)
      else
        (-9 : Int32))
  else
    fX7_figureOf x1 (0 : Int32) (7 : Int32)
set_option maxRecDepth 100000 in
set_option maxHeartbeats 4000000 in
theorem fX7_wordOf_ok (x0 : Int32) (x1 : Int32) (M : mm_M)  : mm_E LR yX7_wordOf cX7_wordOf 2 (some .int) 2 (mm_pI M) [.int x0, .int x1] M (some (fX7_wordOf x0 x1)) := by
  refine mm_E.of (own := RX7) (ls := [some (.int x0), some (.int x1)]) (by decide) rfl rfl (Nat.le_of_ble_eq_true rfl) ?_
  unfold fX7_wordOf
  refine mm_iload_n (q := 1) dX7_wordOf_0 rfl rfl rfl ?_
  refine mm_iconst (q := 2) dX7_wordOf_1 rfl ic_2 ?_
  by_cases c1 : (2 : Int32) ≤ x0
  · simp only [if_pos c1]
    refine mm_icmp_ge_t (tgt := 15) c1 dX7_wordOf_2 (by decide) ?_
    refine mm_iload_n (q := 16) dX7_wordOf_15 rfl rfl rfl ?_
    refine mm_iconst (q := 17) dX7_wordOf_16 rfl ic_2 ?_
    by_cases c2 : x0 = (2 : Int32)
    · simp only [if_pos c2]
      refine mm_icmp_ne_t (q := 20) (tgt := 30) c2 dX7_wordOf_17 rfl (by decide) ?_
      refine mm_iload_n (q := 21) dX7_wordOf_20 rfl rfl rfl ?_
      refine mm_iconst (q := 22) dX7_wordOf_21 rfl ic_1 ?_
      refine mm_bipush (q := 24) dX7_wordOf_22 rfl bp_9 ?_
      refine mm_callST (as := [.int x1, .int (1 : Int32), .int (9 : Int32)]) (st := []) (q := 27) (fX7_figureOf_ok x1 (1 : Int32) (9 : Int32) M) ms_X7_122 rfl (Nat.le_of_ble_eq_true rfl) (Nat.le_of_ble_eq_true rfl) rfl dX7_wordOf_24 rfl ?_
      refine mm_goto (tgt := 42) dX7_wordOf_27 (by decide) ?_
      exact mm_iret rfl dX7_wordOf_42
    · simp only [if_neg c2]
      refine mm_icmp_ne_f (tgt := 30) c2 dX7_wordOf_17 (by decide) ?_
      refine mm_iload_n (q := 31) dX7_wordOf_30 rfl rfl rfl ?_
      refine mm_bipush (q := 33) dX7_wordOf_31 rfl bp_59 ?_
      by_cases c3 : x1 = (59 : Int32)
      · simp only [if_pos c3]
        refine mm_icmp_ne_t (q := 36) (tgt := 40) c3 dX7_wordOf_33 rfl (by decide) ?_
        refine mm_iconst (q := 37) dX7_wordOf_36 rfl ic_0 ?_
        refine mm_goto (tgt := 42) dX7_wordOf_37 (by decide) ?_
        exact mm_iret rfl dX7_wordOf_42
      · simp only [if_neg c3]
        refine mm_icmp_ne_f (tgt := 40) c3 dX7_wordOf_33 (by decide) ?_
        refine mm_bipush (q := 42) dX7_wordOf_40 rfl bp_m9 ?_
        exact mm_iret rfl dX7_wordOf_42
  · simp only [if_neg c1]
    refine mm_icmp_ge_f (q := 5) (tgt := 15) c1 dX7_wordOf_2 rfl (by decide) ?_
    refine mm_iload_n (q := 6) dX7_wordOf_5 rfl rfl rfl ?_
    refine mm_iconst (q := 7) dX7_wordOf_6 rfl ic_0 ?_
    refine mm_bipush (q := 9) dX7_wordOf_7 rfl bp_7 ?_
    refine mm_callST (as := [.int x1, .int (0 : Int32), .int (7 : Int32)]) (st := []) (q := 12) (fX7_figureOf_ok x1 (0 : Int32) (7 : Int32) M) ms_X7_122 rfl (Nat.le_of_ble_eq_true rfl) (Nat.le_of_ble_eq_true rfl) rfl dX7_wordOf_9 rfl ?_
    refine mm_goto (tgt := 42) dX7_wordOf_12 (by decide) ?_
    exact mm_iret rfl dX7_wordOf_42
def fX7_readsWords_J71 (x1 : Int32) (x2 : Int32) (x3 : Int32) (kr : Int32 → mm_M → Option (Int32 × mm_M)) (M : mm_M) : Option (Int32 × mm_M) :=
  if x3 = (2 : Int32) then
    ((mm_pf M 0 9 ((M 0 9) + (1 : Int32))).bind fun M8 =>
    kr (x2 + (1 : Int32)) M8)
  else
    (mm_pf M 0 9 ((M 0 9) + (0 : Int32))).bind fun M9 =>
    kr (x2 + (1 : Int32)) M9
set_option maxRecDepth 100000 in
set_option maxHeartbeats 4000000 in
theorem fX7_readsWords_J71_ok (x1 : Int32) (x2 : Int32) (x3 : Int32)  (M : mm_M)  (kr : Int32 → mm_M → Option (Int32 × mm_M)) (hkr : ∀ (x2 : Int32) (M : mm_M), mm_C LR cX7_readsWords 5 RX7 (some .int) 3 mm_eI 14 [some (.ref 0), some (.int x1), some (.int x2), none, none] [] M (kr x2 M)) : mm_C LR cX7_readsWords 5 RX7 (some .int) 3 mm_eI 71 [some (.ref 0), some (.int x1), some (.int x2), some (.int x3), none] [] M (fX7_readsWords_J71 x1 x2 x3 kr M) := by
  unfold fX7_readsWords_J71
  refine mm_aload_n (q := 72) dX7_readsWords_71 rfl rfl rfl ?_
  refine mm_dup (q := 73) dX7_readsWords_72 rfl rfl ?_
  refine mm_getI (q := 76) dX7_readsWords_73 rfl lr_0 fd_X7_125 rfl ?_
  refine mm_iload_n (q := 77) dX7_readsWords_76 rfl rfl rfl ?_
  refine mm_iconst (q := 78) dX7_readsWords_77 rfl ic_2 ?_
  refine mm_icmp_ne (q := 81) (tgt := 85) dX7_readsWords_78 rfl (by decide) (fun c7 => ?_) (fun c7 => ?_)
  · refine mm_iconst (q := 82) dX7_readsWords_81 rfl ic_1 ?_
    refine mm_goto (tgt := 86) dX7_readsWords_82 (by decide) ?_
    refine mm_iadd (q := 87) dX7_readsWords_86 rfl ?_
    refine mm_put (q := 90) dX7_readsWords_87 rfl lr_0 fd_X7_125 ps_X7_9 rfl rfl rfl (fun M8 _ => ?_)
    refine mm_iinc (q := 93) (ls' := [some (.ref 0), some (.int x1), some (.int (x2 + (1 : Int32))), some (.int x3), none]) dX7_readsWords_90 rfl rfl (ii_1 _) rfl (Nat.le_of_ble_eq_true rfl) rfl ?_
    refine mm_goto (tgt := 14) dX7_readsWords_93 (by decide) ?_
    refine mm_drop (ls' := [some (.ref 0), some (.int x1), some (.int (x2 + (1 : Int32))), none, none]) (mm_sub_at _ _ (And.intro rfl (And.intro rfl (And.intro rfl trivial)))) ?_
    exact hkr _ _
  · refine mm_iconst (q := 86) dX7_readsWords_85 rfl ic_0 ?_
    refine mm_iadd (q := 87) dX7_readsWords_86 rfl ?_
    refine mm_put (q := 90) dX7_readsWords_87 rfl lr_0 fd_X7_125 ps_X7_9 rfl rfl rfl (fun M9 _ => ?_)
    refine mm_iinc (q := 93) (ls' := [some (.ref 0), some (.int x1), some (.int (x2 + (1 : Int32))), some (.int x3), none]) dX7_readsWords_90 rfl rfl (ii_1 _) rfl (Nat.le_of_ble_eq_true rfl) rfl ?_
    refine mm_goto (tgt := 14) dX7_readsWords_93 (by decide) ?_
    refine mm_drop (ls' := [some (.ref 0), some (.int x1), some (.int (x2 + (1 : Int32))), none, none]) (mm_sub_at _ _ (And.intro rfl (And.intro rfl (And.intro rfl trivial)))) ?_
    exact hkr _ _
def fX7_readsWords_L14 (x1 : Int32) (k45 : Int32 → mm_M → Option (Int32 × mm_M)) (k96 : mm_M → Option (Int32 × mm_M)) : Nat → Int32 → mm_M → Option (Int32 × mm_M)
  | 0, _, _ => none
  | n + 1, x2, M =>
    if x1 ≤ x2 then
      k96 M
    else
      (mm_rd M 5 144 ((48 : Int32) + x2)).bind fun b4 =>
      if (fX7_wordOf (x2 - x2 / (4 : Int32) * (4 : Int32)) b4) = (-9 : Int32) then
        k45 x2 M
      else
        if (3 : Int32) ≤ (x2 - x2 / (4 : Int32) * (4 : Int32)) then
          fX7_readsWords_J71 x1 x2 (x2 - x2 / (4 : Int32) * (4 : Int32)) (fX7_readsWords_L14 x1 k45 k96 n) M
        else
          (mm_wa M 8 36 (((3 : Int32) * (x2 / (4 : Int32))) + (x2 - x2 / (4 : Int32) * (4 : Int32))) (fX7_wordOf (x2 - x2 / (4 : Int32) * (4 : Int32)) b4)).bind fun M10 =>
          fX7_readsWords_J71 x1 x2 (x2 - x2 / (4 : Int32) * (4 : Int32)) (fX7_readsWords_L14 x1 k45 k96 n) M10
set_option maxRecDepth 100000 in
set_option maxHeartbeats 4000000 in
theorem fX7_readsWords_L14_ok (x1 : Int32)  (k45 : Int32 → mm_M → Option (Int32 × mm_M)) (k96 : mm_M → Option (Int32 × mm_M)) (hk45 : ∀ (x2 : Int32) (M : mm_M), mm_C LR cX7_readsWords 5 RX7 (some .int) 3 mm_eI 45 [some (.ref 0), none, some (.int x2), none, none] [] M (k45 x2 M)) (hk96 : ∀  (M : mm_M), mm_C LR cX7_readsWords 5 RX7 (some .int) 3 mm_eI 96 [some (.ref 0), some (.int x1), none, none, none] [] M (k96 M)) : ∀ (n : Nat) (x2 : Int32) (M : mm_M), mm_C LR cX7_readsWords 5 RX7 (some .int) 3 mm_eI 14 [some (.ref 0), some (.int x1), some (.int x2), none, none] [] M (fX7_readsWords_L14 x1 k45 k96 n x2 M) := by
  intro n
  induction n with
  | zero => intro x2 M; exact mm_none
  | succ n ih =>
    intro x2 M
    rw [fX7_readsWords_L14]
    refine mm_iload_n (q := 15) dX7_readsWords_14 rfl rfl rfl ?_
    refine mm_iload_n (q := 16) dX7_readsWords_15 rfl rfl rfl ?_
    refine mm_icmp_ge (q := 19) (tgt := 96) dX7_readsWords_16 rfl (by decide) (fun c3 => ?_) (fun c3 => ?_)
    · refine mm_drop (ls' := [some (.ref 0), some (.int x1), none, none, none]) (mm_sub_at _ _ (And.intro rfl (And.intro rfl trivial))) ?_
      exact hk96  _
    · refine mm_iload_n (q := 20) dX7_readsWords_19 rfl rfl rfl ?_
      refine mm_iconst (q := 21) dX7_readsWords_20 rfl ic_4 ?_
      refine mm_iremC (q := 22) dX7_readsWords_21 rfl (by decide) ?_
      refine mm_istore_n (q := 23) (ls' := [some (.ref 0), some (.int x1), some (.int x2), some (.int (x2 - x2 / (4 : Int32) * (4 : Int32))), none]) dX7_readsWords_22 rfl rfl rfl (Nat.le_of_ble_eq_true rfl) rfl ?_
      refine mm_iload_n (q := 24) dX7_readsWords_23 rfl rfl rfl ?_
      refine mm_aload_n (q := 25) dX7_readsWords_24 rfl rfl rfl ?_
      refine mm_getR (q := 28) (k1 := 5) dX7_readsWords_25 rfl lr_0 fd_X7_22 rfl ?_
      refine mm_bipush (q := 30) dX7_readsWords_28 rfl bp_48 ?_
      refine mm_iload_n (q := 31) dX7_readsWords_30 rfl rfl rfl ?_
      refine mm_iadd (q := 32) dX7_readsWords_31 rfl ?_
      refine mm_iald (q := 33) dX7_readsWords_32 rfl lr_5 (fun b4 _ => ?_)
      refine mm_callST (as := [.int (x2 - x2 / (4 : Int32) * (4 : Int32)), .int b4]) (st := []) (q := 36) (fX7_wordOf_ok (x2 - x2 / (4 : Int32) * (4 : Int32)) b4 M) ms_X7_128 rfl (Nat.le_of_ble_eq_true rfl) (Nat.le_of_ble_eq_true rfl) rfl dX7_readsWords_33 rfl ?_
      refine mm_istore (q := 38) (ls' := [some (.ref 0), some (.int x1), some (.int x2), some (.int (x2 - x2 / (4 : Int32) * (4 : Int32))), some (.int (fX7_wordOf (x2 - x2 / (4 : Int32) * (4 : Int32)) b4))]) dX7_readsWords_36 rfl rfl (Nat.le_of_ble_eq_true rfl) rfl ?_
      refine mm_iload (q := 40) dX7_readsWords_38 rfl rfl ?_
      refine mm_bipush (q := 42) dX7_readsWords_40 rfl bp_m9 ?_
      refine mm_icmp_ne (q := 45) (tgt := 52) dX7_readsWords_42 rfl (by decide) (fun c5 => ?_) (fun c5 => ?_)
      · refine mm_drop (ls' := [some (.ref 0), none, some (.int x2), none, none]) (mm_sub_at _ _ (And.intro rfl (And.intro rfl trivial))) ?_
        exact hk45 _ _
      · refine mm_iload_n (q := 53) dX7_readsWords_52 rfl rfl rfl ?_
        refine mm_iconst (q := 54) dX7_readsWords_53 rfl ic_3 ?_
        refine mm_icmp_ge (q := 57) (tgt := 71) dX7_readsWords_54 rfl (by decide) (fun c6 => ?_) (fun c6 => ?_)
        · refine mm_drop (ls' := [some (.ref 0), some (.int x1), some (.int x2), some (.int (x2 - x2 / (4 : Int32) * (4 : Int32))), none]) (mm_sub_at _ _ (And.intro rfl (And.intro rfl (And.intro rfl (And.intro rfl trivial))))) ?_
          exact fX7_readsWords_J71_ok _ _ _ _ _ ih
        · refine mm_aload_n (q := 58) dX7_readsWords_57 rfl rfl rfl ?_
          refine mm_getR (q := 61) (k1 := 8) dX7_readsWords_58 rfl lr_0 fd_X7_31 rfl ?_
          refine mm_iconst (q := 62) dX7_readsWords_61 rfl ic_3 ?_
          refine mm_iload_n (q := 63) dX7_readsWords_62 rfl rfl rfl ?_
          refine mm_iconst (q := 64) dX7_readsWords_63 rfl ic_4 ?_
          refine mm_idivC (q := 65) dX7_readsWords_64 rfl (by decide) ?_
          refine mm_imul (q := 66) dX7_readsWords_65 rfl ?_
          refine mm_iload_n (q := 67) dX7_readsWords_66 rfl rfl rfl ?_
          refine mm_iadd (q := 68) dX7_readsWords_67 rfl ?_
          refine mm_iload (q := 70) dX7_readsWords_68 rfl rfl ?_
          refine mm_iast (q := 71) dX7_readsWords_70 rfl lr_8 (fun M10 _ => ?_)
          refine mm_drop (ls' := [some (.ref 0), some (.int x1), some (.int x2), some (.int (x2 - x2 / (4 : Int32) * (4 : Int32))), none]) (mm_sub_at _ _ (And.intro rfl (And.intro rfl (And.intro rfl (And.intro rfl trivial))))) ?_
          exact fX7_readsWords_J71_ok _ _ _ _ _ ih
def fX7_readsWords  (M : mm_M) : Option (Int32 × mm_M) :=
  (mm_pf M 0 9 (0 : Int32)).bind fun M1 =>
  (mm_rd M1 6 3 (1 : Int32)).bind fun b2 =>
  fX7_readsWords_L14 b2 (fun z11 M12 =>
      (mm_pf M12 0 9 (0 : Int32)).bind fun M13 =>
      some (z11, M13)) (fun M14 =>
      if b2 ≤ 0 then
        some ((-1 : Int32), M14)
      else
        if (b2 - b2 / (4 : Int32) * (4 : Int32)) = (3 : Int32) then
          some ((-1 : Int32), M14)
        else
          (mm_pf M14 0 9 (0 : Int32)).bind fun M17 =>
          some (b2, M17)) 1000 (0 : Int32) M1
set_option maxRecDepth 100000 in
set_option maxHeartbeats 4000000 in
theorem fX7_readsWords_ok  (M : mm_M)  : mm_E LR yX7_readsWords cX7_readsWords 5 (some .int) 3 mm_eI [.ref 0] M (fX7_readsWords M) := by
  refine mm_E.of (own := RX7) (ls := [some (.ref 0), none, none, none, none]) (by decide) rfl rfl (Nat.le_of_ble_eq_true rfl) ?_
  unfold fX7_readsWords
  refine mm_aload_n (q := 1) dX7_readsWords_0 rfl rfl rfl ?_
  refine mm_iconst (q := 2) dX7_readsWords_1 rfl ic_0 ?_
  refine mm_put (q := 5) dX7_readsWords_2 rfl lr_0 fd_X7_125 ps_X7_9 rfl rfl rfl (fun M1 _ => ?_)
  refine mm_aload_n (q := 6) dX7_readsWords_5 rfl rfl rfl ?_
  refine mm_getR (q := 9) (k1 := 6) dX7_readsWords_6 rfl lr_0 fd_X7_25 rfl ?_
  refine mm_iconst (q := 10) dX7_readsWords_9 rfl ic_1 ?_
  refine mm_iald (q := 11) dX7_readsWords_10 rfl lr_6 (fun b2 _ => ?_)
  refine mm_istore_n (q := 12) (ls' := [some (.ref 0), some (.int b2), none, none, none]) dX7_readsWords_11 rfl rfl rfl (Nat.le_of_ble_eq_true rfl) rfl ?_
  refine mm_iconst (q := 13) dX7_readsWords_12 rfl ic_0 ?_
  refine mm_istore_n (q := 14) (ls' := [some (.ref 0), some (.int b2), some (.int (0 : Int32)), none, none]) dX7_readsWords_13 rfl rfl rfl (Nat.le_of_ble_eq_true rfl) rfl ?_
  refine fX7_readsWords_L14_ok b2 _ _ (fun z11 M12 => ?_) (fun M14 => ?_) _ _ _
  · refine mm_aload_n (q := 46) dX7_readsWords_45 rfl rfl rfl ?_
    refine mm_iconst (q := 47) dX7_readsWords_46 rfl ic_0 ?_
    refine mm_put (q := 50) dX7_readsWords_47 rfl lr_0 fd_X7_125 ps_X7_9 rfl rfl rfl (fun M13 _ => ?_)
    refine mm_iload_n (q := 51) dX7_readsWords_50 rfl rfl rfl ?_
    exact mm_iret rfl dX7_readsWords_51
  · refine mm_iload_n (q := 97) dX7_readsWords_96 rfl rfl rfl ?_
    refine mm_if_le (q := 100) (tgt := 114) dX7_readsWords_97 rfl (by decide) (fun c15 => ?_) (fun c15 => ?_)
    · refine mm_iconst (q := 115) dX7_readsWords_114 rfl ic_m1 ?_
      exact mm_iret rfl dX7_readsWords_115
    · refine mm_iload_n (q := 101) dX7_readsWords_100 rfl rfl rfl ?_
      refine mm_iconst (q := 102) dX7_readsWords_101 rfl ic_4 ?_
      refine mm_iremC (q := 103) dX7_readsWords_102 rfl (by decide) ?_
      refine mm_iconst (q := 104) dX7_readsWords_103 rfl ic_3 ?_
      refine mm_icmp_eq (q := 107) (tgt := 114) dX7_readsWords_104 rfl (by decide) (fun c16 => ?_) (fun c16 => ?_)
      · refine mm_iconst (q := 115) dX7_readsWords_114 rfl ic_m1 ?_
        exact mm_iret rfl dX7_readsWords_115
      · refine mm_aload_n (q := 108) dX7_readsWords_107 rfl rfl rfl ?_
        refine mm_iconst (q := 109) dX7_readsWords_108 rfl ic_0 ?_
        refine mm_put (q := 112) dX7_readsWords_109 rfl lr_0 fd_X7_125 ps_X7_9 rfl rfl rfl (fun M17 _ => ?_)
        refine mm_iload_n (q := 113) dX7_readsWords_112 rfl rfl rfl ?_
        exact mm_iret rfl dX7_readsWords_113
def fX7_meetingOf (x0 : Int32) (x1 : Int32)  : Int32 :=
  if x0 = 0 then
    fX7_dayOf x1
  else
    if (3 : Int32) ≤ x0 then
      (if x1 = (59 : Int32) then
        (0 : Int32)
      else
        (-9 : Int32))
    else
      fX7_figureOf x1 (0 : Int32) (7 : Int32)
set_option maxRecDepth 100000 in
set_option maxHeartbeats 4000000 in
theorem fX7_meetingOf_ok (x0 : Int32) (x1 : Int32) (M : mm_M)  : mm_E LR yX7_meetingOf cX7_meetingOf 2 (some .int) 2 (mm_pI M) [.int x0, .int x1] M (some (fX7_meetingOf x0 x1)) := by
  refine mm_E.of (own := RX7) (ls := [some (.int x0), some (.int x1)]) (by decide) rfl rfl (Nat.le_of_ble_eq_true rfl) ?_
  unfold fX7_meetingOf
  refine mm_iload_n (q := 1) dX7_meetingOf_0 rfl rfl rfl ?_
  by_cases c1 : x0 = 0
  · simp only [if_pos c1]
    refine mm_if_ne_t (q := 4) (tgt := 11) c1 dX7_meetingOf_1 rfl (by decide) ?_
    refine mm_iload_n (q := 5) dX7_meetingOf_4 rfl rfl rfl ?_
    refine mm_callST (as := [.int x1]) (st := []) (q := 8) (fX7_dayOf_ok x1 M) ms_X7_113 rfl (Nat.le_of_ble_eq_true rfl) (Nat.le_of_ble_eq_true rfl) rfl dX7_meetingOf_5 rfl ?_
    refine mm_goto (tgt := 38) dX7_meetingOf_8 (by decide) ?_
    exact mm_iret rfl dX7_meetingOf_38
  · simp only [if_neg c1]
    refine mm_if_ne_f (tgt := 11) c1 dX7_meetingOf_1 (by decide) ?_
    refine mm_iload_n (q := 12) dX7_meetingOf_11 rfl rfl rfl ?_
    refine mm_iconst (q := 13) dX7_meetingOf_12 rfl ic_3 ?_
    by_cases c2 : (3 : Int32) ≤ x0
    · simp only [if_pos c2]
      refine mm_icmp_ge_t (tgt := 26) c2 dX7_meetingOf_13 (by decide) ?_
      refine mm_iload_n (q := 27) dX7_meetingOf_26 rfl rfl rfl ?_
      refine mm_bipush (q := 29) dX7_meetingOf_27 rfl bp_59 ?_
      by_cases c3 : x1 = (59 : Int32)
      · simp only [if_pos c3]
        refine mm_icmp_ne_t (q := 32) (tgt := 36) c3 dX7_meetingOf_29 rfl (by decide) ?_
        refine mm_iconst (q := 33) dX7_meetingOf_32 rfl ic_0 ?_
        refine mm_goto (tgt := 38) dX7_meetingOf_33 (by decide) ?_
        exact mm_iret rfl dX7_meetingOf_38
      · simp only [if_neg c3]
        refine mm_icmp_ne_f (tgt := 36) c3 dX7_meetingOf_29 (by decide) ?_
        refine mm_bipush (q := 38) dX7_meetingOf_36 rfl bp_m9 ?_
        exact mm_iret rfl dX7_meetingOf_38
    · simp only [if_neg c2]
      refine mm_icmp_ge_f (q := 16) (tgt := 26) c2 dX7_meetingOf_13 rfl (by decide) ?_
      refine mm_iload_n (q := 17) dX7_meetingOf_16 rfl rfl rfl ?_
      refine mm_iconst (q := 18) dX7_meetingOf_17 rfl ic_0 ?_
      refine mm_bipush (q := 20) dX7_meetingOf_18 rfl bp_7 ?_
      refine mm_callST (as := [.int x1, .int (0 : Int32), .int (7 : Int32)]) (st := []) (q := 23) (fX7_figureOf_ok x1 (0 : Int32) (7 : Int32) M) ms_X7_122 rfl (Nat.le_of_ble_eq_true rfl) (Nat.le_of_ble_eq_true rfl) rfl dX7_meetingOf_20 rfl ?_
      refine mm_goto (tgt := 38) dX7_meetingOf_23 (by decide) ?_
      exact mm_iret rfl dX7_meetingOf_38
def fX7_readsMeetings_J71 (x1 : Int32) (x2 : Int32) (x3 : Int32) (kr : Int32 → mm_M → Option (Int32 × mm_M)) (M : mm_M) : Option (Int32 × mm_M) :=
  if x3 = (2 : Int32) then
    ((mm_pf M 0 11 ((M 0 11) + (1 : Int32))).bind fun M8 =>
    kr (x2 + (1 : Int32)) M8)
  else
    (mm_pf M 0 11 ((M 0 11) + (0 : Int32))).bind fun M9 =>
    kr (x2 + (1 : Int32)) M9
set_option maxRecDepth 100000 in
set_option maxHeartbeats 4000000 in
theorem fX7_readsMeetings_J71_ok (x1 : Int32) (x2 : Int32) (x3 : Int32)  (M : mm_M)  (kr : Int32 → mm_M → Option (Int32 × mm_M)) (hkr : ∀ (x2 : Int32) (M : mm_M), mm_C LR cX7_readsMeetings 5 RX7 (some .int) 3 mm_eI 14 [some (.ref 0), some (.int x1), some (.int x2), none, none] [] M (kr x2 M)) : mm_C LR cX7_readsMeetings 5 RX7 (some .int) 3 mm_eI 71 [some (.ref 0), some (.int x1), some (.int x2), some (.int x3), none] [] M (fX7_readsMeetings_J71 x1 x2 x3 kr M) := by
  unfold fX7_readsMeetings_J71
  refine mm_aload_n (q := 72) dX7_readsMeetings_71 rfl rfl rfl ?_
  refine mm_dup (q := 73) dX7_readsMeetings_72 rfl rfl ?_
  refine mm_getI (q := 76) dX7_readsMeetings_73 rfl lr_0 fd_X7_131 rfl ?_
  refine mm_iload_n (q := 77) dX7_readsMeetings_76 rfl rfl rfl ?_
  refine mm_iconst (q := 78) dX7_readsMeetings_77 rfl ic_2 ?_
  refine mm_icmp_ne (q := 81) (tgt := 85) dX7_readsMeetings_78 rfl (by decide) (fun c7 => ?_) (fun c7 => ?_)
  · refine mm_iconst (q := 82) dX7_readsMeetings_81 rfl ic_1 ?_
    refine mm_goto (tgt := 86) dX7_readsMeetings_82 (by decide) ?_
    refine mm_iadd (q := 87) dX7_readsMeetings_86 rfl ?_
    refine mm_put (q := 90) dX7_readsMeetings_87 rfl lr_0 fd_X7_131 ps_X7_11 rfl rfl rfl (fun M8 _ => ?_)
    refine mm_iinc (q := 93) (ls' := [some (.ref 0), some (.int x1), some (.int (x2 + (1 : Int32))), some (.int x3), none]) dX7_readsMeetings_90 rfl rfl (ii_1 _) rfl (Nat.le_of_ble_eq_true rfl) rfl ?_
    refine mm_goto (tgt := 14) dX7_readsMeetings_93 (by decide) ?_
    refine mm_drop (ls' := [some (.ref 0), some (.int x1), some (.int (x2 + (1 : Int32))), none, none]) (mm_sub_at _ _ (And.intro rfl (And.intro rfl (And.intro rfl trivial)))) ?_
    exact hkr _ _
  · refine mm_iconst (q := 86) dX7_readsMeetings_85 rfl ic_0 ?_
    refine mm_iadd (q := 87) dX7_readsMeetings_86 rfl ?_
    refine mm_put (q := 90) dX7_readsMeetings_87 rfl lr_0 fd_X7_131 ps_X7_11 rfl rfl rfl (fun M9 _ => ?_)
    refine mm_iinc (q := 93) (ls' := [some (.ref 0), some (.int x1), some (.int (x2 + (1 : Int32))), some (.int x3), none]) dX7_readsMeetings_90 rfl rfl (ii_1 _) rfl (Nat.le_of_ble_eq_true rfl) rfl ?_
    refine mm_goto (tgt := 14) dX7_readsMeetings_93 (by decide) ?_
    refine mm_drop (ls' := [some (.ref 0), some (.int x1), some (.int (x2 + (1 : Int32))), none, none]) (mm_sub_at _ _ (And.intro rfl (And.intro rfl (And.intro rfl trivial)))) ?_
    exact hkr _ _
def fX7_readsMeetings_L14 (x1 : Int32) (k45 : Int32 → mm_M → Option (Int32 × mm_M)) (k96 : mm_M → Option (Int32 × mm_M)) : Nat → Int32 → mm_M → Option (Int32 × mm_M)
  | 0, _, _ => none
  | n + 1, x2, M =>
    if x1 ≤ x2 then
      k96 M
    else
      (mm_rd M 5 144 ((96 : Int32) + x2)).bind fun b4 =>
      if (fX7_meetingOf (x2 - x2 / (4 : Int32) * (4 : Int32)) b4) = (-9 : Int32) then
        k45 x2 M
      else
        if (3 : Int32) ≤ (x2 - x2 / (4 : Int32) * (4 : Int32)) then
          fX7_readsMeetings_J71 x1 x2 (x2 - x2 / (4 : Int32) * (4 : Int32)) (fX7_readsMeetings_L14 x1 k45 k96 n) M
        else
          (mm_wa M 9 36 (((3 : Int32) * (x2 / (4 : Int32))) + (x2 - x2 / (4 : Int32) * (4 : Int32))) (fX7_meetingOf (x2 - x2 / (4 : Int32) * (4 : Int32)) b4)).bind fun M10 =>
          fX7_readsMeetings_J71 x1 x2 (x2 - x2 / (4 : Int32) * (4 : Int32)) (fX7_readsMeetings_L14 x1 k45 k96 n) M10
set_option maxRecDepth 100000 in
set_option maxHeartbeats 4000000 in
theorem fX7_readsMeetings_L14_ok (x1 : Int32)  (k45 : Int32 → mm_M → Option (Int32 × mm_M)) (k96 : mm_M → Option (Int32 × mm_M)) (hk45 : ∀ (x2 : Int32) (M : mm_M), mm_C LR cX7_readsMeetings 5 RX7 (some .int) 3 mm_eI 45 [some (.ref 0), none, some (.int x2), none, none] [] M (k45 x2 M)) (hk96 : ∀  (M : mm_M), mm_C LR cX7_readsMeetings 5 RX7 (some .int) 3 mm_eI 96 [some (.ref 0), some (.int x1), none, none, none] [] M (k96 M)) : ∀ (n : Nat) (x2 : Int32) (M : mm_M), mm_C LR cX7_readsMeetings 5 RX7 (some .int) 3 mm_eI 14 [some (.ref 0), some (.int x1), some (.int x2), none, none] [] M (fX7_readsMeetings_L14 x1 k45 k96 n x2 M) := by
  intro n
  induction n with
  | zero => intro x2 M; exact mm_none
  | succ n ih =>
    intro x2 M
    rw [fX7_readsMeetings_L14]
    refine mm_iload_n (q := 15) dX7_readsMeetings_14 rfl rfl rfl ?_
    refine mm_iload_n (q := 16) dX7_readsMeetings_15 rfl rfl rfl ?_
    refine mm_icmp_ge (q := 19) (tgt := 96) dX7_readsMeetings_16 rfl (by decide) (fun c3 => ?_) (fun c3 => ?_)
    · refine mm_drop (ls' := [some (.ref 0), some (.int x1), none, none, none]) (mm_sub_at _ _ (And.intro rfl (And.intro rfl trivial))) ?_
      exact hk96  _
    · refine mm_iload_n (q := 20) dX7_readsMeetings_19 rfl rfl rfl ?_
      refine mm_iconst (q := 21) dX7_readsMeetings_20 rfl ic_4 ?_
      refine mm_iremC (q := 22) dX7_readsMeetings_21 rfl (by decide) ?_
      refine mm_istore_n (q := 23) (ls' := [some (.ref 0), some (.int x1), some (.int x2), some (.int (x2 - x2 / (4 : Int32) * (4 : Int32))), none]) dX7_readsMeetings_22 rfl rfl rfl (Nat.le_of_ble_eq_true rfl) rfl ?_
      refine mm_iload_n (q := 24) dX7_readsMeetings_23 rfl rfl rfl ?_
      refine mm_aload_n (q := 25) dX7_readsMeetings_24 rfl rfl rfl ?_
      refine mm_getR (q := 28) (k1 := 5) dX7_readsMeetings_25 rfl lr_0 fd_X7_22 rfl ?_
      refine mm_bipush (q := 30) dX7_readsMeetings_28 rfl bp_96 ?_
      refine mm_iload_n (q := 31) dX7_readsMeetings_30 rfl rfl rfl ?_
      refine mm_iadd (q := 32) dX7_readsMeetings_31 rfl ?_
      refine mm_iald (q := 33) dX7_readsMeetings_32 rfl lr_5 (fun b4 _ => ?_)
      refine mm_callST (as := [.int (x2 - x2 / (4 : Int32) * (4 : Int32)), .int b4]) (st := []) (q := 36) (fX7_meetingOf_ok (x2 - x2 / (4 : Int32) * (4 : Int32)) b4 M) ms_X7_134 rfl (Nat.le_of_ble_eq_true rfl) (Nat.le_of_ble_eq_true rfl) rfl dX7_readsMeetings_33 rfl ?_
      refine mm_istore (q := 38) (ls' := [some (.ref 0), some (.int x1), some (.int x2), some (.int (x2 - x2 / (4 : Int32) * (4 : Int32))), some (.int (fX7_meetingOf (x2 - x2 / (4 : Int32) * (4 : Int32)) b4))]) dX7_readsMeetings_36 rfl rfl (Nat.le_of_ble_eq_true rfl) rfl ?_
      refine mm_iload (q := 40) dX7_readsMeetings_38 rfl rfl ?_
      refine mm_bipush (q := 42) dX7_readsMeetings_40 rfl bp_m9 ?_
      refine mm_icmp_ne (q := 45) (tgt := 52) dX7_readsMeetings_42 rfl (by decide) (fun c5 => ?_) (fun c5 => ?_)
      · refine mm_drop (ls' := [some (.ref 0), none, some (.int x2), none, none]) (mm_sub_at _ _ (And.intro rfl (And.intro rfl trivial))) ?_
        exact hk45 _ _
      · refine mm_iload_n (q := 53) dX7_readsMeetings_52 rfl rfl rfl ?_
        refine mm_iconst (q := 54) dX7_readsMeetings_53 rfl ic_3 ?_
        refine mm_icmp_ge (q := 57) (tgt := 71) dX7_readsMeetings_54 rfl (by decide) (fun c6 => ?_) (fun c6 => ?_)
        · refine mm_drop (ls' := [some (.ref 0), some (.int x1), some (.int x2), some (.int (x2 - x2 / (4 : Int32) * (4 : Int32))), none]) (mm_sub_at _ _ (And.intro rfl (And.intro rfl (And.intro rfl (And.intro rfl trivial))))) ?_
          exact fX7_readsMeetings_J71_ok _ _ _ _ _ ih
        · refine mm_aload_n (q := 58) dX7_readsMeetings_57 rfl rfl rfl ?_
          refine mm_getR (q := 61) (k1 := 9) dX7_readsMeetings_58 rfl lr_0 fd_X7_34 rfl ?_
          refine mm_iconst (q := 62) dX7_readsMeetings_61 rfl ic_3 ?_
          refine mm_iload_n (q := 63) dX7_readsMeetings_62 rfl rfl rfl ?_
          refine mm_iconst (q := 64) dX7_readsMeetings_63 rfl ic_4 ?_
          refine mm_idivC (q := 65) dX7_readsMeetings_64 rfl (by decide) ?_
          refine mm_imul (q := 66) dX7_readsMeetings_65 rfl ?_
          refine mm_iload_n (q := 67) dX7_readsMeetings_66 rfl rfl rfl ?_
          refine mm_iadd (q := 68) dX7_readsMeetings_67 rfl ?_
          refine mm_iload (q := 70) dX7_readsMeetings_68 rfl rfl ?_
          refine mm_iast (q := 71) dX7_readsMeetings_70 rfl lr_9 (fun M10 _ => ?_)
          refine mm_drop (ls' := [some (.ref 0), some (.int x1), some (.int x2), some (.int (x2 - x2 / (4 : Int32) * (4 : Int32))), none]) (mm_sub_at _ _ (And.intro rfl (And.intro rfl (And.intro rfl (And.intro rfl trivial))))) ?_
          exact fX7_readsMeetings_J71_ok _ _ _ _ _ ih
def fX7_readsMeetings  (M : mm_M) : Option (Int32 × mm_M) :=
  (mm_pf M 0 11 (0 : Int32)).bind fun M1 =>
  (mm_rd M1 6 3 (2 : Int32)).bind fun b2 =>
  fX7_readsMeetings_L14 b2 (fun z11 M12 =>
      (mm_pf M12 0 11 (0 : Int32)).bind fun M13 =>
      some (z11, M13)) (fun M14 =>
      if b2 ≤ 0 then
        some ((-1 : Int32), M14)
      else
        if (b2 - b2 / (4 : Int32) * (4 : Int32)) = (3 : Int32) then
          some ((-1 : Int32), M14)
        else
          (mm_pf M14 0 11 (0 : Int32)).bind fun M17 =>
          some (b2, M17)) 1000 (0 : Int32) M1
set_option maxRecDepth 100000 in
set_option maxHeartbeats 4000000 in
theorem fX7_readsMeetings_ok  (M : mm_M)  : mm_E LR yX7_readsMeetings cX7_readsMeetings 5 (some .int) 3 mm_eI [.ref 0] M (fX7_readsMeetings M) := by
  refine mm_E.of (own := RX7) (ls := [some (.ref 0), none, none, none, none]) (by decide) rfl rfl (Nat.le_of_ble_eq_true rfl) ?_
  unfold fX7_readsMeetings
  refine mm_aload_n (q := 1) dX7_readsMeetings_0 rfl rfl rfl ?_
  refine mm_iconst (q := 2) dX7_readsMeetings_1 rfl ic_0 ?_
  refine mm_put (q := 5) dX7_readsMeetings_2 rfl lr_0 fd_X7_131 ps_X7_11 rfl rfl rfl (fun M1 _ => ?_)
  refine mm_aload_n (q := 6) dX7_readsMeetings_5 rfl rfl rfl ?_
  refine mm_getR (q := 9) (k1 := 6) dX7_readsMeetings_6 rfl lr_0 fd_X7_25 rfl ?_
  refine mm_iconst (q := 10) dX7_readsMeetings_9 rfl ic_2 ?_
  refine mm_iald (q := 11) dX7_readsMeetings_10 rfl lr_6 (fun b2 _ => ?_)
  refine mm_istore_n (q := 12) (ls' := [some (.ref 0), some (.int b2), none, none, none]) dX7_readsMeetings_11 rfl rfl rfl (Nat.le_of_ble_eq_true rfl) rfl ?_
  refine mm_iconst (q := 13) dX7_readsMeetings_12 rfl ic_0 ?_
  refine mm_istore_n (q := 14) (ls' := [some (.ref 0), some (.int b2), some (.int (0 : Int32)), none, none]) dX7_readsMeetings_13 rfl rfl rfl (Nat.le_of_ble_eq_true rfl) rfl ?_
  refine fX7_readsMeetings_L14_ok b2 _ _ (fun z11 M12 => ?_) (fun M14 => ?_) _ _ _
  · refine mm_aload_n (q := 46) dX7_readsMeetings_45 rfl rfl rfl ?_
    refine mm_iconst (q := 47) dX7_readsMeetings_46 rfl ic_0 ?_
    refine mm_put (q := 50) dX7_readsMeetings_47 rfl lr_0 fd_X7_131 ps_X7_11 rfl rfl rfl (fun M13 _ => ?_)
    refine mm_iload_n (q := 51) dX7_readsMeetings_50 rfl rfl rfl ?_
    exact mm_iret rfl dX7_readsMeetings_51
  · refine mm_iload_n (q := 97) dX7_readsMeetings_96 rfl rfl rfl ?_
    refine mm_if_le (q := 100) (tgt := 114) dX7_readsMeetings_97 rfl (by decide) (fun c15 => ?_) (fun c15 => ?_)
    · refine mm_iconst (q := 115) dX7_readsMeetings_114 rfl ic_m1 ?_
      exact mm_iret rfl dX7_readsMeetings_115
    · refine mm_iload_n (q := 101) dX7_readsMeetings_100 rfl rfl rfl ?_
      refine mm_iconst (q := 102) dX7_readsMeetings_101 rfl ic_4 ?_
      refine mm_iremC (q := 103) dX7_readsMeetings_102 rfl (by decide) ?_
      refine mm_iconst (q := 104) dX7_readsMeetings_103 rfl ic_3 ?_
      refine mm_icmp_eq (q := 107) (tgt := 114) dX7_readsMeetings_104 rfl (by decide) (fun c16 => ?_) (fun c16 => ?_)
      · refine mm_iconst (q := 115) dX7_readsMeetings_114 rfl ic_m1 ?_
        exact mm_iret rfl dX7_readsMeetings_115
      · refine mm_aload_n (q := 108) dX7_readsMeetings_107 rfl rfl rfl ?_
        refine mm_iconst (q := 109) dX7_readsMeetings_108 rfl ic_0 ?_
        refine mm_put (q := 112) dX7_readsMeetings_109 rfl lr_0 fd_X7_131 ps_X7_11 rfl rfl rfl (fun M17 _ => ?_)
        refine mm_iload_n (q := 113) dX7_readsMeetings_112 rfl rfl rfl ?_
        exact mm_iret rfl dX7_readsMeetings_113
def fX7_isPerson (x1 : Int32) (M : mm_M) : Option (Int32) :=
  (mm_zb (fX7_in ((x1).toInt64) (0 : Int64) (((M 0 7) - (1 : Int32)).toInt64))).bind fun b1 =>
  some b1
set_option maxRecDepth 100000 in
set_option maxHeartbeats 4000000 in
theorem fX7_isPerson_ok (x1 : Int32) (M : mm_M)  : mm_E LR yX7_isPerson cX7_isPerson 2 (some .boolean) 1 (mm_pI M) [.ref 0, .int x1] M (fX7_isPerson x1 M) := by
  refine mm_E.of (own := RX7) (ls := [some (.ref 0), some (.int x1)]) (by decide) rfl rfl (Nat.le_of_ble_eq_true rfl) ?_
  unfold fX7_isPerson
  refine mm_iload_n (q := 1) dX7_isPerson_0 rfl rfl rfl ?_
  refine mm_i2l (q := 2) dX7_isPerson_1 rfl ?_
  refine mm_lconst (q := 3) dX7_isPerson_2 rfl lk_0 ?_
  refine mm_aload_n (q := 4) dX7_isPerson_3 rfl rfl rfl ?_
  refine mm_getI (q := 7) dX7_isPerson_4 rfl lr_0 fd_X7_116 rfl ?_
  refine mm_iconst (q := 8) dX7_isPerson_7 rfl ic_1 ?_
  refine mm_isub (q := 9) dX7_isPerson_8 rfl ?_
  refine mm_i2l (q := 10) dX7_isPerson_9 rfl ?_
  refine mm_callST (as := [.long ((x1).toInt64), .long (0 : Int64), .long (((M 0 7) - (1 : Int32)).toInt64)]) (st := []) (q := 13) (fX7_in_ok ((x1).toInt64) (0 : Int64) (((M 0 7) - (1 : Int32)).toInt64) M) ms_X7_76 rfl (Nat.le_of_ble_eq_true rfl) (Nat.le_of_ble_eq_true rfl) rfl dX7_isPerson_10 rfl ?_
  exact mm_zretB (fun _ => rfl) (fun _ => rfl) dX7_isPerson_13
def fX7_lesser (x0 : Int32) (x1 : Int32)  : Int32 :=
  if x1 ≤ x0 then
    x1
  else
    x0
set_option maxRecDepth 100000 in
set_option maxHeartbeats 4000000 in
theorem fX7_lesser_ok (x0 : Int32) (x1 : Int32) (M : mm_M)  : mm_E LR yX7_lesser cX7_lesser 2 (some .int) 0 (mm_pI M) [.int x0, .int x1] M (some (fX7_lesser x0 x1)) := by
  refine mm_E.of (own := RX7) (ls := [some (.int x0), some (.int x1)]) (by decide) rfl rfl (Nat.le_of_ble_eq_true rfl) ?_
  unfold fX7_lesser
  refine mm_iload_n (q := 1) dX7_lesser_0 rfl rfl rfl ?_
  refine mm_iload_n (q := 2) dX7_lesser_1 rfl rfl rfl ?_
  by_cases c1 : x1 ≤ x0
  · simp only [if_pos c1]
    refine mm_icmp_ge_t (tgt := 9) c1 dX7_lesser_2 (by decide) ?_
    refine mm_iload_n (q := 10) dX7_lesser_9 rfl rfl rfl ?_
    exact mm_iret rfl dX7_lesser_10
  · simp only [if_neg c1]
    refine mm_icmp_ge_f (q := 5) (tgt := 9) c1 dX7_lesser_2 rfl (by decide) ?_
    refine mm_iload_n (q := 6) dX7_lesser_5 rfl rfl rfl ?_
    refine mm_goto (tgt := 10) dX7_lesser_6 (by decide) ?_
    exact mm_iret rfl dX7_lesser_10
def fX7_grows_L2   : Nat → Int32 → mm_M → Option (mm_M)
  | 0, _, _ => none
  | n + 1, x1, M =>
    if (M 0 9) ≤ x1 then
      some M
    else
      (mm_rd M 11 12 x1).bind fun b2 =>
      if b2 = 0 then
        ((mm_rd M 12 12 x1).bind fun b4 =>
        (mm_rd M 8 36 ((3 : Int32) * x1)).bind fun b5 =>
        (mm_rd M 7 16 ((2 : Int32) * b5)).bind fun b6 =>
        if b6 = (3 : Int32) then
          ((mm_wa M 12 12 x1 (fX7_lesser (b4 + (2 : Int32)) (9 : Int32))).bind fun M8 =>
          fX7_grows_L2 n (x1 + (1 : Int32)) M8)
        else
          (mm_wa M 12 12 x1 (fX7_lesser (b4 + (1 : Int32)) (9 : Int32))).bind fun M9 =>
          fX7_grows_L2 n (x1 + (1 : Int32)) M9)
      else
        fX7_grows_L2 n (x1 + (1 : Int32)) M
set_option maxRecDepth 100000 in
set_option maxHeartbeats 4000000 in
theorem fX7_grows_L2_ok     : ∀ (n : Nat) (x1 : Int32) (M : mm_M), mm_C LR cX7_grows 2 RX7 none 1 mm_eV 2 [some (.ref 0), some (.int x1)] [] M (fX7_grows_L2 n x1 M) := by
  intro n
  induction n with
  | zero => intro x1 M; exact mm_none
  | succ n ih =>
    intro x1 M
    rw [fX7_grows_L2]
    refine mm_iload_n (q := 3) dX7_grows_2 rfl rfl rfl ?_
    refine mm_aload_n (q := 4) dX7_grows_3 rfl rfl rfl ?_
    refine mm_getI (q := 7) dX7_grows_4 rfl lr_0 fd_X7_125 rfl ?_
    refine mm_icmp_ge (q := 10) (tgt := 67) dX7_grows_7 rfl (by decide) (fun c1 => ?_) (fun c1 => ?_)
    · exact mm_vret rfl dX7_grows_67
    · refine mm_aload_n (q := 11) dX7_grows_10 rfl rfl rfl ?_
      refine mm_getR (q := 14) (k1 := 11) dX7_grows_11 rfl lr_0 fd_X7_40 rfl ?_
      refine mm_iload_n (q := 15) dX7_grows_14 rfl rfl rfl ?_
      refine mm_iald (q := 16) dX7_grows_15 rfl lr_11 (fun b2 _ => ?_)
      refine mm_if_ne (q := 19) (tgt := 61) dX7_grows_16 rfl (by decide) (fun c3 => ?_) (fun c3 => ?_)
      · refine mm_aload_n (q := 20) dX7_grows_19 rfl rfl rfl ?_
        refine mm_getR (q := 23) (k1 := 12) dX7_grows_20 rfl lr_0 fd_X7_43 rfl ?_
        refine mm_iload_n (q := 24) dX7_grows_23 rfl rfl rfl ?_
        refine mm_aload_n (q := 25) dX7_grows_24 rfl rfl rfl ?_
        refine mm_getR (q := 28) (k1 := 12) dX7_grows_25 rfl lr_0 fd_X7_43 rfl ?_
        refine mm_iload_n (q := 29) dX7_grows_28 rfl rfl rfl ?_
        refine mm_iald (q := 30) dX7_grows_29 rfl lr_12 (fun b4 _ => ?_)
        refine mm_aload_n (q := 31) dX7_grows_30 rfl rfl rfl ?_
        refine mm_getR (q := 34) (k1 := 7) dX7_grows_31 rfl lr_0 fd_X7_28 rfl ?_
        refine mm_iconst (q := 35) dX7_grows_34 rfl ic_2 ?_
        refine mm_aload_n (q := 36) dX7_grows_35 rfl rfl rfl ?_
        refine mm_getR (q := 39) (k1 := 8) dX7_grows_36 rfl lr_0 fd_X7_31 rfl ?_
        refine mm_iconst (q := 40) dX7_grows_39 rfl ic_3 ?_
        refine mm_iload_n (q := 41) dX7_grows_40 rfl rfl rfl ?_
        refine mm_imul (q := 42) dX7_grows_41 rfl ?_
        refine mm_iald (q := 43) dX7_grows_42 rfl lr_8 (fun b5 _ => ?_)
        refine mm_imul (q := 44) dX7_grows_43 rfl ?_
        refine mm_iald (q := 45) dX7_grows_44 rfl lr_7 (fun b6 _ => ?_)
        refine mm_iconst (q := 46) dX7_grows_45 rfl ic_3 ?_
        refine mm_icmp_ne (q := 49) (tgt := 53) dX7_grows_46 rfl (by decide) (fun c7 => ?_) (fun c7 => ?_)
        · refine mm_iconst (q := 50) dX7_grows_49 rfl ic_2 ?_
          refine mm_goto (tgt := 54) dX7_grows_50 (by decide) ?_
          refine mm_iadd (q := 55) dX7_grows_54 rfl ?_
          refine mm_bipush (q := 57) dX7_grows_55 rfl bp_9 ?_
          refine mm_callST (as := [.int (b4 + (2 : Int32)), .int (9 : Int32)]) (st := [.int x1, .ref 12]) (q := 60) (fX7_lesser_ok (b4 + (2 : Int32)) (9 : Int32) M) ms_X7_183 rfl (Nat.le_of_ble_eq_true rfl) (Nat.le_of_ble_eq_true rfl) rfl dX7_grows_57 rfl ?_
          refine mm_iast (q := 61) dX7_grows_60 rfl lr_12 (fun M8 _ => ?_)
          refine mm_iinc (q := 64) (ls' := [some (.ref 0), some (.int (x1 + (1 : Int32)))]) dX7_grows_61 rfl rfl (ii_1 _) rfl (Nat.le_of_ble_eq_true rfl) rfl ?_
          refine mm_goto (tgt := 2) dX7_grows_64 (by decide) ?_
          exact ih _ _
        · refine mm_iconst (q := 54) dX7_grows_53 rfl ic_1 ?_
          refine mm_iadd (q := 55) dX7_grows_54 rfl ?_
          refine mm_bipush (q := 57) dX7_grows_55 rfl bp_9 ?_
          refine mm_callST (as := [.int (b4 + (1 : Int32)), .int (9 : Int32)]) (st := [.int x1, .ref 12]) (q := 60) (fX7_lesser_ok (b4 + (1 : Int32)) (9 : Int32) M) ms_X7_183 rfl (Nat.le_of_ble_eq_true rfl) (Nat.le_of_ble_eq_true rfl) rfl dX7_grows_57 rfl ?_
          refine mm_iast (q := 61) dX7_grows_60 rfl lr_12 (fun M9 _ => ?_)
          refine mm_iinc (q := 64) (ls' := [some (.ref 0), some (.int (x1 + (1 : Int32)))]) dX7_grows_61 rfl rfl (ii_1 _) rfl (Nat.le_of_ble_eq_true rfl) rfl ?_
          refine mm_goto (tgt := 2) dX7_grows_64 (by decide) ?_
          exact ih _ _
      · refine mm_iinc (q := 64) (ls' := [some (.ref 0), some (.int (x1 + (1 : Int32)))]) dX7_grows_61 rfl rfl (ii_1 _) rfl (Nat.le_of_ble_eq_true rfl) rfl ?_
        refine mm_goto (tgt := 2) dX7_grows_64 (by decide) ?_
        exact ih _ _
def fX7_grows  (M : mm_M) : Option (mm_M) :=
  fX7_grows_L2 1000 (0 : Int32) M
set_option maxRecDepth 100000 in
set_option maxHeartbeats 4000000 in
theorem fX7_grows_ok  (M : mm_M)  : mm_E LR yX7_grows cX7_grows 2 none 1 mm_eV [.ref 0] M (fX7_grows M) := by
  refine mm_E.of (own := RX7) (ls := [some (.ref 0), none]) (by decide) rfl rfl (Nat.le_of_ble_eq_true rfl) ?_
  unfold fX7_grows
  refine mm_iconst (q := 1) dX7_grows_0 rfl ic_0 ?_
  refine mm_istore_n (q := 2) (ls' := [some (.ref 0), some (.int (0 : Int32))]) dX7_grows_1 rfl rfl rfl (Nat.le_of_ble_eq_true rfl) rfl ?_
  exact fX7_grows_L2_ok  _ _ _
def fX7_isDead (x1 : Int32) (x2 : Int32) (M : mm_M) : Option (Int32) :=
  (mm_rd M 7 16 (((2 : Int32) * x2) + (1 : Int32))).bind fun b1 =>
  if x1 ≤ b1 then
    some (0 : Int32)
  else
    some (1 : Int32)
set_option maxRecDepth 100000 in
set_option maxHeartbeats 4000000 in
theorem fX7_isDead_ok (x1 : Int32) (x2 : Int32) (M : mm_M)  : mm_E LR yX7_isDead cX7_isDead 3 (some .boolean) 0 (mm_pI M) [.ref 0, .int x1, .int x2] M (fX7_isDead x1 x2 M) := by
  refine mm_E.of (own := RX7) (ls := [some (.ref 0), some (.int x1), some (.int x2)]) (by decide) rfl rfl (Nat.le_of_ble_eq_true rfl) ?_
  unfold fX7_isDead
  refine mm_aload_n (q := 1) dX7_isDead_0 rfl rfl rfl ?_
  refine mm_getR (q := 4) (k1 := 7) dX7_isDead_1 rfl lr_0 fd_X7_28 rfl ?_
  refine mm_iconst (q := 5) dX7_isDead_4 rfl ic_2 ?_
  refine mm_iload_n (q := 6) dX7_isDead_5 rfl rfl rfl ?_
  refine mm_imul (q := 7) dX7_isDead_6 rfl ?_
  refine mm_iconst (q := 8) dX7_isDead_7 rfl ic_1 ?_
  refine mm_iadd (q := 9) dX7_isDead_8 rfl ?_
  refine mm_iald (q := 10) dX7_isDead_9 rfl lr_7 (fun b1 _ => ?_)
  refine mm_iload_n (q := 11) dX7_isDead_10 rfl rfl rfl ?_
  refine mm_icmp_ge (q := 14) (tgt := 18) dX7_isDead_11 rfl (by decide) (fun c2 => ?_) (fun c2 => ?_)
  · refine mm_iconst (q := 19) dX7_isDead_18 rfl ic_0 ?_
    exact mm_zret rfl rfl dX7_isDead_19
  · refine mm_iconst (q := 15) dX7_isDead_14 rfl ic_1 ?_
    refine mm_goto (tgt := 19) dX7_isDead_15 (by decide) ?_
    exact mm_zret rfl rfl dX7_isDead_19
def fX7_isEcho_L5 (x1 : Int32) (x2 : Int32) (M : mm_M)  : Nat → Int32 → Int32 → Option (Int32)
  | 0, _, _ => none
  | n + 1, x3, x4 =>
    if (M 0 13) ≤ x4 then
      ((mm_zb x3).bind fun b2 =>
      some b2)
    else
      if x3 = 0 then
        ((mm_rd M 10 16 ((2 : Int32) * x4)).bind fun b4 =>
        if b4 = x1 then
          ((mm_rd M 10 16 (((2 : Int32) * x4) + (1 : Int32))).bind fun b6 =>
          fX7_isEcho_L5 x1 x2 M n (if b6 = x2 then (if (fX7_isIn (M 0 15) x4) = 0 then (1 : Int32) else (0 : Int32)) else (0 : Int32)) (x4 + (1 : Int32)))
        else
          fX7_isEcho_L5 x1 x2 M n (0 : Int32) (x4 + (1 : Int32)))
      else
        fX7_isEcho_L5 x1 x2 M n (1 : Int32) (x4 + (1 : Int32))
set_option maxRecDepth 100000 in
set_option maxHeartbeats 4000000 in
theorem fX7_isEcho_L5_ok (x1 : Int32) (x2 : Int32) (M : mm_M)    : ∀ (n : Nat) (x3 : Int32) (x4 : Int32), mm_C LR cX7_isEcho 5 RX7 (some .boolean) 1 (mm_pI M) 5 [some (.ref 0), some (.int x1), some (.int x2), some (.int x3), some (.int x4)] [] M (fX7_isEcho_L5 x1 x2 M n x3 x4) := by
  intro n
  induction n with
  | zero => intro x3 x4; exact mm_none
  | succ n ih =>
    intro x3 x4
    rw [fX7_isEcho_L5]
    refine mm_iload (q := 7) dX7_isEcho_5 rfl rfl ?_
    refine mm_aload_n (q := 8) dX7_isEcho_7 rfl rfl rfl ?_
    refine mm_getI (q := 11) dX7_isEcho_8 rfl lr_0 fd_X7_171 rfl ?_
    refine mm_icmp_ge (q := 14) (tgt := 70) dX7_isEcho_11 rfl (by decide) (fun c1 => ?_) (fun c1 => ?_)
    · refine mm_iload_n (q := 71) dX7_isEcho_70 rfl rfl rfl ?_
      exact mm_zretB (fun _ => rfl) (fun _ => rfl) dX7_isEcho_71
    · refine mm_iload_n (q := 15) dX7_isEcho_14 rfl rfl rfl ?_
      refine mm_if_ne (q := 18) (tgt := 58) dX7_isEcho_15 rfl (by decide) (fun c3 => ?_) (fun c3 => ?_)
      · refine mm_aload_n (q := 19) dX7_isEcho_18 rfl rfl rfl ?_
        refine mm_getR (q := 22) (k1 := 10) dX7_isEcho_19 rfl lr_0 fd_X7_37 rfl ?_
        refine mm_iconst (q := 23) dX7_isEcho_22 rfl ic_2 ?_
        refine mm_iload (q := 25) dX7_isEcho_23 rfl rfl ?_
        refine mm_imul (q := 26) dX7_isEcho_25 rfl ?_
        refine mm_iald (q := 27) dX7_isEcho_26 rfl lr_10 (fun b4 _ => ?_)
        refine mm_iload_n (q := 28) dX7_isEcho_27 rfl rfl rfl ?_
        refine mm_icmp_ne (q := 31) (tgt := 62) dX7_isEcho_28 rfl (by decide) (fun c5 => ?_) (fun c5 => ?_)
        · refine mm_aload_n (q := 32) dX7_isEcho_31 rfl rfl rfl ?_
          refine mm_getR (q := 35) (k1 := 10) dX7_isEcho_32 rfl lr_0 fd_X7_37 rfl ?_
          refine mm_iconst (q := 36) dX7_isEcho_35 rfl ic_2 ?_
          refine mm_iload (q := 38) dX7_isEcho_36 rfl rfl ?_
          refine mm_imul (q := 39) dX7_isEcho_38 rfl ?_
          refine mm_iconst (q := 40) dX7_isEcho_39 rfl ic_1 ?_
          refine mm_iadd (q := 41) dX7_isEcho_40 rfl ?_
          refine mm_iald (q := 42) dX7_isEcho_41 rfl lr_10 (fun b6 _ => ?_)
          refine mm_iload_n (q := 43) dX7_isEcho_42 rfl rfl rfl ?_
          by_cases c7 : b6 = x2
          · simp only [if_pos c7]
            refine mm_icmp_ne_t (q := 46) (tgt := 62) c7 dX7_isEcho_43 rfl (by decide) ?_
            refine mm_aload_n (q := 47) dX7_isEcho_46 rfl rfl rfl ?_
            refine mm_getI (q := 50) dX7_isEcho_47 rfl lr_0 fd_X7_176 rfl ?_
            refine mm_iload (q := 52) dX7_isEcho_50 rfl rfl ?_
            refine mm_callST (as := [.int (M 0 15), .int x4]) (st := []) (q := 55) (fX7_isIn_ok (M 0 15) x4 M) ms_X7_179 rfl (Nat.le_of_ble_eq_true rfl) (Nat.le_of_ble_eq_true rfl) rfl dX7_isEcho_52 rfl ?_
            by_cases c8 : (fX7_isIn (M 0 15) x4) = 0
            · simp only [if_pos c8]
              refine mm_if_ne_t (q := 58) (tgt := 62) c8 dX7_isEcho_55 rfl (by decide) ?_
              refine mm_iconst (q := 59) dX7_isEcho_58 rfl ic_1 ?_
              refine mm_goto (tgt := 63) dX7_isEcho_59 (by decide) ?_
              refine mm_istore_n (q := 64) (ls' := [some (.ref 0), some (.int x1), some (.int x2), some (.int (1 : Int32)), some (.int x4)]) dX7_isEcho_63 rfl rfl rfl (Nat.le_of_ble_eq_true rfl) rfl ?_
              refine mm_iinc (q := 67) (ls' := [some (.ref 0), some (.int x1), some (.int x2), some (.int (1 : Int32)), some (.int (x4 + (1 : Int32)))]) dX7_isEcho_64 rfl rfl (ii_1 _) rfl (Nat.le_of_ble_eq_true rfl) rfl ?_
              refine mm_goto (tgt := 5) dX7_isEcho_67 (by decide) ?_
              exact ih _ _
            · simp only [if_neg c8]
              refine mm_if_ne_f (tgt := 62) c8 dX7_isEcho_55 (by decide) ?_
              refine mm_iconst (q := 63) dX7_isEcho_62 rfl ic_0 ?_
              refine mm_istore_n (q := 64) (ls' := [some (.ref 0), some (.int x1), some (.int x2), some (.int (0 : Int32)), some (.int x4)]) dX7_isEcho_63 rfl rfl rfl (Nat.le_of_ble_eq_true rfl) rfl ?_
              refine mm_iinc (q := 67) (ls' := [some (.ref 0), some (.int x1), some (.int x2), some (.int (0 : Int32)), some (.int (x4 + (1 : Int32)))]) dX7_isEcho_64 rfl rfl (ii_1 _) rfl (Nat.le_of_ble_eq_true rfl) rfl ?_
              refine mm_goto (tgt := 5) dX7_isEcho_67 (by decide) ?_
              exact ih _ _
          · simp only [if_neg c7]
            refine mm_icmp_ne_f (tgt := 62) c7 dX7_isEcho_43 (by decide) ?_
            refine mm_iconst (q := 63) dX7_isEcho_62 rfl ic_0 ?_
            refine mm_istore_n (q := 64) (ls' := [some (.ref 0), some (.int x1), some (.int x2), some (.int (0 : Int32)), some (.int x4)]) dX7_isEcho_63 rfl rfl rfl (Nat.le_of_ble_eq_true rfl) rfl ?_
            refine mm_iinc (q := 67) (ls' := [some (.ref 0), some (.int x1), some (.int x2), some (.int (0 : Int32)), some (.int (x4 + (1 : Int32)))]) dX7_isEcho_64 rfl rfl (ii_1 _) rfl (Nat.le_of_ble_eq_true rfl) rfl ?_
            refine mm_goto (tgt := 5) dX7_isEcho_67 (by decide) ?_
            exact ih _ _
        · refine mm_iconst (q := 63) dX7_isEcho_62 rfl ic_0 ?_
          refine mm_istore_n (q := 64) (ls' := [some (.ref 0), some (.int x1), some (.int x2), some (.int (0 : Int32)), some (.int x4)]) dX7_isEcho_63 rfl rfl rfl (Nat.le_of_ble_eq_true rfl) rfl ?_
          refine mm_iinc (q := 67) (ls' := [some (.ref 0), some (.int x1), some (.int x2), some (.int (0 : Int32)), some (.int (x4 + (1 : Int32)))]) dX7_isEcho_64 rfl rfl (ii_1 _) rfl (Nat.le_of_ble_eq_true rfl) rfl ?_
          refine mm_goto (tgt := 5) dX7_isEcho_67 (by decide) ?_
          exact ih _ _
      · refine mm_iconst (q := 59) dX7_isEcho_58 rfl ic_1 ?_
        refine mm_goto (tgt := 63) dX7_isEcho_59 (by decide) ?_
        refine mm_istore_n (q := 64) (ls' := [some (.ref 0), some (.int x1), some (.int x2), some (.int (1 : Int32)), some (.int x4)]) dX7_isEcho_63 rfl rfl rfl (Nat.le_of_ble_eq_true rfl) rfl ?_
        refine mm_iinc (q := 67) (ls' := [some (.ref 0), some (.int x1), some (.int x2), some (.int (1 : Int32)), some (.int (x4 + (1 : Int32)))]) dX7_isEcho_64 rfl rfl (ii_1 _) rfl (Nat.le_of_ble_eq_true rfl) rfl ?_
        refine mm_goto (tgt := 5) dX7_isEcho_67 (by decide) ?_
        exact ih _ _
def fX7_isEcho (x1 : Int32) (x2 : Int32) (M : mm_M) : Option (Int32) :=
  fX7_isEcho_L5 x1 x2 M 1000 (0 : Int32) (0 : Int32)
set_option maxRecDepth 100000 in
set_option maxHeartbeats 4000000 in
theorem fX7_isEcho_ok (x1 : Int32) (x2 : Int32) (M : mm_M)  : mm_E LR yX7_isEcho cX7_isEcho 5 (some .boolean) 1 (mm_pI M) [.ref 0, .int x1, .int x2] M (fX7_isEcho x1 x2 M) := by
  refine mm_E.of (own := RX7) (ls := [some (.ref 0), some (.int x1), some (.int x2), none, none]) (by decide) rfl rfl (Nat.le_of_ble_eq_true rfl) ?_
  unfold fX7_isEcho
  refine mm_iconst (q := 1) dX7_isEcho_0 rfl ic_0 ?_
  refine mm_istore_n (q := 2) (ls' := [some (.ref 0), some (.int x1), some (.int x2), some (.int (0 : Int32)), none]) dX7_isEcho_1 rfl rfl rfl (Nat.le_of_ble_eq_true rfl) rfl ?_
  refine mm_iconst (q := 3) dX7_isEcho_2 rfl ic_0 ?_
  refine mm_istore (q := 5) (ls' := [some (.ref 0), some (.int x1), some (.int x2), some (.int (0 : Int32)), some (.int (0 : Int32))]) dX7_isEcho_3 rfl rfl (Nat.le_of_ble_eq_true rfl) rfl ?_
  exact fX7_isEcho_L5_ok x1 x2 M _ _ _
def fX7_says_L11 (x1 : Int32) (x2 : Int32) (x3 : Int32) (M : mm_M) (k69 : Int32 → Option (mm_M)) : Nat → Int32 → Int32 → Option (mm_M)
  | 0, _, _ => none
  | n + 1, x4, x5 =>
    if x5 < 0 then
      k69 x4
    else
      (mm_rd M 11 12 x5).bind fun b2 =>
      if b2 = 0 then
        ((mm_rd M 8 36 ((3 : Int32) * x5)).bind fun b4 =>
        if b4 = x3 then
          ((mm_rd M 8 36 (((3 : Int32) * x5) + (1 : Int32))).bind fun b6 =>
          fX7_says_L11 x1 x2 x3 M k69 n (if b6 = x2 then x5 else x4) (x5 + (-1 : Int32)))
        else
          fX7_says_L11 x1 x2 x3 M k69 n x4 (x5 + (-1 : Int32)))
      else
        fX7_says_L11 x1 x2 x3 M k69 n x4 (x5 + (-1 : Int32))
set_option maxRecDepth 100000 in
set_option maxHeartbeats 4000000 in
theorem fX7_says_L11_ok (x1 : Int32) (x2 : Int32) (x3 : Int32) (M : mm_M)  (k69 : Int32 → Option (mm_M)) (hk69 : ∀ (x4 : Int32), mm_C LR cX7_says 6 RX7 none 2 mm_eV 69 [some (.ref 0), some (.int x1), some (.int x2), none, some (.int x4), none] [] M (k69 x4)) : ∀ (n : Nat) (x4 : Int32) (x5 : Int32), mm_C LR cX7_says 6 RX7 none 2 mm_eV 11 [some (.ref 0), some (.int x1), some (.int x2), some (.int x3), some (.int x4), some (.int x5)] [] M (fX7_says_L11 x1 x2 x3 M k69 n x4 x5) := by
  intro n
  induction n with
  | zero => intro x4 x5; exact mm_none
  | succ n ih =>
    intro x4 x5
    rw [fX7_says_L11]
    refine mm_iload (q := 13) dX7_says_11 rfl rfl ?_
    refine mm_if_lt (q := 16) (tgt := 69) dX7_says_13 rfl (by decide) (fun c1 => ?_) (fun c1 => ?_)
    · refine mm_drop (ls' := [some (.ref 0), some (.int x1), some (.int x2), none, some (.int x4), none]) (mm_sub_at _ _ (And.intro rfl (And.intro rfl (And.intro rfl (And.intro rfl trivial))))) ?_
      exact hk69 _
    · refine mm_aload_n (q := 17) dX7_says_16 rfl rfl rfl ?_
      refine mm_getR (q := 20) (k1 := 11) dX7_says_17 rfl lr_0 fd_X7_40 rfl ?_
      refine mm_iload (q := 22) dX7_says_20 rfl rfl ?_
      refine mm_iald (q := 23) dX7_says_22 rfl lr_11 (fun b2 _ => ?_)
      refine mm_if_ne (q := 26) (tgt := 59) dX7_says_23 rfl (by decide) (fun c3 => ?_) (fun c3 => ?_)
      · refine mm_aload_n (q := 27) dX7_says_26 rfl rfl rfl ?_
        refine mm_getR (q := 30) (k1 := 8) dX7_says_27 rfl lr_0 fd_X7_31 rfl ?_
        refine mm_iconst (q := 31) dX7_says_30 rfl ic_3 ?_
        refine mm_iload (q := 33) dX7_says_31 rfl rfl ?_
        refine mm_imul (q := 34) dX7_says_33 rfl ?_
        refine mm_iald (q := 35) dX7_says_34 rfl lr_8 (fun b4 _ => ?_)
        refine mm_iload_n (q := 36) dX7_says_35 rfl rfl rfl ?_
        refine mm_icmp_ne (q := 39) (tgt := 59) dX7_says_36 rfl (by decide) (fun c5 => ?_) (fun c5 => ?_)
        · refine mm_aload_n (q := 40) dX7_says_39 rfl rfl rfl ?_
          refine mm_getR (q := 43) (k1 := 8) dX7_says_40 rfl lr_0 fd_X7_31 rfl ?_
          refine mm_iconst (q := 44) dX7_says_43 rfl ic_3 ?_
          refine mm_iload (q := 46) dX7_says_44 rfl rfl ?_
          refine mm_imul (q := 47) dX7_says_46 rfl ?_
          refine mm_iconst (q := 48) dX7_says_47 rfl ic_1 ?_
          refine mm_iadd (q := 49) dX7_says_48 rfl ?_
          refine mm_iald (q := 50) dX7_says_49 rfl lr_8 (fun b6 _ => ?_)
          refine mm_iload_n (q := 51) dX7_says_50 rfl rfl rfl ?_
          by_cases c7 : b6 = x2
          · simp only [if_pos c7]
            refine mm_icmp_ne_t (q := 54) (tgt := 59) c7 dX7_says_51 rfl (by decide) ?_
            refine mm_iload (q := 56) dX7_says_54 rfl rfl ?_
            refine mm_goto (tgt := 61) dX7_says_56 (by decide) ?_
            refine mm_istore (q := 63) (ls' := [some (.ref 0), some (.int x1), some (.int x2), some (.int x3), some (.int x5), some (.int x5)]) dX7_says_61 rfl rfl (Nat.le_of_ble_eq_true rfl) rfl ?_
            refine mm_iinc (q := 66) (ls' := [some (.ref 0), some (.int x1), some (.int x2), some (.int x3), some (.int x5), some (.int (x5 + (-1 : Int32)))]) dX7_says_63 rfl rfl (ii_m1 _) rfl (Nat.le_of_ble_eq_true rfl) rfl ?_
            refine mm_goto (tgt := 11) dX7_says_66 (by decide) ?_
            exact ih _ _
          · simp only [if_neg c7]
            refine mm_icmp_ne_f (tgt := 59) c7 dX7_says_51 (by decide) ?_
            refine mm_iload (q := 61) dX7_says_59 rfl rfl ?_
            refine mm_istore (q := 63) (ls' := [some (.ref 0), some (.int x1), some (.int x2), some (.int x3), some (.int x4), some (.int x5)]) dX7_says_61 rfl rfl (Nat.le_of_ble_eq_true rfl) rfl ?_
            refine mm_iinc (q := 66) (ls' := [some (.ref 0), some (.int x1), some (.int x2), some (.int x3), some (.int x4), some (.int (x5 + (-1 : Int32)))]) dX7_says_63 rfl rfl (ii_m1 _) rfl (Nat.le_of_ble_eq_true rfl) rfl ?_
            refine mm_goto (tgt := 11) dX7_says_66 (by decide) ?_
            exact ih _ _
        · refine mm_iload (q := 61) dX7_says_59 rfl rfl ?_
          refine mm_istore (q := 63) (ls' := [some (.ref 0), some (.int x1), some (.int x2), some (.int x3), some (.int x4), some (.int x5)]) dX7_says_61 rfl rfl (Nat.le_of_ble_eq_true rfl) rfl ?_
          refine mm_iinc (q := 66) (ls' := [some (.ref 0), some (.int x1), some (.int x2), some (.int x3), some (.int x4), some (.int (x5 + (-1 : Int32)))]) dX7_says_63 rfl rfl (ii_m1 _) rfl (Nat.le_of_ble_eq_true rfl) rfl ?_
          refine mm_goto (tgt := 11) dX7_says_66 (by decide) ?_
          exact ih _ _
      · refine mm_iload (q := 61) dX7_says_59 rfl rfl ?_
        refine mm_istore (q := 63) (ls' := [some (.ref 0), some (.int x1), some (.int x2), some (.int x3), some (.int x4), some (.int x5)]) dX7_says_61 rfl rfl (Nat.le_of_ble_eq_true rfl) rfl ?_
        refine mm_iinc (q := 66) (ls' := [some (.ref 0), some (.int x1), some (.int x2), some (.int x3), some (.int x4), some (.int (x5 + (-1 : Int32)))]) dX7_says_63 rfl rfl (ii_m1 _) rfl (Nat.le_of_ble_eq_true rfl) rfl ?_
        refine mm_goto (tgt := 11) dX7_says_66 (by decide) ?_
        exact ih _ _
def fX7_says_J172 (x4 : Int32) (s0 : Int32) (s1 : Int32) (s2 : Int32)  (M : mm_M) : Option (mm_M) :=
  (mm_wa M 12 12 s2 (fX7_greater (s1 - s0) (0 : Int32))).bind fun M25 =>
  (mm_rd M25 12 12 x4).bind fun b26 =>
  if b26 = 0 then
    ((mm_wa M25 11 12 x4 (1 : Int32)).bind fun M28 =>
    some M28)
  else
    (mm_wa M25 11 12 x4 (0 : Int32)).bind fun M29 =>
    some M29
set_option maxRecDepth 100000 in
set_option maxHeartbeats 4000000 in
theorem fX7_says_J172_ok (x4 : Int32) (s0 : Int32) (s1 : Int32) (s2 : Int32)  (M : mm_M)    : mm_C LR cX7_says 6 RX7 none 2 mm_eV 172 [some (.ref 0), none, none, none, some (.int x4), none] [.int s0, .int s1, .int s2, .ref 12] M (fX7_says_J172 x4 s0 s1 s2 M) := by
  unfold fX7_says_J172
  refine mm_isub (q := 173) dX7_says_172 rfl ?_
  refine mm_iconst (q := 174) dX7_says_173 rfl ic_0 ?_
  refine mm_callST (as := [.int (s1 - s0), .int (0 : Int32)]) (st := [.int s2, .ref 12]) (q := 177) (fX7_greater_ok (s1 - s0) (0 : Int32) M) ms_X7_189 rfl (Nat.le_of_ble_eq_true rfl) (Nat.le_of_ble_eq_true rfl) rfl dX7_says_174 rfl ?_
  refine mm_iast (q := 178) dX7_says_177 rfl lr_12 (fun M25 _ => ?_)
  refine mm_aload_n (q := 179) dX7_says_178 rfl rfl rfl ?_
  refine mm_getR (q := 182) (k1 := 11) dX7_says_179 rfl lr_0 fd_X7_40 rfl ?_
  refine mm_iload (q := 184) dX7_says_182 rfl rfl ?_
  refine mm_aload_n (q := 185) dX7_says_184 rfl rfl rfl ?_
  refine mm_getR (q := 188) (k1 := 12) dX7_says_185 rfl lr_0 fd_X7_43 rfl ?_
  refine mm_iload (q := 190) dX7_says_188 rfl rfl ?_
  refine mm_iald (q := 191) dX7_says_190 rfl lr_12 (fun b26 _ => ?_)
  refine mm_if_ne (q := 194) (tgt := 198) dX7_says_191 rfl (by decide) (fun c27 => ?_) (fun c27 => ?_)
  · refine mm_iconst (q := 195) dX7_says_194 rfl ic_1 ?_
    refine mm_goto (tgt := 199) dX7_says_195 (by decide) ?_
    refine mm_iast (q := 200) dX7_says_199 rfl lr_11 (fun M28 _ => ?_)
    exact mm_vret rfl dX7_says_200
  · refine mm_iconst (q := 199) dX7_says_198 rfl ic_0 ?_
    refine mm_iast (q := 200) dX7_says_199 rfl lr_11 (fun M29 _ => ?_)
    exact mm_vret rfl dX7_says_200
def fX7_says_J123 (x1 : Int32) (x2 : Int32) (x4 : Int32)  (M : mm_M) : Option (mm_M) :=
  (mm_rd M 13 8 x2).bind fun b18 =>
  (mm_wa M 13 8 x2 (b18 + (1 : Int32))).bind fun M19 =>
  (fX7_isEcho x1 x2 M19).bind fun b20 =>
  if b20 = 0 then
    ((mm_rd M19 12 12 x4).bind fun b22 =>
    (mm_rd M19 7 16 ((2 : Int32) * x2)).bind fun b23 =>
    fX7_says_J172 x4 (if b23 = (3 : Int32) then (2 : Int32) else (1 : Int32)) b22 x4 M19)
  else
    some M19
set_option maxRecDepth 100000 in
set_option maxHeartbeats 4000000 in
theorem fX7_says_J123_ok (x1 : Int32) (x2 : Int32) (x4 : Int32)  (M : mm_M)    : mm_C LR cX7_says 6 RX7 none 2 mm_eV 123 [some (.ref 0), some (.int x1), some (.int x2), none, some (.int x4), none] [] M (fX7_says_J123 x1 x2 x4 M) := by
  unfold fX7_says_J123
  refine mm_aload_n (q := 124) dX7_says_123 rfl rfl rfl ?_
  refine mm_getR (q := 127) (k1 := 13) dX7_says_124 rfl lr_0 fd_X7_46 rfl ?_
  refine mm_iload_n (q := 128) dX7_says_127 rfl rfl rfl ?_
  refine mm_dup2 (q := 129) dX7_says_128 rfl rfl rfl ?_
  refine mm_iald (q := 130) dX7_says_129 rfl lr_13 (fun b18 _ => ?_)
  refine mm_iconst (q := 131) dX7_says_130 rfl ic_1 ?_
  refine mm_iadd (q := 132) dX7_says_131 rfl ?_
  refine mm_iast (q := 133) dX7_says_132 rfl lr_13 (fun M19 _ => ?_)
  refine mm_aload_n (q := 134) dX7_says_133 rfl rfl rfl ?_
  refine mm_iload_n (q := 135) dX7_says_134 rfl rfl rfl ?_
  refine mm_iload_n (q := 136) dX7_says_135 rfl rfl rfl ?_
  refine mm_callVP (as := [.int x1, .int x2]) (st := []) (q := 139) lr_0 rfl (fX7_isEcho_ok x1 x2 M19) ms_X7_186 rfl (Nat.le_of_ble_eq_true rfl) (Nat.le_of_ble_eq_true rfl) rfl dX7_says_136 rfl (fun b20 _ => ?_)
  refine mm_if_ne (q := 142) (tgt := 200) dX7_says_139 rfl (by decide) (fun c21 => ?_) (fun c21 => ?_)
  · refine mm_aload_n (q := 143) dX7_says_142 rfl rfl rfl ?_
    refine mm_getR (q := 146) (k1 := 12) dX7_says_143 rfl lr_0 fd_X7_43 rfl ?_
    refine mm_iload (q := 148) dX7_says_146 rfl rfl ?_
    refine mm_aload_n (q := 149) dX7_says_148 rfl rfl rfl ?_
    refine mm_getR (q := 152) (k1 := 12) dX7_says_149 rfl lr_0 fd_X7_43 rfl ?_
    refine mm_iload (q := 154) dX7_says_152 rfl rfl ?_
    refine mm_iald (q := 155) dX7_says_154 rfl lr_12 (fun b22 _ => ?_)
    refine mm_aload_n (q := 156) dX7_says_155 rfl rfl rfl ?_
    refine mm_getR (q := 159) (k1 := 7) dX7_says_156 rfl lr_0 fd_X7_28 rfl ?_
    refine mm_iconst (q := 160) dX7_says_159 rfl ic_2 ?_
    refine mm_iload_n (q := 161) dX7_says_160 rfl rfl rfl ?_
    refine mm_imul (q := 162) dX7_says_161 rfl ?_
    refine mm_iald (q := 163) dX7_says_162 rfl lr_7 (fun b23 _ => ?_)
    refine mm_iconst (q := 164) dX7_says_163 rfl ic_3 ?_
    by_cases c24 : b23 = (3 : Int32)
    · simp only [if_pos c24]
      refine mm_icmp_ne_t (q := 167) (tgt := 171) c24 dX7_says_164 rfl (by decide) ?_
      refine mm_iconst (q := 168) dX7_says_167 rfl ic_2 ?_
      refine mm_goto (tgt := 172) dX7_says_168 (by decide) ?_
      refine mm_drop (ls' := [some (.ref 0), none, none, none, some (.int x4), none]) (mm_sub_at _ _ (And.intro rfl (And.intro rfl trivial))) ?_
      exact fX7_says_J172_ok _ _ _ _ _
    · simp only [if_neg c24]
      refine mm_icmp_ne_f (tgt := 171) c24 dX7_says_164 (by decide) ?_
      refine mm_iconst (q := 172) dX7_says_171 rfl ic_1 ?_
      refine mm_drop (ls' := [some (.ref 0), none, none, none, some (.int x4), none]) (mm_sub_at _ _ (And.intro rfl (And.intro rfl trivial))) ?_
      exact fX7_says_J172_ok _ _ _ _ _
  · exact mm_vret rfl dX7_says_200
def fX7_says (x1 : Int32) (x2 : Int32) (x3 : Int32) (M : mm_M) : Option (mm_M) :=
  fX7_says_L11 x1 x2 x3 M (fun z8 =>
      if z8 = (-1 : Int32) then
        some M
      else
        (mm_rd M 7 16 ((2 : Int32) * x2)).bind fun b10 =>
        if b10 = (2 : Int32) then
          some M
        else
          (mm_rd M 14 8 x2).bind fun b12 =>
          (mm_wa M 14 8 x2 (b12 + (1 : Int32))).bind fun M13 =>
          (mm_rd M13 7 16 ((2 : Int32) * x2)).bind fun b14 =>
          if b14 = (1 : Int32) then
            ((mm_rd M13 14 8 x2).bind fun b16 =>
            if (b16 - b16 / (2 : Int32) * (2 : Int32)) = (1 : Int32) then
              some M13
            else
              fX7_says_J123 x1 x2 z8 M13)
          else
            fX7_says_J123 x1 x2 z8 M13) 1000 (-1 : Int32) ((M 0 9) - (1 : Int32))
set_option maxRecDepth 100000 in
set_option maxHeartbeats 4000000 in
theorem fX7_says_ok (x1 : Int32) (x2 : Int32) (x3 : Int32) (M : mm_M)  : mm_E LR yX7_says cX7_says 6 none 2 mm_eV [.ref 0, .int x1, .int x2, .int x3] M (fX7_says x1 x2 x3 M) := by
  refine mm_E.of (own := RX7) (ls := [some (.ref 0), some (.int x1), some (.int x2), some (.int x3), none, none]) (by decide) rfl rfl (Nat.le_of_ble_eq_true rfl) ?_
  unfold fX7_says
  refine mm_iconst (q := 1) dX7_says_0 rfl ic_m1 ?_
  refine mm_istore (q := 3) (ls' := [some (.ref 0), some (.int x1), some (.int x2), some (.int x3), some (.int (-1 : Int32)), none]) dX7_says_1 rfl rfl (Nat.le_of_ble_eq_true rfl) rfl ?_
  refine mm_aload_n (q := 4) dX7_says_3 rfl rfl rfl ?_
  refine mm_getI (q := 7) dX7_says_4 rfl lr_0 fd_X7_125 rfl ?_
  refine mm_iconst (q := 8) dX7_says_7 rfl ic_1 ?_
  refine mm_isub (q := 9) dX7_says_8 rfl ?_
  refine mm_istore (q := 11) (ls' := [some (.ref 0), some (.int x1), some (.int x2), some (.int x3), some (.int (-1 : Int32)), some (.int ((M 0 9) - (1 : Int32)))]) dX7_says_9 rfl rfl (Nat.le_of_ble_eq_true rfl) rfl ?_
  refine fX7_says_L11_ok x1 x2 x3 M _ (fun z8 => ?_) _ _ _
  refine mm_iload (q := 71) dX7_says_69 rfl rfl ?_
  refine mm_iconst (q := 72) dX7_says_71 rfl ic_m1 ?_
  refine mm_icmp_eq (q := 75) (tgt := 87) dX7_says_72 rfl (by decide) (fun c9 => ?_) (fun c9 => ?_)
  · exact mm_vret rfl dX7_says_87
  · refine mm_aload_n (q := 76) dX7_says_75 rfl rfl rfl ?_
    refine mm_getR (q := 79) (k1 := 7) dX7_says_76 rfl lr_0 fd_X7_28 rfl ?_
    refine mm_iconst (q := 80) dX7_says_79 rfl ic_2 ?_
    refine mm_iload_n (q := 81) dX7_says_80 rfl rfl rfl ?_
    refine mm_imul (q := 82) dX7_says_81 rfl ?_
    refine mm_iald (q := 83) dX7_says_82 rfl lr_7 (fun b10 _ => ?_)
    refine mm_iconst (q := 84) dX7_says_83 rfl ic_2 ?_
    refine mm_icmp_ne (q := 87) (tgt := 88) dX7_says_84 rfl (by decide) (fun c11 => ?_) (fun c11 => ?_)
    · exact mm_vret rfl dX7_says_87
    · refine mm_aload_n (q := 89) dX7_says_88 rfl rfl rfl ?_
      refine mm_getR (q := 92) (k1 := 14) dX7_says_89 rfl lr_0 fd_X7_49 rfl ?_
      refine mm_iload_n (q := 93) dX7_says_92 rfl rfl rfl ?_
      refine mm_dup2 (q := 94) dX7_says_93 rfl rfl rfl ?_
      refine mm_iald (q := 95) dX7_says_94 rfl lr_14 (fun b12 _ => ?_)
      refine mm_iconst (q := 96) dX7_says_95 rfl ic_1 ?_
      refine mm_iadd (q := 97) dX7_says_96 rfl ?_
      refine mm_iast (q := 98) dX7_says_97 rfl lr_14 (fun M13 _ => ?_)
      refine mm_aload_n (q := 99) dX7_says_98 rfl rfl rfl ?_
      refine mm_getR (q := 102) (k1 := 7) dX7_says_99 rfl lr_0 fd_X7_28 rfl ?_
      refine mm_iconst (q := 103) dX7_says_102 rfl ic_2 ?_
      refine mm_iload_n (q := 104) dX7_says_103 rfl rfl rfl ?_
      refine mm_imul (q := 105) dX7_says_104 rfl ?_
      refine mm_iald (q := 106) dX7_says_105 rfl lr_7 (fun b14 _ => ?_)
      refine mm_iconst (q := 107) dX7_says_106 rfl ic_1 ?_
      refine mm_icmp_ne (q := 110) (tgt := 123) dX7_says_107 rfl (by decide) (fun c15 => ?_) (fun c15 => ?_)
      · refine mm_aload_n (q := 111) dX7_says_110 rfl rfl rfl ?_
        refine mm_getR (q := 114) (k1 := 14) dX7_says_111 rfl lr_0 fd_X7_49 rfl ?_
        refine mm_iload_n (q := 115) dX7_says_114 rfl rfl rfl ?_
        refine mm_iald (q := 116) dX7_says_115 rfl lr_14 (fun b16 _ => ?_)
        refine mm_iconst (q := 117) dX7_says_116 rfl ic_2 ?_
        refine mm_iremC (q := 118) dX7_says_117 rfl (by decide) ?_
        refine mm_iconst (q := 119) dX7_says_118 rfl ic_1 ?_
        refine mm_icmp_ne (q := 122) (tgt := 123) dX7_says_119 rfl (by decide) (fun c17 => ?_) (fun c17 => ?_)
        · exact mm_vret rfl dX7_says_122
        · exact fX7_says_J123_ok _ _ _ _
      · exact fX7_says_J123_ok _ _ _ _
def fX7_talk (x1 : Int32) (x2 : Int32) (x3 : Int32) (M : mm_M) : Option (mm_M) :=
  (fX7_isPerson x2 M).bind fun b1 =>
  if b1 = 0 then
    some M
  else
    (fX7_isPerson x3 M).bind fun b3 =>
    if b3 = 0 then
      some M
    else
      if x2 = x3 then
        some M
      else
        (fX7_isDead x1 x2 M).bind fun b6 =>
        if b6 = 0 then
          ((fX7_isDead x1 x3 M).bind fun b8 =>
          if b8 = 0 then
            ((fX7_says x1 x2 x3 M).bind fun M10 =>
            (fX7_says x1 x3 x2 M10).bind fun M11 =>
            some M11)
          else
            some M)
        else
          some M
set_option maxRecDepth 100000 in
set_option maxHeartbeats 4000000 in
theorem fX7_talk_ok (x1 : Int32) (x2 : Int32) (x3 : Int32) (M : mm_M)  : mm_E LR yX7_talk cX7_talk 4 none 3 mm_eV [.ref 0, .int x1, .int x2, .int x3] M (fX7_talk x1 x2 x3 M) := by
  refine mm_E.of (own := RX7) (ls := [some (.ref 0), some (.int x1), some (.int x2), some (.int x3)]) (by decide) rfl rfl (Nat.le_of_ble_eq_true rfl) ?_
  unfold fX7_talk
  refine mm_aload_n (q := 1) dX7_talk_0 rfl rfl rfl ?_
  refine mm_iload_n (q := 2) dX7_talk_1 rfl rfl rfl ?_
  refine mm_callVP (as := [.int x2]) (st := []) (q := 5) lr_0 rfl (fX7_isPerson_ok x2 M) ms_X7_152 rfl (Nat.le_of_ble_eq_true rfl) (Nat.le_of_ble_eq_true rfl) rfl dX7_talk_2 rfl (fun b1 _ => ?_)
  refine mm_if_eq (q := 8) (tgt := 53) dX7_talk_5 rfl (by decide) (fun c2 => ?_) (fun c2 => ?_)
  · exact mm_vret rfl dX7_talk_53
  · refine mm_aload_n (q := 9) dX7_talk_8 rfl rfl rfl ?_
    refine mm_iload_n (q := 10) dX7_talk_9 rfl rfl rfl ?_
    refine mm_callVP (as := [.int x3]) (st := []) (q := 13) lr_0 rfl (fX7_isPerson_ok x3 M) ms_X7_152 rfl (Nat.le_of_ble_eq_true rfl) (Nat.le_of_ble_eq_true rfl) rfl dX7_talk_10 rfl (fun b3 _ => ?_)
    refine mm_if_eq (q := 16) (tgt := 53) dX7_talk_13 rfl (by decide) (fun c4 => ?_) (fun c4 => ?_)
    · exact mm_vret rfl dX7_talk_53
    · refine mm_iload_n (q := 17) dX7_talk_16 rfl rfl rfl ?_
      refine mm_iload_n (q := 18) dX7_talk_17 rfl rfl rfl ?_
      refine mm_icmp_eq (q := 21) (tgt := 53) dX7_talk_18 rfl (by decide) (fun c5 => ?_) (fun c5 => ?_)
      · exact mm_vret rfl dX7_talk_53
      · refine mm_aload_n (q := 22) dX7_talk_21 rfl rfl rfl ?_
        refine mm_iload_n (q := 23) dX7_talk_22 rfl rfl rfl ?_
        refine mm_iload_n (q := 24) dX7_talk_23 rfl rfl rfl ?_
        refine mm_callVP (as := [.int x1, .int x2]) (st := []) (q := 27) lr_0 rfl (fX7_isDead_ok x1 x2 M) ms_X7_192 rfl (Nat.le_of_ble_eq_true rfl) (Nat.le_of_ble_eq_true rfl) rfl dX7_talk_24 rfl (fun b6 _ => ?_)
        refine mm_if_ne (q := 30) (tgt := 53) dX7_talk_27 rfl (by decide) (fun c7 => ?_) (fun c7 => ?_)
        · refine mm_aload_n (q := 31) dX7_talk_30 rfl rfl rfl ?_
          refine mm_iload_n (q := 32) dX7_talk_31 rfl rfl rfl ?_
          refine mm_iload_n (q := 33) dX7_talk_32 rfl rfl rfl ?_
          refine mm_callVP (as := [.int x1, .int x3]) (st := []) (q := 36) lr_0 rfl (fX7_isDead_ok x1 x3 M) ms_X7_192 rfl (Nat.le_of_ble_eq_true rfl) (Nat.le_of_ble_eq_true rfl) rfl dX7_talk_33 rfl (fun b8 _ => ?_)
          refine mm_if_ne (q := 39) (tgt := 53) dX7_talk_36 rfl (by decide) (fun c9 => ?_) (fun c9 => ?_)
          · refine mm_aload_n (q := 40) dX7_talk_39 rfl rfl rfl ?_
            refine mm_iload_n (q := 41) dX7_talk_40 rfl rfl rfl ?_
            refine mm_iload_n (q := 42) dX7_talk_41 rfl rfl rfl ?_
            refine mm_iload_n (q := 43) dX7_talk_42 rfl rfl rfl ?_
            refine mm_callVV (as := [.int x1, .int x2, .int x3]) (st := []) (q := 46) lr_0 rfl (fX7_says_ok x1 x2 x3 M) ms_X7_195 rfl (Nat.le_of_ble_eq_true rfl) (Nat.le_of_ble_eq_true rfl) rfl dX7_talk_43 rfl (fun M10 _ => ?_)
            refine mm_aload_n (q := 47) dX7_talk_46 rfl rfl rfl ?_
            refine mm_iload_n (q := 48) dX7_talk_47 rfl rfl rfl ?_
            refine mm_iload_n (q := 49) dX7_talk_48 rfl rfl rfl ?_
            refine mm_iload_n (q := 50) dX7_talk_49 rfl rfl rfl ?_
            refine mm_callVV (as := [.int x1, .int x3, .int x2]) (st := []) (q := 53) lr_0 rfl (fX7_says_ok x1 x3 x2 M10) ms_X7_195 rfl (Nat.le_of_ble_eq_true rfl) (Nat.le_of_ble_eq_true rfl) rfl dX7_talk_50 rfl (fun M11 _ => ?_)
            exact mm_vret rfl dX7_talk_53
          · exact mm_vret rfl dX7_talk_53
        · exact mm_vret rfl dX7_talk_53
def fX7_dies_J74 (x1 : Int32) (x2 : Int32) (x3 : Int32) (s0 : Int32) (kr : Int32 → mm_M → Option (mm_M)) (M : mm_M) : Option (mm_M) :=
  if x3 = 0 then
    (if s0 = 0 then
      ((mm_wa M 11 12 x2 (0 : Int32)).bind fun M12 =>
      kr (x2 + (1 : Int32)) M12)
    else
      (mm_wa M 11 12 x2 (2 : Int32)).bind fun M13 =>
      kr (x2 + (1 : Int32)) M13)
  else
    (mm_wa M 11 12 x2 (3 : Int32)).bind fun M14 =>
    kr (x2 + (1 : Int32)) M14
set_option maxRecDepth 100000 in
set_option maxHeartbeats 4000000 in
theorem fX7_dies_J74_ok (x1 : Int32) (x2 : Int32) (x3 : Int32) (s0 : Int32)  (M : mm_M)  (kr : Int32 → mm_M → Option (mm_M)) (hkr : ∀ (x2 : Int32) (M : mm_M), mm_C LR cX7_dies 5 RX7 none 0 mm_eV 2 [some (.ref 0), some (.int x1), some (.int x2), none, none] [] M (kr x2 M)) : mm_C LR cX7_dies 5 RX7 none 0 mm_eV 74 [some (.ref 0), some (.int x1), some (.int x2), some (.int x3), none] [.int s0] M (fX7_dies_J74 x1 x2 x3 s0 kr M) := by
  unfold fX7_dies_J74
  refine mm_istore (q := 76) (ls' := [some (.ref 0), some (.int x1), some (.int x2), some (.int x3), some (.int s0)]) dX7_dies_74 rfl rfl (Nat.le_of_ble_eq_true rfl) rfl ?_
  refine mm_aload_n (q := 77) dX7_dies_76 rfl rfl rfl ?_
  refine mm_getR (q := 80) (k1 := 11) dX7_dies_77 rfl lr_0 fd_X7_40 rfl ?_
  refine mm_iload_n (q := 81) dX7_dies_80 rfl rfl rfl ?_
  refine mm_iload_n (q := 82) dX7_dies_81 rfl rfl rfl ?_
  refine mm_if_eq (q := 85) (tgt := 89) dX7_dies_82 rfl (by decide) (fun c10 => ?_) (fun c10 => ?_)
  · refine mm_iload (q := 91) dX7_dies_89 rfl rfl ?_
    refine mm_if_eq (q := 94) (tgt := 98) dX7_dies_91 rfl (by decide) (fun c11 => ?_) (fun c11 => ?_)
    · refine mm_iconst (q := 99) dX7_dies_98 rfl ic_0 ?_
      refine mm_iast (q := 100) dX7_dies_99 rfl lr_11 (fun M12 _ => ?_)
      refine mm_iinc (q := 103) (ls' := [some (.ref 0), some (.int x1), some (.int (x2 + (1 : Int32))), some (.int x3), some (.int s0)]) dX7_dies_100 rfl rfl (ii_1 _) rfl (Nat.le_of_ble_eq_true rfl) rfl ?_
      refine mm_goto (tgt := 2) dX7_dies_103 (by decide) ?_
      refine mm_drop (ls' := [some (.ref 0), some (.int x1), some (.int (x2 + (1 : Int32))), none, none]) (mm_sub_at _ _ (And.intro rfl (And.intro rfl (And.intro rfl trivial)))) ?_
      exact hkr _ _
    · refine mm_iconst (q := 95) dX7_dies_94 rfl ic_2 ?_
      refine mm_goto (tgt := 99) dX7_dies_95 (by decide) ?_
      refine mm_iast (q := 100) dX7_dies_99 rfl lr_11 (fun M13 _ => ?_)
      refine mm_iinc (q := 103) (ls' := [some (.ref 0), some (.int x1), some (.int (x2 + (1 : Int32))), some (.int x3), some (.int s0)]) dX7_dies_100 rfl rfl (ii_1 _) rfl (Nat.le_of_ble_eq_true rfl) rfl ?_
      refine mm_goto (tgt := 2) dX7_dies_103 (by decide) ?_
      refine mm_drop (ls' := [some (.ref 0), some (.int x1), some (.int (x2 + (1 : Int32))), none, none]) (mm_sub_at _ _ (And.intro rfl (And.intro rfl (And.intro rfl trivial)))) ?_
      exact hkr _ _
  · refine mm_iconst (q := 86) dX7_dies_85 rfl ic_3 ?_
    refine mm_goto (tgt := 99) dX7_dies_86 (by decide) ?_
    refine mm_iast (q := 100) dX7_dies_99 rfl lr_11 (fun M14 _ => ?_)
    refine mm_iinc (q := 103) (ls' := [some (.ref 0), some (.int x1), some (.int (x2 + (1 : Int32))), some (.int x3), some (.int s0)]) dX7_dies_100 rfl rfl (ii_1 _) rfl (Nat.le_of_ble_eq_true rfl) rfl ?_
    refine mm_goto (tgt := 2) dX7_dies_103 (by decide) ?_
    refine mm_drop (ls' := [some (.ref 0), some (.int x1), some (.int (x2 + (1 : Int32))), none, none]) (mm_sub_at _ _ (And.intro rfl (And.intro rfl (And.intro rfl trivial)))) ?_
    exact hkr _ _
def fX7_dies_J47 (x1 : Int32) (x2 : Int32) (s0 : Int32) (kr : Int32 → mm_M → Option (mm_M)) (M : mm_M) : Option (mm_M) :=
  (mm_rd M 8 36 ((3 : Int32) * x2)).bind fun b7 =>
  (mm_rd M 7 16 (((2 : Int32) * b7) + (1 : Int32))).bind fun b8 =>
  fX7_dies_J74 x1 x2 s0 (if b8 = x1 then (1 : Int32) else (0 : Int32)) kr M
set_option maxRecDepth 100000 in
set_option maxHeartbeats 4000000 in
theorem fX7_dies_J47_ok (x1 : Int32) (x2 : Int32) (s0 : Int32)  (M : mm_M)  (kr : Int32 → mm_M → Option (mm_M)) (hkr : ∀ (x2 : Int32) (M : mm_M), mm_C LR cX7_dies 5 RX7 none 0 mm_eV 2 [some (.ref 0), some (.int x1), some (.int x2), none, none] [] M (kr x2 M)) : mm_C LR cX7_dies 5 RX7 none 0 mm_eV 47 [some (.ref 0), some (.int x1), some (.int x2), none, none] [.int s0] M (fX7_dies_J47 x1 x2 s0 kr M) := by
  unfold fX7_dies_J47
  refine mm_istore_n (q := 48) (ls' := [some (.ref 0), some (.int x1), some (.int x2), some (.int s0), none]) dX7_dies_47 rfl rfl rfl (Nat.le_of_ble_eq_true rfl) rfl ?_
  refine mm_aload_n (q := 49) dX7_dies_48 rfl rfl rfl ?_
  refine mm_getR (q := 52) (k1 := 7) dX7_dies_49 rfl lr_0 fd_X7_28 rfl ?_
  refine mm_iconst (q := 53) dX7_dies_52 rfl ic_2 ?_
  refine mm_aload_n (q := 54) dX7_dies_53 rfl rfl rfl ?_
  refine mm_getR (q := 57) (k1 := 8) dX7_dies_54 rfl lr_0 fd_X7_31 rfl ?_
  refine mm_iconst (q := 58) dX7_dies_57 rfl ic_3 ?_
  refine mm_iload_n (q := 59) dX7_dies_58 rfl rfl rfl ?_
  refine mm_imul (q := 60) dX7_dies_59 rfl ?_
  refine mm_iald (q := 61) dX7_dies_60 rfl lr_8 (fun b7 _ => ?_)
  refine mm_imul (q := 62) dX7_dies_61 rfl ?_
  refine mm_iconst (q := 63) dX7_dies_62 rfl ic_1 ?_
  refine mm_iadd (q := 64) dX7_dies_63 rfl ?_
  refine mm_iald (q := 65) dX7_dies_64 rfl lr_7 (fun b8 _ => ?_)
  refine mm_iload_n (q := 66) dX7_dies_65 rfl rfl rfl ?_
  by_cases c9 : b8 = x1
  · simp only [if_pos c9]
    refine mm_icmp_ne_t (q := 69) (tgt := 73) c9 dX7_dies_66 rfl (by decide) ?_
    refine mm_iconst (q := 70) dX7_dies_69 rfl ic_1 ?_
    refine mm_goto (tgt := 74) dX7_dies_70 (by decide) ?_
    exact fX7_dies_J74_ok _ _ _ _ _ _ hkr
  · simp only [if_neg c9]
    refine mm_icmp_ne_f (tgt := 73) c9 dX7_dies_66 (by decide) ?_
    refine mm_iconst (q := 74) dX7_dies_73 rfl ic_0 ?_
    exact fX7_dies_J74_ok _ _ _ _ _ _ hkr
def fX7_dies_L2 (x1 : Int32)  : Nat → Int32 → mm_M → Option (mm_M)
  | 0, _, _ => none
  | n + 1, x2, M =>
    if (M 0 9) ≤ x2 then
      some M
    else
      (mm_rd M 11 12 x2).bind fun b2 =>
      if b2 = 0 then
        ((mm_rd M 8 36 (((3 : Int32) * x2) + (1 : Int32))).bind fun b4 =>
        (mm_rd M 7 16 (((2 : Int32) * b4) + (1 : Int32))).bind fun b5 =>
        fX7_dies_J47 x1 x2 (if b5 = x1 then (1 : Int32) else (0 : Int32)) (fX7_dies_L2 x1 n) M)
      else
        fX7_dies_L2 x1 n (x2 + (1 : Int32)) M
set_option maxRecDepth 100000 in
set_option maxHeartbeats 4000000 in
theorem fX7_dies_L2_ok (x1 : Int32)    : ∀ (n : Nat) (x2 : Int32) (M : mm_M), mm_C LR cX7_dies 5 RX7 none 0 mm_eV 2 [some (.ref 0), some (.int x1), some (.int x2), none, none] [] M (fX7_dies_L2 x1 n x2 M) := by
  intro n
  induction n with
  | zero => intro x2 M; exact mm_none
  | succ n ih =>
    intro x2 M
    rw [fX7_dies_L2]
    refine mm_iload_n (q := 3) dX7_dies_2 rfl rfl rfl ?_
    refine mm_aload_n (q := 4) dX7_dies_3 rfl rfl rfl ?_
    refine mm_getI (q := 7) dX7_dies_4 rfl lr_0 fd_X7_125 rfl ?_
    refine mm_icmp_ge (q := 10) (tgt := 106) dX7_dies_7 rfl (by decide) (fun c1 => ?_) (fun c1 => ?_)
    · exact mm_vret rfl dX7_dies_106
    · refine mm_aload_n (q := 11) dX7_dies_10 rfl rfl rfl ?_
      refine mm_getR (q := 14) (k1 := 11) dX7_dies_11 rfl lr_0 fd_X7_40 rfl ?_
      refine mm_iload_n (q := 15) dX7_dies_14 rfl rfl rfl ?_
      refine mm_iald (q := 16) dX7_dies_15 rfl lr_11 (fun b2 _ => ?_)
      refine mm_if_ne (q := 19) (tgt := 100) dX7_dies_16 rfl (by decide) (fun c3 => ?_) (fun c3 => ?_)
      · refine mm_aload_n (q := 20) dX7_dies_19 rfl rfl rfl ?_
        refine mm_getR (q := 23) (k1 := 7) dX7_dies_20 rfl lr_0 fd_X7_28 rfl ?_
        refine mm_iconst (q := 24) dX7_dies_23 rfl ic_2 ?_
        refine mm_aload_n (q := 25) dX7_dies_24 rfl rfl rfl ?_
        refine mm_getR (q := 28) (k1 := 8) dX7_dies_25 rfl lr_0 fd_X7_31 rfl ?_
        refine mm_iconst (q := 29) dX7_dies_28 rfl ic_3 ?_
        refine mm_iload_n (q := 30) dX7_dies_29 rfl rfl rfl ?_
        refine mm_imul (q := 31) dX7_dies_30 rfl ?_
        refine mm_iconst (q := 32) dX7_dies_31 rfl ic_1 ?_
        refine mm_iadd (q := 33) dX7_dies_32 rfl ?_
        refine mm_iald (q := 34) dX7_dies_33 rfl lr_8 (fun b4 _ => ?_)
        refine mm_imul (q := 35) dX7_dies_34 rfl ?_
        refine mm_iconst (q := 36) dX7_dies_35 rfl ic_1 ?_
        refine mm_iadd (q := 37) dX7_dies_36 rfl ?_
        refine mm_iald (q := 38) dX7_dies_37 rfl lr_7 (fun b5 _ => ?_)
        refine mm_iload_n (q := 39) dX7_dies_38 rfl rfl rfl ?_
        by_cases c6 : b5 = x1
        · simp only [if_pos c6]
          refine mm_icmp_ne_t (q := 42) (tgt := 46) c6 dX7_dies_39 rfl (by decide) ?_
          refine mm_iconst (q := 43) dX7_dies_42 rfl ic_1 ?_
          refine mm_goto (tgt := 47) dX7_dies_43 (by decide) ?_
          exact fX7_dies_J47_ok _ _ _ _ _ ih
        · simp only [if_neg c6]
          refine mm_icmp_ne_f (tgt := 46) c6 dX7_dies_39 (by decide) ?_
          refine mm_iconst (q := 47) dX7_dies_46 rfl ic_0 ?_
          exact fX7_dies_J47_ok _ _ _ _ _ ih
      · refine mm_iinc (q := 103) (ls' := [some (.ref 0), some (.int x1), some (.int (x2 + (1 : Int32))), none, none]) dX7_dies_100 rfl rfl (ii_1 _) rfl (Nat.le_of_ble_eq_true rfl) rfl ?_
        refine mm_goto (tgt := 2) dX7_dies_103 (by decide) ?_
        exact ih _ _
def fX7_dies (x1 : Int32) (M : mm_M) : Option (mm_M) :=
  fX7_dies_L2 x1 1000 (0 : Int32) M
set_option maxRecDepth 100000 in
set_option maxHeartbeats 4000000 in
theorem fX7_dies_ok (x1 : Int32) (M : mm_M)  : mm_E LR yX7_dies cX7_dies 5 none 0 mm_eV [.ref 0, .int x1] M (fX7_dies x1 M) := by
  refine mm_E.of (own := RX7) (ls := [some (.ref 0), some (.int x1), none, none, none]) (by decide) rfl rfl (Nat.le_of_ble_eq_true rfl) ?_
  unfold fX7_dies
  refine mm_iconst (q := 1) dX7_dies_0 rfl ic_0 ?_
  refine mm_istore_n (q := 2) (ls' := [some (.ref 0), some (.int x1), some (.int (0 : Int32)), none, none]) dX7_dies_1 rfl rfl rfl (Nat.le_of_ble_eq_true rfl) rfl ?_
  exact fX7_dies_L2_ok x1 _ _ _
def fX7_passes_L15 (x1 : Int32) (k66 : mm_M → Option (mm_M)) : Nat → Int32 → mm_M → Option (mm_M)
  | 0, _, _ => none
  | n + 1, x2, M =>
    if (M 0 11) ≤ x2 then
      k66 M
    else
      (mm_rd M 9 36 ((3 : Int32) * x2)).bind fun b4 =>
      if b4 = x1 then
        ((mm_rd M 9 36 (((3 : Int32) * x2) + (1 : Int32))).bind fun b6 =>
        (mm_rd M 9 36 (((3 : Int32) * x2) + (2 : Int32))).bind fun b7 =>
        (fX7_talk x1 b6 b7 M).bind fun M8 =>
        fX7_passes_L15 x1 k66 n (x2 + (1 : Int32)) M8)
      else
        fX7_passes_L15 x1 k66 n (x2 + (1 : Int32)) M
set_option maxRecDepth 100000 in
set_option maxHeartbeats 4000000 in
theorem fX7_passes_L15_ok (x1 : Int32)  (k66 : mm_M → Option (mm_M)) (hk66 : ∀  (M : mm_M), mm_C LR cX7_passes 3 RX7 none 4 mm_eV 66 [some (.ref 0), some (.int x1), none] [] M (k66 M)) : ∀ (n : Nat) (x2 : Int32) (M : mm_M), mm_C LR cX7_passes 3 RX7 none 4 mm_eV 15 [some (.ref 0), some (.int x1), some (.int x2)] [] M (fX7_passes_L15 x1 k66 n x2 M) := by
  intro n
  induction n with
  | zero => intro x2 M; exact mm_none
  | succ n ih =>
    intro x2 M
    rw [fX7_passes_L15]
    refine mm_iload_n (q := 16) dX7_passes_15 rfl rfl rfl ?_
    refine mm_aload_n (q := 17) dX7_passes_16 rfl rfl rfl ?_
    refine mm_getI (q := 20) dX7_passes_17 rfl lr_0 fd_X7_131 rfl ?_
    refine mm_icmp_ge (q := 23) (tgt := 66) dX7_passes_20 rfl (by decide) (fun c3 => ?_) (fun c3 => ?_)
    · refine mm_drop (ls' := [some (.ref 0), some (.int x1), none]) (mm_sub_at _ _ (And.intro rfl (And.intro rfl trivial))) ?_
      exact hk66  _
    · refine mm_aload_n (q := 24) dX7_passes_23 rfl rfl rfl ?_
      refine mm_getR (q := 27) (k1 := 9) dX7_passes_24 rfl lr_0 fd_X7_34 rfl ?_
      refine mm_iconst (q := 28) dX7_passes_27 rfl ic_3 ?_
      refine mm_iload_n (q := 29) dX7_passes_28 rfl rfl rfl ?_
      refine mm_imul (q := 30) dX7_passes_29 rfl ?_
      refine mm_iald (q := 31) dX7_passes_30 rfl lr_9 (fun b4 _ => ?_)
      refine mm_iload_n (q := 32) dX7_passes_31 rfl rfl rfl ?_
      refine mm_icmp_ne (q := 35) (tgt := 60) dX7_passes_32 rfl (by decide) (fun c5 => ?_) (fun c5 => ?_)
      · refine mm_aload_n (q := 36) dX7_passes_35 rfl rfl rfl ?_
        refine mm_iload_n (q := 37) dX7_passes_36 rfl rfl rfl ?_
        refine mm_aload_n (q := 38) dX7_passes_37 rfl rfl rfl ?_
        refine mm_getR (q := 41) (k1 := 9) dX7_passes_38 rfl lr_0 fd_X7_34 rfl ?_
        refine mm_iconst (q := 42) dX7_passes_41 rfl ic_3 ?_
        refine mm_iload_n (q := 43) dX7_passes_42 rfl rfl rfl ?_
        refine mm_imul (q := 44) dX7_passes_43 rfl ?_
        refine mm_iconst (q := 45) dX7_passes_44 rfl ic_1 ?_
        refine mm_iadd (q := 46) dX7_passes_45 rfl ?_
        refine mm_iald (q := 47) dX7_passes_46 rfl lr_9 (fun b6 _ => ?_)
        refine mm_aload_n (q := 48) dX7_passes_47 rfl rfl rfl ?_
        refine mm_getR (q := 51) (k1 := 9) dX7_passes_48 rfl lr_0 fd_X7_34 rfl ?_
        refine mm_iconst (q := 52) dX7_passes_51 rfl ic_3 ?_
        refine mm_iload_n (q := 53) dX7_passes_52 rfl rfl rfl ?_
        refine mm_imul (q := 54) dX7_passes_53 rfl ?_
        refine mm_iconst (q := 55) dX7_passes_54 rfl ic_2 ?_
        refine mm_iadd (q := 56) dX7_passes_55 rfl ?_
        refine mm_iald (q := 57) dX7_passes_56 rfl lr_9 (fun b7 _ => ?_)
        refine mm_callVV (as := [.int x1, .int b6, .int b7]) (st := []) (q := 60) lr_0 rfl (fX7_talk_ok x1 b6 b7 M) ms_X7_202 rfl (Nat.le_of_ble_eq_true rfl) (Nat.le_of_ble_eq_true rfl) rfl dX7_passes_57 rfl (fun M8 _ => ?_)
        refine mm_iinc (q := 63) (ls' := [some (.ref 0), some (.int x1), some (.int (x2 + (1 : Int32)))]) dX7_passes_60 rfl rfl (ii_1 _) rfl (Nat.le_of_ble_eq_true rfl) rfl ?_
        refine mm_goto (tgt := 15) dX7_passes_63 (by decide) ?_
        exact ih _ _
      · refine mm_iinc (q := 63) (ls' := [some (.ref 0), some (.int x1), some (.int (x2 + (1 : Int32)))]) dX7_passes_60 rfl rfl (ii_1 _) rfl (Nat.le_of_ble_eq_true rfl) rfl ?_
        refine mm_goto (tgt := 15) dX7_passes_63 (by decide) ?_
        exact ih _ _
def fX7_passes_L94 (x1 : Int32) (k142 : mm_M → Option (mm_M)) : Nat → Int32 → mm_M → Option (mm_M)
  | 0, _, _ => none
  | n + 1, x2, M =>
    if (M 0 9) ≤ x2 then
      k142 M
    else
      (mm_rd M 11 12 x2).bind fun b14 =>
      (mm_wa M 15 288 (((12 : Int32) * x1) + x2) b14).bind fun M15 =>
      (mm_rd M15 12 12 x2).bind fun b16 =>
      (mm_wa M15 16 288 (((12 : Int32) * x1) + x2) b16).bind fun M17 =>
      fX7_passes_L94 x1 k142 n (x2 + (1 : Int32)) M17
set_option maxRecDepth 100000 in
set_option maxHeartbeats 4000000 in
theorem fX7_passes_L94_ok (x1 : Int32)  (k142 : mm_M → Option (mm_M)) (hk142 : ∀  (M : mm_M), mm_C LR cX7_passes 3 RX7 none 4 mm_eV 142 [some (.ref 0), some (.int x1), none] [] M (k142 M)) : ∀ (n : Nat) (x2 : Int32) (M : mm_M), mm_C LR cX7_passes 3 RX7 none 4 mm_eV 94 [some (.ref 0), some (.int x1), some (.int x2)] [] M (fX7_passes_L94 x1 k142 n x2 M) := by
  intro n
  induction n with
  | zero => intro x2 M; exact mm_none
  | succ n ih =>
    intro x2 M
    rw [fX7_passes_L94]
    refine mm_iload_n (q := 95) dX7_passes_94 rfl rfl rfl ?_
    refine mm_aload_n (q := 96) dX7_passes_95 rfl rfl rfl ?_
    refine mm_getI (q := 99) dX7_passes_96 rfl lr_0 fd_X7_125 rfl ?_
    refine mm_icmp_ge (q := 102) (tgt := 142) dX7_passes_99 rfl (by decide) (fun c13 => ?_) (fun c13 => ?_)
    · refine mm_drop (ls' := [some (.ref 0), some (.int x1), none]) (mm_sub_at _ _ (And.intro rfl (And.intro rfl trivial))) ?_
      exact hk142  _
    · refine mm_aload_n (q := 103) dX7_passes_102 rfl rfl rfl ?_
      refine mm_getR (q := 106) (k1 := 15) dX7_passes_103 rfl lr_0 fd_X7_52 rfl ?_
      refine mm_bipush (q := 108) dX7_passes_106 rfl bp_12 ?_
      refine mm_iload_n (q := 109) dX7_passes_108 rfl rfl rfl ?_
      refine mm_imul (q := 110) dX7_passes_109 rfl ?_
      refine mm_iload_n (q := 111) dX7_passes_110 rfl rfl rfl ?_
      refine mm_iadd (q := 112) dX7_passes_111 rfl ?_
      refine mm_aload_n (q := 113) dX7_passes_112 rfl rfl rfl ?_
      refine mm_getR (q := 116) (k1 := 11) dX7_passes_113 rfl lr_0 fd_X7_40 rfl ?_
      refine mm_iload_n (q := 117) dX7_passes_116 rfl rfl rfl ?_
      refine mm_iald (q := 118) dX7_passes_117 rfl lr_11 (fun b14 _ => ?_)
      refine mm_iast (q := 119) dX7_passes_118 rfl lr_15 (fun M15 _ => ?_)
      refine mm_aload_n (q := 120) dX7_passes_119 rfl rfl rfl ?_
      refine mm_getR (q := 123) (k1 := 16) dX7_passes_120 rfl lr_0 fd_X7_55 rfl ?_
      refine mm_bipush (q := 125) dX7_passes_123 rfl bp_12 ?_
      refine mm_iload_n (q := 126) dX7_passes_125 rfl rfl rfl ?_
      refine mm_imul (q := 127) dX7_passes_126 rfl ?_
      refine mm_iload_n (q := 128) dX7_passes_127 rfl rfl rfl ?_
      refine mm_iadd (q := 129) dX7_passes_128 rfl ?_
      refine mm_aload_n (q := 130) dX7_passes_129 rfl rfl rfl ?_
      refine mm_getR (q := 133) (k1 := 12) dX7_passes_130 rfl lr_0 fd_X7_43 rfl ?_
      refine mm_iload_n (q := 134) dX7_passes_133 rfl rfl rfl ?_
      refine mm_iald (q := 135) dX7_passes_134 rfl lr_12 (fun b16 _ => ?_)
      refine mm_iast (q := 136) dX7_passes_135 rfl lr_16 (fun M17 _ => ?_)
      refine mm_iinc (q := 139) (ls' := [some (.ref 0), some (.int x1), some (.int (x2 + (1 : Int32)))]) dX7_passes_136 rfl rfl (ii_1 _) rfl (Nat.le_of_ble_eq_true rfl) rfl ?_
      refine mm_goto (tgt := 94) dX7_passes_139 (by decide) ?_
      exact ih _ _
def fX7_passes_L144 (x1 : Int32)  : Nat → Int32 → mm_M → Option (mm_M)
  | 0, _, _ => none
  | n + 1, x2, M =>
    if (M 0 7) ≤ x2 then
      some M
    else
      (mm_rd M 13 8 x2).bind fun b20 =>
      (mm_wa M 17 192 (((8 : Int32) * x1) + x2) b20).bind fun M21 =>
      fX7_passes_L144 x1 n (x2 + (1 : Int32)) M21
set_option maxRecDepth 100000 in
set_option maxHeartbeats 4000000 in
theorem fX7_passes_L144_ok (x1 : Int32)    : ∀ (n : Nat) (x2 : Int32) (M : mm_M), mm_C LR cX7_passes 3 RX7 none 4 mm_eV 144 [some (.ref 0), some (.int x1), some (.int x2)] [] M (fX7_passes_L144 x1 n x2 M) := by
  intro n
  induction n with
  | zero => intro x2 M; exact mm_none
  | succ n ih =>
    intro x2 M
    rw [fX7_passes_L144]
    refine mm_iload_n (q := 145) dX7_passes_144 rfl rfl rfl ?_
    refine mm_aload_n (q := 146) dX7_passes_145 rfl rfl rfl ?_
    refine mm_getI (q := 149) dX7_passes_146 rfl lr_0 fd_X7_116 rfl ?_
    refine mm_icmp_ge (q := 152) (tgt := 175) dX7_passes_149 rfl (by decide) (fun c19 => ?_) (fun c19 => ?_)
    · exact mm_vret rfl dX7_passes_175
    · refine mm_aload_n (q := 153) dX7_passes_152 rfl rfl rfl ?_
      refine mm_getR (q := 156) (k1 := 17) dX7_passes_153 rfl lr_0 fd_X7_58 rfl ?_
      refine mm_bipush (q := 158) dX7_passes_156 rfl bp_8 ?_
      refine mm_iload_n (q := 159) dX7_passes_158 rfl rfl rfl ?_
      refine mm_imul (q := 160) dX7_passes_159 rfl ?_
      refine mm_iload_n (q := 161) dX7_passes_160 rfl rfl rfl ?_
      refine mm_iadd (q := 162) dX7_passes_161 rfl ?_
      refine mm_aload_n (q := 163) dX7_passes_162 rfl rfl rfl ?_
      refine mm_getR (q := 166) (k1 := 13) dX7_passes_163 rfl lr_0 fd_X7_46 rfl ?_
      refine mm_iload_n (q := 167) dX7_passes_166 rfl rfl rfl ?_
      refine mm_iald (q := 168) dX7_passes_167 rfl lr_13 (fun b20 _ => ?_)
      refine mm_iast (q := 169) dX7_passes_168 rfl lr_17 (fun M21 _ => ?_)
      refine mm_iinc (q := 172) (ls' := [some (.ref 0), some (.int x1), some (.int (x2 + (1 : Int32)))]) dX7_passes_169 rfl rfl (ii_1 _) rfl (Nat.le_of_ble_eq_true rfl) rfl ?_
      refine mm_goto (tgt := 144) dX7_passes_172 (by decide) ?_
      exact ih _ _
def fX7_passes (x1 : Int32) (M : mm_M) : Option (mm_M) :=
  if (x1 - x1 / (7 : Int32) * (7 : Int32)) = (6 : Int32) then
    ((fX7_grows M).bind fun M2 =>
    fX7_passes_L15 x1 (fun M9 =>
      if (M9 0 16) = x1 then
        ((fX7_talk x1 (M9 0 17) (M9 0 18) M9).bind fun M11 =>
        (fX7_dies x1 M11).bind fun M12 =>
        fX7_passes_L94 x1 (fun M18 =>
      fX7_passes_L144 x1 1000 (0 : Int32) M18) 1000 (0 : Int32) M12)
      else
        (fX7_dies x1 M9).bind fun M22 =>
        fX7_passes_L94 x1 (fun M23 =>
      fX7_passes_L144 x1 1000 (0 : Int32) M23) 1000 (0 : Int32) M22) 1000 (0 : Int32) M2)
  else
    fX7_passes_L15 x1 (fun M24 =>
      if (M24 0 16) = x1 then
        ((fX7_talk x1 (M24 0 17) (M24 0 18) M24).bind fun M26 =>
        (fX7_dies x1 M26).bind fun M27 =>
        fX7_passes_L94 x1 (fun M28 =>
      fX7_passes_L144 x1 1000 (0 : Int32) M28) 1000 (0 : Int32) M27)
      else
        (fX7_dies x1 M24).bind fun M29 =>
        fX7_passes_L94 x1 (fun M30 =>
      fX7_passes_L144 x1 1000 (0 : Int32) M30) 1000 (0 : Int32) M29) 1000 (0 : Int32) M
set_option maxRecDepth 100000 in
set_option maxHeartbeats 4000000 in
theorem fX7_passes_ok (x1 : Int32) (M : mm_M)  : mm_E LR yX7_passes cX7_passes 3 none 4 mm_eV [.ref 0, .int x1] M (fX7_passes x1 M) := by
  refine mm_E.of (own := RX7) (ls := [some (.ref 0), some (.int x1), none]) (by decide) rfl rfl (Nat.le_of_ble_eq_true rfl) ?_
  unfold fX7_passes
  refine mm_iload_n (q := 1) dX7_passes_0 rfl rfl rfl ?_
  refine mm_bipush (q := 3) dX7_passes_1 rfl bp_7 ?_
  refine mm_iremC (q := 4) dX7_passes_3 rfl (by decide) ?_
  refine mm_bipush (q := 6) dX7_passes_4 rfl bp_6 ?_
  refine mm_icmp_ne (q := 9) (tgt := 13) dX7_passes_6 rfl (by decide) (fun c1 => ?_) (fun c1 => ?_)
  · refine mm_aload_n (q := 10) dX7_passes_9 rfl rfl rfl ?_
    refine mm_callVV (as := []) (st := []) (q := 13) lr_0 rfl (fX7_grows_ok M) ms_X7_199 rfl (Nat.le_of_ble_eq_true rfl) (Nat.le_of_ble_eq_true rfl) rfl dX7_passes_10 rfl (fun M2 _ => ?_)
    refine mm_iconst (q := 14) dX7_passes_13 rfl ic_0 ?_
    refine mm_istore_n (q := 15) (ls' := [some (.ref 0), some (.int x1), some (.int (0 : Int32))]) dX7_passes_14 rfl rfl rfl (Nat.le_of_ble_eq_true rfl) rfl ?_
    refine fX7_passes_L15_ok x1 _ (fun M9 => ?_) _ _ _
    refine mm_aload_n (q := 67) dX7_passes_66 rfl rfl rfl ?_
    refine mm_getI (q := 70) dX7_passes_67 rfl lr_0 fd_X7_70 rfl ?_
    refine mm_iload_n (q := 71) dX7_passes_70 rfl rfl rfl ?_
    refine mm_icmp_ne (q := 74) (tgt := 87) dX7_passes_71 rfl (by decide) (fun c10 => ?_) (fun c10 => ?_)
    · refine mm_aload_n (q := 75) dX7_passes_74 rfl rfl rfl ?_
      refine mm_iload_n (q := 76) dX7_passes_75 rfl rfl rfl ?_
      refine mm_aload_n (q := 77) dX7_passes_76 rfl rfl rfl ?_
      refine mm_getI (q := 80) dX7_passes_77 rfl lr_0 fd_X7_205 rfl ?_
      refine mm_aload_n (q := 81) dX7_passes_80 rfl rfl rfl ?_
      refine mm_getI (q := 84) dX7_passes_81 rfl lr_0 fd_X7_208 rfl ?_
      refine mm_callVV (as := [.int x1, .int (M9 0 17), .int (M9 0 18)]) (st := []) (q := 87) lr_0 rfl (fX7_talk_ok x1 (M9 0 17) (M9 0 18) M9) ms_X7_202 rfl (Nat.le_of_ble_eq_true rfl) (Nat.le_of_ble_eq_true rfl) rfl dX7_passes_84 rfl (fun M11 _ => ?_)
      refine mm_aload_n (q := 88) dX7_passes_87 rfl rfl rfl ?_
      refine mm_iload_n (q := 89) dX7_passes_88 rfl rfl rfl ?_
      refine mm_callVV (as := [.int x1]) (st := []) (q := 92) lr_0 rfl (fX7_dies_ok x1 M11) ms_X7_211 rfl (Nat.le_of_ble_eq_true rfl) (Nat.le_of_ble_eq_true rfl) rfl dX7_passes_89 rfl (fun M12 _ => ?_)
      refine mm_iconst (q := 93) dX7_passes_92 rfl ic_0 ?_
      refine mm_istore_n (q := 94) (ls' := [some (.ref 0), some (.int x1), some (.int (0 : Int32))]) dX7_passes_93 rfl rfl rfl (Nat.le_of_ble_eq_true rfl) rfl ?_
      refine fX7_passes_L94_ok x1 _ (fun M18 => ?_) _ _ _
      refine mm_iconst (q := 143) dX7_passes_142 rfl ic_0 ?_
      refine mm_istore_n (q := 144) (ls' := [some (.ref 0), some (.int x1), some (.int (0 : Int32))]) dX7_passes_143 rfl rfl rfl (Nat.le_of_ble_eq_true rfl) rfl ?_
      exact fX7_passes_L144_ok x1 _ _ _
    · refine mm_aload_n (q := 88) dX7_passes_87 rfl rfl rfl ?_
      refine mm_iload_n (q := 89) dX7_passes_88 rfl rfl rfl ?_
      refine mm_callVV (as := [.int x1]) (st := []) (q := 92) lr_0 rfl (fX7_dies_ok x1 M9) ms_X7_211 rfl (Nat.le_of_ble_eq_true rfl) (Nat.le_of_ble_eq_true rfl) rfl dX7_passes_89 rfl (fun M22 _ => ?_)
      refine mm_iconst (q := 93) dX7_passes_92 rfl ic_0 ?_
      refine mm_istore_n (q := 94) (ls' := [some (.ref 0), some (.int x1), some (.int (0 : Int32))]) dX7_passes_93 rfl rfl rfl (Nat.le_of_ble_eq_true rfl) rfl ?_
      refine fX7_passes_L94_ok x1 _ (fun M23 => ?_) _ _ _
      refine mm_iconst (q := 143) dX7_passes_142 rfl ic_0 ?_
      refine mm_istore_n (q := 144) (ls' := [some (.ref 0), some (.int x1), some (.int (0 : Int32))]) dX7_passes_143 rfl rfl rfl (Nat.le_of_ble_eq_true rfl) rfl ?_
      exact fX7_passes_L144_ok x1 _ _ _
  · refine mm_iconst (q := 14) dX7_passes_13 rfl ic_0 ?_
    refine mm_istore_n (q := 15) (ls' := [some (.ref 0), some (.int x1), some (.int (0 : Int32))]) dX7_passes_14 rfl rfl rfl (Nat.le_of_ble_eq_true rfl) rfl ?_
    refine fX7_passes_L15_ok x1 _ (fun M24 => ?_) _ _ _
    refine mm_aload_n (q := 67) dX7_passes_66 rfl rfl rfl ?_
    refine mm_getI (q := 70) dX7_passes_67 rfl lr_0 fd_X7_70 rfl ?_
    refine mm_iload_n (q := 71) dX7_passes_70 rfl rfl rfl ?_
    refine mm_icmp_ne (q := 74) (tgt := 87) dX7_passes_71 rfl (by decide) (fun c25 => ?_) (fun c25 => ?_)
    · refine mm_aload_n (q := 75) dX7_passes_74 rfl rfl rfl ?_
      refine mm_iload_n (q := 76) dX7_passes_75 rfl rfl rfl ?_
      refine mm_aload_n (q := 77) dX7_passes_76 rfl rfl rfl ?_
      refine mm_getI (q := 80) dX7_passes_77 rfl lr_0 fd_X7_205 rfl ?_
      refine mm_aload_n (q := 81) dX7_passes_80 rfl rfl rfl ?_
      refine mm_getI (q := 84) dX7_passes_81 rfl lr_0 fd_X7_208 rfl ?_
      refine mm_callVV (as := [.int x1, .int (M24 0 17), .int (M24 0 18)]) (st := []) (q := 87) lr_0 rfl (fX7_talk_ok x1 (M24 0 17) (M24 0 18) M24) ms_X7_202 rfl (Nat.le_of_ble_eq_true rfl) (Nat.le_of_ble_eq_true rfl) rfl dX7_passes_84 rfl (fun M26 _ => ?_)
      refine mm_aload_n (q := 88) dX7_passes_87 rfl rfl rfl ?_
      refine mm_iload_n (q := 89) dX7_passes_88 rfl rfl rfl ?_
      refine mm_callVV (as := [.int x1]) (st := []) (q := 92) lr_0 rfl (fX7_dies_ok x1 M26) ms_X7_211 rfl (Nat.le_of_ble_eq_true rfl) (Nat.le_of_ble_eq_true rfl) rfl dX7_passes_89 rfl (fun M27 _ => ?_)
      refine mm_iconst (q := 93) dX7_passes_92 rfl ic_0 ?_
      refine mm_istore_n (q := 94) (ls' := [some (.ref 0), some (.int x1), some (.int (0 : Int32))]) dX7_passes_93 rfl rfl rfl (Nat.le_of_ble_eq_true rfl) rfl ?_
      refine fX7_passes_L94_ok x1 _ (fun M28 => ?_) _ _ _
      refine mm_iconst (q := 143) dX7_passes_142 rfl ic_0 ?_
      refine mm_istore_n (q := 144) (ls' := [some (.ref 0), some (.int x1), some (.int (0 : Int32))]) dX7_passes_143 rfl rfl rfl (Nat.le_of_ble_eq_true rfl) rfl ?_
      exact fX7_passes_L144_ok x1 _ _ _
    · refine mm_aload_n (q := 88) dX7_passes_87 rfl rfl rfl ?_
      refine mm_iload_n (q := 89) dX7_passes_88 rfl rfl rfl ?_
      refine mm_callVV (as := [.int x1]) (st := []) (q := 92) lr_0 rfl (fX7_dies_ok x1 M24) ms_X7_211 rfl (Nat.le_of_ble_eq_true rfl) (Nat.le_of_ble_eq_true rfl) rfl dX7_passes_89 rfl (fun M29 _ => ?_)
      refine mm_iconst (q := 93) dX7_passes_92 rfl ic_0 ?_
      refine mm_istore_n (q := 94) (ls' := [some (.ref 0), some (.int x1), some (.int (0 : Int32))]) dX7_passes_93 rfl rfl rfl (Nat.le_of_ble_eq_true rfl) rfl ?_
      refine fX7_passes_L94_ok x1 _ (fun M30 => ?_) _ _ _
      refine mm_iconst (q := 143) dX7_passes_142 rfl ic_0 ?_
      refine mm_istore_n (q := 144) (ls' := [some (.ref 0), some (.int x1), some (.int (0 : Int32))]) dX7_passes_143 rfl rfl rfl (Nat.le_of_ble_eq_true rfl) rfl ?_
      exact fX7_passes_L144_ok x1 _ _ _
def fX7_runs_J83 (x1 : Int32) (s0 : Int32) (s1 : Int32) (kr : Int32 → mm_M → Option (mm_M)) (M : mm_M) : Option (mm_M) :=
  (mm_wa M 11 12 s1 s0).bind fun M6 =>
  (mm_rd M6 8 36 (((3 : Int32) * x1) + (2 : Int32))).bind fun b7 =>
  (mm_wa M6 12 12 x1 b7).bind fun M8 =>
  kr (x1 + (1 : Int32)) M8
set_option maxRecDepth 100000 in
set_option maxHeartbeats 4000000 in
theorem fX7_runs_J83_ok (x1 : Int32) (s0 : Int32) (s1 : Int32)  (M : mm_M)  (kr : Int32 → mm_M → Option (mm_M)) (hkr : ∀ (x1 : Int32) (M : mm_M), mm_C LR cX7_runs 3 RX7 none 5 mm_eV 2 [some (.ref 0), some (.int x1), none] [] M (kr x1 M)) : mm_C LR cX7_runs 3 RX7 none 5 mm_eV 83 [some (.ref 0), some (.int x1), none] [.int s0, .int s1, .ref 11] M (fX7_runs_J83 x1 s0 s1 kr M) := by
  unfold fX7_runs_J83
  refine mm_iast (q := 84) dX7_runs_83 rfl lr_11 (fun M6 _ => ?_)
  refine mm_aload_n (q := 85) dX7_runs_84 rfl rfl rfl ?_
  refine mm_getR (q := 88) (k1 := 12) dX7_runs_85 rfl lr_0 fd_X7_43 rfl ?_
  refine mm_iload_n (q := 89) dX7_runs_88 rfl rfl rfl ?_
  refine mm_aload_n (q := 90) dX7_runs_89 rfl rfl rfl ?_
  refine mm_getR (q := 93) (k1 := 8) dX7_runs_90 rfl lr_0 fd_X7_31 rfl ?_
  refine mm_iconst (q := 94) dX7_runs_93 rfl ic_3 ?_
  refine mm_iload_n (q := 95) dX7_runs_94 rfl rfl rfl ?_
  refine mm_imul (q := 96) dX7_runs_95 rfl ?_
  refine mm_iconst (q := 97) dX7_runs_96 rfl ic_2 ?_
  refine mm_iadd (q := 98) dX7_runs_97 rfl ?_
  refine mm_iald (q := 99) dX7_runs_98 rfl lr_8 (fun b7 _ => ?_)
  refine mm_iast (q := 100) dX7_runs_99 rfl lr_12 (fun M8 _ => ?_)
  refine mm_iinc (q := 103) (ls' := [some (.ref 0), some (.int (x1 + (1 : Int32))), none]) dX7_runs_100 rfl rfl (ii_1 _) rfl (Nat.le_of_ble_eq_true rfl) rfl ?_
  refine mm_goto (tgt := 2) dX7_runs_103 (by decide) ?_
  exact hkr _ _
def fX7_runs_J68 (x1 : Int32) (s0 : Int32) (kr : Int32 → mm_M → Option (mm_M)) (M : mm_M) : Option (mm_M) :=
  fX7_runs_J83 x1 (if s0 = 0 then (4 : Int32) else (0 : Int32)) x1 kr M
set_option maxRecDepth 100000 in
set_option maxHeartbeats 4000000 in
theorem fX7_runs_J68_ok (x1 : Int32) (s0 : Int32)  (M : mm_M)  (kr : Int32 → mm_M → Option (mm_M)) (hkr : ∀ (x1 : Int32) (M : mm_M), mm_C LR cX7_runs 3 RX7 none 5 mm_eV 2 [some (.ref 0), some (.int x1), none] [] M (kr x1 M)) : mm_C LR cX7_runs 3 RX7 none 5 mm_eV 68 [some (.ref 0), some (.int x1), none] [.int s0] M (fX7_runs_J68 x1 s0 kr M) := by
  unfold fX7_runs_J68
  refine mm_istore_n (q := 69) (ls' := [some (.ref 0), some (.int x1), some (.int s0)]) dX7_runs_68 rfl rfl rfl (Nat.le_of_ble_eq_true rfl) rfl ?_
  refine mm_aload_n (q := 70) dX7_runs_69 rfl rfl rfl ?_
  refine mm_getR (q := 73) (k1 := 11) dX7_runs_70 rfl lr_0 fd_X7_40 rfl ?_
  refine mm_iload_n (q := 74) dX7_runs_73 rfl rfl rfl ?_
  refine mm_iload_n (q := 75) dX7_runs_74 rfl rfl rfl ?_
  by_cases c5 : s0 = 0
  · simp only [if_pos c5]
    refine mm_if_eq_t (tgt := 82) c5 dX7_runs_75 (by decide) ?_
    refine mm_iconst (q := 83) dX7_runs_82 rfl ic_4 ?_
    refine mm_drop (ls' := [some (.ref 0), some (.int x1), none]) (mm_sub_at _ _ (And.intro rfl (And.intro rfl trivial))) ?_
    exact fX7_runs_J83_ok _ _ _ _ _ hkr
  · simp only [if_neg c5]
    refine mm_if_eq_f (q := 78) (tgt := 82) c5 dX7_runs_75 rfl (by decide) ?_
    refine mm_iconst (q := 79) dX7_runs_78 rfl ic_0 ?_
    refine mm_goto (tgt := 83) dX7_runs_79 (by decide) ?_
    refine mm_drop (ls' := [some (.ref 0), some (.int x1), none]) (mm_sub_at _ _ (And.intro rfl (And.intro rfl trivial))) ?_
    exact fX7_runs_J83_ok _ _ _ _ _ hkr
def fX7_runs_J67 (x1 : Int32) (kr : Int32 → mm_M → Option (mm_M)) (M : mm_M) : Option (mm_M) :=
  fX7_runs_J68 x1 (0 : Int32) kr M
set_option maxRecDepth 100000 in
set_option maxHeartbeats 4000000 in
theorem fX7_runs_J67_ok (x1 : Int32)  (M : mm_M)  (kr : Int32 → mm_M → Option (mm_M)) (hkr : ∀ (x1 : Int32) (M : mm_M), mm_C LR cX7_runs 3 RX7 none 5 mm_eV 2 [some (.ref 0), some (.int x1), none] [] M (kr x1 M)) : mm_C LR cX7_runs 3 RX7 none 5 mm_eV 67 [some (.ref 0), some (.int x1), none] [] M (fX7_runs_J67 x1 kr M) := by
  unfold fX7_runs_J67
  refine mm_iconst (q := 68) dX7_runs_67 rfl ic_0 ?_
  exact fX7_runs_J68_ok _ _ _ _ hkr
def fX7_runs_L2  (k106 : mm_M → Option (mm_M)) : Nat → Int32 → mm_M → Option (mm_M)
  | 0, _, _ => none
  | n + 1, x1, M =>
    if (M 0 9) ≤ x1 then
      k106 M
    else
      (mm_rd M 8 36 ((3 : Int32) * x1)).bind fun b2 =>
      (fX7_isPerson b2 M).bind fun b3 =>
      if b3 = 0 then
        fX7_runs_J67 x1 (fX7_runs_L2 k106 n) M
      else
        (mm_rd M 8 36 (((3 : Int32) * x1) + (1 : Int32))).bind fun b9 =>
        (fX7_isPerson b9 M).bind fun b10 =>
        if b10 = 0 then
          fX7_runs_J67 x1 (fX7_runs_L2 k106 n) M
        else
          (mm_rd M 8 36 ((3 : Int32) * x1)).bind fun b12 =>
          (mm_rd M 8 36 (((3 : Int32) * x1) + (1 : Int32))).bind fun b13 =>
          if b12 = b13 then
            fX7_runs_J67 x1 (fX7_runs_L2 k106 n) M
          else
            fX7_runs_J68 x1 (1 : Int32) (fX7_runs_L2 k106 n) M
set_option maxRecDepth 100000 in
set_option maxHeartbeats 4000000 in
theorem fX7_runs_L2_ok   (k106 : mm_M → Option (mm_M)) (hk106 : ∀  (M : mm_M), mm_C LR cX7_runs 3 RX7 none 5 mm_eV 106 [some (.ref 0), none, none] [] M (k106 M)) : ∀ (n : Nat) (x1 : Int32) (M : mm_M), mm_C LR cX7_runs 3 RX7 none 5 mm_eV 2 [some (.ref 0), some (.int x1), none] [] M (fX7_runs_L2 k106 n x1 M) := by
  intro n
  induction n with
  | zero => intro x1 M; exact mm_none
  | succ n ih =>
    intro x1 M
    rw [fX7_runs_L2]
    refine mm_iload_n (q := 3) dX7_runs_2 rfl rfl rfl ?_
    refine mm_aload_n (q := 4) dX7_runs_3 rfl rfl rfl ?_
    refine mm_getI (q := 7) dX7_runs_4 rfl lr_0 fd_X7_125 rfl ?_
    refine mm_icmp_ge (q := 10) (tgt := 106) dX7_runs_7 rfl (by decide) (fun c1 => ?_) (fun c1 => ?_)
    · refine mm_drop (ls' := [some (.ref 0), none, none]) (mm_sub_at _ _ (And.intro rfl trivial)) ?_
      exact hk106  _
    · refine mm_aload_n (q := 11) dX7_runs_10 rfl rfl rfl ?_
      refine mm_aload_n (q := 12) dX7_runs_11 rfl rfl rfl ?_
      refine mm_getR (q := 15) (k1 := 8) dX7_runs_12 rfl lr_0 fd_X7_31 rfl ?_
      refine mm_iconst (q := 16) dX7_runs_15 rfl ic_3 ?_
      refine mm_iload_n (q := 17) dX7_runs_16 rfl rfl rfl ?_
      refine mm_imul (q := 18) dX7_runs_17 rfl ?_
      refine mm_iald (q := 19) dX7_runs_18 rfl lr_8 (fun b2 _ => ?_)
      refine mm_callVP (as := [.int b2]) (st := []) (q := 22) lr_0 rfl (fX7_isPerson_ok b2 M) ms_X7_152 rfl (Nat.le_of_ble_eq_true rfl) (Nat.le_of_ble_eq_true rfl) rfl dX7_runs_19 rfl (fun b3 _ => ?_)
      refine mm_if_eq (q := 25) (tgt := 67) dX7_runs_22 rfl (by decide) (fun c4 => ?_) (fun c4 => ?_)
      · exact fX7_runs_J67_ok _ _ _ ih
      · refine mm_aload_n (q := 26) dX7_runs_25 rfl rfl rfl ?_
        refine mm_aload_n (q := 27) dX7_runs_26 rfl rfl rfl ?_
        refine mm_getR (q := 30) (k1 := 8) dX7_runs_27 rfl lr_0 fd_X7_31 rfl ?_
        refine mm_iconst (q := 31) dX7_runs_30 rfl ic_3 ?_
        refine mm_iload_n (q := 32) dX7_runs_31 rfl rfl rfl ?_
        refine mm_imul (q := 33) dX7_runs_32 rfl ?_
        refine mm_iconst (q := 34) dX7_runs_33 rfl ic_1 ?_
        refine mm_iadd (q := 35) dX7_runs_34 rfl ?_
        refine mm_iald (q := 36) dX7_runs_35 rfl lr_8 (fun b9 _ => ?_)
        refine mm_callVP (as := [.int b9]) (st := []) (q := 39) lr_0 rfl (fX7_isPerson_ok b9 M) ms_X7_152 rfl (Nat.le_of_ble_eq_true rfl) (Nat.le_of_ble_eq_true rfl) rfl dX7_runs_36 rfl (fun b10 _ => ?_)
        refine mm_if_eq (q := 42) (tgt := 67) dX7_runs_39 rfl (by decide) (fun c11 => ?_) (fun c11 => ?_)
        · exact fX7_runs_J67_ok _ _ _ ih
        · refine mm_aload_n (q := 43) dX7_runs_42 rfl rfl rfl ?_
          refine mm_getR (q := 46) (k1 := 8) dX7_runs_43 rfl lr_0 fd_X7_31 rfl ?_
          refine mm_iconst (q := 47) dX7_runs_46 rfl ic_3 ?_
          refine mm_iload_n (q := 48) dX7_runs_47 rfl rfl rfl ?_
          refine mm_imul (q := 49) dX7_runs_48 rfl ?_
          refine mm_iald (q := 50) dX7_runs_49 rfl lr_8 (fun b12 _ => ?_)
          refine mm_aload_n (q := 51) dX7_runs_50 rfl rfl rfl ?_
          refine mm_getR (q := 54) (k1 := 8) dX7_runs_51 rfl lr_0 fd_X7_31 rfl ?_
          refine mm_iconst (q := 55) dX7_runs_54 rfl ic_3 ?_
          refine mm_iload_n (q := 56) dX7_runs_55 rfl rfl rfl ?_
          refine mm_imul (q := 57) dX7_runs_56 rfl ?_
          refine mm_iconst (q := 58) dX7_runs_57 rfl ic_1 ?_
          refine mm_iadd (q := 59) dX7_runs_58 rfl ?_
          refine mm_iald (q := 60) dX7_runs_59 rfl lr_8 (fun b13 _ => ?_)
          refine mm_icmp_eq (q := 63) (tgt := 67) dX7_runs_60 rfl (by decide) (fun c14 => ?_) (fun c14 => ?_)
          · exact fX7_runs_J67_ok _ _ _ ih
          · refine mm_iconst (q := 64) dX7_runs_63 rfl ic_1 ?_
            refine mm_goto (tgt := 68) dX7_runs_64 (by decide) ?_
            exact fX7_runs_J68_ok _ _ _ _ ih
def fX7_runs_L108  (k134 : mm_M → Option (mm_M)) : Nat → Int32 → mm_M → Option (mm_M)
  | 0, _, _ => none
  | n + 1, x1, M =>
    if (8 : Int32) ≤ x1 then
      k134 M
    else
      (mm_wa M 13 8 x1 (0 : Int32)).bind fun M17 =>
      (mm_wa M17 14 8 x1 (0 : Int32)).bind fun M18 =>
      fX7_runs_L108 k134 n (x1 + (1 : Int32)) M18
set_option maxRecDepth 100000 in
set_option maxHeartbeats 4000000 in
theorem fX7_runs_L108_ok   (k134 : mm_M → Option (mm_M)) (hk134 : ∀  (M : mm_M), mm_C LR cX7_runs 3 RX7 none 5 mm_eV 134 [some (.ref 0), none, none] [] M (k134 M)) : ∀ (n : Nat) (x1 : Int32) (M : mm_M), mm_C LR cX7_runs 3 RX7 none 5 mm_eV 108 [some (.ref 0), some (.int x1), none] [] M (fX7_runs_L108 k134 n x1 M) := by
  intro n
  induction n with
  | zero => intro x1 M; exact mm_none
  | succ n ih =>
    intro x1 M
    rw [fX7_runs_L108]
    refine mm_iload_n (q := 109) dX7_runs_108 rfl rfl rfl ?_
    refine mm_bipush (q := 111) dX7_runs_109 rfl bp_8 ?_
    refine mm_icmp_ge (q := 114) (tgt := 134) dX7_runs_111 rfl (by decide) (fun c16 => ?_) (fun c16 => ?_)
    · refine mm_drop (ls' := [some (.ref 0), none, none]) (mm_sub_at _ _ (And.intro rfl trivial)) ?_
      exact hk134  _
    · refine mm_aload_n (q := 115) dX7_runs_114 rfl rfl rfl ?_
      refine mm_getR (q := 118) (k1 := 13) dX7_runs_115 rfl lr_0 fd_X7_46 rfl ?_
      refine mm_iload_n (q := 119) dX7_runs_118 rfl rfl rfl ?_
      refine mm_iconst (q := 120) dX7_runs_119 rfl ic_0 ?_
      refine mm_iast (q := 121) dX7_runs_120 rfl lr_13 (fun M17 _ => ?_)
      refine mm_aload_n (q := 122) dX7_runs_121 rfl rfl rfl ?_
      refine mm_getR (q := 125) (k1 := 14) dX7_runs_122 rfl lr_0 fd_X7_49 rfl ?_
      refine mm_iload_n (q := 126) dX7_runs_125 rfl rfl rfl ?_
      refine mm_iconst (q := 127) dX7_runs_126 rfl ic_0 ?_
      refine mm_iast (q := 128) dX7_runs_127 rfl lr_14 (fun M18 _ => ?_)
      refine mm_iinc (q := 131) (ls' := [some (.ref 0), some (.int (x1 + (1 : Int32))), none]) dX7_runs_128 rfl rfl (ii_1 _) rfl (Nat.le_of_ble_eq_true rfl) rfl ?_
      refine mm_goto (tgt := 108) dX7_runs_131 (by decide) ?_
      exact ih _ _
def fX7_runs_L136   : Nat → Int32 → mm_M → Option (mm_M)
  | 0, _, _ => none
  | n + 1, x1, M =>
    if (24 : Int32) ≤ x1 then
      some M
    else
      (fX7_passes x1 M).bind fun M21 =>
      fX7_runs_L136 n (x1 + (1 : Int32)) M21
set_option maxRecDepth 100000 in
set_option maxHeartbeats 4000000 in
theorem fX7_runs_L136_ok     : ∀ (n : Nat) (x1 : Int32) (M : mm_M), mm_C LR cX7_runs 3 RX7 none 5 mm_eV 136 [some (.ref 0), some (.int x1), none] [] M (fX7_runs_L136 n x1 M) := by
  intro n
  induction n with
  | zero => intro x1 M; exact mm_none
  | succ n ih =>
    intro x1 M
    rw [fX7_runs_L136]
    refine mm_iload_n (q := 137) dX7_runs_136 rfl rfl rfl ?_
    refine mm_bipush (q := 139) dX7_runs_137 rfl bp_24 ?_
    refine mm_icmp_ge (q := 142) (tgt := 153) dX7_runs_139 rfl (by decide) (fun c20 => ?_) (fun c20 => ?_)
    · exact mm_vret rfl dX7_runs_153
    · refine mm_aload_n (q := 143) dX7_runs_142 rfl rfl rfl ?_
      refine mm_iload_n (q := 144) dX7_runs_143 rfl rfl rfl ?_
      refine mm_callVV (as := [.int x1]) (st := []) (q := 147) lr_0 rfl (fX7_passes_ok x1 M) ms_X7_215 rfl (Nat.le_of_ble_eq_true rfl) (Nat.le_of_ble_eq_true rfl) rfl dX7_runs_144 rfl (fun M21 _ => ?_)
      refine mm_iinc (q := 150) (ls' := [some (.ref 0), some (.int (x1 + (1 : Int32))), none]) dX7_runs_147 rfl rfl (ii_1 _) rfl (Nat.le_of_ble_eq_true rfl) rfl ?_
      refine mm_goto (tgt := 136) dX7_runs_150 (by decide) ?_
      exact ih _ _
def fX7_runs  (M : mm_M) : Option (mm_M) :=
  fX7_runs_L2 (fun M15 =>
      fX7_runs_L108 (fun M19 =>
      fX7_runs_L136 1000 (0 : Int32) M19) 1000 (0 : Int32) M15) 1000 (0 : Int32) M
set_option maxRecDepth 100000 in
set_option maxHeartbeats 4000000 in
theorem fX7_runs_ok  (M : mm_M)  : mm_E LR yX7_runs cX7_runs 3 none 5 mm_eV [.ref 0] M (fX7_runs M) := by
  refine mm_E.of (own := RX7) (ls := [some (.ref 0), none, none]) (by decide) rfl rfl (Nat.le_of_ble_eq_true rfl) ?_
  unfold fX7_runs
  refine mm_iconst (q := 1) dX7_runs_0 rfl ic_0 ?_
  refine mm_istore_n (q := 2) (ls' := [some (.ref 0), some (.int (0 : Int32)), none]) dX7_runs_1 rfl rfl rfl (Nat.le_of_ble_eq_true rfl) rfl ?_
  refine fX7_runs_L2_ok _ (fun M15 => ?_) _ _ _
  refine mm_iconst (q := 107) dX7_runs_106 rfl ic_0 ?_
  refine mm_istore_n (q := 108) (ls' := [some (.ref 0), some (.int (0 : Int32)), none]) dX7_runs_107 rfl rfl rfl (Nat.le_of_ble_eq_true rfl) rfl ?_
  refine fX7_runs_L108_ok _ (fun M19 => ?_) _ _ _
  refine mm_iconst (q := 135) dX7_runs_134 rfl ic_0 ?_
  refine mm_istore_n (q := 136) (ls' := [some (.ref 0), some (.int (0 : Int32)), none]) dX7_runs_135 rfl rfl rfl (Nat.le_of_ble_eq_true rfl) rfl ?_
  exact fX7_runs_L136_ok  _ _ _
def fX7_find  (M : mm_M) : Option (mm_M) :=
  (fX7_readsPeople M).bind fun b1 =>
  (fX7_readsWords b1.2).bind fun b2 =>
  (fX7_readsMeetings b2.2).bind fun b3 =>
  (fX7_runs b3.2).bind fun M4 =>
  some M4
set_option maxRecDepth 100000 in
set_option maxHeartbeats 4000000 in
theorem fX7_find_ok  (M : mm_M)  : mm_E LR yX7_find cX7_find 1 none 6 mm_eV [.ref 0] M (fX7_find M) := by
  refine mm_E.of (own := RX7) (ls := [some (.ref 0)]) (by decide) rfl rfl (Nat.le_of_ble_eq_true rfl) ?_
  unfold fX7_find
  refine mm_aload_n (q := 1) dX7_find_0 rfl rfl rfl ?_
  refine mm_callVI (as := []) (st := []) (q := 4) lr_0 rfl (fX7_readsPeople_ok M) ms_X7_137 rfl (Nat.le_of_ble_eq_true rfl) (Nat.le_of_ble_eq_true rfl) rfl dX7_find_1 rfl (fun b1 _ => ?_)
  refine mm_pop (q := 5) dX7_find_4 rfl rfl ?_
  refine mm_aload_n (q := 6) dX7_find_5 rfl rfl rfl ?_
  refine mm_callVI (as := []) (st := []) (q := 9) lr_0 rfl (fX7_readsWords_ok b1.2) ms_X7_141 rfl (Nat.le_of_ble_eq_true rfl) (Nat.le_of_ble_eq_true rfl) rfl dX7_find_6 rfl (fun b2 _ => ?_)
  refine mm_pop (q := 10) dX7_find_9 rfl rfl ?_
  refine mm_aload_n (q := 11) dX7_find_10 rfl rfl rfl ?_
  refine mm_callVI (as := []) (st := []) (q := 14) lr_0 rfl (fX7_readsMeetings_ok b2.2) ms_X7_144 rfl (Nat.le_of_ble_eq_true rfl) (Nat.le_of_ble_eq_true rfl) rfl dX7_find_11 rfl (fun b3 _ => ?_)
  refine mm_pop (q := 15) dX7_find_14 rfl rfl ?_
  refine mm_aload_n (q := 16) dX7_find_15 rfl rfl rfl ?_
  refine mm_callVV (as := []) (st := []) (q := 19) lr_0 rfl (fX7_runs_ok b3.2) ms_X7_218 rfl (Nat.le_of_ble_eq_true rfl) (Nat.le_of_ble_eq_true rfl) rfl dX7_find_16 rfl (fun M4 _ => ?_)
  exact mm_vret rfl dX7_find_19
def fX7_isWord (x1 : Int32) (M : mm_M) : Option (Int32) :=
  (mm_zb (fX7_in ((x1).toInt64) (0 : Int64) (((M 0 9) - (1 : Int32)).toInt64))).bind fun b1 =>
  some b1
set_option maxRecDepth 100000 in
set_option maxHeartbeats 4000000 in
theorem fX7_isWord_ok (x1 : Int32) (M : mm_M)  : mm_E LR yX7_isWord cX7_isWord 2 (some .boolean) 1 (mm_pI M) [.ref 0, .int x1] M (fX7_isWord x1 M) := by
  refine mm_E.of (own := RX7) (ls := [some (.ref 0), some (.int x1)]) (by decide) rfl rfl (Nat.le_of_ble_eq_true rfl) ?_
  unfold fX7_isWord
  refine mm_iload_n (q := 1) dX7_isWord_0 rfl rfl rfl ?_
  refine mm_i2l (q := 2) dX7_isWord_1 rfl ?_
  refine mm_lconst (q := 3) dX7_isWord_2 rfl lk_0 ?_
  refine mm_aload_n (q := 4) dX7_isWord_3 rfl rfl rfl ?_
  refine mm_getI (q := 7) dX7_isWord_4 rfl lr_0 fd_X7_125 rfl ?_
  refine mm_iconst (q := 8) dX7_isWord_7 rfl ic_1 ?_
  refine mm_isub (q := 9) dX7_isWord_8 rfl ?_
  refine mm_i2l (q := 10) dX7_isWord_9 rfl ?_
  refine mm_callST (as := [.long ((x1).toInt64), .long (0 : Int64), .long (((M 0 9) - (1 : Int32)).toInt64)]) (st := []) (q := 13) (fX7_in_ok ((x1).toInt64) (0 : Int64) (((M 0 9) - (1 : Int32)).toInt64) M) ms_X7_76 rfl (Nat.le_of_ble_eq_true rfl) (Nat.le_of_ble_eq_true rfl) rfl dX7_isWord_10 rfl ?_
  exact mm_zretB (fun _ => rfl) (fun _ => rfl) dX7_isWord_13
def fX7_isCounted_L8 (M : mm_M)  : Nat → Int32 → Int32 → Option (Int32 × mm_M)
  | 0, _, _ => none
  | n + 1, x1, x2 =>
    if (M 0 27) ≤ x2 then
      ((mm_zb x1).bind fun b3 =>
      some (b3, M))
    else
      (mm_rd M 19 24 (((3 : Int32) * x2) + (1 : Int32))).bind fun b4 =>
      if x1 = 0 then
        fX7_isCounted_L8 M n (0 : Int32) (x2 + (1 : Int32))
      else
        (fX7_isWord b4 M).bind fun b6 =>
        if b6 = 0 then
          fX7_isCounted_L8 M n (0 : Int32) (x2 + (1 : Int32))
        else
          (mm_rd M 19 24 ((3 : Int32) * x2)).bind fun b8 =>
          (mm_rd M 16 288 (((12 : Int32) * b8) + b4)).bind fun b9 =>
          (mm_rd M 19 24 (((3 : Int32) * x2) + (2 : Int32))).bind fun b10 =>
          fX7_isCounted_L8 M n (if b9 = b10 then (1 : Int32) else (0 : Int32)) (x2 + (1 : Int32))
set_option maxRecDepth 100000 in
set_option maxHeartbeats 4000000 in
theorem fX7_isCounted_L8_ok (M : mm_M)    : ∀ (n : Nat) (x1 : Int32) (x2 : Int32), mm_C LR cX7_isCounted 4 RX7 (some .boolean) 6 mm_eI 8 [some (.ref 0), some (.int x1), some (.int x2), none] [] M (fX7_isCounted_L8 M n x1 x2) := by
  intro n
  induction n with
  | zero => intro x1 x2; exact mm_none
  | succ n ih =>
    intro x1 x2
    rw [fX7_isCounted_L8]
    refine mm_iload_n (q := 9) dX7_isCounted_8 rfl rfl rfl ?_
    refine mm_aload_n (q := 10) dX7_isCounted_9 rfl rfl rfl ?_
    refine mm_getI (q := 13) dX7_isCounted_10 rfl lr_0 fd_X7_279 rfl ?_
    refine mm_icmp_ge (q := 16) (tgt := 82) dX7_isCounted_13 rfl (by decide) (fun c2 => ?_) (fun c2 => ?_)
    · refine mm_iload_n (q := 83) dX7_isCounted_82 rfl rfl rfl ?_
      exact mm_zretB (fun _ => rfl) (fun _ => rfl) dX7_isCounted_83
    · refine mm_aload_n (q := 17) dX7_isCounted_16 rfl rfl rfl ?_
      refine mm_getR (q := 20) (k1 := 19) dX7_isCounted_17 rfl lr_0 fd_X7_64 rfl ?_
      refine mm_iconst (q := 21) dX7_isCounted_20 rfl ic_3 ?_
      refine mm_iload_n (q := 22) dX7_isCounted_21 rfl rfl rfl ?_
      refine mm_imul (q := 23) dX7_isCounted_22 rfl ?_
      refine mm_iconst (q := 24) dX7_isCounted_23 rfl ic_1 ?_
      refine mm_iadd (q := 25) dX7_isCounted_24 rfl ?_
      refine mm_iald (q := 26) dX7_isCounted_25 rfl lr_19 (fun b4 _ => ?_)
      refine mm_istore_n (q := 27) (ls' := [some (.ref 0), some (.int x1), some (.int x2), some (.int b4)]) dX7_isCounted_26 rfl rfl rfl (Nat.le_of_ble_eq_true rfl) rfl ?_
      refine mm_iload_n (q := 28) dX7_isCounted_27 rfl rfl rfl ?_
      refine mm_if_eq (q := 31) (tgt := 74) dX7_isCounted_28 rfl (by decide) (fun c5 => ?_) (fun c5 => ?_)
      · refine mm_iconst (q := 75) dX7_isCounted_74 rfl ic_0 ?_
        refine mm_istore_n (q := 76) (ls' := [some (.ref 0), some (.int (0 : Int32)), some (.int x2), some (.int b4)]) dX7_isCounted_75 rfl rfl rfl (Nat.le_of_ble_eq_true rfl) rfl ?_
        refine mm_iinc (q := 79) (ls' := [some (.ref 0), some (.int (0 : Int32)), some (.int (x2 + (1 : Int32))), some (.int b4)]) dX7_isCounted_76 rfl rfl (ii_1 _) rfl (Nat.le_of_ble_eq_true rfl) rfl ?_
        refine mm_goto (tgt := 8) dX7_isCounted_79 (by decide) ?_
        refine mm_drop (ls' := [some (.ref 0), some (.int (0 : Int32)), some (.int (x2 + (1 : Int32))), none]) (mm_sub_at _ _ (And.intro rfl (And.intro rfl (And.intro rfl trivial)))) ?_
        exact ih _ _
      · refine mm_aload_n (q := 32) dX7_isCounted_31 rfl rfl rfl ?_
        refine mm_iload_n (q := 33) dX7_isCounted_32 rfl rfl rfl ?_
        refine mm_callVP (as := [.int b4]) (st := []) (q := 36) lr_0 rfl (fX7_isWord_ok b4 M) ms_X7_158 rfl (Nat.le_of_ble_eq_true rfl) (Nat.le_of_ble_eq_true rfl) rfl dX7_isCounted_33 rfl (fun b6 _ => ?_)
        refine mm_if_eq (q := 39) (tgt := 74) dX7_isCounted_36 rfl (by decide) (fun c7 => ?_) (fun c7 => ?_)
        · refine mm_iconst (q := 75) dX7_isCounted_74 rfl ic_0 ?_
          refine mm_istore_n (q := 76) (ls' := [some (.ref 0), some (.int (0 : Int32)), some (.int x2), some (.int b4)]) dX7_isCounted_75 rfl rfl rfl (Nat.le_of_ble_eq_true rfl) rfl ?_
          refine mm_iinc (q := 79) (ls' := [some (.ref 0), some (.int (0 : Int32)), some (.int (x2 + (1 : Int32))), some (.int b4)]) dX7_isCounted_76 rfl rfl (ii_1 _) rfl (Nat.le_of_ble_eq_true rfl) rfl ?_
          refine mm_goto (tgt := 8) dX7_isCounted_79 (by decide) ?_
          refine mm_drop (ls' := [some (.ref 0), some (.int (0 : Int32)), some (.int (x2 + (1 : Int32))), none]) (mm_sub_at _ _ (And.intro rfl (And.intro rfl (And.intro rfl trivial)))) ?_
          exact ih _ _
        · refine mm_aload_n (q := 40) dX7_isCounted_39 rfl rfl rfl ?_
          refine mm_getR (q := 43) (k1 := 16) dX7_isCounted_40 rfl lr_0 fd_X7_55 rfl ?_
          refine mm_bipush (q := 45) dX7_isCounted_43 rfl bp_12 ?_
          refine mm_aload_n (q := 46) dX7_isCounted_45 rfl rfl rfl ?_
          refine mm_getR (q := 49) (k1 := 19) dX7_isCounted_46 rfl lr_0 fd_X7_64 rfl ?_
          refine mm_iconst (q := 50) dX7_isCounted_49 rfl ic_3 ?_
          refine mm_iload_n (q := 51) dX7_isCounted_50 rfl rfl rfl ?_
          refine mm_imul (q := 52) dX7_isCounted_51 rfl ?_
          refine mm_iald (q := 53) dX7_isCounted_52 rfl lr_19 (fun b8 _ => ?_)
          refine mm_imul (q := 54) dX7_isCounted_53 rfl ?_
          refine mm_iload_n (q := 55) dX7_isCounted_54 rfl rfl rfl ?_
          refine mm_iadd (q := 56) dX7_isCounted_55 rfl ?_
          refine mm_iald (q := 57) dX7_isCounted_56 rfl lr_16 (fun b9 _ => ?_)
          refine mm_aload_n (q := 58) dX7_isCounted_57 rfl rfl rfl ?_
          refine mm_getR (q := 61) (k1 := 19) dX7_isCounted_58 rfl lr_0 fd_X7_64 rfl ?_
          refine mm_iconst (q := 62) dX7_isCounted_61 rfl ic_3 ?_
          refine mm_iload_n (q := 63) dX7_isCounted_62 rfl rfl rfl ?_
          refine mm_imul (q := 64) dX7_isCounted_63 rfl ?_
          refine mm_iconst (q := 65) dX7_isCounted_64 rfl ic_2 ?_
          refine mm_iadd (q := 66) dX7_isCounted_65 rfl ?_
          refine mm_iald (q := 67) dX7_isCounted_66 rfl lr_19 (fun b10 _ => ?_)
          by_cases c11 : b9 = b10
          · simp only [if_pos c11]
            refine mm_icmp_ne_t (q := 70) (tgt := 74) c11 dX7_isCounted_67 rfl (by decide) ?_
            refine mm_iconst (q := 71) dX7_isCounted_70 rfl ic_1 ?_
            refine mm_goto (tgt := 75) dX7_isCounted_71 (by decide) ?_
            refine mm_istore_n (q := 76) (ls' := [some (.ref 0), some (.int (1 : Int32)), some (.int x2), some (.int b4)]) dX7_isCounted_75 rfl rfl rfl (Nat.le_of_ble_eq_true rfl) rfl ?_
            refine mm_iinc (q := 79) (ls' := [some (.ref 0), some (.int (1 : Int32)), some (.int (x2 + (1 : Int32))), some (.int b4)]) dX7_isCounted_76 rfl rfl (ii_1 _) rfl (Nat.le_of_ble_eq_true rfl) rfl ?_
            refine mm_goto (tgt := 8) dX7_isCounted_79 (by decide) ?_
            refine mm_drop (ls' := [some (.ref 0), some (.int (1 : Int32)), some (.int (x2 + (1 : Int32))), none]) (mm_sub_at _ _ (And.intro rfl (And.intro rfl (And.intro rfl trivial)))) ?_
            exact ih _ _
          · simp only [if_neg c11]
            refine mm_icmp_ne_f (tgt := 74) c11 dX7_isCounted_67 (by decide) ?_
            refine mm_iconst (q := 75) dX7_isCounted_74 rfl ic_0 ?_
            refine mm_istore_n (q := 76) (ls' := [some (.ref 0), some (.int (0 : Int32)), some (.int x2), some (.int b4)]) dX7_isCounted_75 rfl rfl rfl (Nat.le_of_ble_eq_true rfl) rfl ?_
            refine mm_iinc (q := 79) (ls' := [some (.ref 0), some (.int (0 : Int32)), some (.int (x2 + (1 : Int32))), some (.int b4)]) dX7_isCounted_76 rfl rfl (ii_1 _) rfl (Nat.le_of_ble_eq_true rfl) rfl ?_
            refine mm_goto (tgt := 8) dX7_isCounted_79 (by decide) ?_
            refine mm_drop (ls' := [some (.ref 0), some (.int (0 : Int32)), some (.int (x2 + (1 : Int32))), none]) (mm_sub_at _ _ (And.intro rfl (And.intro rfl (And.intro rfl trivial)))) ?_
            exact ih _ _
def fX7_isCounted  (M : mm_M) : Option (Int32 × mm_M) :=
  (fX7_runs M).bind fun M1 =>
  fX7_isCounted_L8 M1 1000 (1 : Int32) (0 : Int32)
set_option maxRecDepth 100000 in
set_option maxHeartbeats 4000000 in
theorem fX7_isCounted_ok  (M : mm_M)  : mm_E LR yX7_isCounted cX7_isCounted 4 (some .boolean) 6 mm_eI [.ref 0] M (fX7_isCounted M) := by
  refine mm_E.of (own := RX7) (ls := [some (.ref 0), none, none, none]) (by decide) rfl rfl (Nat.le_of_ble_eq_true rfl) ?_
  unfold fX7_isCounted
  refine mm_aload_n (q := 1) dX7_isCounted_0 rfl rfl rfl ?_
  refine mm_callVV (as := []) (st := []) (q := 4) lr_0 rfl (fX7_runs_ok M) ms_X7_218 rfl (Nat.le_of_ble_eq_true rfl) (Nat.le_of_ble_eq_true rfl) rfl dX7_isCounted_1 rfl (fun M1 _ => ?_)
  refine mm_iconst (q := 5) dX7_isCounted_4 rfl ic_1 ?_
  refine mm_istore_n (q := 6) (ls' := [some (.ref 0), some (.int (1 : Int32)), none, none]) dX7_isCounted_5 rfl rfl rfl (Nat.le_of_ble_eq_true rfl) rfl ?_
  refine mm_iconst (q := 7) dX7_isCounted_6 rfl ic_0 ?_
  refine mm_istore_n (q := 8) (ls' := [some (.ref 0), some (.int (1 : Int32)), some (.int (0 : Int32)), none]) dX7_isCounted_7 rfl rfl rfl (Nat.le_of_ble_eq_true rfl) rfl ?_
  exact fX7_isCounted_L8_ok M1 _ _ _
def fX7_lentOf_L56 (x1 : Int32) (x2 : Int32) (x3 : Int32) (x4 : Int32) (k94 : mm_M → Option (Int32 × mm_M)) : Nat → Int32 → mm_M → Option (Int32 × mm_M)
  | 0, _, _ => none
  | n + 1, x5, M =>
    if (24 : Int32) ≤ x5 then
      k94 M
    else
      (mm_rd M 16 288 (((12 : Int32) * x5) + x1)).bind fun b7 =>
      (mm_wa M 20 240 (((24 : Int32) * x4) + x5) b7).bind fun M8 =>
      fX7_lentOf_L56 x1 x2 x3 x4 k94 n (x5 + (1 : Int32)) M8
set_option maxRecDepth 100000 in
set_option maxHeartbeats 4000000 in
theorem fX7_lentOf_L56_ok (x1 : Int32) (x2 : Int32) (x3 : Int32) (x4 : Int32)  (k94 : mm_M → Option (Int32 × mm_M)) (hk94 : ∀  (M : mm_M), mm_C LR cX7_lentOf 6 RX7 (some .int) 7 mm_eI 94 [some (.ref 0), some (.int x1), some (.int x2), some (.int x3), some (.int x4), none] [] M (k94 M)) : ∀ (n : Nat) (x5 : Int32) (M : mm_M), mm_C LR cX7_lentOf 6 RX7 (some .int) 7 mm_eI 56 [some (.ref 0), some (.int x1), some (.int x2), some (.int x3), some (.int x4), some (.int x5)] [] M (fX7_lentOf_L56 x1 x2 x3 x4 k94 n x5 M) := by
  intro n
  induction n with
  | zero => intro x5 M; exact mm_none
  | succ n ih =>
    intro x5 M
    rw [fX7_lentOf_L56]
    refine mm_iload (q := 58) dX7_lentOf_56 rfl rfl ?_
    refine mm_bipush (q := 60) dX7_lentOf_58 rfl bp_24 ?_
    refine mm_icmp_ge (q := 63) (tgt := 94) dX7_lentOf_60 rfl (by decide) (fun c6 => ?_) (fun c6 => ?_)
    · refine mm_drop (ls' := [some (.ref 0), some (.int x1), some (.int x2), some (.int x3), some (.int x4), none]) (mm_sub_at _ _ (And.intro rfl (And.intro rfl (And.intro rfl (And.intro rfl (And.intro rfl trivial)))))) ?_
      exact hk94  _
    · refine mm_aload_n (q := 64) dX7_lentOf_63 rfl rfl rfl ?_
      refine mm_getR (q := 67) (k1 := 20) dX7_lentOf_64 rfl lr_0 fd_X7_67 rfl ?_
      refine mm_bipush (q := 69) dX7_lentOf_67 rfl bp_24 ?_
      refine mm_iload (q := 71) dX7_lentOf_69 rfl rfl ?_
      refine mm_imul (q := 72) dX7_lentOf_71 rfl ?_
      refine mm_iload (q := 74) dX7_lentOf_72 rfl rfl ?_
      refine mm_iadd (q := 75) dX7_lentOf_74 rfl ?_
      refine mm_aload_n (q := 76) dX7_lentOf_75 rfl rfl rfl ?_
      refine mm_getR (q := 79) (k1 := 16) dX7_lentOf_76 rfl lr_0 fd_X7_55 rfl ?_
      refine mm_bipush (q := 81) dX7_lentOf_79 rfl bp_12 ?_
      refine mm_iload (q := 83) dX7_lentOf_81 rfl rfl ?_
      refine mm_imul (q := 84) dX7_lentOf_83 rfl ?_
      refine mm_iload_n (q := 85) dX7_lentOf_84 rfl rfl rfl ?_
      refine mm_iadd (q := 86) dX7_lentOf_85 rfl ?_
      refine mm_iald (q := 87) dX7_lentOf_86 rfl lr_16 (fun b7 _ => ?_)
      refine mm_iast (q := 88) dX7_lentOf_87 rfl lr_20 (fun M8 _ => ?_)
      refine mm_iinc (q := 91) (ls' := [some (.ref 0), some (.int x1), some (.int x2), some (.int x3), some (.int x4), some (.int (x5 + (1 : Int32)))]) dX7_lentOf_88 rfl rfl (ii_1 _) rfl (Nat.le_of_ble_eq_true rfl) rfl ?_
      refine mm_goto (tgt := 56) dX7_lentOf_91 (by decide) ?_
      exact ih _ _
def fX7_lentOf_L16 (x1 : Int32) (x2 : Int32) (k100 : Int32 → mm_M → Option (Int32 × mm_M)) : Nat → Int32 → Int32 → mm_M → Option (Int32 × mm_M)
  | 0, _, _, _ => none
  | n + 1, x3, x4, M =>
    if (10 : Int32) ≤ x4 then
      k100 x3 M
    else
      (mm_wa M 8 36 (((3 : Int32) * x1) + (2 : Int32)) x4).bind fun M3 =>
      (fX7_isCounted M3).bind fun b4 =>
      if b4.1 = 0 then
        fX7_lentOf_L56 x1 x2 (x3 ||| (0 : Int32)) x4 (fun M9 =>
      fX7_lentOf_L16 x1 x2 k100 n (x3 ||| (0 : Int32)) (x4 + (1 : Int32)) M9) 1000 (0 : Int32) b4.2
      else
        fX7_lentOf_L56 x1 x2 (x3 ||| ((1 : Int32) <<< (x4 &&& 31))) x4 (fun M10 =>
      fX7_lentOf_L16 x1 x2 k100 n (x3 ||| ((1 : Int32) <<< (x4 &&& 31))) (x4 + (1 : Int32)) M10) 1000 (0 : Int32) b4.2
set_option maxRecDepth 100000 in
set_option maxHeartbeats 4000000 in
theorem fX7_lentOf_L16_ok (x1 : Int32) (x2 : Int32)  (k100 : Int32 → mm_M → Option (Int32 × mm_M)) (hk100 : ∀ (x3 : Int32) (M : mm_M), mm_C LR cX7_lentOf 6 RX7 (some .int) 7 mm_eI 100 [some (.ref 0), some (.int x1), some (.int x2), some (.int x3), none, none] [] M (k100 x3 M)) : ∀ (n : Nat) (x3 : Int32) (x4 : Int32) (M : mm_M), mm_C LR cX7_lentOf 6 RX7 (some .int) 7 mm_eI 16 [some (.ref 0), some (.int x1), some (.int x2), some (.int x3), some (.int x4), none] [] M (fX7_lentOf_L16 x1 x2 k100 n x3 x4 M) := by
  intro n
  induction n with
  | zero => intro x3 x4 M; exact mm_none
  | succ n ih =>
    intro x3 x4 M
    rw [fX7_lentOf_L16]
    refine mm_iload (q := 18) dX7_lentOf_16 rfl rfl ?_
    refine mm_bipush (q := 20) dX7_lentOf_18 rfl bp_10 ?_
    refine mm_icmp_ge (q := 23) (tgt := 100) dX7_lentOf_20 rfl (by decide) (fun c2 => ?_) (fun c2 => ?_)
    · refine mm_drop (ls' := [some (.ref 0), some (.int x1), some (.int x2), some (.int x3), none, none]) (mm_sub_at _ _ (And.intro rfl (And.intro rfl (And.intro rfl (And.intro rfl trivial))))) ?_
      exact hk100 _ _
    · refine mm_aload_n (q := 24) dX7_lentOf_23 rfl rfl rfl ?_
      refine mm_getR (q := 27) (k1 := 8) dX7_lentOf_24 rfl lr_0 fd_X7_31 rfl ?_
      refine mm_iconst (q := 28) dX7_lentOf_27 rfl ic_3 ?_
      refine mm_iload_n (q := 29) dX7_lentOf_28 rfl rfl rfl ?_
      refine mm_imul (q := 30) dX7_lentOf_29 rfl ?_
      refine mm_iconst (q := 31) dX7_lentOf_30 rfl ic_2 ?_
      refine mm_iadd (q := 32) dX7_lentOf_31 rfl ?_
      refine mm_iload (q := 34) dX7_lentOf_32 rfl rfl ?_
      refine mm_iast (q := 35) dX7_lentOf_34 rfl lr_8 (fun M3 _ => ?_)
      refine mm_iload_n (q := 36) dX7_lentOf_35 rfl rfl rfl ?_
      refine mm_aload_n (q := 37) dX7_lentOf_36 rfl rfl rfl ?_
      refine mm_callVI (as := []) (st := [.int x3]) (q := 40) lr_0 rfl (fX7_isCounted_ok M3) ms_X7_282 rfl (Nat.le_of_ble_eq_true rfl) (Nat.le_of_ble_eq_true rfl) rfl dX7_lentOf_37 rfl (fun b4 _ => ?_)
      refine mm_if_eq (q := 43) (tgt := 50) dX7_lentOf_40 rfl (by decide) (fun c5 => ?_) (fun c5 => ?_)
      · refine mm_iconst (q := 51) dX7_lentOf_50 rfl ic_0 ?_
        refine mm_ior (q := 52) dX7_lentOf_51 rfl ?_
        refine mm_istore_n (q := 53) (ls' := [some (.ref 0), some (.int x1), some (.int x2), some (.int (x3 ||| (0 : Int32))), some (.int x4), none]) dX7_lentOf_52 rfl rfl rfl (Nat.le_of_ble_eq_true rfl) rfl ?_
        refine mm_iconst (q := 54) dX7_lentOf_53 rfl ic_0 ?_
        refine mm_istore (q := 56) (ls' := [some (.ref 0), some (.int x1), some (.int x2), some (.int (x3 ||| (0 : Int32))), some (.int x4), some (.int (0 : Int32))]) dX7_lentOf_54 rfl rfl (Nat.le_of_ble_eq_true rfl) rfl ?_
        refine fX7_lentOf_L56_ok x1 x2 (x3 ||| (0 : Int32)) x4 _ (fun M9 => ?_) _ _ _
        refine mm_iinc (q := 97) (ls' := [some (.ref 0), some (.int x1), some (.int x2), some (.int (x3 ||| (0 : Int32))), some (.int (x4 + (1 : Int32))), none]) dX7_lentOf_94 rfl rfl (ii_1 _) rfl (Nat.le_of_ble_eq_true rfl) rfl ?_
        refine mm_goto (tgt := 16) dX7_lentOf_97 (by decide) ?_
        exact ih _ _ _
      · refine mm_iconst (q := 44) dX7_lentOf_43 rfl ic_1 ?_
        refine mm_iload (q := 46) dX7_lentOf_44 rfl rfl ?_
        refine mm_ishl (q := 47) dX7_lentOf_46 rfl ?_
        refine mm_goto (tgt := 51) dX7_lentOf_47 (by decide) ?_
        refine mm_ior (q := 52) dX7_lentOf_51 rfl ?_
        refine mm_istore_n (q := 53) (ls' := [some (.ref 0), some (.int x1), some (.int x2), some (.int (x3 ||| ((1 : Int32) <<< (x4 &&& 31)))), some (.int x4), none]) dX7_lentOf_52 rfl rfl rfl (Nat.le_of_ble_eq_true rfl) rfl ?_
        refine mm_iconst (q := 54) dX7_lentOf_53 rfl ic_0 ?_
        refine mm_istore (q := 56) (ls' := [some (.ref 0), some (.int x1), some (.int x2), some (.int (x3 ||| ((1 : Int32) <<< (x4 &&& 31)))), some (.int x4), some (.int (0 : Int32))]) dX7_lentOf_54 rfl rfl (Nat.le_of_ble_eq_true rfl) rfl ?_
        refine fX7_lentOf_L56_ok x1 x2 (x3 ||| ((1 : Int32) <<< (x4 &&& 31))) x4 _ (fun M10 => ?_) _ _ _
        refine mm_iinc (q := 97) (ls' := [some (.ref 0), some (.int x1), some (.int x2), some (.int (x3 ||| ((1 : Int32) <<< (x4 &&& 31)))), some (.int (x4 + (1 : Int32))), none]) dX7_lentOf_94 rfl rfl (ii_1 _) rfl (Nat.le_of_ble_eq_true rfl) rfl ?_
        refine mm_goto (tgt := 16) dX7_lentOf_97 (by decide) ?_
        exact ih _ _ _
def fX7_lentOf (x1 : Int32) (M : mm_M) : Option (Int32 × mm_M) :=
  (mm_rd M 8 36 (((3 : Int32) * x1) + (2 : Int32))).bind fun b1 =>
  fX7_lentOf_L16 x1 b1 (fun z11 M12 =>
      (mm_wa M12 8 36 (((3 : Int32) * x1) + (2 : Int32)) b1).bind fun M13 =>
      some (z11, M13)) 1000 (0 : Int32) (1 : Int32) M
set_option maxRecDepth 100000 in
set_option maxHeartbeats 4000000 in
theorem fX7_lentOf_ok (x1 : Int32) (M : mm_M)  : mm_E LR yX7_lentOf cX7_lentOf 6 (some .int) 7 mm_eI [.ref 0, .int x1] M (fX7_lentOf x1 M) := by
  refine mm_E.of (own := RX7) (ls := [some (.ref 0), some (.int x1), none, none, none, none]) (by decide) rfl rfl (Nat.le_of_ble_eq_true rfl) ?_
  unfold fX7_lentOf
  refine mm_aload_n (q := 1) dX7_lentOf_0 rfl rfl rfl ?_
  refine mm_getR (q := 4) (k1 := 8) dX7_lentOf_1 rfl lr_0 fd_X7_31 rfl ?_
  refine mm_iconst (q := 5) dX7_lentOf_4 rfl ic_3 ?_
  refine mm_iload_n (q := 6) dX7_lentOf_5 rfl rfl rfl ?_
  refine mm_imul (q := 7) dX7_lentOf_6 rfl ?_
  refine mm_iconst (q := 8) dX7_lentOf_7 rfl ic_2 ?_
  refine mm_iadd (q := 9) dX7_lentOf_8 rfl ?_
  refine mm_iald (q := 10) dX7_lentOf_9 rfl lr_8 (fun b1 _ => ?_)
  refine mm_istore_n (q := 11) (ls' := [some (.ref 0), some (.int x1), some (.int b1), none, none, none]) dX7_lentOf_10 rfl rfl rfl (Nat.le_of_ble_eq_true rfl) rfl ?_
  refine mm_iconst (q := 12) dX7_lentOf_11 rfl ic_0 ?_
  refine mm_istore_n (q := 13) (ls' := [some (.ref 0), some (.int x1), some (.int b1), some (.int (0 : Int32)), none, none]) dX7_lentOf_12 rfl rfl rfl (Nat.le_of_ble_eq_true rfl) rfl ?_
  refine mm_iconst (q := 14) dX7_lentOf_13 rfl ic_1 ?_
  refine mm_istore (q := 16) (ls' := [some (.ref 0), some (.int x1), some (.int b1), some (.int (0 : Int32)), some (.int (1 : Int32)), none]) dX7_lentOf_14 rfl rfl (Nat.le_of_ble_eq_true rfl) rfl ?_
  refine fX7_lentOf_L16_ok x1 b1 _ (fun z11 M12 => ?_) _ _ _ _
  refine mm_aload_n (q := 101) dX7_lentOf_100 rfl rfl rfl ?_
  refine mm_getR (q := 104) (k1 := 8) dX7_lentOf_101 rfl lr_0 fd_X7_31 rfl ?_
  refine mm_iconst (q := 105) dX7_lentOf_104 rfl ic_3 ?_
  refine mm_iload_n (q := 106) dX7_lentOf_105 rfl rfl rfl ?_
  refine mm_imul (q := 107) dX7_lentOf_106 rfl ?_
  refine mm_iconst (q := 108) dX7_lentOf_107 rfl ic_2 ?_
  refine mm_iadd (q := 109) dX7_lentOf_108 rfl ?_
  refine mm_iload_n (q := 110) dX7_lentOf_109 rfl rfl rfl ?_
  refine mm_iast (q := 111) dX7_lentOf_110 rfl lr_8 (fun M13 _ => ?_)
  refine mm_iload_n (q := 112) dX7_lentOf_111 rfl rfl rfl ?_
  exact mm_iret rfl dX7_lentOf_112
def fX7_askOf_L11 (x2 : Int32) (M : mm_M)  : Nat → Int32 → Int32 → Option (Int32 × mm_M)
  | 0, _, _ => none
  | n + 1, x3, x4 =>
    if (24 : Int32) ≤ x4 then
      some (x3, M)
    else
      (fX7_alike x2 x4 M).bind fun b3 =>
      (fX7_alike x2 x3 M).bind fun b4 =>
      fX7_askOf_L11 x2 M n (if b4 ≤ b3 then x3 else x4) (x4 + (1 : Int32))
set_option maxRecDepth 100000 in
set_option maxHeartbeats 4000000 in
theorem fX7_askOf_L11_ok (x2 : Int32) (M : mm_M)    : ∀ (n : Nat) (x3 : Int32) (x4 : Int32), mm_C LR cX7_askOf 5 RX7 (some .int) 8 mm_eI 11 [some (.ref 0), none, some (.int x2), some (.int x3), some (.int x4)] [] M (fX7_askOf_L11 x2 M n x3 x4) := by
  intro n
  induction n with
  | zero => intro x3 x4; exact mm_none
  | succ n ih =>
    intro x3 x4
    rw [fX7_askOf_L11]
    refine mm_iload (q := 13) dX7_askOf_11 rfl rfl ?_
    refine mm_bipush (q := 15) dX7_askOf_13 rfl bp_24 ?_
    refine mm_icmp_ge (q := 18) (tgt := 47) dX7_askOf_15 rfl (by decide) (fun c2 => ?_) (fun c2 => ?_)
    · refine mm_iload_n (q := 48) dX7_askOf_47 rfl rfl rfl ?_
      exact mm_iret rfl dX7_askOf_48
    · refine mm_aload_n (q := 19) dX7_askOf_18 rfl rfl rfl ?_
      refine mm_iload_n (q := 20) dX7_askOf_19 rfl rfl rfl ?_
      refine mm_iload (q := 22) dX7_askOf_20 rfl rfl ?_
      refine mm_callVP (as := [.int x2, .int x4]) (st := []) (q := 25) lr_0 rfl (fX7_alike_ok x2 x4 M) ms_X7_295 rfl (Nat.le_of_ble_eq_true rfl) (Nat.le_of_ble_eq_true rfl) rfl dX7_askOf_22 rfl (fun b3 _ => ?_)
      refine mm_aload_n (q := 26) dX7_askOf_25 rfl rfl rfl ?_
      refine mm_iload_n (q := 27) dX7_askOf_26 rfl rfl rfl ?_
      refine mm_iload_n (q := 28) dX7_askOf_27 rfl rfl rfl ?_
      refine mm_callVP (as := [.int x2, .int x3]) (st := [.int b3]) (q := 31) lr_0 rfl (fX7_alike_ok x2 x3 M) ms_X7_295 rfl (Nat.le_of_ble_eq_true rfl) (Nat.le_of_ble_eq_true rfl) rfl dX7_askOf_28 rfl (fun b4 _ => ?_)
      by_cases c5 : b4 ≤ b3
      · simp only [if_pos c5]
        refine mm_icmp_ge_t (tgt := 39) c5 dX7_askOf_31 (by decide) ?_
        refine mm_iload_n (q := 40) dX7_askOf_39 rfl rfl rfl ?_
        refine mm_istore_n (q := 41) (ls' := [some (.ref 0), none, some (.int x2), some (.int x3), some (.int x4)]) dX7_askOf_40 rfl rfl rfl (Nat.le_of_ble_eq_true rfl) rfl ?_
        refine mm_iinc (q := 44) (ls' := [some (.ref 0), none, some (.int x2), some (.int x3), some (.int (x4 + (1 : Int32)))]) dX7_askOf_41 rfl rfl (ii_1 _) rfl (Nat.le_of_ble_eq_true rfl) rfl ?_
        refine mm_goto (tgt := 11) dX7_askOf_44 (by decide) ?_
        exact ih _ _
      · simp only [if_neg c5]
        refine mm_icmp_ge_f (q := 34) (tgt := 39) c5 dX7_askOf_31 rfl (by decide) ?_
        refine mm_iload (q := 36) dX7_askOf_34 rfl rfl ?_
        refine mm_goto (tgt := 40) dX7_askOf_36 (by decide) ?_
        refine mm_istore_n (q := 41) (ls' := [some (.ref 0), none, some (.int x2), some (.int x4), some (.int x4)]) dX7_askOf_40 rfl rfl rfl (Nat.le_of_ble_eq_true rfl) rfl ?_
        refine mm_iinc (q := 44) (ls' := [some (.ref 0), none, some (.int x2), some (.int x4), some (.int (x4 + (1 : Int32)))]) dX7_askOf_41 rfl rfl (ii_1 _) rfl (Nat.le_of_ble_eq_true rfl) rfl ?_
        refine mm_goto (tgt := 11) dX7_askOf_44 (by decide) ?_
        exact ih _ _
def fX7_askOf (x1 : Int32) (M : mm_M) : Option (Int32 × mm_M) :=
  (fX7_lentOf x1 M).bind fun b1 =>
  fX7_askOf_L11 b1.1 b1.2 1000 (0 : Int32) (1 : Int32)
set_option maxRecDepth 100000 in
set_option maxHeartbeats 4000000 in
theorem fX7_askOf_ok (x1 : Int32) (M : mm_M)  : mm_E LR yX7_askOf cX7_askOf 5 (some .int) 8 mm_eI [.ref 0, .int x1] M (fX7_askOf x1 M) := by
  refine mm_E.of (own := RX7) (ls := [some (.ref 0), some (.int x1), none, none, none]) (by decide) rfl rfl (Nat.le_of_ble_eq_true rfl) ?_
  unfold fX7_askOf
  refine mm_aload_n (q := 1) dX7_askOf_0 rfl rfl rfl ?_
  refine mm_iload_n (q := 2) dX7_askOf_1 rfl rfl rfl ?_
  refine mm_callVI (as := [.int x1]) (st := []) (q := 5) lr_0 rfl (fX7_lentOf_ok x1 M) ms_X7_292 rfl (Nat.le_of_ble_eq_true rfl) (Nat.le_of_ble_eq_true rfl) rfl dX7_askOf_2 rfl (fun b1 _ => ?_)
  refine mm_istore_n (q := 6) (ls' := [some (.ref 0), some (.int x1), some (.int b1.1), none, none]) dX7_askOf_5 rfl rfl rfl (Nat.le_of_ble_eq_true rfl) rfl ?_
  refine mm_iconst (q := 7) dX7_askOf_6 rfl ic_0 ?_
  refine mm_istore_n (q := 8) (ls' := [some (.ref 0), some (.int x1), some (.int b1.1), some (.int (0 : Int32)), none]) dX7_askOf_7 rfl rfl rfl (Nat.le_of_ble_eq_true rfl) rfl ?_
  refine mm_iconst (q := 9) dX7_askOf_8 rfl ic_1 ?_
  refine mm_istore (q := 11) (ls' := [some (.ref 0), some (.int x1), some (.int b1.1), some (.int (0 : Int32)), some (.int (1 : Int32))]) dX7_askOf_9 rfl rfl (Nat.le_of_ble_eq_true rfl) rfl ?_
  refine mm_drop (ls' := [some (.ref 0), none, some (.int b1.1), some (.int (0 : Int32)), some (.int (1 : Int32))]) (mm_sub_at _ _ (And.intro rfl (And.intro rfl (And.intro rfl (And.intro rfl trivial))))) ?_
  exact fX7_askOf_L11_ok b1.1 b1.2 _ _ _
def fX7_ask (x1 : Int32) (M : mm_M) : Option (Int32 × mm_M) :=
  (fX7_find M).bind fun M1 =>
  (fX7_isWord x1 M1).bind fun b2 =>
  if b2 = 0 then
    some ((-2 : Int32), M1)
  else
    (fX7_askOf x1 M1).bind fun b4 =>
    some (b4.1, b4.2)
set_option maxRecDepth 100000 in
set_option maxHeartbeats 4000000 in
theorem fX7_ask_ok (x1 : Int32) (M : mm_M)  : mm_E LR yX7_ask cX7_ask 2 (some .int) 9 mm_eI [.ref 0, .int x1] M (fX7_ask x1 M) := by
  refine mm_E.of (own := RX7) (ls := [some (.ref 0), some (.int x1)]) (by decide) rfl rfl (Nat.le_of_ble_eq_true rfl) ?_
  unfold fX7_ask
  refine mm_aload_n (q := 1) dX7_ask_0 rfl rfl rfl ?_
  refine mm_callVV (as := []) (st := []) (q := 4) lr_0 rfl (fX7_find_ok M) ms_X7_221 rfl (Nat.le_of_ble_eq_true rfl) (Nat.le_of_ble_eq_true rfl) rfl dX7_ask_1 rfl (fun M1 _ => ?_)
  refine mm_aload_n (q := 5) dX7_ask_4 rfl rfl rfl ?_
  refine mm_iload_n (q := 6) dX7_ask_5 rfl rfl rfl ?_
  refine mm_callVP (as := [.int x1]) (st := []) (q := 9) lr_0 rfl (fX7_isWord_ok x1 M1) ms_X7_158 rfl (Nat.le_of_ble_eq_true rfl) (Nat.le_of_ble_eq_true rfl) rfl dX7_ask_6 rfl (fun b2 _ => ?_)
  refine mm_if_eq (q := 12) (tgt := 20) dX7_ask_9 rfl (by decide) (fun c3 => ?_) (fun c3 => ?_)
  · refine mm_bipush (q := 22) dX7_ask_20 rfl bp_m2 ?_
    exact mm_iret rfl dX7_ask_22
  · refine mm_aload_n (q := 13) dX7_ask_12 rfl rfl rfl ?_
    refine mm_iload_n (q := 14) dX7_ask_13 rfl rfl rfl ?_
    refine mm_callVI (as := [.int x1]) (st := []) (q := 17) lr_0 rfl (fX7_askOf_ok x1 M1) ms_X7_298 rfl (Nat.le_of_ble_eq_true rfl) (Nat.le_of_ble_eq_true rfl) rfl dX7_ask_14 rfl (fun b4 _ => ?_)
    refine mm_goto (tgt := 22) dX7_ask_17 (by decide) ?_
    exact mm_iret rfl dX7_ask_22
def fX7_isDay (x0 : Int32)  : Option (Int32) :=
  (mm_zb (fX7_in ((x0).toInt64) (0 : Int64) (23 : Int64))).bind fun b1 =>
  some b1
set_option maxRecDepth 100000 in
set_option maxHeartbeats 4000000 in
theorem fX7_isDay_ok (x0 : Int32) (M : mm_M)  : mm_E LR yX7_isDay cX7_isDay 1 (some .boolean) 1 (mm_pI M) [.int x0] M (fX7_isDay x0) := by
  refine mm_E.of (own := RX7) (ls := [some (.int x0)]) (by decide) rfl rfl (Nat.le_of_ble_eq_true rfl) ?_
  unfold fX7_isDay
  refine mm_iload_n (q := 1) dX7_isDay_0 rfl rfl rfl ?_
  refine mm_i2l (q := 2) dX7_isDay_1 rfl ?_
  refine mm_lconst (q := 3) dX7_isDay_2 rfl lk_0 ?_
  refine mm_ldc2 (q := 6) dX7_isDay_3 rfl cn_X7_150 ?_
  refine mm_callST (as := [.long ((x0).toInt64), .long (0 : Int64), .long (23 : Int64)]) (st := []) (q := 9) (fX7_in_ok ((x0).toInt64) (0 : Int64) (23 : Int64) M) ms_X7_76 rfl (Nat.le_of_ble_eq_true rfl) (Nat.le_of_ble_eq_true rfl) rfl dX7_isDay_6 rfl ?_
  exact mm_zretB (fun _ => rfl) (fun _ => rfl) dX7_isDay_9
def fX7_openOf_L6 (x1 : Int32) (x2 : Int32) (x3 : Int32) (M : mm_M)  : Nat → Int32 → Int32 → Option (Int32)
  | 0, _, _ => none
  | n + 1, x4, x5 =>
    if (M 0 9) ≤ x5 then
      some x4
    else
      (mm_rd M 15 288 (((12 : Int32) * x1) + x5)).bind fun b2 =>
      if b2 = 0 then
        ((mm_rd M 8 36 (((3 : Int32) * x5) + x3)).bind fun b4 =>
        if b4 = x2 then
          ((mm_rd M 16 288 (((12 : Int32) * x1) + x5)).bind fun b6 =>
          fX7_openOf_L6 x1 x2 x3 M n (x4 + b6) (x5 + (1 : Int32)))
        else
          fX7_openOf_L6 x1 x2 x3 M n (x4 + (0 : Int32)) (x5 + (1 : Int32)))
      else
        fX7_openOf_L6 x1 x2 x3 M n (x4 + (0 : Int32)) (x5 + (1 : Int32))
set_option maxRecDepth 100000 in
set_option maxHeartbeats 4000000 in
theorem fX7_openOf_L6_ok (x1 : Int32) (x2 : Int32) (x3 : Int32) (M : mm_M)    : ∀ (n : Nat) (x4 : Int32) (x5 : Int32), mm_C LR cX7_openOf 6 RX7 (some .int) 0 (mm_pI M) 6 [some (.ref 0), some (.int x1), some (.int x2), some (.int x3), some (.int x4), some (.int x5)] [] M (fX7_openOf_L6 x1 x2 x3 M n x4 x5) := by
  intro n
  induction n with
  | zero => intro x4 x5; exact mm_none
  | succ n ih =>
    intro x4 x5
    rw [fX7_openOf_L6]
    refine mm_iload (q := 8) dX7_openOf_6 rfl rfl ?_
    refine mm_aload_n (q := 9) dX7_openOf_8 rfl rfl rfl ?_
    refine mm_getI (q := 12) dX7_openOf_9 rfl lr_0 fd_X7_125 rfl ?_
    refine mm_icmp_ge (q := 15) (tgt := 72) dX7_openOf_12 rfl (by decide) (fun c1 => ?_) (fun c1 => ?_)
    · refine mm_iload (q := 74) dX7_openOf_72 rfl rfl ?_
      exact mm_iret rfl dX7_openOf_74
    · refine mm_iload (q := 17) dX7_openOf_15 rfl rfl ?_
      refine mm_aload_n (q := 18) dX7_openOf_17 rfl rfl rfl ?_
      refine mm_getR (q := 21) (k1 := 15) dX7_openOf_18 rfl lr_0 fd_X7_52 rfl ?_
      refine mm_bipush (q := 23) dX7_openOf_21 rfl bp_12 ?_
      refine mm_iload_n (q := 24) dX7_openOf_23 rfl rfl rfl ?_
      refine mm_imul (q := 25) dX7_openOf_24 rfl ?_
      refine mm_iload (q := 27) dX7_openOf_25 rfl rfl ?_
      refine mm_iadd (q := 28) dX7_openOf_27 rfl ?_
      refine mm_iald (q := 29) dX7_openOf_28 rfl lr_15 (fun b2 _ => ?_)
      refine mm_if_ne (q := 32) (tgt := 62) dX7_openOf_29 rfl (by decide) (fun c3 => ?_) (fun c3 => ?_)
      · refine mm_aload_n (q := 33) dX7_openOf_32 rfl rfl rfl ?_
        refine mm_getR (q := 36) (k1 := 8) dX7_openOf_33 rfl lr_0 fd_X7_31 rfl ?_
        refine mm_iconst (q := 37) dX7_openOf_36 rfl ic_3 ?_
        refine mm_iload (q := 39) dX7_openOf_37 rfl rfl ?_
        refine mm_imul (q := 40) dX7_openOf_39 rfl ?_
        refine mm_iload_n (q := 41) dX7_openOf_40 rfl rfl rfl ?_
        refine mm_iadd (q := 42) dX7_openOf_41 rfl ?_
        refine mm_iald (q := 43) dX7_openOf_42 rfl lr_8 (fun b4 _ => ?_)
        refine mm_iload_n (q := 44) dX7_openOf_43 rfl rfl rfl ?_
        refine mm_icmp_ne (q := 47) (tgt := 62) dX7_openOf_44 rfl (by decide) (fun c5 => ?_) (fun c5 => ?_)
        · refine mm_aload_n (q := 48) dX7_openOf_47 rfl rfl rfl ?_
          refine mm_getR (q := 51) (k1 := 16) dX7_openOf_48 rfl lr_0 fd_X7_55 rfl ?_
          refine mm_bipush (q := 53) dX7_openOf_51 rfl bp_12 ?_
          refine mm_iload_n (q := 54) dX7_openOf_53 rfl rfl rfl ?_
          refine mm_imul (q := 55) dX7_openOf_54 rfl ?_
          refine mm_iload (q := 57) dX7_openOf_55 rfl rfl ?_
          refine mm_iadd (q := 58) dX7_openOf_57 rfl ?_
          refine mm_iald (q := 59) dX7_openOf_58 rfl lr_16 (fun b6 _ => ?_)
          refine mm_goto (tgt := 63) dX7_openOf_59 (by decide) ?_
          refine mm_iadd (q := 64) dX7_openOf_63 rfl ?_
          refine mm_istore (q := 66) (ls' := [some (.ref 0), some (.int x1), some (.int x2), some (.int x3), some (.int (x4 + b6)), some (.int x5)]) dX7_openOf_64 rfl rfl (Nat.le_of_ble_eq_true rfl) rfl ?_
          refine mm_iinc (q := 69) (ls' := [some (.ref 0), some (.int x1), some (.int x2), some (.int x3), some (.int (x4 + b6)), some (.int (x5 + (1 : Int32)))]) dX7_openOf_66 rfl rfl (ii_1 _) rfl (Nat.le_of_ble_eq_true rfl) rfl ?_
          refine mm_goto (tgt := 6) dX7_openOf_69 (by decide) ?_
          exact ih _ _
        · refine mm_iconst (q := 63) dX7_openOf_62 rfl ic_0 ?_
          refine mm_iadd (q := 64) dX7_openOf_63 rfl ?_
          refine mm_istore (q := 66) (ls' := [some (.ref 0), some (.int x1), some (.int x2), some (.int x3), some (.int (x4 + (0 : Int32))), some (.int x5)]) dX7_openOf_64 rfl rfl (Nat.le_of_ble_eq_true rfl) rfl ?_
          refine mm_iinc (q := 69) (ls' := [some (.ref 0), some (.int x1), some (.int x2), some (.int x3), some (.int (x4 + (0 : Int32))), some (.int (x5 + (1 : Int32)))]) dX7_openOf_66 rfl rfl (ii_1 _) rfl (Nat.le_of_ble_eq_true rfl) rfl ?_
          refine mm_goto (tgt := 6) dX7_openOf_69 (by decide) ?_
          exact ih _ _
      · refine mm_iconst (q := 63) dX7_openOf_62 rfl ic_0 ?_
        refine mm_iadd (q := 64) dX7_openOf_63 rfl ?_
        refine mm_istore (q := 66) (ls' := [some (.ref 0), some (.int x1), some (.int x2), some (.int x3), some (.int (x4 + (0 : Int32))), some (.int x5)]) dX7_openOf_64 rfl rfl (Nat.le_of_ble_eq_true rfl) rfl ?_
        refine mm_iinc (q := 69) (ls' := [some (.ref 0), some (.int x1), some (.int x2), some (.int x3), some (.int (x4 + (0 : Int32))), some (.int (x5 + (1 : Int32)))]) dX7_openOf_66 rfl rfl (ii_1 _) rfl (Nat.le_of_ble_eq_true rfl) rfl ?_
        refine mm_goto (tgt := 6) dX7_openOf_69 (by decide) ?_
        exact ih _ _
def fX7_openOf (x1 : Int32) (x2 : Int32) (x3 : Int32) (M : mm_M) : Option (Int32) :=
  fX7_openOf_L6 x1 x2 x3 M 1000 (0 : Int32) (0 : Int32)
set_option maxRecDepth 100000 in
set_option maxHeartbeats 4000000 in
theorem fX7_openOf_ok (x1 : Int32) (x2 : Int32) (x3 : Int32) (M : mm_M)  : mm_E LR yX7_openOf cX7_openOf 6 (some .int) 0 (mm_pI M) [.ref 0, .int x1, .int x2, .int x3] M (fX7_openOf x1 x2 x3 M) := by
  refine mm_E.of (own := RX7) (ls := [some (.ref 0), some (.int x1), some (.int x2), some (.int x3), none, none]) (by decide) rfl rfl (Nat.le_of_ble_eq_true rfl) ?_
  unfold fX7_openOf
  refine mm_iconst (q := 1) dX7_openOf_0 rfl ic_0 ?_
  refine mm_istore (q := 3) (ls' := [some (.ref 0), some (.int x1), some (.int x2), some (.int x3), some (.int (0 : Int32)), none]) dX7_openOf_1 rfl rfl (Nat.le_of_ble_eq_true rfl) rfl ?_
  refine mm_iconst (q := 4) dX7_openOf_3 rfl ic_0 ?_
  refine mm_istore (q := 6) (ls' := [some (.ref 0), some (.int x1), some (.int x2), some (.int x3), some (.int (0 : Int32)), some (.int (0 : Int32))]) dX7_openOf_4 rfl rfl (Nat.le_of_ble_eq_true rfl) rfl ?_
  exact fX7_openOf_L6_ok x1 x2 x3 M _ _ _
def fX7_atOf (x1 : Int32) (x2 : Int32) (x3 : Int32) (M : mm_M) : Option (Int32) :=
  if x3 = (0 : Int32) then
    ((fX7_isDead (x1 + (1 : Int32)) x2 M).bind fun b2 =>
    if b2 = 0 then
      some (0 : Int32)
    else
      some (1 : Int32))
  else
    if x3 = (1 : Int32) then
      ((fX7_openOf x1 x2 (1 : Int32) M).bind fun b5 =>
      some b5)
    else
      if x3 = (2 : Int32) then
        ((fX7_openOf x1 x2 (0 : Int32) M).bind fun b7 =>
        some b7)
      else
        (mm_rd M 17 192 (((8 : Int32) * x1) + x2)).bind fun b8 =>
        some b8
set_option maxRecDepth 100000 in
set_option maxHeartbeats 4000000 in
theorem fX7_atOf_ok (x1 : Int32) (x2 : Int32) (x3 : Int32) (M : mm_M)  : mm_E LR yX7_atOf cX7_atOf 4 (some .int) 1 (mm_pI M) [.ref 0, .int x1, .int x2, .int x3] M (fX7_atOf x1 x2 x3 M) := by
  refine mm_E.of (own := RX7) (ls := [some (.ref 0), some (.int x1), some (.int x2), some (.int x3)]) (by decide) rfl rfl (Nat.le_of_ble_eq_true rfl) ?_
  unfold fX7_atOf
  refine mm_iload_n (q := 1) dX7_atOf_0 rfl rfl rfl ?_
  by_cases c1 : x3 = (0 : Int32)
  · rw [if_pos c1]
    refine mm_tswI (tgt := 28) (v := 0) (off := 27) (by rw [c1]; decide) dX7_atOf_1 (by decide) (by decide) rfl (by decide) ?_
    refine mm_aload_n (q := 29) dX7_atOf_28 rfl rfl rfl ?_
    refine mm_iload_n (q := 30) dX7_atOf_29 rfl rfl rfl ?_
    refine mm_iconst (q := 31) dX7_atOf_30 rfl ic_1 ?_
    refine mm_iadd (q := 32) dX7_atOf_31 rfl ?_
    refine mm_iload_n (q := 33) dX7_atOf_32 rfl rfl rfl ?_
    refine mm_callVP (as := [.int (x1 + (1 : Int32)), .int x2]) (st := []) (q := 36) lr_0 rfl (fX7_isDead_ok (x1 + (1 : Int32)) x2 M) ms_X7_192 rfl (Nat.le_of_ble_eq_true rfl) (Nat.le_of_ble_eq_true rfl) rfl dX7_atOf_33 rfl (fun b2 _ => ?_)
    refine mm_if_eq (q := 39) (tgt := 43) dX7_atOf_36 rfl (by decide) (fun c3 => ?_) (fun c3 => ?_)
    · refine mm_iconst (q := 44) dX7_atOf_43 rfl ic_0 ?_
      exact mm_iret rfl dX7_atOf_44
    · refine mm_iconst (q := 40) dX7_atOf_39 rfl ic_1 ?_
      refine mm_goto (tgt := 44) dX7_atOf_40 (by decide) ?_
      exact mm_iret rfl dX7_atOf_44
  · rw [if_neg c1]
    by_cases c4 : x3 = (1 : Int32)
    · rw [if_pos c4]
      refine mm_tswI (tgt := 45) (v := 1) (off := 44) (by rw [c4]; decide) dX7_atOf_1 (by decide) (by decide) rfl (by decide) ?_
      refine mm_aload_n (q := 46) dX7_atOf_45 rfl rfl rfl ?_
      refine mm_iload_n (q := 47) dX7_atOf_46 rfl rfl rfl ?_
      refine mm_iload_n (q := 48) dX7_atOf_47 rfl rfl rfl ?_
      refine mm_iconst (q := 49) dX7_atOf_48 rfl ic_1 ?_
      refine mm_callVP (as := [.int x1, .int x2, .int (1 : Int32)]) (st := []) (q := 52) lr_0 rfl (fX7_openOf_ok x1 x2 (1 : Int32) M) ms_X7_227 rfl (Nat.le_of_ble_eq_true rfl) (Nat.le_of_ble_eq_true rfl) rfl dX7_atOf_49 rfl (fun b5 _ => ?_)
      exact mm_iret rfl dX7_atOf_52
    · rw [if_neg c4]
      by_cases c6 : x3 = (2 : Int32)
      · rw [if_pos c6]
        refine mm_tswI (tgt := 53) (v := 2) (off := 52) (by rw [c6]; decide) dX7_atOf_1 (by decide) (by decide) rfl (by decide) ?_
        refine mm_aload_n (q := 54) dX7_atOf_53 rfl rfl rfl ?_
        refine mm_iload_n (q := 55) dX7_atOf_54 rfl rfl rfl ?_
        refine mm_iload_n (q := 56) dX7_atOf_55 rfl rfl rfl ?_
        refine mm_iconst (q := 57) dX7_atOf_56 rfl ic_0 ?_
        refine mm_callVP (as := [.int x1, .int x2, .int (0 : Int32)]) (st := []) (q := 60) lr_0 rfl (fX7_openOf_ok x1 x2 (0 : Int32) M) ms_X7_227 rfl (Nat.le_of_ble_eq_true rfl) (Nat.le_of_ble_eq_true rfl) rfl dX7_atOf_57 rfl (fun b7 _ => ?_)
        exact mm_iret rfl dX7_atOf_60
      · rw [if_neg c6]
        refine mm_tswO (tgt := 61) (by have e0 := lv_neT c1 (show (0 : Int32).toInt = 0 by decide); have e1 := lv_neT c4 (show (1 : Int32).toInt = 1 by decide); have e2 := lv_neT c6 (show (2 : Int32).toInt = 2 by decide); omega) dX7_atOf_1 (by decide) ?_
        refine mm_aload_n (q := 62) dX7_atOf_61 rfl rfl rfl ?_
        refine mm_getR (q := 65) (k1 := 17) dX7_atOf_62 rfl lr_0 fd_X7_58 rfl ?_
        refine mm_bipush (q := 67) dX7_atOf_65 rfl bp_8 ?_
        refine mm_iload_n (q := 68) dX7_atOf_67 rfl rfl rfl ?_
        refine mm_imul (q := 69) dX7_atOf_68 rfl ?_
        refine mm_iload_n (q := 70) dX7_atOf_69 rfl rfl rfl ?_
        refine mm_iadd (q := 71) dX7_atOf_70 rfl ?_
        refine mm_iald (q := 72) dX7_atOf_71 rfl lr_17 (fun b8 _ => ?_)
        exact mm_iret rfl dX7_atOf_72
def fX7_at (x1 : Int32) (x2 : Int32) (x3 : Int32) (M : mm_M) : Option (Int32 × mm_M) :=
  (fX7_find M).bind fun M1 =>
  (fX7_isDay x1).bind fun b2 =>
  if b2 = 0 then
    some ((-2 : Int32), M1)
  else
    (fX7_isPerson x2 M1).bind fun b4 =>
    if b4 = 0 then
      some ((-2 : Int32), M1)
    else
      if (fX7_in ((x3).toInt64) (0 : Int64) (3 : Int64)) = 0 then
        some ((-2 : Int32), M1)
      else
        (fX7_atOf x1 x2 x3 M1).bind fun b7 =>
        some (b7, M1)
set_option maxRecDepth 100000 in
set_option maxHeartbeats 4000000 in
theorem fX7_at_ok (x1 : Int32) (x2 : Int32) (x3 : Int32) (M : mm_M)  : mm_E LR yX7_at cX7_at 4 (some .int) 7 mm_eI [.ref 0, .int x1, .int x2, .int x3] M (fX7_at x1 x2 x3 M) := by
  refine mm_E.of (own := RX7) (ls := [some (.ref 0), some (.int x1), some (.int x2), some (.int x3)]) (by decide) rfl rfl (Nat.le_of_ble_eq_true rfl) ?_
  unfold fX7_at
  refine mm_aload_n (q := 1) dX7_at_0 rfl rfl rfl ?_
  refine mm_callVV (as := []) (st := []) (q := 4) lr_0 rfl (fX7_find_ok M) ms_X7_221 rfl (Nat.le_of_ble_eq_true rfl) (Nat.le_of_ble_eq_true rfl) rfl dX7_at_1 rfl (fun M1 _ => ?_)
  refine mm_iload_n (q := 5) dX7_at_4 rfl rfl rfl ?_
  refine mm_callSP (as := [.int x1]) (st := []) (q := 8) (fX7_isDay_ok x1 M1) ms_X7_166 rfl (Nat.le_of_ble_eq_true rfl) (Nat.le_of_ble_eq_true rfl) rfl dX7_at_5 rfl (fun b2 _ => ?_)
  refine mm_if_eq (q := 11) (tgt := 41) dX7_at_8 rfl (by decide) (fun c3 => ?_) (fun c3 => ?_)
  · refine mm_bipush (q := 43) dX7_at_41 rfl bp_m2 ?_
    exact mm_iret rfl dX7_at_43
  · refine mm_aload_n (q := 12) dX7_at_11 rfl rfl rfl ?_
    refine mm_iload_n (q := 13) dX7_at_12 rfl rfl rfl ?_
    refine mm_callVP (as := [.int x2]) (st := []) (q := 16) lr_0 rfl (fX7_isPerson_ok x2 M1) ms_X7_152 rfl (Nat.le_of_ble_eq_true rfl) (Nat.le_of_ble_eq_true rfl) rfl dX7_at_13 rfl (fun b4 _ => ?_)
    refine mm_if_eq (q := 19) (tgt := 41) dX7_at_16 rfl (by decide) (fun c5 => ?_) (fun c5 => ?_)
    · refine mm_bipush (q := 43) dX7_at_41 rfl bp_m2 ?_
      exact mm_iret rfl dX7_at_43
    · refine mm_iload_n (q := 20) dX7_at_19 rfl rfl rfl ?_
      refine mm_i2l (q := 21) dX7_at_20 rfl ?_
      refine mm_lconst (q := 22) dX7_at_21 rfl lk_0 ?_
      refine mm_ldc2 (q := 25) dX7_at_22 rfl cn_X7_83 ?_
      refine mm_callST (as := [.long ((x3).toInt64), .long (0 : Int64), .long (3 : Int64)]) (st := []) (q := 28) (fX7_in_ok ((x3).toInt64) (0 : Int64) (3 : Int64) M1) ms_X7_76 rfl (Nat.le_of_ble_eq_true rfl) (Nat.le_of_ble_eq_true rfl) rfl dX7_at_25 rfl ?_
      refine mm_if_eq (q := 31) (tgt := 41) dX7_at_28 rfl (by decide) (fun c6 => ?_) (fun c6 => ?_)
      · refine mm_bipush (q := 43) dX7_at_41 rfl bp_m2 ?_
        exact mm_iret rfl dX7_at_43
      · refine mm_aload_n (q := 32) dX7_at_31 rfl rfl rfl ?_
        refine mm_iload_n (q := 33) dX7_at_32 rfl rfl rfl ?_
        refine mm_iload_n (q := 34) dX7_at_33 rfl rfl rfl ?_
        refine mm_iload_n (q := 35) dX7_at_34 rfl rfl rfl ?_
        refine mm_callVP (as := [.int x1, .int x2, .int x3]) (st := []) (q := 38) lr_0 rfl (fX7_atOf_ok x1 x2 x3 M1) ms_X7_230 rfl (Nat.le_of_ble_eq_true rfl) (Nat.le_of_ble_eq_true rfl) rfl dX7_at_35 rfl (fun b7 _ => ?_)
        refine mm_goto (tgt := 43) dX7_at_38 (by decide) ?_
        exact mm_iret rfl dX7_at_43
def fX7_back  (M : mm_M) : Option (Int32 × mm_M) :=
  if (M 0 13) = 0 then
    some ((-3 : Int32), M)
  else
    (mm_pf M 0 13 ((M 0 13) - (1 : Int32))).bind fun M2 =>
    some (M2 0 13, M2)
set_option maxRecDepth 100000 in
set_option maxHeartbeats 4000000 in
theorem fX7_back_ok  (M : mm_M)  : mm_E LR yX7_back cX7_back 1 (some .int) 0 mm_eI [.ref 0] M (fX7_back M) := by
  refine mm_E.of (own := RX7) (ls := [some (.ref 0)]) (by decide) rfl rfl (Nat.le_of_ble_eq_true rfl) ?_
  unfold fX7_back
  refine mm_aload_n (q := 1) dX7_back_0 rfl rfl rfl ?_
  refine mm_getI (q := 4) dX7_back_1 rfl lr_0 fd_X7_171 rfl ?_
  refine mm_if_ne (q := 7) (tgt := 10) dX7_back_4 rfl (by decide) (fun c1 => ?_) (fun c1 => ?_)
  · refine mm_bipush (q := 9) dX7_back_7 rfl bp_m3 ?_
    exact mm_iret rfl dX7_back_9
  · refine mm_aload_n (q := 11) dX7_back_10 rfl rfl rfl ?_
    refine mm_dup (q := 12) dX7_back_11 rfl rfl ?_
    refine mm_getI (q := 15) dX7_back_12 rfl lr_0 fd_X7_171 rfl ?_
    refine mm_iconst (q := 16) dX7_back_15 rfl ic_1 ?_
    refine mm_isub (q := 17) dX7_back_16 rfl ?_
    refine mm_put (q := 20) dX7_back_17 rfl lr_0 fd_X7_171 ps_X7_13 rfl rfl rfl (fun M2 _ => ?_)
    refine mm_aload_n (q := 21) dX7_back_20 rfl rfl rfl ?_
    refine mm_getI (q := 24) dX7_back_21 rfl lr_0 fd_X7_171 rfl ?_
    exact mm_iret rfl dX7_back_24
def fX7_bankOf_L7 (x1 : Int32) (M : mm_M)  : Nat → Int32 → Int32 → Int32 → Option (Int32)
  | 0, _, _, _ => none
  | n + 1, x2, x3, x4 =>
    if (M 0 7) ≤ x4 then
      some x2
    else
      (fX7_openOf x1 x4 (0 : Int32) M).bind fun b2 =>
      fX7_bankOf_L7 x1 M n (if b2 ≤ x3 then x2 else x4) (fX7_greater b2 x3) (x4 + (1 : Int32))
set_option maxRecDepth 100000 in
set_option maxHeartbeats 4000000 in
theorem fX7_bankOf_L7_ok (x1 : Int32) (M : mm_M)    : ∀ (n : Nat) (x2 : Int32) (x3 : Int32) (x4 : Int32), mm_C LR cX7_bankOf 6 RX7 (some .int) 1 (mm_pI M) 7 [some (.ref 0), some (.int x1), some (.int x2), some (.int x3), some (.int x4), none] [] M (fX7_bankOf_L7 x1 M n x2 x3 x4) := by
  intro n
  induction n with
  | zero => intro x2 x3 x4; exact mm_none
  | succ n ih =>
    intro x2 x3 x4
    rw [fX7_bankOf_L7]
    refine mm_iload (q := 9) dX7_bankOf_7 rfl rfl ?_
    refine mm_aload_n (q := 10) dX7_bankOf_9 rfl rfl rfl ?_
    refine mm_getI (q := 13) dX7_bankOf_10 rfl lr_0 fd_X7_116 rfl ?_
    refine mm_icmp_ge (q := 16) (tgt := 52) dX7_bankOf_13 rfl (by decide) (fun c1 => ?_) (fun c1 => ?_)
    · refine mm_iload_n (q := 53) dX7_bankOf_52 rfl rfl rfl ?_
      exact mm_iret rfl dX7_bankOf_53
    · refine mm_aload_n (q := 17) dX7_bankOf_16 rfl rfl rfl ?_
      refine mm_iload_n (q := 18) dX7_bankOf_17 rfl rfl rfl ?_
      refine mm_iload (q := 20) dX7_bankOf_18 rfl rfl ?_
      refine mm_iconst (q := 21) dX7_bankOf_20 rfl ic_0 ?_
      refine mm_callVP (as := [.int x1, .int x4, .int (0 : Int32)]) (st := []) (q := 24) lr_0 rfl (fX7_openOf_ok x1 x4 (0 : Int32) M) ms_X7_227 rfl (Nat.le_of_ble_eq_true rfl) (Nat.le_of_ble_eq_true rfl) rfl dX7_bankOf_21 rfl (fun b2 _ => ?_)
      refine mm_istore (q := 26) (ls' := [some (.ref 0), some (.int x1), some (.int x2), some (.int x3), some (.int x4), some (.int b2)]) dX7_bankOf_24 rfl rfl (Nat.le_of_ble_eq_true rfl) rfl ?_
      refine mm_iload (q := 28) dX7_bankOf_26 rfl rfl ?_
      refine mm_iload_n (q := 29) dX7_bankOf_28 rfl rfl rfl ?_
      by_cases c3 : b2 ≤ x3
      · simp only [if_pos c3]
        refine mm_icmp_le_t (tgt := 37) c3 dX7_bankOf_29 (by decide) ?_
        refine mm_iload_n (q := 38) dX7_bankOf_37 rfl rfl rfl ?_
        refine mm_istore_n (q := 39) (ls' := [some (.ref 0), some (.int x1), some (.int x2), some (.int x3), some (.int x4), some (.int b2)]) dX7_bankOf_38 rfl rfl rfl (Nat.le_of_ble_eq_true rfl) rfl ?_
        refine mm_iload (q := 41) dX7_bankOf_39 rfl rfl ?_
        refine mm_iload_n (q := 42) dX7_bankOf_41 rfl rfl rfl ?_
        refine mm_callST (as := [.int b2, .int x3]) (st := []) (q := 45) (fX7_greater_ok b2 x3 M) ms_X7_189 rfl (Nat.le_of_ble_eq_true rfl) (Nat.le_of_ble_eq_true rfl) rfl dX7_bankOf_42 rfl ?_
        refine mm_istore_n (q := 46) (ls' := [some (.ref 0), some (.int x1), some (.int x2), some (.int (fX7_greater b2 x3)), some (.int x4), some (.int b2)]) dX7_bankOf_45 rfl rfl rfl (Nat.le_of_ble_eq_true rfl) rfl ?_
        refine mm_iinc (q := 49) (ls' := [some (.ref 0), some (.int x1), some (.int x2), some (.int (fX7_greater b2 x3)), some (.int (x4 + (1 : Int32))), some (.int b2)]) dX7_bankOf_46 rfl rfl (ii_1 _) rfl (Nat.le_of_ble_eq_true rfl) rfl ?_
        refine mm_goto (tgt := 7) dX7_bankOf_49 (by decide) ?_
        refine mm_drop (ls' := [some (.ref 0), some (.int x1), some (.int x2), some (.int (fX7_greater b2 x3)), some (.int (x4 + (1 : Int32))), none]) (mm_sub_at _ _ (And.intro rfl (And.intro rfl (And.intro rfl (And.intro rfl (And.intro rfl trivial)))))) ?_
        exact ih _ _ _
      · simp only [if_neg c3]
        refine mm_icmp_le_f (q := 32) (tgt := 37) c3 dX7_bankOf_29 rfl (by decide) ?_
        refine mm_iload (q := 34) dX7_bankOf_32 rfl rfl ?_
        refine mm_goto (tgt := 38) dX7_bankOf_34 (by decide) ?_
        refine mm_istore_n (q := 39) (ls' := [some (.ref 0), some (.int x1), some (.int x4), some (.int x3), some (.int x4), some (.int b2)]) dX7_bankOf_38 rfl rfl rfl (Nat.le_of_ble_eq_true rfl) rfl ?_
        refine mm_iload (q := 41) dX7_bankOf_39 rfl rfl ?_
        refine mm_iload_n (q := 42) dX7_bankOf_41 rfl rfl rfl ?_
        refine mm_callST (as := [.int b2, .int x3]) (st := []) (q := 45) (fX7_greater_ok b2 x3 M) ms_X7_189 rfl (Nat.le_of_ble_eq_true rfl) (Nat.le_of_ble_eq_true rfl) rfl dX7_bankOf_42 rfl ?_
        refine mm_istore_n (q := 46) (ls' := [some (.ref 0), some (.int x1), some (.int x4), some (.int (fX7_greater b2 x3)), some (.int x4), some (.int b2)]) dX7_bankOf_45 rfl rfl rfl (Nat.le_of_ble_eq_true rfl) rfl ?_
        refine mm_iinc (q := 49) (ls' := [some (.ref 0), some (.int x1), some (.int x4), some (.int (fX7_greater b2 x3)), some (.int (x4 + (1 : Int32))), some (.int b2)]) dX7_bankOf_46 rfl rfl (ii_1 _) rfl (Nat.le_of_ble_eq_true rfl) rfl ?_
        refine mm_goto (tgt := 7) dX7_bankOf_49 (by decide) ?_
        refine mm_drop (ls' := [some (.ref 0), some (.int x1), some (.int x4), some (.int (fX7_greater b2 x3)), some (.int (x4 + (1 : Int32))), none]) (mm_sub_at _ _ (And.intro rfl (And.intro rfl (And.intro rfl (And.intro rfl (And.intro rfl trivial)))))) ?_
        exact ih _ _ _
def fX7_bankOf (x1 : Int32) (M : mm_M) : Option (Int32) :=
  fX7_bankOf_L7 x1 M 1000 (-1 : Int32) (0 : Int32) (0 : Int32)
set_option maxRecDepth 100000 in
set_option maxHeartbeats 4000000 in
theorem fX7_bankOf_ok (x1 : Int32) (M : mm_M)  : mm_E LR yX7_bankOf cX7_bankOf 6 (some .int) 1 (mm_pI M) [.ref 0, .int x1] M (fX7_bankOf x1 M) := by
  refine mm_E.of (own := RX7) (ls := [some (.ref 0), some (.int x1), none, none, none, none]) (by decide) rfl rfl (Nat.le_of_ble_eq_true rfl) ?_
  unfold fX7_bankOf
  refine mm_iconst (q := 1) dX7_bankOf_0 rfl ic_m1 ?_
  refine mm_istore_n (q := 2) (ls' := [some (.ref 0), some (.int x1), some (.int (-1 : Int32)), none, none, none]) dX7_bankOf_1 rfl rfl rfl (Nat.le_of_ble_eq_true rfl) rfl ?_
  refine mm_iconst (q := 3) dX7_bankOf_2 rfl ic_0 ?_
  refine mm_istore_n (q := 4) (ls' := [some (.ref 0), some (.int x1), some (.int (-1 : Int32)), some (.int (0 : Int32)), none, none]) dX7_bankOf_3 rfl rfl rfl (Nat.le_of_ble_eq_true rfl) rfl ?_
  refine mm_iconst (q := 5) dX7_bankOf_4 rfl ic_0 ?_
  refine mm_istore (q := 7) (ls' := [some (.ref 0), some (.int x1), some (.int (-1 : Int32)), some (.int (0 : Int32)), some (.int (0 : Int32)), none]) dX7_bankOf_5 rfl rfl (Nat.le_of_ble_eq_true rfl) rfl ?_
  exact fX7_bankOf_L7_ok x1 M _ _ _ _
def fX7_bank (x1 : Int32) (M : mm_M) : Option (Int32 × mm_M) :=
  (fX7_find M).bind fun M1 =>
  (fX7_isDay x1).bind fun b2 =>
  if b2 = 0 then
    some ((-2 : Int32), M1)
  else
    (fX7_bankOf x1 M1).bind fun b4 =>
    some (b4, M1)
set_option maxRecDepth 100000 in
set_option maxHeartbeats 4000000 in
theorem fX7_bank_ok (x1 : Int32) (M : mm_M)  : mm_E LR yX7_bank cX7_bank 2 (some .int) 7 mm_eI [.ref 0, .int x1] M (fX7_bank x1 M) := by
  refine mm_E.of (own := RX7) (ls := [some (.ref 0), some (.int x1)]) (by decide) rfl rfl (Nat.le_of_ble_eq_true rfl) ?_
  unfold fX7_bank
  refine mm_aload_n (q := 1) dX7_bank_0 rfl rfl rfl ?_
  refine mm_callVV (as := []) (st := []) (q := 4) lr_0 rfl (fX7_find_ok M) ms_X7_221 rfl (Nat.le_of_ble_eq_true rfl) (Nat.le_of_ble_eq_true rfl) rfl dX7_bank_1 rfl (fun M1 _ => ?_)
  refine mm_iload_n (q := 5) dX7_bank_4 rfl rfl rfl ?_
  refine mm_callSP (as := [.int x1]) (st := []) (q := 8) (fX7_isDay_ok x1 M1) ms_X7_166 rfl (Nat.le_of_ble_eq_true rfl) (Nat.le_of_ble_eq_true rfl) rfl dX7_bank_5 rfl (fun b2 _ => ?_)
  refine mm_if_eq (q := 11) (tgt := 19) dX7_bank_8 rfl (by decide) (fun c3 => ?_) (fun c3 => ?_)
  · refine mm_bipush (q := 21) dX7_bank_19 rfl bp_m2 ?_
    exact mm_iret rfl dX7_bank_21
  · refine mm_aload_n (q := 12) dX7_bank_11 rfl rfl rfl ?_
    refine mm_iload_n (q := 13) dX7_bank_12 rfl rfl rfl ?_
    refine mm_callVP (as := [.int x1]) (st := []) (q := 16) lr_0 rfl (fX7_bankOf_ok x1 M1) ms_X7_239 rfl (Nat.le_of_ble_eq_true rfl) (Nat.le_of_ble_eq_true rfl) rfl dX7_bank_13 rfl (fun b4 _ => ?_)
    refine mm_goto (tgt := 21) dX7_bank_16 (by decide) ?_
    exact mm_iret rfl dX7_bank_21
def fX7_isTwo (x0 : Int32)  : Option (Int32) :=
  (mm_zb (fX7_in ((x0).toInt64) (0 : Int64) (1 : Int64))).bind fun b1 =>
  some b1
set_option maxRecDepth 100000 in
set_option maxHeartbeats 4000000 in
theorem fX7_isTwo_ok (x0 : Int32) (M : mm_M)  : mm_E LR yX7_isTwo cX7_isTwo 1 (some .boolean) 1 (mm_pI M) [.int x0] M (fX7_isTwo x0) := by
  refine mm_E.of (own := RX7) (ls := [some (.int x0)]) (by decide) rfl rfl (Nat.le_of_ble_eq_true rfl) ?_
  unfold fX7_isTwo
  refine mm_iload_n (q := 1) dX7_isTwo_0 rfl rfl rfl ?_
  refine mm_i2l (q := 2) dX7_isTwo_1 rfl ?_
  refine mm_lconst (q := 3) dX7_isTwo_2 rfl lk_0 ?_
  refine mm_lconst (q := 4) dX7_isTwo_3 rfl lk_1 ?_
  refine mm_callST (as := [.long ((x0).toInt64), .long (0 : Int64), .long (1 : Int64)]) (st := []) (q := 7) (fX7_in_ok ((x0).toInt64) (0 : Int64) (1 : Int64) M) ms_X7_76 rfl (Nat.le_of_ble_eq_true rfl) (Nat.le_of_ble_eq_true rfl) rfl dX7_isTwo_4 rfl ?_
  exact mm_zretB (fun _ => rfl) (fun _ => rfl) dX7_isTwo_7
def fX7_part_L6 (x0 : Int64) (x2 : Int64) (x4 : Int32)  : Nat → Int64 → Int64 → Option (Int64)
  | 0, _, _ => none
  | n + 1, x5, x7 =>
    if (lg_cmp x7 (0 : Int64)) = 0 then
      (if x4 = 0 then
        ((mm_ldv x0 x5).bind fun b3 =>
        some b3)
      else
        (mm_ldv x2 x5).bind fun b4 =>
        some b4)
    else
      (mm_lrm x5 x7).bind fun b5 =>
      fX7_part_L6 x0 x2 x4 n x7 b5
set_option maxRecDepth 100000 in
set_option maxHeartbeats 4000000 in
theorem fX7_part_L6_ok (x0 : Int64) (x2 : Int64) (x4 : Int32) (M : mm_M)    : ∀ (n : Nat) (x5 : Int64) (x7 : Int64), mm_C LR cX7_part 11 RX7 (some .long) 0 (mm_pL M) 6 [some (.long x0), none, some (.long x2), none, some (.int x4), some (.long x5), none, some (.long x7), none, none, none] [] M (fX7_part_L6 x0 x2 x4 n x5 x7) := by
  intro n
  induction n with
  | zero => intro x5 x7; exact mm_none
  | succ n ih =>
    intro x5 x7
    rw [fX7_part_L6]
    refine mm_lload (q := 8) dX7_part_6 rfl rfl ?_
    refine mm_lconst (q := 9) dX7_part_8 rfl lk_0 ?_
    refine mm_lcmp (q := 10) dX7_part_9 rfl ?_
    refine mm_if_eq (q := 13) (tgt := 31) dX7_part_10 rfl (by decide) (fun c1 => ?_) (fun c1 => ?_)
    · refine mm_iload (q := 33) dX7_part_31 rfl rfl ?_
      refine mm_if_ne (q := 36) (tgt := 40) dX7_part_33 rfl (by decide) (fun c2 => ?_) (fun c2 => ?_)
      · refine mm_lload_n (q := 37) dX7_part_36 rfl rfl rfl ?_
        refine mm_goto (tgt := 41) dX7_part_37 (by decide) ?_
        refine mm_lload (q := 43) dX7_part_41 rfl rfl ?_
        refine mm_ldiv (q := 44) dX7_part_43 rfl (fun b3 _ => ?_)
        exact mm_lret rfl dX7_part_44
      · refine mm_lload_n (q := 41) dX7_part_40 rfl rfl rfl ?_
        refine mm_lload (q := 43) dX7_part_41 rfl rfl ?_
        refine mm_ldiv (q := 44) dX7_part_43 rfl (fun b4 _ => ?_)
        exact mm_lret rfl dX7_part_44
    · refine mm_lload (q := 15) dX7_part_13 rfl rfl ?_
      refine mm_lload (q := 17) dX7_part_15 rfl rfl ?_
      refine mm_lrem (q := 18) dX7_part_17 rfl (fun b5 _ => ?_)
      refine mm_lstore (q := 20) (ls' := [some (.long x0), none, some (.long x2), none, some (.int x4), some (.long x5), none, some (.long x7), none, some (.long b5), none]) dX7_part_18 rfl rfl (Nat.le_of_ble_eq_true rfl) rfl ?_
      refine mm_lload (q := 22) dX7_part_20 rfl rfl ?_
      refine mm_lstore (q := 24) (ls' := [some (.long x0), none, some (.long x2), none, some (.int x4), some (.long x7), none, some (.long x7), none, some (.long b5), none]) dX7_part_22 rfl rfl (Nat.le_of_ble_eq_true rfl) rfl ?_
      refine mm_lload (q := 26) dX7_part_24 rfl rfl ?_
      refine mm_lstore (q := 28) (ls' := [some (.long x0), none, some (.long x2), none, some (.int x4), some (.long x7), none, some (.long b5), none, some (.long b5), none]) dX7_part_26 rfl rfl (Nat.le_of_ble_eq_true rfl) rfl ?_
      refine mm_goto (tgt := 6) dX7_part_28 (by decide) ?_
      refine mm_drop (ls' := [some (.long x0), none, some (.long x2), none, some (.int x4), some (.long x7), none, some (.long b5), none, none, none]) (mm_sub_at _ _ (And.intro rfl (And.intro rfl (And.intro rfl (And.intro rfl (And.intro rfl trivial)))))) ?_
      exact ih _ _
def fX7_part (x0 : Int64) (x2 : Int64) (x4 : Int32)  : Option (Int64) :=
  fX7_part_L6 x0 x2 x4 1000 x0 x2
set_option maxRecDepth 100000 in
set_option maxHeartbeats 4000000 in
theorem fX7_part_ok (x0 : Int64) (x2 : Int64) (x4 : Int32) (M : mm_M)  : mm_E LR yX7_part cX7_part 11 (some .long) 0 (mm_pL M) [.long x0, .long x2, .int x4] M (fX7_part x0 x2 x4) := by
  refine mm_E.of (own := RX7) (ls := [some (.long x0), none, some (.long x2), none, some (.int x4), none, none, none, none, none, none]) (by decide) rfl rfl (Nat.le_of_ble_eq_true rfl) ?_
  unfold fX7_part
  refine mm_lload_n (q := 1) dX7_part_0 rfl rfl rfl ?_
  refine mm_lstore (q := 3) (ls' := [some (.long x0), none, some (.long x2), none, some (.int x4), some (.long x0), none, none, none, none, none]) dX7_part_1 rfl rfl (Nat.le_of_ble_eq_true rfl) rfl ?_
  refine mm_lload_n (q := 4) dX7_part_3 rfl rfl rfl ?_
  refine mm_lstore (q := 6) (ls' := [some (.long x0), none, some (.long x2), none, some (.int x4), some (.long x0), none, some (.long x2), none, none, none]) dX7_part_4 rfl rfl (Nat.le_of_ble_eq_true rfl) rfl ?_
  exact fX7_part_L6_ok x0 x2 x4 M _ _ _
def fX7_chanceOf_L47 (x1 : Int32) (x2 : Int32) (x3 : Int32) (x4 : Int64) (x6 : Int32) (M : mm_M) (k87 : Int64 → Option (Int64 × mm_M)) : Nat → Int64 → Int32 → Option (Int64 × mm_M)
  | 0, _, _ => none
  | n + 1, x7, x9 =>
    if (M 0 13) ≤ x9 then
      k87 x7
    else
      fX7_chanceOf_L47 x1 x2 x3 x4 x6 M k87 n (if (fX7_isIn x6 x9) = 0 then x7 * ((x1).toInt64) else x7 * (((16 : Int32) - x1).toInt64)) (x9 + (1 : Int32))
set_option maxRecDepth 100000 in
set_option maxHeartbeats 4000000 in
theorem fX7_chanceOf_L47_ok (x1 : Int32) (x2 : Int32) (x3 : Int32) (x4 : Int64) (x6 : Int32) (M : mm_M)  (k87 : Int64 → Option (Int64 × mm_M)) (hk87 : ∀ (x7 : Int64), mm_C LR cX7_chanceOf 10 RX7 (some .long) 6 mm_eL 87 [some (.ref 0), some (.int x1), some (.int x2), some (.int x3), some (.long x4), none, some (.int x6), some (.long x7), none, none] [] M (k87 x7)) : ∀ (n : Nat) (x7 : Int64) (x9 : Int32), mm_C LR cX7_chanceOf 10 RX7 (some .long) 6 mm_eL 47 [some (.ref 0), some (.int x1), some (.int x2), some (.int x3), some (.long x4), none, some (.int x6), some (.long x7), none, some (.int x9)] [] M (fX7_chanceOf_L47 x1 x2 x3 x4 x6 M k87 n x7 x9) := by
  intro n
  induction n with
  | zero => intro x7 x9; exact mm_none
  | succ n ih =>
    intro x7 x9
    rw [fX7_chanceOf_L47]
    refine mm_iload (q := 49) dX7_chanceOf_47 rfl rfl ?_
    refine mm_aload_n (q := 50) dX7_chanceOf_49 rfl rfl rfl ?_
    refine mm_getI (q := 53) dX7_chanceOf_50 rfl lr_0 fd_X7_171 rfl ?_
    refine mm_icmp_ge (q := 56) (tgt := 87) dX7_chanceOf_53 rfl (by decide) (fun c6 => ?_) (fun c6 => ?_)
    · refine mm_drop (ls' := [some (.ref 0), some (.int x1), some (.int x2), some (.int x3), some (.long x4), none, some (.int x6), some (.long x7), none, none]) (mm_sub_at _ _ (And.intro rfl (And.intro rfl (And.intro rfl (And.intro rfl (And.intro rfl (And.intro rfl (And.intro rfl trivial)))))))) ?_
      exact hk87 _
    · refine mm_lload (q := 58) dX7_chanceOf_56 rfl rfl ?_
      refine mm_iload (q := 60) dX7_chanceOf_58 rfl rfl ?_
      refine mm_iload (q := 62) dX7_chanceOf_60 rfl rfl ?_
      refine mm_callST (as := [.int x6, .int x9]) (st := [.long x7]) (q := 65) (fX7_isIn_ok x6 x9 M) ms_X7_179 rfl (Nat.le_of_ble_eq_true rfl) (Nat.le_of_ble_eq_true rfl) rfl dX7_chanceOf_62 rfl ?_
      by_cases c7 : (fX7_isIn x6 x9) = 0
      · simp only [if_pos c7]
        refine mm_if_eq_t (tgt := 76) c7 dX7_chanceOf_65 (by decide) ?_
        refine mm_iload_n (q := 77) dX7_chanceOf_76 rfl rfl rfl ?_
        refine mm_i2l (q := 78) dX7_chanceOf_77 rfl ?_
        refine mm_lmul (q := 79) dX7_chanceOf_78 rfl ?_
        refine mm_lstore (q := 81) (ls' := [some (.ref 0), some (.int x1), some (.int x2), some (.int x3), some (.long x4), none, some (.int x6), some (.long (x7 * ((x1).toInt64))), none, some (.int x9)]) dX7_chanceOf_79 rfl rfl (Nat.le_of_ble_eq_true rfl) rfl ?_
        refine mm_iinc (q := 84) (ls' := [some (.ref 0), some (.int x1), some (.int x2), some (.int x3), some (.long x4), none, some (.int x6), some (.long (x7 * ((x1).toInt64))), none, some (.int (x9 + (1 : Int32)))]) dX7_chanceOf_81 rfl rfl (ii_1 _) rfl (Nat.le_of_ble_eq_true rfl) rfl ?_
        refine mm_goto (tgt := 47) dX7_chanceOf_84 (by decide) ?_
        exact ih _ _
      · simp only [if_neg c7]
        refine mm_if_eq_f (q := 68) (tgt := 76) c7 dX7_chanceOf_65 rfl (by decide) ?_
        refine mm_bipush (q := 70) dX7_chanceOf_68 rfl bp_16 ?_
        refine mm_iload_n (q := 71) dX7_chanceOf_70 rfl rfl rfl ?_
        refine mm_isub (q := 72) dX7_chanceOf_71 rfl ?_
        refine mm_i2l (q := 73) dX7_chanceOf_72 rfl ?_
        refine mm_goto (tgt := 78) dX7_chanceOf_73 (by decide) ?_
        refine mm_lmul (q := 79) dX7_chanceOf_78 rfl ?_
        refine mm_lstore (q := 81) (ls' := [some (.ref 0), some (.int x1), some (.int x2), some (.int x3), some (.long x4), none, some (.int x6), some (.long (x7 * (((16 : Int32) - x1).toInt64))), none, some (.int x9)]) dX7_chanceOf_79 rfl rfl (Nat.le_of_ble_eq_true rfl) rfl ?_
        refine mm_iinc (q := 84) (ls' := [some (.ref 0), some (.int x1), some (.int x2), some (.int x3), some (.long x4), none, some (.int x6), some (.long (x7 * (((16 : Int32) - x1).toInt64))), none, some (.int (x9 + (1 : Int32)))]) dX7_chanceOf_81 rfl rfl (ii_1 _) rfl (Nat.le_of_ble_eq_true rfl) rfl ?_
        refine mm_goto (tgt := 47) dX7_chanceOf_84 (by decide) ?_
        exact ih _ _
def fX7_chanceOf_L6 (x1 : Int32) (x2 : Int32) (x3 : Int32) (k100 : Int64 → mm_M → Option (Int64 × mm_M)) : Nat → Int64 → Int32 → mm_M → Option (Int64 × mm_M)
  | 0, _, _, _ => none
  | n + 1, x4, x6, M =>
    if ((1 : Int32) <<< ((M 0 13) &&& 31)) ≤ x6 then
      k100 x4 M
    else
      (mm_pf M 0 15 x6).bind fun M2 =>
      (fX7_runs M2).bind fun M3 =>
      (mm_rd M3 11 12 x2).bind fun b4 =>
      if b4 = (1 : Int32) then
        fX7_chanceOf_L47 x1 x2 x3 x4 x6 M3 (fun z8 =>
      fX7_chanceOf_L6 x1 x2 x3 k100 n (x4 + z8) (x6 + (1 : Int32)) M3) 1000 (1 : Int64) (0 : Int32)
      else
        fX7_chanceOf_L47 x1 x2 x3 x4 x6 M3 (fun z9 =>
      fX7_chanceOf_L6 x1 x2 x3 k100 n (x4 + z9) (x6 + (1 : Int32)) M3) 1000 (0 : Int64) (0 : Int32)
set_option maxRecDepth 100000 in
set_option maxHeartbeats 4000000 in
theorem fX7_chanceOf_L6_ok (x1 : Int32) (x2 : Int32) (x3 : Int32)  (k100 : Int64 → mm_M → Option (Int64 × mm_M)) (hk100 : ∀ (x4 : Int64) (M : mm_M), mm_C LR cX7_chanceOf 10 RX7 (some .long) 6 mm_eL 100 [some (.ref 0), none, none, some (.int x3), some (.long x4), none, none, none, none, none] [] M (k100 x4 M)) : ∀ (n : Nat) (x4 : Int64) (x6 : Int32) (M : mm_M), mm_C LR cX7_chanceOf 10 RX7 (some .long) 6 mm_eL 6 [some (.ref 0), some (.int x1), some (.int x2), some (.int x3), some (.long x4), none, some (.int x6), none, none, none] [] M (fX7_chanceOf_L6 x1 x2 x3 k100 n x4 x6 M) := by
  intro n
  induction n with
  | zero => intro x4 x6 M; exact mm_none
  | succ n ih =>
    intro x4 x6 M
    rw [fX7_chanceOf_L6]
    refine mm_iload (q := 8) dX7_chanceOf_6 rfl rfl ?_
    refine mm_iconst (q := 9) dX7_chanceOf_8 rfl ic_1 ?_
    refine mm_aload_n (q := 10) dX7_chanceOf_9 rfl rfl rfl ?_
    refine mm_getI (q := 13) dX7_chanceOf_10 rfl lr_0 fd_X7_171 rfl ?_
    refine mm_ishl (q := 14) dX7_chanceOf_13 rfl ?_
    refine mm_icmp_ge (q := 17) (tgt := 100) dX7_chanceOf_14 rfl (by decide) (fun c1 => ?_) (fun c1 => ?_)
    · refine mm_drop (ls' := [some (.ref 0), none, none, some (.int x3), some (.long x4), none, none, none, none, none]) (mm_sub_at _ _ (And.intro rfl (And.intro rfl (And.intro rfl trivial)))) ?_
      exact hk100 _ _
    · refine mm_aload_n (q := 18) dX7_chanceOf_17 rfl rfl rfl ?_
      refine mm_iload (q := 20) dX7_chanceOf_18 rfl rfl ?_
      refine mm_put (q := 23) dX7_chanceOf_20 rfl lr_0 fd_X7_176 ps_X7_15 rfl rfl rfl (fun M2 _ => ?_)
      refine mm_aload_n (q := 24) dX7_chanceOf_23 rfl rfl rfl ?_
      refine mm_callVV (as := []) (st := []) (q := 27) lr_0 rfl (fX7_runs_ok M2) ms_X7_218 rfl (Nat.le_of_ble_eq_true rfl) (Nat.le_of_ble_eq_true rfl) rfl dX7_chanceOf_24 rfl (fun M3 _ => ?_)
      refine mm_aload_n (q := 28) dX7_chanceOf_27 rfl rfl rfl ?_
      refine mm_getR (q := 31) (k1 := 11) dX7_chanceOf_28 rfl lr_0 fd_X7_40 rfl ?_
      refine mm_iload_n (q := 32) dX7_chanceOf_31 rfl rfl rfl ?_
      refine mm_iald (q := 33) dX7_chanceOf_32 rfl lr_11 (fun b4 _ => ?_)
      refine mm_iconst (q := 34) dX7_chanceOf_33 rfl ic_1 ?_
      refine mm_icmp_ne (q := 37) (tgt := 41) dX7_chanceOf_34 rfl (by decide) (fun c5 => ?_) (fun c5 => ?_)
      · refine mm_lconst (q := 38) dX7_chanceOf_37 rfl lk_1 ?_
        refine mm_goto (tgt := 42) dX7_chanceOf_38 (by decide) ?_
        refine mm_lstore (q := 44) (ls' := [some (.ref 0), some (.int x1), some (.int x2), some (.int x3), some (.long x4), none, some (.int x6), some (.long (1 : Int64)), none, none]) dX7_chanceOf_42 rfl rfl (Nat.le_of_ble_eq_true rfl) rfl ?_
        refine mm_iconst (q := 45) dX7_chanceOf_44 rfl ic_0 ?_
        refine mm_istore (q := 47) (ls' := [some (.ref 0), some (.int x1), some (.int x2), some (.int x3), some (.long x4), none, some (.int x6), some (.long (1 : Int64)), none, some (.int (0 : Int32))]) dX7_chanceOf_45 rfl rfl (Nat.le_of_ble_eq_true rfl) rfl ?_
        refine fX7_chanceOf_L47_ok x1 x2 x3 x4 x6 M3 _ (fun z8 => ?_) _ _ _
        refine mm_lload (q := 89) dX7_chanceOf_87 rfl rfl ?_
        refine mm_lload (q := 91) dX7_chanceOf_89 rfl rfl ?_
        refine mm_ladd (q := 92) dX7_chanceOf_91 rfl ?_
        refine mm_lstore (q := 94) (ls' := [some (.ref 0), some (.int x1), some (.int x2), some (.int x3), some (.long (x4 + z8)), none, some (.int x6), some (.long z8), none, none]) dX7_chanceOf_92 rfl rfl (Nat.le_of_ble_eq_true rfl) rfl ?_
        refine mm_iinc (q := 97) (ls' := [some (.ref 0), some (.int x1), some (.int x2), some (.int x3), some (.long (x4 + z8)), none, some (.int (x6 + (1 : Int32))), some (.long z8), none, none]) dX7_chanceOf_94 rfl rfl (ii_1 _) rfl (Nat.le_of_ble_eq_true rfl) rfl ?_
        refine mm_goto (tgt := 6) dX7_chanceOf_97 (by decide) ?_
        refine mm_drop (ls' := [some (.ref 0), some (.int x1), some (.int x2), some (.int x3), some (.long (x4 + z8)), none, some (.int (x6 + (1 : Int32))), none, none, none]) (mm_sub_at _ _ (And.intro rfl (And.intro rfl (And.intro rfl (And.intro rfl (And.intro rfl (And.intro rfl trivial))))))) ?_
        exact ih _ _ _
      · refine mm_lconst (q := 42) dX7_chanceOf_41 rfl lk_0 ?_
        refine mm_lstore (q := 44) (ls' := [some (.ref 0), some (.int x1), some (.int x2), some (.int x3), some (.long x4), none, some (.int x6), some (.long (0 : Int64)), none, none]) dX7_chanceOf_42 rfl rfl (Nat.le_of_ble_eq_true rfl) rfl ?_
        refine mm_iconst (q := 45) dX7_chanceOf_44 rfl ic_0 ?_
        refine mm_istore (q := 47) (ls' := [some (.ref 0), some (.int x1), some (.int x2), some (.int x3), some (.long x4), none, some (.int x6), some (.long (0 : Int64)), none, some (.int (0 : Int32))]) dX7_chanceOf_45 rfl rfl (Nat.le_of_ble_eq_true rfl) rfl ?_
        refine fX7_chanceOf_L47_ok x1 x2 x3 x4 x6 M3 _ (fun z9 => ?_) _ _ _
        refine mm_lload (q := 89) dX7_chanceOf_87 rfl rfl ?_
        refine mm_lload (q := 91) dX7_chanceOf_89 rfl rfl ?_
        refine mm_ladd (q := 92) dX7_chanceOf_91 rfl ?_
        refine mm_lstore (q := 94) (ls' := [some (.ref 0), some (.int x1), some (.int x2), some (.int x3), some (.long (x4 + z9)), none, some (.int x6), some (.long z9), none, none]) dX7_chanceOf_92 rfl rfl (Nat.le_of_ble_eq_true rfl) rfl ?_
        refine mm_iinc (q := 97) (ls' := [some (.ref 0), some (.int x1), some (.int x2), some (.int x3), some (.long (x4 + z9)), none, some (.int (x6 + (1 : Int32))), some (.long z9), none, none]) dX7_chanceOf_94 rfl rfl (ii_1 _) rfl (Nat.le_of_ble_eq_true rfl) rfl ?_
        refine mm_goto (tgt := 6) dX7_chanceOf_97 (by decide) ?_
        refine mm_drop (ls' := [some (.ref 0), some (.int x1), some (.int x2), some (.int x3), some (.long (x4 + z9)), none, some (.int (x6 + (1 : Int32))), none, none, none]) (mm_sub_at _ _ (And.intro rfl (And.intro rfl (And.intro rfl (And.intro rfl (And.intro rfl (And.intro rfl trivial))))))) ?_
        exact ih _ _ _
def fX7_chanceOf (x1 : Int32) (x2 : Int32) (x3 : Int32) (M : mm_M) : Option (Int64 × mm_M) :=
  fX7_chanceOf_L6 x1 x2 x3 (fun z10 M11 =>
      (mm_pf M11 0 15 (0 : Int32)).bind fun M12 =>
      (fX7_part z10 ((1 : Int64) <<< ((((4 : Int32) * (M12 0 13))).toInt64 &&& 63)) x3).bind fun b13 =>
      some (b13, M12)) 1000 (0 : Int64) (0 : Int32) M
set_option maxRecDepth 100000 in
set_option maxHeartbeats 4000000 in
theorem fX7_chanceOf_ok (x1 : Int32) (x2 : Int32) (x3 : Int32) (M : mm_M)  : mm_E LR yX7_chanceOf cX7_chanceOf 10 (some .long) 6 mm_eL [.ref 0, .int x1, .int x2, .int x3] M (fX7_chanceOf x1 x2 x3 M) := by
  refine mm_E.of (own := RX7) (ls := [some (.ref 0), some (.int x1), some (.int x2), some (.int x3), none, none, none, none, none, none]) (by decide) rfl rfl (Nat.le_of_ble_eq_true rfl) ?_
  unfold fX7_chanceOf
  refine mm_lconst (q := 1) dX7_chanceOf_0 rfl lk_0 ?_
  refine mm_lstore (q := 3) (ls' := [some (.ref 0), some (.int x1), some (.int x2), some (.int x3), some (.long (0 : Int64)), none, none, none, none, none]) dX7_chanceOf_1 rfl rfl (Nat.le_of_ble_eq_true rfl) rfl ?_
  refine mm_iconst (q := 4) dX7_chanceOf_3 rfl ic_0 ?_
  refine mm_istore (q := 6) (ls' := [some (.ref 0), some (.int x1), some (.int x2), some (.int x3), some (.long (0 : Int64)), none, some (.int (0 : Int32)), none, none, none]) dX7_chanceOf_4 rfl rfl (Nat.le_of_ble_eq_true rfl) rfl ?_
  refine fX7_chanceOf_L6_ok x1 x2 x3 _ (fun z10 M11 => ?_) _ _ _ _
  refine mm_aload_n (q := 101) dX7_chanceOf_100 rfl rfl rfl ?_
  refine mm_iconst (q := 102) dX7_chanceOf_101 rfl ic_0 ?_
  refine mm_put (q := 105) dX7_chanceOf_102 rfl lr_0 fd_X7_176 ps_X7_15 rfl rfl rfl (fun M12 _ => ?_)
  refine mm_lload (q := 107) dX7_chanceOf_105 rfl rfl ?_
  refine mm_lconst (q := 108) dX7_chanceOf_107 rfl lk_1 ?_
  refine mm_iconst (q := 109) dX7_chanceOf_108 rfl ic_4 ?_
  refine mm_aload_n (q := 110) dX7_chanceOf_109 rfl rfl rfl ?_
  refine mm_getI (q := 113) dX7_chanceOf_110 rfl lr_0 fd_X7_171 rfl ?_
  refine mm_imul (q := 114) dX7_chanceOf_113 rfl ?_
  refine mm_lshl (q := 115) dX7_chanceOf_114 rfl ?_
  refine mm_iload_n (q := 116) dX7_chanceOf_115 rfl rfl rfl ?_
  refine mm_callSQ (as := [.long z10, .long ((1 : Int64) <<< ((((4 : Int32) * (M12 0 13))).toInt64 &&& 63)), .int x3]) (st := []) (q := 119) (fX7_part_ok z10 ((1 : Int64) <<< ((((4 : Int32) * (M12 0 13))).toInt64 &&& 63)) x3 M12) ms_X7_301 rfl (Nat.le_of_ble_eq_true rfl) (Nat.le_of_ble_eq_true rfl) rfl dX7_chanceOf_116 rfl (fun b13 _ => ?_)
  exact mm_lret rfl dX7_chanceOf_119
def fX7_no (x0 : Int32)  : Int64 :=
  (-9223372036854775808 : Int64) - ((x0).toInt64)
set_option maxRecDepth 100000 in
set_option maxHeartbeats 4000000 in
theorem fX7_no_ok (x0 : Int32) (M : mm_M)  : mm_E LR yX7_no cX7_no 1 (some .long) 0 (mm_pL M) [.int x0] M (some (fX7_no x0)) := by
  refine mm_E.of (own := RX7) (ls := [some (.int x0)]) (by decide) rfl rfl (Nat.le_of_ble_eq_true rfl) ?_
  unfold fX7_no
  refine mm_ldc2 (q := 3) dX7_no_0 rfl cn_X7_74 ?_
  refine mm_iload_n (q := 4) dX7_no_3 rfl rfl rfl ?_
  refine mm_i2l (q := 5) dX7_no_4 rfl ?_
  refine mm_lsub (q := 6) dX7_no_5 rfl ?_
  exact mm_lret rfl dX7_no_6
def fX7_chance (x1 : Int32) (x2 : Int32) (x3 : Int32) (M : mm_M) : Option (Int64 × mm_M) :=
  (fX7_find M).bind fun M1 =>
  if (fX7_in ((x1).toInt64) (0 : Int64) (16 : Int64)) = 0 then
    some (fX7_no (-2 : Int32), M1)
  else
    (fX7_isWord x2 M1).bind fun b3 =>
    if b3 = 0 then
      some (fX7_no (-2 : Int32), M1)
    else
      (fX7_isTwo x3).bind fun b5 =>
      if b5 = 0 then
        some (fX7_no (-2 : Int32), M1)
      else
        (fX7_chanceOf x1 x2 x3 M1).bind fun b7 =>
        some (b7.1, b7.2)
set_option maxRecDepth 100000 in
set_option maxHeartbeats 4000000 in
theorem fX7_chance_ok (x1 : Int32) (x2 : Int32) (x3 : Int32) (M : mm_M)  : mm_E LR yX7_chance cX7_chance 4 (some .long) 7 mm_eL [.ref 0, .int x1, .int x2, .int x3] M (fX7_chance x1 x2 x3 M) := by
  refine mm_E.of (own := RX7) (ls := [some (.ref 0), some (.int x1), some (.int x2), some (.int x3)]) (by decide) rfl rfl (Nat.le_of_ble_eq_true rfl) ?_
  unfold fX7_chance
  refine mm_aload_n (q := 1) dX7_chance_0 rfl rfl rfl ?_
  refine mm_callVV (as := []) (st := []) (q := 4) lr_0 rfl (fX7_find_ok M) ms_X7_221 rfl (Nat.le_of_ble_eq_true rfl) (Nat.le_of_ble_eq_true rfl) rfl dX7_chance_1 rfl (fun M1 _ => ?_)
  refine mm_iload_n (q := 5) dX7_chance_4 rfl rfl rfl ?_
  refine mm_i2l (q := 6) dX7_chance_5 rfl ?_
  refine mm_lconst (q := 7) dX7_chance_6 rfl lk_0 ?_
  refine mm_ldc2 (q := 10) dX7_chance_7 rfl cn_X7_305 ?_
  refine mm_callST (as := [.long ((x1).toInt64), .long (0 : Int64), .long (16 : Int64)]) (st := []) (q := 13) (fX7_in_ok ((x1).toInt64) (0 : Int64) (16 : Int64) M1) ms_X7_76 rfl (Nat.le_of_ble_eq_true rfl) (Nat.le_of_ble_eq_true rfl) rfl dX7_chance_10 rfl ?_
  refine mm_if_eq (q := 16) (tgt := 41) dX7_chance_13 rfl (by decide) (fun c2 => ?_) (fun c2 => ?_)
  · refine mm_bipush (q := 43) dX7_chance_41 rfl bp_m2 ?_
    refine mm_callSU (as := [.int (-2 : Int32)]) (st := []) (q := 46) (fX7_no_ok (-2 : Int32) M1) ms_X7_311 rfl (Nat.le_of_ble_eq_true rfl) (Nat.le_of_ble_eq_true rfl) rfl dX7_chance_43 rfl ?_
    exact mm_lret rfl dX7_chance_46
  · refine mm_aload_n (q := 17) dX7_chance_16 rfl rfl rfl ?_
    refine mm_iload_n (q := 18) dX7_chance_17 rfl rfl rfl ?_
    refine mm_callVP (as := [.int x2]) (st := []) (q := 21) lr_0 rfl (fX7_isWord_ok x2 M1) ms_X7_158 rfl (Nat.le_of_ble_eq_true rfl) (Nat.le_of_ble_eq_true rfl) rfl dX7_chance_18 rfl (fun b3 _ => ?_)
    refine mm_if_eq (q := 24) (tgt := 41) dX7_chance_21 rfl (by decide) (fun c4 => ?_) (fun c4 => ?_)
    · refine mm_bipush (q := 43) dX7_chance_41 rfl bp_m2 ?_
      refine mm_callSU (as := [.int (-2 : Int32)]) (st := []) (q := 46) (fX7_no_ok (-2 : Int32) M1) ms_X7_311 rfl (Nat.le_of_ble_eq_true rfl) (Nat.le_of_ble_eq_true rfl) rfl dX7_chance_43 rfl ?_
      exact mm_lret rfl dX7_chance_46
    · refine mm_iload_n (q := 25) dX7_chance_24 rfl rfl rfl ?_
      refine mm_callSP (as := [.int x3]) (st := []) (q := 28) (fX7_isTwo_ok x3 M1) ms_X7_155 rfl (Nat.le_of_ble_eq_true rfl) (Nat.le_of_ble_eq_true rfl) rfl dX7_chance_25 rfl (fun b5 _ => ?_)
      refine mm_if_eq (q := 31) (tgt := 41) dX7_chance_28 rfl (by decide) (fun c6 => ?_) (fun c6 => ?_)
      · refine mm_bipush (q := 43) dX7_chance_41 rfl bp_m2 ?_
        refine mm_callSU (as := [.int (-2 : Int32)]) (st := []) (q := 46) (fX7_no_ok (-2 : Int32) M1) ms_X7_311 rfl (Nat.le_of_ble_eq_true rfl) (Nat.le_of_ble_eq_true rfl) rfl dX7_chance_43 rfl ?_
        exact mm_lret rfl dX7_chance_46
      · refine mm_aload_n (q := 32) dX7_chance_31 rfl rfl rfl ?_
        refine mm_iload_n (q := 33) dX7_chance_32 rfl rfl rfl ?_
        refine mm_iload_n (q := 34) dX7_chance_33 rfl rfl rfl ?_
        refine mm_iload_n (q := 35) dX7_chance_34 rfl rfl rfl ?_
        refine mm_callVL (as := [.int x1, .int x2, .int x3]) (st := []) (q := 38) lr_0 rfl (fX7_chanceOf_ok x1 x2 x3 M1) ms_X7_307 rfl (Nat.le_of_ble_eq_true rfl) (Nat.le_of_ble_eq_true rfl) rfl dX7_chance_35 rfl (fun b7 _ => ?_)
        refine mm_goto (tgt := 46) dX7_chance_38 (by decide) ?_
        exact mm_lret rfl dX7_chance_46
def fX7_isLost_L5 (x1 : Int32) (x2 : Int32) (M : mm_M)  : Nat → Int32 → Int32 → Option (Int32)
  | 0, _, _ => none
  | n + 1, x3, x4 =>
    if (M 0 9) ≤ x4 then
      ((mm_zb x3).bind fun b2 =>
      some b2)
    else
      if x3 = 0 then
        ((mm_rd M 15 288 (((12 : Int32) * x1) + x4)).bind fun b4 =>
        if b4 = (3 : Int32) then
          ((mm_rd M 8 36 (((3 : Int32) * x4) + (1 : Int32))).bind fun b6 =>
          fX7_isLost_L5 x1 x2 M n (if b6 = x2 then (1 : Int32) else (0 : Int32)) (x4 + (1 : Int32)))
        else
          fX7_isLost_L5 x1 x2 M n (0 : Int32) (x4 + (1 : Int32)))
      else
        fX7_isLost_L5 x1 x2 M n (1 : Int32) (x4 + (1 : Int32))
set_option maxRecDepth 100000 in
set_option maxHeartbeats 4000000 in
theorem fX7_isLost_L5_ok (x1 : Int32) (x2 : Int32) (M : mm_M)    : ∀ (n : Nat) (x3 : Int32) (x4 : Int32), mm_C LR cX7_isLost 5 RX7 (some .boolean) 0 (mm_pI M) 5 [some (.ref 0), some (.int x1), some (.int x2), some (.int x3), some (.int x4)] [] M (fX7_isLost_L5 x1 x2 M n x3 x4) := by
  intro n
  induction n with
  | zero => intro x3 x4; exact mm_none
  | succ n ih =>
    intro x3 x4
    rw [fX7_isLost_L5]
    refine mm_iload (q := 7) dX7_isLost_5 rfl rfl ?_
    refine mm_aload_n (q := 8) dX7_isLost_7 rfl rfl rfl ?_
    refine mm_getI (q := 11) dX7_isLost_8 rfl lr_0 fd_X7_125 rfl ?_
    refine mm_icmp_ge (q := 14) (tgt := 61) dX7_isLost_11 rfl (by decide) (fun c1 => ?_) (fun c1 => ?_)
    · refine mm_iload_n (q := 62) dX7_isLost_61 rfl rfl rfl ?_
      exact mm_zretB (fun _ => rfl) (fun _ => rfl) dX7_isLost_62
    · refine mm_iload_n (q := 15) dX7_isLost_14 rfl rfl rfl ?_
      refine mm_if_ne (q := 18) (tgt := 49) dX7_isLost_15 rfl (by decide) (fun c3 => ?_) (fun c3 => ?_)
      · refine mm_aload_n (q := 19) dX7_isLost_18 rfl rfl rfl ?_
        refine mm_getR (q := 22) (k1 := 15) dX7_isLost_19 rfl lr_0 fd_X7_52 rfl ?_
        refine mm_bipush (q := 24) dX7_isLost_22 rfl bp_12 ?_
        refine mm_iload_n (q := 25) dX7_isLost_24 rfl rfl rfl ?_
        refine mm_imul (q := 26) dX7_isLost_25 rfl ?_
        refine mm_iload (q := 28) dX7_isLost_26 rfl rfl ?_
        refine mm_iadd (q := 29) dX7_isLost_28 rfl ?_
        refine mm_iald (q := 30) dX7_isLost_29 rfl lr_15 (fun b4 _ => ?_)
        refine mm_iconst (q := 31) dX7_isLost_30 rfl ic_3 ?_
        refine mm_icmp_ne (q := 34) (tgt := 53) dX7_isLost_31 rfl (by decide) (fun c5 => ?_) (fun c5 => ?_)
        · refine mm_aload_n (q := 35) dX7_isLost_34 rfl rfl rfl ?_
          refine mm_getR (q := 38) (k1 := 8) dX7_isLost_35 rfl lr_0 fd_X7_31 rfl ?_
          refine mm_iconst (q := 39) dX7_isLost_38 rfl ic_3 ?_
          refine mm_iload (q := 41) dX7_isLost_39 rfl rfl ?_
          refine mm_imul (q := 42) dX7_isLost_41 rfl ?_
          refine mm_iconst (q := 43) dX7_isLost_42 rfl ic_1 ?_
          refine mm_iadd (q := 44) dX7_isLost_43 rfl ?_
          refine mm_iald (q := 45) dX7_isLost_44 rfl lr_8 (fun b6 _ => ?_)
          refine mm_iload_n (q := 46) dX7_isLost_45 rfl rfl rfl ?_
          by_cases c7 : b6 = x2
          · simp only [if_pos c7]
            refine mm_icmp_ne_t (q := 49) (tgt := 53) c7 dX7_isLost_46 rfl (by decide) ?_
            refine mm_iconst (q := 50) dX7_isLost_49 rfl ic_1 ?_
            refine mm_goto (tgt := 54) dX7_isLost_50 (by decide) ?_
            refine mm_istore_n (q := 55) (ls' := [some (.ref 0), some (.int x1), some (.int x2), some (.int (1 : Int32)), some (.int x4)]) dX7_isLost_54 rfl rfl rfl (Nat.le_of_ble_eq_true rfl) rfl ?_
            refine mm_iinc (q := 58) (ls' := [some (.ref 0), some (.int x1), some (.int x2), some (.int (1 : Int32)), some (.int (x4 + (1 : Int32)))]) dX7_isLost_55 rfl rfl (ii_1 _) rfl (Nat.le_of_ble_eq_true rfl) rfl ?_
            refine mm_goto (tgt := 5) dX7_isLost_58 (by decide) ?_
            exact ih _ _
          · simp only [if_neg c7]
            refine mm_icmp_ne_f (tgt := 53) c7 dX7_isLost_46 (by decide) ?_
            refine mm_iconst (q := 54) dX7_isLost_53 rfl ic_0 ?_
            refine mm_istore_n (q := 55) (ls' := [some (.ref 0), some (.int x1), some (.int x2), some (.int (0 : Int32)), some (.int x4)]) dX7_isLost_54 rfl rfl rfl (Nat.le_of_ble_eq_true rfl) rfl ?_
            refine mm_iinc (q := 58) (ls' := [some (.ref 0), some (.int x1), some (.int x2), some (.int (0 : Int32)), some (.int (x4 + (1 : Int32)))]) dX7_isLost_55 rfl rfl (ii_1 _) rfl (Nat.le_of_ble_eq_true rfl) rfl ?_
            refine mm_goto (tgt := 5) dX7_isLost_58 (by decide) ?_
            exact ih _ _
        · refine mm_iconst (q := 54) dX7_isLost_53 rfl ic_0 ?_
          refine mm_istore_n (q := 55) (ls' := [some (.ref 0), some (.int x1), some (.int x2), some (.int (0 : Int32)), some (.int x4)]) dX7_isLost_54 rfl rfl rfl (Nat.le_of_ble_eq_true rfl) rfl ?_
          refine mm_iinc (q := 58) (ls' := [some (.ref 0), some (.int x1), some (.int x2), some (.int (0 : Int32)), some (.int (x4 + (1 : Int32)))]) dX7_isLost_55 rfl rfl (ii_1 _) rfl (Nat.le_of_ble_eq_true rfl) rfl ?_
          refine mm_goto (tgt := 5) dX7_isLost_58 (by decide) ?_
          exact ih _ _
      · refine mm_iconst (q := 50) dX7_isLost_49 rfl ic_1 ?_
        refine mm_goto (tgt := 54) dX7_isLost_50 (by decide) ?_
        refine mm_istore_n (q := 55) (ls' := [some (.ref 0), some (.int x1), some (.int x2), some (.int (1 : Int32)), some (.int x4)]) dX7_isLost_54 rfl rfl rfl (Nat.le_of_ble_eq_true rfl) rfl ?_
        refine mm_iinc (q := 58) (ls' := [some (.ref 0), some (.int x1), some (.int x2), some (.int (1 : Int32)), some (.int (x4 + (1 : Int32)))]) dX7_isLost_55 rfl rfl (ii_1 _) rfl (Nat.le_of_ble_eq_true rfl) rfl ?_
        refine mm_goto (tgt := 5) dX7_isLost_58 (by decide) ?_
        exact ih _ _
def fX7_isLost (x1 : Int32) (x2 : Int32) (M : mm_M) : Option (Int32) :=
  fX7_isLost_L5 x1 x2 M 1000 (0 : Int32) (0 : Int32)
set_option maxRecDepth 100000 in
set_option maxHeartbeats 4000000 in
theorem fX7_isLost_ok (x1 : Int32) (x2 : Int32) (M : mm_M)  : mm_E LR yX7_isLost cX7_isLost 5 (some .boolean) 0 (mm_pI M) [.ref 0, .int x1, .int x2] M (fX7_isLost x1 x2 M) := by
  refine mm_E.of (own := RX7) (ls := [some (.ref 0), some (.int x1), some (.int x2), none, none]) (by decide) rfl rfl (Nat.le_of_ble_eq_true rfl) ?_
  unfold fX7_isLost
  refine mm_iconst (q := 1) dX7_isLost_0 rfl ic_0 ?_
  refine mm_istore_n (q := 2) (ls' := [some (.ref 0), some (.int x1), some (.int x2), some (.int (0 : Int32)), none]) dX7_isLost_1 rfl rfl rfl (Nat.le_of_ble_eq_true rfl) rfl ?_
  refine mm_iconst (q := 3) dX7_isLost_2 rfl ic_0 ?_
  refine mm_istore (q := 5) (ls' := [some (.ref 0), some (.int x1), some (.int x2), some (.int (0 : Int32)), some (.int (0 : Int32))]) dX7_isLost_3 rfl rfl (Nat.le_of_ble_eq_true rfl) rfl ?_
  exact fX7_isLost_L5_ok x1 x2 M _ _ _
def fX7_clearOf_L5 (x1 : Int32) (M : mm_M)  : Nat → Int32 → Int32 → Option (Int32)
  | 0, _, _ => none
  | n + 1, x2, x3 =>
    if x3 < 0 then
      some x2
    else
      (fX7_openOf x3 x1 (1 : Int32) M).bind fun b2 =>
      if b2 = 0 then
        ((fX7_isLost x3 x1 M).bind fun b4 =>
        fX7_clearOf_L5 x1 M n (if b4 = 0 then x3 else x2) (x3 + (-1 : Int32)))
      else
        fX7_clearOf_L5 x1 M n x2 (x3 + (-1 : Int32))
set_option maxRecDepth 100000 in
set_option maxHeartbeats 4000000 in
theorem fX7_clearOf_L5_ok (x1 : Int32) (M : mm_M)    : ∀ (n : Nat) (x2 : Int32) (x3 : Int32), mm_C LR cX7_clearOf 4 RX7 (some .int) 1 (mm_pI M) 5 [some (.ref 0), some (.int x1), some (.int x2), some (.int x3)] [] M (fX7_clearOf_L5 x1 M n x2 x3) := by
  intro n
  induction n with
  | zero => intro x2 x3; exact mm_none
  | succ n ih =>
    intro x2 x3
    rw [fX7_clearOf_L5]
    refine mm_iload_n (q := 6) dX7_clearOf_5 rfl rfl rfl ?_
    refine mm_if_lt (q := 9) (tgt := 40) dX7_clearOf_6 rfl (by decide) (fun c1 => ?_) (fun c1 => ?_)
    · refine mm_iload_n (q := 41) dX7_clearOf_40 rfl rfl rfl ?_
      exact mm_iret rfl dX7_clearOf_41
    · refine mm_aload_n (q := 10) dX7_clearOf_9 rfl rfl rfl ?_
      refine mm_iload_n (q := 11) dX7_clearOf_10 rfl rfl rfl ?_
      refine mm_iload_n (q := 12) dX7_clearOf_11 rfl rfl rfl ?_
      refine mm_iconst (q := 13) dX7_clearOf_12 rfl ic_1 ?_
      refine mm_callVP (as := [.int x3, .int x1, .int (1 : Int32)]) (st := []) (q := 16) lr_0 rfl (fX7_openOf_ok x3 x1 (1 : Int32) M) ms_X7_227 rfl (Nat.le_of_ble_eq_true rfl) (Nat.le_of_ble_eq_true rfl) rfl dX7_clearOf_13 rfl (fun b2 _ => ?_)
      refine mm_if_ne (q := 19) (tgt := 32) dX7_clearOf_16 rfl (by decide) (fun c3 => ?_) (fun c3 => ?_)
      · refine mm_aload_n (q := 20) dX7_clearOf_19 rfl rfl rfl ?_
        refine mm_iload_n (q := 21) dX7_clearOf_20 rfl rfl rfl ?_
        refine mm_iload_n (q := 22) dX7_clearOf_21 rfl rfl rfl ?_
        refine mm_callVP (as := [.int x3, .int x1]) (st := []) (q := 25) lr_0 rfl (fX7_isLost_ok x3 x1 M) ms_X7_233 rfl (Nat.le_of_ble_eq_true rfl) (Nat.le_of_ble_eq_true rfl) rfl dX7_clearOf_22 rfl (fun b4 _ => ?_)
        by_cases c5 : b4 = 0
        · simp only [if_pos c5]
          refine mm_if_ne_t (q := 28) (tgt := 32) c5 dX7_clearOf_25 rfl (by decide) ?_
          refine mm_iload_n (q := 29) dX7_clearOf_28 rfl rfl rfl ?_
          refine mm_goto (tgt := 33) dX7_clearOf_29 (by decide) ?_
          refine mm_istore_n (q := 34) (ls' := [some (.ref 0), some (.int x1), some (.int x3), some (.int x3)]) dX7_clearOf_33 rfl rfl rfl (Nat.le_of_ble_eq_true rfl) rfl ?_
          refine mm_iinc (q := 37) (ls' := [some (.ref 0), some (.int x1), some (.int x3), some (.int (x3 + (-1 : Int32)))]) dX7_clearOf_34 rfl rfl (ii_m1 _) rfl (Nat.le_of_ble_eq_true rfl) rfl ?_
          refine mm_goto (tgt := 5) dX7_clearOf_37 (by decide) ?_
          exact ih _ _
        · simp only [if_neg c5]
          refine mm_if_ne_f (tgt := 32) c5 dX7_clearOf_25 (by decide) ?_
          refine mm_iload_n (q := 33) dX7_clearOf_32 rfl rfl rfl ?_
          refine mm_istore_n (q := 34) (ls' := [some (.ref 0), some (.int x1), some (.int x2), some (.int x3)]) dX7_clearOf_33 rfl rfl rfl (Nat.le_of_ble_eq_true rfl) rfl ?_
          refine mm_iinc (q := 37) (ls' := [some (.ref 0), some (.int x1), some (.int x2), some (.int (x3 + (-1 : Int32)))]) dX7_clearOf_34 rfl rfl (ii_m1 _) rfl (Nat.le_of_ble_eq_true rfl) rfl ?_
          refine mm_goto (tgt := 5) dX7_clearOf_37 (by decide) ?_
          exact ih _ _
      · refine mm_iload_n (q := 33) dX7_clearOf_32 rfl rfl rfl ?_
        refine mm_istore_n (q := 34) (ls' := [some (.ref 0), some (.int x1), some (.int x2), some (.int x3)]) dX7_clearOf_33 rfl rfl rfl (Nat.le_of_ble_eq_true rfl) rfl ?_
        refine mm_iinc (q := 37) (ls' := [some (.ref 0), some (.int x1), some (.int x2), some (.int (x3 + (-1 : Int32)))]) dX7_clearOf_34 rfl rfl (ii_m1 _) rfl (Nat.le_of_ble_eq_true rfl) rfl ?_
        refine mm_goto (tgt := 5) dX7_clearOf_37 (by decide) ?_
        exact ih _ _
def fX7_clearOf (x1 : Int32) (M : mm_M) : Option (Int32) :=
  fX7_clearOf_L5 x1 M 1000 (-1 : Int32) (23 : Int32)
set_option maxRecDepth 100000 in
set_option maxHeartbeats 4000000 in
theorem fX7_clearOf_ok (x1 : Int32) (M : mm_M)  : mm_E LR yX7_clearOf cX7_clearOf 4 (some .int) 1 (mm_pI M) [.ref 0, .int x1] M (fX7_clearOf x1 M) := by
  refine mm_E.of (own := RX7) (ls := [some (.ref 0), some (.int x1), none, none]) (by decide) rfl rfl (Nat.le_of_ble_eq_true rfl) ?_
  unfold fX7_clearOf
  refine mm_iconst (q := 1) dX7_clearOf_0 rfl ic_m1 ?_
  refine mm_istore_n (q := 2) (ls' := [some (.ref 0), some (.int x1), some (.int (-1 : Int32)), none]) dX7_clearOf_1 rfl rfl rfl (Nat.le_of_ble_eq_true rfl) rfl ?_
  refine mm_bipush (q := 4) dX7_clearOf_2 rfl bp_23 ?_
  refine mm_istore_n (q := 5) (ls' := [some (.ref 0), some (.int x1), some (.int (-1 : Int32)), some (.int (23 : Int32))]) dX7_clearOf_4 rfl rfl rfl (Nat.le_of_ble_eq_true rfl) rfl ?_
  exact fX7_clearOf_L5_ok x1 M _ _ _
def fX7_clear (x1 : Int32) (M : mm_M) : Option (Int32 × mm_M) :=
  (fX7_find M).bind fun M1 =>
  (fX7_isPerson x1 M1).bind fun b2 =>
  if b2 = 0 then
    some ((-2 : Int32), M1)
  else
    (fX7_clearOf x1 M1).bind fun b4 =>
    some (b4, M1)
set_option maxRecDepth 100000 in
set_option maxHeartbeats 4000000 in
theorem fX7_clear_ok (x1 : Int32) (M : mm_M)  : mm_E LR yX7_clear cX7_clear 2 (some .int) 7 mm_eI [.ref 0, .int x1] M (fX7_clear x1 M) := by
  refine mm_E.of (own := RX7) (ls := [some (.ref 0), some (.int x1)]) (by decide) rfl rfl (Nat.le_of_ble_eq_true rfl) ?_
  unfold fX7_clear
  refine mm_aload_n (q := 1) dX7_clear_0 rfl rfl rfl ?_
  refine mm_callVV (as := []) (st := []) (q := 4) lr_0 rfl (fX7_find_ok M) ms_X7_221 rfl (Nat.le_of_ble_eq_true rfl) (Nat.le_of_ble_eq_true rfl) rfl dX7_clear_1 rfl (fun M1 _ => ?_)
  refine mm_aload_n (q := 5) dX7_clear_4 rfl rfl rfl ?_
  refine mm_iload_n (q := 6) dX7_clear_5 rfl rfl rfl ?_
  refine mm_callVP (as := [.int x1]) (st := []) (q := 9) lr_0 rfl (fX7_isPerson_ok x1 M1) ms_X7_152 rfl (Nat.le_of_ble_eq_true rfl) (Nat.le_of_ble_eq_true rfl) rfl dX7_clear_6 rfl (fun b2 _ => ?_)
  refine mm_if_eq (q := 12) (tgt := 20) dX7_clear_9 rfl (by decide) (fun c3 => ?_) (fun c3 => ?_)
  · refine mm_bipush (q := 22) dX7_clear_20 rfl bp_m2 ?_
    exact mm_iret rfl dX7_clear_22
  · refine mm_aload_n (q := 13) dX7_clear_12 rfl rfl rfl ?_
    refine mm_iload_n (q := 14) dX7_clear_13 rfl rfl rfl ?_
    refine mm_callVP (as := [.int x1]) (st := []) (q := 17) lr_0 rfl (fX7_clearOf_ok x1 M1) ms_X7_236 rfl (Nat.le_of_ble_eq_true rfl) (Nat.le_of_ble_eq_true rfl) rfl dX7_clear_14 rfl (fun b4 _ => ?_)
    refine mm_goto (tgt := 22) dX7_clear_17 (by decide) ?_
    exact mm_iret rfl dX7_clear_22
def fX7_isSheet (x0 : Int32)  : Option (Int32) :=
  (mm_zb (fX7_in ((x0).toInt64) (0 : Int64) (3 : Int64))).bind fun b1 =>
  some b1
set_option maxRecDepth 100000 in
set_option maxHeartbeats 4000000 in
theorem fX7_isSheet_ok (x0 : Int32) (M : mm_M)  : mm_E LR yX7_isSheet cX7_isSheet 1 (some .boolean) 1 (mm_pI M) [.int x0] M (fX7_isSheet x0) := by
  refine mm_E.of (own := RX7) (ls := [some (.int x0)]) (by decide) rfl rfl (Nat.le_of_ble_eq_true rfl) ?_
  unfold fX7_isSheet
  refine mm_iload_n (q := 1) dX7_isSheet_0 rfl rfl rfl ?_
  refine mm_i2l (q := 2) dX7_isSheet_1 rfl ?_
  refine mm_lconst (q := 3) dX7_isSheet_2 rfl lk_0 ?_
  refine mm_ldc2 (q := 6) dX7_isSheet_3 rfl cn_X7_83 ?_
  refine mm_callST (as := [.long ((x0).toInt64), .long (0 : Int64), .long (3 : Int64)]) (st := []) (q := 9) (fX7_in_ok ((x0).toInt64) (0 : Int64) (3 : Int64) M) ms_X7_76 rfl (Nat.le_of_ble_eq_true rfl) (Nat.le_of_ble_eq_true rfl) rfl dX7_isSheet_6 rfl ?_
  exact mm_zretB (fun _ => rfl) (fun _ => rfl) dX7_isSheet_9
def fX7_finds (x1 : Int32) (M : mm_M) : Option (Int32 × mm_M) :=
  (mm_pf M 0 4 x1).bind fun M1 =>
  some ((-10 : Int32) - x1, M1)
set_option maxRecDepth 100000 in
set_option maxHeartbeats 4000000 in
theorem fX7_finds_ok (x1 : Int32) (M : mm_M)  : mm_E LR yX7_finds cX7_finds 2 (some .int) 0 mm_eI [.ref 0, .int x1] M (fX7_finds x1 M) := by
  refine mm_E.of (own := RX7) (ls := [some (.ref 0), some (.int x1)]) (by decide) rfl rfl (Nat.le_of_ble_eq_true rfl) ?_
  unfold fX7_finds
  refine mm_aload_n (q := 1) dX7_finds_0 rfl rfl rfl ?_
  refine mm_iload_n (q := 2) dX7_finds_1 rfl rfl rfl ?_
  refine mm_put (q := 5) dX7_finds_2 rfl lr_0 fd_X7_80 ps_X7_4 rfl rfl rfl (fun M1 _ => ?_)
  refine mm_bipush (q := 7) dX7_finds_5 rfl bp_m10 ?_
  refine mm_iload_n (q := 8) dX7_finds_7 rfl rfl rfl ?_
  refine mm_isub (q := 9) dX7_finds_8 rfl ?_
  exact mm_iret rfl dX7_finds_9
def fX7_copy_L120 (x1 : Int32) (x2 : Int32) (x3 : Int32) (x4 : Int32) (x5 : Int32) (k154 : mm_M → Option (Int32 × mm_M)) : Nat → Int32 → mm_M → Option (Int32 × mm_M)
  | 0, _, _ => none
  | n + 1, x6, M =>
    if x5 ≤ x6 then
      k154 M
    else
      (mm_rd M 3 240 ((((60 : Int32) * x1) + x2) + x6)).bind fun b25 =>
      (mm_wa M 4 60 x6 b25).bind fun M26 =>
      fX7_copy_L120 x1 x2 x3 x4 x5 k154 n (x6 + (1 : Int32)) M26
set_option maxRecDepth 100000 in
set_option maxHeartbeats 4000000 in
theorem fX7_copy_L120_ok (x1 : Int32) (x2 : Int32) (x3 : Int32) (x4 : Int32) (x5 : Int32)  (k154 : mm_M → Option (Int32 × mm_M)) (hk154 : ∀  (M : mm_M), mm_C LR cX7_copy 7 RX7 (some .int) 2 mm_eI 154 [some (.ref 0), none, none, some (.int x3), some (.int x4), some (.int x5), none] [] M (k154 M)) : ∀ (n : Nat) (x6 : Int32) (M : mm_M), mm_C LR cX7_copy 7 RX7 (some .int) 2 mm_eI 120 [some (.ref 0), some (.int x1), some (.int x2), some (.int x3), some (.int x4), some (.int x5), some (.int x6)] [] M (fX7_copy_L120 x1 x2 x3 x4 x5 k154 n x6 M) := by
  intro n
  induction n with
  | zero => intro x6 M; exact mm_none
  | succ n ih =>
    intro x6 M
    rw [fX7_copy_L120]
    refine mm_iload (q := 122) dX7_copy_120 rfl rfl ?_
    refine mm_iload (q := 124) dX7_copy_122 rfl rfl ?_
    refine mm_icmp_ge (q := 127) (tgt := 154) dX7_copy_124 rfl (by decide) (fun c24 => ?_) (fun c24 => ?_)
    · refine mm_drop (ls' := [some (.ref 0), none, none, some (.int x3), some (.int x4), some (.int x5), none]) (mm_sub_at _ _ (And.intro rfl (And.intro rfl (And.intro rfl (And.intro rfl trivial))))) ?_
      exact hk154  _
    · refine mm_aload_n (q := 128) dX7_copy_127 rfl rfl rfl ?_
      refine mm_getR (q := 131) (k1 := 4) dX7_copy_128 rfl lr_0 fd_X7_19 rfl ?_
      refine mm_iload (q := 133) dX7_copy_131 rfl rfl ?_
      refine mm_aload_n (q := 134) dX7_copy_133 rfl rfl rfl ?_
      refine mm_getR (q := 137) (k1 := 3) dX7_copy_134 rfl lr_0 fd_X7_16 rfl ?_
      refine mm_bipush (q := 139) dX7_copy_137 rfl bp_60 ?_
      refine mm_iload_n (q := 140) dX7_copy_139 rfl rfl rfl ?_
      refine mm_imul (q := 141) dX7_copy_140 rfl ?_
      refine mm_iload_n (q := 142) dX7_copy_141 rfl rfl rfl ?_
      refine mm_iadd (q := 143) dX7_copy_142 rfl ?_
      refine mm_iload (q := 145) dX7_copy_143 rfl rfl ?_
      refine mm_iadd (q := 146) dX7_copy_145 rfl ?_
      refine mm_iald (q := 147) dX7_copy_146 rfl lr_3 (fun b25 _ => ?_)
      refine mm_iast (q := 148) dX7_copy_147 rfl lr_4 (fun M26 _ => ?_)
      refine mm_iinc (q := 151) (ls' := [some (.ref 0), some (.int x1), some (.int x2), some (.int x3), some (.int x4), some (.int x5), some (.int (x6 + (1 : Int32)))]) dX7_copy_148 rfl rfl (ii_1 _) rfl (Nat.le_of_ble_eq_true rfl) rfl ?_
      refine mm_goto (tgt := 120) dX7_copy_151 (by decide) ?_
      exact ih _ _
def fX7_copy_L157 (x3 : Int32) (x4 : Int32) (x5 : Int32)  : Nat → Int32 → mm_M → Option (Int32 × mm_M)
  | 0, _, _ => none
  | n + 1, x6, M =>
    if x5 ≤ x6 then
      some ((1 : Int32), M)
    else
      (mm_rd M 4 60 x6).bind fun b29 =>
      (mm_wa M 3 240 ((((60 : Int32) * x3) + x4) + x6) b29).bind fun M30 =>
      fX7_copy_L157 x3 x4 x5 n (x6 + (1 : Int32)) M30
set_option maxRecDepth 100000 in
set_option maxHeartbeats 4000000 in
theorem fX7_copy_L157_ok (x3 : Int32) (x4 : Int32) (x5 : Int32)    : ∀ (n : Nat) (x6 : Int32) (M : mm_M), mm_C LR cX7_copy 7 RX7 (some .int) 2 mm_eI 157 [some (.ref 0), none, none, some (.int x3), some (.int x4), some (.int x5), some (.int x6)] [] M (fX7_copy_L157 x3 x4 x5 n x6 M) := by
  intro n
  induction n with
  | zero => intro x6 M; exact mm_none
  | succ n ih =>
    intro x6 M
    rw [fX7_copy_L157]
    refine mm_iload (q := 159) dX7_copy_157 rfl rfl ?_
    refine mm_iload (q := 161) dX7_copy_159 rfl rfl ?_
    refine mm_icmp_ge (q := 164) (tgt := 192) dX7_copy_161 rfl (by decide) (fun c28 => ?_) (fun c28 => ?_)
    · refine mm_iconst (q := 193) dX7_copy_192 rfl ic_1 ?_
      exact mm_iret rfl dX7_copy_193
    · refine mm_aload_n (q := 165) dX7_copy_164 rfl rfl rfl ?_
      refine mm_getR (q := 168) (k1 := 3) dX7_copy_165 rfl lr_0 fd_X7_16 rfl ?_
      refine mm_bipush (q := 170) dX7_copy_168 rfl bp_60 ?_
      refine mm_iload_n (q := 171) dX7_copy_170 rfl rfl rfl ?_
      refine mm_imul (q := 172) dX7_copy_171 rfl ?_
      refine mm_iload (q := 174) dX7_copy_172 rfl rfl ?_
      refine mm_iadd (q := 175) dX7_copy_174 rfl ?_
      refine mm_iload (q := 177) dX7_copy_175 rfl rfl ?_
      refine mm_iadd (q := 178) dX7_copy_177 rfl ?_
      refine mm_aload_n (q := 179) dX7_copy_178 rfl rfl rfl ?_
      refine mm_getR (q := 182) (k1 := 4) dX7_copy_179 rfl lr_0 fd_X7_19 rfl ?_
      refine mm_iload (q := 184) dX7_copy_182 rfl rfl ?_
      refine mm_iald (q := 185) dX7_copy_184 rfl lr_4 (fun b29 _ => ?_)
      refine mm_iast (q := 186) dX7_copy_185 rfl lr_3 (fun M30 _ => ?_)
      refine mm_iinc (q := 189) (ls' := [some (.ref 0), none, none, some (.int x3), some (.int x4), some (.int x5), some (.int (x6 + (1 : Int32)))]) dX7_copy_186 rfl rfl (ii_1 _) rfl (Nat.le_of_ble_eq_true rfl) rfl ?_
      refine mm_goto (tgt := 157) dX7_copy_189 (by decide) ?_
      exact ih _ _
def fX7_copy (x1 : Int32) (x2 : Int32) (x3 : Int32) (x4 : Int32) (x5 : Int32) (M : mm_M) : Option (Int32 × mm_M) :=
  (fX7_isSheet x1).bind fun b1 =>
  if b1 = 0 then
    some ((-2 : Int32), M)
  else
    (fX7_isSheet x3).bind fun b3 =>
    if b3 = 0 then
      some ((-2 : Int32), M)
    else
      (mm_rd M 1 4 x1).bind fun b5 =>
      if b5 < 0 then
        ((fX7_finds (1 : Int32) M).bind fun b7 =>
        some (b7.1, b7.2))
      else
        (mm_rd M 1 4 x3).bind fun b8 =>
        if 0 ≤ b8 then
          ((mm_rd M 1 4 x1).bind fun b10 =>
          (mm_rd M 1 4 x3).bind fun b11 =>
          if b10 = b11 then
            (if x2 < 0 then
              ((fX7_finds (2 : Int32) M).bind fun b14 =>
              some (b14.1, b14.2))
            else
              if x4 < 0 then
                ((fX7_finds (2 : Int32) M).bind fun b16 =>
                some (b16.1, b16.2))
              else
                if x5 < 0 then
                  ((fX7_finds (2 : Int32) M).bind fun b18 =>
                  some (b18.1, b18.2))
                else
                  (mm_rd M 2 4 x1).bind fun b19 =>
                  if 0 < (lg_cmp (((x2).toInt64) + ((x5).toInt64)) ((b19).toInt64)) then
                    ((fX7_finds (2 : Int32) M).bind fun b21 =>
                    some (b21.1, b21.2))
                  else
                    (mm_rd M 2 4 x3).bind fun b22 =>
                    if (lg_cmp (((x4).toInt64) + ((x5).toInt64)) ((b22).toInt64)) ≤ 0 then
                      fX7_copy_L120 x1 x2 x3 x4 x5 (fun M27 =>
      fX7_copy_L157 x3 x4 x5 1000 (0 : Int32) M27) 1000 (0 : Int32) M
                    else
                      (fX7_finds (2 : Int32) M).bind fun b31 =>
                      some (b31.1, b31.2))
          else
            (fX7_finds (4 : Int32) M).bind fun b32 =>
            some (b32.1, b32.2))
        else
          (fX7_finds (1 : Int32) M).bind fun b33 =>
          some (b33.1, b33.2)
set_option maxRecDepth 100000 in
set_option maxHeartbeats 4000000 in
theorem fX7_copy_ok (x1 : Int32) (x2 : Int32) (x3 : Int32) (x4 : Int32) (x5 : Int32) (M : mm_M)  : mm_E LR yX7_copy cX7_copy 7 (some .int) 2 mm_eI [.ref 0, .int x1, .int x2, .int x3, .int x4, .int x5] M (fX7_copy x1 x2 x3 x4 x5 M) := by
  refine mm_E.of (own := RX7) (ls := [some (.ref 0), some (.int x1), some (.int x2), some (.int x3), some (.int x4), some (.int x5), none]) (by decide) rfl rfl (Nat.le_of_ble_eq_true rfl) ?_
  unfold fX7_copy
  refine mm_iload_n (q := 1) dX7_copy_0 rfl rfl rfl ?_
  refine mm_callSP (as := [.int x1]) (st := []) (q := 4) (fX7_isSheet_ok x1 M) ms_X7_85 rfl (Nat.le_of_ble_eq_true rfl) (Nat.le_of_ble_eq_true rfl) rfl dX7_copy_1 rfl (fun b1 _ => ?_)
  refine mm_if_eq (q := 7) (tgt := 14) dX7_copy_4 rfl (by decide) (fun c2 => ?_) (fun c2 => ?_)
  · refine mm_bipush (q := 16) dX7_copy_14 rfl bp_m2 ?_
    exact mm_iret rfl dX7_copy_16
  · refine mm_iload_n (q := 8) dX7_copy_7 rfl rfl rfl ?_
    refine mm_callSP (as := [.int x3]) (st := []) (q := 11) (fX7_isSheet_ok x3 M) ms_X7_85 rfl (Nat.le_of_ble_eq_true rfl) (Nat.le_of_ble_eq_true rfl) rfl dX7_copy_8 rfl (fun b3 _ => ?_)
    refine mm_if_ne (q := 14) (tgt := 17) dX7_copy_11 rfl (by decide) (fun c4 => ?_) (fun c4 => ?_)
    · refine mm_bipush (q := 16) dX7_copy_14 rfl bp_m2 ?_
      exact mm_iret rfl dX7_copy_16
    · refine mm_aload_n (q := 18) dX7_copy_17 rfl rfl rfl ?_
      refine mm_getR (q := 21) (k1 := 1) dX7_copy_18 rfl lr_0 fd_X7_7 rfl ?_
      refine mm_iload_n (q := 22) dX7_copy_21 rfl rfl rfl ?_
      refine mm_iald (q := 23) dX7_copy_22 rfl lr_1 (fun b5 _ => ?_)
      refine mm_if_lt (q := 26) (tgt := 35) dX7_copy_23 rfl (by decide) (fun c6 => ?_) (fun c6 => ?_)
      · refine mm_aload_n (q := 36) dX7_copy_35 rfl rfl rfl ?_
        refine mm_iconst (q := 37) dX7_copy_36 rfl ic_1 ?_
        refine mm_callVI (as := [.int (1 : Int32)]) (st := []) (q := 40) lr_0 rfl (fX7_finds_ok (1 : Int32) M) ms_X7_91 rfl (Nat.le_of_ble_eq_true rfl) (Nat.le_of_ble_eq_true rfl) rfl dX7_copy_37 rfl (fun b7 _ => ?_)
        exact mm_iret rfl dX7_copy_40
      · refine mm_aload_n (q := 27) dX7_copy_26 rfl rfl rfl ?_
        refine mm_getR (q := 30) (k1 := 1) dX7_copy_27 rfl lr_0 fd_X7_7 rfl ?_
        refine mm_iload_n (q := 31) dX7_copy_30 rfl rfl rfl ?_
        refine mm_iald (q := 32) dX7_copy_31 rfl lr_1 (fun b8 _ => ?_)
        refine mm_if_ge (q := 35) (tgt := 41) dX7_copy_32 rfl (by decide) (fun c9 => ?_) (fun c9 => ?_)
        · refine mm_aload_n (q := 42) dX7_copy_41 rfl rfl rfl ?_
          refine mm_getR (q := 45) (k1 := 1) dX7_copy_42 rfl lr_0 fd_X7_7 rfl ?_
          refine mm_iload_n (q := 46) dX7_copy_45 rfl rfl rfl ?_
          refine mm_iald (q := 47) dX7_copy_46 rfl lr_1 (fun b10 _ => ?_)
          refine mm_aload_n (q := 48) dX7_copy_47 rfl rfl rfl ?_
          refine mm_getR (q := 51) (k1 := 1) dX7_copy_48 rfl lr_0 fd_X7_7 rfl ?_
          refine mm_iload_n (q := 52) dX7_copy_51 rfl rfl rfl ?_
          refine mm_iald (q := 53) dX7_copy_52 rfl lr_1 (fun b11 _ => ?_)
          refine mm_icmp_eq (q := 56) (tgt := 62) dX7_copy_53 rfl (by decide) (fun c12 => ?_) (fun c12 => ?_)
          · refine mm_iload_n (q := 63) dX7_copy_62 rfl rfl rfl ?_
            refine mm_if_lt (q := 66) (tgt := 111) dX7_copy_63 rfl (by decide) (fun c13 => ?_) (fun c13 => ?_)
            · refine mm_aload_n (q := 112) dX7_copy_111 rfl rfl rfl ?_
              refine mm_iconst (q := 113) dX7_copy_112 rfl ic_2 ?_
              refine mm_callVI (as := [.int (2 : Int32)]) (st := []) (q := 116) lr_0 rfl (fX7_finds_ok (2 : Int32) M) ms_X7_91 rfl (Nat.le_of_ble_eq_true rfl) (Nat.le_of_ble_eq_true rfl) rfl dX7_copy_113 rfl (fun b14 _ => ?_)
              exact mm_iret rfl dX7_copy_116
            · refine mm_iload (q := 68) dX7_copy_66 rfl rfl ?_
              refine mm_if_lt (q := 71) (tgt := 111) dX7_copy_68 rfl (by decide) (fun c15 => ?_) (fun c15 => ?_)
              · refine mm_aload_n (q := 112) dX7_copy_111 rfl rfl rfl ?_
                refine mm_iconst (q := 113) dX7_copy_112 rfl ic_2 ?_
                refine mm_callVI (as := [.int (2 : Int32)]) (st := []) (q := 116) lr_0 rfl (fX7_finds_ok (2 : Int32) M) ms_X7_91 rfl (Nat.le_of_ble_eq_true rfl) (Nat.le_of_ble_eq_true rfl) rfl dX7_copy_113 rfl (fun b16 _ => ?_)
                exact mm_iret rfl dX7_copy_116
              · refine mm_iload (q := 73) dX7_copy_71 rfl rfl ?_
                refine mm_if_lt (q := 76) (tgt := 111) dX7_copy_73 rfl (by decide) (fun c17 => ?_) (fun c17 => ?_)
                · refine mm_aload_n (q := 112) dX7_copy_111 rfl rfl rfl ?_
                  refine mm_iconst (q := 113) dX7_copy_112 rfl ic_2 ?_
                  refine mm_callVI (as := [.int (2 : Int32)]) (st := []) (q := 116) lr_0 rfl (fX7_finds_ok (2 : Int32) M) ms_X7_91 rfl (Nat.le_of_ble_eq_true rfl) (Nat.le_of_ble_eq_true rfl) rfl dX7_copy_113 rfl (fun b18 _ => ?_)
                  exact mm_iret rfl dX7_copy_116
                · refine mm_iload_n (q := 77) dX7_copy_76 rfl rfl rfl ?_
                  refine mm_i2l (q := 78) dX7_copy_77 rfl ?_
                  refine mm_iload (q := 80) dX7_copy_78 rfl rfl ?_
                  refine mm_i2l (q := 81) dX7_copy_80 rfl ?_
                  refine mm_ladd (q := 82) dX7_copy_81 rfl ?_
                  refine mm_aload_n (q := 83) dX7_copy_82 rfl rfl rfl ?_
                  refine mm_getR (q := 86) (k1 := 2) dX7_copy_83 rfl lr_0 fd_X7_13 rfl ?_
                  refine mm_iload_n (q := 87) dX7_copy_86 rfl rfl rfl ?_
                  refine mm_iald (q := 88) dX7_copy_87 rfl lr_2 (fun b19 _ => ?_)
                  refine mm_i2l (q := 89) dX7_copy_88 rfl ?_
                  refine mm_lcmp (q := 90) dX7_copy_89 rfl ?_
                  refine mm_if_gt (q := 93) (tgt := 111) dX7_copy_90 rfl (by decide) (fun c20 => ?_) (fun c20 => ?_)
                  · refine mm_aload_n (q := 112) dX7_copy_111 rfl rfl rfl ?_
                    refine mm_iconst (q := 113) dX7_copy_112 rfl ic_2 ?_
                    refine mm_callVI (as := [.int (2 : Int32)]) (st := []) (q := 116) lr_0 rfl (fX7_finds_ok (2 : Int32) M) ms_X7_91 rfl (Nat.le_of_ble_eq_true rfl) (Nat.le_of_ble_eq_true rfl) rfl dX7_copy_113 rfl (fun b21 _ => ?_)
                    exact mm_iret rfl dX7_copy_116
                  · refine mm_iload (q := 95) dX7_copy_93 rfl rfl ?_
                    refine mm_i2l (q := 96) dX7_copy_95 rfl ?_
                    refine mm_iload (q := 98) dX7_copy_96 rfl rfl ?_
                    refine mm_i2l (q := 99) dX7_copy_98 rfl ?_
                    refine mm_ladd (q := 100) dX7_copy_99 rfl ?_
                    refine mm_aload_n (q := 101) dX7_copy_100 rfl rfl rfl ?_
                    refine mm_getR (q := 104) (k1 := 2) dX7_copy_101 rfl lr_0 fd_X7_13 rfl ?_
                    refine mm_iload_n (q := 105) dX7_copy_104 rfl rfl rfl ?_
                    refine mm_iald (q := 106) dX7_copy_105 rfl lr_2 (fun b22 _ => ?_)
                    refine mm_i2l (q := 107) dX7_copy_106 rfl ?_
                    refine mm_lcmp (q := 108) dX7_copy_107 rfl ?_
                    refine mm_if_le (q := 111) (tgt := 117) dX7_copy_108 rfl (by decide) (fun c23 => ?_) (fun c23 => ?_)
                    · refine mm_iconst (q := 118) dX7_copy_117 rfl ic_0 ?_
                      refine mm_istore (q := 120) (ls' := [some (.ref 0), some (.int x1), some (.int x2), some (.int x3), some (.int x4), some (.int x5), some (.int (0 : Int32))]) dX7_copy_118 rfl rfl (Nat.le_of_ble_eq_true rfl) rfl ?_
                      refine fX7_copy_L120_ok x1 x2 x3 x4 x5 _ (fun M27 => ?_) _ _ _
                      refine mm_iconst (q := 155) dX7_copy_154 rfl ic_0 ?_
                      refine mm_istore (q := 157) (ls' := [some (.ref 0), none, none, some (.int x3), some (.int x4), some (.int x5), some (.int (0 : Int32))]) dX7_copy_155 rfl rfl (Nat.le_of_ble_eq_true rfl) rfl ?_
                      exact fX7_copy_L157_ok x3 x4 x5 _ _ _
                    · refine mm_aload_n (q := 112) dX7_copy_111 rfl rfl rfl ?_
                      refine mm_iconst (q := 113) dX7_copy_112 rfl ic_2 ?_
                      refine mm_callVI (as := [.int (2 : Int32)]) (st := []) (q := 116) lr_0 rfl (fX7_finds_ok (2 : Int32) M) ms_X7_91 rfl (Nat.le_of_ble_eq_true rfl) (Nat.le_of_ble_eq_true rfl) rfl dX7_copy_113 rfl (fun b31 _ => ?_)
                      exact mm_iret rfl dX7_copy_116
          · refine mm_aload_n (q := 57) dX7_copy_56 rfl rfl rfl ?_
            refine mm_iconst (q := 58) dX7_copy_57 rfl ic_4 ?_
            refine mm_callVI (as := [.int (4 : Int32)]) (st := []) (q := 61) lr_0 rfl (fX7_finds_ok (4 : Int32) M) ms_X7_91 rfl (Nat.le_of_ble_eq_true rfl) (Nat.le_of_ble_eq_true rfl) rfl dX7_copy_58 rfl (fun b32 _ => ?_)
            exact mm_iret rfl dX7_copy_61
        · refine mm_aload_n (q := 36) dX7_copy_35 rfl rfl rfl ?_
          refine mm_iconst (q := 37) dX7_copy_36 rfl ic_1 ?_
          refine mm_callVI (as := [.int (1 : Int32)]) (st := []) (q := 40) lr_0 rfl (fX7_finds_ok (1 : Int32) M) ms_X7_91 rfl (Nat.le_of_ble_eq_true rfl) (Nat.le_of_ble_eq_true rfl) rfl dX7_copy_37 rfl (fun b33 _ => ?_)
          exact mm_iret rfl dX7_copy_40
def fX7_count (x1 : Int32) (M : mm_M) : Option (Int32 × mm_M) :=
  (fX7_find M).bind fun M1 =>
  if x1 = (0 : Int32) then
    some (M1 0 7, M1)
  else
    if x1 = (1 : Int32) then
      some (M1 0 9, M1)
    else
      if x1 = (2 : Int32) then
        some (M1 0 11, M1)
      else
        if x1 = (3 : Int32) then
          ((mm_rd M1 6 3 (x1 - (3 : Int32))).bind fun b6 =>
          some (b6, M1))
        else
          if x1 = (4 : Int32) then
            ((mm_rd M1 6 3 (x1 - (3 : Int32))).bind fun b8 =>
            some (b8, M1))
          else
            if x1 = (5 : Int32) then
              ((mm_rd M1 6 3 (x1 - (3 : Int32))).bind fun b10 =>
              some (b10, M1))
            else
              if x1 = (6 : Int32) then
                some (M1 0 13, M1)
              else
                if x1 = (7 : Int32) then
                  some (M1 0 27, M1)
                else
                  if x1 = (8 : Int32) then
                    some (M1 0 4, M1)
                  else
                    some ((-2 : Int32), M1)
set_option maxRecDepth 100000 in
set_option maxHeartbeats 4000000 in
theorem fX7_count_ok (x1 : Int32) (M : mm_M)  : mm_E LR yX7_count cX7_count 2 (some .int) 7 mm_eI [.ref 0, .int x1] M (fX7_count x1 M) := by
  refine mm_E.of (own := RX7) (ls := [some (.ref 0), some (.int x1)]) (by decide) rfl rfl (Nat.le_of_ble_eq_true rfl) ?_
  unfold fX7_count
  refine mm_aload_n (q := 1) dX7_count_0 rfl rfl rfl ?_
  refine mm_callVV (as := []) (st := []) (q := 4) lr_0 rfl (fX7_find_ok M) ms_X7_221 rfl (Nat.le_of_ble_eq_true rfl) (Nat.le_of_ble_eq_true rfl) rfl dX7_count_1 rfl (fun M1 _ => ?_)
  refine mm_iload_n (q := 5) dX7_count_4 rfl rfl rfl ?_
  by_cases c2 : x1 = (0 : Int32)
  · rw [if_pos c2]
    refine mm_tswI (tgt := 56) (v := 0) (off := 51) (by rw [c2]; decide) dX7_count_5 (by decide) (by decide) rfl (by decide) ?_
    refine mm_aload_n (q := 57) dX7_count_56 rfl rfl rfl ?_
    refine mm_getI (q := 60) dX7_count_57 rfl lr_0 fd_X7_116 rfl ?_
    exact mm_iret rfl dX7_count_60
  · rw [if_neg c2]
    by_cases c3 : x1 = (1 : Int32)
    · rw [if_pos c3]
      refine mm_tswI (tgt := 61) (v := 1) (off := 56) (by rw [c3]; decide) dX7_count_5 (by decide) (by decide) rfl (by decide) ?_
      refine mm_aload_n (q := 62) dX7_count_61 rfl rfl rfl ?_
      refine mm_getI (q := 65) dX7_count_62 rfl lr_0 fd_X7_125 rfl ?_
      exact mm_iret rfl dX7_count_65
    · rw [if_neg c3]
      by_cases c4 : x1 = (2 : Int32)
      · rw [if_pos c4]
        refine mm_tswI (tgt := 66) (v := 2) (off := 61) (by rw [c4]; decide) dX7_count_5 (by decide) (by decide) rfl (by decide) ?_
        refine mm_aload_n (q := 67) dX7_count_66 rfl rfl rfl ?_
        refine mm_getI (q := 70) dX7_count_67 rfl lr_0 fd_X7_131 rfl ?_
        exact mm_iret rfl dX7_count_70
      · rw [if_neg c4]
        by_cases c5 : x1 = (3 : Int32)
        · rw [if_pos c5]
          refine mm_tswI (tgt := 71) (v := 3) (off := 66) (by rw [c5]; decide) dX7_count_5 (by decide) (by decide) rfl (by decide) ?_
          refine mm_aload_n (q := 72) dX7_count_71 rfl rfl rfl ?_
          refine mm_getR (q := 75) (k1 := 6) dX7_count_72 rfl lr_0 fd_X7_25 rfl ?_
          refine mm_iload_n (q := 76) dX7_count_75 rfl rfl rfl ?_
          refine mm_iconst (q := 77) dX7_count_76 rfl ic_3 ?_
          refine mm_isub (q := 78) dX7_count_77 rfl ?_
          refine mm_iald (q := 79) dX7_count_78 rfl lr_6 (fun b6 _ => ?_)
          exact mm_iret rfl dX7_count_79
        · rw [if_neg c5]
          by_cases c7 : x1 = (4 : Int32)
          · rw [if_pos c7]
            refine mm_tswI (tgt := 71) (v := 4) (off := 66) (by rw [c7]; decide) dX7_count_5 (by decide) (by decide) rfl (by decide) ?_
            refine mm_aload_n (q := 72) dX7_count_71 rfl rfl rfl ?_
            refine mm_getR (q := 75) (k1 := 6) dX7_count_72 rfl lr_0 fd_X7_25 rfl ?_
            refine mm_iload_n (q := 76) dX7_count_75 rfl rfl rfl ?_
            refine mm_iconst (q := 77) dX7_count_76 rfl ic_3 ?_
            refine mm_isub (q := 78) dX7_count_77 rfl ?_
            refine mm_iald (q := 79) dX7_count_78 rfl lr_6 (fun b8 _ => ?_)
            exact mm_iret rfl dX7_count_79
          · rw [if_neg c7]
            by_cases c9 : x1 = (5 : Int32)
            · rw [if_pos c9]
              refine mm_tswI (tgt := 71) (v := 5) (off := 66) (by rw [c9]; decide) dX7_count_5 (by decide) (by decide) rfl (by decide) ?_
              refine mm_aload_n (q := 72) dX7_count_71 rfl rfl rfl ?_
              refine mm_getR (q := 75) (k1 := 6) dX7_count_72 rfl lr_0 fd_X7_25 rfl ?_
              refine mm_iload_n (q := 76) dX7_count_75 rfl rfl rfl ?_
              refine mm_iconst (q := 77) dX7_count_76 rfl ic_3 ?_
              refine mm_isub (q := 78) dX7_count_77 rfl ?_
              refine mm_iald (q := 79) dX7_count_78 rfl lr_6 (fun b10 _ => ?_)
              exact mm_iret rfl dX7_count_79
            · rw [if_neg c9]
              by_cases c11 : x1 = (6 : Int32)
              · rw [if_pos c11]
                refine mm_tswI (tgt := 80) (v := 6) (off := 75) (by rw [c11]; decide) dX7_count_5 (by decide) (by decide) rfl (by decide) ?_
                refine mm_aload_n (q := 81) dX7_count_80 rfl rfl rfl ?_
                refine mm_getI (q := 84) dX7_count_81 rfl lr_0 fd_X7_171 rfl ?_
                exact mm_iret rfl dX7_count_84
              · rw [if_neg c11]
                by_cases c12 : x1 = (7 : Int32)
                · rw [if_pos c12]
                  refine mm_tswI (tgt := 85) (v := 7) (off := 80) (by rw [c12]; decide) dX7_count_5 (by decide) (by decide) rfl (by decide) ?_
                  refine mm_aload_n (q := 86) dX7_count_85 rfl rfl rfl ?_
                  refine mm_getI (q := 89) dX7_count_86 rfl lr_0 fd_X7_279 rfl ?_
                  exact mm_iret rfl dX7_count_89
                · rw [if_neg c12]
                  by_cases c13 : x1 = (8 : Int32)
                  · rw [if_pos c13]
                    refine mm_tswI (tgt := 90) (v := 8) (off := 85) (by rw [c13]; decide) dX7_count_5 (by decide) (by decide) rfl (by decide) ?_
                    refine mm_aload_n (q := 91) dX7_count_90 rfl rfl rfl ?_
                    refine mm_getI (q := 94) dX7_count_91 rfl lr_0 fd_X7_80 rfl ?_
                    exact mm_iret rfl dX7_count_94
                  · rw [if_neg c13]
                    refine mm_tswO (tgt := 95) (by have e0 := lv_neT c2 (show (0 : Int32).toInt = 0 by decide); have e1 := lv_neT c3 (show (1 : Int32).toInt = 1 by decide); have e2 := lv_neT c4 (show (2 : Int32).toInt = 2 by decide); have e3 := lv_neT c5 (show (3 : Int32).toInt = 3 by decide); have e4 := lv_neT c7 (show (4 : Int32).toInt = 4 by decide); have e5 := lv_neT c9 (show (5 : Int32).toInt = 5 by decide); have e6 := lv_neT c11 (show (6 : Int32).toInt = 6 by decide); have e7 := lv_neT c12 (show (7 : Int32).toInt = 7 by decide); have e8 := lv_neT c13 (show (8 : Int32).toInt = 8 by decide); omega) dX7_count_5 (by decide) ?_
                    refine mm_bipush (q := 97) dX7_count_95 rfl bp_m2 ?_
                    exact mm_iret rfl dX7_count_97
def fX7_cut (x0 : Int32) (x1 : Int32)  : Int32 :=
  if x0 = 0 then
    (x1).toInt8.toInt32
  else
    if x0 = (1 : Int32) then
      (x1).toInt16.toInt32
    else
      x1
set_option maxRecDepth 100000 in
set_option maxHeartbeats 4000000 in
theorem fX7_cut_ok (x0 : Int32) (x1 : Int32) (M : mm_M)  : mm_E LR yX7_cut cX7_cut 2 (some .int) 0 (mm_pI M) [.int x0, .int x1] M (some (fX7_cut x0 x1)) := by
  refine mm_E.of (own := RX7) (ls := [some (.int x0), some (.int x1)]) (by decide) rfl rfl (Nat.le_of_ble_eq_true rfl) ?_
  unfold fX7_cut
  refine mm_iload_n (q := 1) dX7_cut_0 rfl rfl rfl ?_
  by_cases c1 : x0 = 0
  · simp only [if_pos c1]
    refine mm_if_ne_t (q := 4) (tgt := 9) c1 dX7_cut_1 rfl (by decide) ?_
    refine mm_iload_n (q := 5) dX7_cut_4 rfl rfl rfl ?_
    refine mm_i2b (q := 6) dX7_cut_5 rfl ?_
    refine mm_goto (tgt := 20) dX7_cut_6 (by decide) ?_
    exact mm_iret rfl dX7_cut_20
  · simp only [if_neg c1]
    refine mm_if_ne_f (tgt := 9) c1 dX7_cut_1 (by decide) ?_
    refine mm_iload_n (q := 10) dX7_cut_9 rfl rfl rfl ?_
    refine mm_iconst (q := 11) dX7_cut_10 rfl ic_1 ?_
    by_cases c2 : x0 = (1 : Int32)
    · simp only [if_pos c2]
      refine mm_icmp_ne_t (q := 14) (tgt := 19) c2 dX7_cut_11 rfl (by decide) ?_
      refine mm_iload_n (q := 15) dX7_cut_14 rfl rfl rfl ?_
      refine mm_i2s (q := 16) dX7_cut_15 rfl ?_
      refine mm_goto (tgt := 20) dX7_cut_16 (by decide) ?_
      exact mm_iret rfl dX7_cut_20
    · simp only [if_neg c2]
      refine mm_icmp_ne_f (tgt := 19) c2 dX7_cut_11 (by decide) ?_
      refine mm_iload_n (q := 20) dX7_cut_19 rfl rfl rfl ?_
      exact mm_iret rfl dX7_cut_20
def fX7_debts_L2 (x1 : Int32) (k21 : mm_M → Option (mm_M)) : Nat → Int32 → mm_M → Option (mm_M)
  | 0, _, _ => none
  | n + 1, x2, M =>
    if (8 : Int32) ≤ x2 then
      k21 M
    else
      (mm_wa M 18 8 x2 (0 : Int32)).bind fun M2 =>
      fX7_debts_L2 x1 k21 n (x2 + (1 : Int32)) M2
set_option maxRecDepth 100000 in
set_option maxHeartbeats 4000000 in
theorem fX7_debts_L2_ok (x1 : Int32)  (k21 : mm_M → Option (mm_M)) (hk21 : ∀  (M : mm_M), mm_C LR cX7_debts 3 RX7 none 0 mm_eV 21 [some (.ref 0), some (.int x1), none] [] M (k21 M)) : ∀ (n : Nat) (x2 : Int32) (M : mm_M), mm_C LR cX7_debts 3 RX7 none 0 mm_eV 2 [some (.ref 0), some (.int x1), some (.int x2)] [] M (fX7_debts_L2 x1 k21 n x2 M) := by
  intro n
  induction n with
  | zero => intro x2 M; exact mm_none
  | succ n ih =>
    intro x2 M
    rw [fX7_debts_L2]
    refine mm_iload_n (q := 3) dX7_debts_2 rfl rfl rfl ?_
    refine mm_bipush (q := 5) dX7_debts_3 rfl bp_8 ?_
    refine mm_icmp_ge (q := 8) (tgt := 21) dX7_debts_5 rfl (by decide) (fun c1 => ?_) (fun c1 => ?_)
    · refine mm_drop (ls' := [some (.ref 0), some (.int x1), none]) (mm_sub_at _ _ (And.intro rfl (And.intro rfl trivial))) ?_
      exact hk21  _
    · refine mm_aload_n (q := 9) dX7_debts_8 rfl rfl rfl ?_
      refine mm_getR (q := 12) (k1 := 18) dX7_debts_9 rfl lr_0 fd_X7_61 rfl ?_
      refine mm_iload_n (q := 13) dX7_debts_12 rfl rfl rfl ?_
      refine mm_iconst (q := 14) dX7_debts_13 rfl ic_0 ?_
      refine mm_iast (q := 15) dX7_debts_14 rfl lr_18 (fun M2 _ => ?_)
      refine mm_iinc (q := 18) (ls' := [some (.ref 0), some (.int x1), some (.int (x2 + (1 : Int32)))]) dX7_debts_15 rfl rfl (ii_1 _) rfl (Nat.le_of_ble_eq_true rfl) rfl ?_
      refine mm_goto (tgt := 2) dX7_debts_18 (by decide) ?_
      exact ih _ _
def fX7_debts_L23 (x1 : Int32)  : Nat → Int32 → mm_M → Option (mm_M)
  | 0, _, _ => none
  | n + 1, x2, M =>
    if (M 0 9) ≤ x2 then
      some M
    else
      (mm_rd M 15 288 (((12 : Int32) * x1) + x2)).bind fun b5 =>
      if b5 = 0 then
        ((mm_rd M 8 36 (((3 : Int32) * x2) + (1 : Int32))).bind fun b7 =>
        (mm_rd M 18 8 b7).bind fun b8 =>
        (mm_rd M 8 36 ((3 : Int32) * x2)).bind fun b9 =>
        (mm_wa M 18 8 b7 (b8 ||| ((1 : Int32) <<< (b9 &&& 31)))).bind fun M10 =>
        fX7_debts_L23 x1 n (x2 + (1 : Int32)) M10)
      else
        fX7_debts_L23 x1 n (x2 + (1 : Int32)) M
set_option maxRecDepth 100000 in
set_option maxHeartbeats 4000000 in
theorem fX7_debts_L23_ok (x1 : Int32)    : ∀ (n : Nat) (x2 : Int32) (M : mm_M), mm_C LR cX7_debts 3 RX7 none 0 mm_eV 23 [some (.ref 0), some (.int x1), some (.int x2)] [] M (fX7_debts_L23 x1 n x2 M) := by
  intro n
  induction n with
  | zero => intro x2 M; exact mm_none
  | succ n ih =>
    intro x2 M
    rw [fX7_debts_L23]
    refine mm_iload_n (q := 24) dX7_debts_23 rfl rfl rfl ?_
    refine mm_aload_n (q := 25) dX7_debts_24 rfl rfl rfl ?_
    refine mm_getI (q := 28) dX7_debts_25 rfl lr_0 fd_X7_125 rfl ?_
    refine mm_icmp_ge (q := 31) (tgt := 79) dX7_debts_28 rfl (by decide) (fun c4 => ?_) (fun c4 => ?_)
    · exact mm_vret rfl dX7_debts_79
    · refine mm_aload_n (q := 32) dX7_debts_31 rfl rfl rfl ?_
      refine mm_getR (q := 35) (k1 := 15) dX7_debts_32 rfl lr_0 fd_X7_52 rfl ?_
      refine mm_bipush (q := 37) dX7_debts_35 rfl bp_12 ?_
      refine mm_iload_n (q := 38) dX7_debts_37 rfl rfl rfl ?_
      refine mm_imul (q := 39) dX7_debts_38 rfl ?_
      refine mm_iload_n (q := 40) dX7_debts_39 rfl rfl rfl ?_
      refine mm_iadd (q := 41) dX7_debts_40 rfl ?_
      refine mm_iald (q := 42) dX7_debts_41 rfl lr_15 (fun b5 _ => ?_)
      refine mm_if_ne (q := 45) (tgt := 73) dX7_debts_42 rfl (by decide) (fun c6 => ?_) (fun c6 => ?_)
      · refine mm_aload_n (q := 46) dX7_debts_45 rfl rfl rfl ?_
        refine mm_getR (q := 49) (k1 := 18) dX7_debts_46 rfl lr_0 fd_X7_61 rfl ?_
        refine mm_aload_n (q := 50) dX7_debts_49 rfl rfl rfl ?_
        refine mm_getR (q := 53) (k1 := 8) dX7_debts_50 rfl lr_0 fd_X7_31 rfl ?_
        refine mm_iconst (q := 54) dX7_debts_53 rfl ic_3 ?_
        refine mm_iload_n (q := 55) dX7_debts_54 rfl rfl rfl ?_
        refine mm_imul (q := 56) dX7_debts_55 rfl ?_
        refine mm_iconst (q := 57) dX7_debts_56 rfl ic_1 ?_
        refine mm_iadd (q := 58) dX7_debts_57 rfl ?_
        refine mm_iald (q := 59) dX7_debts_58 rfl lr_8 (fun b7 _ => ?_)
        refine mm_dup2 (q := 60) dX7_debts_59 rfl rfl rfl ?_
        refine mm_iald (q := 61) dX7_debts_60 rfl lr_18 (fun b8 _ => ?_)
        refine mm_iconst (q := 62) dX7_debts_61 rfl ic_1 ?_
        refine mm_aload_n (q := 63) dX7_debts_62 rfl rfl rfl ?_
        refine mm_getR (q := 66) (k1 := 8) dX7_debts_63 rfl lr_0 fd_X7_31 rfl ?_
        refine mm_iconst (q := 67) dX7_debts_66 rfl ic_3 ?_
        refine mm_iload_n (q := 68) dX7_debts_67 rfl rfl rfl ?_
        refine mm_imul (q := 69) dX7_debts_68 rfl ?_
        refine mm_iald (q := 70) dX7_debts_69 rfl lr_8 (fun b9 _ => ?_)
        refine mm_ishl (q := 71) dX7_debts_70 rfl ?_
        refine mm_ior (q := 72) dX7_debts_71 rfl ?_
        refine mm_iast (q := 73) dX7_debts_72 rfl lr_18 (fun M10 _ => ?_)
        refine mm_iinc (q := 76) (ls' := [some (.ref 0), some (.int x1), some (.int (x2 + (1 : Int32)))]) dX7_debts_73 rfl rfl (ii_1 _) rfl (Nat.le_of_ble_eq_true rfl) rfl ?_
        refine mm_goto (tgt := 23) dX7_debts_76 (by decide) ?_
        exact ih _ _
      · refine mm_iinc (q := 76) (ls' := [some (.ref 0), some (.int x1), some (.int (x2 + (1 : Int32)))]) dX7_debts_73 rfl rfl (ii_1 _) rfl (Nat.le_of_ble_eq_true rfl) rfl ?_
        refine mm_goto (tgt := 23) dX7_debts_76 (by decide) ?_
        exact ih _ _
def fX7_debts (x1 : Int32) (M : mm_M) : Option (mm_M) :=
  fX7_debts_L2 x1 (fun M3 =>
      fX7_debts_L23 x1 1000 (0 : Int32) M3) 1000 (0 : Int32) M
set_option maxRecDepth 100000 in
set_option maxHeartbeats 4000000 in
theorem fX7_debts_ok (x1 : Int32) (M : mm_M)  : mm_E LR yX7_debts cX7_debts 3 none 0 mm_eV [.ref 0, .int x1] M (fX7_debts x1 M) := by
  refine mm_E.of (own := RX7) (ls := [some (.ref 0), some (.int x1), none]) (by decide) rfl rfl (Nat.le_of_ble_eq_true rfl) ?_
  unfold fX7_debts
  refine mm_iconst (q := 1) dX7_debts_0 rfl ic_0 ?_
  refine mm_istore_n (q := 2) (ls' := [some (.ref 0), some (.int x1), some (.int (0 : Int32))]) dX7_debts_1 rfl rfl rfl (Nat.le_of_ble_eq_true rfl) rfl ?_
  refine fX7_debts_L2_ok x1 _ (fun M3 => ?_) _ _ _
  refine mm_iconst (q := 22) dX7_debts_21 rfl ic_0 ?_
  refine mm_istore_n (q := 23) (ls' := [some (.ref 0), some (.int x1), some (.int (0 : Int32))]) dX7_debts_22 rfl rfl rfl (Nat.le_of_ble_eq_true rfl) rfl ?_
  exact fX7_debts_L23_ok x1 _ _ _
def fX7_readsText (x1 : Int32) (M : mm_M) : Option (Int32 × mm_M) :=
  if x1 = 0 then
    ((fX7_readsPeople M).bind fun b2 =>
    some (b2.1, b2.2))
  else
    if x1 = (1 : Int32) then
      ((fX7_readsWords M).bind fun b4 =>
      some (b4.1, b4.2))
    else
      (fX7_readsMeetings M).bind fun b5 =>
      some (b5.1, b5.2)
set_option maxRecDepth 100000 in
set_option maxHeartbeats 4000000 in
theorem fX7_readsText_ok (x1 : Int32) (M : mm_M)  : mm_E LR yX7_readsText cX7_readsText 2 (some .int) 4 mm_eI [.ref 0, .int x1] M (fX7_readsText x1 M) := by
  refine mm_E.of (own := RX7) (ls := [some (.ref 0), some (.int x1)]) (by decide) rfl rfl (Nat.le_of_ble_eq_true rfl) ?_
  unfold fX7_readsText
  refine mm_iload_n (q := 1) dX7_readsText_0 rfl rfl rfl ?_
  refine mm_if_ne (q := 4) (tgt := 11) dX7_readsText_1 rfl (by decide) (fun c1 => ?_) (fun c1 => ?_)
  · refine mm_aload_n (q := 5) dX7_readsText_4 rfl rfl rfl ?_
    refine mm_callVI (as := []) (st := []) (q := 8) lr_0 rfl (fX7_readsPeople_ok M) ms_X7_137 rfl (Nat.le_of_ble_eq_true rfl) (Nat.le_of_ble_eq_true rfl) rfl dX7_readsText_5 rfl (fun b2 _ => ?_)
    refine mm_goto (tgt := 27) dX7_readsText_8 (by decide) ?_
    exact mm_iret rfl dX7_readsText_27
  · refine mm_iload_n (q := 12) dX7_readsText_11 rfl rfl rfl ?_
    refine mm_iconst (q := 13) dX7_readsText_12 rfl ic_1 ?_
    refine mm_icmp_ne (q := 16) (tgt := 23) dX7_readsText_13 rfl (by decide) (fun c3 => ?_) (fun c3 => ?_)
    · refine mm_aload_n (q := 17) dX7_readsText_16 rfl rfl rfl ?_
      refine mm_callVI (as := []) (st := []) (q := 20) lr_0 rfl (fX7_readsWords_ok M) ms_X7_141 rfl (Nat.le_of_ble_eq_true rfl) (Nat.le_of_ble_eq_true rfl) rfl dX7_readsText_17 rfl (fun b4 _ => ?_)
      refine mm_goto (tgt := 27) dX7_readsText_20 (by decide) ?_
      exact mm_iret rfl dX7_readsText_27
    · refine mm_aload_n (q := 24) dX7_readsText_23 rfl rfl rfl ?_
      refine mm_callVI (as := []) (st := []) (q := 27) lr_0 rfl (fX7_readsMeetings_ok M) ms_X7_144 rfl (Nat.le_of_ble_eq_true rfl) (Nat.le_of_ble_eq_true rfl) rfl dX7_readsText_24 rfl (fun b5 _ => ?_)
      exact mm_iret rfl dX7_readsText_27
def fX7_meetingBy (x1 : Int32) (x2 : Int32) (M : mm_M) : Option (Int32) :=
  if (M 0 11) ≤ x1 then
    some (-1 : Int32)
  else
    (mm_rd M 9 36 (((3 : Int32) * x1) + x2)).bind fun b2 =>
    some b2
set_option maxRecDepth 100000 in
set_option maxHeartbeats 4000000 in
theorem fX7_meetingBy_ok (x1 : Int32) (x2 : Int32) (M : mm_M)  : mm_E LR yX7_meetingBy cX7_meetingBy 3 (some .int) 0 (mm_pI M) [.ref 0, .int x1, .int x2] M (fX7_meetingBy x1 x2 M) := by
  refine mm_E.of (own := RX7) (ls := [some (.ref 0), some (.int x1), some (.int x2)]) (by decide) rfl rfl (Nat.le_of_ble_eq_true rfl) ?_
  unfold fX7_meetingBy
  refine mm_iload_n (q := 1) dX7_meetingBy_0 rfl rfl rfl ?_
  refine mm_aload_n (q := 2) dX7_meetingBy_1 rfl rfl rfl ?_
  refine mm_getI (q := 5) dX7_meetingBy_2 rfl lr_0 fd_X7_131 rfl ?_
  refine mm_icmp_ge (q := 8) (tgt := 21) dX7_meetingBy_5 rfl (by decide) (fun c1 => ?_) (fun c1 => ?_)
  · refine mm_iconst (q := 22) dX7_meetingBy_21 rfl ic_m1 ?_
    exact mm_iret rfl dX7_meetingBy_22
  · refine mm_aload_n (q := 9) dX7_meetingBy_8 rfl rfl rfl ?_
    refine mm_getR (q := 12) (k1 := 9) dX7_meetingBy_9 rfl lr_0 fd_X7_34 rfl ?_
    refine mm_iconst (q := 13) dX7_meetingBy_12 rfl ic_3 ?_
    refine mm_iload_n (q := 14) dX7_meetingBy_13 rfl rfl rfl ?_
    refine mm_imul (q := 15) dX7_meetingBy_14 rfl ?_
    refine mm_iload_n (q := 16) dX7_meetingBy_15 rfl rfl rfl ?_
    refine mm_iadd (q := 17) dX7_meetingBy_16 rfl ?_
    refine mm_iald (q := 18) dX7_meetingBy_17 rfl lr_9 (fun b2 _ => ?_)
    refine mm_goto (tgt := 22) dX7_meetingBy_18 (by decide) ?_
    exact mm_iret rfl dX7_meetingBy_22
def fX7_tellsDay (x1 : Int64) (x3 : Int32) (x4 : Int32) (M : mm_M) : Option (Int64) :=
  (mm_rd M 15 288 (((12 : Int32) * x3) + x4)).bind fun b1 =>
  (mm_rd M 16 288 (((12 : Int32) * x3) + x4)).bind fun b2 =>
  some (((31 : Int64) * (((31 : Int64) * x1) + ((b1).toInt64))) + ((b2).toInt64))
set_option maxRecDepth 100000 in
set_option maxHeartbeats 4000000 in
theorem fX7_tellsDay_ok (x1 : Int64) (x3 : Int32) (x4 : Int32) (M : mm_M)  : mm_E LR yX7_tellsDay cX7_tellsDay 5 (some .long) 0 (mm_pL M) [.ref 0, .long x1, .int x3, .int x4] M (fX7_tellsDay x1 x3 x4 M) := by
  refine mm_E.of (own := RX7) (ls := [some (.ref 0), some (.long x1), none, some (.int x3), some (.int x4)]) (by decide) rfl rfl (Nat.le_of_ble_eq_true rfl) ?_
  unfold fX7_tellsDay
  refine mm_ldc2 (q := 3) dX7_tellsDay_0 rfl cn_X7_327 ?_
  refine mm_ldc2 (q := 6) dX7_tellsDay_3 rfl cn_X7_327 ?_
  refine mm_lload_n (q := 7) dX7_tellsDay_6 rfl rfl rfl ?_
  refine mm_lmul (q := 8) dX7_tellsDay_7 rfl ?_
  refine mm_aload_n (q := 9) dX7_tellsDay_8 rfl rfl rfl ?_
  refine mm_getR (q := 12) (k1 := 15) dX7_tellsDay_9 rfl lr_0 fd_X7_52 rfl ?_
  refine mm_bipush (q := 14) dX7_tellsDay_12 rfl bp_12 ?_
  refine mm_iload_n (q := 15) dX7_tellsDay_14 rfl rfl rfl ?_
  refine mm_imul (q := 16) dX7_tellsDay_15 rfl ?_
  refine mm_iload (q := 18) dX7_tellsDay_16 rfl rfl ?_
  refine mm_iadd (q := 19) dX7_tellsDay_18 rfl ?_
  refine mm_iald (q := 20) dX7_tellsDay_19 rfl lr_15 (fun b1 _ => ?_)
  refine mm_i2l (q := 21) dX7_tellsDay_20 rfl ?_
  refine mm_ladd (q := 22) dX7_tellsDay_21 rfl ?_
  refine mm_lmul (q := 23) dX7_tellsDay_22 rfl ?_
  refine mm_aload_n (q := 24) dX7_tellsDay_23 rfl rfl rfl ?_
  refine mm_getR (q := 27) (k1 := 16) dX7_tellsDay_24 rfl lr_0 fd_X7_55 rfl ?_
  refine mm_bipush (q := 29) dX7_tellsDay_27 rfl bp_12 ?_
  refine mm_iload_n (q := 30) dX7_tellsDay_29 rfl rfl rfl ?_
  refine mm_imul (q := 31) dX7_tellsDay_30 rfl ?_
  refine mm_iload (q := 33) dX7_tellsDay_31 rfl rfl ?_
  refine mm_iadd (q := 34) dX7_tellsDay_33 rfl ?_
  refine mm_iald (q := 35) dX7_tellsDay_34 rfl lr_16 (fun b2 _ => ?_)
  refine mm_i2l (q := 36) dX7_tellsDay_35 rfl ?_
  refine mm_ladd (q := 37) dX7_tellsDay_36 rfl ?_
  exact mm_lret rfl dX7_tellsDay_37
def fX7_tellsWord_L10 (x3 : Int32) (M : mm_M) (k43 : Int64 → Option (Int64 × mm_M)) : Nat → Int64 → Int32 → Option (Int64 × mm_M)
  | 0, _, _ => none
  | n + 1, x4, x6 =>
    if (3 : Int32) ≤ x6 then
      k43 x4
    else
      (mm_rd M 8 36 (((3 : Int32) * x3) + x6)).bind fun b3 =>
      fX7_tellsWord_L10 x3 M k43 n (((31 : Int64) * x4) + ((b3).toInt64)) (x6 + (1 : Int32))
set_option maxRecDepth 100000 in
set_option maxHeartbeats 4000000 in
theorem fX7_tellsWord_L10_ok (x3 : Int32) (M : mm_M)  (k43 : Int64 → Option (Int64 × mm_M)) (hk43 : ∀ (x4 : Int64), mm_C LR cX7_tellsWord 7 RX7 (some .long) 9 mm_eL 43 [some (.ref 0), none, none, some (.int x3), some (.long x4), none, none] [] M (k43 x4)) : ∀ (n : Nat) (x4 : Int64) (x6 : Int32), mm_C LR cX7_tellsWord 7 RX7 (some .long) 9 mm_eL 10 [some (.ref 0), none, none, some (.int x3), some (.long x4), none, some (.int x6)] [] M (fX7_tellsWord_L10 x3 M k43 n x4 x6) := by
  intro n
  induction n with
  | zero => intro x4 x6; exact mm_none
  | succ n ih =>
    intro x4 x6
    rw [fX7_tellsWord_L10]
    refine mm_iload (q := 12) dX7_tellsWord_10 rfl rfl ?_
    refine mm_iconst (q := 13) dX7_tellsWord_12 rfl ic_3 ?_
    refine mm_icmp_ge (q := 16) (tgt := 43) dX7_tellsWord_13 rfl (by decide) (fun c2 => ?_) (fun c2 => ?_)
    · refine mm_drop (ls' := [some (.ref 0), none, none, some (.int x3), some (.long x4), none, none]) (mm_sub_at _ _ (And.intro rfl (And.intro rfl (And.intro rfl trivial)))) ?_
      exact hk43 _
    · refine mm_ldc2 (q := 19) dX7_tellsWord_16 rfl cn_X7_327 ?_
      refine mm_lload (q := 21) dX7_tellsWord_19 rfl rfl ?_
      refine mm_lmul (q := 22) dX7_tellsWord_21 rfl ?_
      refine mm_aload_n (q := 23) dX7_tellsWord_22 rfl rfl rfl ?_
      refine mm_getR (q := 26) (k1 := 8) dX7_tellsWord_23 rfl lr_0 fd_X7_31 rfl ?_
      refine mm_iconst (q := 27) dX7_tellsWord_26 rfl ic_3 ?_
      refine mm_iload_n (q := 28) dX7_tellsWord_27 rfl rfl rfl ?_
      refine mm_imul (q := 29) dX7_tellsWord_28 rfl ?_
      refine mm_iload (q := 31) dX7_tellsWord_29 rfl rfl ?_
      refine mm_iadd (q := 32) dX7_tellsWord_31 rfl ?_
      refine mm_iald (q := 33) dX7_tellsWord_32 rfl lr_8 (fun b3 _ => ?_)
      refine mm_i2l (q := 34) dX7_tellsWord_33 rfl ?_
      refine mm_ladd (q := 35) dX7_tellsWord_34 rfl ?_
      refine mm_lstore (q := 37) (ls' := [some (.ref 0), none, none, some (.int x3), some (.long (((31 : Int64) * x4) + ((b3).toInt64))), none, some (.int x6)]) dX7_tellsWord_35 rfl rfl (Nat.le_of_ble_eq_true rfl) rfl ?_
      refine mm_iinc (q := 40) (ls' := [some (.ref 0), none, none, some (.int x3), some (.long (((31 : Int64) * x4) + ((b3).toInt64))), none, some (.int (x6 + (1 : Int32)))]) dX7_tellsWord_37 rfl rfl (ii_1 _) rfl (Nat.le_of_ble_eq_true rfl) rfl ?_
      refine mm_goto (tgt := 10) dX7_tellsWord_40 (by decide) ?_
      exact ih _ _
def fX7_tellsWord (x1 : Int64) (x3 : Int32) (M : mm_M) : Option (Int64 × mm_M) :=
  (fX7_runs M).bind fun M1 =>
  fX7_tellsWord_L10 x3 M1 (fun z4 =>
      (fX7_tellsDay z4 (0 : Int32) x3 M1).bind fun b5 =>
      (fX7_tellsDay b5 (6 : Int32) x3 M1).bind fun b6 =>
      (fX7_tellsDay b6 (13 : Int32) x3 M1).bind fun b7 =>
      (fX7_tellsDay b7 (23 : Int32) x3 M1).bind fun b8 =>
      (fX7_lentOf x3 M1).bind fun b9 =>
      (fX7_askOf x3 b9.2).bind fun b10 =>
      (fX7_chanceOf (5 : Int32) x3 (0 : Int32) b10.2).bind fun b11 =>
      (fX7_chanceOf (5 : Int32) x3 (1 : Int32) b11.2).bind fun b12 =>
      some (((31 : Int64) * (((31 : Int64) * (((31 : Int64) * (((31 : Int64) * b8) + ((b9.1).toInt64))) + ((b10.1).toInt64))) + b11.1)) + b12.1, b12.2)) 1000 x1 (0 : Int32)
set_option maxRecDepth 100000 in
set_option maxHeartbeats 4000000 in
theorem fX7_tellsWord_ok (x1 : Int64) (x3 : Int32) (M : mm_M)  : mm_E LR yX7_tellsWord cX7_tellsWord 7 (some .long) 9 mm_eL [.ref 0, .long x1, .int x3] M (fX7_tellsWord x1 x3 M) := by
  refine mm_E.of (own := RX7) (ls := [some (.ref 0), some (.long x1), none, some (.int x3), none, none, none]) (by decide) rfl rfl (Nat.le_of_ble_eq_true rfl) ?_
  unfold fX7_tellsWord
  refine mm_aload_n (q := 1) dX7_tellsWord_0 rfl rfl rfl ?_
  refine mm_callVV (as := []) (st := []) (q := 4) lr_0 rfl (fX7_runs_ok M) ms_X7_218 rfl (Nat.le_of_ble_eq_true rfl) (Nat.le_of_ble_eq_true rfl) rfl dX7_tellsWord_1 rfl (fun M1 _ => ?_)
  refine mm_lload_n (q := 5) dX7_tellsWord_4 rfl rfl rfl ?_
  refine mm_lstore (q := 7) (ls' := [some (.ref 0), some (.long x1), none, some (.int x3), some (.long x1), none, none]) dX7_tellsWord_5 rfl rfl (Nat.le_of_ble_eq_true rfl) rfl ?_
  refine mm_iconst (q := 8) dX7_tellsWord_7 rfl ic_0 ?_
  refine mm_istore (q := 10) (ls' := [some (.ref 0), some (.long x1), none, some (.int x3), some (.long x1), none, some (.int (0 : Int32))]) dX7_tellsWord_8 rfl rfl (Nat.le_of_ble_eq_true rfl) rfl ?_
  refine mm_drop (ls' := [some (.ref 0), none, none, some (.int x3), some (.long x1), none, some (.int (0 : Int32))]) (mm_sub_at _ _ (And.intro rfl (And.intro rfl (And.intro rfl (And.intro rfl trivial))))) ?_
  refine fX7_tellsWord_L10_ok x3 M1 _ (fun z4 => ?_) _ _ _
  refine mm_aload_n (q := 44) dX7_tellsWord_43 rfl rfl rfl ?_
  refine mm_aload_n (q := 45) dX7_tellsWord_44 rfl rfl rfl ?_
  refine mm_aload_n (q := 46) dX7_tellsWord_45 rfl rfl rfl ?_
  refine mm_aload_n (q := 47) dX7_tellsWord_46 rfl rfl rfl ?_
  refine mm_lload (q := 49) dX7_tellsWord_47 rfl rfl ?_
  refine mm_iconst (q := 50) dX7_tellsWord_49 rfl ic_0 ?_
  refine mm_iload_n (q := 51) dX7_tellsWord_50 rfl rfl rfl ?_
  refine mm_callVQ (as := [.long z4, .int (0 : Int32), .int x3]) (st := [.ref 0, .ref 0, .ref 0]) (q := 54) lr_0 rfl (fX7_tellsDay_ok z4 (0 : Int32) x3 M1) ms_X7_329 rfl (Nat.le_of_ble_eq_true rfl) (Nat.le_of_ble_eq_true rfl) rfl dX7_tellsWord_51 rfl (fun b5 _ => ?_)
  refine mm_bipush (q := 56) dX7_tellsWord_54 rfl bp_6 ?_
  refine mm_iload_n (q := 57) dX7_tellsWord_56 rfl rfl rfl ?_
  refine mm_callVQ (as := [.long b5, .int (6 : Int32), .int x3]) (st := [.ref 0, .ref 0]) (q := 60) lr_0 rfl (fX7_tellsDay_ok b5 (6 : Int32) x3 M1) ms_X7_329 rfl (Nat.le_of_ble_eq_true rfl) (Nat.le_of_ble_eq_true rfl) rfl dX7_tellsWord_57 rfl (fun b6 _ => ?_)
  refine mm_bipush (q := 62) dX7_tellsWord_60 rfl bp_13 ?_
  refine mm_iload_n (q := 63) dX7_tellsWord_62 rfl rfl rfl ?_
  refine mm_callVQ (as := [.long b6, .int (13 : Int32), .int x3]) (st := [.ref 0]) (q := 66) lr_0 rfl (fX7_tellsDay_ok b6 (13 : Int32) x3 M1) ms_X7_329 rfl (Nat.le_of_ble_eq_true rfl) (Nat.le_of_ble_eq_true rfl) rfl dX7_tellsWord_63 rfl (fun b7 _ => ?_)
  refine mm_bipush (q := 68) dX7_tellsWord_66 rfl bp_23 ?_
  refine mm_iload_n (q := 69) dX7_tellsWord_68 rfl rfl rfl ?_
  refine mm_callVQ (as := [.long b7, .int (23 : Int32), .int x3]) (st := []) (q := 72) lr_0 rfl (fX7_tellsDay_ok b7 (23 : Int32) x3 M1) ms_X7_329 rfl (Nat.le_of_ble_eq_true rfl) (Nat.le_of_ble_eq_true rfl) rfl dX7_tellsWord_69 rfl (fun b8 _ => ?_)
  refine mm_lstore (q := 74) (ls' := [some (.ref 0), none, none, some (.int x3), some (.long b8), none, none]) dX7_tellsWord_72 rfl rfl (Nat.le_of_ble_eq_true rfl) rfl ?_
  refine mm_ldc2 (q := 77) dX7_tellsWord_74 rfl cn_X7_327 ?_
  refine mm_lload (q := 79) dX7_tellsWord_77 rfl rfl ?_
  refine mm_lmul (q := 80) dX7_tellsWord_79 rfl ?_
  refine mm_aload_n (q := 81) dX7_tellsWord_80 rfl rfl rfl ?_
  refine mm_iload_n (q := 82) dX7_tellsWord_81 rfl rfl rfl ?_
  refine mm_callVI (as := [.int x3]) (st := [.long ((31 : Int64) * b8)]) (q := 85) lr_0 rfl (fX7_lentOf_ok x3 M1) ms_X7_292 rfl (Nat.le_of_ble_eq_true rfl) (Nat.le_of_ble_eq_true rfl) rfl dX7_tellsWord_82 rfl (fun b9 _ => ?_)
  refine mm_i2l (q := 86) dX7_tellsWord_85 rfl ?_
  refine mm_ladd (q := 87) dX7_tellsWord_86 rfl ?_
  refine mm_lstore (q := 89) (ls' := [some (.ref 0), none, none, some (.int x3), some (.long (((31 : Int64) * b8) + ((b9.1).toInt64))), none, none]) dX7_tellsWord_87 rfl rfl (Nat.le_of_ble_eq_true rfl) rfl ?_
  refine mm_ldc2 (q := 92) dX7_tellsWord_89 rfl cn_X7_327 ?_
  refine mm_lload (q := 94) dX7_tellsWord_92 rfl rfl ?_
  refine mm_lmul (q := 95) dX7_tellsWord_94 rfl ?_
  refine mm_aload_n (q := 96) dX7_tellsWord_95 rfl rfl rfl ?_
  refine mm_iload_n (q := 97) dX7_tellsWord_96 rfl rfl rfl ?_
  refine mm_callVI (as := [.int x3]) (st := [.long ((31 : Int64) * (((31 : Int64) * b8) + ((b9.1).toInt64)))]) (q := 100) lr_0 rfl (fX7_askOf_ok x3 b9.2) ms_X7_298 rfl (Nat.le_of_ble_eq_true rfl) (Nat.le_of_ble_eq_true rfl) rfl dX7_tellsWord_97 rfl (fun b10 _ => ?_)
  refine mm_i2l (q := 101) dX7_tellsWord_100 rfl ?_
  refine mm_ladd (q := 102) dX7_tellsWord_101 rfl ?_
  refine mm_lstore (q := 104) (ls' := [some (.ref 0), none, none, some (.int x3), some (.long (((31 : Int64) * (((31 : Int64) * b8) + ((b9.1).toInt64))) + ((b10.1).toInt64))), none, none]) dX7_tellsWord_102 rfl rfl (Nat.le_of_ble_eq_true rfl) rfl ?_
  refine mm_ldc2 (q := 107) dX7_tellsWord_104 rfl cn_X7_327 ?_
  refine mm_lload (q := 109) dX7_tellsWord_107 rfl rfl ?_
  refine mm_lmul (q := 110) dX7_tellsWord_109 rfl ?_
  refine mm_aload_n (q := 111) dX7_tellsWord_110 rfl rfl rfl ?_
  refine mm_iconst (q := 112) dX7_tellsWord_111 rfl ic_5 ?_
  refine mm_iload_n (q := 113) dX7_tellsWord_112 rfl rfl rfl ?_
  refine mm_iconst (q := 114) dX7_tellsWord_113 rfl ic_0 ?_
  refine mm_callVL (as := [.int (5 : Int32), .int x3, .int (0 : Int32)]) (st := [.long ((31 : Int64) * (((31 : Int64) * (((31 : Int64) * b8) + ((b9.1).toInt64))) + ((b10.1).toInt64)))]) (q := 117) lr_0 rfl (fX7_chanceOf_ok (5 : Int32) x3 (0 : Int32) b10.2) ms_X7_307 rfl (Nat.le_of_ble_eq_true rfl) (Nat.le_of_ble_eq_true rfl) rfl dX7_tellsWord_114 rfl (fun b11 _ => ?_)
  refine mm_ladd (q := 118) dX7_tellsWord_117 rfl ?_
  refine mm_lstore (q := 120) (ls' := [some (.ref 0), none, none, some (.int x3), some (.long (((31 : Int64) * (((31 : Int64) * (((31 : Int64) * b8) + ((b9.1).toInt64))) + ((b10.1).toInt64))) + b11.1)), none, none]) dX7_tellsWord_118 rfl rfl (Nat.le_of_ble_eq_true rfl) rfl ?_
  refine mm_ldc2 (q := 123) dX7_tellsWord_120 rfl cn_X7_327 ?_
  refine mm_lload (q := 125) dX7_tellsWord_123 rfl rfl ?_
  refine mm_lmul (q := 126) dX7_tellsWord_125 rfl ?_
  refine mm_aload_n (q := 127) dX7_tellsWord_126 rfl rfl rfl ?_
  refine mm_iconst (q := 128) dX7_tellsWord_127 rfl ic_5 ?_
  refine mm_iload_n (q := 129) dX7_tellsWord_128 rfl rfl rfl ?_
  refine mm_iconst (q := 130) dX7_tellsWord_129 rfl ic_1 ?_
  refine mm_callVL (as := [.int (5 : Int32), .int x3, .int (1 : Int32)]) (st := [.long ((31 : Int64) * (((31 : Int64) * (((31 : Int64) * (((31 : Int64) * b8) + ((b9.1).toInt64))) + ((b10.1).toInt64))) + b11.1))]) (q := 133) lr_0 rfl (fX7_chanceOf_ok (5 : Int32) x3 (1 : Int32) b11.2) ms_X7_307 rfl (Nat.le_of_ble_eq_true rfl) (Nat.le_of_ble_eq_true rfl) rfl dX7_tellsWord_130 rfl (fun b12 _ => ?_)
  refine mm_ladd (q := 134) dX7_tellsWord_133 rfl ?_
  exact mm_lret rfl dX7_tellsWord_134
def fX7_liveOf_L17 (x1 : Int32) (x2 : Int32) (k61 : Int32 → mm_M → Option (Int32 × mm_M)) : Nat → Int32 → Int32 → mm_M → Option (Int32 × mm_M)
  | 0, _, _, _ => none
  | n + 1, x3, x4, M =>
    if x4 < 0 then
      k61 x3 M
    else
      (mm_wa M 7 16 (((2 : Int32) * x1) + (1 : Int32)) x4).bind fun M3 =>
      (fX7_runs M3).bind fun M4 =>
      (fX7_isLost (23 : Int32) x1 M4).bind fun b5 =>
      fX7_liveOf_L17 x1 x2 k61 n (if b5 = 0 then x4 else x3) (x4 + (-1 : Int32)) M4
set_option maxRecDepth 100000 in
set_option maxHeartbeats 4000000 in
theorem fX7_liveOf_L17_ok (x1 : Int32) (x2 : Int32)  (k61 : Int32 → mm_M → Option (Int32 × mm_M)) (hk61 : ∀ (x3 : Int32) (M : mm_M), mm_C LR cX7_liveOf 5 RX7 (some .int) 6 mm_eI 61 [some (.ref 0), some (.int x1), some (.int x2), some (.int x3), none] [] M (k61 x3 M)) : ∀ (n : Nat) (x3 : Int32) (x4 : Int32) (M : mm_M), mm_C LR cX7_liveOf 5 RX7 (some .int) 6 mm_eI 17 [some (.ref 0), some (.int x1), some (.int x2), some (.int x3), some (.int x4)] [] M (fX7_liveOf_L17 x1 x2 k61 n x3 x4 M) := by
  intro n
  induction n with
  | zero => intro x3 x4 M; exact mm_none
  | succ n ih =>
    intro x3 x4 M
    rw [fX7_liveOf_L17]
    refine mm_iload (q := 19) dX7_liveOf_17 rfl rfl ?_
    refine mm_if_lt (q := 22) (tgt := 61) dX7_liveOf_19 rfl (by decide) (fun c2 => ?_) (fun c2 => ?_)
    · refine mm_drop (ls' := [some (.ref 0), some (.int x1), some (.int x2), some (.int x3), none]) (mm_sub_at _ _ (And.intro rfl (And.intro rfl (And.intro rfl (And.intro rfl trivial))))) ?_
      exact hk61 _ _
    · refine mm_aload_n (q := 23) dX7_liveOf_22 rfl rfl rfl ?_
      refine mm_getR (q := 26) (k1 := 7) dX7_liveOf_23 rfl lr_0 fd_X7_28 rfl ?_
      refine mm_iconst (q := 27) dX7_liveOf_26 rfl ic_2 ?_
      refine mm_iload_n (q := 28) dX7_liveOf_27 rfl rfl rfl ?_
      refine mm_imul (q := 29) dX7_liveOf_28 rfl ?_
      refine mm_iconst (q := 30) dX7_liveOf_29 rfl ic_1 ?_
      refine mm_iadd (q := 31) dX7_liveOf_30 rfl ?_
      refine mm_iload (q := 33) dX7_liveOf_31 rfl rfl ?_
      refine mm_iast (q := 34) dX7_liveOf_33 rfl lr_7 (fun M3 _ => ?_)
      refine mm_aload_n (q := 35) dX7_liveOf_34 rfl rfl rfl ?_
      refine mm_callVV (as := []) (st := []) (q := 38) lr_0 rfl (fX7_runs_ok M3) ms_X7_218 rfl (Nat.le_of_ble_eq_true rfl) (Nat.le_of_ble_eq_true rfl) rfl dX7_liveOf_35 rfl (fun M4 _ => ?_)
      refine mm_aload_n (q := 39) dX7_liveOf_38 rfl rfl rfl ?_
      refine mm_bipush (q := 41) dX7_liveOf_39 rfl bp_23 ?_
      refine mm_iload_n (q := 42) dX7_liveOf_41 rfl rfl rfl ?_
      refine mm_callVP (as := [.int (23 : Int32), .int x1]) (st := []) (q := 45) lr_0 rfl (fX7_isLost_ok (23 : Int32) x1 M4) ms_X7_233 rfl (Nat.le_of_ble_eq_true rfl) (Nat.le_of_ble_eq_true rfl) rfl dX7_liveOf_42 rfl (fun b5 _ => ?_)
      by_cases c6 : b5 = 0
      · simp only [if_pos c6]
        refine mm_if_eq_t (tgt := 52) c6 dX7_liveOf_45 (by decide) ?_
        refine mm_iload (q := 54) dX7_liveOf_52 rfl rfl ?_
        refine mm_istore_n (q := 55) (ls' := [some (.ref 0), some (.int x1), some (.int x2), some (.int x4), some (.int x4)]) dX7_liveOf_54 rfl rfl rfl (Nat.le_of_ble_eq_true rfl) rfl ?_
        refine mm_iinc (q := 58) (ls' := [some (.ref 0), some (.int x1), some (.int x2), some (.int x4), some (.int (x4 + (-1 : Int32)))]) dX7_liveOf_55 rfl rfl (ii_m1 _) rfl (Nat.le_of_ble_eq_true rfl) rfl ?_
        refine mm_goto (tgt := 17) dX7_liveOf_58 (by decide) ?_
        exact ih _ _ _
      · simp only [if_neg c6]
        refine mm_if_eq_f (q := 48) (tgt := 52) c6 dX7_liveOf_45 rfl (by decide) ?_
        refine mm_iload_n (q := 49) dX7_liveOf_48 rfl rfl rfl ?_
        refine mm_goto (tgt := 54) dX7_liveOf_49 (by decide) ?_
        refine mm_istore_n (q := 55) (ls' := [some (.ref 0), some (.int x1), some (.int x2), some (.int x3), some (.int x4)]) dX7_liveOf_54 rfl rfl rfl (Nat.le_of_ble_eq_true rfl) rfl ?_
        refine mm_iinc (q := 58) (ls' := [some (.ref 0), some (.int x1), some (.int x2), some (.int x3), some (.int (x4 + (-1 : Int32)))]) dX7_liveOf_55 rfl rfl (ii_m1 _) rfl (Nat.le_of_ble_eq_true rfl) rfl ?_
        refine mm_goto (tgt := 17) dX7_liveOf_58 (by decide) ?_
        exact ih _ _ _
def fX7_liveOf (x1 : Int32) (M : mm_M) : Option (Int32 × mm_M) :=
  (mm_rd M 7 16 (((2 : Int32) * x1) + (1 : Int32))).bind fun b1 =>
  fX7_liveOf_L17 x1 b1 (fun z7 M8 =>
      (mm_wa M8 7 16 (((2 : Int32) * x1) + (1 : Int32)) b1).bind fun M9 =>
      some (z7, M9)) 1000 (-1 : Int32) (23 : Int32) M
set_option maxRecDepth 100000 in
set_option maxHeartbeats 4000000 in
theorem fX7_liveOf_ok (x1 : Int32) (M : mm_M)  : mm_E LR yX7_liveOf cX7_liveOf 5 (some .int) 6 mm_eI [.ref 0, .int x1] M (fX7_liveOf x1 M) := by
  refine mm_E.of (own := RX7) (ls := [some (.ref 0), some (.int x1), none, none, none]) (by decide) rfl rfl (Nat.le_of_ble_eq_true rfl) ?_
  unfold fX7_liveOf
  refine mm_aload_n (q := 1) dX7_liveOf_0 rfl rfl rfl ?_
  refine mm_getR (q := 4) (k1 := 7) dX7_liveOf_1 rfl lr_0 fd_X7_28 rfl ?_
  refine mm_iconst (q := 5) dX7_liveOf_4 rfl ic_2 ?_
  refine mm_iload_n (q := 6) dX7_liveOf_5 rfl rfl rfl ?_
  refine mm_imul (q := 7) dX7_liveOf_6 rfl ?_
  refine mm_iconst (q := 8) dX7_liveOf_7 rfl ic_1 ?_
  refine mm_iadd (q := 9) dX7_liveOf_8 rfl ?_
  refine mm_iald (q := 10) dX7_liveOf_9 rfl lr_7 (fun b1 _ => ?_)
  refine mm_istore_n (q := 11) (ls' := [some (.ref 0), some (.int x1), some (.int b1), none, none]) dX7_liveOf_10 rfl rfl rfl (Nat.le_of_ble_eq_true rfl) rfl ?_
  refine mm_iconst (q := 12) dX7_liveOf_11 rfl ic_m1 ?_
  refine mm_istore_n (q := 13) (ls' := [some (.ref 0), some (.int x1), some (.int b1), some (.int (-1 : Int32)), none]) dX7_liveOf_12 rfl rfl rfl (Nat.le_of_ble_eq_true rfl) rfl ?_
  refine mm_bipush (q := 15) dX7_liveOf_13 rfl bp_23 ?_
  refine mm_istore (q := 17) (ls' := [some (.ref 0), some (.int x1), some (.int b1), some (.int (-1 : Int32)), some (.int (23 : Int32))]) dX7_liveOf_15 rfl rfl (Nat.le_of_ble_eq_true rfl) rfl ?_
  refine fX7_liveOf_L17_ok x1 b1 _ (fun z7 M8 => ?_) _ _ _ _
  refine mm_aload_n (q := 62) dX7_liveOf_61 rfl rfl rfl ?_
  refine mm_getR (q := 65) (k1 := 7) dX7_liveOf_62 rfl lr_0 fd_X7_28 rfl ?_
  refine mm_iconst (q := 66) dX7_liveOf_65 rfl ic_2 ?_
  refine mm_iload_n (q := 67) dX7_liveOf_66 rfl rfl rfl ?_
  refine mm_imul (q := 68) dX7_liveOf_67 rfl ?_
  refine mm_iconst (q := 69) dX7_liveOf_68 rfl ic_1 ?_
  refine mm_iadd (q := 70) dX7_liveOf_69 rfl ?_
  refine mm_iload_n (q := 71) dX7_liveOf_70 rfl rfl rfl ?_
  refine mm_iast (q := 72) dX7_liveOf_71 rfl lr_7 (fun M9 _ => ?_)
  refine mm_iload_n (q := 73) dX7_liveOf_72 rfl rfl rfl ?_
  exact mm_iret rfl dX7_liveOf_73
def fX7_sortOf_L14 (x1 : Int32) (x2 : Int32) (k54 : Int32 → mm_M → Option (Int32 × mm_M)) : Nat → Int32 → Int32 → mm_M → Option (Int32 × mm_M)
  | 0, _, _, _ => none
  | n + 1, x3, x4, M =>
    if (4 : Int32) ≤ x4 then
      k54 x3 M
    else
      (mm_wa M 7 16 ((2 : Int32) * x1) x4).bind fun M3 =>
      (fX7_isCounted M3).bind fun b4 =>
      fX7_sortOf_L14 x1 x2 k54 n (if b4.1 = 0 then x3 ||| (0 : Int32) else x3 ||| ((1 : Int32) <<< (x4 &&& 31))) (x4 + (1 : Int32)) b4.2
set_option maxRecDepth 100000 in
set_option maxHeartbeats 4000000 in
theorem fX7_sortOf_L14_ok (x1 : Int32) (x2 : Int32)  (k54 : Int32 → mm_M → Option (Int32 × mm_M)) (hk54 : ∀ (x3 : Int32) (M : mm_M), mm_C LR cX7_sortOf 5 RX7 (some .int) 7 mm_eI 54 [some (.ref 0), some (.int x1), some (.int x2), some (.int x3), none] [] M (k54 x3 M)) : ∀ (n : Nat) (x3 : Int32) (x4 : Int32) (M : mm_M), mm_C LR cX7_sortOf 5 RX7 (some .int) 7 mm_eI 14 [some (.ref 0), some (.int x1), some (.int x2), some (.int x3), some (.int x4)] [] M (fX7_sortOf_L14 x1 x2 k54 n x3 x4 M) := by
  intro n
  induction n with
  | zero => intro x3 x4 M; exact mm_none
  | succ n ih =>
    intro x3 x4 M
    rw [fX7_sortOf_L14]
    refine mm_iload (q := 16) dX7_sortOf_14 rfl rfl ?_
    refine mm_iconst (q := 17) dX7_sortOf_16 rfl ic_4 ?_
    refine mm_icmp_ge (q := 20) (tgt := 54) dX7_sortOf_17 rfl (by decide) (fun c2 => ?_) (fun c2 => ?_)
    · refine mm_drop (ls' := [some (.ref 0), some (.int x1), some (.int x2), some (.int x3), none]) (mm_sub_at _ _ (And.intro rfl (And.intro rfl (And.intro rfl (And.intro rfl trivial))))) ?_
      exact hk54 _ _
    · refine mm_aload_n (q := 21) dX7_sortOf_20 rfl rfl rfl ?_
      refine mm_getR (q := 24) (k1 := 7) dX7_sortOf_21 rfl lr_0 fd_X7_28 rfl ?_
      refine mm_iconst (q := 25) dX7_sortOf_24 rfl ic_2 ?_
      refine mm_iload_n (q := 26) dX7_sortOf_25 rfl rfl rfl ?_
      refine mm_imul (q := 27) dX7_sortOf_26 rfl ?_
      refine mm_iload (q := 29) dX7_sortOf_27 rfl rfl ?_
      refine mm_iast (q := 30) dX7_sortOf_29 rfl lr_7 (fun M3 _ => ?_)
      refine mm_iload_n (q := 31) dX7_sortOf_30 rfl rfl rfl ?_
      refine mm_aload_n (q := 32) dX7_sortOf_31 rfl rfl rfl ?_
      refine mm_callVI (as := []) (st := [.int x3]) (q := 35) lr_0 rfl (fX7_isCounted_ok M3) ms_X7_282 rfl (Nat.le_of_ble_eq_true rfl) (Nat.le_of_ble_eq_true rfl) rfl dX7_sortOf_32 rfl (fun b4 _ => ?_)
      by_cases c5 : b4.1 = 0
      · simp only [if_pos c5]
        refine mm_if_eq_t (tgt := 45) c5 dX7_sortOf_35 (by decide) ?_
        refine mm_iconst (q := 46) dX7_sortOf_45 rfl ic_0 ?_
        refine mm_ior (q := 47) dX7_sortOf_46 rfl ?_
        refine mm_istore_n (q := 48) (ls' := [some (.ref 0), some (.int x1), some (.int x2), some (.int (x3 ||| (0 : Int32))), some (.int x4)]) dX7_sortOf_47 rfl rfl rfl (Nat.le_of_ble_eq_true rfl) rfl ?_
        refine mm_iinc (q := 51) (ls' := [some (.ref 0), some (.int x1), some (.int x2), some (.int (x3 ||| (0 : Int32))), some (.int (x4 + (1 : Int32)))]) dX7_sortOf_48 rfl rfl (ii_1 _) rfl (Nat.le_of_ble_eq_true rfl) rfl ?_
        refine mm_goto (tgt := 14) dX7_sortOf_51 (by decide) ?_
        exact ih _ _ _
      · simp only [if_neg c5]
        refine mm_if_eq_f (q := 38) (tgt := 45) c5 dX7_sortOf_35 rfl (by decide) ?_
        refine mm_iconst (q := 39) dX7_sortOf_38 rfl ic_1 ?_
        refine mm_iload (q := 41) dX7_sortOf_39 rfl rfl ?_
        refine mm_ishl (q := 42) dX7_sortOf_41 rfl ?_
        refine mm_goto (tgt := 46) dX7_sortOf_42 (by decide) ?_
        refine mm_ior (q := 47) dX7_sortOf_46 rfl ?_
        refine mm_istore_n (q := 48) (ls' := [some (.ref 0), some (.int x1), some (.int x2), some (.int (x3 ||| ((1 : Int32) <<< (x4 &&& 31)))), some (.int x4)]) dX7_sortOf_47 rfl rfl rfl (Nat.le_of_ble_eq_true rfl) rfl ?_
        refine mm_iinc (q := 51) (ls' := [some (.ref 0), some (.int x1), some (.int x2), some (.int (x3 ||| ((1 : Int32) <<< (x4 &&& 31)))), some (.int (x4 + (1 : Int32)))]) dX7_sortOf_48 rfl rfl (ii_1 _) rfl (Nat.le_of_ble_eq_true rfl) rfl ?_
        refine mm_goto (tgt := 14) dX7_sortOf_51 (by decide) ?_
        exact ih _ _ _
def fX7_sortOf (x1 : Int32) (M : mm_M) : Option (Int32 × mm_M) :=
  (mm_rd M 7 16 ((2 : Int32) * x1)).bind fun b1 =>
  fX7_sortOf_L14 x1 b1 (fun z6 M7 =>
      (mm_wa M7 7 16 ((2 : Int32) * x1) b1).bind fun M8 =>
      some (z6, M8)) 1000 (0 : Int32) (0 : Int32) M
set_option maxRecDepth 100000 in
set_option maxHeartbeats 4000000 in
theorem fX7_sortOf_ok (x1 : Int32) (M : mm_M)  : mm_E LR yX7_sortOf cX7_sortOf 5 (some .int) 7 mm_eI [.ref 0, .int x1] M (fX7_sortOf x1 M) := by
  refine mm_E.of (own := RX7) (ls := [some (.ref 0), some (.int x1), none, none, none]) (by decide) rfl rfl (Nat.le_of_ble_eq_true rfl) ?_
  unfold fX7_sortOf
  refine mm_aload_n (q := 1) dX7_sortOf_0 rfl rfl rfl ?_
  refine mm_getR (q := 4) (k1 := 7) dX7_sortOf_1 rfl lr_0 fd_X7_28 rfl ?_
  refine mm_iconst (q := 5) dX7_sortOf_4 rfl ic_2 ?_
  refine mm_iload_n (q := 6) dX7_sortOf_5 rfl rfl rfl ?_
  refine mm_imul (q := 7) dX7_sortOf_6 rfl ?_
  refine mm_iald (q := 8) dX7_sortOf_7 rfl lr_7 (fun b1 _ => ?_)
  refine mm_istore_n (q := 9) (ls' := [some (.ref 0), some (.int x1), some (.int b1), none, none]) dX7_sortOf_8 rfl rfl rfl (Nat.le_of_ble_eq_true rfl) rfl ?_
  refine mm_iconst (q := 10) dX7_sortOf_9 rfl ic_0 ?_
  refine mm_istore_n (q := 11) (ls' := [some (.ref 0), some (.int x1), some (.int b1), some (.int (0 : Int32)), none]) dX7_sortOf_10 rfl rfl rfl (Nat.le_of_ble_eq_true rfl) rfl ?_
  refine mm_iconst (q := 12) dX7_sortOf_11 rfl ic_0 ?_
  refine mm_istore (q := 14) (ls' := [some (.ref 0), some (.int x1), some (.int b1), some (.int (0 : Int32)), some (.int (0 : Int32))]) dX7_sortOf_12 rfl rfl (Nat.le_of_ble_eq_true rfl) rfl ?_
  refine fX7_sortOf_L14_ok x1 b1 _ (fun z6 M7 => ?_) _ _ _ _
  refine mm_aload_n (q := 55) dX7_sortOf_54 rfl rfl rfl ?_
  refine mm_getR (q := 58) (k1 := 7) dX7_sortOf_55 rfl lr_0 fd_X7_28 rfl ?_
  refine mm_iconst (q := 59) dX7_sortOf_58 rfl ic_2 ?_
  refine mm_iload_n (q := 60) dX7_sortOf_59 rfl rfl rfl ?_
  refine mm_imul (q := 61) dX7_sortOf_60 rfl ?_
  refine mm_iload_n (q := 62) dX7_sortOf_61 rfl rfl rfl ?_
  refine mm_iast (q := 63) dX7_sortOf_62 rfl lr_7 (fun M8 _ => ?_)
  refine mm_iload_n (q := 64) dX7_sortOf_63 rfl rfl rfl ?_
  exact mm_iret rfl dX7_sortOf_64
def fX7_tellsPerson_L44 (x3 : Int32) (M : mm_M) (k75 : Int64 → Option (Int64 × mm_M)) : Nat → Int64 → Int32 → Option (Int64 × mm_M)
  | 0, _, _ => none
  | n + 1, x4, x6 =>
    if (4 : Int32) ≤ x6 then
      k75 x4
    else
      (fX7_atOf (6 : Int32) x3 x6 M).bind fun b5 =>
      fX7_tellsPerson_L44 x3 M k75 n (((31 : Int64) * x4) + ((b5).toInt64)) (x6 + (1 : Int32))
set_option maxRecDepth 100000 in
set_option maxHeartbeats 4000000 in
theorem fX7_tellsPerson_L44_ok (x3 : Int32) (M : mm_M)  (k75 : Int64 → Option (Int64 × mm_M)) (hk75 : ∀ (x4 : Int64), mm_C LR cX7_tellsPerson 7 RX7 (some .long) 8 mm_eL 75 [some (.ref 0), none, none, some (.int x3), some (.long x4), none, none] [] M (k75 x4)) : ∀ (n : Nat) (x4 : Int64) (x6 : Int32), mm_C LR cX7_tellsPerson 7 RX7 (some .long) 8 mm_eL 44 [some (.ref 0), none, none, some (.int x3), some (.long x4), none, some (.int x6)] [] M (fX7_tellsPerson_L44 x3 M k75 n x4 x6) := by
  intro n
  induction n with
  | zero => intro x4 x6; exact mm_none
  | succ n ih =>
    intro x4 x6
    rw [fX7_tellsPerson_L44]
    refine mm_iload (q := 46) dX7_tellsPerson_44 rfl rfl ?_
    refine mm_iconst (q := 47) dX7_tellsPerson_46 rfl ic_4 ?_
    refine mm_icmp_ge (q := 50) (tgt := 75) dX7_tellsPerson_47 rfl (by decide) (fun c4 => ?_) (fun c4 => ?_)
    · refine mm_drop (ls' := [some (.ref 0), none, none, some (.int x3), some (.long x4), none, none]) (mm_sub_at _ _ (And.intro rfl (And.intro rfl (And.intro rfl trivial)))) ?_
      exact hk75 _
    · refine mm_ldc2 (q := 53) dX7_tellsPerson_50 rfl cn_X7_327 ?_
      refine mm_lload (q := 55) dX7_tellsPerson_53 rfl rfl ?_
      refine mm_lmul (q := 56) dX7_tellsPerson_55 rfl ?_
      refine mm_aload_n (q := 57) dX7_tellsPerson_56 rfl rfl rfl ?_
      refine mm_bipush (q := 59) dX7_tellsPerson_57 rfl bp_6 ?_
      refine mm_iload_n (q := 60) dX7_tellsPerson_59 rfl rfl rfl ?_
      refine mm_iload (q := 62) dX7_tellsPerson_60 rfl rfl ?_
      refine mm_callVP (as := [.int (6 : Int32), .int x3, .int x6]) (st := [.long ((31 : Int64) * x4)]) (q := 65) lr_0 rfl (fX7_atOf_ok (6 : Int32) x3 x6 M) ms_X7_230 rfl (Nat.le_of_ble_eq_true rfl) (Nat.le_of_ble_eq_true rfl) rfl dX7_tellsPerson_62 rfl (fun b5 _ => ?_)
      refine mm_i2l (q := 66) dX7_tellsPerson_65 rfl ?_
      refine mm_ladd (q := 67) dX7_tellsPerson_66 rfl ?_
      refine mm_lstore (q := 69) (ls' := [some (.ref 0), none, none, some (.int x3), some (.long (((31 : Int64) * x4) + ((b5).toInt64))), none, some (.int x6)]) dX7_tellsPerson_67 rfl rfl (Nat.le_of_ble_eq_true rfl) rfl ?_
      refine mm_iinc (q := 72) (ls' := [some (.ref 0), none, none, some (.int x3), some (.long (((31 : Int64) * x4) + ((b5).toInt64))), none, some (.int (x6 + (1 : Int32)))]) dX7_tellsPerson_69 rfl rfl (ii_1 _) rfl (Nat.le_of_ble_eq_true rfl) rfl ?_
      refine mm_goto (tgt := 44) dX7_tellsPerson_72 (by decide) ?_
      exact ih _ _
def fX7_tellsPerson_L78 (x3 : Int32) (M : mm_M) (k109 : Int64 → Option (Int64 × mm_M)) : Nat → Int64 → Int32 → Option (Int64 × mm_M)
  | 0, _, _ => none
  | n + 1, x4, x6 =>
    if (4 : Int32) ≤ x6 then
      k109 x4
    else
      (fX7_atOf (23 : Int32) x3 x6 M).bind fun b8 =>
      fX7_tellsPerson_L78 x3 M k109 n (((31 : Int64) * x4) + ((b8).toInt64)) (x6 + (1 : Int32))
set_option maxRecDepth 100000 in
set_option maxHeartbeats 4000000 in
theorem fX7_tellsPerson_L78_ok (x3 : Int32) (M : mm_M)  (k109 : Int64 → Option (Int64 × mm_M)) (hk109 : ∀ (x4 : Int64), mm_C LR cX7_tellsPerson 7 RX7 (some .long) 8 mm_eL 109 [some (.ref 0), none, none, some (.int x3), some (.long x4), none, none] [] M (k109 x4)) : ∀ (n : Nat) (x4 : Int64) (x6 : Int32), mm_C LR cX7_tellsPerson 7 RX7 (some .long) 8 mm_eL 78 [some (.ref 0), none, none, some (.int x3), some (.long x4), none, some (.int x6)] [] M (fX7_tellsPerson_L78 x3 M k109 n x4 x6) := by
  intro n
  induction n with
  | zero => intro x4 x6; exact mm_none
  | succ n ih =>
    intro x4 x6
    rw [fX7_tellsPerson_L78]
    refine mm_iload (q := 80) dX7_tellsPerson_78 rfl rfl ?_
    refine mm_iconst (q := 81) dX7_tellsPerson_80 rfl ic_4 ?_
    refine mm_icmp_ge (q := 84) (tgt := 109) dX7_tellsPerson_81 rfl (by decide) (fun c7 => ?_) (fun c7 => ?_)
    · refine mm_drop (ls' := [some (.ref 0), none, none, some (.int x3), some (.long x4), none, none]) (mm_sub_at _ _ (And.intro rfl (And.intro rfl (And.intro rfl trivial)))) ?_
      exact hk109 _
    · refine mm_ldc2 (q := 87) dX7_tellsPerson_84 rfl cn_X7_327 ?_
      refine mm_lload (q := 89) dX7_tellsPerson_87 rfl rfl ?_
      refine mm_lmul (q := 90) dX7_tellsPerson_89 rfl ?_
      refine mm_aload_n (q := 91) dX7_tellsPerson_90 rfl rfl rfl ?_
      refine mm_bipush (q := 93) dX7_tellsPerson_91 rfl bp_23 ?_
      refine mm_iload_n (q := 94) dX7_tellsPerson_93 rfl rfl rfl ?_
      refine mm_iload (q := 96) dX7_tellsPerson_94 rfl rfl ?_
      refine mm_callVP (as := [.int (23 : Int32), .int x3, .int x6]) (st := [.long ((31 : Int64) * x4)]) (q := 99) lr_0 rfl (fX7_atOf_ok (23 : Int32) x3 x6 M) ms_X7_230 rfl (Nat.le_of_ble_eq_true rfl) (Nat.le_of_ble_eq_true rfl) rfl dX7_tellsPerson_96 rfl (fun b8 _ => ?_)
      refine mm_i2l (q := 100) dX7_tellsPerson_99 rfl ?_
      refine mm_ladd (q := 101) dX7_tellsPerson_100 rfl ?_
      refine mm_lstore (q := 103) (ls' := [some (.ref 0), none, none, some (.int x3), some (.long (((31 : Int64) * x4) + ((b8).toInt64))), none, some (.int x6)]) dX7_tellsPerson_101 rfl rfl (Nat.le_of_ble_eq_true rfl) rfl ?_
      refine mm_iinc (q := 106) (ls' := [some (.ref 0), none, none, some (.int x3), some (.long (((31 : Int64) * x4) + ((b8).toInt64))), none, some (.int (x6 + (1 : Int32)))]) dX7_tellsPerson_103 rfl rfl (ii_1 _) rfl (Nat.le_of_ble_eq_true rfl) rfl ?_
      refine mm_goto (tgt := 78) dX7_tellsPerson_106 (by decide) ?_
      exact ih _ _
def fX7_tellsPerson (x1 : Int64) (x3 : Int32) (M : mm_M) : Option (Int64 × mm_M) :=
  (fX7_runs M).bind fun M1 =>
  (mm_rd M1 7 16 ((2 : Int32) * x3)).bind fun b2 =>
  (mm_rd M1 7 16 (((2 : Int32) * x3) + (1 : Int32))).bind fun b3 =>
  fX7_tellsPerson_L44 x3 M1 (fun z6 =>
      fX7_tellsPerson_L78 x3 M1 (fun z9 =>
      (fX7_clearOf x3 M1).bind fun b10 =>
      (fX7_liveOf x3 M1).bind fun b11 =>
      (fX7_sortOf x3 b11.2).bind fun b12 =>
      some (((31 : Int64) * (((31 : Int64) * (((31 : Int64) * z9) + ((b10).toInt64))) + ((b11.1).toInt64))) + ((b12.1).toInt64), b12.2)) 1000 z6 (0 : Int32)) 1000 (((31 : Int64) * (((31 : Int64) * x1) + ((b2).toInt64))) + ((b3).toInt64)) (0 : Int32)
set_option maxRecDepth 100000 in
set_option maxHeartbeats 4000000 in
theorem fX7_tellsPerson_ok (x1 : Int64) (x3 : Int32) (M : mm_M)  : mm_E LR yX7_tellsPerson cX7_tellsPerson 7 (some .long) 8 mm_eL [.ref 0, .long x1, .int x3] M (fX7_tellsPerson x1 x3 M) := by
  refine mm_E.of (own := RX7) (ls := [some (.ref 0), some (.long x1), none, some (.int x3), none, none, none]) (by decide) rfl rfl (Nat.le_of_ble_eq_true rfl) ?_
  unfold fX7_tellsPerson
  refine mm_aload_n (q := 1) dX7_tellsPerson_0 rfl rfl rfl ?_
  refine mm_callVV (as := []) (st := []) (q := 4) lr_0 rfl (fX7_runs_ok M) ms_X7_218 rfl (Nat.le_of_ble_eq_true rfl) (Nat.le_of_ble_eq_true rfl) rfl dX7_tellsPerson_1 rfl (fun M1 _ => ?_)
  refine mm_ldc2 (q := 7) dX7_tellsPerson_4 rfl cn_X7_327 ?_
  refine mm_lload_n (q := 8) dX7_tellsPerson_7 rfl rfl rfl ?_
  refine mm_lmul (q := 9) dX7_tellsPerson_8 rfl ?_
  refine mm_aload_n (q := 10) dX7_tellsPerson_9 rfl rfl rfl ?_
  refine mm_getR (q := 13) (k1 := 7) dX7_tellsPerson_10 rfl lr_0 fd_X7_28 rfl ?_
  refine mm_iconst (q := 14) dX7_tellsPerson_13 rfl ic_2 ?_
  refine mm_iload_n (q := 15) dX7_tellsPerson_14 rfl rfl rfl ?_
  refine mm_imul (q := 16) dX7_tellsPerson_15 rfl ?_
  refine mm_iald (q := 17) dX7_tellsPerson_16 rfl lr_7 (fun b2 _ => ?_)
  refine mm_i2l (q := 18) dX7_tellsPerson_17 rfl ?_
  refine mm_ladd (q := 19) dX7_tellsPerson_18 rfl ?_
  refine mm_lstore (q := 21) (ls' := [some (.ref 0), some (.long x1), none, some (.int x3), some (.long (((31 : Int64) * x1) + ((b2).toInt64))), none, none]) dX7_tellsPerson_19 rfl rfl (Nat.le_of_ble_eq_true rfl) rfl ?_
  refine mm_ldc2 (q := 24) dX7_tellsPerson_21 rfl cn_X7_327 ?_
  refine mm_lload (q := 26) dX7_tellsPerson_24 rfl rfl ?_
  refine mm_lmul (q := 27) dX7_tellsPerson_26 rfl ?_
  refine mm_aload_n (q := 28) dX7_tellsPerson_27 rfl rfl rfl ?_
  refine mm_getR (q := 31) (k1 := 7) dX7_tellsPerson_28 rfl lr_0 fd_X7_28 rfl ?_
  refine mm_iconst (q := 32) dX7_tellsPerson_31 rfl ic_2 ?_
  refine mm_iload_n (q := 33) dX7_tellsPerson_32 rfl rfl rfl ?_
  refine mm_imul (q := 34) dX7_tellsPerson_33 rfl ?_
  refine mm_iconst (q := 35) dX7_tellsPerson_34 rfl ic_1 ?_
  refine mm_iadd (q := 36) dX7_tellsPerson_35 rfl ?_
  refine mm_iald (q := 37) dX7_tellsPerson_36 rfl lr_7 (fun b3 _ => ?_)
  refine mm_i2l (q := 38) dX7_tellsPerson_37 rfl ?_
  refine mm_ladd (q := 39) dX7_tellsPerson_38 rfl ?_
  refine mm_lstore (q := 41) (ls' := [some (.ref 0), some (.long x1), none, some (.int x3), some (.long (((31 : Int64) * (((31 : Int64) * x1) + ((b2).toInt64))) + ((b3).toInt64))), none, none]) dX7_tellsPerson_39 rfl rfl (Nat.le_of_ble_eq_true rfl) rfl ?_
  refine mm_iconst (q := 42) dX7_tellsPerson_41 rfl ic_0 ?_
  refine mm_istore (q := 44) (ls' := [some (.ref 0), some (.long x1), none, some (.int x3), some (.long (((31 : Int64) * (((31 : Int64) * x1) + ((b2).toInt64))) + ((b3).toInt64))), none, some (.int (0 : Int32))]) dX7_tellsPerson_42 rfl rfl (Nat.le_of_ble_eq_true rfl) rfl ?_
  refine mm_drop (ls' := [some (.ref 0), none, none, some (.int x3), some (.long (((31 : Int64) * (((31 : Int64) * x1) + ((b2).toInt64))) + ((b3).toInt64))), none, some (.int (0 : Int32))]) (mm_sub_at _ _ (And.intro rfl (And.intro rfl (And.intro rfl (And.intro rfl trivial))))) ?_
  refine fX7_tellsPerson_L44_ok x3 M1 _ (fun z6 => ?_) _ _ _
  refine mm_iconst (q := 76) dX7_tellsPerson_75 rfl ic_0 ?_
  refine mm_istore (q := 78) (ls' := [some (.ref 0), none, none, some (.int x3), some (.long z6), none, some (.int (0 : Int32))]) dX7_tellsPerson_76 rfl rfl (Nat.le_of_ble_eq_true rfl) rfl ?_
  refine fX7_tellsPerson_L78_ok x3 M1 _ (fun z9 => ?_) _ _ _
  refine mm_ldc2 (q := 112) dX7_tellsPerson_109 rfl cn_X7_327 ?_
  refine mm_lload (q := 114) dX7_tellsPerson_112 rfl rfl ?_
  refine mm_lmul (q := 115) dX7_tellsPerson_114 rfl ?_
  refine mm_aload_n (q := 116) dX7_tellsPerson_115 rfl rfl rfl ?_
  refine mm_iload_n (q := 117) dX7_tellsPerson_116 rfl rfl rfl ?_
  refine mm_callVP (as := [.int x3]) (st := [.long ((31 : Int64) * z9)]) (q := 120) lr_0 rfl (fX7_clearOf_ok x3 M1) ms_X7_236 rfl (Nat.le_of_ble_eq_true rfl) (Nat.le_of_ble_eq_true rfl) rfl dX7_tellsPerson_117 rfl (fun b10 _ => ?_)
  refine mm_i2l (q := 121) dX7_tellsPerson_120 rfl ?_
  refine mm_ladd (q := 122) dX7_tellsPerson_121 rfl ?_
  refine mm_lstore (q := 124) (ls' := [some (.ref 0), none, none, some (.int x3), some (.long (((31 : Int64) * z9) + ((b10).toInt64))), none, none]) dX7_tellsPerson_122 rfl rfl (Nat.le_of_ble_eq_true rfl) rfl ?_
  refine mm_ldc2 (q := 127) dX7_tellsPerson_124 rfl cn_X7_327 ?_
  refine mm_lload (q := 129) dX7_tellsPerson_127 rfl rfl ?_
  refine mm_lmul (q := 130) dX7_tellsPerson_129 rfl ?_
  refine mm_aload_n (q := 131) dX7_tellsPerson_130 rfl rfl rfl ?_
  refine mm_iload_n (q := 132) dX7_tellsPerson_131 rfl rfl rfl ?_
  refine mm_callVI (as := [.int x3]) (st := [.long ((31 : Int64) * (((31 : Int64) * z9) + ((b10).toInt64)))]) (q := 135) lr_0 rfl (fX7_liveOf_ok x3 M1) ms_X7_260 rfl (Nat.le_of_ble_eq_true rfl) (Nat.le_of_ble_eq_true rfl) rfl dX7_tellsPerson_132 rfl (fun b11 _ => ?_)
  refine mm_i2l (q := 136) dX7_tellsPerson_135 rfl ?_
  refine mm_ladd (q := 137) dX7_tellsPerson_136 rfl ?_
  refine mm_lstore (q := 139) (ls' := [some (.ref 0), none, none, some (.int x3), some (.long (((31 : Int64) * (((31 : Int64) * z9) + ((b10).toInt64))) + ((b11.1).toInt64))), none, none]) dX7_tellsPerson_137 rfl rfl (Nat.le_of_ble_eq_true rfl) rfl ?_
  refine mm_ldc2 (q := 142) dX7_tellsPerson_139 rfl cn_X7_327 ?_
  refine mm_lload (q := 144) dX7_tellsPerson_142 rfl rfl ?_
  refine mm_lmul (q := 145) dX7_tellsPerson_144 rfl ?_
  refine mm_aload_n (q := 146) dX7_tellsPerson_145 rfl rfl rfl ?_
  refine mm_iload_n (q := 147) dX7_tellsPerson_146 rfl rfl rfl ?_
  refine mm_callVI (as := [.int x3]) (st := [.long ((31 : Int64) * (((31 : Int64) * (((31 : Int64) * z9) + ((b10).toInt64))) + ((b11.1).toInt64)))]) (q := 150) lr_0 rfl (fX7_sortOf_ok x3 b11.2) ms_X7_289 rfl (Nat.le_of_ble_eq_true rfl) (Nat.le_of_ble_eq_true rfl) rfl dX7_tellsPerson_147 rfl (fun b12 _ => ?_)
  refine mm_i2l (q := 151) dX7_tellsPerson_150 rfl ?_
  refine mm_ladd (q := 152) dX7_tellsPerson_151 rfl ?_
  exact mm_lret rfl dX7_tellsPerson_152
def fX7_ringWith_L29 (x1 : Int32) (x2 : Int32) (x3 : Int32) (M : mm_M) (k67 : Int32 → Option (Int32)) : Nat → Int32 → Int32 → Option (Int32)
  | 0, _, _ => none
  | n + 1, x4, x5 =>
    if (8 : Int32) ≤ x5 then
      k67 x4
    else
      if (fX7_isIn x2 x5) = 0 then
        fX7_ringWith_L29 x1 x2 x3 M k67 n (x4 ||| (0 : Int32)) (x5 + (1 : Int32))
      else
        (mm_rd M 18 8 x5).bind fun b6 =>
        fX7_ringWith_L29 x1 x2 x3 M k67 n (x4 ||| b6) (x5 + (1 : Int32))
set_option maxRecDepth 100000 in
set_option maxHeartbeats 4000000 in
theorem fX7_ringWith_L29_ok (x1 : Int32) (x2 : Int32) (x3 : Int32) (M : mm_M)  (k67 : Int32 → Option (Int32)) (hk67 : ∀ (x4 : Int32), mm_C LR cX7_ringWith 6 RX7 (some .int) 1 (mm_pI M) 67 [some (.ref 0), some (.int x1), none, some (.int x3), some (.int x4), none] [] M (k67 x4)) : ∀ (n : Nat) (x4 : Int32) (x5 : Int32), mm_C LR cX7_ringWith 6 RX7 (some .int) 1 (mm_pI M) 29 [some (.ref 0), some (.int x1), some (.int x2), some (.int x3), some (.int x4), some (.int x5)] [] M (fX7_ringWith_L29 x1 x2 x3 M k67 n x4 x5) := by
  intro n
  induction n with
  | zero => intro x4 x5; exact mm_none
  | succ n ih =>
    intro x4 x5
    rw [fX7_ringWith_L29]
    refine mm_iload (q := 31) dX7_ringWith_29 rfl rfl ?_
    refine mm_bipush (q := 33) dX7_ringWith_31 rfl bp_8 ?_
    refine mm_icmp_ge (q := 36) (tgt := 67) dX7_ringWith_33 rfl (by decide) (fun c4 => ?_) (fun c4 => ?_)
    · refine mm_drop (ls' := [some (.ref 0), some (.int x1), none, some (.int x3), some (.int x4), none]) (mm_sub_at _ _ (And.intro rfl (And.intro rfl (And.intro rfl (And.intro rfl trivial))))) ?_
      exact hk67 _
    · refine mm_iload (q := 38) dX7_ringWith_36 rfl rfl ?_
      refine mm_iload_n (q := 39) dX7_ringWith_38 rfl rfl rfl ?_
      refine mm_iload (q := 41) dX7_ringWith_39 rfl rfl ?_
      refine mm_callST (as := [.int x2, .int x5]) (st := [.int x4]) (q := 44) (fX7_isIn_ok x2 x5 M) ms_X7_179 rfl (Nat.le_of_ble_eq_true rfl) (Nat.le_of_ble_eq_true rfl) rfl dX7_ringWith_41 rfl ?_
      refine mm_if_eq (q := 47) (tgt := 57) dX7_ringWith_44 rfl (by decide) (fun c5 => ?_) (fun c5 => ?_)
      · refine mm_iconst (q := 58) dX7_ringWith_57 rfl ic_0 ?_
        refine mm_ior (q := 59) dX7_ringWith_58 rfl ?_
        refine mm_istore (q := 61) (ls' := [some (.ref 0), some (.int x1), some (.int x2), some (.int x3), some (.int (x4 ||| (0 : Int32))), some (.int x5)]) dX7_ringWith_59 rfl rfl (Nat.le_of_ble_eq_true rfl) rfl ?_
        refine mm_iinc (q := 64) (ls' := [some (.ref 0), some (.int x1), some (.int x2), some (.int x3), some (.int (x4 ||| (0 : Int32))), some (.int (x5 + (1 : Int32)))]) dX7_ringWith_61 rfl rfl (ii_1 _) rfl (Nat.le_of_ble_eq_true rfl) rfl ?_
        refine mm_goto (tgt := 29) dX7_ringWith_64 (by decide) ?_
        exact ih _ _
      · refine mm_aload_n (q := 48) dX7_ringWith_47 rfl rfl rfl ?_
        refine mm_getR (q := 51) (k1 := 18) dX7_ringWith_48 rfl lr_0 fd_X7_61 rfl ?_
        refine mm_iload (q := 53) dX7_ringWith_51 rfl rfl ?_
        refine mm_iald (q := 54) dX7_ringWith_53 rfl lr_18 (fun b6 _ => ?_)
        refine mm_goto (tgt := 58) dX7_ringWith_54 (by decide) ?_
        refine mm_ior (q := 59) dX7_ringWith_58 rfl ?_
        refine mm_istore (q := 61) (ls' := [some (.ref 0), some (.int x1), some (.int x2), some (.int x3), some (.int (x4 ||| b6)), some (.int x5)]) dX7_ringWith_59 rfl rfl (Nat.le_of_ble_eq_true rfl) rfl ?_
        refine mm_iinc (q := 64) (ls' := [some (.ref 0), some (.int x1), some (.int x2), some (.int x3), some (.int (x4 ||| b6)), some (.int (x5 + (1 : Int32)))]) dX7_ringWith_61 rfl rfl (ii_1 _) rfl (Nat.le_of_ble_eq_true rfl) rfl ?_
        refine mm_goto (tgt := 29) dX7_ringWith_64 (by decide) ?_
        exact ih _ _
def fX7_ringWith_L9 (x1 : Int32) (M : mm_M)  : Nat → Int32 → Int32 → Option (Int32)
  | 0, _, _ => none
  | n + 1, x2, x3 =>
    if (fX7_isIn x2 x1) = 0 then
      (if (9 : Int32) ≤ x3 then
        some x3
      else
        fX7_ringWith_L29 x1 x2 x3 M (fun z7 =>
      fX7_ringWith_L9 x1 M n z7 (x3 + (1 : Int32))) 1000 x2 (0 : Int32))
    else
      some x3
set_option maxRecDepth 100000 in
set_option maxHeartbeats 4000000 in
theorem fX7_ringWith_L9_ok (x1 : Int32) (M : mm_M)    : ∀ (n : Nat) (x2 : Int32) (x3 : Int32), mm_C LR cX7_ringWith 6 RX7 (some .int) 1 (mm_pI M) 9 [some (.ref 0), some (.int x1), some (.int x2), some (.int x3), none, none] [] M (fX7_ringWith_L9 x1 M n x2 x3) := by
  intro n
  induction n with
  | zero => intro x2 x3; exact mm_none
  | succ n ih =>
    intro x2 x3
    rw [fX7_ringWith_L9]
    refine mm_iload_n (q := 10) dX7_ringWith_9 rfl rfl rfl ?_
    refine mm_iload_n (q := 11) dX7_ringWith_10 rfl rfl rfl ?_
    refine mm_callST (as := [.int x2, .int x1]) (st := []) (q := 14) (fX7_isIn_ok x2 x1 M) ms_X7_179 rfl (Nat.le_of_ble_eq_true rfl) (Nat.le_of_ble_eq_true rfl) rfl dX7_ringWith_11 rfl ?_
    refine mm_if_ne (q := 17) (tgt := 76) dX7_ringWith_14 rfl (by decide) (fun c2 => ?_) (fun c2 => ?_)
    · refine mm_iload_n (q := 18) dX7_ringWith_17 rfl rfl rfl ?_
      refine mm_bipush (q := 20) dX7_ringWith_18 rfl bp_9 ?_
      refine mm_icmp_ge (q := 23) (tgt := 76) dX7_ringWith_20 rfl (by decide) (fun c3 => ?_) (fun c3 => ?_)
      · refine mm_iload_n (q := 77) dX7_ringWith_76 rfl rfl rfl ?_
        exact mm_iret rfl dX7_ringWith_77
      · refine mm_iload_n (q := 24) dX7_ringWith_23 rfl rfl rfl ?_
        refine mm_istore (q := 26) (ls' := [some (.ref 0), some (.int x1), some (.int x2), some (.int x3), some (.int x2), none]) dX7_ringWith_24 rfl rfl (Nat.le_of_ble_eq_true rfl) rfl ?_
        refine mm_iconst (q := 27) dX7_ringWith_26 rfl ic_0 ?_
        refine mm_istore (q := 29) (ls' := [some (.ref 0), some (.int x1), some (.int x2), some (.int x3), some (.int x2), some (.int (0 : Int32))]) dX7_ringWith_27 rfl rfl (Nat.le_of_ble_eq_true rfl) rfl ?_
        refine fX7_ringWith_L29_ok x1 x2 x3 M _ (fun z7 => ?_) _ _ _
        refine mm_iload (q := 69) dX7_ringWith_67 rfl rfl ?_
        refine mm_istore_n (q := 70) (ls' := [some (.ref 0), some (.int x1), some (.int z7), some (.int x3), some (.int z7), none]) dX7_ringWith_69 rfl rfl rfl (Nat.le_of_ble_eq_true rfl) rfl ?_
        refine mm_iinc (q := 73) (ls' := [some (.ref 0), some (.int x1), some (.int z7), some (.int (x3 + (1 : Int32))), some (.int z7), none]) dX7_ringWith_70 rfl rfl (ii_1 _) rfl (Nat.le_of_ble_eq_true rfl) rfl ?_
        refine mm_goto (tgt := 9) dX7_ringWith_73 (by decide) ?_
        refine mm_drop (ls' := [some (.ref 0), some (.int x1), some (.int z7), some (.int (x3 + (1 : Int32))), none, none]) (mm_sub_at _ _ (And.intro rfl (And.intro rfl (And.intro rfl (And.intro rfl trivial))))) ?_
        exact ih _ _
    · refine mm_iload_n (q := 77) dX7_ringWith_76 rfl rfl rfl ?_
      exact mm_iret rfl dX7_ringWith_77
def fX7_ringWith (x1 : Int32) (M : mm_M) : Option (Int32) :=
  (mm_rd M 18 8 x1).bind fun b1 =>
  fX7_ringWith_L9 x1 M 1000 b1 (1 : Int32)
set_option maxRecDepth 100000 in
set_option maxHeartbeats 4000000 in
theorem fX7_ringWith_ok (x1 : Int32) (M : mm_M)  : mm_E LR yX7_ringWith cX7_ringWith 6 (some .int) 1 (mm_pI M) [.ref 0, .int x1] M (fX7_ringWith x1 M) := by
  refine mm_E.of (own := RX7) (ls := [some (.ref 0), some (.int x1), none, none, none, none]) (by decide) rfl rfl (Nat.le_of_ble_eq_true rfl) ?_
  unfold fX7_ringWith
  refine mm_aload_n (q := 1) dX7_ringWith_0 rfl rfl rfl ?_
  refine mm_getR (q := 4) (k1 := 18) dX7_ringWith_1 rfl lr_0 fd_X7_61 rfl ?_
  refine mm_iload_n (q := 5) dX7_ringWith_4 rfl rfl rfl ?_
  refine mm_iald (q := 6) dX7_ringWith_5 rfl lr_18 (fun b1 _ => ?_)
  refine mm_istore_n (q := 7) (ls' := [some (.ref 0), some (.int x1), some (.int b1), none, none, none]) dX7_ringWith_6 rfl rfl rfl (Nat.le_of_ble_eq_true rfl) rfl ?_
  refine mm_iconst (q := 8) dX7_ringWith_7 rfl ic_1 ?_
  refine mm_istore_n (q := 9) (ls' := [some (.ref 0), some (.int x1), some (.int b1), some (.int (1 : Int32)), none, none]) dX7_ringWith_8 rfl rfl rfl (Nat.le_of_ble_eq_true rfl) rfl ?_
  exact fX7_ringWith_L9_ok x1 M _ _ _
def fX7_ringOf_L14 (x2 : Int32) (M : mm_M)  : Nat → Int32 → Int32 → Int32 → Option (Int32 × mm_M)
  | 0, _, _, _ => none
  | n + 1, x3, x4, x5 =>
    if (M 0 7) ≤ x5 then
      (if x3 = (-1 : Int32) then
        some ((-1 : Int32), M)
      else
        if x2 = 0 then
          some (x4, M)
        else
          some (x3, M))
    else
      (fX7_ringWith x5 M).bind fun b5 =>
      fX7_ringOf_L14 x2 M n (if x4 ≤ b5 then x3 else x5) (fX7_lesser b5 x4) (x5 + (1 : Int32))
set_option maxRecDepth 100000 in
set_option maxHeartbeats 4000000 in
theorem fX7_ringOf_L14_ok (x2 : Int32) (M : mm_M)    : ∀ (n : Nat) (x3 : Int32) (x4 : Int32) (x5 : Int32), mm_C LR cX7_ringOf 7 RX7 (some .int) 2 mm_eI 14 [some (.ref 0), none, some (.int x2), some (.int x3), some (.int x4), some (.int x5), none] [] M (fX7_ringOf_L14 x2 M n x3 x4 x5) := by
  intro n
  induction n with
  | zero => intro x3 x4 x5; exact mm_none
  | succ n ih =>
    intro x3 x4 x5
    rw [fX7_ringOf_L14]
    refine mm_iload (q := 16) dX7_ringOf_14 rfl rfl ?_
    refine mm_aload_n (q := 17) dX7_ringOf_16 rfl rfl rfl ?_
    refine mm_getI (q := 20) dX7_ringOf_17 rfl lr_0 fd_X7_116 rfl ?_
    refine mm_icmp_ge (q := 23) (tgt := 60) dX7_ringOf_20 rfl (by decide) (fun c2 => ?_) (fun c2 => ?_)
    · refine mm_iload_n (q := 61) dX7_ringOf_60 rfl rfl rfl ?_
      refine mm_iconst (q := 62) dX7_ringOf_61 rfl ic_m1 ?_
      refine mm_icmp_ne (q := 65) (tgt := 69) dX7_ringOf_62 rfl (by decide) (fun c3 => ?_) (fun c3 => ?_)
      · refine mm_iconst (q := 66) dX7_ringOf_65 rfl ic_m1 ?_
        refine mm_goto (tgt := 79) dX7_ringOf_66 (by decide) ?_
        exact mm_iret rfl dX7_ringOf_79
      · refine mm_iload_n (q := 70) dX7_ringOf_69 rfl rfl rfl ?_
        refine mm_if_ne (q := 73) (tgt := 78) dX7_ringOf_70 rfl (by decide) (fun c4 => ?_) (fun c4 => ?_)
        · refine mm_iload (q := 75) dX7_ringOf_73 rfl rfl ?_
          refine mm_goto (tgt := 79) dX7_ringOf_75 (by decide) ?_
          exact mm_iret rfl dX7_ringOf_79
        · refine mm_iload_n (q := 79) dX7_ringOf_78 rfl rfl rfl ?_
          exact mm_iret rfl dX7_ringOf_79
    · refine mm_aload_n (q := 24) dX7_ringOf_23 rfl rfl rfl ?_
      refine mm_iload (q := 26) dX7_ringOf_24 rfl rfl ?_
      refine mm_callVP (as := [.int x5]) (st := []) (q := 29) lr_0 rfl (fX7_ringWith_ok x5 M) ms_X7_245 rfl (Nat.le_of_ble_eq_true rfl) (Nat.le_of_ble_eq_true rfl) rfl dX7_ringOf_26 rfl (fun b5 _ => ?_)
      refine mm_istore (q := 31) (ls' := [some (.ref 0), none, some (.int x2), some (.int x3), some (.int x4), some (.int x5), some (.int b5)]) dX7_ringOf_29 rfl rfl (Nat.le_of_ble_eq_true rfl) rfl ?_
      refine mm_iload (q := 33) dX7_ringOf_31 rfl rfl ?_
      refine mm_iload (q := 35) dX7_ringOf_33 rfl rfl ?_
      by_cases c6 : x4 ≤ b5
      · simp only [if_pos c6]
        refine mm_icmp_ge_t (tgt := 43) c6 dX7_ringOf_35 (by decide) ?_
        refine mm_iload_n (q := 44) dX7_ringOf_43 rfl rfl rfl ?_
        refine mm_istore_n (q := 45) (ls' := [some (.ref 0), none, some (.int x2), some (.int x3), some (.int x4), some (.int x5), some (.int b5)]) dX7_ringOf_44 rfl rfl rfl (Nat.le_of_ble_eq_true rfl) rfl ?_
        refine mm_iload (q := 47) dX7_ringOf_45 rfl rfl ?_
        refine mm_iload (q := 49) dX7_ringOf_47 rfl rfl ?_
        refine mm_callST (as := [.int b5, .int x4]) (st := []) (q := 52) (fX7_lesser_ok b5 x4 M) ms_X7_183 rfl (Nat.le_of_ble_eq_true rfl) (Nat.le_of_ble_eq_true rfl) rfl dX7_ringOf_49 rfl ?_
        refine mm_istore (q := 54) (ls' := [some (.ref 0), none, some (.int x2), some (.int x3), some (.int (fX7_lesser b5 x4)), some (.int x5), some (.int b5)]) dX7_ringOf_52 rfl rfl (Nat.le_of_ble_eq_true rfl) rfl ?_
        refine mm_iinc (q := 57) (ls' := [some (.ref 0), none, some (.int x2), some (.int x3), some (.int (fX7_lesser b5 x4)), some (.int (x5 + (1 : Int32))), some (.int b5)]) dX7_ringOf_54 rfl rfl (ii_1 _) rfl (Nat.le_of_ble_eq_true rfl) rfl ?_
        refine mm_goto (tgt := 14) dX7_ringOf_57 (by decide) ?_
        refine mm_drop (ls' := [some (.ref 0), none, some (.int x2), some (.int x3), some (.int (fX7_lesser b5 x4)), some (.int (x5 + (1 : Int32))), none]) (mm_sub_at _ _ (And.intro rfl (And.intro rfl (And.intro rfl (And.intro rfl (And.intro rfl trivial)))))) ?_
        exact ih _ _ _
      · simp only [if_neg c6]
        refine mm_icmp_ge_f (q := 38) (tgt := 43) c6 dX7_ringOf_35 rfl (by decide) ?_
        refine mm_iload (q := 40) dX7_ringOf_38 rfl rfl ?_
        refine mm_goto (tgt := 44) dX7_ringOf_40 (by decide) ?_
        refine mm_istore_n (q := 45) (ls' := [some (.ref 0), none, some (.int x2), some (.int x5), some (.int x4), some (.int x5), some (.int b5)]) dX7_ringOf_44 rfl rfl rfl (Nat.le_of_ble_eq_true rfl) rfl ?_
        refine mm_iload (q := 47) dX7_ringOf_45 rfl rfl ?_
        refine mm_iload (q := 49) dX7_ringOf_47 rfl rfl ?_
        refine mm_callST (as := [.int b5, .int x4]) (st := []) (q := 52) (fX7_lesser_ok b5 x4 M) ms_X7_183 rfl (Nat.le_of_ble_eq_true rfl) (Nat.le_of_ble_eq_true rfl) rfl dX7_ringOf_49 rfl ?_
        refine mm_istore (q := 54) (ls' := [some (.ref 0), none, some (.int x2), some (.int x5), some (.int (fX7_lesser b5 x4)), some (.int x5), some (.int b5)]) dX7_ringOf_52 rfl rfl (Nat.le_of_ble_eq_true rfl) rfl ?_
        refine mm_iinc (q := 57) (ls' := [some (.ref 0), none, some (.int x2), some (.int x5), some (.int (fX7_lesser b5 x4)), some (.int (x5 + (1 : Int32))), some (.int b5)]) dX7_ringOf_54 rfl rfl (ii_1 _) rfl (Nat.le_of_ble_eq_true rfl) rfl ?_
        refine mm_goto (tgt := 14) dX7_ringOf_57 (by decide) ?_
        refine mm_drop (ls' := [some (.ref 0), none, some (.int x2), some (.int x5), some (.int (fX7_lesser b5 x4)), some (.int (x5 + (1 : Int32))), none]) (mm_sub_at _ _ (And.intro rfl (And.intro rfl (And.intro rfl (And.intro rfl (And.intro rfl trivial)))))) ?_
        exact ih _ _ _
def fX7_ringOf (x1 : Int32) (x2 : Int32) (M : mm_M) : Option (Int32 × mm_M) :=
  (fX7_debts x1 M).bind fun M1 =>
  fX7_ringOf_L14 x2 M1 1000 (-1 : Int32) (9 : Int32) (0 : Int32)
set_option maxRecDepth 100000 in
set_option maxHeartbeats 4000000 in
theorem fX7_ringOf_ok (x1 : Int32) (x2 : Int32) (M : mm_M)  : mm_E LR yX7_ringOf cX7_ringOf 7 (some .int) 2 mm_eI [.ref 0, .int x1, .int x2] M (fX7_ringOf x1 x2 M) := by
  refine mm_E.of (own := RX7) (ls := [some (.ref 0), some (.int x1), some (.int x2), none, none, none, none]) (by decide) rfl rfl (Nat.le_of_ble_eq_true rfl) ?_
  unfold fX7_ringOf
  refine mm_aload_n (q := 1) dX7_ringOf_0 rfl rfl rfl ?_
  refine mm_iload_n (q := 2) dX7_ringOf_1 rfl rfl rfl ?_
  refine mm_callVV (as := [.int x1]) (st := []) (q := 5) lr_0 rfl (fX7_debts_ok x1 M) ms_X7_242 rfl (Nat.le_of_ble_eq_true rfl) (Nat.le_of_ble_eq_true rfl) rfl dX7_ringOf_2 rfl (fun M1 _ => ?_)
  refine mm_iconst (q := 6) dX7_ringOf_5 rfl ic_m1 ?_
  refine mm_istore_n (q := 7) (ls' := [some (.ref 0), some (.int x1), some (.int x2), some (.int (-1 : Int32)), none, none, none]) dX7_ringOf_6 rfl rfl rfl (Nat.le_of_ble_eq_true rfl) rfl ?_
  refine mm_bipush (q := 9) dX7_ringOf_7 rfl bp_9 ?_
  refine mm_istore (q := 11) (ls' := [some (.ref 0), some (.int x1), some (.int x2), some (.int (-1 : Int32)), some (.int (9 : Int32)), none, none]) dX7_ringOf_9 rfl rfl (Nat.le_of_ble_eq_true rfl) rfl ?_
  refine mm_iconst (q := 12) dX7_ringOf_11 rfl ic_0 ?_
  refine mm_istore (q := 14) (ls' := [some (.ref 0), some (.int x1), some (.int x2), some (.int (-1 : Int32)), some (.int (9 : Int32)), some (.int (0 : Int32)), none]) dX7_ringOf_12 rfl rfl (Nat.le_of_ble_eq_true rfl) rfl ?_
  refine mm_drop (ls' := [some (.ref 0), none, some (.int x2), some (.int (-1 : Int32)), some (.int (9 : Int32)), some (.int (0 : Int32)), none]) (mm_sub_at _ _ (And.intro rfl (And.intro rfl (And.intro rfl (And.intro rfl (And.intro rfl trivial)))))) ?_
  exact fX7_ringOf_L14_ok x2 M1 _ _ _ _
def fX7_silentNow_L4 (M : mm_M)  : Nat → Int32 → Int32 → Option (Int32)
  | 0, _, _ => none
  | n + 1, x1, x2 =>
    if (M 0 7) ≤ x2 then
      some x1
    else
      (mm_rd M 13 8 x2).bind fun b2 =>
      fX7_silentNow_L4 M n (if b2 = 0 then x1 ||| ((1 : Int32) <<< (x2 &&& 31)) else x1 ||| (0 : Int32)) (x2 + (1 : Int32))
set_option maxRecDepth 100000 in
set_option maxHeartbeats 4000000 in
theorem fX7_silentNow_L4_ok (M : mm_M)    : ∀ (n : Nat) (x1 : Int32) (x2 : Int32), mm_C LR cX7_silentNow 3 RX7 (some .int) 0 (mm_pI M) 4 [some (.ref 0), some (.int x1), some (.int x2)] [] M (fX7_silentNow_L4 M n x1 x2) := by
  intro n
  induction n with
  | zero => intro x1 x2; exact mm_none
  | succ n ih =>
    intro x1 x2
    rw [fX7_silentNow_L4]
    refine mm_iload_n (q := 5) dX7_silentNow_4 rfl rfl rfl ?_
    refine mm_aload_n (q := 6) dX7_silentNow_5 rfl rfl rfl ?_
    refine mm_getI (q := 9) dX7_silentNow_6 rfl lr_0 fd_X7_116 rfl ?_
    refine mm_icmp_ge (q := 12) (tgt := 37) dX7_silentNow_9 rfl (by decide) (fun c1 => ?_) (fun c1 => ?_)
    · refine mm_iload_n (q := 38) dX7_silentNow_37 rfl rfl rfl ?_
      exact mm_iret rfl dX7_silentNow_38
    · refine mm_iload_n (q := 13) dX7_silentNow_12 rfl rfl rfl ?_
      refine mm_aload_n (q := 14) dX7_silentNow_13 rfl rfl rfl ?_
      refine mm_getR (q := 17) (k1 := 13) dX7_silentNow_14 rfl lr_0 fd_X7_46 rfl ?_
      refine mm_iload_n (q := 18) dX7_silentNow_17 rfl rfl rfl ?_
      refine mm_iald (q := 19) dX7_silentNow_18 rfl lr_13 (fun b2 _ => ?_)
      by_cases c3 : b2 = 0
      · simp only [if_pos c3]
        refine mm_if_ne_t (q := 22) (tgt := 28) c3 dX7_silentNow_19 rfl (by decide) ?_
        refine mm_iconst (q := 23) dX7_silentNow_22 rfl ic_1 ?_
        refine mm_iload_n (q := 24) dX7_silentNow_23 rfl rfl rfl ?_
        refine mm_ishl (q := 25) dX7_silentNow_24 rfl ?_
        refine mm_goto (tgt := 29) dX7_silentNow_25 (by decide) ?_
        refine mm_ior (q := 30) dX7_silentNow_29 rfl ?_
        refine mm_istore_n (q := 31) (ls' := [some (.ref 0), some (.int (x1 ||| ((1 : Int32) <<< (x2 &&& 31)))), some (.int x2)]) dX7_silentNow_30 rfl rfl rfl (Nat.le_of_ble_eq_true rfl) rfl ?_
        refine mm_iinc (q := 34) (ls' := [some (.ref 0), some (.int (x1 ||| ((1 : Int32) <<< (x2 &&& 31)))), some (.int (x2 + (1 : Int32)))]) dX7_silentNow_31 rfl rfl (ii_1 _) rfl (Nat.le_of_ble_eq_true rfl) rfl ?_
        refine mm_goto (tgt := 4) dX7_silentNow_34 (by decide) ?_
        exact ih _ _
      · simp only [if_neg c3]
        refine mm_if_ne_f (tgt := 28) c3 dX7_silentNow_19 (by decide) ?_
        refine mm_iconst (q := 29) dX7_silentNow_28 rfl ic_0 ?_
        refine mm_ior (q := 30) dX7_silentNow_29 rfl ?_
        refine mm_istore_n (q := 31) (ls' := [some (.ref 0), some (.int (x1 ||| (0 : Int32))), some (.int x2)]) dX7_silentNow_30 rfl rfl rfl (Nat.le_of_ble_eq_true rfl) rfl ?_
        refine mm_iinc (q := 34) (ls' := [some (.ref 0), some (.int (x1 ||| (0 : Int32))), some (.int (x2 + (1 : Int32)))]) dX7_silentNow_31 rfl rfl (ii_1 _) rfl (Nat.le_of_ble_eq_true rfl) rfl ?_
        refine mm_goto (tgt := 4) dX7_silentNow_34 (by decide) ?_
        exact ih _ _
def fX7_silentNow  (M : mm_M) : Option (Int32) :=
  fX7_silentNow_L4 M 1000 (0 : Int32) (0 : Int32)
set_option maxRecDepth 100000 in
set_option maxHeartbeats 4000000 in
theorem fX7_silentNow_ok  (M : mm_M)  : mm_E LR yX7_silentNow cX7_silentNow 3 (some .int) 0 (mm_pI M) [.ref 0] M (fX7_silentNow M) := by
  refine mm_E.of (own := RX7) (ls := [some (.ref 0), none, none]) (by decide) rfl rfl (Nat.le_of_ble_eq_true rfl) ?_
  unfold fX7_silentNow
  refine mm_iconst (q := 1) dX7_silentNow_0 rfl ic_0 ?_
  refine mm_istore_n (q := 2) (ls' := [some (.ref 0), some (.int (0 : Int32)), none]) dX7_silentNow_1 rfl rfl rfl (Nat.le_of_ble_eq_true rfl) rfl ?_
  refine mm_iconst (q := 3) dX7_silentNow_2 rfl ic_0 ?_
  refine mm_istore_n (q := 4) (ls' := [some (.ref 0), some (.int (0 : Int32)), some (.int (0 : Int32))]) dX7_silentNow_3 rfl rfl rfl (Nat.le_of_ble_eq_true rfl) rfl ?_
  exact fX7_silentNow_L4_ok M _ _ _
def fX7_owedYet_L4 (M : mm_M)  : Nat → Int32 → Int32 → Option (Int32)
  | 0, _, _ => none
  | n + 1, x1, x2 =>
    if (M 0 9) ≤ x2 then
      some x1
    else
      (mm_rd M 11 12 x2).bind fun b2 =>
      if b2 = 0 then
        ((mm_rd M 12 12 x2).bind fun b4 =>
        fX7_owedYet_L4 M n (x1 + b4) (x2 + (1 : Int32)))
      else
        (mm_rd M 11 12 x2).bind fun b5 =>
        if b5 = (3 : Int32) then
          ((mm_rd M 12 12 x2).bind fun b7 =>
          fX7_owedYet_L4 M n (x1 + b7) (x2 + (1 : Int32)))
        else
          fX7_owedYet_L4 M n (x1 + (0 : Int32)) (x2 + (1 : Int32))
set_option maxRecDepth 100000 in
set_option maxHeartbeats 4000000 in
theorem fX7_owedYet_L4_ok (M : mm_M)    : ∀ (n : Nat) (x1 : Int32) (x2 : Int32), mm_C LR cX7_owedYet 3 RX7 (some .int) 0 (mm_pI M) 4 [some (.ref 0), some (.int x1), some (.int x2)] [] M (fX7_owedYet_L4 M n x1 x2) := by
  intro n
  induction n with
  | zero => intro x1 x2; exact mm_none
  | succ n ih =>
    intro x1 x2
    rw [fX7_owedYet_L4]
    refine mm_iload_n (q := 5) dX7_owedYet_4 rfl rfl rfl ?_
    refine mm_aload_n (q := 6) dX7_owedYet_5 rfl rfl rfl ?_
    refine mm_getI (q := 9) dX7_owedYet_6 rfl lr_0 fd_X7_125 rfl ?_
    refine mm_icmp_ge (q := 12) (tgt := 50) dX7_owedYet_9 rfl (by decide) (fun c1 => ?_) (fun c1 => ?_)
    · refine mm_iload_n (q := 51) dX7_owedYet_50 rfl rfl rfl ?_
      exact mm_iret rfl dX7_owedYet_51
    · refine mm_iload_n (q := 13) dX7_owedYet_12 rfl rfl rfl ?_
      refine mm_aload_n (q := 14) dX7_owedYet_13 rfl rfl rfl ?_
      refine mm_getR (q := 17) (k1 := 11) dX7_owedYet_14 rfl lr_0 fd_X7_40 rfl ?_
      refine mm_iload_n (q := 18) dX7_owedYet_17 rfl rfl rfl ?_
      refine mm_iald (q := 19) dX7_owedYet_18 rfl lr_11 (fun b2 _ => ?_)
      refine mm_if_eq (q := 22) (tgt := 32) dX7_owedYet_19 rfl (by decide) (fun c3 => ?_) (fun c3 => ?_)
      · refine mm_aload_n (q := 33) dX7_owedYet_32 rfl rfl rfl ?_
        refine mm_getR (q := 36) (k1 := 12) dX7_owedYet_33 rfl lr_0 fd_X7_43 rfl ?_
        refine mm_iload_n (q := 37) dX7_owedYet_36 rfl rfl rfl ?_
        refine mm_iald (q := 38) dX7_owedYet_37 rfl lr_12 (fun b4 _ => ?_)
        refine mm_goto (tgt := 42) dX7_owedYet_38 (by decide) ?_
        refine mm_iadd (q := 43) dX7_owedYet_42 rfl ?_
        refine mm_istore_n (q := 44) (ls' := [some (.ref 0), some (.int (x1 + b4)), some (.int x2)]) dX7_owedYet_43 rfl rfl rfl (Nat.le_of_ble_eq_true rfl) rfl ?_
        refine mm_iinc (q := 47) (ls' := [some (.ref 0), some (.int (x1 + b4)), some (.int (x2 + (1 : Int32)))]) dX7_owedYet_44 rfl rfl (ii_1 _) rfl (Nat.le_of_ble_eq_true rfl) rfl ?_
        refine mm_goto (tgt := 4) dX7_owedYet_47 (by decide) ?_
        exact ih _ _
      · refine mm_aload_n (q := 23) dX7_owedYet_22 rfl rfl rfl ?_
        refine mm_getR (q := 26) (k1 := 11) dX7_owedYet_23 rfl lr_0 fd_X7_40 rfl ?_
        refine mm_iload_n (q := 27) dX7_owedYet_26 rfl rfl rfl ?_
        refine mm_iald (q := 28) dX7_owedYet_27 rfl lr_11 (fun b5 _ => ?_)
        refine mm_iconst (q := 29) dX7_owedYet_28 rfl ic_3 ?_
        refine mm_icmp_ne (q := 32) (tgt := 41) dX7_owedYet_29 rfl (by decide) (fun c6 => ?_) (fun c6 => ?_)
        · refine mm_aload_n (q := 33) dX7_owedYet_32 rfl rfl rfl ?_
          refine mm_getR (q := 36) (k1 := 12) dX7_owedYet_33 rfl lr_0 fd_X7_43 rfl ?_
          refine mm_iload_n (q := 37) dX7_owedYet_36 rfl rfl rfl ?_
          refine mm_iald (q := 38) dX7_owedYet_37 rfl lr_12 (fun b7 _ => ?_)
          refine mm_goto (tgt := 42) dX7_owedYet_38 (by decide) ?_
          refine mm_iadd (q := 43) dX7_owedYet_42 rfl ?_
          refine mm_istore_n (q := 44) (ls' := [some (.ref 0), some (.int (x1 + b7)), some (.int x2)]) dX7_owedYet_43 rfl rfl rfl (Nat.le_of_ble_eq_true rfl) rfl ?_
          refine mm_iinc (q := 47) (ls' := [some (.ref 0), some (.int (x1 + b7)), some (.int (x2 + (1 : Int32)))]) dX7_owedYet_44 rfl rfl (ii_1 _) rfl (Nat.le_of_ble_eq_true rfl) rfl ?_
          refine mm_goto (tgt := 4) dX7_owedYet_47 (by decide) ?_
          exact ih _ _
        · refine mm_iconst (q := 42) dX7_owedYet_41 rfl ic_0 ?_
          refine mm_iadd (q := 43) dX7_owedYet_42 rfl ?_
          refine mm_istore_n (q := 44) (ls' := [some (.ref 0), some (.int (x1 + (0 : Int32))), some (.int x2)]) dX7_owedYet_43 rfl rfl rfl (Nat.le_of_ble_eq_true rfl) rfl ?_
          refine mm_iinc (q := 47) (ls' := [some (.ref 0), some (.int (x1 + (0 : Int32))), some (.int (x2 + (1 : Int32)))]) dX7_owedYet_44 rfl rfl (ii_1 _) rfl (Nat.le_of_ble_eq_true rfl) rfl ?_
          refine mm_goto (tgt := 4) dX7_owedYet_47 (by decide) ?_
          exact ih _ _
def fX7_owedYet  (M : mm_M) : Option (Int32) :=
  fX7_owedYet_L4 M 1000 (0 : Int32) (0 : Int32)
set_option maxRecDepth 100000 in
set_option maxHeartbeats 4000000 in
theorem fX7_owedYet_ok  (M : mm_M)  : mm_E LR yX7_owedYet cX7_owedYet 3 (some .int) 0 (mm_pI M) [.ref 0] M (fX7_owedYet M) := by
  refine mm_E.of (own := RX7) (ls := [some (.ref 0), none, none]) (by decide) rfl rfl (Nat.le_of_ble_eq_true rfl) ?_
  unfold fX7_owedYet
  refine mm_iconst (q := 1) dX7_owedYet_0 rfl ic_0 ?_
  refine mm_istore_n (q := 2) (ls' := [some (.ref 0), some (.int (0 : Int32)), none]) dX7_owedYet_1 rfl rfl rfl (Nat.le_of_ble_eq_true rfl) rfl ?_
  refine mm_iconst (q := 3) dX7_owedYet_2 rfl ic_0 ?_
  refine mm_istore_n (q := 4) (ls' := [some (.ref 0), some (.int (0 : Int32)), some (.int (0 : Int32))]) dX7_owedYet_3 rfl rfl rfl (Nat.le_of_ble_eq_true rfl) rfl ?_
  exact fX7_owedYet_L4_ok M _ _ _
def fX7_meetOf_L15 (x2 : Int32) (k101 : Int32 → Int32 → mm_M → Option (Int32 × mm_M)) : Nat → Int32 → Int32 → Int32 → mm_M → Option (Int32 × mm_M)
  | 0, _, _, _, _ => none
  | n + 1, x3, x4, x5, M =>
    if (64 : Int32) ≤ x5 then
      k101 x3 x4 M
    else
      (mm_pf M 0 17 (x5 / (8 : Int32))).bind fun M3 =>
      (mm_pf M3 0 18 (x5 - x5 / (8 : Int32) * (8 : Int32))).bind fun M4 =>
      if (M4 0 18) ≤ (M4 0 17) then
        fX7_meetOf_L15 x2 k101 n x3 x4 (x5 + (1 : Int32)) M4
      else
        (fX7_isPerson (M4 0 18) M4).bind fun b6 =>
        if b6 = 0 then
          fX7_meetOf_L15 x2 k101 n x3 x4 (x5 + (1 : Int32)) M4
        else
          (fX7_runs M4).bind fun M8 =>
          (fX7_owedYet M8).bind fun b9 =>
          fX7_meetOf_L15 x2 k101 n (if x4 ≤ b9 then x3 else x5) (fX7_lesser b9 x4) (x5 + (1 : Int32)) M8
set_option maxRecDepth 100000 in
set_option maxHeartbeats 4000000 in
theorem fX7_meetOf_L15_ok (x2 : Int32)  (k101 : Int32 → Int32 → mm_M → Option (Int32 × mm_M)) (hk101 : ∀ (x3 : Int32) (x4 : Int32) (M : mm_M), mm_C LR cX7_meetOf 7 RX7 (some .int) 6 mm_eI 101 [some (.ref 0), none, some (.int x2), some (.int x3), some (.int x4), none, none] [] M (k101 x3 x4 M)) : ∀ (n : Nat) (x3 : Int32) (x4 : Int32) (x5 : Int32) (M : mm_M), mm_C LR cX7_meetOf 7 RX7 (some .int) 6 mm_eI 15 [some (.ref 0), none, some (.int x2), some (.int x3), some (.int x4), some (.int x5), none] [] M (fX7_meetOf_L15 x2 k101 n x3 x4 x5 M) := by
  intro n
  induction n with
  | zero => intro x3 x4 x5 M; exact mm_none
  | succ n ih =>
    intro x3 x4 x5 M
    rw [fX7_meetOf_L15]
    refine mm_iload (q := 17) dX7_meetOf_15 rfl rfl ?_
    refine mm_bipush (q := 19) dX7_meetOf_17 rfl bp_64 ?_
    refine mm_icmp_ge (q := 22) (tgt := 101) dX7_meetOf_19 rfl (by decide) (fun c2 => ?_) (fun c2 => ?_)
    · refine mm_drop (ls' := [some (.ref 0), none, some (.int x2), some (.int x3), some (.int x4), none, none]) (mm_sub_at _ _ (And.intro rfl (And.intro rfl (And.intro rfl (And.intro rfl trivial))))) ?_
      exact hk101 _ _ _
    · refine mm_aload_n (q := 23) dX7_meetOf_22 rfl rfl rfl ?_
      refine mm_iload (q := 25) dX7_meetOf_23 rfl rfl ?_
      refine mm_bipush (q := 27) dX7_meetOf_25 rfl bp_8 ?_
      refine mm_idivC (q := 28) dX7_meetOf_27 rfl (by decide) ?_
      refine mm_put (q := 31) dX7_meetOf_28 rfl lr_0 fd_X7_205 ps_X7_17 rfl rfl rfl (fun M3 _ => ?_)
      refine mm_aload_n (q := 32) dX7_meetOf_31 rfl rfl rfl ?_
      refine mm_iload (q := 34) dX7_meetOf_32 rfl rfl ?_
      refine mm_bipush (q := 36) dX7_meetOf_34 rfl bp_8 ?_
      refine mm_iremC (q := 37) dX7_meetOf_36 rfl (by decide) ?_
      refine mm_put (q := 40) dX7_meetOf_37 rfl lr_0 fd_X7_208 ps_X7_18 rfl rfl rfl (fun M4 _ => ?_)
      refine mm_aload_n (q := 41) dX7_meetOf_40 rfl rfl rfl ?_
      refine mm_getI (q := 44) dX7_meetOf_41 rfl lr_0 fd_X7_205 rfl ?_
      refine mm_aload_n (q := 45) dX7_meetOf_44 rfl rfl rfl ?_
      refine mm_getI (q := 48) dX7_meetOf_45 rfl lr_0 fd_X7_208 rfl ?_
      refine mm_icmp_ge (q := 51) (tgt := 95) dX7_meetOf_48 rfl (by decide) (fun c5 => ?_) (fun c5 => ?_)
      · refine mm_iinc (q := 98) (ls' := [some (.ref 0), none, some (.int x2), some (.int x3), some (.int x4), some (.int (x5 + (1 : Int32))), none]) dX7_meetOf_95 rfl rfl (ii_1 _) rfl (Nat.le_of_ble_eq_true rfl) rfl ?_
        refine mm_goto (tgt := 15) dX7_meetOf_98 (by decide) ?_
        exact ih _ _ _ _
      · refine mm_aload_n (q := 52) dX7_meetOf_51 rfl rfl rfl ?_
        refine mm_aload_n (q := 53) dX7_meetOf_52 rfl rfl rfl ?_
        refine mm_getI (q := 56) dX7_meetOf_53 rfl lr_0 fd_X7_208 rfl ?_
        refine mm_callVP (as := [.int (M4 0 18)]) (st := []) (q := 59) lr_0 rfl (fX7_isPerson_ok (M4 0 18) M4) ms_X7_152 rfl (Nat.le_of_ble_eq_true rfl) (Nat.le_of_ble_eq_true rfl) rfl dX7_meetOf_56 rfl (fun b6 _ => ?_)
        refine mm_if_eq (q := 62) (tgt := 95) dX7_meetOf_59 rfl (by decide) (fun c7 => ?_) (fun c7 => ?_)
        · refine mm_iinc (q := 98) (ls' := [some (.ref 0), none, some (.int x2), some (.int x3), some (.int x4), some (.int (x5 + (1 : Int32))), none]) dX7_meetOf_95 rfl rfl (ii_1 _) rfl (Nat.le_of_ble_eq_true rfl) rfl ?_
          refine mm_goto (tgt := 15) dX7_meetOf_98 (by decide) ?_
          exact ih _ _ _ _
        · refine mm_aload_n (q := 63) dX7_meetOf_62 rfl rfl rfl ?_
          refine mm_callVV (as := []) (st := []) (q := 66) lr_0 rfl (fX7_runs_ok M4) ms_X7_218 rfl (Nat.le_of_ble_eq_true rfl) (Nat.le_of_ble_eq_true rfl) rfl dX7_meetOf_63 rfl (fun M8 _ => ?_)
          refine mm_aload_n (q := 67) dX7_meetOf_66 rfl rfl rfl ?_
          refine mm_callVP (as := []) (st := []) (q := 70) lr_0 rfl (fX7_owedYet_ok M8) ms_X7_254 rfl (Nat.le_of_ble_eq_true rfl) (Nat.le_of_ble_eq_true rfl) rfl dX7_meetOf_67 rfl (fun b9 _ => ?_)
          refine mm_istore (q := 72) (ls' := [some (.ref 0), none, some (.int x2), some (.int x3), some (.int x4), some (.int x5), some (.int b9)]) dX7_meetOf_70 rfl rfl (Nat.le_of_ble_eq_true rfl) rfl ?_
          refine mm_iload (q := 74) dX7_meetOf_72 rfl rfl ?_
          refine mm_iload (q := 76) dX7_meetOf_74 rfl rfl ?_
          by_cases c10 : x4 ≤ b9
          · simp only [if_pos c10]
            refine mm_icmp_ge_t (tgt := 84) c10 dX7_meetOf_76 (by decide) ?_
            refine mm_iload_n (q := 85) dX7_meetOf_84 rfl rfl rfl ?_
            refine mm_istore_n (q := 86) (ls' := [some (.ref 0), none, some (.int x2), some (.int x3), some (.int x4), some (.int x5), some (.int b9)]) dX7_meetOf_85 rfl rfl rfl (Nat.le_of_ble_eq_true rfl) rfl ?_
            refine mm_iload (q := 88) dX7_meetOf_86 rfl rfl ?_
            refine mm_iload (q := 90) dX7_meetOf_88 rfl rfl ?_
            refine mm_callST (as := [.int b9, .int x4]) (st := []) (q := 93) (fX7_lesser_ok b9 x4 M8) ms_X7_183 rfl (Nat.le_of_ble_eq_true rfl) (Nat.le_of_ble_eq_true rfl) rfl dX7_meetOf_90 rfl ?_
            refine mm_istore (q := 95) (ls' := [some (.ref 0), none, some (.int x2), some (.int x3), some (.int (fX7_lesser b9 x4)), some (.int x5), some (.int b9)]) dX7_meetOf_93 rfl rfl (Nat.le_of_ble_eq_true rfl) rfl ?_
            refine mm_iinc (q := 98) (ls' := [some (.ref 0), none, some (.int x2), some (.int x3), some (.int (fX7_lesser b9 x4)), some (.int (x5 + (1 : Int32))), some (.int b9)]) dX7_meetOf_95 rfl rfl (ii_1 _) rfl (Nat.le_of_ble_eq_true rfl) rfl ?_
            refine mm_goto (tgt := 15) dX7_meetOf_98 (by decide) ?_
            refine mm_drop (ls' := [some (.ref 0), none, some (.int x2), some (.int x3), some (.int (fX7_lesser b9 x4)), some (.int (x5 + (1 : Int32))), none]) (mm_sub_at _ _ (And.intro rfl (And.intro rfl (And.intro rfl (And.intro rfl (And.intro rfl trivial)))))) ?_
            exact ih _ _ _ _
          · simp only [if_neg c10]
            refine mm_icmp_ge_f (q := 79) (tgt := 84) c10 dX7_meetOf_76 rfl (by decide) ?_
            refine mm_iload (q := 81) dX7_meetOf_79 rfl rfl ?_
            refine mm_goto (tgt := 85) dX7_meetOf_81 (by decide) ?_
            refine mm_istore_n (q := 86) (ls' := [some (.ref 0), none, some (.int x2), some (.int x5), some (.int x4), some (.int x5), some (.int b9)]) dX7_meetOf_85 rfl rfl rfl (Nat.le_of_ble_eq_true rfl) rfl ?_
            refine mm_iload (q := 88) dX7_meetOf_86 rfl rfl ?_
            refine mm_iload (q := 90) dX7_meetOf_88 rfl rfl ?_
            refine mm_callST (as := [.int b9, .int x4]) (st := []) (q := 93) (fX7_lesser_ok b9 x4 M8) ms_X7_183 rfl (Nat.le_of_ble_eq_true rfl) (Nat.le_of_ble_eq_true rfl) rfl dX7_meetOf_90 rfl ?_
            refine mm_istore (q := 95) (ls' := [some (.ref 0), none, some (.int x2), some (.int x5), some (.int (fX7_lesser b9 x4)), some (.int x5), some (.int b9)]) dX7_meetOf_93 rfl rfl (Nat.le_of_ble_eq_true rfl) rfl ?_
            refine mm_iinc (q := 98) (ls' := [some (.ref 0), none, some (.int x2), some (.int x5), some (.int (fX7_lesser b9 x4)), some (.int (x5 + (1 : Int32))), some (.int b9)]) dX7_meetOf_95 rfl rfl (ii_1 _) rfl (Nat.le_of_ble_eq_true rfl) rfl ?_
            refine mm_goto (tgt := 15) dX7_meetOf_98 (by decide) ?_
            refine mm_drop (ls' := [some (.ref 0), none, some (.int x2), some (.int x5), some (.int (fX7_lesser b9 x4)), some (.int (x5 + (1 : Int32))), none]) (mm_sub_at _ _ (And.intro rfl (And.intro rfl (And.intro rfl (And.intro rfl (And.intro rfl trivial)))))) ?_
            exact ih _ _ _ _
def fX7_meetOf (x1 : Int32) (x2 : Int32) (M : mm_M) : Option (Int32 × mm_M) :=
  (mm_pf M 0 16 x1).bind fun M1 =>
  fX7_meetOf_L15 x2 (fun z11 z12 M13 =>
      (mm_pf M13 0 16 (-1 : Int32)).bind fun M14 =>
      if z11 = (-1 : Int32) then
        some ((-1 : Int32), M14)
      else
        if x2 = 0 then
          some (z11 / (8 : Int32), M14)
        else
          if x2 = (1 : Int32) then
            some (z11 - z11 / (8 : Int32) * (8 : Int32), M14)
          else
            some (z12, M14)) 1000 (-1 : Int32) (999 : Int32) (0 : Int32) M1
set_option maxRecDepth 100000 in
set_option maxHeartbeats 4000000 in
theorem fX7_meetOf_ok (x1 : Int32) (x2 : Int32) (M : mm_M)  : mm_E LR yX7_meetOf cX7_meetOf 7 (some .int) 6 mm_eI [.ref 0, .int x1, .int x2] M (fX7_meetOf x1 x2 M) := by
  refine mm_E.of (own := RX7) (ls := [some (.ref 0), some (.int x1), some (.int x2), none, none, none, none]) (by decide) rfl rfl (Nat.le_of_ble_eq_true rfl) ?_
  unfold fX7_meetOf
  refine mm_iconst (q := 1) dX7_meetOf_0 rfl ic_m1 ?_
  refine mm_istore_n (q := 2) (ls' := [some (.ref 0), some (.int x1), some (.int x2), some (.int (-1 : Int32)), none, none, none]) dX7_meetOf_1 rfl rfl rfl (Nat.le_of_ble_eq_true rfl) rfl ?_
  refine mm_sipush (q := 5) dX7_meetOf_2 rfl sp_999 ?_
  refine mm_istore (q := 7) (ls' := [some (.ref 0), some (.int x1), some (.int x2), some (.int (-1 : Int32)), some (.int (999 : Int32)), none, none]) dX7_meetOf_5 rfl rfl (Nat.le_of_ble_eq_true rfl) rfl ?_
  refine mm_aload_n (q := 8) dX7_meetOf_7 rfl rfl rfl ?_
  refine mm_iload_n (q := 9) dX7_meetOf_8 rfl rfl rfl ?_
  refine mm_put (q := 12) dX7_meetOf_9 rfl lr_0 fd_X7_70 ps_X7_16 rfl rfl rfl (fun M1 _ => ?_)
  refine mm_iconst (q := 13) dX7_meetOf_12 rfl ic_0 ?_
  refine mm_istore (q := 15) (ls' := [some (.ref 0), some (.int x1), some (.int x2), some (.int (-1 : Int32)), some (.int (999 : Int32)), some (.int (0 : Int32)), none]) dX7_meetOf_13 rfl rfl (Nat.le_of_ble_eq_true rfl) rfl ?_
  refine mm_drop (ls' := [some (.ref 0), none, some (.int x2), some (.int (-1 : Int32)), some (.int (999 : Int32)), some (.int (0 : Int32)), none]) (mm_sub_at _ _ (And.intro rfl (And.intro rfl (And.intro rfl (And.intro rfl (And.intro rfl trivial)))))) ?_
  refine fX7_meetOf_L15_ok x2 _ (fun z11 z12 M13 => ?_) _ _ _ _ _
  refine mm_aload_n (q := 102) dX7_meetOf_101 rfl rfl rfl ?_
  refine mm_iconst (q := 103) dX7_meetOf_102 rfl ic_m1 ?_
  refine mm_put (q := 106) dX7_meetOf_103 rfl lr_0 fd_X7_70 ps_X7_16 rfl rfl rfl (fun M14 _ => ?_)
  refine mm_iload_n (q := 107) dX7_meetOf_106 rfl rfl rfl ?_
  refine mm_iconst (q := 108) dX7_meetOf_107 rfl ic_m1 ?_
  refine mm_icmp_ne (q := 111) (tgt := 115) dX7_meetOf_108 rfl (by decide) (fun c15 => ?_) (fun c15 => ?_)
  · refine mm_iconst (q := 112) dX7_meetOf_111 rfl ic_m1 ?_
    refine mm_goto (tgt := 140) dX7_meetOf_112 (by decide) ?_
    exact mm_iret rfl dX7_meetOf_140
  · refine mm_iload_n (q := 116) dX7_meetOf_115 rfl rfl rfl ?_
    refine mm_if_ne (q := 119) (tgt := 126) dX7_meetOf_116 rfl (by decide) (fun c16 => ?_) (fun c16 => ?_)
    · refine mm_iload_n (q := 120) dX7_meetOf_119 rfl rfl rfl ?_
      refine mm_bipush (q := 122) dX7_meetOf_120 rfl bp_8 ?_
      refine mm_idivC (q := 123) dX7_meetOf_122 rfl (by decide) ?_
      refine mm_goto (tgt := 140) dX7_meetOf_123 (by decide) ?_
      exact mm_iret rfl dX7_meetOf_140
    · refine mm_iload_n (q := 127) dX7_meetOf_126 rfl rfl rfl ?_
      refine mm_iconst (q := 128) dX7_meetOf_127 rfl ic_1 ?_
      refine mm_icmp_ne (q := 131) (tgt := 138) dX7_meetOf_128 rfl (by decide) (fun c17 => ?_) (fun c17 => ?_)
      · refine mm_iload_n (q := 132) dX7_meetOf_131 rfl rfl rfl ?_
        refine mm_bipush (q := 134) dX7_meetOf_132 rfl bp_8 ?_
        refine mm_iremC (q := 135) dX7_meetOf_134 rfl (by decide) ?_
        refine mm_goto (tgt := 140) dX7_meetOf_135 (by decide) ?_
        exact mm_iret rfl dX7_meetOf_140
      · refine mm_iload (q := 140) dX7_meetOf_138 rfl rfl ?_
        exact mm_iret rfl dX7_meetOf_140
def fX7_many_L4 (x1 : Int32) (M : mm_M)  : Nat → Int32 → Int32 → Option (Int32)
  | 0, _, _ => none
  | n + 1, x2, x3 =>
    if (M 0 9) ≤ x3 then
      some x2
    else
      (mm_rd M 11 12 x3).bind fun b2 =>
      fX7_many_L4 x1 M n (if b2 = x1 then x2 + (1 : Int32) else x2 + (0 : Int32)) (x3 + (1 : Int32))
set_option maxRecDepth 100000 in
set_option maxHeartbeats 4000000 in
theorem fX7_many_L4_ok (x1 : Int32) (M : mm_M)    : ∀ (n : Nat) (x2 : Int32) (x3 : Int32), mm_C LR cX7_many 4 RX7 (some .int) 0 (mm_pI M) 4 [some (.ref 0), some (.int x1), some (.int x2), some (.int x3)] [] M (fX7_many_L4 x1 M n x2 x3) := by
  intro n
  induction n with
  | zero => intro x2 x3; exact mm_none
  | succ n ih =>
    intro x2 x3
    rw [fX7_many_L4]
    refine mm_iload_n (q := 5) dX7_many_4 rfl rfl rfl ?_
    refine mm_aload_n (q := 6) dX7_many_5 rfl rfl rfl ?_
    refine mm_getI (q := 9) dX7_many_6 rfl lr_0 fd_X7_125 rfl ?_
    refine mm_icmp_ge (q := 12) (tgt := 36) dX7_many_9 rfl (by decide) (fun c1 => ?_) (fun c1 => ?_)
    · refine mm_iload_n (q := 37) dX7_many_36 rfl rfl rfl ?_
      exact mm_iret rfl dX7_many_37
    · refine mm_iload_n (q := 13) dX7_many_12 rfl rfl rfl ?_
      refine mm_aload_n (q := 14) dX7_many_13 rfl rfl rfl ?_
      refine mm_getR (q := 17) (k1 := 11) dX7_many_14 rfl lr_0 fd_X7_40 rfl ?_
      refine mm_iload_n (q := 18) dX7_many_17 rfl rfl rfl ?_
      refine mm_iald (q := 19) dX7_many_18 rfl lr_11 (fun b2 _ => ?_)
      refine mm_iload_n (q := 20) dX7_many_19 rfl rfl rfl ?_
      by_cases c3 : b2 = x1
      · simp only [if_pos c3]
        refine mm_icmp_ne_t (q := 23) (tgt := 27) c3 dX7_many_20 rfl (by decide) ?_
        refine mm_iconst (q := 24) dX7_many_23 rfl ic_1 ?_
        refine mm_goto (tgt := 28) dX7_many_24 (by decide) ?_
        refine mm_iadd (q := 29) dX7_many_28 rfl ?_
        refine mm_istore_n (q := 30) (ls' := [some (.ref 0), some (.int x1), some (.int (x2 + (1 : Int32))), some (.int x3)]) dX7_many_29 rfl rfl rfl (Nat.le_of_ble_eq_true rfl) rfl ?_
        refine mm_iinc (q := 33) (ls' := [some (.ref 0), some (.int x1), some (.int (x2 + (1 : Int32))), some (.int (x3 + (1 : Int32)))]) dX7_many_30 rfl rfl (ii_1 _) rfl (Nat.le_of_ble_eq_true rfl) rfl ?_
        refine mm_goto (tgt := 4) dX7_many_33 (by decide) ?_
        exact ih _ _
      · simp only [if_neg c3]
        refine mm_icmp_ne_f (tgt := 27) c3 dX7_many_20 (by decide) ?_
        refine mm_iconst (q := 28) dX7_many_27 rfl ic_0 ?_
        refine mm_iadd (q := 29) dX7_many_28 rfl ?_
        refine mm_istore_n (q := 30) (ls' := [some (.ref 0), some (.int x1), some (.int (x2 + (0 : Int32))), some (.int x3)]) dX7_many_29 rfl rfl rfl (Nat.le_of_ble_eq_true rfl) rfl ?_
        refine mm_iinc (q := 33) (ls' := [some (.ref 0), some (.int x1), some (.int (x2 + (0 : Int32))), some (.int (x3 + (1 : Int32)))]) dX7_many_30 rfl rfl (ii_1 _) rfl (Nat.le_of_ble_eq_true rfl) rfl ?_
        refine mm_goto (tgt := 4) dX7_many_33 (by decide) ?_
        exact ih _ _
def fX7_many (x1 : Int32) (M : mm_M) : Option (Int32) :=
  fX7_many_L4 x1 M 1000 (0 : Int32) (0 : Int32)
set_option maxRecDepth 100000 in
set_option maxHeartbeats 4000000 in
theorem fX7_many_ok (x1 : Int32) (M : mm_M)  : mm_E LR yX7_many cX7_many 4 (some .int) 0 (mm_pI M) [.ref 0, .int x1] M (fX7_many x1 M) := by
  refine mm_E.of (own := RX7) (ls := [some (.ref 0), some (.int x1), none, none]) (by decide) rfl rfl (Nat.le_of_ble_eq_true rfl) ?_
  unfold fX7_many
  refine mm_iconst (q := 1) dX7_many_0 rfl ic_0 ?_
  refine mm_istore_n (q := 2) (ls' := [some (.ref 0), some (.int x1), some (.int (0 : Int32)), none]) dX7_many_1 rfl rfl rfl (Nat.le_of_ble_eq_true rfl) rfl ?_
  refine mm_iconst (q := 3) dX7_many_2 rfl ic_0 ?_
  refine mm_istore_n (q := 4) (ls' := [some (.ref 0), some (.int x1), some (.int (0 : Int32)), some (.int (0 : Int32))]) dX7_many_3 rfl rfl rfl (Nat.le_of_ble_eq_true rfl) rfl ?_
  exact fX7_many_L4_ok x1 M _ _ _
def fX7_voiceBy_J60 (x1 : Int32) (x3 : Int32) (x4 : Int32) (x5 : Int32) (x6 : Int32) (s0 : Int32) (kr : Int32 → Int32 → Int32 → mm_M → Option (Int32 × mm_M)) (M : mm_M) : Option (Int32 × mm_M) :=
  (mm_wa M 7 16 ((2 : Int32) * x4) x5).bind fun M8 =>
  kr s0 (fX7_greater x6 x3) (x4 + (1 : Int32)) M8
set_option maxRecDepth 100000 in
set_option maxHeartbeats 4000000 in
theorem fX7_voiceBy_J60_ok (x1 : Int32) (x3 : Int32) (x4 : Int32) (x5 : Int32) (x6 : Int32) (s0 : Int32)  (M : mm_M)  (kr : Int32 → Int32 → Int32 → mm_M → Option (Int32 × mm_M)) (hkr : ∀ (x2 : Int32) (x3 : Int32) (x4 : Int32) (M : mm_M), mm_C LR cX7_voiceBy 7 RX7 (some .int) 6 mm_eI 7 [some (.ref 0), some (.int x1), some (.int x2), some (.int x3), some (.int x4), none, none] [] M (kr x2 x3 x4 M)) : mm_C LR cX7_voiceBy 7 RX7 (some .int) 6 mm_eI 60 [some (.ref 0), some (.int x1), none, some (.int x3), some (.int x4), some (.int x5), some (.int x6)] [.int s0] M (fX7_voiceBy_J60 x1 x3 x4 x5 x6 s0 kr M) := by
  unfold fX7_voiceBy_J60
  refine mm_istore_n (q := 61) (ls' := [some (.ref 0), some (.int x1), some (.int s0), some (.int x3), some (.int x4), some (.int x5), some (.int x6)]) dX7_voiceBy_60 rfl rfl rfl (Nat.le_of_ble_eq_true rfl) rfl ?_
  refine mm_iload (q := 63) dX7_voiceBy_61 rfl rfl ?_
  refine mm_iload_n (q := 64) dX7_voiceBy_63 rfl rfl rfl ?_
  refine mm_callST (as := [.int x6, .int x3]) (st := []) (q := 67) (fX7_greater_ok x6 x3 M) ms_X7_189 rfl (Nat.le_of_ble_eq_true rfl) (Nat.le_of_ble_eq_true rfl) rfl dX7_voiceBy_64 rfl ?_
  refine mm_istore_n (q := 68) (ls' := [some (.ref 0), some (.int x1), some (.int s0), some (.int (fX7_greater x6 x3)), some (.int x4), some (.int x5), some (.int x6)]) dX7_voiceBy_67 rfl rfl rfl (Nat.le_of_ble_eq_true rfl) rfl ?_
  refine mm_aload_n (q := 69) dX7_voiceBy_68 rfl rfl rfl ?_
  refine mm_getR (q := 72) (k1 := 7) dX7_voiceBy_69 rfl lr_0 fd_X7_28 rfl ?_
  refine mm_iconst (q := 73) dX7_voiceBy_72 rfl ic_2 ?_
  refine mm_iload (q := 75) dX7_voiceBy_73 rfl rfl ?_
  refine mm_imul (q := 76) dX7_voiceBy_75 rfl ?_
  refine mm_iload (q := 78) dX7_voiceBy_76 rfl rfl ?_
  refine mm_iast (q := 79) dX7_voiceBy_78 rfl lr_7 (fun M8 _ => ?_)
  refine mm_iinc (q := 82) (ls' := [some (.ref 0), some (.int x1), some (.int s0), some (.int (fX7_greater x6 x3)), some (.int (x4 + (1 : Int32))), some (.int x5), some (.int x6)]) dX7_voiceBy_79 rfl rfl (ii_1 _) rfl (Nat.le_of_ble_eq_true rfl) rfl ?_
  refine mm_goto (tgt := 7) dX7_voiceBy_82 (by decide) ?_
  refine mm_drop (ls' := [some (.ref 0), some (.int x1), some (.int s0), some (.int (fX7_greater x6 x3)), some (.int (x4 + (1 : Int32))), none, none]) (mm_sub_at _ _ (And.intro rfl (And.intro rfl (And.intro rfl (And.intro rfl (And.intro rfl trivial)))))) ?_
  exact hkr _ _ _ _
def fX7_voiceBy_L7 (x1 : Int32)  : Nat → Int32 → Int32 → Int32 → mm_M → Option (Int32 × mm_M)
  | 0, _, _, _, _ => none
  | n + 1, x2, x3, x4, M =>
    if (M 0 7) ≤ x4 then
      (if x1 = 0 then
        some (x2, M)
      else
        some (x3, M))
    else
      (mm_rd M 7 16 ((2 : Int32) * x4)).bind fun b3 =>
      (mm_wa M 7 16 ((2 : Int32) * x4) (3 : Int32)).bind fun M4 =>
      (fX7_runs M4).bind fun M5 =>
      (fX7_many (1 : Int32) M5).bind fun b6 =>
      fX7_voiceBy_J60 x1 x3 x4 b3 b6 (if b6 ≤ x3 then x2 else x4) (fX7_voiceBy_L7 x1 n) M5
set_option maxRecDepth 100000 in
set_option maxHeartbeats 4000000 in
theorem fX7_voiceBy_L7_ok (x1 : Int32)    : ∀ (n : Nat) (x2 : Int32) (x3 : Int32) (x4 : Int32) (M : mm_M), mm_C LR cX7_voiceBy 7 RX7 (some .int) 6 mm_eI 7 [some (.ref 0), some (.int x1), some (.int x2), some (.int x3), some (.int x4), none, none] [] M (fX7_voiceBy_L7 x1 n x2 x3 x4 M) := by
  intro n
  induction n with
  | zero => intro x2 x3 x4 M; exact mm_none
  | succ n ih =>
    intro x2 x3 x4 M
    rw [fX7_voiceBy_L7]
    refine mm_iload (q := 9) dX7_voiceBy_7 rfl rfl ?_
    refine mm_aload_n (q := 10) dX7_voiceBy_9 rfl rfl rfl ?_
    refine mm_getI (q := 13) dX7_voiceBy_10 rfl lr_0 fd_X7_116 rfl ?_
    refine mm_icmp_ge (q := 16) (tgt := 85) dX7_voiceBy_13 rfl (by decide) (fun c1 => ?_) (fun c1 => ?_)
    · refine mm_iload_n (q := 86) dX7_voiceBy_85 rfl rfl rfl ?_
      refine mm_if_ne (q := 89) (tgt := 93) dX7_voiceBy_86 rfl (by decide) (fun c2 => ?_) (fun c2 => ?_)
      · refine mm_iload_n (q := 90) dX7_voiceBy_89 rfl rfl rfl ?_
        refine mm_goto (tgt := 94) dX7_voiceBy_90 (by decide) ?_
        exact mm_iret rfl dX7_voiceBy_94
      · refine mm_iload_n (q := 94) dX7_voiceBy_93 rfl rfl rfl ?_
        exact mm_iret rfl dX7_voiceBy_94
    · refine mm_aload_n (q := 17) dX7_voiceBy_16 rfl rfl rfl ?_
      refine mm_getR (q := 20) (k1 := 7) dX7_voiceBy_17 rfl lr_0 fd_X7_28 rfl ?_
      refine mm_iconst (q := 21) dX7_voiceBy_20 rfl ic_2 ?_
      refine mm_iload (q := 23) dX7_voiceBy_21 rfl rfl ?_
      refine mm_imul (q := 24) dX7_voiceBy_23 rfl ?_
      refine mm_iald (q := 25) dX7_voiceBy_24 rfl lr_7 (fun b3 _ => ?_)
      refine mm_istore (q := 27) (ls' := [some (.ref 0), some (.int x1), some (.int x2), some (.int x3), some (.int x4), some (.int b3), none]) dX7_voiceBy_25 rfl rfl (Nat.le_of_ble_eq_true rfl) rfl ?_
      refine mm_aload_n (q := 28) dX7_voiceBy_27 rfl rfl rfl ?_
      refine mm_getR (q := 31) (k1 := 7) dX7_voiceBy_28 rfl lr_0 fd_X7_28 rfl ?_
      refine mm_iconst (q := 32) dX7_voiceBy_31 rfl ic_2 ?_
      refine mm_iload (q := 34) dX7_voiceBy_32 rfl rfl ?_
      refine mm_imul (q := 35) dX7_voiceBy_34 rfl ?_
      refine mm_iconst (q := 36) dX7_voiceBy_35 rfl ic_3 ?_
      refine mm_iast (q := 37) dX7_voiceBy_36 rfl lr_7 (fun M4 _ => ?_)
      refine mm_aload_n (q := 38) dX7_voiceBy_37 rfl rfl rfl ?_
      refine mm_callVV (as := []) (st := []) (q := 41) lr_0 rfl (fX7_runs_ok M4) ms_X7_218 rfl (Nat.le_of_ble_eq_true rfl) (Nat.le_of_ble_eq_true rfl) rfl dX7_voiceBy_38 rfl (fun M5 _ => ?_)
      refine mm_aload_n (q := 42) dX7_voiceBy_41 rfl rfl rfl ?_
      refine mm_iconst (q := 43) dX7_voiceBy_42 rfl ic_1 ?_
      refine mm_callVP (as := [.int (1 : Int32)]) (st := []) (q := 46) lr_0 rfl (fX7_many_ok (1 : Int32) M5) ms_X7_263 rfl (Nat.le_of_ble_eq_true rfl) (Nat.le_of_ble_eq_true rfl) rfl dX7_voiceBy_43 rfl (fun b6 _ => ?_)
      refine mm_istore (q := 48) (ls' := [some (.ref 0), some (.int x1), some (.int x2), some (.int x3), some (.int x4), some (.int b3), some (.int b6)]) dX7_voiceBy_46 rfl rfl (Nat.le_of_ble_eq_true rfl) rfl ?_
      refine mm_iload (q := 50) dX7_voiceBy_48 rfl rfl ?_
      refine mm_iload_n (q := 51) dX7_voiceBy_50 rfl rfl rfl ?_
      by_cases c7 : b6 ≤ x3
      · simp only [if_pos c7]
        refine mm_icmp_le_t (tgt := 59) c7 dX7_voiceBy_51 (by decide) ?_
        refine mm_iload_n (q := 60) dX7_voiceBy_59 rfl rfl rfl ?_
        refine mm_drop (ls' := [some (.ref 0), some (.int x1), none, some (.int x3), some (.int x4), some (.int b3), some (.int b6)]) (mm_sub_at _ _ (And.intro rfl (And.intro rfl (And.intro rfl (And.intro rfl (And.intro rfl (And.intro rfl trivial))))))) ?_
        exact fX7_voiceBy_J60_ok _ _ _ _ _ _ _ _ ih
      · simp only [if_neg c7]
        refine mm_icmp_le_f (q := 54) (tgt := 59) c7 dX7_voiceBy_51 rfl (by decide) ?_
        refine mm_iload (q := 56) dX7_voiceBy_54 rfl rfl ?_
        refine mm_goto (tgt := 60) dX7_voiceBy_56 (by decide) ?_
        refine mm_drop (ls' := [some (.ref 0), some (.int x1), none, some (.int x3), some (.int x4), some (.int b3), some (.int b6)]) (mm_sub_at _ _ (And.intro rfl (And.intro rfl (And.intro rfl (And.intro rfl (And.intro rfl (And.intro rfl trivial))))))) ?_
        exact fX7_voiceBy_J60_ok _ _ _ _ _ _ _ _ ih
def fX7_voiceBy (x1 : Int32) (M : mm_M) : Option (Int32 × mm_M) :=
  fX7_voiceBy_L7 x1 1000 (-1 : Int32) (-1 : Int32) (0 : Int32) M
set_option maxRecDepth 100000 in
set_option maxHeartbeats 4000000 in
theorem fX7_voiceBy_ok (x1 : Int32) (M : mm_M)  : mm_E LR yX7_voiceBy cX7_voiceBy 7 (some .int) 6 mm_eI [.ref 0, .int x1] M (fX7_voiceBy x1 M) := by
  refine mm_E.of (own := RX7) (ls := [some (.ref 0), some (.int x1), none, none, none, none, none]) (by decide) rfl rfl (Nat.le_of_ble_eq_true rfl) ?_
  unfold fX7_voiceBy
  refine mm_iconst (q := 1) dX7_voiceBy_0 rfl ic_m1 ?_
  refine mm_istore_n (q := 2) (ls' := [some (.ref 0), some (.int x1), some (.int (-1 : Int32)), none, none, none, none]) dX7_voiceBy_1 rfl rfl rfl (Nat.le_of_ble_eq_true rfl) rfl ?_
  refine mm_iconst (q := 3) dX7_voiceBy_2 rfl ic_m1 ?_
  refine mm_istore_n (q := 4) (ls' := [some (.ref 0), some (.int x1), some (.int (-1 : Int32)), some (.int (-1 : Int32)), none, none, none]) dX7_voiceBy_3 rfl rfl rfl (Nat.le_of_ble_eq_true rfl) rfl ?_
  refine mm_iconst (q := 5) dX7_voiceBy_4 rfl ic_0 ?_
  refine mm_istore (q := 7) (ls' := [some (.ref 0), some (.int x1), some (.int (-1 : Int32)), some (.int (-1 : Int32)), some (.int (0 : Int32)), none, none]) dX7_voiceBy_5 rfl rfl (Nat.le_of_ble_eq_true rfl) rfl ?_
  exact fX7_voiceBy_L7_ok x1 _ _ _ _ _
def fX7_isSpared (x1 : Int32) (M : mm_M) : Option (Int32 × mm_M) :=
  (mm_pf M 0 15 x1).bind fun M1 =>
  (fX7_runs M1).bind fun M2 =>
  (mm_pf M2 0 15 (0 : Int32)).bind fun M3 =>
  (fX7_many (3 : Int32) M3).bind fun b4 =>
  if b4 = 0 then
    some ((1 : Int32), M3)
  else
    some ((0 : Int32), M3)
set_option maxRecDepth 100000 in
set_option maxHeartbeats 4000000 in
theorem fX7_isSpared_ok (x1 : Int32) (M : mm_M)  : mm_E LR yX7_isSpared cX7_isSpared 2 (some .boolean) 6 mm_eI [.ref 0, .int x1] M (fX7_isSpared x1 M) := by
  refine mm_E.of (own := RX7) (ls := [some (.ref 0), some (.int x1)]) (by decide) rfl rfl (Nat.le_of_ble_eq_true rfl) ?_
  unfold fX7_isSpared
  refine mm_aload_n (q := 1) dX7_isSpared_0 rfl rfl rfl ?_
  refine mm_iload_n (q := 2) dX7_isSpared_1 rfl rfl rfl ?_
  refine mm_put (q := 5) dX7_isSpared_2 rfl lr_0 fd_X7_176 ps_X7_15 rfl rfl rfl (fun M1 _ => ?_)
  refine mm_aload_n (q := 6) dX7_isSpared_5 rfl rfl rfl ?_
  refine mm_callVV (as := []) (st := []) (q := 9) lr_0 rfl (fX7_runs_ok M1) ms_X7_218 rfl (Nat.le_of_ble_eq_true rfl) (Nat.le_of_ble_eq_true rfl) rfl dX7_isSpared_6 rfl (fun M2 _ => ?_)
  refine mm_aload_n (q := 10) dX7_isSpared_9 rfl rfl rfl ?_
  refine mm_iconst (q := 11) dX7_isSpared_10 rfl ic_0 ?_
  refine mm_put (q := 14) dX7_isSpared_11 rfl lr_0 fd_X7_176 ps_X7_15 rfl rfl rfl (fun M3 _ => ?_)
  refine mm_aload_n (q := 15) dX7_isSpared_14 rfl rfl rfl ?_
  refine mm_iconst (q := 16) dX7_isSpared_15 rfl ic_3 ?_
  refine mm_callVP (as := [.int (3 : Int32)]) (st := []) (q := 19) lr_0 rfl (fX7_many_ok (3 : Int32) M3) ms_X7_263 rfl (Nat.le_of_ble_eq_true rfl) (Nat.le_of_ble_eq_true rfl) rfl dX7_isSpared_16 rfl (fun b4 _ => ?_)
  refine mm_if_ne (q := 22) (tgt := 26) dX7_isSpared_19 rfl (by decide) (fun c5 => ?_) (fun c5 => ?_)
  · refine mm_iconst (q := 23) dX7_isSpared_22 rfl ic_1 ?_
    refine mm_goto (tgt := 27) dX7_isSpared_23 (by decide) ?_
    exact mm_zret rfl rfl dX7_isSpared_27
  · refine mm_iconst (q := 27) dX7_isSpared_26 rfl ic_0 ?_
    exact mm_zret rfl rfl dX7_isSpared_27
def fX7_spareBy_L21 (x1 : Int32) (k64 : mm_M → Option (Int32 × mm_M)) : Nat → Int32 → mm_M → Option (Int32 × mm_M)
  | 0, _, _ => none
  | n + 1, x2, M =>
    if (M 0 13) ≤ x2 then
      k64 M
    else
      (fX7_isSpared ((1 : Int32) <<< (x2 &&& 31)) M).bind fun b4 =>
      if b4.1 = 0 then
        fX7_spareBy_L21 x1 k64 n (x2 + (1 : Int32)) b4.2
      else
        if x1 = (-1 : Int32) then
          some ((1 : Int32), b4.2)
        else
          if x1 = 0 then
            some (x2, b4.2)
          else
            some ((-1 : Int32), b4.2)
set_option maxRecDepth 100000 in
set_option maxHeartbeats 4000000 in
theorem fX7_spareBy_L21_ok (x1 : Int32)  (k64 : mm_M → Option (Int32 × mm_M)) (hk64 : ∀  (M : mm_M), mm_C LR cX7_spareBy 4 RX7 (some .int) 7 mm_eI 64 [some (.ref 0), some (.int x1), none, none] [] M (k64 M)) : ∀ (n : Nat) (x2 : Int32) (M : mm_M), mm_C LR cX7_spareBy 4 RX7 (some .int) 7 mm_eI 21 [some (.ref 0), some (.int x1), some (.int x2), none] [] M (fX7_spareBy_L21 x1 k64 n x2 M) := by
  intro n
  induction n with
  | zero => intro x2 M; exact mm_none
  | succ n ih =>
    intro x2 M
    rw [fX7_spareBy_L21]
    refine mm_iload_n (q := 22) dX7_spareBy_21 rfl rfl rfl ?_
    refine mm_aload_n (q := 23) dX7_spareBy_22 rfl rfl rfl ?_
    refine mm_getI (q := 26) dX7_spareBy_23 rfl lr_0 fd_X7_171 rfl ?_
    refine mm_icmp_ge (q := 29) (tgt := 64) dX7_spareBy_26 rfl (by decide) (fun c3 => ?_) (fun c3 => ?_)
    · refine mm_drop (ls' := [some (.ref 0), some (.int x1), none, none]) (mm_sub_at _ _ (And.intro rfl (And.intro rfl trivial))) ?_
      exact hk64  _
    · refine mm_aload_n (q := 30) dX7_spareBy_29 rfl rfl rfl ?_
      refine mm_iconst (q := 31) dX7_spareBy_30 rfl ic_1 ?_
      refine mm_iload_n (q := 32) dX7_spareBy_31 rfl rfl rfl ?_
      refine mm_ishl (q := 33) dX7_spareBy_32 rfl ?_
      refine mm_callVI (as := [.int ((1 : Int32) <<< (x2 &&& 31))]) (st := []) (q := 36) lr_0 rfl (fX7_isSpared_ok ((1 : Int32) <<< (x2 &&& 31)) M) ms_X7_269 rfl (Nat.le_of_ble_eq_true rfl) (Nat.le_of_ble_eq_true rfl) rfl dX7_spareBy_33 rfl (fun b4 _ => ?_)
      refine mm_if_eq (q := 39) (tgt := 58) dX7_spareBy_36 rfl (by decide) (fun c5 => ?_) (fun c5 => ?_)
      · refine mm_iinc (q := 61) (ls' := [some (.ref 0), some (.int x1), some (.int (x2 + (1 : Int32))), none]) dX7_spareBy_58 rfl rfl (ii_1 _) rfl (Nat.le_of_ble_eq_true rfl) rfl ?_
        refine mm_goto (tgt := 21) dX7_spareBy_61 (by decide) ?_
        exact ih _ _
      · refine mm_iload_n (q := 40) dX7_spareBy_39 rfl rfl rfl ?_
        refine mm_iconst (q := 41) dX7_spareBy_40 rfl ic_m1 ?_
        refine mm_icmp_ne (q := 44) (tgt := 48) dX7_spareBy_41 rfl (by decide) (fun c6 => ?_) (fun c6 => ?_)
        · refine mm_iconst (q := 45) dX7_spareBy_44 rfl ic_1 ?_
          refine mm_goto (tgt := 57) dX7_spareBy_45 (by decide) ?_
          exact mm_iret rfl dX7_spareBy_57
        · refine mm_iload_n (q := 49) dX7_spareBy_48 rfl rfl rfl ?_
          refine mm_if_ne (q := 52) (tgt := 56) dX7_spareBy_49 rfl (by decide) (fun c7 => ?_) (fun c7 => ?_)
          · refine mm_iload_n (q := 53) dX7_spareBy_52 rfl rfl rfl ?_
            refine mm_goto (tgt := 57) dX7_spareBy_53 (by decide) ?_
            exact mm_iret rfl dX7_spareBy_57
          · refine mm_iconst (q := 57) dX7_spareBy_56 rfl ic_m1 ?_
            exact mm_iret rfl dX7_spareBy_57
def fX7_spareBy_L78 (x1 : Int32) (x2 : Int32) (k125 : mm_M → Option (Int32 × mm_M)) : Nat → Int32 → mm_M → Option (Int32 × mm_M)
  | 0, _, _ => none
  | n + 1, x3, M =>
    if (M 0 13) ≤ x3 then
      k125 M
    else
      (fX7_isSpared (((1 : Int32) <<< (x2 &&& 31)) ||| ((1 : Int32) <<< (x3 &&& 31))) M).bind fun b11 =>
      if b11.1 = 0 then
        fX7_spareBy_L78 x1 x2 k125 n (x3 + (1 : Int32)) b11.2
      else
        if x1 = (-1 : Int32) then
          some ((2 : Int32), b11.2)
        else
          if x1 = 0 then
            some (x2, b11.2)
          else
            some (x3, b11.2)
set_option maxRecDepth 100000 in
set_option maxHeartbeats 4000000 in
theorem fX7_spareBy_L78_ok (x1 : Int32) (x2 : Int32)  (k125 : mm_M → Option (Int32 × mm_M)) (hk125 : ∀  (M : mm_M), mm_C LR cX7_spareBy 4 RX7 (some .int) 7 mm_eI 125 [some (.ref 0), some (.int x1), some (.int x2), none] [] M (k125 M)) : ∀ (n : Nat) (x3 : Int32) (M : mm_M), mm_C LR cX7_spareBy 4 RX7 (some .int) 7 mm_eI 78 [some (.ref 0), some (.int x1), some (.int x2), some (.int x3)] [] M (fX7_spareBy_L78 x1 x2 k125 n x3 M) := by
  intro n
  induction n with
  | zero => intro x3 M; exact mm_none
  | succ n ih =>
    intro x3 M
    rw [fX7_spareBy_L78]
    refine mm_iload_n (q := 79) dX7_spareBy_78 rfl rfl rfl ?_
    refine mm_aload_n (q := 80) dX7_spareBy_79 rfl rfl rfl ?_
    refine mm_getI (q := 83) dX7_spareBy_80 rfl lr_0 fd_X7_171 rfl ?_
    refine mm_icmp_ge (q := 86) (tgt := 125) dX7_spareBy_83 rfl (by decide) (fun c10 => ?_) (fun c10 => ?_)
    · refine mm_drop (ls' := [some (.ref 0), some (.int x1), some (.int x2), none]) (mm_sub_at _ _ (And.intro rfl (And.intro rfl (And.intro rfl trivial)))) ?_
      exact hk125  _
    · refine mm_aload_n (q := 87) dX7_spareBy_86 rfl rfl rfl ?_
      refine mm_iconst (q := 88) dX7_spareBy_87 rfl ic_1 ?_
      refine mm_iload_n (q := 89) dX7_spareBy_88 rfl rfl rfl ?_
      refine mm_ishl (q := 90) dX7_spareBy_89 rfl ?_
      refine mm_iconst (q := 91) dX7_spareBy_90 rfl ic_1 ?_
      refine mm_iload_n (q := 92) dX7_spareBy_91 rfl rfl rfl ?_
      refine mm_ishl (q := 93) dX7_spareBy_92 rfl ?_
      refine mm_ior (q := 94) dX7_spareBy_93 rfl ?_
      refine mm_callVI (as := [.int (((1 : Int32) <<< (x2 &&& 31)) ||| ((1 : Int32) <<< (x3 &&& 31)))]) (st := []) (q := 97) lr_0 rfl (fX7_isSpared_ok (((1 : Int32) <<< (x2 &&& 31)) ||| ((1 : Int32) <<< (x3 &&& 31))) M) ms_X7_269 rfl (Nat.le_of_ble_eq_true rfl) (Nat.le_of_ble_eq_true rfl) rfl dX7_spareBy_94 rfl (fun b11 _ => ?_)
      refine mm_if_eq (q := 100) (tgt := 119) dX7_spareBy_97 rfl (by decide) (fun c12 => ?_) (fun c12 => ?_)
      · refine mm_iinc (q := 122) (ls' := [some (.ref 0), some (.int x1), some (.int x2), some (.int (x3 + (1 : Int32)))]) dX7_spareBy_119 rfl rfl (ii_1 _) rfl (Nat.le_of_ble_eq_true rfl) rfl ?_
        refine mm_goto (tgt := 78) dX7_spareBy_122 (by decide) ?_
        exact ih _ _
      · refine mm_iload_n (q := 101) dX7_spareBy_100 rfl rfl rfl ?_
        refine mm_iconst (q := 102) dX7_spareBy_101 rfl ic_m1 ?_
        refine mm_icmp_ne (q := 105) (tgt := 109) dX7_spareBy_102 rfl (by decide) (fun c13 => ?_) (fun c13 => ?_)
        · refine mm_iconst (q := 106) dX7_spareBy_105 rfl ic_2 ?_
          refine mm_goto (tgt := 118) dX7_spareBy_106 (by decide) ?_
          exact mm_iret rfl dX7_spareBy_118
        · refine mm_iload_n (q := 110) dX7_spareBy_109 rfl rfl rfl ?_
          refine mm_if_ne (q := 113) (tgt := 117) dX7_spareBy_110 rfl (by decide) (fun c14 => ?_) (fun c14 => ?_)
          · refine mm_iload_n (q := 114) dX7_spareBy_113 rfl rfl rfl ?_
            refine mm_goto (tgt := 118) dX7_spareBy_114 (by decide) ?_
            exact mm_iret rfl dX7_spareBy_118
          · refine mm_iload_n (q := 118) dX7_spareBy_117 rfl rfl rfl ?_
            exact mm_iret rfl dX7_spareBy_118
def fX7_spareBy_L66 (x1 : Int32)  : Nat → Int32 → mm_M → Option (Int32 × mm_M)
  | 0, _, _ => none
  | n + 1, x2, M =>
    if (M 0 13) ≤ x2 then
      some ((-1 : Int32), M)
    else
      fX7_spareBy_L78 x1 x2 (fun M15 =>
      fX7_spareBy_L66 x1 n (x2 + (1 : Int32)) M15) 1000 (x2 + (1 : Int32)) M
set_option maxRecDepth 100000 in
set_option maxHeartbeats 4000000 in
theorem fX7_spareBy_L66_ok (x1 : Int32)    : ∀ (n : Nat) (x2 : Int32) (M : mm_M), mm_C LR cX7_spareBy 4 RX7 (some .int) 7 mm_eI 66 [some (.ref 0), some (.int x1), some (.int x2), none] [] M (fX7_spareBy_L66 x1 n x2 M) := by
  intro n
  induction n with
  | zero => intro x2 M; exact mm_none
  | succ n ih =>
    intro x2 M
    rw [fX7_spareBy_L66]
    refine mm_iload_n (q := 67) dX7_spareBy_66 rfl rfl rfl ?_
    refine mm_aload_n (q := 68) dX7_spareBy_67 rfl rfl rfl ?_
    refine mm_getI (q := 71) dX7_spareBy_68 rfl lr_0 fd_X7_171 rfl ?_
    refine mm_icmp_ge (q := 74) (tgt := 131) dX7_spareBy_71 rfl (by decide) (fun c9 => ?_) (fun c9 => ?_)
    · refine mm_iconst (q := 132) dX7_spareBy_131 rfl ic_m1 ?_
      exact mm_iret rfl dX7_spareBy_132
    · refine mm_iload_n (q := 75) dX7_spareBy_74 rfl rfl rfl ?_
      refine mm_iconst (q := 76) dX7_spareBy_75 rfl ic_1 ?_
      refine mm_iadd (q := 77) dX7_spareBy_76 rfl ?_
      refine mm_istore_n (q := 78) (ls' := [some (.ref 0), some (.int x1), some (.int x2), some (.int (x2 + (1 : Int32)))]) dX7_spareBy_77 rfl rfl rfl (Nat.le_of_ble_eq_true rfl) rfl ?_
      refine fX7_spareBy_L78_ok x1 x2 _ (fun M15 => ?_) _ _ _
      refine mm_iinc (q := 128) (ls' := [some (.ref 0), some (.int x1), some (.int (x2 + (1 : Int32))), none]) dX7_spareBy_125 rfl rfl (ii_1 _) rfl (Nat.le_of_ble_eq_true rfl) rfl ?_
      refine mm_goto (tgt := 66) dX7_spareBy_128 (by decide) ?_
      exact ih _ _
def fX7_spareBy (x1 : Int32) (M : mm_M) : Option (Int32 × mm_M) :=
  (fX7_isSpared (0 : Int32) M).bind fun b1 =>
  if b1.1 = 0 then
    fX7_spareBy_L21 x1 (fun M8 =>
      fX7_spareBy_L66 x1 1000 (0 : Int32) M8) 1000 (0 : Int32) b1.2
  else
    if x1 = (-1 : Int32) then
      some ((0 : Int32), b1.2)
    else
      some ((-1 : Int32), b1.2)
set_option maxRecDepth 100000 in
set_option maxHeartbeats 4000000 in
theorem fX7_spareBy_ok (x1 : Int32) (M : mm_M)  : mm_E LR yX7_spareBy cX7_spareBy 4 (some .int) 7 mm_eI [.ref 0, .int x1] M (fX7_spareBy x1 M) := by
  refine mm_E.of (own := RX7) (ls := [some (.ref 0), some (.int x1), none, none]) (by decide) rfl rfl (Nat.le_of_ble_eq_true rfl) ?_
  unfold fX7_spareBy
  refine mm_aload_n (q := 1) dX7_spareBy_0 rfl rfl rfl ?_
  refine mm_iconst (q := 2) dX7_spareBy_1 rfl ic_0 ?_
  refine mm_callVI (as := [.int (0 : Int32)]) (st := []) (q := 5) lr_0 rfl (fX7_isSpared_ok (0 : Int32) M) ms_X7_269 rfl (Nat.le_of_ble_eq_true rfl) (Nat.le_of_ble_eq_true rfl) rfl dX7_spareBy_2 rfl (fun b1 _ => ?_)
  refine mm_if_eq (q := 8) (tgt := 19) dX7_spareBy_5 rfl (by decide) (fun c2 => ?_) (fun c2 => ?_)
  · refine mm_iconst (q := 20) dX7_spareBy_19 rfl ic_0 ?_
    refine mm_istore_n (q := 21) (ls' := [some (.ref 0), some (.int x1), some (.int (0 : Int32)), none]) dX7_spareBy_20 rfl rfl rfl (Nat.le_of_ble_eq_true rfl) rfl ?_
    refine fX7_spareBy_L21_ok x1 _ (fun M8 => ?_) _ _ _
    refine mm_iconst (q := 65) dX7_spareBy_64 rfl ic_0 ?_
    refine mm_istore_n (q := 66) (ls' := [some (.ref 0), some (.int x1), some (.int (0 : Int32)), none]) dX7_spareBy_65 rfl rfl rfl (Nat.le_of_ble_eq_true rfl) rfl ?_
    exact fX7_spareBy_L66_ok x1 _ _ _
  · refine mm_iload_n (q := 9) dX7_spareBy_8 rfl rfl rfl ?_
    refine mm_iconst (q := 10) dX7_spareBy_9 rfl ic_m1 ?_
    refine mm_icmp_ne (q := 13) (tgt := 17) dX7_spareBy_10 rfl (by decide) (fun c16 => ?_) (fun c16 => ?_)
    · refine mm_iconst (q := 14) dX7_spareBy_13 rfl ic_0 ?_
      refine mm_goto (tgt := 18) dX7_spareBy_14 (by decide) ?_
      exact mm_iret rfl dX7_spareBy_18
    · refine mm_iconst (q := 18) dX7_spareBy_17 rfl ic_m1 ?_
      exact mm_iret rfl dX7_spareBy_18
def fX7_neverNow_L4  (k42 : Int32 → mm_M → Option (Int32 × mm_M)) : Nat → Int32 → Int32 → mm_M → Option (Int32 × mm_M)
  | 0, _, _, _ => none
  | n + 1, x1, x2, M =>
    if (M 0 13) ≤ x2 then
      k42 x1 M
    else
      (mm_pf M 0 15 ((1 : Int32) <<< (x2 &&& 31))).bind fun M2 =>
      (fX7_isCounted M2).bind fun b3 =>
      fX7_neverNow_L4 k42 n (if b3.1 = 0 then x1 ||| (0 : Int32) else x1 ||| ((1 : Int32) <<< (x2 &&& 31))) (x2 + (1 : Int32)) b3.2
set_option maxRecDepth 100000 in
set_option maxHeartbeats 4000000 in
theorem fX7_neverNow_L4_ok   (k42 : Int32 → mm_M → Option (Int32 × mm_M)) (hk42 : ∀ (x1 : Int32) (M : mm_M), mm_C LR cX7_neverNow 3 RX7 (some .int) 7 mm_eI 42 [some (.ref 0), some (.int x1), none] [] M (k42 x1 M)) : ∀ (n : Nat) (x1 : Int32) (x2 : Int32) (M : mm_M), mm_C LR cX7_neverNow 3 RX7 (some .int) 7 mm_eI 4 [some (.ref 0), some (.int x1), some (.int x2)] [] M (fX7_neverNow_L4 k42 n x1 x2 M) := by
  intro n
  induction n with
  | zero => intro x1 x2 M; exact mm_none
  | succ n ih =>
    intro x1 x2 M
    rw [fX7_neverNow_L4]
    refine mm_iload_n (q := 5) dX7_neverNow_4 rfl rfl rfl ?_
    refine mm_aload_n (q := 6) dX7_neverNow_5 rfl rfl rfl ?_
    refine mm_getI (q := 9) dX7_neverNow_6 rfl lr_0 fd_X7_171 rfl ?_
    refine mm_icmp_ge (q := 12) (tgt := 42) dX7_neverNow_9 rfl (by decide) (fun c1 => ?_) (fun c1 => ?_)
    · refine mm_drop (ls' := [some (.ref 0), some (.int x1), none]) (mm_sub_at _ _ (And.intro rfl (And.intro rfl trivial))) ?_
      exact hk42 _ _
    · refine mm_aload_n (q := 13) dX7_neverNow_12 rfl rfl rfl ?_
      refine mm_iconst (q := 14) dX7_neverNow_13 rfl ic_1 ?_
      refine mm_iload_n (q := 15) dX7_neverNow_14 rfl rfl rfl ?_
      refine mm_ishl (q := 16) dX7_neverNow_15 rfl ?_
      refine mm_put (q := 19) dX7_neverNow_16 rfl lr_0 fd_X7_176 ps_X7_15 rfl rfl rfl (fun M2 _ => ?_)
      refine mm_iload_n (q := 20) dX7_neverNow_19 rfl rfl rfl ?_
      refine mm_aload_n (q := 21) dX7_neverNow_20 rfl rfl rfl ?_
      refine mm_callVI (as := []) (st := [.int x1]) (q := 24) lr_0 rfl (fX7_isCounted_ok M2) ms_X7_282 rfl (Nat.le_of_ble_eq_true rfl) (Nat.le_of_ble_eq_true rfl) rfl dX7_neverNow_21 rfl (fun b3 _ => ?_)
      by_cases c4 : b3.1 = 0
      · simp only [if_pos c4]
        refine mm_if_eq_t (tgt := 33) c4 dX7_neverNow_24 (by decide) ?_
        refine mm_iconst (q := 34) dX7_neverNow_33 rfl ic_0 ?_
        refine mm_ior (q := 35) dX7_neverNow_34 rfl ?_
        refine mm_istore_n (q := 36) (ls' := [some (.ref 0), some (.int (x1 ||| (0 : Int32))), some (.int x2)]) dX7_neverNow_35 rfl rfl rfl (Nat.le_of_ble_eq_true rfl) rfl ?_
        refine mm_iinc (q := 39) (ls' := [some (.ref 0), some (.int (x1 ||| (0 : Int32))), some (.int (x2 + (1 : Int32)))]) dX7_neverNow_36 rfl rfl (ii_1 _) rfl (Nat.le_of_ble_eq_true rfl) rfl ?_
        refine mm_goto (tgt := 4) dX7_neverNow_39 (by decide) ?_
        exact ih _ _ _
      · simp only [if_neg c4]
        refine mm_if_eq_f (q := 27) (tgt := 33) c4 dX7_neverNow_24 rfl (by decide) ?_
        refine mm_iconst (q := 28) dX7_neverNow_27 rfl ic_1 ?_
        refine mm_iload_n (q := 29) dX7_neverNow_28 rfl rfl rfl ?_
        refine mm_ishl (q := 30) dX7_neverNow_29 rfl ?_
        refine mm_goto (tgt := 34) dX7_neverNow_30 (by decide) ?_
        refine mm_ior (q := 35) dX7_neverNow_34 rfl ?_
        refine mm_istore_n (q := 36) (ls' := [some (.ref 0), some (.int (x1 ||| ((1 : Int32) <<< (x2 &&& 31)))), some (.int x2)]) dX7_neverNow_35 rfl rfl rfl (Nat.le_of_ble_eq_true rfl) rfl ?_
        refine mm_iinc (q := 39) (ls' := [some (.ref 0), some (.int (x1 ||| ((1 : Int32) <<< (x2 &&& 31)))), some (.int (x2 + (1 : Int32)))]) dX7_neverNow_36 rfl rfl (ii_1 _) rfl (Nat.le_of_ble_eq_true rfl) rfl ?_
        refine mm_goto (tgt := 4) dX7_neverNow_39 (by decide) ?_
        exact ih _ _ _
def fX7_neverNow  (M : mm_M) : Option (Int32 × mm_M) :=
  fX7_neverNow_L4 (fun z5 M6 =>
      (mm_pf M6 0 15 (0 : Int32)).bind fun M7 =>
      some (z5, M7)) 1000 (0 : Int32) (0 : Int32) M
set_option maxRecDepth 100000 in
set_option maxHeartbeats 4000000 in
theorem fX7_neverNow_ok  (M : mm_M)  : mm_E LR yX7_neverNow cX7_neverNow 3 (some .int) 7 mm_eI [.ref 0] M (fX7_neverNow M) := by
  refine mm_E.of (own := RX7) (ls := [some (.ref 0), none, none]) (by decide) rfl rfl (Nat.le_of_ble_eq_true rfl) ?_
  unfold fX7_neverNow
  refine mm_iconst (q := 1) dX7_neverNow_0 rfl ic_0 ?_
  refine mm_istore_n (q := 2) (ls' := [some (.ref 0), some (.int (0 : Int32)), none]) dX7_neverNow_1 rfl rfl rfl (Nat.le_of_ble_eq_true rfl) rfl ?_
  refine mm_iconst (q := 3) dX7_neverNow_2 rfl ic_0 ?_
  refine mm_istore_n (q := 4) (ls' := [some (.ref 0), some (.int (0 : Int32)), some (.int (0 : Int32))]) dX7_neverNow_3 rfl rfl rfl (Nat.le_of_ble_eq_true rfl) rfl ?_
  refine fX7_neverNow_L4_ok _ (fun z5 M6 => ?_) _ _ _ _
  refine mm_aload_n (q := 43) dX7_neverNow_42 rfl rfl rfl ?_
  refine mm_iconst (q := 44) dX7_neverNow_43 rfl ic_0 ?_
  refine mm_put (q := 47) dX7_neverNow_44 rfl lr_0 fd_X7_176 ps_X7_15 rfl rfl rfl (fun M7 _ => ?_)
  refine mm_iload_n (q := 48) dX7_neverNow_47 rfl rfl rfl ?_
  exact mm_iret rfl dX7_neverNow_48
def fX7_lot (x1 : Int32) (M : mm_M) : Option (Int32 × mm_M) :=
  (mm_pf M 0 30 (((1103515245 : Int32) * (M 0 30)) + (12345 : Int32))).bind fun M1 =>
  (mm_rm (mm_ushr (M1 0 30) (16 : Int32)) x1).bind fun b2 =>
  some (b2, M1)
set_option maxRecDepth 100000 in
set_option maxHeartbeats 4000000 in
theorem fX7_lot_ok (x1 : Int32) (M : mm_M)  : mm_E LR yX7_lot cX7_lot 2 (some .int) 0 mm_eI [.ref 0, .int x1] M (fX7_lot x1 M) := by
  refine mm_E.of (own := RX7) (ls := [some (.ref 0), some (.int x1)]) (by decide) rfl rfl (Nat.le_of_ble_eq_true rfl) ?_
  unfold fX7_lot
  refine mm_aload_n (q := 1) dX7_lot_0 rfl rfl rfl ?_
  refine mm_ldcw (q := 4) dX7_lot_1 rfl cn_X7_315 ?_
  refine mm_aload_n (q := 5) dX7_lot_4 rfl rfl rfl ?_
  refine mm_getI (q := 8) dX7_lot_5 rfl lr_0 fd_X7_316 rfl ?_
  refine mm_imul (q := 9) dX7_lot_8 rfl ?_
  refine mm_sipush (q := 12) dX7_lot_9 rfl sp_12345 ?_
  refine mm_iadd (q := 13) dX7_lot_12 rfl ?_
  refine mm_put (q := 16) dX7_lot_13 rfl lr_0 fd_X7_316 ps_X7_30 rfl rfl rfl (fun M1 _ => ?_)
  refine mm_aload_n (q := 17) dX7_lot_16 rfl rfl rfl ?_
  refine mm_getI (q := 20) dX7_lot_17 rfl lr_0 fd_X7_316 rfl ?_
  refine mm_bipush (q := 22) dX7_lot_20 rfl bp_16 ?_
  refine mm_iushr (q := 23) dX7_lot_22 rfl ?_
  refine mm_iload_n (q := 24) dX7_lot_23 rfl rfl rfl ?_
  refine mm_irem (q := 25) dX7_lot_24 rfl (fun b2 _ => ?_)
  exact mm_iret rfl dX7_lot_25
def fX7_livesOf_L13 (x2 : Int32) (x3 : Int32) (k95 : mm_M → Option (Int32 × mm_M)) : Nat → Int32 → mm_M → Option (Int32 × mm_M)
  | 0, _, _ => none
  | n + 1, x4, M =>
    if x2 ≤ x4 then
      k95 M
    else
      if (M 0 7) ≤ 0 then
        k95 M
      else
        (fX7_lot (24 : Int32) M).bind fun b5 =>
        (mm_wa b5.2 9 36 ((3 : Int32) * x4) b5.1).bind fun M6 =>
        (fX7_lot (M6 0 7) M6).bind fun b7 =>
        (mm_wa b7.2 9 36 (((3 : Int32) * x4) + (1 : Int32)) b7.1).bind fun M8 =>
        (fX7_lot (M8 0 7) M8).bind fun b9 =>
        (mm_wa b9.2 9 36 (((3 : Int32) * x4) + (2 : Int32)) b9.1).bind fun M10 =>
        (mm_pf M10 0 11 ((M10 0 11) + (1 : Int32))).bind fun M11 =>
        fX7_livesOf_L13 x2 x3 k95 n (x4 + (1 : Int32)) M11
set_option maxRecDepth 100000 in
set_option maxHeartbeats 4000000 in
theorem fX7_livesOf_L13_ok (x2 : Int32) (x3 : Int32)  (k95 : mm_M → Option (Int32 × mm_M)) (hk95 : ∀  (M : mm_M), mm_C LR cX7_livesOf 5 RX7 (some .int) 6 mm_eI 95 [some (.ref 0), none, none, some (.int x3), none] [] M (k95 M)) : ∀ (n : Nat) (x4 : Int32) (M : mm_M), mm_C LR cX7_livesOf 5 RX7 (some .int) 6 mm_eI 13 [some (.ref 0), none, some (.int x2), some (.int x3), some (.int x4)] [] M (fX7_livesOf_L13 x2 x3 k95 n x4 M) := by
  intro n
  induction n with
  | zero => intro x4 M; exact mm_none
  | succ n ih =>
    intro x4 M
    rw [fX7_livesOf_L13]
    refine mm_iload (q := 15) dX7_livesOf_13 rfl rfl ?_
    refine mm_iload_n (q := 16) dX7_livesOf_15 rfl rfl rfl ?_
    refine mm_icmp_ge (q := 19) (tgt := 95) dX7_livesOf_16 rfl (by decide) (fun c3 => ?_) (fun c3 => ?_)
    · refine mm_drop (ls' := [some (.ref 0), none, none, some (.int x3), none]) (mm_sub_at _ _ (And.intro rfl (And.intro rfl trivial))) ?_
      exact hk95  _
    · refine mm_aload_n (q := 20) dX7_livesOf_19 rfl rfl rfl ?_
      refine mm_getI (q := 23) dX7_livesOf_20 rfl lr_0 fd_X7_116 rfl ?_
      refine mm_if_le (q := 26) (tgt := 95) dX7_livesOf_23 rfl (by decide) (fun c4 => ?_) (fun c4 => ?_)
      · refine mm_drop (ls' := [some (.ref 0), none, none, some (.int x3), none]) (mm_sub_at _ _ (And.intro rfl (And.intro rfl trivial))) ?_
        exact hk95  _
      · refine mm_aload_n (q := 27) dX7_livesOf_26 rfl rfl rfl ?_
        refine mm_getR (q := 30) (k1 := 9) dX7_livesOf_27 rfl lr_0 fd_X7_34 rfl ?_
        refine mm_iconst (q := 31) dX7_livesOf_30 rfl ic_3 ?_
        refine mm_iload (q := 33) dX7_livesOf_31 rfl rfl ?_
        refine mm_imul (q := 34) dX7_livesOf_33 rfl ?_
        refine mm_aload_n (q := 35) dX7_livesOf_34 rfl rfl rfl ?_
        refine mm_bipush (q := 37) dX7_livesOf_35 rfl bp_24 ?_
        refine mm_callVI (as := [.int (24 : Int32)]) (st := [.int ((3 : Int32) * x4), .ref 9]) (q := 40) lr_0 rfl (fX7_lot_ok (24 : Int32) M) ms_X7_319 rfl (Nat.le_of_ble_eq_true rfl) (Nat.le_of_ble_eq_true rfl) rfl dX7_livesOf_37 rfl (fun b5 _ => ?_)
        refine mm_iast (q := 41) dX7_livesOf_40 rfl lr_9 (fun M6 _ => ?_)
        refine mm_aload_n (q := 42) dX7_livesOf_41 rfl rfl rfl ?_
        refine mm_getR (q := 45) (k1 := 9) dX7_livesOf_42 rfl lr_0 fd_X7_34 rfl ?_
        refine mm_iconst (q := 46) dX7_livesOf_45 rfl ic_3 ?_
        refine mm_iload (q := 48) dX7_livesOf_46 rfl rfl ?_
        refine mm_imul (q := 49) dX7_livesOf_48 rfl ?_
        refine mm_iconst (q := 50) dX7_livesOf_49 rfl ic_1 ?_
        refine mm_iadd (q := 51) dX7_livesOf_50 rfl ?_
        refine mm_aload_n (q := 52) dX7_livesOf_51 rfl rfl rfl ?_
        refine mm_aload_n (q := 53) dX7_livesOf_52 rfl rfl rfl ?_
        refine mm_getI (q := 56) dX7_livesOf_53 rfl lr_0 fd_X7_116 rfl ?_
        refine mm_callVI (as := [.int (M6 0 7)]) (st := [.int (((3 : Int32) * x4) + (1 : Int32)), .ref 9]) (q := 59) lr_0 rfl (fX7_lot_ok (M6 0 7) M6) ms_X7_319 rfl (Nat.le_of_ble_eq_true rfl) (Nat.le_of_ble_eq_true rfl) rfl dX7_livesOf_56 rfl (fun b7 _ => ?_)
        refine mm_iast (q := 60) dX7_livesOf_59 rfl lr_9 (fun M8 _ => ?_)
        refine mm_aload_n (q := 61) dX7_livesOf_60 rfl rfl rfl ?_
        refine mm_getR (q := 64) (k1 := 9) dX7_livesOf_61 rfl lr_0 fd_X7_34 rfl ?_
        refine mm_iconst (q := 65) dX7_livesOf_64 rfl ic_3 ?_
        refine mm_iload (q := 67) dX7_livesOf_65 rfl rfl ?_
        refine mm_imul (q := 68) dX7_livesOf_67 rfl ?_
        refine mm_iconst (q := 69) dX7_livesOf_68 rfl ic_2 ?_
        refine mm_iadd (q := 70) dX7_livesOf_69 rfl ?_
        refine mm_aload_n (q := 71) dX7_livesOf_70 rfl rfl rfl ?_
        refine mm_aload_n (q := 72) dX7_livesOf_71 rfl rfl rfl ?_
        refine mm_getI (q := 75) dX7_livesOf_72 rfl lr_0 fd_X7_116 rfl ?_
        refine mm_callVI (as := [.int (M8 0 7)]) (st := [.int (((3 : Int32) * x4) + (2 : Int32)), .ref 9]) (q := 78) lr_0 rfl (fX7_lot_ok (M8 0 7) M8) ms_X7_319 rfl (Nat.le_of_ble_eq_true rfl) (Nat.le_of_ble_eq_true rfl) rfl dX7_livesOf_75 rfl (fun b9 _ => ?_)
        refine mm_iast (q := 79) dX7_livesOf_78 rfl lr_9 (fun M10 _ => ?_)
        refine mm_aload_n (q := 80) dX7_livesOf_79 rfl rfl rfl ?_
        refine mm_dup (q := 81) dX7_livesOf_80 rfl rfl ?_
        refine mm_getI (q := 84) dX7_livesOf_81 rfl lr_0 fd_X7_131 rfl ?_
        refine mm_iconst (q := 85) dX7_livesOf_84 rfl ic_1 ?_
        refine mm_iadd (q := 86) dX7_livesOf_85 rfl ?_
        refine mm_put (q := 89) dX7_livesOf_86 rfl lr_0 fd_X7_131 ps_X7_11 rfl rfl rfl (fun M11 _ => ?_)
        refine mm_iinc (q := 92) (ls' := [some (.ref 0), none, some (.int x2), some (.int x3), some (.int (x4 + (1 : Int32)))]) dX7_livesOf_89 rfl rfl (ii_1 _) rfl (Nat.le_of_ble_eq_true rfl) rfl ?_
        refine mm_goto (tgt := 13) dX7_livesOf_92 (by decide) ?_
        exact ih _ _
def fX7_livesOf_J95 (x3 : Int32)  (M : mm_M) : Option (Int32 × mm_M) :=
  (fX7_runs M).bind fun M13 =>
  (fX7_readsMeetings M13).bind fun b14 =>
  if x3 = 0 then
    ((fX7_many (1 : Int32) b14.2).bind fun b16 =>
    some (b16, b14.2))
  else
    (fX7_many (3 : Int32) b14.2).bind fun b17 =>
    some (b17, b14.2)
set_option maxRecDepth 100000 in
set_option maxHeartbeats 4000000 in
theorem fX7_livesOf_J95_ok (x3 : Int32)  (M : mm_M)    : mm_C LR cX7_livesOf 5 RX7 (some .int) 6 mm_eI 95 [some (.ref 0), none, none, some (.int x3), none] [] M (fX7_livesOf_J95 x3 M) := by
  unfold fX7_livesOf_J95
  refine mm_aload_n (q := 96) dX7_livesOf_95 rfl rfl rfl ?_
  refine mm_callVV (as := []) (st := []) (q := 99) lr_0 rfl (fX7_runs_ok M) ms_X7_218 rfl (Nat.le_of_ble_eq_true rfl) (Nat.le_of_ble_eq_true rfl) rfl dX7_livesOf_96 rfl (fun M13 _ => ?_)
  refine mm_aload_n (q := 100) dX7_livesOf_99 rfl rfl rfl ?_
  refine mm_callVI (as := []) (st := []) (q := 103) lr_0 rfl (fX7_readsMeetings_ok M13) ms_X7_144 rfl (Nat.le_of_ble_eq_true rfl) (Nat.le_of_ble_eq_true rfl) rfl dX7_livesOf_100 rfl (fun b14 _ => ?_)
  refine mm_pop (q := 104) dX7_livesOf_103 rfl rfl ?_
  refine mm_aload_n (q := 105) dX7_livesOf_104 rfl rfl rfl ?_
  refine mm_iload_n (q := 106) dX7_livesOf_105 rfl rfl rfl ?_
  refine mm_if_ne (q := 109) (tgt := 113) dX7_livesOf_106 rfl (by decide) (fun c15 => ?_) (fun c15 => ?_)
  · refine mm_iconst (q := 110) dX7_livesOf_109 rfl ic_1 ?_
    refine mm_goto (tgt := 114) dX7_livesOf_110 (by decide) ?_
    refine mm_callVP (as := [.int (1 : Int32)]) (st := []) (q := 117) lr_0 rfl (fX7_many_ok (1 : Int32) b14.2) ms_X7_263 rfl (Nat.le_of_ble_eq_true rfl) (Nat.le_of_ble_eq_true rfl) rfl dX7_livesOf_114 rfl (fun b16 _ => ?_)
    exact mm_iret rfl dX7_livesOf_117
  · refine mm_iconst (q := 114) dX7_livesOf_113 rfl ic_3 ?_
    refine mm_callVP (as := [.int (3 : Int32)]) (st := []) (q := 117) lr_0 rfl (fX7_many_ok (3 : Int32) b14.2) ms_X7_263 rfl (Nat.le_of_ble_eq_true rfl) (Nat.le_of_ble_eq_true rfl) rfl dX7_livesOf_114 rfl (fun b17 _ => ?_)
    exact mm_iret rfl dX7_livesOf_117
def fX7_livesOf (x1 : Int32) (x2 : Int32) (x3 : Int32) (M : mm_M) : Option (Int32 × mm_M) :=
  (mm_pf M 0 30 x1).bind fun M1 =>
  (mm_pf M1 0 11 (0 : Int32)).bind fun M2 =>
  fX7_livesOf_L13 x2 x3 (fun M12 =>
      fX7_livesOf_J95 x3 M12) 1000 (0 : Int32) M2
set_option maxRecDepth 100000 in
set_option maxHeartbeats 4000000 in
theorem fX7_livesOf_ok (x1 : Int32) (x2 : Int32) (x3 : Int32) (M : mm_M)  : mm_E LR yX7_livesOf cX7_livesOf 5 (some .int) 6 mm_eI [.ref 0, .int x1, .int x2, .int x3] M (fX7_livesOf x1 x2 x3 M) := by
  refine mm_E.of (own := RX7) (ls := [some (.ref 0), some (.int x1), some (.int x2), some (.int x3), none]) (by decide) rfl rfl (Nat.le_of_ble_eq_true rfl) ?_
  unfold fX7_livesOf
  refine mm_aload_n (q := 1) dX7_livesOf_0 rfl rfl rfl ?_
  refine mm_iload_n (q := 2) dX7_livesOf_1 rfl rfl rfl ?_
  refine mm_put (q := 5) dX7_livesOf_2 rfl lr_0 fd_X7_316 ps_X7_30 rfl rfl rfl (fun M1 _ => ?_)
  refine mm_aload_n (q := 6) dX7_livesOf_5 rfl rfl rfl ?_
  refine mm_iconst (q := 7) dX7_livesOf_6 rfl ic_0 ?_
  refine mm_put (q := 10) dX7_livesOf_7 rfl lr_0 fd_X7_131 ps_X7_11 rfl rfl rfl (fun M2 _ => ?_)
  refine mm_iconst (q := 11) dX7_livesOf_10 rfl ic_0 ?_
  refine mm_istore (q := 13) (ls' := [some (.ref 0), some (.int x1), some (.int x2), some (.int x3), some (.int (0 : Int32))]) dX7_livesOf_11 rfl rfl (Nat.le_of_ble_eq_true rfl) rfl ?_
  refine mm_drop (ls' := [some (.ref 0), none, some (.int x2), some (.int x3), some (.int (0 : Int32))]) (mm_sub_at _ _ (And.intro rfl (And.intro rfl (And.intro rfl (And.intro rfl trivial))))) ?_
  refine fX7_livesOf_L13_ok x2 x3 _ (fun M12 => ?_) _ _ _
  exact fX7_livesOf_J95_ok _ _
def fX7_digest_L6  (k31 : Int64 → mm_M → Option (Int64 × mm_M)) : Nat → Int64 → Int32 → mm_M → Option (Int64 × mm_M)
  | 0, _, _, _ => none
  | n + 1, x1, x3, M =>
    if (8 : Int32) ≤ x3 then
      k31 x1 M
    else
      (fX7_count x3 M).bind fun b2 =>
      fX7_digest_L6 k31 n (((31 : Int64) * x1) + ((b2.1).toInt64)) (x3 + (1 : Int32)) b2.2
set_option maxRecDepth 100000 in
set_option maxHeartbeats 4000000 in
theorem fX7_digest_L6_ok   (k31 : Int64 → mm_M → Option (Int64 × mm_M)) (hk31 : ∀ (x1 : Int64) (M : mm_M), mm_C LR cX7_digest 5 RX7 (some .long) 10 mm_eL 31 [some (.ref 0), some (.long x1), none, none, none] [] M (k31 x1 M)) : ∀ (n : Nat) (x1 : Int64) (x3 : Int32) (M : mm_M), mm_C LR cX7_digest 5 RX7 (some .long) 10 mm_eL 6 [some (.ref 0), some (.long x1), none, some (.int x3), none] [] M (fX7_digest_L6 k31 n x1 x3 M) := by
  intro n
  induction n with
  | zero => intro x1 x3 M; exact mm_none
  | succ n ih =>
    intro x1 x3 M
    rw [fX7_digest_L6]
    refine mm_iload_n (q := 7) dX7_digest_6 rfl rfl rfl ?_
    refine mm_bipush (q := 9) dX7_digest_7 rfl bp_8 ?_
    refine mm_icmp_ge (q := 12) (tgt := 31) dX7_digest_9 rfl (by decide) (fun c1 => ?_) (fun c1 => ?_)
    · refine mm_drop (ls' := [some (.ref 0), some (.long x1), none, none, none]) (mm_sub_at _ _ (And.intro rfl (And.intro rfl trivial))) ?_
      exact hk31 _ _
    · refine mm_ldc2 (q := 15) dX7_digest_12 rfl cn_X7_327 ?_
      refine mm_lload_n (q := 16) dX7_digest_15 rfl rfl rfl ?_
      refine mm_lmul (q := 17) dX7_digest_16 rfl ?_
      refine mm_aload_n (q := 18) dX7_digest_17 rfl rfl rfl ?_
      refine mm_iload_n (q := 19) dX7_digest_18 rfl rfl rfl ?_
      refine mm_callVI (as := [.int x3]) (st := [.long ((31 : Int64) * x1)]) (q := 22) lr_0 rfl (fX7_count_ok x3 M) ms_X7_335 rfl (Nat.le_of_ble_eq_true rfl) (Nat.le_of_ble_eq_true rfl) rfl dX7_digest_19 rfl (fun b2 _ => ?_)
      refine mm_i2l (q := 23) dX7_digest_22 rfl ?_
      refine mm_ladd (q := 24) dX7_digest_23 rfl ?_
      refine mm_lstore_n (q := 25) (ls' := [some (.ref 0), some (.long (((31 : Int64) * x1) + ((b2.1).toInt64))), none, some (.int x3), none]) dX7_digest_24 rfl rfl rfl (Nat.le_of_ble_eq_true rfl) rfl ?_
      refine mm_iinc (q := 28) (ls' := [some (.ref 0), some (.long (((31 : Int64) * x1) + ((b2.1).toInt64))), none, some (.int (x3 + (1 : Int32))), none]) dX7_digest_25 rfl rfl (ii_1 _) rfl (Nat.le_of_ble_eq_true rfl) rfl ?_
      refine mm_goto (tgt := 6) dX7_digest_28 (by decide) ?_
      exact ih _ _ _
def fX7_digest_L33  (k57 : Int64 → mm_M → Option (Int64 × mm_M)) : Nat → Int64 → Int32 → mm_M → Option (Int64 × mm_M)
  | 0, _, _, _ => none
  | n + 1, x1, x3, M =>
    if (3 : Int32) ≤ x3 then
      k57 x1 M
    else
      (fX7_readsText x3 M).bind fun b6 =>
      fX7_digest_L33 k57 n (((31 : Int64) * x1) + ((b6.1).toInt64)) (x3 + (1 : Int32)) b6.2
set_option maxRecDepth 100000 in
set_option maxHeartbeats 4000000 in
theorem fX7_digest_L33_ok   (k57 : Int64 → mm_M → Option (Int64 × mm_M)) (hk57 : ∀ (x1 : Int64) (M : mm_M), mm_C LR cX7_digest 5 RX7 (some .long) 10 mm_eL 57 [some (.ref 0), some (.long x1), none, none, none] [] M (k57 x1 M)) : ∀ (n : Nat) (x1 : Int64) (x3 : Int32) (M : mm_M), mm_C LR cX7_digest 5 RX7 (some .long) 10 mm_eL 33 [some (.ref 0), some (.long x1), none, some (.int x3), none] [] M (fX7_digest_L33 k57 n x1 x3 M) := by
  intro n
  induction n with
  | zero => intro x1 x3 M; exact mm_none
  | succ n ih =>
    intro x1 x3 M
    rw [fX7_digest_L33]
    refine mm_iload_n (q := 34) dX7_digest_33 rfl rfl rfl ?_
    refine mm_iconst (q := 35) dX7_digest_34 rfl ic_3 ?_
    refine mm_icmp_ge (q := 38) (tgt := 57) dX7_digest_35 rfl (by decide) (fun c5 => ?_) (fun c5 => ?_)
    · refine mm_drop (ls' := [some (.ref 0), some (.long x1), none, none, none]) (mm_sub_at _ _ (And.intro rfl (And.intro rfl trivial))) ?_
      exact hk57 _ _
    · refine mm_ldc2 (q := 41) dX7_digest_38 rfl cn_X7_327 ?_
      refine mm_lload_n (q := 42) dX7_digest_41 rfl rfl rfl ?_
      refine mm_lmul (q := 43) dX7_digest_42 rfl ?_
      refine mm_aload_n (q := 44) dX7_digest_43 rfl rfl rfl ?_
      refine mm_iload_n (q := 45) dX7_digest_44 rfl rfl rfl ?_
      refine mm_callVI (as := [.int x3]) (st := [.long ((31 : Int64) * x1)]) (q := 48) lr_0 rfl (fX7_readsText_ok x3 M) ms_X7_147 rfl (Nat.le_of_ble_eq_true rfl) (Nat.le_of_ble_eq_true rfl) rfl dX7_digest_45 rfl (fun b6 _ => ?_)
      refine mm_i2l (q := 49) dX7_digest_48 rfl ?_
      refine mm_ladd (q := 50) dX7_digest_49 rfl ?_
      refine mm_lstore_n (q := 51) (ls' := [some (.ref 0), some (.long (((31 : Int64) * x1) + ((b6.1).toInt64))), none, some (.int x3), none]) dX7_digest_50 rfl rfl rfl (Nat.le_of_ble_eq_true rfl) rfl ?_
      refine mm_iinc (q := 54) (ls' := [some (.ref 0), some (.long (((31 : Int64) * x1) + ((b6.1).toInt64))), none, some (.int (x3 + (1 : Int32))), none]) dX7_digest_51 rfl rfl (ii_1 _) rfl (Nat.le_of_ble_eq_true rfl) rfl ?_
      refine mm_goto (tgt := 33) dX7_digest_54 (by decide) ?_
      exact ih _ _ _
def fX7_digest_L68 (x3 : Int32) (M : mm_M) (k95 : Int64 → Option (Int64 × mm_M)) : Nat → Int64 → Int32 → Option (Int64 × mm_M)
  | 0, _, _ => none
  | n + 1, x1, x4 =>
    if (3 : Int32) ≤ x4 then
      k95 x1
    else
      (fX7_meetingBy x3 x4 M).bind fun b11 =>
      fX7_digest_L68 x3 M k95 n (((31 : Int64) * x1) + ((b11).toInt64)) (x4 + (1 : Int32))
set_option maxRecDepth 100000 in
set_option maxHeartbeats 4000000 in
theorem fX7_digest_L68_ok (x3 : Int32) (M : mm_M)  (k95 : Int64 → Option (Int64 × mm_M)) (hk95 : ∀ (x1 : Int64), mm_C LR cX7_digest 5 RX7 (some .long) 10 mm_eL 95 [some (.ref 0), some (.long x1), none, some (.int x3), none] [] M (k95 x1)) : ∀ (n : Nat) (x1 : Int64) (x4 : Int32), mm_C LR cX7_digest 5 RX7 (some .long) 10 mm_eL 68 [some (.ref 0), some (.long x1), none, some (.int x3), some (.int x4)] [] M (fX7_digest_L68 x3 M k95 n x1 x4) := by
  intro n
  induction n with
  | zero => intro x1 x4; exact mm_none
  | succ n ih =>
    intro x1 x4
    rw [fX7_digest_L68]
    refine mm_iload (q := 70) dX7_digest_68 rfl rfl ?_
    refine mm_iconst (q := 71) dX7_digest_70 rfl ic_3 ?_
    refine mm_icmp_ge (q := 74) (tgt := 95) dX7_digest_71 rfl (by decide) (fun c10 => ?_) (fun c10 => ?_)
    · refine mm_drop (ls' := [some (.ref 0), some (.long x1), none, some (.int x3), none]) (mm_sub_at _ _ (And.intro rfl (And.intro rfl (And.intro rfl trivial)))) ?_
      exact hk95 _
    · refine mm_ldc2 (q := 77) dX7_digest_74 rfl cn_X7_327 ?_
      refine mm_lload_n (q := 78) dX7_digest_77 rfl rfl rfl ?_
      refine mm_lmul (q := 79) dX7_digest_78 rfl ?_
      refine mm_aload_n (q := 80) dX7_digest_79 rfl rfl rfl ?_
      refine mm_iload_n (q := 81) dX7_digest_80 rfl rfl rfl ?_
      refine mm_iload (q := 83) dX7_digest_81 rfl rfl ?_
      refine mm_callVP (as := [.int x3, .int x4]) (st := [.long ((31 : Int64) * x1)]) (q := 86) lr_0 rfl (fX7_meetingBy_ok x3 x4 M) ms_X7_163 rfl (Nat.le_of_ble_eq_true rfl) (Nat.le_of_ble_eq_true rfl) rfl dX7_digest_83 rfl (fun b11 _ => ?_)
      refine mm_i2l (q := 87) dX7_digest_86 rfl ?_
      refine mm_ladd (q := 88) dX7_digest_87 rfl ?_
      refine mm_lstore_n (q := 89) (ls' := [some (.ref 0), some (.long (((31 : Int64) * x1) + ((b11).toInt64))), none, some (.int x3), some (.int x4)]) dX7_digest_88 rfl rfl rfl (Nat.le_of_ble_eq_true rfl) rfl ?_
      refine mm_iinc (q := 92) (ls' := [some (.ref 0), some (.long (((31 : Int64) * x1) + ((b11).toInt64))), none, some (.int x3), some (.int (x4 + (1 : Int32)))]) dX7_digest_89 rfl rfl (ii_1 _) rfl (Nat.le_of_ble_eq_true rfl) rfl ?_
      refine mm_goto (tgt := 68) dX7_digest_92 (by decide) ?_
      exact ih _ _
def fX7_digest_L59 (M : mm_M) (k101 : Int64 → Option (Int64 × mm_M)) : Nat → Int64 → Int32 → Option (Int64 × mm_M)
  | 0, _, _ => none
  | n + 1, x1, x3 =>
    if (12 : Int32) ≤ x3 then
      k101 x1
    else
      fX7_digest_L68 x3 M (fun z12 =>
      fX7_digest_L59 M k101 n z12 (x3 + (1 : Int32))) 1000 x1 (0 : Int32)
set_option maxRecDepth 100000 in
set_option maxHeartbeats 4000000 in
theorem fX7_digest_L59_ok (M : mm_M)  (k101 : Int64 → Option (Int64 × mm_M)) (hk101 : ∀ (x1 : Int64), mm_C LR cX7_digest 5 RX7 (some .long) 10 mm_eL 101 [some (.ref 0), some (.long x1), none, none, none] [] M (k101 x1)) : ∀ (n : Nat) (x1 : Int64) (x3 : Int32), mm_C LR cX7_digest 5 RX7 (some .long) 10 mm_eL 59 [some (.ref 0), some (.long x1), none, some (.int x3), none] [] M (fX7_digest_L59 M k101 n x1 x3) := by
  intro n
  induction n with
  | zero => intro x1 x3; exact mm_none
  | succ n ih =>
    intro x1 x3
    rw [fX7_digest_L59]
    refine mm_iload_n (q := 60) dX7_digest_59 rfl rfl rfl ?_
    refine mm_bipush (q := 62) dX7_digest_60 rfl bp_12 ?_
    refine mm_icmp_ge (q := 65) (tgt := 101) dX7_digest_62 rfl (by decide) (fun c9 => ?_) (fun c9 => ?_)
    · refine mm_drop (ls' := [some (.ref 0), some (.long x1), none, none, none]) (mm_sub_at _ _ (And.intro rfl (And.intro rfl trivial))) ?_
      exact hk101 _
    · refine mm_iconst (q := 66) dX7_digest_65 rfl ic_0 ?_
      refine mm_istore (q := 68) (ls' := [some (.ref 0), some (.long x1), none, some (.int x3), some (.int (0 : Int32))]) dX7_digest_66 rfl rfl (Nat.le_of_ble_eq_true rfl) rfl ?_
      refine fX7_digest_L68_ok x3 M _ (fun z12 => ?_) _ _ _
      refine mm_iinc (q := 98) (ls' := [some (.ref 0), some (.long z12), none, some (.int (x3 + (1 : Int32))), none]) dX7_digest_95 rfl rfl (ii_1 _) rfl (Nat.le_of_ble_eq_true rfl) rfl ?_
      refine mm_goto (tgt := 59) dX7_digest_98 (by decide) ?_
      exact ih _ _
def fX7_digest_L103  (k124 : Int64 → mm_M → Option (Int64 × mm_M)) : Nat → Int64 → Int32 → mm_M → Option (Int64 × mm_M)
  | 0, _, _, _ => none
  | n + 1, x1, x3, M =>
    if (M 0 9) ≤ x3 then
      k124 x1 M
    else
      (fX7_tellsWord x1 x3 M).bind fun b15 =>
      fX7_digest_L103 k124 n b15.1 (x3 + (1 : Int32)) b15.2
set_option maxRecDepth 100000 in
set_option maxHeartbeats 4000000 in
theorem fX7_digest_L103_ok   (k124 : Int64 → mm_M → Option (Int64 × mm_M)) (hk124 : ∀ (x1 : Int64) (M : mm_M), mm_C LR cX7_digest 5 RX7 (some .long) 10 mm_eL 124 [some (.ref 0), some (.long x1), none, none, none] [] M (k124 x1 M)) : ∀ (n : Nat) (x1 : Int64) (x3 : Int32) (M : mm_M), mm_C LR cX7_digest 5 RX7 (some .long) 10 mm_eL 103 [some (.ref 0), some (.long x1), none, some (.int x3), none] [] M (fX7_digest_L103 k124 n x1 x3 M) := by
  intro n
  induction n with
  | zero => intro x1 x3 M; exact mm_none
  | succ n ih =>
    intro x1 x3 M
    rw [fX7_digest_L103]
    refine mm_iload_n (q := 104) dX7_digest_103 rfl rfl rfl ?_
    refine mm_aload_n (q := 105) dX7_digest_104 rfl rfl rfl ?_
    refine mm_getI (q := 108) dX7_digest_105 rfl lr_0 fd_X7_125 rfl ?_
    refine mm_icmp_ge (q := 111) (tgt := 124) dX7_digest_108 rfl (by decide) (fun c14 => ?_) (fun c14 => ?_)
    · refine mm_drop (ls' := [some (.ref 0), some (.long x1), none, none, none]) (mm_sub_at _ _ (And.intro rfl (And.intro rfl trivial))) ?_
      exact hk124 _ _
    · refine mm_aload_n (q := 112) dX7_digest_111 rfl rfl rfl ?_
      refine mm_lload_n (q := 113) dX7_digest_112 rfl rfl rfl ?_
      refine mm_iload_n (q := 114) dX7_digest_113 rfl rfl rfl ?_
      refine mm_callVL (as := [.long x1, .int x3]) (st := []) (q := 117) lr_0 rfl (fX7_tellsWord_ok x1 x3 M) ms_X7_338 rfl (Nat.le_of_ble_eq_true rfl) (Nat.le_of_ble_eq_true rfl) rfl dX7_digest_114 rfl (fun b15 _ => ?_)
      refine mm_lstore_n (q := 118) (ls' := [some (.ref 0), some (.long b15.1), none, some (.int x3), none]) dX7_digest_117 rfl rfl rfl (Nat.le_of_ble_eq_true rfl) rfl ?_
      refine mm_iinc (q := 121) (ls' := [some (.ref 0), some (.long b15.1), none, some (.int (x3 + (1 : Int32))), none]) dX7_digest_118 rfl rfl (ii_1 _) rfl (Nat.le_of_ble_eq_true rfl) rfl ?_
      refine mm_goto (tgt := 103) dX7_digest_121 (by decide) ?_
      exact ih _ _ _
def fX7_digest_L126  (k147 : Int64 → mm_M → Option (Int64 × mm_M)) : Nat → Int64 → Int32 → mm_M → Option (Int64 × mm_M)
  | 0, _, _, _ => none
  | n + 1, x1, x3, M =>
    if (M 0 7) ≤ x3 then
      k147 x1 M
    else
      (fX7_tellsPerson x1 x3 M).bind fun b19 =>
      fX7_digest_L126 k147 n b19.1 (x3 + (1 : Int32)) b19.2
set_option maxRecDepth 100000 in
set_option maxHeartbeats 4000000 in
theorem fX7_digest_L126_ok   (k147 : Int64 → mm_M → Option (Int64 × mm_M)) (hk147 : ∀ (x1 : Int64) (M : mm_M), mm_C LR cX7_digest 5 RX7 (some .long) 10 mm_eL 147 [some (.ref 0), some (.long x1), none, none, none] [] M (k147 x1 M)) : ∀ (n : Nat) (x1 : Int64) (x3 : Int32) (M : mm_M), mm_C LR cX7_digest 5 RX7 (some .long) 10 mm_eL 126 [some (.ref 0), some (.long x1), none, some (.int x3), none] [] M (fX7_digest_L126 k147 n x1 x3 M) := by
  intro n
  induction n with
  | zero => intro x1 x3 M; exact mm_none
  | succ n ih =>
    intro x1 x3 M
    rw [fX7_digest_L126]
    refine mm_iload_n (q := 127) dX7_digest_126 rfl rfl rfl ?_
    refine mm_aload_n (q := 128) dX7_digest_127 rfl rfl rfl ?_
    refine mm_getI (q := 131) dX7_digest_128 rfl lr_0 fd_X7_116 rfl ?_
    refine mm_icmp_ge (q := 134) (tgt := 147) dX7_digest_131 rfl (by decide) (fun c18 => ?_) (fun c18 => ?_)
    · refine mm_drop (ls' := [some (.ref 0), some (.long x1), none, none, none]) (mm_sub_at _ _ (And.intro rfl (And.intro rfl trivial))) ?_
      exact hk147 _ _
    · refine mm_aload_n (q := 135) dX7_digest_134 rfl rfl rfl ?_
      refine mm_lload_n (q := 136) dX7_digest_135 rfl rfl rfl ?_
      refine mm_iload_n (q := 137) dX7_digest_136 rfl rfl rfl ?_
      refine mm_callVL (as := [.long x1, .int x3]) (st := []) (q := 140) lr_0 rfl (fX7_tellsPerson_ok x1 x3 M) ms_X7_342 rfl (Nat.le_of_ble_eq_true rfl) (Nat.le_of_ble_eq_true rfl) rfl dX7_digest_137 rfl (fun b19 _ => ?_)
      refine mm_lstore_n (q := 141) (ls' := [some (.ref 0), some (.long b19.1), none, some (.int x3), none]) dX7_digest_140 rfl rfl rfl (Nat.le_of_ble_eq_true rfl) rfl ?_
      refine mm_iinc (q := 144) (ls' := [some (.ref 0), some (.long b19.1), none, some (.int (x3 + (1 : Int32))), none]) dX7_digest_141 rfl rfl (ii_1 _) rfl (Nat.le_of_ble_eq_true rfl) rfl ?_
      refine mm_goto (tgt := 126) dX7_digest_144 (by decide) ?_
      exact ih _ _ _
def fX7_digest_L153  (k206 : Int64 → mm_M → Option (Int64 × mm_M)) : Nat → Int64 → Int32 → mm_M → Option (Int64 × mm_M)
  | 0, _, _, _ => none
  | n + 1, x1, x3, M =>
    if (24 : Int32) ≤ x3 then
      k206 x1 M
    else
      (fX7_bankOf x3 M).bind fun b24 =>
      (fX7_ringOf x3 (0 : Int32) M).bind fun b25 =>
      (fX7_ringOf x3 (1 : Int32) b25.2).bind fun b26 =>
      fX7_digest_L153 k206 n (((31 : Int64) * (((31 : Int64) * (((31 : Int64) * x1) + ((b24).toInt64))) + ((b25.1).toInt64))) + ((b26.1).toInt64)) (x3 + (1 : Int32)) b26.2
set_option maxRecDepth 100000 in
set_option maxHeartbeats 4000000 in
theorem fX7_digest_L153_ok   (k206 : Int64 → mm_M → Option (Int64 × mm_M)) (hk206 : ∀ (x1 : Int64) (M : mm_M), mm_C LR cX7_digest 5 RX7 (some .long) 10 mm_eL 206 [some (.ref 0), some (.long x1), none, none, none] [] M (k206 x1 M)) : ∀ (n : Nat) (x1 : Int64) (x3 : Int32) (M : mm_M), mm_C LR cX7_digest 5 RX7 (some .long) 10 mm_eL 153 [some (.ref 0), some (.long x1), none, some (.int x3), none] [] M (fX7_digest_L153 k206 n x1 x3 M) := by
  intro n
  induction n with
  | zero => intro x1 x3 M; exact mm_none
  | succ n ih =>
    intro x1 x3 M
    rw [fX7_digest_L153]
    refine mm_iload_n (q := 154) dX7_digest_153 rfl rfl rfl ?_
    refine mm_bipush (q := 156) dX7_digest_154 rfl bp_24 ?_
    refine mm_icmp_ge (q := 159) (tgt := 206) dX7_digest_156 rfl (by decide) (fun c23 => ?_) (fun c23 => ?_)
    · refine mm_drop (ls' := [some (.ref 0), some (.long x1), none, none, none]) (mm_sub_at _ _ (And.intro rfl (And.intro rfl trivial))) ?_
      exact hk206 _ _
    · refine mm_ldc2 (q := 162) dX7_digest_159 rfl cn_X7_327 ?_
      refine mm_lload_n (q := 163) dX7_digest_162 rfl rfl rfl ?_
      refine mm_lmul (q := 164) dX7_digest_163 rfl ?_
      refine mm_aload_n (q := 165) dX7_digest_164 rfl rfl rfl ?_
      refine mm_iload_n (q := 166) dX7_digest_165 rfl rfl rfl ?_
      refine mm_callVP (as := [.int x3]) (st := [.long ((31 : Int64) * x1)]) (q := 169) lr_0 rfl (fX7_bankOf_ok x3 M) ms_X7_239 rfl (Nat.le_of_ble_eq_true rfl) (Nat.le_of_ble_eq_true rfl) rfl dX7_digest_166 rfl (fun b24 _ => ?_)
      refine mm_i2l (q := 170) dX7_digest_169 rfl ?_
      refine mm_ladd (q := 171) dX7_digest_170 rfl ?_
      refine mm_lstore_n (q := 172) (ls' := [some (.ref 0), some (.long (((31 : Int64) * x1) + ((b24).toInt64))), none, some (.int x3), none]) dX7_digest_171 rfl rfl rfl (Nat.le_of_ble_eq_true rfl) rfl ?_
      refine mm_ldc2 (q := 175) dX7_digest_172 rfl cn_X7_327 ?_
      refine mm_lload_n (q := 176) dX7_digest_175 rfl rfl rfl ?_
      refine mm_lmul (q := 177) dX7_digest_176 rfl ?_
      refine mm_aload_n (q := 178) dX7_digest_177 rfl rfl rfl ?_
      refine mm_iload_n (q := 179) dX7_digest_178 rfl rfl rfl ?_
      refine mm_iconst (q := 180) dX7_digest_179 rfl ic_0 ?_
      refine mm_callVI (as := [.int x3, .int (0 : Int32)]) (st := [.long ((31 : Int64) * (((31 : Int64) * x1) + ((b24).toInt64)))]) (q := 183) lr_0 rfl (fX7_ringOf_ok x3 (0 : Int32) M) ms_X7_248 rfl (Nat.le_of_ble_eq_true rfl) (Nat.le_of_ble_eq_true rfl) rfl dX7_digest_180 rfl (fun b25 _ => ?_)
      refine mm_i2l (q := 184) dX7_digest_183 rfl ?_
      refine mm_ladd (q := 185) dX7_digest_184 rfl ?_
      refine mm_lstore_n (q := 186) (ls' := [some (.ref 0), some (.long (((31 : Int64) * (((31 : Int64) * x1) + ((b24).toInt64))) + ((b25.1).toInt64))), none, some (.int x3), none]) dX7_digest_185 rfl rfl rfl (Nat.le_of_ble_eq_true rfl) rfl ?_
      refine mm_ldc2 (q := 189) dX7_digest_186 rfl cn_X7_327 ?_
      refine mm_lload_n (q := 190) dX7_digest_189 rfl rfl rfl ?_
      refine mm_lmul (q := 191) dX7_digest_190 rfl ?_
      refine mm_aload_n (q := 192) dX7_digest_191 rfl rfl rfl ?_
      refine mm_iload_n (q := 193) dX7_digest_192 rfl rfl rfl ?_
      refine mm_iconst (q := 194) dX7_digest_193 rfl ic_1 ?_
      refine mm_callVI (as := [.int x3, .int (1 : Int32)]) (st := [.long ((31 : Int64) * (((31 : Int64) * (((31 : Int64) * x1) + ((b24).toInt64))) + ((b25.1).toInt64)))]) (q := 197) lr_0 rfl (fX7_ringOf_ok x3 (1 : Int32) b25.2) ms_X7_248 rfl (Nat.le_of_ble_eq_true rfl) (Nat.le_of_ble_eq_true rfl) rfl dX7_digest_194 rfl (fun b26 _ => ?_)
      refine mm_i2l (q := 198) dX7_digest_197 rfl ?_
      refine mm_ladd (q := 199) dX7_digest_198 rfl ?_
      refine mm_lstore_n (q := 200) (ls' := [some (.ref 0), some (.long (((31 : Int64) * (((31 : Int64) * (((31 : Int64) * x1) + ((b24).toInt64))) + ((b25.1).toInt64))) + ((b26.1).toInt64))), none, some (.int x3), none]) dX7_digest_199 rfl rfl rfl (Nat.le_of_ble_eq_true rfl) rfl ?_
      refine mm_iinc (q := 203) (ls' := [some (.ref 0), some (.long (((31 : Int64) * (((31 : Int64) * (((31 : Int64) * x1) + ((b24).toInt64))) + ((b25.1).toInt64))) + ((b26.1).toInt64))), none, some (.int (x3 + (1 : Int32))), none]) dX7_digest_200 rfl rfl (ii_1 _) rfl (Nat.le_of_ble_eq_true rfl) rfl ?_
      refine mm_goto (tgt := 153) dX7_digest_203 (by decide) ?_
      exact ih _ _ _
def fX7_digest_L220  (k246 : Int64 → mm_M → Option (Int64 × mm_M)) : Nat → Int64 → Int32 → mm_M → Option (Int64 × mm_M)
  | 0, _, _, _ => none
  | n + 1, x1, x3, M =>
    if (3 : Int32) ≤ x3 then
      k246 x1 M
    else
      (fX7_meetOf (8 : Int32) x3 M).bind fun b31 =>
      fX7_digest_L220 k246 n (((31 : Int64) * x1) + ((b31.1).toInt64)) (x3 + (1 : Int32)) b31.2
set_option maxRecDepth 100000 in
set_option maxHeartbeats 4000000 in
theorem fX7_digest_L220_ok   (k246 : Int64 → mm_M → Option (Int64 × mm_M)) (hk246 : ∀ (x1 : Int64) (M : mm_M), mm_C LR cX7_digest 5 RX7 (some .long) 10 mm_eL 246 [some (.ref 0), some (.long x1), none, none, none] [] M (k246 x1 M)) : ∀ (n : Nat) (x1 : Int64) (x3 : Int32) (M : mm_M), mm_C LR cX7_digest 5 RX7 (some .long) 10 mm_eL 220 [some (.ref 0), some (.long x1), none, some (.int x3), none] [] M (fX7_digest_L220 k246 n x1 x3 M) := by
  intro n
  induction n with
  | zero => intro x1 x3 M; exact mm_none
  | succ n ih =>
    intro x1 x3 M
    rw [fX7_digest_L220]
    refine mm_iload_n (q := 221) dX7_digest_220 rfl rfl rfl ?_
    refine mm_iconst (q := 222) dX7_digest_221 rfl ic_3 ?_
    refine mm_icmp_ge (q := 225) (tgt := 246) dX7_digest_222 rfl (by decide) (fun c30 => ?_) (fun c30 => ?_)
    · refine mm_drop (ls' := [some (.ref 0), some (.long x1), none, none, none]) (mm_sub_at _ _ (And.intro rfl (And.intro rfl trivial))) ?_
      exact hk246 _ _
    · refine mm_ldc2 (q := 228) dX7_digest_225 rfl cn_X7_327 ?_
      refine mm_lload_n (q := 229) dX7_digest_228 rfl rfl rfl ?_
      refine mm_lmul (q := 230) dX7_digest_229 rfl ?_
      refine mm_aload_n (q := 231) dX7_digest_230 rfl rfl rfl ?_
      refine mm_bipush (q := 233) dX7_digest_231 rfl bp_8 ?_
      refine mm_iload_n (q := 234) dX7_digest_233 rfl rfl rfl ?_
      refine mm_callVI (as := [.int (8 : Int32), .int x3]) (st := [.long ((31 : Int64) * x1)]) (q := 237) lr_0 rfl (fX7_meetOf_ok (8 : Int32) x3 M) ms_X7_257 rfl (Nat.le_of_ble_eq_true rfl) (Nat.le_of_ble_eq_true rfl) rfl dX7_digest_234 rfl (fun b31 _ => ?_)
      refine mm_i2l (q := 238) dX7_digest_237 rfl ?_
      refine mm_ladd (q := 239) dX7_digest_238 rfl ?_
      refine mm_lstore_n (q := 240) (ls' := [some (.ref 0), some (.long (((31 : Int64) * x1) + ((b31.1).toInt64))), none, some (.int x3), none]) dX7_digest_239 rfl rfl rfl (Nat.le_of_ble_eq_true rfl) rfl ?_
      refine mm_iinc (q := 243) (ls' := [some (.ref 0), some (.long (((31 : Int64) * x1) + ((b31.1).toInt64))), none, some (.int (x3 + (1 : Int32))), none]) dX7_digest_240 rfl rfl (ii_1 _) rfl (Nat.le_of_ble_eq_true rfl) rfl ?_
      refine mm_goto (tgt := 220) dX7_digest_243 (by decide) ?_
      exact ih _ _ _
def fX7_digest  (M : mm_M) : Option (Int64 × mm_M) :=
  fX7_digest_L6 (fun z3 M4 =>
      fX7_digest_L33 (fun z7 M8 =>
      fX7_digest_L59 M8 (fun z13 =>
      fX7_digest_L103 (fun z16 M17 =>
      fX7_digest_L126 (fun z20 M21 =>
      (fX7_runs M21).bind fun M22 =>
      fX7_digest_L153 (fun z27 M28 =>
      (fX7_silentNow M28).bind fun b29 =>
      fX7_digest_L220 (fun z32 M33 =>
      (fX7_voiceBy (0 : Int32) M33).bind fun b34 =>
      (fX7_voiceBy (1 : Int32) b34.2).bind fun b35 =>
      (fX7_spareBy (-1 : Int32) b35.2).bind fun b36 =>
      (fX7_spareBy (0 : Int32) b36.2).bind fun b37 =>
      (fX7_neverNow b37.2).bind fun b38 =>
      (fX7_livesOf (7 : Int32) (9 : Int32) (0 : Int32) b38.2).bind fun b39 =>
      (fX7_livesOf (7 : Int32) (9 : Int32) (1 : Int32) b39.2).bind fun b40 =>
      some (((31 : Int64) * (((31 : Int64) * (((31 : Int64) * (((31 : Int64) * (((31 : Int64) * (((31 : Int64) * (((31 : Int64) * z32) + ((b34.1).toInt64))) + ((b35.1).toInt64))) + ((b36.1).toInt64))) + ((b37.1).toInt64))) + ((b38.1).toInt64))) + ((b39.1).toInt64))) + ((b40.1).toInt64), b40.2)) 1000 (((31 : Int64) * z27) + ((b29).toInt64)) (0 : Int32) M28) 1000 z20 (0 : Int32) M22) 1000 z16 (0 : Int32) M17) 1000 z13 (0 : Int32) M8) 1000 z7 (0 : Int32)) 1000 z3 (0 : Int32) M4) 1000 (17 : Int64) (0 : Int32) M
set_option maxRecDepth 100000 in
set_option maxHeartbeats 4000000 in
theorem fX7_digest_ok  (M : mm_M)  : mm_E LR yX7_digest cX7_digest 5 (some .long) 10 mm_eL [.ref 0] M (fX7_digest M) := by
  refine mm_E.of (own := RX7) (ls := [some (.ref 0), none, none, none, none]) (by decide) rfl rfl (Nat.le_of_ble_eq_true rfl) ?_
  unfold fX7_digest
  refine mm_ldc2 (q := 3) dX7_digest_0 rfl cn_X7_333 ?_
  refine mm_lstore_n (q := 4) (ls' := [some (.ref 0), some (.long (17 : Int64)), none, none, none]) dX7_digest_3 rfl rfl rfl (Nat.le_of_ble_eq_true rfl) rfl ?_
  refine mm_iconst (q := 5) dX7_digest_4 rfl ic_0 ?_
  refine mm_istore_n (q := 6) (ls' := [some (.ref 0), some (.long (17 : Int64)), none, some (.int (0 : Int32)), none]) dX7_digest_5 rfl rfl rfl (Nat.le_of_ble_eq_true rfl) rfl ?_
  refine fX7_digest_L6_ok _ (fun z3 M4 => ?_) _ _ _ _
  refine mm_iconst (q := 32) dX7_digest_31 rfl ic_0 ?_
  refine mm_istore_n (q := 33) (ls' := [some (.ref 0), some (.long z3), none, some (.int (0 : Int32)), none]) dX7_digest_32 rfl rfl rfl (Nat.le_of_ble_eq_true rfl) rfl ?_
  refine fX7_digest_L33_ok _ (fun z7 M8 => ?_) _ _ _ _
  refine mm_iconst (q := 58) dX7_digest_57 rfl ic_0 ?_
  refine mm_istore_n (q := 59) (ls' := [some (.ref 0), some (.long z7), none, some (.int (0 : Int32)), none]) dX7_digest_58 rfl rfl rfl (Nat.le_of_ble_eq_true rfl) rfl ?_
  refine fX7_digest_L59_ok M8 _ (fun z13 => ?_) _ _ _
  refine mm_iconst (q := 102) dX7_digest_101 rfl ic_0 ?_
  refine mm_istore_n (q := 103) (ls' := [some (.ref 0), some (.long z13), none, some (.int (0 : Int32)), none]) dX7_digest_102 rfl rfl rfl (Nat.le_of_ble_eq_true rfl) rfl ?_
  refine fX7_digest_L103_ok _ (fun z16 M17 => ?_) _ _ _ _
  refine mm_iconst (q := 125) dX7_digest_124 rfl ic_0 ?_
  refine mm_istore_n (q := 126) (ls' := [some (.ref 0), some (.long z16), none, some (.int (0 : Int32)), none]) dX7_digest_125 rfl rfl rfl (Nat.le_of_ble_eq_true rfl) rfl ?_
  refine fX7_digest_L126_ok _ (fun z20 M21 => ?_) _ _ _ _
  refine mm_aload_n (q := 148) dX7_digest_147 rfl rfl rfl ?_
  refine mm_callVV (as := []) (st := []) (q := 151) lr_0 rfl (fX7_runs_ok M21) ms_X7_218 rfl (Nat.le_of_ble_eq_true rfl) (Nat.le_of_ble_eq_true rfl) rfl dX7_digest_148 rfl (fun M22 _ => ?_)
  refine mm_iconst (q := 152) dX7_digest_151 rfl ic_0 ?_
  refine mm_istore_n (q := 153) (ls' := [some (.ref 0), some (.long z20), none, some (.int (0 : Int32)), none]) dX7_digest_152 rfl rfl rfl (Nat.le_of_ble_eq_true rfl) rfl ?_
  refine fX7_digest_L153_ok _ (fun z27 M28 => ?_) _ _ _ _
  refine mm_ldc2 (q := 209) dX7_digest_206 rfl cn_X7_327 ?_
  refine mm_lload_n (q := 210) dX7_digest_209 rfl rfl rfl ?_
  refine mm_lmul (q := 211) dX7_digest_210 rfl ?_
  refine mm_aload_n (q := 212) dX7_digest_211 rfl rfl rfl ?_
  refine mm_callVP (as := []) (st := [.long ((31 : Int64) * z27)]) (q := 215) lr_0 rfl (fX7_silentNow_ok M28) ms_X7_251 rfl (Nat.le_of_ble_eq_true rfl) (Nat.le_of_ble_eq_true rfl) rfl dX7_digest_212 rfl (fun b29 _ => ?_)
  refine mm_i2l (q := 216) dX7_digest_215 rfl ?_
  refine mm_ladd (q := 217) dX7_digest_216 rfl ?_
  refine mm_lstore_n (q := 218) (ls' := [some (.ref 0), some (.long (((31 : Int64) * z27) + ((b29).toInt64))), none, none, none]) dX7_digest_217 rfl rfl rfl (Nat.le_of_ble_eq_true rfl) rfl ?_
  refine mm_iconst (q := 219) dX7_digest_218 rfl ic_0 ?_
  refine mm_istore_n (q := 220) (ls' := [some (.ref 0), some (.long (((31 : Int64) * z27) + ((b29).toInt64))), none, some (.int (0 : Int32)), none]) dX7_digest_219 rfl rfl rfl (Nat.le_of_ble_eq_true rfl) rfl ?_
  refine fX7_digest_L220_ok _ (fun z32 M33 => ?_) _ _ _ _
  refine mm_ldc2 (q := 249) dX7_digest_246 rfl cn_X7_327 ?_
  refine mm_lload_n (q := 250) dX7_digest_249 rfl rfl rfl ?_
  refine mm_lmul (q := 251) dX7_digest_250 rfl ?_
  refine mm_aload_n (q := 252) dX7_digest_251 rfl rfl rfl ?_
  refine mm_iconst (q := 253) dX7_digest_252 rfl ic_0 ?_
  refine mm_callVI (as := [.int (0 : Int32)]) (st := [.long ((31 : Int64) * z32)]) (q := 256) lr_0 rfl (fX7_voiceBy_ok (0 : Int32) M33) ms_X7_266 rfl (Nat.le_of_ble_eq_true rfl) (Nat.le_of_ble_eq_true rfl) rfl dX7_digest_253 rfl (fun b34 _ => ?_)
  refine mm_i2l (q := 257) dX7_digest_256 rfl ?_
  refine mm_ladd (q := 258) dX7_digest_257 rfl ?_
  refine mm_lstore_n (q := 259) (ls' := [some (.ref 0), some (.long (((31 : Int64) * z32) + ((b34.1).toInt64))), none, none, none]) dX7_digest_258 rfl rfl rfl (Nat.le_of_ble_eq_true rfl) rfl ?_
  refine mm_ldc2 (q := 262) dX7_digest_259 rfl cn_X7_327 ?_
  refine mm_lload_n (q := 263) dX7_digest_262 rfl rfl rfl ?_
  refine mm_lmul (q := 264) dX7_digest_263 rfl ?_
  refine mm_aload_n (q := 265) dX7_digest_264 rfl rfl rfl ?_
  refine mm_iconst (q := 266) dX7_digest_265 rfl ic_1 ?_
  refine mm_callVI (as := [.int (1 : Int32)]) (st := [.long ((31 : Int64) * (((31 : Int64) * z32) + ((b34.1).toInt64)))]) (q := 269) lr_0 rfl (fX7_voiceBy_ok (1 : Int32) b34.2) ms_X7_266 rfl (Nat.le_of_ble_eq_true rfl) (Nat.le_of_ble_eq_true rfl) rfl dX7_digest_266 rfl (fun b35 _ => ?_)
  refine mm_i2l (q := 270) dX7_digest_269 rfl ?_
  refine mm_ladd (q := 271) dX7_digest_270 rfl ?_
  refine mm_lstore_n (q := 272) (ls' := [some (.ref 0), some (.long (((31 : Int64) * (((31 : Int64) * z32) + ((b34.1).toInt64))) + ((b35.1).toInt64))), none, none, none]) dX7_digest_271 rfl rfl rfl (Nat.le_of_ble_eq_true rfl) rfl ?_
  refine mm_ldc2 (q := 275) dX7_digest_272 rfl cn_X7_327 ?_
  refine mm_lload_n (q := 276) dX7_digest_275 rfl rfl rfl ?_
  refine mm_lmul (q := 277) dX7_digest_276 rfl ?_
  refine mm_aload_n (q := 278) dX7_digest_277 rfl rfl rfl ?_
  refine mm_iconst (q := 279) dX7_digest_278 rfl ic_m1 ?_
  refine mm_callVI (as := [.int (-1 : Int32)]) (st := [.long ((31 : Int64) * (((31 : Int64) * (((31 : Int64) * z32) + ((b34.1).toInt64))) + ((b35.1).toInt64)))]) (q := 282) lr_0 rfl (fX7_spareBy_ok (-1 : Int32) b35.2) ms_X7_274 rfl (Nat.le_of_ble_eq_true rfl) (Nat.le_of_ble_eq_true rfl) rfl dX7_digest_279 rfl (fun b36 _ => ?_)
  refine mm_i2l (q := 283) dX7_digest_282 rfl ?_
  refine mm_ladd (q := 284) dX7_digest_283 rfl ?_
  refine mm_lstore_n (q := 285) (ls' := [some (.ref 0), some (.long (((31 : Int64) * (((31 : Int64) * (((31 : Int64) * z32) + ((b34.1).toInt64))) + ((b35.1).toInt64))) + ((b36.1).toInt64))), none, none, none]) dX7_digest_284 rfl rfl rfl (Nat.le_of_ble_eq_true rfl) rfl ?_
  refine mm_ldc2 (q := 288) dX7_digest_285 rfl cn_X7_327 ?_
  refine mm_lload_n (q := 289) dX7_digest_288 rfl rfl rfl ?_
  refine mm_lmul (q := 290) dX7_digest_289 rfl ?_
  refine mm_aload_n (q := 291) dX7_digest_290 rfl rfl rfl ?_
  refine mm_iconst (q := 292) dX7_digest_291 rfl ic_0 ?_
  refine mm_callVI (as := [.int (0 : Int32)]) (st := [.long ((31 : Int64) * (((31 : Int64) * (((31 : Int64) * (((31 : Int64) * z32) + ((b34.1).toInt64))) + ((b35.1).toInt64))) + ((b36.1).toInt64)))]) (q := 295) lr_0 rfl (fX7_spareBy_ok (0 : Int32) b36.2) ms_X7_274 rfl (Nat.le_of_ble_eq_true rfl) (Nat.le_of_ble_eq_true rfl) rfl dX7_digest_292 rfl (fun b37 _ => ?_)
  refine mm_i2l (q := 296) dX7_digest_295 rfl ?_
  refine mm_ladd (q := 297) dX7_digest_296 rfl ?_
  refine mm_lstore_n (q := 298) (ls' := [some (.ref 0), some (.long (((31 : Int64) * (((31 : Int64) * (((31 : Int64) * (((31 : Int64) * z32) + ((b34.1).toInt64))) + ((b35.1).toInt64))) + ((b36.1).toInt64))) + ((b37.1).toInt64))), none, none, none]) dX7_digest_297 rfl rfl rfl (Nat.le_of_ble_eq_true rfl) rfl ?_
  refine mm_ldc2 (q := 301) dX7_digest_298 rfl cn_X7_327 ?_
  refine mm_lload_n (q := 302) dX7_digest_301 rfl rfl rfl ?_
  refine mm_lmul (q := 303) dX7_digest_302 rfl ?_
  refine mm_aload_n (q := 304) dX7_digest_303 rfl rfl rfl ?_
  refine mm_callVI (as := []) (st := [.long ((31 : Int64) * (((31 : Int64) * (((31 : Int64) * (((31 : Int64) * (((31 : Int64) * z32) + ((b34.1).toInt64))) + ((b35.1).toInt64))) + ((b36.1).toInt64))) + ((b37.1).toInt64)))]) (q := 307) lr_0 rfl (fX7_neverNow_ok b37.2) ms_X7_286 rfl (Nat.le_of_ble_eq_true rfl) (Nat.le_of_ble_eq_true rfl) rfl dX7_digest_304 rfl (fun b38 _ => ?_)
  refine mm_i2l (q := 308) dX7_digest_307 rfl ?_
  refine mm_ladd (q := 309) dX7_digest_308 rfl ?_
  refine mm_lstore_n (q := 310) (ls' := [some (.ref 0), some (.long (((31 : Int64) * (((31 : Int64) * (((31 : Int64) * (((31 : Int64) * (((31 : Int64) * z32) + ((b34.1).toInt64))) + ((b35.1).toInt64))) + ((b36.1).toInt64))) + ((b37.1).toInt64))) + ((b38.1).toInt64))), none, none, none]) dX7_digest_309 rfl rfl rfl (Nat.le_of_ble_eq_true rfl) rfl ?_
  refine mm_ldc2 (q := 313) dX7_digest_310 rfl cn_X7_327 ?_
  refine mm_lload_n (q := 314) dX7_digest_313 rfl rfl rfl ?_
  refine mm_lmul (q := 315) dX7_digest_314 rfl ?_
  refine mm_aload_n (q := 316) dX7_digest_315 rfl rfl rfl ?_
  refine mm_bipush (q := 318) dX7_digest_316 rfl bp_7 ?_
  refine mm_bipush (q := 320) dX7_digest_318 rfl bp_9 ?_
  refine mm_iconst (q := 321) dX7_digest_320 rfl ic_0 ?_
  refine mm_callVI (as := [.int (7 : Int32), .int (9 : Int32), .int (0 : Int32)]) (st := [.long ((31 : Int64) * (((31 : Int64) * (((31 : Int64) * (((31 : Int64) * (((31 : Int64) * (((31 : Int64) * z32) + ((b34.1).toInt64))) + ((b35.1).toInt64))) + ((b36.1).toInt64))) + ((b37.1).toInt64))) + ((b38.1).toInt64)))]) (q := 324) lr_0 rfl (fX7_livesOf_ok (7 : Int32) (9 : Int32) (0 : Int32) b38.2) ms_X7_324 rfl (Nat.le_of_ble_eq_true rfl) (Nat.le_of_ble_eq_true rfl) rfl dX7_digest_321 rfl (fun b39 _ => ?_)
  refine mm_i2l (q := 325) dX7_digest_324 rfl ?_
  refine mm_ladd (q := 326) dX7_digest_325 rfl ?_
  refine mm_lstore_n (q := 327) (ls' := [some (.ref 0), some (.long (((31 : Int64) * (((31 : Int64) * (((31 : Int64) * (((31 : Int64) * (((31 : Int64) * (((31 : Int64) * z32) + ((b34.1).toInt64))) + ((b35.1).toInt64))) + ((b36.1).toInt64))) + ((b37.1).toInt64))) + ((b38.1).toInt64))) + ((b39.1).toInt64))), none, none, none]) dX7_digest_326 rfl rfl rfl (Nat.le_of_ble_eq_true rfl) rfl ?_
  refine mm_ldc2 (q := 330) dX7_digest_327 rfl cn_X7_327 ?_
  refine mm_lload_n (q := 331) dX7_digest_330 rfl rfl rfl ?_
  refine mm_lmul (q := 332) dX7_digest_331 rfl ?_
  refine mm_aload_n (q := 333) dX7_digest_332 rfl rfl rfl ?_
  refine mm_bipush (q := 335) dX7_digest_333 rfl bp_7 ?_
  refine mm_bipush (q := 337) dX7_digest_335 rfl bp_9 ?_
  refine mm_iconst (q := 338) dX7_digest_337 rfl ic_1 ?_
  refine mm_callVI (as := [.int (7 : Int32), .int (9 : Int32), .int (1 : Int32)]) (st := [.long ((31 : Int64) * (((31 : Int64) * (((31 : Int64) * (((31 : Int64) * (((31 : Int64) * (((31 : Int64) * (((31 : Int64) * z32) + ((b34.1).toInt64))) + ((b35.1).toInt64))) + ((b36.1).toInt64))) + ((b37.1).toInt64))) + ((b38.1).toInt64))) + ((b39.1).toInt64)))]) (q := 341) lr_0 rfl (fX7_livesOf_ok (7 : Int32) (9 : Int32) (1 : Int32) b39.2) ms_X7_324 rfl (Nat.le_of_ble_eq_true rfl) (Nat.le_of_ble_eq_true rfl) rfl dX7_digest_338 rfl (fun b40 _ => ?_)
  refine mm_i2l (q := 342) dX7_digest_341 rfl ?_
  refine mm_ladd (q := 343) dX7_digest_342 rfl ?_
  exact mm_lret rfl dX7_digest_343
def fX7_echo (x1 : Int32) (x2 : Int32) (M : mm_M) : Option (Int32 × mm_M) :=
  (fX7_isDay x1).bind fun b1 =>
  if b1 = 0 then
    some ((-2 : Int32), M)
  else
    if (fX7_in ((x2).toInt64) (0 : Int64) (7 : Int64)) = 0 then
      some ((-2 : Int32), M)
    else
      if (M 0 13) = (8 : Int32) then
        some ((-4 : Int32), M)
      else
        (mm_wa M 10 16 ((2 : Int32) * (M 0 13)) x1).bind fun M5 =>
        (mm_wa M5 10 16 (((2 : Int32) * (M5 0 13)) + (1 : Int32)) x2).bind fun M6 =>
        (mm_pf M6 0 13 ((M6 0 13) + (1 : Int32))).bind fun M7 =>
        some (M7 0 13, M7)
set_option maxRecDepth 100000 in
set_option maxHeartbeats 4000000 in
theorem fX7_echo_ok (x1 : Int32) (x2 : Int32) (M : mm_M)  : mm_E LR yX7_echo cX7_echo 3 (some .int) 2 mm_eI [.ref 0, .int x1, .int x2] M (fX7_echo x1 x2 M) := by
  refine mm_E.of (own := RX7) (ls := [some (.ref 0), some (.int x1), some (.int x2)]) (by decide) rfl rfl (Nat.le_of_ble_eq_true rfl) ?_
  unfold fX7_echo
  refine mm_iload_n (q := 1) dX7_echo_0 rfl rfl rfl ?_
  refine mm_callSP (as := [.int x1]) (st := []) (q := 4) (fX7_isDay_ok x1 M) ms_X7_166 rfl (Nat.le_of_ble_eq_true rfl) (Nat.le_of_ble_eq_true rfl) rfl dX7_echo_1 rfl (fun b1 _ => ?_)
  refine mm_if_eq (q := 7) (tgt := 19) dX7_echo_4 rfl (by decide) (fun c2 => ?_) (fun c2 => ?_)
  · refine mm_bipush (q := 21) dX7_echo_19 rfl bp_m2 ?_
    exact mm_iret rfl dX7_echo_21
  · refine mm_iload_n (q := 8) dX7_echo_7 rfl rfl rfl ?_
    refine mm_i2l (q := 9) dX7_echo_8 rfl ?_
    refine mm_lconst (q := 10) dX7_echo_9 rfl lk_0 ?_
    refine mm_ldc2 (q := 13) dX7_echo_10 rfl cn_X7_169 ?_
    refine mm_callST (as := [.long ((x2).toInt64), .long (0 : Int64), .long (7 : Int64)]) (st := []) (q := 16) (fX7_in_ok ((x2).toInt64) (0 : Int64) (7 : Int64) M) ms_X7_76 rfl (Nat.le_of_ble_eq_true rfl) (Nat.le_of_ble_eq_true rfl) rfl dX7_echo_13 rfl ?_
    refine mm_if_ne (q := 19) (tgt := 22) dX7_echo_16 rfl (by decide) (fun c3 => ?_) (fun c3 => ?_)
    · refine mm_bipush (q := 21) dX7_echo_19 rfl bp_m2 ?_
      exact mm_iret rfl dX7_echo_21
    · refine mm_aload_n (q := 23) dX7_echo_22 rfl rfl rfl ?_
      refine mm_getI (q := 26) dX7_echo_23 rfl lr_0 fd_X7_171 rfl ?_
      refine mm_bipush (q := 28) dX7_echo_26 rfl bp_8 ?_
      refine mm_icmp_ne (q := 31) (tgt := 34) dX7_echo_28 rfl (by decide) (fun c4 => ?_) (fun c4 => ?_)
      · refine mm_bipush (q := 33) dX7_echo_31 rfl bp_m4 ?_
        exact mm_iret rfl dX7_echo_33
      · refine mm_aload_n (q := 35) dX7_echo_34 rfl rfl rfl ?_
        refine mm_getR (q := 38) (k1 := 10) dX7_echo_35 rfl lr_0 fd_X7_37 rfl ?_
        refine mm_iconst (q := 39) dX7_echo_38 rfl ic_2 ?_
        refine mm_aload_n (q := 40) dX7_echo_39 rfl rfl rfl ?_
        refine mm_getI (q := 43) dX7_echo_40 rfl lr_0 fd_X7_171 rfl ?_
        refine mm_imul (q := 44) dX7_echo_43 rfl ?_
        refine mm_iload_n (q := 45) dX7_echo_44 rfl rfl rfl ?_
        refine mm_iast (q := 46) dX7_echo_45 rfl lr_10 (fun M5 _ => ?_)
        refine mm_aload_n (q := 47) dX7_echo_46 rfl rfl rfl ?_
        refine mm_getR (q := 50) (k1 := 10) dX7_echo_47 rfl lr_0 fd_X7_37 rfl ?_
        refine mm_iconst (q := 51) dX7_echo_50 rfl ic_2 ?_
        refine mm_aload_n (q := 52) dX7_echo_51 rfl rfl rfl ?_
        refine mm_getI (q := 55) dX7_echo_52 rfl lr_0 fd_X7_171 rfl ?_
        refine mm_imul (q := 56) dX7_echo_55 rfl ?_
        refine mm_iconst (q := 57) dX7_echo_56 rfl ic_1 ?_
        refine mm_iadd (q := 58) dX7_echo_57 rfl ?_
        refine mm_iload_n (q := 59) dX7_echo_58 rfl rfl rfl ?_
        refine mm_iast (q := 60) dX7_echo_59 rfl lr_10 (fun M6 _ => ?_)
        refine mm_aload_n (q := 61) dX7_echo_60 rfl rfl rfl ?_
        refine mm_dup (q := 62) dX7_echo_61 rfl rfl ?_
        refine mm_getI (q := 65) dX7_echo_62 rfl lr_0 fd_X7_171 rfl ?_
        refine mm_iconst (q := 66) dX7_echo_65 rfl ic_1 ?_
        refine mm_iadd (q := 67) dX7_echo_66 rfl ?_
        refine mm_put (q := 70) dX7_echo_67 rfl lr_0 fd_X7_171 ps_X7_13 rfl rfl rfl (fun M7 _ => ?_)
        refine mm_aload_n (q := 71) dX7_echo_70 rfl rfl rfl ?_
        refine mm_getI (q := 74) dX7_echo_71 rfl lr_0 fd_X7_171 rfl ?_
        exact mm_iret rfl dX7_echo_74
def fX7_isText (x0 : Int32)  : Option (Int32) :=
  (mm_zb (fX7_in ((x0).toInt64) (0 : Int64) (2 : Int64))).bind fun b1 =>
  some b1
set_option maxRecDepth 100000 in
set_option maxHeartbeats 4000000 in
theorem fX7_isText_ok (x0 : Int32) (M : mm_M)  : mm_E LR yX7_isText cX7_isText 1 (some .boolean) 1 (mm_pI M) [.int x0] M (fX7_isText x0) := by
  refine mm_E.of (own := RX7) (ls := [some (.int x0)]) (by decide) rfl rfl (Nat.le_of_ble_eq_true rfl) ?_
  unfold fX7_isText
  refine mm_iload_n (q := 1) dX7_isText_0 rfl rfl rfl ?_
  refine mm_i2l (q := 2) dX7_isText_1 rfl ?_
  refine mm_lconst (q := 3) dX7_isText_2 rfl lk_0 ?_
  refine mm_ldc2 (q := 6) dX7_isText_3 rfl cn_X7_89 ?_
  refine mm_callST (as := [.long ((x0).toInt64), .long (0 : Int64), .long (2 : Int64)]) (st := []) (q := 9) (fX7_in_ok ((x0).toInt64) (0 : Int64) (2 : Int64) M) ms_X7_76 rfl (Nat.le_of_ble_eq_true rfl) (Nat.le_of_ble_eq_true rfl) rfl dX7_isText_6 rfl ?_
  exact mm_zretB (fun _ => rfl) (fun _ => rfl) dX7_isText_9
def fX7_fault (x1 : Int32) (M : mm_M) : Option (Int32 × mm_M) :=
  (fX7_isText x1).bind fun b1 =>
  if b1 = 0 then
    some ((-2 : Int32), M)
  else
    (fX7_readsText x1 M).bind fun b3 =>
    some (b3.1, b3.2)
set_option maxRecDepth 100000 in
set_option maxHeartbeats 4000000 in
theorem fX7_fault_ok (x1 : Int32) (M : mm_M)  : mm_E LR yX7_fault cX7_fault 2 (some .int) 5 mm_eI [.ref 0, .int x1] M (fX7_fault x1 M) := by
  refine mm_E.of (own := RX7) (ls := [some (.ref 0), some (.int x1)]) (by decide) rfl rfl (Nat.le_of_ble_eq_true rfl) ?_
  unfold fX7_fault
  refine mm_iload_n (q := 1) dX7_fault_0 rfl rfl rfl ?_
  refine mm_callSP (as := [.int x1]) (st := []) (q := 4) (fX7_isText_ok x1 M) ms_X7_104 rfl (Nat.le_of_ble_eq_true rfl) (Nat.le_of_ble_eq_true rfl) rfl dX7_fault_1 rfl (fun b1 _ => ?_)
  refine mm_if_eq (q := 7) (tgt := 15) dX7_fault_4 rfl (by decide) (fun c2 => ?_) (fun c2 => ?_)
  · refine mm_bipush (q := 17) dX7_fault_15 rfl bp_m2 ?_
    exact mm_iret rfl dX7_fault_17
  · refine mm_aload_n (q := 8) dX7_fault_7 rfl rfl rfl ?_
    refine mm_iload_n (q := 9) dX7_fault_8 rfl rfl rfl ?_
    refine mm_callVI (as := [.int x1]) (st := []) (q := 12) lr_0 rfl (fX7_readsText_ok x1 M) ms_X7_147 rfl (Nat.le_of_ble_eq_true rfl) (Nat.le_of_ble_eq_true rfl) rfl dX7_fault_9 rfl (fun b3 _ => ?_)
    refine mm_goto (tgt := 17) dX7_fault_12 (by decide) ?_
    exact mm_iret rfl dX7_fault_17
def fX7_forget  (M : mm_M) : Option (Int32 × mm_M) :=
  (mm_pf M 0 27 (0 : Int32)).bind fun M1 =>
  some (M 0 27, M1)
set_option maxRecDepth 100000 in
set_option maxHeartbeats 4000000 in
theorem fX7_forget_ok  (M : mm_M)  : mm_E LR yX7_forget cX7_forget 2 (some .int) 0 mm_eI [.ref 0] M (fX7_forget M) := by
  refine mm_E.of (own := RX7) (ls := [some (.ref 0), none]) (by decide) rfl rfl (Nat.le_of_ble_eq_true rfl) ?_
  unfold fX7_forget
  refine mm_aload_n (q := 1) dX7_forget_0 rfl rfl rfl ?_
  refine mm_getI (q := 4) dX7_forget_1 rfl lr_0 fd_X7_279 rfl ?_
  refine mm_istore_n (q := 5) (ls' := [some (.ref 0), some (.int (M 0 27))]) dX7_forget_4 rfl rfl rfl (Nat.le_of_ble_eq_true rfl) rfl ?_
  refine mm_aload_n (q := 6) dX7_forget_5 rfl rfl rfl ?_
  refine mm_iconst (q := 7) dX7_forget_6 rfl ic_0 ?_
  refine mm_put (q := 10) dX7_forget_7 rfl lr_0 fd_X7_279 ps_X7_27 rfl rfl rfl (fun M1 _ => ?_)
  refine mm_iload_n (q := 11) dX7_forget_10 rfl rfl rfl ?_
  exact mm_iret rfl dX7_forget_11
def fX7_lacks (x1 : Int32) (x2 : Int32) (x3 : Int32) (M : mm_M) : Option (Int32 × mm_M) :=
  (mm_rd M 1 4 x1).bind fun b1 =>
  if 0 ≤ b1 then
    ((mm_rd M 1 4 x1).bind fun b3 =>
    if b3 = x2 then
      ((mm_rd M 2 4 x1).bind fun b5 =>
      if (fX7_in ((x3).toInt64) (0 : Int64) ((b5 - (1 : Int32)).toInt64)) = 0 then
        ((fX7_finds (2 : Int32) M).bind fun b7 =>
        some (b7.1, b7.2))
      else
        some ((0 : Int32), M))
    else
      (fX7_finds (3 : Int32) M).bind fun b8 =>
      some (b8.1, b8.2))
  else
    (fX7_finds (1 : Int32) M).bind fun b9 =>
    some (b9.1, b9.2)
set_option maxRecDepth 100000 in
set_option maxHeartbeats 4000000 in
theorem fX7_lacks_ok (x1 : Int32) (x2 : Int32) (x3 : Int32) (M : mm_M)  : mm_E LR yX7_lacks cX7_lacks 4 (some .int) 1 mm_eI [.ref 0, .int x1, .int x2, .int x3] M (fX7_lacks x1 x2 x3 M) := by
  refine mm_E.of (own := RX7) (ls := [some (.ref 0), some (.int x1), some (.int x2), some (.int x3)]) (by decide) rfl rfl (Nat.le_of_ble_eq_true rfl) ?_
  unfold fX7_lacks
  refine mm_aload_n (q := 1) dX7_lacks_0 rfl rfl rfl ?_
  refine mm_getR (q := 4) (k1 := 1) dX7_lacks_1 rfl lr_0 fd_X7_7 rfl ?_
  refine mm_iload_n (q := 5) dX7_lacks_4 rfl rfl rfl ?_
  refine mm_iald (q := 6) dX7_lacks_5 rfl lr_1 (fun b1 _ => ?_)
  refine mm_if_ge (q := 9) (tgt := 15) dX7_lacks_6 rfl (by decide) (fun c2 => ?_) (fun c2 => ?_)
  · refine mm_aload_n (q := 16) dX7_lacks_15 rfl rfl rfl ?_
    refine mm_getR (q := 19) (k1 := 1) dX7_lacks_16 rfl lr_0 fd_X7_7 rfl ?_
    refine mm_iload_n (q := 20) dX7_lacks_19 rfl rfl rfl ?_
    refine mm_iald (q := 21) dX7_lacks_20 rfl lr_1 (fun b3 _ => ?_)
    refine mm_iload_n (q := 22) dX7_lacks_21 rfl rfl rfl ?_
    refine mm_icmp_eq (q := 25) (tgt := 31) dX7_lacks_22 rfl (by decide) (fun c4 => ?_) (fun c4 => ?_)
    · refine mm_iload_n (q := 32) dX7_lacks_31 rfl rfl rfl ?_
      refine mm_i2l (q := 33) dX7_lacks_32 rfl ?_
      refine mm_lconst (q := 34) dX7_lacks_33 rfl lk_0 ?_
      refine mm_aload_n (q := 35) dX7_lacks_34 rfl rfl rfl ?_
      refine mm_getR (q := 38) (k1 := 2) dX7_lacks_35 rfl lr_0 fd_X7_13 rfl ?_
      refine mm_iload_n (q := 39) dX7_lacks_38 rfl rfl rfl ?_
      refine mm_iald (q := 40) dX7_lacks_39 rfl lr_2 (fun b5 _ => ?_)
      refine mm_iconst (q := 41) dX7_lacks_40 rfl ic_1 ?_
      refine mm_isub (q := 42) dX7_lacks_41 rfl ?_
      refine mm_i2l (q := 43) dX7_lacks_42 rfl ?_
      refine mm_callST (as := [.long ((x3).toInt64), .long (0 : Int64), .long ((b5 - (1 : Int32)).toInt64)]) (st := []) (q := 46) (fX7_in_ok ((x3).toInt64) (0 : Int64) ((b5 - (1 : Int32)).toInt64) M) ms_X7_76 rfl (Nat.le_of_ble_eq_true rfl) (Nat.le_of_ble_eq_true rfl) rfl dX7_lacks_43 rfl ?_
      refine mm_if_eq (q := 49) (tgt := 53) dX7_lacks_46 rfl (by decide) (fun c6 => ?_) (fun c6 => ?_)
      · refine mm_aload_n (q := 54) dX7_lacks_53 rfl rfl rfl ?_
        refine mm_iconst (q := 55) dX7_lacks_54 rfl ic_2 ?_
        refine mm_callVI (as := [.int (2 : Int32)]) (st := []) (q := 58) lr_0 rfl (fX7_finds_ok (2 : Int32) M) ms_X7_91 rfl (Nat.le_of_ble_eq_true rfl) (Nat.le_of_ble_eq_true rfl) rfl dX7_lacks_55 rfl (fun b7 _ => ?_)
        exact mm_iret rfl dX7_lacks_58
      · refine mm_iconst (q := 50) dX7_lacks_49 rfl ic_0 ?_
        refine mm_goto (tgt := 58) dX7_lacks_50 (by decide) ?_
        exact mm_iret rfl dX7_lacks_58
    · refine mm_aload_n (q := 26) dX7_lacks_25 rfl rfl rfl ?_
      refine mm_iconst (q := 27) dX7_lacks_26 rfl ic_3 ?_
      refine mm_callVI (as := [.int (3 : Int32)]) (st := []) (q := 30) lr_0 rfl (fX7_finds_ok (3 : Int32) M) ms_X7_91 rfl (Nat.le_of_ble_eq_true rfl) (Nat.le_of_ble_eq_true rfl) rfl dX7_lacks_27 rfl (fun b8 _ => ?_)
      exact mm_iret rfl dX7_lacks_30
  · refine mm_aload_n (q := 10) dX7_lacks_9 rfl rfl rfl ?_
    refine mm_iconst (q := 11) dX7_lacks_10 rfl ic_1 ?_
    refine mm_callVI (as := [.int (1 : Int32)]) (st := []) (q := 14) lr_0 rfl (fX7_finds_ok (1 : Int32) M) ms_X7_91 rfl (Nat.le_of_ble_eq_true rfl) (Nat.le_of_ble_eq_true rfl) rfl dX7_lacks_11 rfl (fun b9 _ => ?_)
    exact mm_iret rfl dX7_lacks_14
def fX7_get (x1 : Int32) (x2 : Int32) (x3 : Int32) (M : mm_M) : Option (Int32 × mm_M) :=
  (fX7_isSheet x1).bind fun b1 =>
  if b1 = 0 then
    some ((-2147483648 : Int32), M)
  else
    if (fX7_in ((x2).toInt64) (0 : Int64) (2 : Int64)) = 0 then
      some ((-2147483648 : Int32), M)
    else
      (fX7_lacks x1 x2 x3 M).bind fun b4 =>
      if b4.1 = 0 then
        ((mm_rd b4.2 3 240 (((60 : Int32) * x1) + x3)).bind fun b6 =>
        some (b6, b4.2))
      else
        some ((-2147483648 : Int32), b4.2)
set_option maxRecDepth 100000 in
set_option maxHeartbeats 4000000 in
theorem fX7_get_ok (x1 : Int32) (x2 : Int32) (x3 : Int32) (M : mm_M)  : mm_E LR yX7_get cX7_get 4 (some .int) 2 mm_eI [.ref 0, .int x1, .int x2, .int x3] M (fX7_get x1 x2 x3 M) := by
  refine mm_E.of (own := RX7) (ls := [some (.ref 0), some (.int x1), some (.int x2), some (.int x3)]) (by decide) rfl rfl (Nat.le_of_ble_eq_true rfl) ?_
  unfold fX7_get
  refine mm_iload_n (q := 1) dX7_get_0 rfl rfl rfl ?_
  refine mm_callSP (as := [.int x1]) (st := []) (q := 4) (fX7_isSheet_ok x1 M) ms_X7_85 rfl (Nat.le_of_ble_eq_true rfl) (Nat.le_of_ble_eq_true rfl) rfl dX7_get_1 rfl (fun b1 _ => ?_)
  refine mm_if_eq (q := 7) (tgt := 29) dX7_get_4 rfl (by decide) (fun c2 => ?_) (fun c2 => ?_)
  · refine mm_ldc (q := 31) dX7_get_29 rfl cn_X7_103 ?_
    exact mm_iret rfl dX7_get_31
  · refine mm_iload_n (q := 8) dX7_get_7 rfl rfl rfl ?_
    refine mm_i2l (q := 9) dX7_get_8 rfl ?_
    refine mm_lconst (q := 10) dX7_get_9 rfl lk_0 ?_
    refine mm_ldc2 (q := 13) dX7_get_10 rfl cn_X7_89 ?_
    refine mm_callST (as := [.long ((x2).toInt64), .long (0 : Int64), .long (2 : Int64)]) (st := []) (q := 16) (fX7_in_ok ((x2).toInt64) (0 : Int64) (2 : Int64) M) ms_X7_76 rfl (Nat.le_of_ble_eq_true rfl) (Nat.le_of_ble_eq_true rfl) rfl dX7_get_13 rfl ?_
    refine mm_if_eq (q := 19) (tgt := 29) dX7_get_16 rfl (by decide) (fun c3 => ?_) (fun c3 => ?_)
    · refine mm_ldc (q := 31) dX7_get_29 rfl cn_X7_103 ?_
      exact mm_iret rfl dX7_get_31
    · refine mm_aload_n (q := 20) dX7_get_19 rfl rfl rfl ?_
      refine mm_iload_n (q := 21) dX7_get_20 rfl rfl rfl ?_
      refine mm_iload_n (q := 22) dX7_get_21 rfl rfl rfl ?_
      refine mm_iload_n (q := 23) dX7_get_22 rfl rfl rfl ?_
      refine mm_callVI (as := [.int x1, .int x2, .int x3]) (st := []) (q := 26) lr_0 rfl (fX7_lacks_ok x1 x2 x3 M) ms_X7_95 rfl (Nat.le_of_ble_eq_true rfl) (Nat.le_of_ble_eq_true rfl) rfl dX7_get_23 rfl (fun b4 _ => ?_)
      refine mm_if_eq (q := 29) (tgt := 32) dX7_get_26 rfl (by decide) (fun c5 => ?_) (fun c5 => ?_)
      · refine mm_aload_n (q := 33) dX7_get_32 rfl rfl rfl ?_
        refine mm_getR (q := 36) (k1 := 3) dX7_get_33 rfl lr_0 fd_X7_16 rfl ?_
        refine mm_bipush (q := 38) dX7_get_36 rfl bp_60 ?_
        refine mm_iload_n (q := 39) dX7_get_38 rfl rfl rfl ?_
        refine mm_imul (q := 40) dX7_get_39 rfl ?_
        refine mm_iload_n (q := 41) dX7_get_40 rfl rfl rfl ?_
        refine mm_iadd (q := 42) dX7_get_41 rfl ?_
        refine mm_iald (q := 43) dX7_get_42 rfl lr_3 (fun b6 _ => ?_)
        exact mm_iret rfl dX7_get_43
      · refine mm_ldc (q := 31) dX7_get_29 rfl cn_X7_103 ?_
        exact mm_iret rfl dX7_get_31
def fX7_lay (x1 : Int32) (x2 : Int32) (x3 : Int32) (x4 : Int32) (M : mm_M) : Option (Int32 × mm_M) :=
  (fX7_isSheet x1).bind fun b1 =>
  if b1 = 0 then
    some ((-2 : Int32), M)
  else
    if (fX7_in ((x2).toInt64) (0 : Int64) (2 : Int64)) = 0 then
      some ((-2 : Int32), M)
    else
      (fX7_lacks x1 x2 x3 M).bind fun b4 =>
      if b4.1 = 0 then
        ((mm_wa b4.2 3 240 (((60 : Int32) * x1) + x3) (fX7_cut x2 x4)).bind fun M6 =>
        some ((1 : Int32), M6))
      else
        some (b4.1, b4.2)
set_option maxRecDepth 100000 in
set_option maxHeartbeats 4000000 in
theorem fX7_lay_ok (x1 : Int32) (x2 : Int32) (x3 : Int32) (x4 : Int32) (M : mm_M)  : mm_E LR yX7_lay cX7_lay 6 (some .int) 2 mm_eI [.ref 0, .int x1, .int x2, .int x3, .int x4] M (fX7_lay x1 x2 x3 x4 M) := by
  refine mm_E.of (own := RX7) (ls := [some (.ref 0), some (.int x1), some (.int x2), some (.int x3), some (.int x4), none]) (by decide) rfl rfl (Nat.le_of_ble_eq_true rfl) ?_
  unfold fX7_lay
  refine mm_iload_n (q := 1) dX7_lay_0 rfl rfl rfl ?_
  refine mm_callSP (as := [.int x1]) (st := []) (q := 4) (fX7_isSheet_ok x1 M) ms_X7_85 rfl (Nat.le_of_ble_eq_true rfl) (Nat.le_of_ble_eq_true rfl) rfl dX7_lay_1 rfl (fun b1 _ => ?_)
  refine mm_if_eq (q := 7) (tgt := 19) dX7_lay_4 rfl (by decide) (fun c2 => ?_) (fun c2 => ?_)
  · refine mm_bipush (q := 21) dX7_lay_19 rfl bp_m2 ?_
    exact mm_iret rfl dX7_lay_21
  · refine mm_iload_n (q := 8) dX7_lay_7 rfl rfl rfl ?_
    refine mm_i2l (q := 9) dX7_lay_8 rfl ?_
    refine mm_lconst (q := 10) dX7_lay_9 rfl lk_0 ?_
    refine mm_ldc2 (q := 13) dX7_lay_10 rfl cn_X7_89 ?_
    refine mm_callST (as := [.long ((x2).toInt64), .long (0 : Int64), .long (2 : Int64)]) (st := []) (q := 16) (fX7_in_ok ((x2).toInt64) (0 : Int64) (2 : Int64) M) ms_X7_76 rfl (Nat.le_of_ble_eq_true rfl) (Nat.le_of_ble_eq_true rfl) rfl dX7_lay_13 rfl ?_
    refine mm_if_ne (q := 19) (tgt := 22) dX7_lay_16 rfl (by decide) (fun c3 => ?_) (fun c3 => ?_)
    · refine mm_bipush (q := 21) dX7_lay_19 rfl bp_m2 ?_
      exact mm_iret rfl dX7_lay_21
    · refine mm_aload_n (q := 23) dX7_lay_22 rfl rfl rfl ?_
      refine mm_iload_n (q := 24) dX7_lay_23 rfl rfl rfl ?_
      refine mm_iload_n (q := 25) dX7_lay_24 rfl rfl rfl ?_
      refine mm_iload_n (q := 26) dX7_lay_25 rfl rfl rfl ?_
      refine mm_callVI (as := [.int x1, .int x2, .int x3]) (st := []) (q := 29) lr_0 rfl (fX7_lacks_ok x1 x2 x3 M) ms_X7_95 rfl (Nat.le_of_ble_eq_true rfl) (Nat.le_of_ble_eq_true rfl) rfl dX7_lay_26 rfl (fun b4 _ => ?_)
      refine mm_istore (q := 31) (ls' := [some (.ref 0), some (.int x1), some (.int x2), some (.int x3), some (.int x4), some (.int b4.1)]) dX7_lay_29 rfl rfl (Nat.le_of_ble_eq_true rfl) rfl ?_
      refine mm_iload (q := 33) dX7_lay_31 rfl rfl ?_
      refine mm_if_eq (q := 36) (tgt := 39) dX7_lay_33 rfl (by decide) (fun c5 => ?_) (fun c5 => ?_)
      · refine mm_aload_n (q := 40) dX7_lay_39 rfl rfl rfl ?_
        refine mm_getR (q := 43) (k1 := 3) dX7_lay_40 rfl lr_0 fd_X7_16 rfl ?_
        refine mm_bipush (q := 45) dX7_lay_43 rfl bp_60 ?_
        refine mm_iload_n (q := 46) dX7_lay_45 rfl rfl rfl ?_
        refine mm_imul (q := 47) dX7_lay_46 rfl ?_
        refine mm_iload_n (q := 48) dX7_lay_47 rfl rfl rfl ?_
        refine mm_iadd (q := 49) dX7_lay_48 rfl ?_
        refine mm_iload_n (q := 50) dX7_lay_49 rfl rfl rfl ?_
        refine mm_iload (q := 52) dX7_lay_50 rfl rfl ?_
        refine mm_callST (as := [.int x2, .int x4]) (st := [.int (((60 : Int32) * x1) + x3), .ref 3]) (q := 55) (fX7_cut_ok x2 x4 b4.2) ms_X7_99 rfl (Nat.le_of_ble_eq_true rfl) (Nat.le_of_ble_eq_true rfl) rfl dX7_lay_52 rfl ?_
        refine mm_iast (q := 56) dX7_lay_55 rfl lr_3 (fun M6 _ => ?_)
        refine mm_iconst (q := 57) dX7_lay_56 rfl ic_1 ?_
        exact mm_iret rfl dX7_lay_57
      · refine mm_iload (q := 38) dX7_lay_36 rfl rfl ?_
        exact mm_iret rfl dX7_lay_38
def fX7_lent (x1 : Int32) (M : mm_M) : Option (Int32 × mm_M) :=
  (fX7_find M).bind fun M1 =>
  (fX7_isWord x1 M1).bind fun b2 =>
  if b2 = 0 then
    some ((-2 : Int32), M1)
  else
    (fX7_lentOf x1 M1).bind fun b4 =>
    some (b4.1, b4.2)
set_option maxRecDepth 100000 in
set_option maxHeartbeats 4000000 in
theorem fX7_lent_ok (x1 : Int32) (M : mm_M)  : mm_E LR yX7_lent cX7_lent 2 (some .int) 8 mm_eI [.ref 0, .int x1] M (fX7_lent x1 M) := by
  refine mm_E.of (own := RX7) (ls := [some (.ref 0), some (.int x1)]) (by decide) rfl rfl (Nat.le_of_ble_eq_true rfl) ?_
  unfold fX7_lent
  refine mm_aload_n (q := 1) dX7_lent_0 rfl rfl rfl ?_
  refine mm_callVV (as := []) (st := []) (q := 4) lr_0 rfl (fX7_find_ok M) ms_X7_221 rfl (Nat.le_of_ble_eq_true rfl) (Nat.le_of_ble_eq_true rfl) rfl dX7_lent_1 rfl (fun M1 _ => ?_)
  refine mm_aload_n (q := 5) dX7_lent_4 rfl rfl rfl ?_
  refine mm_iload_n (q := 6) dX7_lent_5 rfl rfl rfl ?_
  refine mm_callVP (as := [.int x1]) (st := []) (q := 9) lr_0 rfl (fX7_isWord_ok x1 M1) ms_X7_158 rfl (Nat.le_of_ble_eq_true rfl) (Nat.le_of_ble_eq_true rfl) rfl dX7_lent_6 rfl (fun b2 _ => ?_)
  refine mm_if_eq (q := 12) (tgt := 20) dX7_lent_9 rfl (by decide) (fun c3 => ?_) (fun c3 => ?_)
  · refine mm_bipush (q := 22) dX7_lent_20 rfl bp_m2 ?_
    exact mm_iret rfl dX7_lent_22
  · refine mm_aload_n (q := 13) dX7_lent_12 rfl rfl rfl ?_
    refine mm_iload_n (q := 14) dX7_lent_13 rfl rfl rfl ?_
    refine mm_callVI (as := [.int x1]) (st := []) (q := 17) lr_0 rfl (fX7_lentOf_ok x1 M1) ms_X7_292 rfl (Nat.le_of_ble_eq_true rfl) (Nat.le_of_ble_eq_true rfl) rfl dX7_lent_14 rfl (fun b4 _ => ?_)
    refine mm_goto (tgt := 22) dX7_lent_17 (by decide) ?_
    exact mm_iret rfl dX7_lent_22
def fX7_live (x1 : Int32) (M : mm_M) : Option (Int32 × mm_M) :=
  (fX7_find M).bind fun M1 =>
  (fX7_isPerson x1 M1).bind fun b2 =>
  if b2 = 0 then
    some ((-2 : Int32), M1)
  else
    (fX7_liveOf x1 M1).bind fun b4 =>
    some (b4.1, b4.2)
set_option maxRecDepth 100000 in
set_option maxHeartbeats 4000000 in
theorem fX7_live_ok (x1 : Int32) (M : mm_M)  : mm_E LR yX7_live cX7_live 2 (some .int) 7 mm_eI [.ref 0, .int x1] M (fX7_live x1 M) := by
  refine mm_E.of (own := RX7) (ls := [some (.ref 0), some (.int x1)]) (by decide) rfl rfl (Nat.le_of_ble_eq_true rfl) ?_
  unfold fX7_live
  refine mm_aload_n (q := 1) dX7_live_0 rfl rfl rfl ?_
  refine mm_callVV (as := []) (st := []) (q := 4) lr_0 rfl (fX7_find_ok M) ms_X7_221 rfl (Nat.le_of_ble_eq_true rfl) (Nat.le_of_ble_eq_true rfl) rfl dX7_live_1 rfl (fun M1 _ => ?_)
  refine mm_aload_n (q := 5) dX7_live_4 rfl rfl rfl ?_
  refine mm_iload_n (q := 6) dX7_live_5 rfl rfl rfl ?_
  refine mm_callVP (as := [.int x1]) (st := []) (q := 9) lr_0 rfl (fX7_isPerson_ok x1 M1) ms_X7_152 rfl (Nat.le_of_ble_eq_true rfl) (Nat.le_of_ble_eq_true rfl) rfl dX7_live_6 rfl (fun b2 _ => ?_)
  refine mm_if_eq (q := 12) (tgt := 20) dX7_live_9 rfl (by decide) (fun c3 => ?_) (fun c3 => ?_)
  · refine mm_bipush (q := 22) dX7_live_20 rfl bp_m2 ?_
    exact mm_iret rfl dX7_live_22
  · refine mm_aload_n (q := 13) dX7_live_12 rfl rfl rfl ?_
    refine mm_iload_n (q := 14) dX7_live_13 rfl rfl rfl ?_
    refine mm_callVI (as := [.int x1]) (st := []) (q := 17) lr_0 rfl (fX7_liveOf_ok x1 M1) ms_X7_260 rfl (Nat.le_of_ble_eq_true rfl) (Nat.le_of_ble_eq_true rfl) rfl dX7_live_14 rfl (fun b4 _ => ?_)
    refine mm_goto (tgt := 22) dX7_live_17 (by decide) ?_
    exact mm_iret rfl dX7_live_22
def fX7_lives (x1 : Int32) (x2 : Int32) (x3 : Int32) (M : mm_M) : Option (Int32 × mm_M) :=
  (fX7_find M).bind fun M1 =>
  if (fX7_in ((x2).toInt64) (0 : Int64) (12 : Int64)) = 0 then
    some ((-2 : Int32), M1)
  else
    (fX7_isTwo x3).bind fun b3 =>
    if b3 = 0 then
      some ((-2 : Int32), M1)
    else
      (fX7_livesOf x1 x2 x3 M1).bind fun b5 =>
      some (b5.1, b5.2)
set_option maxRecDepth 100000 in
set_option maxHeartbeats 4000000 in
theorem fX7_lives_ok (x1 : Int32) (x2 : Int32) (x3 : Int32) (M : mm_M)  : mm_E LR yX7_lives cX7_lives 4 (some .int) 7 mm_eI [.ref 0, .int x1, .int x2, .int x3] M (fX7_lives x1 x2 x3 M) := by
  refine mm_E.of (own := RX7) (ls := [some (.ref 0), some (.int x1), some (.int x2), some (.int x3)]) (by decide) rfl rfl (Nat.le_of_ble_eq_true rfl) ?_
  unfold fX7_lives
  refine mm_aload_n (q := 1) dX7_lives_0 rfl rfl rfl ?_
  refine mm_callVV (as := []) (st := []) (q := 4) lr_0 rfl (fX7_find_ok M) ms_X7_221 rfl (Nat.le_of_ble_eq_true rfl) (Nat.le_of_ble_eq_true rfl) rfl dX7_lives_1 rfl (fun M1 _ => ?_)
  refine mm_iload_n (q := 5) dX7_lives_4 rfl rfl rfl ?_
  refine mm_i2l (q := 6) dX7_lives_5 rfl ?_
  refine mm_lconst (q := 7) dX7_lives_6 rfl lk_0 ?_
  refine mm_ldc2 (q := 10) dX7_lives_7 rfl cn_X7_322 ?_
  refine mm_callST (as := [.long ((x2).toInt64), .long (0 : Int64), .long (12 : Int64)]) (st := []) (q := 13) (fX7_in_ok ((x2).toInt64) (0 : Int64) (12 : Int64) M1) ms_X7_76 rfl (Nat.le_of_ble_eq_true rfl) (Nat.le_of_ble_eq_true rfl) rfl dX7_lives_10 rfl ?_
  refine mm_if_eq (q := 16) (tgt := 33) dX7_lives_13 rfl (by decide) (fun c2 => ?_) (fun c2 => ?_)
  · refine mm_bipush (q := 35) dX7_lives_33 rfl bp_m2 ?_
    exact mm_iret rfl dX7_lives_35
  · refine mm_iload_n (q := 17) dX7_lives_16 rfl rfl rfl ?_
    refine mm_callSP (as := [.int x3]) (st := []) (q := 20) (fX7_isTwo_ok x3 M1) ms_X7_155 rfl (Nat.le_of_ble_eq_true rfl) (Nat.le_of_ble_eq_true rfl) rfl dX7_lives_17 rfl (fun b3 _ => ?_)
    refine mm_if_eq (q := 23) (tgt := 33) dX7_lives_20 rfl (by decide) (fun c4 => ?_) (fun c4 => ?_)
    · refine mm_bipush (q := 35) dX7_lives_33 rfl bp_m2 ?_
      exact mm_iret rfl dX7_lives_35
    · refine mm_aload_n (q := 24) dX7_lives_23 rfl rfl rfl ?_
      refine mm_iload_n (q := 25) dX7_lives_24 rfl rfl rfl ?_
      refine mm_iload_n (q := 26) dX7_lives_25 rfl rfl rfl ?_
      refine mm_iload_n (q := 27) dX7_lives_26 rfl rfl rfl ?_
      refine mm_callVI (as := [.int x1, .int x2, .int x3]) (st := []) (q := 30) lr_0 rfl (fX7_livesOf_ok x1 x2 x3 M1) ms_X7_324 rfl (Nat.le_of_ble_eq_true rfl) (Nat.le_of_ble_eq_true rfl) rfl dX7_lives_27 rfl (fun b5 _ => ?_)
      refine mm_goto (tgt := 35) dX7_lives_30 (by decide) ?_
      exact mm_iret rfl dX7_lives_35
def fX7_lose (x1 : Int32) (M : mm_M) : Option (Int32 × mm_M) :=
  (fX7_isSheet x1).bind fun b1 =>
  if b1 = 0 then
    some ((-2 : Int32), M)
  else
    (mm_rd M 1 4 x1).bind fun b3 =>
    if 0 ≤ b3 then
      ((mm_wa M 1 4 x1 (-1 : Int32)).bind fun M5 =>
      (mm_rd M5 2 4 x1).bind fun b6 =>
      some (b6, M5))
    else
      (fX7_finds (1 : Int32) M).bind fun b7 =>
      some (b7.1, b7.2)
set_option maxRecDepth 100000 in
set_option maxHeartbeats 4000000 in
theorem fX7_lose_ok (x1 : Int32) (M : mm_M)  : mm_E LR yX7_lose cX7_lose 2 (some .int) 2 mm_eI [.ref 0, .int x1] M (fX7_lose x1 M) := by
  refine mm_E.of (own := RX7) (ls := [some (.ref 0), some (.int x1)]) (by decide) rfl rfl (Nat.le_of_ble_eq_true rfl) ?_
  unfold fX7_lose
  refine mm_iload_n (q := 1) dX7_lose_0 rfl rfl rfl ?_
  refine mm_callSP (as := [.int x1]) (st := []) (q := 4) (fX7_isSheet_ok x1 M) ms_X7_85 rfl (Nat.le_of_ble_eq_true rfl) (Nat.le_of_ble_eq_true rfl) rfl dX7_lose_1 rfl (fun b1 _ => ?_)
  refine mm_if_ne (q := 7) (tgt := 10) dX7_lose_4 rfl (by decide) (fun c2 => ?_) (fun c2 => ?_)
  · refine mm_bipush (q := 9) dX7_lose_7 rfl bp_m2 ?_
    exact mm_iret rfl dX7_lose_9
  · refine mm_aload_n (q := 11) dX7_lose_10 rfl rfl rfl ?_
    refine mm_getR (q := 14) (k1 := 1) dX7_lose_11 rfl lr_0 fd_X7_7 rfl ?_
    refine mm_iload_n (q := 15) dX7_lose_14 rfl rfl rfl ?_
    refine mm_iald (q := 16) dX7_lose_15 rfl lr_1 (fun b3 _ => ?_)
    refine mm_if_ge (q := 19) (tgt := 25) dX7_lose_16 rfl (by decide) (fun c4 => ?_) (fun c4 => ?_)
    · refine mm_aload_n (q := 26) dX7_lose_25 rfl rfl rfl ?_
      refine mm_getR (q := 29) (k1 := 1) dX7_lose_26 rfl lr_0 fd_X7_7 rfl ?_
      refine mm_iload_n (q := 30) dX7_lose_29 rfl rfl rfl ?_
      refine mm_iconst (q := 31) dX7_lose_30 rfl ic_m1 ?_
      refine mm_iast (q := 32) dX7_lose_31 rfl lr_1 (fun M5 _ => ?_)
      refine mm_aload_n (q := 33) dX7_lose_32 rfl rfl rfl ?_
      refine mm_getR (q := 36) (k1 := 2) dX7_lose_33 rfl lr_0 fd_X7_13 rfl ?_
      refine mm_iload_n (q := 37) dX7_lose_36 rfl rfl rfl ?_
      refine mm_iald (q := 38) dX7_lose_37 rfl lr_2 (fun b6 _ => ?_)
      exact mm_iret rfl dX7_lose_38
    · refine mm_aload_n (q := 20) dX7_lose_19 rfl rfl rfl ?_
      refine mm_iconst (q := 21) dX7_lose_20 rfl ic_1 ?_
      refine mm_callVI (as := [.int (1 : Int32)]) (st := []) (q := 24) lr_0 rfl (fX7_finds_ok (1 : Int32) M) ms_X7_91 rfl (Nat.le_of_ble_eq_true rfl) (Nat.le_of_ble_eq_true rfl) rfl dX7_lose_21 rfl (fun b7 _ => ?_)
      exact mm_iret rfl dX7_lose_24
def fX7_meet (x1 : Int32) (x2 : Int32) (M : mm_M) : Option (Int32 × mm_M) :=
  (fX7_find M).bind fun M1 =>
  (fX7_isDay x1).bind fun b2 =>
  if b2 = 0 then
    some ((-2 : Int32), M1)
  else
    if (fX7_in ((x2).toInt64) (0 : Int64) (2 : Int64)) = 0 then
      some ((-2 : Int32), M1)
    else
      (fX7_meetOf x1 x2 M1).bind fun b5 =>
      some (b5.1, b5.2)
set_option maxRecDepth 100000 in
set_option maxHeartbeats 4000000 in
theorem fX7_meet_ok (x1 : Int32) (x2 : Int32) (M : mm_M)  : mm_E LR yX7_meet cX7_meet 3 (some .int) 7 mm_eI [.ref 0, .int x1, .int x2] M (fX7_meet x1 x2 M) := by
  refine mm_E.of (own := RX7) (ls := [some (.ref 0), some (.int x1), some (.int x2)]) (by decide) rfl rfl (Nat.le_of_ble_eq_true rfl) ?_
  unfold fX7_meet
  refine mm_aload_n (q := 1) dX7_meet_0 rfl rfl rfl ?_
  refine mm_callVV (as := []) (st := []) (q := 4) lr_0 rfl (fX7_find_ok M) ms_X7_221 rfl (Nat.le_of_ble_eq_true rfl) (Nat.le_of_ble_eq_true rfl) rfl dX7_meet_1 rfl (fun M1 _ => ?_)
  refine mm_iload_n (q := 5) dX7_meet_4 rfl rfl rfl ?_
  refine mm_callSP (as := [.int x1]) (st := []) (q := 8) (fX7_isDay_ok x1 M1) ms_X7_166 rfl (Nat.le_of_ble_eq_true rfl) (Nat.le_of_ble_eq_true rfl) rfl dX7_meet_5 rfl (fun b2 _ => ?_)
  refine mm_if_eq (q := 11) (tgt := 32) dX7_meet_8 rfl (by decide) (fun c3 => ?_) (fun c3 => ?_)
  · refine mm_bipush (q := 34) dX7_meet_32 rfl bp_m2 ?_
    exact mm_iret rfl dX7_meet_34
  · refine mm_iload_n (q := 12) dX7_meet_11 rfl rfl rfl ?_
    refine mm_i2l (q := 13) dX7_meet_12 rfl ?_
    refine mm_lconst (q := 14) dX7_meet_13 rfl lk_0 ?_
    refine mm_ldc2 (q := 17) dX7_meet_14 rfl cn_X7_89 ?_
    refine mm_callST (as := [.long ((x2).toInt64), .long (0 : Int64), .long (2 : Int64)]) (st := []) (q := 20) (fX7_in_ok ((x2).toInt64) (0 : Int64) (2 : Int64) M1) ms_X7_76 rfl (Nat.le_of_ble_eq_true rfl) (Nat.le_of_ble_eq_true rfl) rfl dX7_meet_17 rfl ?_
    refine mm_if_eq (q := 23) (tgt := 32) dX7_meet_20 rfl (by decide) (fun c4 => ?_) (fun c4 => ?_)
    · refine mm_bipush (q := 34) dX7_meet_32 rfl bp_m2 ?_
      exact mm_iret rfl dX7_meet_34
    · refine mm_aload_n (q := 24) dX7_meet_23 rfl rfl rfl ?_
      refine mm_iload_n (q := 25) dX7_meet_24 rfl rfl rfl ?_
      refine mm_iload_n (q := 26) dX7_meet_25 rfl rfl rfl ?_
      refine mm_callVI (as := [.int x1, .int x2]) (st := []) (q := 29) lr_0 rfl (fX7_meetOf_ok x1 x2 M1) ms_X7_257 rfl (Nat.le_of_ble_eq_true rfl) (Nat.le_of_ble_eq_true rfl) rfl dX7_meet_26 rfl (fun b5 _ => ?_)
      refine mm_goto (tgt := 34) dX7_meet_29 (by decide) ?_
      exact mm_iret rfl dX7_meet_34
def fX7_meeting (x1 : Int32) (x2 : Int32) (M : mm_M) : Option (Int32 × mm_M) :=
  (fX7_readsMeetings M).bind fun b1 =>
  if (fX7_in ((x1).toInt64) (0 : Int64) (11 : Int64)) = 0 then
    some ((-2 : Int32), b1.2)
  else
    if (fX7_in ((x2).toInt64) (0 : Int64) (2 : Int64)) = 0 then
      some ((-2 : Int32), b1.2)
    else
      (fX7_meetingBy x1 x2 b1.2).bind fun b4 =>
      some (b4, b1.2)
set_option maxRecDepth 100000 in
set_option maxHeartbeats 4000000 in
theorem fX7_meeting_ok (x1 : Int32) (x2 : Int32) (M : mm_M)  : mm_E LR yX7_meeting cX7_meeting 3 (some .int) 4 mm_eI [.ref 0, .int x1, .int x2] M (fX7_meeting x1 x2 M) := by
  refine mm_E.of (own := RX7) (ls := [some (.ref 0), some (.int x1), some (.int x2)]) (by decide) rfl rfl (Nat.le_of_ble_eq_true rfl) ?_
  unfold fX7_meeting
  refine mm_aload_n (q := 1) dX7_meeting_0 rfl rfl rfl ?_
  refine mm_callVI (as := []) (st := []) (q := 4) lr_0 rfl (fX7_readsMeetings_ok M) ms_X7_144 rfl (Nat.le_of_ble_eq_true rfl) (Nat.le_of_ble_eq_true rfl) rfl dX7_meeting_1 rfl (fun b1 _ => ?_)
  refine mm_pop (q := 5) dX7_meeting_4 rfl rfl ?_
  refine mm_iload_n (q := 6) dX7_meeting_5 rfl rfl rfl ?_
  refine mm_i2l (q := 7) dX7_meeting_6 rfl ?_
  refine mm_lconst (q := 8) dX7_meeting_7 rfl lk_0 ?_
  refine mm_ldc2 (q := 11) dX7_meeting_8 rfl cn_X7_161 ?_
  refine mm_callST (as := [.long ((x1).toInt64), .long (0 : Int64), .long (11 : Int64)]) (st := []) (q := 14) (fX7_in_ok ((x1).toInt64) (0 : Int64) (11 : Int64) b1.2) ms_X7_76 rfl (Nat.le_of_ble_eq_true rfl) (Nat.le_of_ble_eq_true rfl) rfl dX7_meeting_11 rfl ?_
  refine mm_if_eq (q := 17) (tgt := 38) dX7_meeting_14 rfl (by decide) (fun c2 => ?_) (fun c2 => ?_)
  · refine mm_bipush (q := 40) dX7_meeting_38 rfl bp_m2 ?_
    exact mm_iret rfl dX7_meeting_40
  · refine mm_iload_n (q := 18) dX7_meeting_17 rfl rfl rfl ?_
    refine mm_i2l (q := 19) dX7_meeting_18 rfl ?_
    refine mm_lconst (q := 20) dX7_meeting_19 rfl lk_0 ?_
    refine mm_ldc2 (q := 23) dX7_meeting_20 rfl cn_X7_89 ?_
    refine mm_callST (as := [.long ((x2).toInt64), .long (0 : Int64), .long (2 : Int64)]) (st := []) (q := 26) (fX7_in_ok ((x2).toInt64) (0 : Int64) (2 : Int64) b1.2) ms_X7_76 rfl (Nat.le_of_ble_eq_true rfl) (Nat.le_of_ble_eq_true rfl) rfl dX7_meeting_23 rfl ?_
    refine mm_if_eq (q := 29) (tgt := 38) dX7_meeting_26 rfl (by decide) (fun c3 => ?_) (fun c3 => ?_)
    · refine mm_bipush (q := 40) dX7_meeting_38 rfl bp_m2 ?_
      exact mm_iret rfl dX7_meeting_40
    · refine mm_aload_n (q := 30) dX7_meeting_29 rfl rfl rfl ?_
      refine mm_iload_n (q := 31) dX7_meeting_30 rfl rfl rfl ?_
      refine mm_iload_n (q := 32) dX7_meeting_31 rfl rfl rfl ?_
      refine mm_callVP (as := [.int x1, .int x2]) (st := []) (q := 35) lr_0 rfl (fX7_meetingBy_ok x1 x2 b1.2) ms_X7_163 rfl (Nat.le_of_ble_eq_true rfl) (Nat.le_of_ble_eq_true rfl) rfl dX7_meeting_32 rfl (fun b4 _ => ?_)
      refine mm_goto (tgt := 40) dX7_meeting_35 (by decide) ?_
      exact mm_iret rfl dX7_meeting_40
def fX7_never  (M : mm_M) : Option (Int32 × mm_M) :=
  (fX7_find M).bind fun M1 =>
  (fX7_neverNow M1).bind fun b2 =>
  some (b2.1, b2.2)
set_option maxRecDepth 100000 in
set_option maxHeartbeats 4000000 in
theorem fX7_never_ok  (M : mm_M)  : mm_E LR yX7_never cX7_never 1 (some .int) 8 mm_eI [.ref 0] M (fX7_never M) := by
  refine mm_E.of (own := RX7) (ls := [some (.ref 0)]) (by decide) rfl rfl (Nat.le_of_ble_eq_true rfl) ?_
  unfold fX7_never
  refine mm_aload_n (q := 1) dX7_never_0 rfl rfl rfl ?_
  refine mm_callVV (as := []) (st := []) (q := 4) lr_0 rfl (fX7_find_ok M) ms_X7_221 rfl (Nat.le_of_ble_eq_true rfl) (Nat.le_of_ble_eq_true rfl) rfl dX7_never_1 rfl (fun M1 _ => ?_)
  refine mm_aload_n (q := 5) dX7_never_4 rfl rfl rfl ?_
  refine mm_callVI (as := []) (st := []) (q := 8) lr_0 rfl (fX7_neverNow_ok M1) ms_X7_286 rfl (Nat.le_of_ble_eq_true rfl) (Nat.le_of_ble_eq_true rfl) rfl dX7_never_5 rfl (fun b2 _ => ?_)
  exact mm_iret rfl dX7_never_8
def fX7_person (x1 : Int32) (x2 : Int32) (M : mm_M) : Option (Int32 × mm_M) :=
  (fX7_readsPeople M).bind fun b1 =>
  (fX7_isPerson x1 b1.2).bind fun b2 =>
  if b2 = 0 then
    some ((-2 : Int32), b1.2)
  else
    (fX7_isTwo x2).bind fun b4 =>
    if b4 = 0 then
      some ((-2 : Int32), b1.2)
    else
      (mm_rd b1.2 7 16 (((2 : Int32) * x1) + x2)).bind fun b6 =>
      some (b6, b1.2)
set_option maxRecDepth 100000 in
set_option maxHeartbeats 4000000 in
theorem fX7_person_ok (x1 : Int32) (x2 : Int32) (M : mm_M)  : mm_E LR yX7_person cX7_person 3 (some .int) 4 mm_eI [.ref 0, .int x1, .int x2] M (fX7_person x1 x2 M) := by
  refine mm_E.of (own := RX7) (ls := [some (.ref 0), some (.int x1), some (.int x2)]) (by decide) rfl rfl (Nat.le_of_ble_eq_true rfl) ?_
  unfold fX7_person
  refine mm_aload_n (q := 1) dX7_person_0 rfl rfl rfl ?_
  refine mm_callVI (as := []) (st := []) (q := 4) lr_0 rfl (fX7_readsPeople_ok M) ms_X7_137 rfl (Nat.le_of_ble_eq_true rfl) (Nat.le_of_ble_eq_true rfl) rfl dX7_person_1 rfl (fun b1 _ => ?_)
  refine mm_pop (q := 5) dX7_person_4 rfl rfl ?_
  refine mm_aload_n (q := 6) dX7_person_5 rfl rfl rfl ?_
  refine mm_iload_n (q := 7) dX7_person_6 rfl rfl rfl ?_
  refine mm_callVP (as := [.int x1]) (st := []) (q := 10) lr_0 rfl (fX7_isPerson_ok x1 b1.2) ms_X7_152 rfl (Nat.le_of_ble_eq_true rfl) (Nat.le_of_ble_eq_true rfl) rfl dX7_person_7 rfl (fun b2 _ => ?_)
  refine mm_if_eq (q := 13) (tgt := 33) dX7_person_10 rfl (by decide) (fun c3 => ?_) (fun c3 => ?_)
  · refine mm_bipush (q := 35) dX7_person_33 rfl bp_m2 ?_
    exact mm_iret rfl dX7_person_35
  · refine mm_iload_n (q := 14) dX7_person_13 rfl rfl rfl ?_
    refine mm_callSP (as := [.int x2]) (st := []) (q := 17) (fX7_isTwo_ok x2 b1.2) ms_X7_155 rfl (Nat.le_of_ble_eq_true rfl) (Nat.le_of_ble_eq_true rfl) rfl dX7_person_14 rfl (fun b4 _ => ?_)
    refine mm_if_eq (q := 20) (tgt := 33) dX7_person_17 rfl (by decide) (fun c5 => ?_) (fun c5 => ?_)
    · refine mm_bipush (q := 35) dX7_person_33 rfl bp_m2 ?_
      exact mm_iret rfl dX7_person_35
    · refine mm_aload_n (q := 21) dX7_person_20 rfl rfl rfl ?_
      refine mm_getR (q := 24) (k1 := 7) dX7_person_21 rfl lr_0 fd_X7_28 rfl ?_
      refine mm_iconst (q := 25) dX7_person_24 rfl ic_2 ?_
      refine mm_iload_n (q := 26) dX7_person_25 rfl rfl rfl ?_
      refine mm_imul (q := 27) dX7_person_26 rfl ?_
      refine mm_iload_n (q := 28) dX7_person_27 rfl rfl rfl ?_
      refine mm_iadd (q := 29) dX7_person_28 rfl ?_
      refine mm_iald (q := 30) dX7_person_29 rfl lr_7 (fun b6 _ => ?_)
      refine mm_goto (tgt := 35) dX7_person_30 (by decide) ?_
      exact mm_iret rfl dX7_person_35
def fX7_read_J87 (x1 : Int32) (x2 : Int32) (s0 : Int32) (kr : Int32 → Int32 → mm_M → Option (Int32 × mm_M)) (M : mm_M) : Option (Int32 × mm_M) :=
  kr (if s0 = 0 then x2 + (0 : Int32) else x2 + (1 : Int32)) s0 M
set_option maxRecDepth 100000 in
set_option maxHeartbeats 4000000 in
theorem fX7_read_J87_ok (x1 : Int32) (x2 : Int32) (s0 : Int32)  (M : mm_M)  (kr : Int32 → Int32 → mm_M → Option (Int32 × mm_M)) (hkr : ∀ (x2 : Int32) (x3 : Int32) (M : mm_M), mm_C LR cX7_read 4 RX7 (some .int) 3 mm_eI 29 [some (.ref 0), some (.int x1), some (.int x2), some (.int x3)] [] M (kr x2 x3 M)) : mm_C LR cX7_read 4 RX7 (some .int) 3 mm_eI 87 [some (.ref 0), some (.int x1), some (.int x2), none] [.int s0] M (fX7_read_J87 x1 x2 s0 kr M) := by
  unfold fX7_read_J87
  refine mm_istore_n (q := 88) (ls' := [some (.ref 0), some (.int x1), some (.int x2), some (.int s0)]) dX7_read_87 rfl rfl rfl (Nat.le_of_ble_eq_true rfl) rfl ?_
  refine mm_iload_n (q := 89) dX7_read_88 rfl rfl rfl ?_
  refine mm_iload_n (q := 90) dX7_read_89 rfl rfl rfl ?_
  by_cases c12 : s0 = 0
  · simp only [if_pos c12]
    refine mm_if_eq_t (tgt := 97) c12 dX7_read_90 (by decide) ?_
    refine mm_iconst (q := 98) dX7_read_97 rfl ic_0 ?_
    refine mm_iadd (q := 99) dX7_read_98 rfl ?_
    refine mm_istore_n (q := 100) (ls' := [some (.ref 0), some (.int x1), some (.int (x2 + (0 : Int32))), some (.int s0)]) dX7_read_99 rfl rfl rfl (Nat.le_of_ble_eq_true rfl) rfl ?_
    refine mm_goto (tgt := 29) dX7_read_100 (by decide) ?_
    exact hkr _ _ _
  · simp only [if_neg c12]
    refine mm_if_eq_f (q := 93) (tgt := 97) c12 dX7_read_90 rfl (by decide) ?_
    refine mm_iconst (q := 94) dX7_read_93 rfl ic_1 ?_
    refine mm_goto (tgt := 98) dX7_read_94 (by decide) ?_
    refine mm_iadd (q := 99) dX7_read_98 rfl ?_
    refine mm_istore_n (q := 100) (ls' := [some (.ref 0), some (.int x1), some (.int (x2 + (1 : Int32))), some (.int s0)]) dX7_read_99 rfl rfl rfl (Nat.le_of_ble_eq_true rfl) rfl ?_
    refine mm_goto (tgt := 29) dX7_read_100 (by decide) ?_
    exact hkr _ _ _
def fX7_read_L29 (x1 : Int32)  : Nat → Int32 → Int32 → mm_M → Option (Int32 × mm_M)
  | 0, _, _, _ => none
  | n + 1, x2, x3, M =>
    if x3 = 0 then
      some (x2, M)
    else
      (mm_rd M 2 4 x1).bind fun b6 =>
      if b6 < (((2 : Int32) * x2) + (2 : Int32)) then
        some (x2, M)
      else
        (mm_rd M 3 240 (((60 : Int32) * x1) + ((2 : Int32) * x2))).bind fun b8 =>
        (mm_rd M 3 240 ((((60 : Int32) * x1) + ((2 : Int32) * x2)) + (1 : Int32))).bind fun b9 =>
        (fX7_echo b8 b9 M).bind fun b10 =>
        fX7_read_J87 x1 x2 (if b10.1 < 0 then (0 : Int32) else (1 : Int32)) (fX7_read_L29 x1 n) b10.2
set_option maxRecDepth 100000 in
set_option maxHeartbeats 4000000 in
theorem fX7_read_L29_ok (x1 : Int32)    : ∀ (n : Nat) (x2 : Int32) (x3 : Int32) (M : mm_M), mm_C LR cX7_read 4 RX7 (some .int) 3 mm_eI 29 [some (.ref 0), some (.int x1), some (.int x2), some (.int x3)] [] M (fX7_read_L29 x1 n x2 x3 M) := by
  intro n
  induction n with
  | zero => intro x2 x3 M; exact mm_none
  | succ n ih =>
    intro x2 x3 M
    rw [fX7_read_L29]
    refine mm_iload_n (q := 30) dX7_read_29 rfl rfl rfl ?_
    refine mm_if_eq (q := 33) (tgt := 103) dX7_read_30 rfl (by decide) (fun c5 => ?_) (fun c5 => ?_)
    · refine mm_iload_n (q := 104) dX7_read_103 rfl rfl rfl ?_
      exact mm_iret rfl dX7_read_104
    · refine mm_iconst (q := 34) dX7_read_33 rfl ic_2 ?_
      refine mm_iload_n (q := 35) dX7_read_34 rfl rfl rfl ?_
      refine mm_imul (q := 36) dX7_read_35 rfl ?_
      refine mm_iconst (q := 37) dX7_read_36 rfl ic_2 ?_
      refine mm_iadd (q := 38) dX7_read_37 rfl ?_
      refine mm_aload_n (q := 39) dX7_read_38 rfl rfl rfl ?_
      refine mm_getR (q := 42) (k1 := 2) dX7_read_39 rfl lr_0 fd_X7_13 rfl ?_
      refine mm_iload_n (q := 43) dX7_read_42 rfl rfl rfl ?_
      refine mm_iald (q := 44) dX7_read_43 rfl lr_2 (fun b6 _ => ?_)
      refine mm_icmp_gt (q := 47) (tgt := 103) dX7_read_44 rfl (by decide) (fun c7 => ?_) (fun c7 => ?_)
      · refine mm_iload_n (q := 104) dX7_read_103 rfl rfl rfl ?_
        exact mm_iret rfl dX7_read_104
      · refine mm_aload_n (q := 48) dX7_read_47 rfl rfl rfl ?_
        refine mm_aload_n (q := 49) dX7_read_48 rfl rfl rfl ?_
        refine mm_getR (q := 52) (k1 := 3) dX7_read_49 rfl lr_0 fd_X7_16 rfl ?_
        refine mm_bipush (q := 54) dX7_read_52 rfl bp_60 ?_
        refine mm_iload_n (q := 55) dX7_read_54 rfl rfl rfl ?_
        refine mm_imul (q := 56) dX7_read_55 rfl ?_
        refine mm_iconst (q := 57) dX7_read_56 rfl ic_2 ?_
        refine mm_iload_n (q := 58) dX7_read_57 rfl rfl rfl ?_
        refine mm_imul (q := 59) dX7_read_58 rfl ?_
        refine mm_iadd (q := 60) dX7_read_59 rfl ?_
        refine mm_iald (q := 61) dX7_read_60 rfl lr_3 (fun b8 _ => ?_)
        refine mm_aload_n (q := 62) dX7_read_61 rfl rfl rfl ?_
        refine mm_getR (q := 65) (k1 := 3) dX7_read_62 rfl lr_0 fd_X7_16 rfl ?_
        refine mm_bipush (q := 67) dX7_read_65 rfl bp_60 ?_
        refine mm_iload_n (q := 68) dX7_read_67 rfl rfl rfl ?_
        refine mm_imul (q := 69) dX7_read_68 rfl ?_
        refine mm_iconst (q := 70) dX7_read_69 rfl ic_2 ?_
        refine mm_iload_n (q := 71) dX7_read_70 rfl rfl rfl ?_
        refine mm_imul (q := 72) dX7_read_71 rfl ?_
        refine mm_iadd (q := 73) dX7_read_72 rfl ?_
        refine mm_iconst (q := 74) dX7_read_73 rfl ic_1 ?_
        refine mm_iadd (q := 75) dX7_read_74 rfl ?_
        refine mm_iald (q := 76) dX7_read_75 rfl lr_3 (fun b9 _ => ?_)
        refine mm_callVI (as := [.int b8, .int b9]) (st := []) (q := 79) lr_0 rfl (fX7_echo_ok b8 b9 M) ms_X7_174 rfl (Nat.le_of_ble_eq_true rfl) (Nat.le_of_ble_eq_true rfl) rfl dX7_read_76 rfl (fun b10 _ => ?_)
        by_cases c11 : b10.1 < 0
        · simp only [if_pos c11]
          refine mm_if_lt_t (tgt := 86) c11 dX7_read_79 (by decide) ?_
          refine mm_iconst (q := 87) dX7_read_86 rfl ic_0 ?_
          refine mm_drop (ls' := [some (.ref 0), some (.int x1), some (.int x2), none]) (mm_sub_at _ _ (And.intro rfl (And.intro rfl (And.intro rfl trivial)))) ?_
          exact fX7_read_J87_ok _ _ _ _ _ ih
        · simp only [if_neg c11]
          refine mm_if_lt_f (q := 82) (tgt := 86) c11 dX7_read_79 rfl (by decide) ?_
          refine mm_iconst (q := 83) dX7_read_82 rfl ic_1 ?_
          refine mm_goto (tgt := 87) dX7_read_83 (by decide) ?_
          refine mm_drop (ls' := [some (.ref 0), some (.int x1), some (.int x2), none]) (mm_sub_at _ _ (And.intro rfl (And.intro rfl (And.intro rfl trivial)))) ?_
          exact fX7_read_J87_ok _ _ _ _ _ ih
def fX7_read (x1 : Int32) (M : mm_M) : Option (Int32 × mm_M) :=
  (fX7_isSheet x1).bind fun b1 =>
  if b1 = 0 then
    some ((-2 : Int32), M)
  else
    (mm_rd M 1 4 x1).bind fun b3 =>
    if 0 ≤ b3 then
      fX7_read_L29 x1 1000 (0 : Int32) (1 : Int32) M
    else
      (fX7_finds (1 : Int32) M).bind fun b13 =>
      some (b13.1, b13.2)
set_option maxRecDepth 100000 in
set_option maxHeartbeats 4000000 in
theorem fX7_read_ok (x1 : Int32) (M : mm_M)  : mm_E LR yX7_read cX7_read 4 (some .int) 3 mm_eI [.ref 0, .int x1] M (fX7_read x1 M) := by
  refine mm_E.of (own := RX7) (ls := [some (.ref 0), some (.int x1), none, none]) (by decide) rfl rfl (Nat.le_of_ble_eq_true rfl) ?_
  unfold fX7_read
  refine mm_iload_n (q := 1) dX7_read_0 rfl rfl rfl ?_
  refine mm_callSP (as := [.int x1]) (st := []) (q := 4) (fX7_isSheet_ok x1 M) ms_X7_85 rfl (Nat.le_of_ble_eq_true rfl) (Nat.le_of_ble_eq_true rfl) rfl dX7_read_1 rfl (fun b1 _ => ?_)
  refine mm_if_ne (q := 7) (tgt := 10) dX7_read_4 rfl (by decide) (fun c2 => ?_) (fun c2 => ?_)
  · refine mm_bipush (q := 9) dX7_read_7 rfl bp_m2 ?_
    exact mm_iret rfl dX7_read_9
  · refine mm_aload_n (q := 11) dX7_read_10 rfl rfl rfl ?_
    refine mm_getR (q := 14) (k1 := 1) dX7_read_11 rfl lr_0 fd_X7_7 rfl ?_
    refine mm_iload_n (q := 15) dX7_read_14 rfl rfl rfl ?_
    refine mm_iald (q := 16) dX7_read_15 rfl lr_1 (fun b3 _ => ?_)
    refine mm_if_ge (q := 19) (tgt := 25) dX7_read_16 rfl (by decide) (fun c4 => ?_) (fun c4 => ?_)
    · refine mm_iconst (q := 26) dX7_read_25 rfl ic_0 ?_
      refine mm_istore_n (q := 27) (ls' := [some (.ref 0), some (.int x1), some (.int (0 : Int32)), none]) dX7_read_26 rfl rfl rfl (Nat.le_of_ble_eq_true rfl) rfl ?_
      refine mm_iconst (q := 28) dX7_read_27 rfl ic_1 ?_
      refine mm_istore_n (q := 29) (ls' := [some (.ref 0), some (.int x1), some (.int (0 : Int32)), some (.int (1 : Int32))]) dX7_read_28 rfl rfl rfl (Nat.le_of_ble_eq_true rfl) rfl ?_
      exact fX7_read_L29_ok x1 _ _ _ _
    · refine mm_aload_n (q := 20) dX7_read_19 rfl rfl rfl ?_
      refine mm_iconst (q := 21) dX7_read_20 rfl ic_1 ?_
      refine mm_callVI (as := [.int (1 : Int32)]) (st := []) (q := 24) lr_0 rfl (fX7_finds_ok (1 : Int32) M) ms_X7_91 rfl (Nat.le_of_ble_eq_true rfl) (Nat.le_of_ble_eq_true rfl) rfl dX7_read_21 rfl (fun b13 _ => ?_)
      exact mm_iret rfl dX7_read_24
def fX7_ring (x1 : Int32) (x2 : Int32) (M : mm_M) : Option (Int32 × mm_M) :=
  (fX7_find M).bind fun M1 =>
  (fX7_isDay x1).bind fun b2 =>
  if b2 = 0 then
    some ((-2 : Int32), M1)
  else
    (fX7_isTwo x2).bind fun b4 =>
    if b4 = 0 then
      some ((-2 : Int32), M1)
    else
      (fX7_ringOf x1 x2 M1).bind fun b6 =>
      some (b6.1, b6.2)
set_option maxRecDepth 100000 in
set_option maxHeartbeats 4000000 in
theorem fX7_ring_ok (x1 : Int32) (x2 : Int32) (M : mm_M)  : mm_E LR yX7_ring cX7_ring 3 (some .int) 7 mm_eI [.ref 0, .int x1, .int x2] M (fX7_ring x1 x2 M) := by
  refine mm_E.of (own := RX7) (ls := [some (.ref 0), some (.int x1), some (.int x2)]) (by decide) rfl rfl (Nat.le_of_ble_eq_true rfl) ?_
  unfold fX7_ring
  refine mm_aload_n (q := 1) dX7_ring_0 rfl rfl rfl ?_
  refine mm_callVV (as := []) (st := []) (q := 4) lr_0 rfl (fX7_find_ok M) ms_X7_221 rfl (Nat.le_of_ble_eq_true rfl) (Nat.le_of_ble_eq_true rfl) rfl dX7_ring_1 rfl (fun M1 _ => ?_)
  refine mm_iload_n (q := 5) dX7_ring_4 rfl rfl rfl ?_
  refine mm_callSP (as := [.int x1]) (st := []) (q := 8) (fX7_isDay_ok x1 M1) ms_X7_166 rfl (Nat.le_of_ble_eq_true rfl) (Nat.le_of_ble_eq_true rfl) rfl dX7_ring_5 rfl (fun b2 _ => ?_)
  refine mm_if_eq (q := 11) (tgt := 27) dX7_ring_8 rfl (by decide) (fun c3 => ?_) (fun c3 => ?_)
  · refine mm_bipush (q := 29) dX7_ring_27 rfl bp_m2 ?_
    exact mm_iret rfl dX7_ring_29
  · refine mm_iload_n (q := 12) dX7_ring_11 rfl rfl rfl ?_
    refine mm_callSP (as := [.int x2]) (st := []) (q := 15) (fX7_isTwo_ok x2 M1) ms_X7_155 rfl (Nat.le_of_ble_eq_true rfl) (Nat.le_of_ble_eq_true rfl) rfl dX7_ring_12 rfl (fun b4 _ => ?_)
    refine mm_if_eq (q := 18) (tgt := 27) dX7_ring_15 rfl (by decide) (fun c5 => ?_) (fun c5 => ?_)
    · refine mm_bipush (q := 29) dX7_ring_27 rfl bp_m2 ?_
      exact mm_iret rfl dX7_ring_29
    · refine mm_aload_n (q := 19) dX7_ring_18 rfl rfl rfl ?_
      refine mm_iload_n (q := 20) dX7_ring_19 rfl rfl rfl ?_
      refine mm_iload_n (q := 21) dX7_ring_20 rfl rfl rfl ?_
      refine mm_callVI (as := [.int x1, .int x2]) (st := []) (q := 24) lr_0 rfl (fX7_ringOf_ok x1 x2 M1) ms_X7_248 rfl (Nat.le_of_ble_eq_true rfl) (Nat.le_of_ble_eq_true rfl) rfl dX7_ring_21 rfl (fun b6 _ => ?_)
      refine mm_goto (tgt := 29) dX7_ring_24 (by decide) ?_
      exact mm_iret rfl dX7_ring_29
def fX7_sheet_L55 (x1 : Int32) (x3 : Int32)  : Nat → Int32 → mm_M → Option (Int32 × mm_M)
  | 0, _, _ => none
  | n + 1, x4, M =>
    if x3 ≤ x4 then
      some (x3, M)
    else
      (mm_wa M 3 240 (((60 : Int32) * x1) + x4) (0 : Int32)).bind fun M9 =>
      fX7_sheet_L55 x1 x3 n (x4 + (1 : Int32)) M9
set_option maxRecDepth 100000 in
set_option maxHeartbeats 4000000 in
theorem fX7_sheet_L55_ok (x1 : Int32) (x3 : Int32)    : ∀ (n : Nat) (x4 : Int32) (M : mm_M), mm_C LR cX7_sheet 5 RX7 (some .int) 2 mm_eI 55 [some (.ref 0), some (.int x1), none, some (.int x3), some (.int x4)] [] M (fX7_sheet_L55 x1 x3 n x4 M) := by
  intro n
  induction n with
  | zero => intro x4 M; exact mm_none
  | succ n ih =>
    intro x4 M
    rw [fX7_sheet_L55]
    refine mm_iload (q := 57) dX7_sheet_55 rfl rfl ?_
    refine mm_iload_n (q := 58) dX7_sheet_57 rfl rfl rfl ?_
    refine mm_icmp_ge (q := 61) (tgt := 80) dX7_sheet_58 rfl (by decide) (fun c8 => ?_) (fun c8 => ?_)
    · refine mm_iload_n (q := 81) dX7_sheet_80 rfl rfl rfl ?_
      exact mm_iret rfl dX7_sheet_81
    · refine mm_aload_n (q := 62) dX7_sheet_61 rfl rfl rfl ?_
      refine mm_getR (q := 65) (k1 := 3) dX7_sheet_62 rfl lr_0 fd_X7_16 rfl ?_
      refine mm_bipush (q := 67) dX7_sheet_65 rfl bp_60 ?_
      refine mm_iload_n (q := 68) dX7_sheet_67 rfl rfl rfl ?_
      refine mm_imul (q := 69) dX7_sheet_68 rfl ?_
      refine mm_iload (q := 71) dX7_sheet_69 rfl rfl ?_
      refine mm_iadd (q := 72) dX7_sheet_71 rfl ?_
      refine mm_iconst (q := 73) dX7_sheet_72 rfl ic_0 ?_
      refine mm_iast (q := 74) dX7_sheet_73 rfl lr_3 (fun M9 _ => ?_)
      refine mm_iinc (q := 77) (ls' := [some (.ref 0), some (.int x1), none, some (.int x3), some (.int (x4 + (1 : Int32)))]) dX7_sheet_74 rfl rfl (ii_1 _) rfl (Nat.le_of_ble_eq_true rfl) rfl ?_
      refine mm_goto (tgt := 55) dX7_sheet_77 (by decide) ?_
      exact ih _ _
def fX7_sheet (x1 : Int32) (x2 : Int32) (x3 : Int32) (M : mm_M) : Option (Int32 × mm_M) :=
  (fX7_isSheet x1).bind fun b1 =>
  if b1 = 0 then
    some ((-2 : Int32), M)
  else
    if (fX7_in ((x2).toInt64) (0 : Int64) (2 : Int64)) = 0 then
      some ((-2 : Int32), M)
    else
      if x3 ≤ (60 : Int32) then
        (if 0 ≤ x3 then
          ((mm_wa M 1 4 x1 x2).bind fun M6 =>
          (mm_wa M6 2 4 x1 x3).bind fun M7 =>
          fX7_sheet_L55 x1 x3 1000 (0 : Int32) M7)
        else
          (fX7_finds (5 : Int32) M).bind fun b10 =>
          some (b10.1, b10.2))
      else
        some ((-2 : Int32), M)
set_option maxRecDepth 100000 in
set_option maxHeartbeats 4000000 in
theorem fX7_sheet_ok (x1 : Int32) (x2 : Int32) (x3 : Int32) (M : mm_M)  : mm_E LR yX7_sheet cX7_sheet 5 (some .int) 2 mm_eI [.ref 0, .int x1, .int x2, .int x3] M (fX7_sheet x1 x2 x3 M) := by
  refine mm_E.of (own := RX7) (ls := [some (.ref 0), some (.int x1), some (.int x2), some (.int x3), none]) (by decide) rfl rfl (Nat.le_of_ble_eq_true rfl) ?_
  unfold fX7_sheet
  refine mm_iload_n (q := 1) dX7_sheet_0 rfl rfl rfl ?_
  refine mm_callSP (as := [.int x1]) (st := []) (q := 4) (fX7_isSheet_ok x1 M) ms_X7_85 rfl (Nat.le_of_ble_eq_true rfl) (Nat.le_of_ble_eq_true rfl) rfl dX7_sheet_1 rfl (fun b1 _ => ?_)
  refine mm_if_eq (q := 7) (tgt := 25) dX7_sheet_4 rfl (by decide) (fun c2 => ?_) (fun c2 => ?_)
  · refine mm_bipush (q := 27) dX7_sheet_25 rfl bp_m2 ?_
    exact mm_iret rfl dX7_sheet_27
  · refine mm_iload_n (q := 8) dX7_sheet_7 rfl rfl rfl ?_
    refine mm_i2l (q := 9) dX7_sheet_8 rfl ?_
    refine mm_lconst (q := 10) dX7_sheet_9 rfl lk_0 ?_
    refine mm_ldc2 (q := 13) dX7_sheet_10 rfl cn_X7_89 ?_
    refine mm_callST (as := [.long ((x2).toInt64), .long (0 : Int64), .long (2 : Int64)]) (st := []) (q := 16) (fX7_in_ok ((x2).toInt64) (0 : Int64) (2 : Int64) M) ms_X7_76 rfl (Nat.le_of_ble_eq_true rfl) (Nat.le_of_ble_eq_true rfl) rfl dX7_sheet_13 rfl ?_
    refine mm_if_eq (q := 19) (tgt := 25) dX7_sheet_16 rfl (by decide) (fun c3 => ?_) (fun c3 => ?_)
    · refine mm_bipush (q := 27) dX7_sheet_25 rfl bp_m2 ?_
      exact mm_iret rfl dX7_sheet_27
    · refine mm_iload_n (q := 20) dX7_sheet_19 rfl rfl rfl ?_
      refine mm_bipush (q := 22) dX7_sheet_20 rfl bp_60 ?_
      refine mm_icmp_le (q := 25) (tgt := 28) dX7_sheet_22 rfl (by decide) (fun c4 => ?_) (fun c4 => ?_)
      · refine mm_iload_n (q := 29) dX7_sheet_28 rfl rfl rfl ?_
        refine mm_if_ge (q := 32) (tgt := 38) dX7_sheet_29 rfl (by decide) (fun c5 => ?_) (fun c5 => ?_)
        · refine mm_aload_n (q := 39) dX7_sheet_38 rfl rfl rfl ?_
          refine mm_getR (q := 42) (k1 := 1) dX7_sheet_39 rfl lr_0 fd_X7_7 rfl ?_
          refine mm_iload_n (q := 43) dX7_sheet_42 rfl rfl rfl ?_
          refine mm_iload_n (q := 44) dX7_sheet_43 rfl rfl rfl ?_
          refine mm_iast (q := 45) dX7_sheet_44 rfl lr_1 (fun M6 _ => ?_)
          refine mm_aload_n (q := 46) dX7_sheet_45 rfl rfl rfl ?_
          refine mm_getR (q := 49) (k1 := 2) dX7_sheet_46 rfl lr_0 fd_X7_13 rfl ?_
          refine mm_iload_n (q := 50) dX7_sheet_49 rfl rfl rfl ?_
          refine mm_iload_n (q := 51) dX7_sheet_50 rfl rfl rfl ?_
          refine mm_iast (q := 52) dX7_sheet_51 rfl lr_2 (fun M7 _ => ?_)
          refine mm_iconst (q := 53) dX7_sheet_52 rfl ic_0 ?_
          refine mm_istore (q := 55) (ls' := [some (.ref 0), some (.int x1), some (.int x2), some (.int x3), some (.int (0 : Int32))]) dX7_sheet_53 rfl rfl (Nat.le_of_ble_eq_true rfl) rfl ?_
          refine mm_drop (ls' := [some (.ref 0), some (.int x1), none, some (.int x3), some (.int (0 : Int32))]) (mm_sub_at _ _ (And.intro rfl (And.intro rfl (And.intro rfl (And.intro rfl trivial))))) ?_
          exact fX7_sheet_L55_ok x1 x3 _ _ _
        · refine mm_aload_n (q := 33) dX7_sheet_32 rfl rfl rfl ?_
          refine mm_iconst (q := 34) dX7_sheet_33 rfl ic_5 ?_
          refine mm_callVI (as := [.int (5 : Int32)]) (st := []) (q := 37) lr_0 rfl (fX7_finds_ok (5 : Int32) M) ms_X7_91 rfl (Nat.le_of_ble_eq_true rfl) (Nat.le_of_ble_eq_true rfl) rfl dX7_sheet_34 rfl (fun b10 _ => ?_)
          exact mm_iret rfl dX7_sheet_37
      · refine mm_bipush (q := 27) dX7_sheet_25 rfl bp_m2 ?_
        exact mm_iret rfl dX7_sheet_27
def fX7_silent  (M : mm_M) : Option (Int32 × mm_M) :=
  (fX7_find M).bind fun M1 =>
  (fX7_silentNow M1).bind fun b2 =>
  some (b2, M1)
set_option maxRecDepth 100000 in
set_option maxHeartbeats 4000000 in
theorem fX7_silent_ok  (M : mm_M)  : mm_E LR yX7_silent cX7_silent 1 (some .int) 7 mm_eI [.ref 0] M (fX7_silent M) := by
  refine mm_E.of (own := RX7) (ls := [some (.ref 0)]) (by decide) rfl rfl (Nat.le_of_ble_eq_true rfl) ?_
  unfold fX7_silent
  refine mm_aload_n (q := 1) dX7_silent_0 rfl rfl rfl ?_
  refine mm_callVV (as := []) (st := []) (q := 4) lr_0 rfl (fX7_find_ok M) ms_X7_221 rfl (Nat.le_of_ble_eq_true rfl) (Nat.le_of_ble_eq_true rfl) rfl dX7_silent_1 rfl (fun M1 _ => ?_)
  refine mm_aload_n (q := 5) dX7_silent_4 rfl rfl rfl ?_
  refine mm_callVP (as := []) (st := []) (q := 8) lr_0 rfl (fX7_silentNow_ok M1) ms_X7_251 rfl (Nat.le_of_ble_eq_true rfl) (Nat.le_of_ble_eq_true rfl) rfl dX7_silent_5 rfl (fun b2 _ => ?_)
  exact mm_iret rfl dX7_silent_8
def fX7_sort (x1 : Int32) (M : mm_M) : Option (Int32 × mm_M) :=
  (fX7_find M).bind fun M1 =>
  (fX7_isPerson x1 M1).bind fun b2 =>
  if b2 = 0 then
    some ((-2 : Int32), M1)
  else
    (fX7_sortOf x1 M1).bind fun b4 =>
    some (b4.1, b4.2)
set_option maxRecDepth 100000 in
set_option maxHeartbeats 4000000 in
theorem fX7_sort_ok (x1 : Int32) (M : mm_M)  : mm_E LR yX7_sort cX7_sort 2 (some .int) 8 mm_eI [.ref 0, .int x1] M (fX7_sort x1 M) := by
  refine mm_E.of (own := RX7) (ls := [some (.ref 0), some (.int x1)]) (by decide) rfl rfl (Nat.le_of_ble_eq_true rfl) ?_
  unfold fX7_sort
  refine mm_aload_n (q := 1) dX7_sort_0 rfl rfl rfl ?_
  refine mm_callVV (as := []) (st := []) (q := 4) lr_0 rfl (fX7_find_ok M) ms_X7_221 rfl (Nat.le_of_ble_eq_true rfl) (Nat.le_of_ble_eq_true rfl) rfl dX7_sort_1 rfl (fun M1 _ => ?_)
  refine mm_aload_n (q := 5) dX7_sort_4 rfl rfl rfl ?_
  refine mm_iload_n (q := 6) dX7_sort_5 rfl rfl rfl ?_
  refine mm_callVP (as := [.int x1]) (st := []) (q := 9) lr_0 rfl (fX7_isPerson_ok x1 M1) ms_X7_152 rfl (Nat.le_of_ble_eq_true rfl) (Nat.le_of_ble_eq_true rfl) rfl dX7_sort_6 rfl (fun b2 _ => ?_)
  refine mm_if_eq (q := 12) (tgt := 20) dX7_sort_9 rfl (by decide) (fun c3 => ?_) (fun c3 => ?_)
  · refine mm_bipush (q := 22) dX7_sort_20 rfl bp_m2 ?_
    exact mm_iret rfl dX7_sort_22
  · refine mm_aload_n (q := 13) dX7_sort_12 rfl rfl rfl ?_
    refine mm_iload_n (q := 14) dX7_sort_13 rfl rfl rfl ?_
    refine mm_callVI (as := [.int x1]) (st := []) (q := 17) lr_0 rfl (fX7_sortOf_ok x1 M1) ms_X7_289 rfl (Nat.le_of_ble_eq_true rfl) (Nat.le_of_ble_eq_true rfl) rfl dX7_sort_14 rfl (fun b4 _ => ?_)
    refine mm_goto (tgt := 22) dX7_sort_17 (by decide) ?_
    exact mm_iret rfl dX7_sort_22
def fX7_spare (x1 : Int32) (M : mm_M) : Option (Int32 × mm_M) :=
  (fX7_find M).bind fun M1 =>
  if (fX7_in ((x1).toInt64) (-1 : Int64) (1 : Int64)) = 0 then
    some ((-2 : Int32), M1)
  else
    (fX7_spareBy x1 M1).bind fun b3 =>
    some (b3.1, b3.2)
set_option maxRecDepth 100000 in
set_option maxHeartbeats 4000000 in
theorem fX7_spare_ok (x1 : Int32) (M : mm_M)  : mm_E LR yX7_spare cX7_spare 2 (some .int) 8 mm_eI [.ref 0, .int x1] M (fX7_spare x1 M) := by
  refine mm_E.of (own := RX7) (ls := [some (.ref 0), some (.int x1)]) (by decide) rfl rfl (Nat.le_of_ble_eq_true rfl) ?_
  unfold fX7_spare
  refine mm_aload_n (q := 1) dX7_spare_0 rfl rfl rfl ?_
  refine mm_callVV (as := []) (st := []) (q := 4) lr_0 rfl (fX7_find_ok M) ms_X7_221 rfl (Nat.le_of_ble_eq_true rfl) (Nat.le_of_ble_eq_true rfl) rfl dX7_spare_1 rfl (fun M1 _ => ?_)
  refine mm_iload_n (q := 5) dX7_spare_4 rfl rfl rfl ?_
  refine mm_i2l (q := 6) dX7_spare_5 rfl ?_
  refine mm_ldc2 (q := 9) dX7_spare_6 rfl cn_X7_272 ?_
  refine mm_lconst (q := 10) dX7_spare_9 rfl lk_1 ?_
  refine mm_callST (as := [.long ((x1).toInt64), .long (-1 : Int64), .long (1 : Int64)]) (st := []) (q := 13) (fX7_in_ok ((x1).toInt64) (-1 : Int64) (1 : Int64) M1) ms_X7_76 rfl (Nat.le_of_ble_eq_true rfl) (Nat.le_of_ble_eq_true rfl) rfl dX7_spare_10 rfl ?_
  refine mm_if_eq (q := 16) (tgt := 24) dX7_spare_13 rfl (by decide) (fun c2 => ?_) (fun c2 => ?_)
  · refine mm_bipush (q := 26) dX7_spare_24 rfl bp_m2 ?_
    exact mm_iret rfl dX7_spare_26
  · refine mm_aload_n (q := 17) dX7_spare_16 rfl rfl rfl ?_
    refine mm_iload_n (q := 18) dX7_spare_17 rfl rfl rfl ?_
    refine mm_callVI (as := [.int x1]) (st := []) (q := 21) lr_0 rfl (fX7_spareBy_ok x1 M1) ms_X7_274 rfl (Nat.le_of_ble_eq_true rfl) (Nat.le_of_ble_eq_true rfl) rfl dX7_spare_18 rfl (fun b3 _ => ?_)
    refine mm_goto (tgt := 26) dX7_spare_21 (by decide) ?_
    exact mm_iret rfl dX7_spare_26
def fX7_standsBy (x1 : Int32) (x2 : Int32) (x3 : Int32) (M : mm_M) : Option (Int32) :=
  if x3 = 0 then
    ((mm_rd M 15 288 (((12 : Int32) * x1) + x2)).bind fun b2 =>
    some b2)
  else
    (mm_rd M 16 288 (((12 : Int32) * x1) + x2)).bind fun b3 =>
    some b3
set_option maxRecDepth 100000 in
set_option maxHeartbeats 4000000 in
theorem fX7_standsBy_ok (x1 : Int32) (x2 : Int32) (x3 : Int32) (M : mm_M)  : mm_E LR yX7_standsBy cX7_standsBy 4 (some .int) 0 (mm_pI M) [.ref 0, .int x1, .int x2, .int x3] M (fX7_standsBy x1 x2 x3 M) := by
  refine mm_E.of (own := RX7) (ls := [some (.ref 0), some (.int x1), some (.int x2), some (.int x3)]) (by decide) rfl rfl (Nat.le_of_ble_eq_true rfl) ?_
  unfold fX7_standsBy
  refine mm_iload_n (q := 1) dX7_standsBy_0 rfl rfl rfl ?_
  refine mm_if_ne (q := 4) (tgt := 18) dX7_standsBy_1 rfl (by decide) (fun c1 => ?_) (fun c1 => ?_)
  · refine mm_aload_n (q := 5) dX7_standsBy_4 rfl rfl rfl ?_
    refine mm_getR (q := 8) (k1 := 15) dX7_standsBy_5 rfl lr_0 fd_X7_52 rfl ?_
    refine mm_bipush (q := 10) dX7_standsBy_8 rfl bp_12 ?_
    refine mm_iload_n (q := 11) dX7_standsBy_10 rfl rfl rfl ?_
    refine mm_imul (q := 12) dX7_standsBy_11 rfl ?_
    refine mm_iload_n (q := 13) dX7_standsBy_12 rfl rfl rfl ?_
    refine mm_iadd (q := 14) dX7_standsBy_13 rfl ?_
    refine mm_iald (q := 15) dX7_standsBy_14 rfl lr_15 (fun b2 _ => ?_)
    refine mm_goto (tgt := 29) dX7_standsBy_15 (by decide) ?_
    exact mm_iret rfl dX7_standsBy_29
  · refine mm_aload_n (q := 19) dX7_standsBy_18 rfl rfl rfl ?_
    refine mm_getR (q := 22) (k1 := 16) dX7_standsBy_19 rfl lr_0 fd_X7_55 rfl ?_
    refine mm_bipush (q := 24) dX7_standsBy_22 rfl bp_12 ?_
    refine mm_iload_n (q := 25) dX7_standsBy_24 rfl rfl rfl ?_
    refine mm_imul (q := 26) dX7_standsBy_25 rfl ?_
    refine mm_iload_n (q := 27) dX7_standsBy_26 rfl rfl rfl ?_
    refine mm_iadd (q := 28) dX7_standsBy_27 rfl ?_
    refine mm_iald (q := 29) dX7_standsBy_28 rfl lr_16 (fun b3 _ => ?_)
    exact mm_iret rfl dX7_standsBy_29
def fX7_stands (x1 : Int32) (x2 : Int32) (x3 : Int32) (M : mm_M) : Option (Int32 × mm_M) :=
  (fX7_find M).bind fun M1 =>
  (fX7_isDay x1).bind fun b2 =>
  if b2 = 0 then
    some ((-2 : Int32), M1)
  else
    (fX7_isWord x2 M1).bind fun b4 =>
    if b4 = 0 then
      some ((-2 : Int32), M1)
    else
      (fX7_isTwo x3).bind fun b6 =>
      if b6 = 0 then
        some ((-2 : Int32), M1)
      else
        (fX7_standsBy x1 x2 x3 M1).bind fun b8 =>
        some (b8, M1)
set_option maxRecDepth 100000 in
set_option maxHeartbeats 4000000 in
theorem fX7_stands_ok (x1 : Int32) (x2 : Int32) (x3 : Int32) (M : mm_M)  : mm_E LR yX7_stands cX7_stands 4 (some .int) 7 mm_eI [.ref 0, .int x1, .int x2, .int x3] M (fX7_stands x1 x2 x3 M) := by
  refine mm_E.of (own := RX7) (ls := [some (.ref 0), some (.int x1), some (.int x2), some (.int x3)]) (by decide) rfl rfl (Nat.le_of_ble_eq_true rfl) ?_
  unfold fX7_stands
  refine mm_aload_n (q := 1) dX7_stands_0 rfl rfl rfl ?_
  refine mm_callVV (as := []) (st := []) (q := 4) lr_0 rfl (fX7_find_ok M) ms_X7_221 rfl (Nat.le_of_ble_eq_true rfl) (Nat.le_of_ble_eq_true rfl) rfl dX7_stands_1 rfl (fun M1 _ => ?_)
  refine mm_iload_n (q := 5) dX7_stands_4 rfl rfl rfl ?_
  refine mm_callSP (as := [.int x1]) (st := []) (q := 8) (fX7_isDay_ok x1 M1) ms_X7_166 rfl (Nat.le_of_ble_eq_true rfl) (Nat.le_of_ble_eq_true rfl) rfl dX7_stands_5 rfl (fun b2 _ => ?_)
  refine mm_if_eq (q := 11) (tgt := 36) dX7_stands_8 rfl (by decide) (fun c3 => ?_) (fun c3 => ?_)
  · refine mm_bipush (q := 38) dX7_stands_36 rfl bp_m2 ?_
    exact mm_iret rfl dX7_stands_38
  · refine mm_aload_n (q := 12) dX7_stands_11 rfl rfl rfl ?_
    refine mm_iload_n (q := 13) dX7_stands_12 rfl rfl rfl ?_
    refine mm_callVP (as := [.int x2]) (st := []) (q := 16) lr_0 rfl (fX7_isWord_ok x2 M1) ms_X7_158 rfl (Nat.le_of_ble_eq_true rfl) (Nat.le_of_ble_eq_true rfl) rfl dX7_stands_13 rfl (fun b4 _ => ?_)
    refine mm_if_eq (q := 19) (tgt := 36) dX7_stands_16 rfl (by decide) (fun c5 => ?_) (fun c5 => ?_)
    · refine mm_bipush (q := 38) dX7_stands_36 rfl bp_m2 ?_
      exact mm_iret rfl dX7_stands_38
    · refine mm_iload_n (q := 20) dX7_stands_19 rfl rfl rfl ?_
      refine mm_callSP (as := [.int x3]) (st := []) (q := 23) (fX7_isTwo_ok x3 M1) ms_X7_155 rfl (Nat.le_of_ble_eq_true rfl) (Nat.le_of_ble_eq_true rfl) rfl dX7_stands_20 rfl (fun b6 _ => ?_)
      refine mm_if_eq (q := 26) (tgt := 36) dX7_stands_23 rfl (by decide) (fun c7 => ?_) (fun c7 => ?_)
      · refine mm_bipush (q := 38) dX7_stands_36 rfl bp_m2 ?_
        exact mm_iret rfl dX7_stands_38
      · refine mm_aload_n (q := 27) dX7_stands_26 rfl rfl rfl ?_
        refine mm_iload_n (q := 28) dX7_stands_27 rfl rfl rfl ?_
        refine mm_iload_n (q := 29) dX7_stands_28 rfl rfl rfl ?_
        refine mm_iload_n (q := 30) dX7_stands_29 rfl rfl rfl ?_
        refine mm_callVP (as := [.int x1, .int x2, .int x3]) (st := []) (q := 33) lr_0 rfl (fX7_standsBy_ok x1 x2 x3 M1) ms_X7_224 rfl (Nat.le_of_ble_eq_true rfl) (Nat.le_of_ble_eq_true rfl) rfl dX7_stands_30 rfl (fun b8 _ => ?_)
        refine mm_goto (tgt := 38) dX7_stands_33 (by decide) ?_
        exact mm_iret rfl dX7_stands_38
def fX7_tally (x1 : Int32) (x2 : Int32) (x3 : Int32) (M : mm_M) : Option (Int32 × mm_M) :=
  (fX7_isDay x1).bind fun b1 =>
  if b1 = 0 then
    some ((-2 : Int32), M)
  else
    if (fX7_in ((x2).toInt64) (0 : Int64) (11 : Int64)) = 0 then
      some ((-2 : Int32), M)
    else
      if (fX7_in ((x3).toInt64) (0 : Int64) (9 : Int64)) = 0 then
        some ((-2 : Int32), M)
      else
        if (M 0 27) = (8 : Int32) then
          some ((-4 : Int32), M)
        else
          (mm_wa M 19 24 ((3 : Int32) * (M 0 27)) x1).bind fun M6 =>
          (mm_wa M6 19 24 (((3 : Int32) * (M6 0 27)) + (1 : Int32)) x2).bind fun M7 =>
          (mm_wa M7 19 24 (((3 : Int32) * (M7 0 27)) + (2 : Int32)) x3).bind fun M8 =>
          (mm_pf M8 0 27 ((M8 0 27) + (1 : Int32))).bind fun M9 =>
          some (M9 0 27, M9)
set_option maxRecDepth 100000 in
set_option maxHeartbeats 4000000 in
theorem fX7_tally_ok (x1 : Int32) (x2 : Int32) (x3 : Int32) (M : mm_M)  : mm_E LR yX7_tally cX7_tally 4 (some .int) 2 mm_eI [.ref 0, .int x1, .int x2, .int x3] M (fX7_tally x1 x2 x3 M) := by
  refine mm_E.of (own := RX7) (ls := [some (.ref 0), some (.int x1), some (.int x2), some (.int x3)]) (by decide) rfl rfl (Nat.le_of_ble_eq_true rfl) ?_
  unfold fX7_tally
  refine mm_iload_n (q := 1) dX7_tally_0 rfl rfl rfl ?_
  refine mm_callSP (as := [.int x1]) (st := []) (q := 4) (fX7_isDay_ok x1 M) ms_X7_166 rfl (Nat.le_of_ble_eq_true rfl) (Nat.le_of_ble_eq_true rfl) rfl dX7_tally_1 rfl (fun b1 _ => ?_)
  refine mm_if_eq (q := 7) (tgt := 31) dX7_tally_4 rfl (by decide) (fun c2 => ?_) (fun c2 => ?_)
  · refine mm_bipush (q := 33) dX7_tally_31 rfl bp_m2 ?_
    exact mm_iret rfl dX7_tally_33
  · refine mm_iload_n (q := 8) dX7_tally_7 rfl rfl rfl ?_
    refine mm_i2l (q := 9) dX7_tally_8 rfl ?_
    refine mm_lconst (q := 10) dX7_tally_9 rfl lk_0 ?_
    refine mm_ldc2 (q := 13) dX7_tally_10 rfl cn_X7_161 ?_
    refine mm_callST (as := [.long ((x2).toInt64), .long (0 : Int64), .long (11 : Int64)]) (st := []) (q := 16) (fX7_in_ok ((x2).toInt64) (0 : Int64) (11 : Int64) M) ms_X7_76 rfl (Nat.le_of_ble_eq_true rfl) (Nat.le_of_ble_eq_true rfl) rfl dX7_tally_13 rfl ?_
    refine mm_if_eq (q := 19) (tgt := 31) dX7_tally_16 rfl (by decide) (fun c3 => ?_) (fun c3 => ?_)
    · refine mm_bipush (q := 33) dX7_tally_31 rfl bp_m2 ?_
      exact mm_iret rfl dX7_tally_33
    · refine mm_iload_n (q := 20) dX7_tally_19 rfl rfl rfl ?_
      refine mm_i2l (q := 21) dX7_tally_20 rfl ?_
      refine mm_lconst (q := 22) dX7_tally_21 rfl lk_0 ?_
      refine mm_ldc2 (q := 25) dX7_tally_22 rfl cn_X7_277 ?_
      refine mm_callST (as := [.long ((x3).toInt64), .long (0 : Int64), .long (9 : Int64)]) (st := []) (q := 28) (fX7_in_ok ((x3).toInt64) (0 : Int64) (9 : Int64) M) ms_X7_76 rfl (Nat.le_of_ble_eq_true rfl) (Nat.le_of_ble_eq_true rfl) rfl dX7_tally_25 rfl ?_
      refine mm_if_ne (q := 31) (tgt := 34) dX7_tally_28 rfl (by decide) (fun c4 => ?_) (fun c4 => ?_)
      · refine mm_bipush (q := 33) dX7_tally_31 rfl bp_m2 ?_
        exact mm_iret rfl dX7_tally_33
      · refine mm_aload_n (q := 35) dX7_tally_34 rfl rfl rfl ?_
        refine mm_getI (q := 38) dX7_tally_35 rfl lr_0 fd_X7_279 rfl ?_
        refine mm_bipush (q := 40) dX7_tally_38 rfl bp_8 ?_
        refine mm_icmp_ne (q := 43) (tgt := 46) dX7_tally_40 rfl (by decide) (fun c5 => ?_) (fun c5 => ?_)
        · refine mm_bipush (q := 45) dX7_tally_43 rfl bp_m4 ?_
          exact mm_iret rfl dX7_tally_45
        · refine mm_aload_n (q := 47) dX7_tally_46 rfl rfl rfl ?_
          refine mm_getR (q := 50) (k1 := 19) dX7_tally_47 rfl lr_0 fd_X7_64 rfl ?_
          refine mm_iconst (q := 51) dX7_tally_50 rfl ic_3 ?_
          refine mm_aload_n (q := 52) dX7_tally_51 rfl rfl rfl ?_
          refine mm_getI (q := 55) dX7_tally_52 rfl lr_0 fd_X7_279 rfl ?_
          refine mm_imul (q := 56) dX7_tally_55 rfl ?_
          refine mm_iload_n (q := 57) dX7_tally_56 rfl rfl rfl ?_
          refine mm_iast (q := 58) dX7_tally_57 rfl lr_19 (fun M6 _ => ?_)
          refine mm_aload_n (q := 59) dX7_tally_58 rfl rfl rfl ?_
          refine mm_getR (q := 62) (k1 := 19) dX7_tally_59 rfl lr_0 fd_X7_64 rfl ?_
          refine mm_iconst (q := 63) dX7_tally_62 rfl ic_3 ?_
          refine mm_aload_n (q := 64) dX7_tally_63 rfl rfl rfl ?_
          refine mm_getI (q := 67) dX7_tally_64 rfl lr_0 fd_X7_279 rfl ?_
          refine mm_imul (q := 68) dX7_tally_67 rfl ?_
          refine mm_iconst (q := 69) dX7_tally_68 rfl ic_1 ?_
          refine mm_iadd (q := 70) dX7_tally_69 rfl ?_
          refine mm_iload_n (q := 71) dX7_tally_70 rfl rfl rfl ?_
          refine mm_iast (q := 72) dX7_tally_71 rfl lr_19 (fun M7 _ => ?_)
          refine mm_aload_n (q := 73) dX7_tally_72 rfl rfl rfl ?_
          refine mm_getR (q := 76) (k1 := 19) dX7_tally_73 rfl lr_0 fd_X7_64 rfl ?_
          refine mm_iconst (q := 77) dX7_tally_76 rfl ic_3 ?_
          refine mm_aload_n (q := 78) dX7_tally_77 rfl rfl rfl ?_
          refine mm_getI (q := 81) dX7_tally_78 rfl lr_0 fd_X7_279 rfl ?_
          refine mm_imul (q := 82) dX7_tally_81 rfl ?_
          refine mm_iconst (q := 83) dX7_tally_82 rfl ic_2 ?_
          refine mm_iadd (q := 84) dX7_tally_83 rfl ?_
          refine mm_iload_n (q := 85) dX7_tally_84 rfl rfl rfl ?_
          refine mm_iast (q := 86) dX7_tally_85 rfl lr_19 (fun M8 _ => ?_)
          refine mm_aload_n (q := 87) dX7_tally_86 rfl rfl rfl ?_
          refine mm_dup (q := 88) dX7_tally_87 rfl rfl ?_
          refine mm_getI (q := 91) dX7_tally_88 rfl lr_0 fd_X7_279 rfl ?_
          refine mm_iconst (q := 92) dX7_tally_91 rfl ic_1 ?_
          refine mm_iadd (q := 93) dX7_tally_92 rfl ?_
          refine mm_put (q := 96) dX7_tally_93 rfl lr_0 fd_X7_279 ps_X7_27 rfl rfl rfl (fun M9 _ => ?_)
          refine mm_aload_n (q := 97) dX7_tally_96 rfl rfl rfl ?_
          refine mm_getI (q := 100) dX7_tally_97 rfl lr_0 fd_X7_279 rfl ?_
          exact mm_iret rfl dX7_tally_100
def fX7_type_J39 (x1 : Int32) (x2 : Int32) (s0 : Int32) (s1 : Int32)  (M : mm_M) : Option (Int32 × mm_M) :=
  if s1 = s0 then
    some ((-4 : Int32), M)
  else
    (mm_rd M 6 3 x1).bind fun b7 =>
    (mm_wa M 5 144 (((48 : Int32) * x1) + b7) x2).bind fun M8 =>
    (mm_rd M8 6 3 x1).bind fun b9 =>
    (mm_wa M8 6 3 x1 (b9 + (1 : Int32))).bind fun M10 =>
    (mm_rd M10 6 3 x1).bind fun b11 =>
    some (b11, M10)
set_option maxRecDepth 100000 in
set_option maxHeartbeats 4000000 in
theorem fX7_type_J39_ok (x1 : Int32) (x2 : Int32) (s0 : Int32) (s1 : Int32)  (M : mm_M)    : mm_C LR cX7_type 3 RX7 (some .int) 2 mm_eI 39 [some (.ref 0), some (.int x1), some (.int x2)] [.int s0, .int s1] M (fX7_type_J39 x1 x2 s0 s1 M) := by
  unfold fX7_type_J39
  refine mm_icmp_ne (q := 42) (tgt := 45) dX7_type_39 rfl (by decide) (fun c6 => ?_) (fun c6 => ?_)
  · refine mm_bipush (q := 44) dX7_type_42 rfl bp_m4 ?_
    exact mm_iret rfl dX7_type_44
  · refine mm_aload_n (q := 46) dX7_type_45 rfl rfl rfl ?_
    refine mm_getR (q := 49) (k1 := 5) dX7_type_46 rfl lr_0 fd_X7_22 rfl ?_
    refine mm_bipush (q := 51) dX7_type_49 rfl bp_48 ?_
    refine mm_iload_n (q := 52) dX7_type_51 rfl rfl rfl ?_
    refine mm_imul (q := 53) dX7_type_52 rfl ?_
    refine mm_aload_n (q := 54) dX7_type_53 rfl rfl rfl ?_
    refine mm_getR (q := 57) (k1 := 6) dX7_type_54 rfl lr_0 fd_X7_25 rfl ?_
    refine mm_iload_n (q := 58) dX7_type_57 rfl rfl rfl ?_
    refine mm_iald (q := 59) dX7_type_58 rfl lr_6 (fun b7 _ => ?_)
    refine mm_iadd (q := 60) dX7_type_59 rfl ?_
    refine mm_iload_n (q := 61) dX7_type_60 rfl rfl rfl ?_
    refine mm_iast (q := 62) dX7_type_61 rfl lr_5 (fun M8 _ => ?_)
    refine mm_aload_n (q := 63) dX7_type_62 rfl rfl rfl ?_
    refine mm_getR (q := 66) (k1 := 6) dX7_type_63 rfl lr_0 fd_X7_25 rfl ?_
    refine mm_iload_n (q := 67) dX7_type_66 rfl rfl rfl ?_
    refine mm_dup2 (q := 68) dX7_type_67 rfl rfl rfl ?_
    refine mm_iald (q := 69) dX7_type_68 rfl lr_6 (fun b9 _ => ?_)
    refine mm_iconst (q := 70) dX7_type_69 rfl ic_1 ?_
    refine mm_iadd (q := 71) dX7_type_70 rfl ?_
    refine mm_iast (q := 72) dX7_type_71 rfl lr_6 (fun M10 _ => ?_)
    refine mm_aload_n (q := 73) dX7_type_72 rfl rfl rfl ?_
    refine mm_getR (q := 76) (k1 := 6) dX7_type_73 rfl lr_0 fd_X7_25 rfl ?_
    refine mm_iload_n (q := 77) dX7_type_76 rfl rfl rfl ?_
    refine mm_iald (q := 78) dX7_type_77 rfl lr_6 (fun b11 _ => ?_)
    exact mm_iret rfl dX7_type_78
def fX7_type (x1 : Int32) (x2 : Int32) (M : mm_M) : Option (Int32 × mm_M) :=
  (fX7_isText x1).bind fun b1 =>
  if b1 = 0 then
    some ((-2 : Int32), M)
  else
    if (fX7_in ((x2).toInt64) (0 : Int64) (255 : Int64)) = 0 then
      some ((-2 : Int32), M)
    else
      (mm_rd M 6 3 x1).bind fun b4 =>
      fX7_type_J39 x1 x2 (if x1 = 0 then (23 : Int32) else (47 : Int32)) b4 M
set_option maxRecDepth 100000 in
set_option maxHeartbeats 4000000 in
theorem fX7_type_ok (x1 : Int32) (x2 : Int32) (M : mm_M)  : mm_E LR yX7_type cX7_type 3 (some .int) 2 mm_eI [.ref 0, .int x1, .int x2] M (fX7_type x1 x2 M) := by
  refine mm_E.of (own := RX7) (ls := [some (.ref 0), some (.int x1), some (.int x2)]) (by decide) rfl rfl (Nat.le_of_ble_eq_true rfl) ?_
  unfold fX7_type
  refine mm_iload_n (q := 1) dX7_type_0 rfl rfl rfl ?_
  refine mm_callSP (as := [.int x1]) (st := []) (q := 4) (fX7_isText_ok x1 M) ms_X7_104 rfl (Nat.le_of_ble_eq_true rfl) (Nat.le_of_ble_eq_true rfl) rfl dX7_type_1 rfl (fun b1 _ => ?_)
  refine mm_if_eq (q := 7) (tgt := 19) dX7_type_4 rfl (by decide) (fun c2 => ?_) (fun c2 => ?_)
  · refine mm_bipush (q := 21) dX7_type_19 rfl bp_m2 ?_
    exact mm_iret rfl dX7_type_21
  · refine mm_iload_n (q := 8) dX7_type_7 rfl rfl rfl ?_
    refine mm_i2l (q := 9) dX7_type_8 rfl ?_
    refine mm_lconst (q := 10) dX7_type_9 rfl lk_0 ?_
    refine mm_ldc2 (q := 13) dX7_type_10 rfl cn_X7_107 ?_
    refine mm_callST (as := [.long ((x2).toInt64), .long (0 : Int64), .long (255 : Int64)]) (st := []) (q := 16) (fX7_in_ok ((x2).toInt64) (0 : Int64) (255 : Int64) M) ms_X7_76 rfl (Nat.le_of_ble_eq_true rfl) (Nat.le_of_ble_eq_true rfl) rfl dX7_type_13 rfl ?_
    refine mm_if_ne (q := 19) (tgt := 22) dX7_type_16 rfl (by decide) (fun c3 => ?_) (fun c3 => ?_)
    · refine mm_bipush (q := 21) dX7_type_19 rfl bp_m2 ?_
      exact mm_iret rfl dX7_type_21
    · refine mm_aload_n (q := 23) dX7_type_22 rfl rfl rfl ?_
      refine mm_getR (q := 26) (k1 := 6) dX7_type_23 rfl lr_0 fd_X7_25 rfl ?_
      refine mm_iload_n (q := 27) dX7_type_26 rfl rfl rfl ?_
      refine mm_iald (q := 28) dX7_type_27 rfl lr_6 (fun b4 _ => ?_)
      refine mm_iload_n (q := 29) dX7_type_28 rfl rfl rfl ?_
      by_cases c5 : x1 = 0
      · simp only [if_pos c5]
        refine mm_if_ne_t (q := 32) (tgt := 37) c5 dX7_type_29 rfl (by decide) ?_
        refine mm_bipush (q := 34) dX7_type_32 rfl bp_23 ?_
        refine mm_goto (tgt := 39) dX7_type_34 (by decide) ?_
        exact fX7_type_J39_ok _ _ _ _ _
      · simp only [if_neg c5]
        refine mm_if_ne_f (tgt := 37) c5 dX7_type_29 (by decide) ?_
        refine mm_bipush (q := 39) dX7_type_37 rfl bp_47 ?_
        exact fX7_type_J39_ok _ _ _ _ _
def fX7_undo (x1 : Int32) (M : mm_M) : Option (Int32 × mm_M) :=
  (fX7_isText x1).bind fun b1 =>
  if b1 = 0 then
    some ((-2 : Int32), M)
  else
    (mm_rd M 6 3 x1).bind fun b3 =>
    if b3 = 0 then
      some ((-3 : Int32), M)
    else
      (mm_rd M 6 3 x1).bind fun b5 =>
      (mm_wa M 6 3 x1 (b5 - (1 : Int32))).bind fun M6 =>
      (mm_rd M6 6 3 x1).bind fun b7 =>
      some (b7, M6)
set_option maxRecDepth 100000 in
set_option maxHeartbeats 4000000 in
theorem fX7_undo_ok (x1 : Int32) (M : mm_M)  : mm_E LR yX7_undo cX7_undo 2 (some .int) 2 mm_eI [.ref 0, .int x1] M (fX7_undo x1 M) := by
  refine mm_E.of (own := RX7) (ls := [some (.ref 0), some (.int x1)]) (by decide) rfl rfl (Nat.le_of_ble_eq_true rfl) ?_
  unfold fX7_undo
  refine mm_iload_n (q := 1) dX7_undo_0 rfl rfl rfl ?_
  refine mm_callSP (as := [.int x1]) (st := []) (q := 4) (fX7_isText_ok x1 M) ms_X7_104 rfl (Nat.le_of_ble_eq_true rfl) (Nat.le_of_ble_eq_true rfl) rfl dX7_undo_1 rfl (fun b1 _ => ?_)
  refine mm_if_ne (q := 7) (tgt := 10) dX7_undo_4 rfl (by decide) (fun c2 => ?_) (fun c2 => ?_)
  · refine mm_bipush (q := 9) dX7_undo_7 rfl bp_m2 ?_
    exact mm_iret rfl dX7_undo_9
  · refine mm_aload_n (q := 11) dX7_undo_10 rfl rfl rfl ?_
    refine mm_getR (q := 14) (k1 := 6) dX7_undo_11 rfl lr_0 fd_X7_25 rfl ?_
    refine mm_iload_n (q := 15) dX7_undo_14 rfl rfl rfl ?_
    refine mm_iald (q := 16) dX7_undo_15 rfl lr_6 (fun b3 _ => ?_)
    refine mm_if_ne (q := 19) (tgt := 22) dX7_undo_16 rfl (by decide) (fun c4 => ?_) (fun c4 => ?_)
    · refine mm_bipush (q := 21) dX7_undo_19 rfl bp_m3 ?_
      exact mm_iret rfl dX7_undo_21
    · refine mm_aload_n (q := 23) dX7_undo_22 rfl rfl rfl ?_
      refine mm_getR (q := 26) (k1 := 6) dX7_undo_23 rfl lr_0 fd_X7_25 rfl ?_
      refine mm_iload_n (q := 27) dX7_undo_26 rfl rfl rfl ?_
      refine mm_dup2 (q := 28) dX7_undo_27 rfl rfl rfl ?_
      refine mm_iald (q := 29) dX7_undo_28 rfl lr_6 (fun b5 _ => ?_)
      refine mm_iconst (q := 30) dX7_undo_29 rfl ic_1 ?_
      refine mm_isub (q := 31) dX7_undo_30 rfl ?_
      refine mm_iast (q := 32) dX7_undo_31 rfl lr_6 (fun M6 _ => ?_)
      refine mm_aload_n (q := 33) dX7_undo_32 rfl rfl rfl ?_
      refine mm_getR (q := 36) (k1 := 6) dX7_undo_33 rfl lr_0 fd_X7_25 rfl ?_
      refine mm_iload_n (q := 37) dX7_undo_36 rfl rfl rfl ?_
      refine mm_iald (q := 38) dX7_undo_37 rfl lr_6 (fun b7 _ => ?_)
      exact mm_iret rfl dX7_undo_38
def fX7_voice (x1 : Int32) (M : mm_M) : Option (Int32 × mm_M) :=
  (fX7_find M).bind fun M1 =>
  (fX7_isTwo x1).bind fun b2 =>
  if b2 = 0 then
    some ((-2 : Int32), M1)
  else
    (fX7_voiceBy x1 M1).bind fun b4 =>
    some (b4.1, b4.2)
set_option maxRecDepth 100000 in
set_option maxHeartbeats 4000000 in
theorem fX7_voice_ok (x1 : Int32) (M : mm_M)  : mm_E LR yX7_voice cX7_voice 2 (some .int) 7 mm_eI [.ref 0, .int x1] M (fX7_voice x1 M) := by
  refine mm_E.of (own := RX7) (ls := [some (.ref 0), some (.int x1)]) (by decide) rfl rfl (Nat.le_of_ble_eq_true rfl) ?_
  unfold fX7_voice
  refine mm_aload_n (q := 1) dX7_voice_0 rfl rfl rfl ?_
  refine mm_callVV (as := []) (st := []) (q := 4) lr_0 rfl (fX7_find_ok M) ms_X7_221 rfl (Nat.le_of_ble_eq_true rfl) (Nat.le_of_ble_eq_true rfl) rfl dX7_voice_1 rfl (fun M1 _ => ?_)
  refine mm_iload_n (q := 5) dX7_voice_4 rfl rfl rfl ?_
  refine mm_callSP (as := [.int x1]) (st := []) (q := 8) (fX7_isTwo_ok x1 M1) ms_X7_155 rfl (Nat.le_of_ble_eq_true rfl) (Nat.le_of_ble_eq_true rfl) rfl dX7_voice_5 rfl (fun b2 _ => ?_)
  refine mm_if_eq (q := 11) (tgt := 19) dX7_voice_8 rfl (by decide) (fun c3 => ?_) (fun c3 => ?_)
  · refine mm_bipush (q := 21) dX7_voice_19 rfl bp_m2 ?_
    exact mm_iret rfl dX7_voice_21
  · refine mm_aload_n (q := 12) dX7_voice_11 rfl rfl rfl ?_
    refine mm_iload_n (q := 13) dX7_voice_12 rfl rfl rfl ?_
    refine mm_callVI (as := [.int x1]) (st := []) (q := 16) lr_0 rfl (fX7_voiceBy_ok x1 M1) ms_X7_266 rfl (Nat.le_of_ble_eq_true rfl) (Nat.le_of_ble_eq_true rfl) rfl dX7_voice_13 rfl (fun b4 _ => ?_)
    refine mm_goto (tgt := 21) dX7_voice_16 (by decide) ?_
    exact mm_iret rfl dX7_voice_21
def fX7_wipe (x1 : Int32) (M : mm_M) : Option (Int32 × mm_M) :=
  (fX7_isText x1).bind fun b1 =>
  if b1 = 0 then
    some ((-2 : Int32), M)
  else
    (mm_rd M 6 3 x1).bind fun b3 =>
    (mm_wa M 6 3 x1 (0 : Int32)).bind fun M4 =>
    some (b3, M4)
set_option maxRecDepth 100000 in
set_option maxHeartbeats 4000000 in
theorem fX7_wipe_ok (x1 : Int32) (M : mm_M)  : mm_E LR yX7_wipe cX7_wipe 3 (some .int) 2 mm_eI [.ref 0, .int x1] M (fX7_wipe x1 M) := by
  refine mm_E.of (own := RX7) (ls := [some (.ref 0), some (.int x1), none]) (by decide) rfl rfl (Nat.le_of_ble_eq_true rfl) ?_
  unfold fX7_wipe
  refine mm_iload_n (q := 1) dX7_wipe_0 rfl rfl rfl ?_
  refine mm_callSP (as := [.int x1]) (st := []) (q := 4) (fX7_isText_ok x1 M) ms_X7_104 rfl (Nat.le_of_ble_eq_true rfl) (Nat.le_of_ble_eq_true rfl) rfl dX7_wipe_1 rfl (fun b1 _ => ?_)
  refine mm_if_ne (q := 7) (tgt := 10) dX7_wipe_4 rfl (by decide) (fun c2 => ?_) (fun c2 => ?_)
  · refine mm_bipush (q := 9) dX7_wipe_7 rfl bp_m2 ?_
    exact mm_iret rfl dX7_wipe_9
  · refine mm_aload_n (q := 11) dX7_wipe_10 rfl rfl rfl ?_
    refine mm_getR (q := 14) (k1 := 6) dX7_wipe_11 rfl lr_0 fd_X7_25 rfl ?_
    refine mm_iload_n (q := 15) dX7_wipe_14 rfl rfl rfl ?_
    refine mm_iald (q := 16) dX7_wipe_15 rfl lr_6 (fun b3 _ => ?_)
    refine mm_istore_n (q := 17) (ls' := [some (.ref 0), some (.int x1), some (.int b3)]) dX7_wipe_16 rfl rfl rfl (Nat.le_of_ble_eq_true rfl) rfl ?_
    refine mm_aload_n (q := 18) dX7_wipe_17 rfl rfl rfl ?_
    refine mm_getR (q := 21) (k1 := 6) dX7_wipe_18 rfl lr_0 fd_X7_25 rfl ?_
    refine mm_iload_n (q := 22) dX7_wipe_21 rfl rfl rfl ?_
    refine mm_iconst (q := 23) dX7_wipe_22 rfl ic_0 ?_
    refine mm_iast (q := 24) dX7_wipe_23 rfl lr_6 (fun M4 _ => ?_)
    refine mm_iload_n (q := 25) dX7_wipe_24 rfl rfl rfl ?_
    exact mm_iret rfl dX7_wipe_25
def fX7_word (x1 : Int32) (x2 : Int32) (M : mm_M) : Option (Int32 × mm_M) :=
  (fX7_readsWords M).bind fun b1 =>
  (fX7_isWord x1 b1.2).bind fun b2 =>
  if b2 = 0 then
    some ((-2 : Int32), b1.2)
  else
    if (fX7_in ((x2).toInt64) (0 : Int64) (2 : Int64)) = 0 then
      some ((-2 : Int32), b1.2)
    else
      (mm_rd b1.2 8 36 (((3 : Int32) * x1) + x2)).bind fun b5 =>
      some (b5, b1.2)
set_option maxRecDepth 100000 in
set_option maxHeartbeats 4000000 in
theorem fX7_word_ok (x1 : Int32) (x2 : Int32) (M : mm_M)  : mm_E LR yX7_word cX7_word 3 (some .int) 4 mm_eI [.ref 0, .int x1, .int x2] M (fX7_word x1 x2 M) := by
  refine mm_E.of (own := RX7) (ls := [some (.ref 0), some (.int x1), some (.int x2)]) (by decide) rfl rfl (Nat.le_of_ble_eq_true rfl) ?_
  unfold fX7_word
  refine mm_aload_n (q := 1) dX7_word_0 rfl rfl rfl ?_
  refine mm_callVI (as := []) (st := []) (q := 4) lr_0 rfl (fX7_readsWords_ok M) ms_X7_141 rfl (Nat.le_of_ble_eq_true rfl) (Nat.le_of_ble_eq_true rfl) rfl dX7_word_1 rfl (fun b1 _ => ?_)
  refine mm_pop (q := 5) dX7_word_4 rfl rfl ?_
  refine mm_aload_n (q := 6) dX7_word_5 rfl rfl rfl ?_
  refine mm_iload_n (q := 7) dX7_word_6 rfl rfl rfl ?_
  refine mm_callVP (as := [.int x1]) (st := []) (q := 10) lr_0 rfl (fX7_isWord_ok x1 b1.2) ms_X7_158 rfl (Nat.le_of_ble_eq_true rfl) (Nat.le_of_ble_eq_true rfl) rfl dX7_word_7 rfl (fun b2 _ => ?_)
  refine mm_if_eq (q := 13) (tgt := 38) dX7_word_10 rfl (by decide) (fun c3 => ?_) (fun c3 => ?_)
  · refine mm_bipush (q := 40) dX7_word_38 rfl bp_m2 ?_
    exact mm_iret rfl dX7_word_40
  · refine mm_iload_n (q := 14) dX7_word_13 rfl rfl rfl ?_
    refine mm_i2l (q := 15) dX7_word_14 rfl ?_
    refine mm_lconst (q := 16) dX7_word_15 rfl lk_0 ?_
    refine mm_ldc2 (q := 19) dX7_word_16 rfl cn_X7_89 ?_
    refine mm_callST (as := [.long ((x2).toInt64), .long (0 : Int64), .long (2 : Int64)]) (st := []) (q := 22) (fX7_in_ok ((x2).toInt64) (0 : Int64) (2 : Int64) b1.2) ms_X7_76 rfl (Nat.le_of_ble_eq_true rfl) (Nat.le_of_ble_eq_true rfl) rfl dX7_word_19 rfl ?_
    refine mm_if_eq (q := 25) (tgt := 38) dX7_word_22 rfl (by decide) (fun c4 => ?_) (fun c4 => ?_)
    · refine mm_bipush (q := 40) dX7_word_38 rfl bp_m2 ?_
      exact mm_iret rfl dX7_word_40
    · refine mm_aload_n (q := 26) dX7_word_25 rfl rfl rfl ?_
      refine mm_getR (q := 29) (k1 := 8) dX7_word_26 rfl lr_0 fd_X7_31 rfl ?_
      refine mm_iconst (q := 30) dX7_word_29 rfl ic_3 ?_
      refine mm_iload_n (q := 31) dX7_word_30 rfl rfl rfl ?_
      refine mm_imul (q := 32) dX7_word_31 rfl ?_
      refine mm_iload_n (q := 33) dX7_word_32 rfl rfl rfl ?_
      refine mm_iadd (q := 34) dX7_word_33 rfl ?_
      refine mm_iald (q := 35) dX7_word_34 rfl lr_8 (fun b5 _ => ?_)
      refine mm_goto (tgt := 40) dX7_word_35 (by decide) ?_
      exact mm_iret rfl dX7_word_40
def fX7_write_L52 (x1 : Int32) (x2 : Int32) (x3 : Int32)  : Nat → Int32 → mm_M → Option (Int32 × mm_M)
  | 0, _, _ => none
  | n + 1, x4, M =>
    if x3 ≤ x4 then
      some (x3, M)
    else
      (mm_rd M 1 4 x2).bind fun b10 =>
      (mm_rd M 16 288 (((12 : Int32) * x4) + x1)).bind fun b11 =>
      (mm_wa M 3 240 (((60 : Int32) * x2) + x4) (fX7_cut b10 b11)).bind fun M12 =>
      fX7_write_L52 x1 x2 x3 n (x4 + (1 : Int32)) M12
set_option maxRecDepth 100000 in
set_option maxHeartbeats 4000000 in
theorem fX7_write_L52_ok (x1 : Int32) (x2 : Int32) (x3 : Int32)    : ∀ (n : Nat) (x4 : Int32) (M : mm_M), mm_C LR cX7_write 5 RX7 (some .int) 7 mm_eI 52 [some (.ref 0), some (.int x1), some (.int x2), some (.int x3), some (.int x4)] [] M (fX7_write_L52 x1 x2 x3 n x4 M) := by
  intro n
  induction n with
  | zero => intro x4 M; exact mm_none
  | succ n ih =>
    intro x4 M
    rw [fX7_write_L52]
    refine mm_iload (q := 54) dX7_write_52 rfl rfl ?_
    refine mm_iload_n (q := 55) dX7_write_54 rfl rfl rfl ?_
    refine mm_icmp_ge (q := 58) (tgt := 97) dX7_write_55 rfl (by decide) (fun c9 => ?_) (fun c9 => ?_)
    · refine mm_iload_n (q := 98) dX7_write_97 rfl rfl rfl ?_
      exact mm_iret rfl dX7_write_98
    · refine mm_aload_n (q := 59) dX7_write_58 rfl rfl rfl ?_
      refine mm_getR (q := 62) (k1 := 3) dX7_write_59 rfl lr_0 fd_X7_16 rfl ?_
      refine mm_bipush (q := 64) dX7_write_62 rfl bp_60 ?_
      refine mm_iload_n (q := 65) dX7_write_64 rfl rfl rfl ?_
      refine mm_imul (q := 66) dX7_write_65 rfl ?_
      refine mm_iload (q := 68) dX7_write_66 rfl rfl ?_
      refine mm_iadd (q := 69) dX7_write_68 rfl ?_
      refine mm_aload_n (q := 70) dX7_write_69 rfl rfl rfl ?_
      refine mm_getR (q := 73) (k1 := 1) dX7_write_70 rfl lr_0 fd_X7_7 rfl ?_
      refine mm_iload_n (q := 74) dX7_write_73 rfl rfl rfl ?_
      refine mm_iald (q := 75) dX7_write_74 rfl lr_1 (fun b10 _ => ?_)
      refine mm_aload_n (q := 76) dX7_write_75 rfl rfl rfl ?_
      refine mm_getR (q := 79) (k1 := 16) dX7_write_76 rfl lr_0 fd_X7_55 rfl ?_
      refine mm_bipush (q := 81) dX7_write_79 rfl bp_12 ?_
      refine mm_iload (q := 83) dX7_write_81 rfl rfl ?_
      refine mm_imul (q := 84) dX7_write_83 rfl ?_
      refine mm_iload_n (q := 85) dX7_write_84 rfl rfl rfl ?_
      refine mm_iadd (q := 86) dX7_write_85 rfl ?_
      refine mm_iald (q := 87) dX7_write_86 rfl lr_16 (fun b11 _ => ?_)
      refine mm_callST (as := [.int b10, .int b11]) (st := [.int (((60 : Int32) * x2) + x4), .ref 3]) (q := 90) (fX7_cut_ok b10 b11 M) ms_X7_99 rfl (Nat.le_of_ble_eq_true rfl) (Nat.le_of_ble_eq_true rfl) rfl dX7_write_87 rfl ?_
      refine mm_iast (q := 91) dX7_write_90 rfl lr_3 (fun M12 _ => ?_)
      refine mm_iinc (q := 94) (ls' := [some (.ref 0), some (.int x1), some (.int x2), some (.int x3), some (.int (x4 + (1 : Int32)))]) dX7_write_91 rfl rfl (ii_1 _) rfl (Nat.le_of_ble_eq_true rfl) rfl ?_
      refine mm_goto (tgt := 52) dX7_write_94 (by decide) ?_
      exact ih _ _
def fX7_write (x1 : Int32) (x2 : Int32) (M : mm_M) : Option (Int32 × mm_M) :=
  (fX7_find M).bind fun M1 =>
  (fX7_isWord x1 M1).bind fun b2 =>
  if b2 = 0 then
    some ((-2 : Int32), M1)
  else
    (fX7_isSheet x2).bind fun b4 =>
    if b4 = 0 then
      some ((-2 : Int32), M1)
    else
      (mm_rd M1 1 4 x2).bind fun b6 =>
      if 0 ≤ b6 then
        ((mm_rd M1 2 4 x2).bind fun b8 =>
        fX7_write_L52 x1 x2 (fX7_lesser b8 (24 : Int32)) 1000 (0 : Int32) M1)
      else
        (fX7_finds (1 : Int32) M1).bind fun b13 =>
        some (b13.1, b13.2)
set_option maxRecDepth 100000 in
set_option maxHeartbeats 4000000 in
theorem fX7_write_ok (x1 : Int32) (x2 : Int32) (M : mm_M)  : mm_E LR yX7_write cX7_write 5 (some .int) 7 mm_eI [.ref 0, .int x1, .int x2] M (fX7_write x1 x2 M) := by
  refine mm_E.of (own := RX7) (ls := [some (.ref 0), some (.int x1), some (.int x2), none, none]) (by decide) rfl rfl (Nat.le_of_ble_eq_true rfl) ?_
  unfold fX7_write
  refine mm_aload_n (q := 1) dX7_write_0 rfl rfl rfl ?_
  refine mm_callVV (as := []) (st := []) (q := 4) lr_0 rfl (fX7_find_ok M) ms_X7_221 rfl (Nat.le_of_ble_eq_true rfl) (Nat.le_of_ble_eq_true rfl) rfl dX7_write_1 rfl (fun M1 _ => ?_)
  refine mm_aload_n (q := 5) dX7_write_4 rfl rfl rfl ?_
  refine mm_iload_n (q := 6) dX7_write_5 rfl rfl rfl ?_
  refine mm_callVP (as := [.int x1]) (st := []) (q := 9) lr_0 rfl (fX7_isWord_ok x1 M1) ms_X7_158 rfl (Nat.le_of_ble_eq_true rfl) (Nat.le_of_ble_eq_true rfl) rfl dX7_write_6 rfl (fun b2 _ => ?_)
  refine mm_if_eq (q := 12) (tgt := 19) dX7_write_9 rfl (by decide) (fun c3 => ?_) (fun c3 => ?_)
  · refine mm_bipush (q := 21) dX7_write_19 rfl bp_m2 ?_
    exact mm_iret rfl dX7_write_21
  · refine mm_iload_n (q := 13) dX7_write_12 rfl rfl rfl ?_
    refine mm_callSP (as := [.int x2]) (st := []) (q := 16) (fX7_isSheet_ok x2 M1) ms_X7_85 rfl (Nat.le_of_ble_eq_true rfl) (Nat.le_of_ble_eq_true rfl) rfl dX7_write_13 rfl (fun b4 _ => ?_)
    refine mm_if_ne (q := 19) (tgt := 22) dX7_write_16 rfl (by decide) (fun c5 => ?_) (fun c5 => ?_)
    · refine mm_bipush (q := 21) dX7_write_19 rfl bp_m2 ?_
      exact mm_iret rfl dX7_write_21
    · refine mm_aload_n (q := 23) dX7_write_22 rfl rfl rfl ?_
      refine mm_getR (q := 26) (k1 := 1) dX7_write_23 rfl lr_0 fd_X7_7 rfl ?_
      refine mm_iload_n (q := 27) dX7_write_26 rfl rfl rfl ?_
      refine mm_iald (q := 28) dX7_write_27 rfl lr_1 (fun b6 _ => ?_)
      refine mm_if_ge (q := 31) (tgt := 37) dX7_write_28 rfl (by decide) (fun c7 => ?_) (fun c7 => ?_)
      · refine mm_aload_n (q := 38) dX7_write_37 rfl rfl rfl ?_
        refine mm_getR (q := 41) (k1 := 2) dX7_write_38 rfl lr_0 fd_X7_13 rfl ?_
        refine mm_iload_n (q := 42) dX7_write_41 rfl rfl rfl ?_
        refine mm_iald (q := 43) dX7_write_42 rfl lr_2 (fun b8 _ => ?_)
        refine mm_bipush (q := 45) dX7_write_43 rfl bp_24 ?_
        refine mm_callST (as := [.int b8, .int (24 : Int32)]) (st := []) (q := 48) (fX7_lesser_ok b8 (24 : Int32) M1) ms_X7_183 rfl (Nat.le_of_ble_eq_true rfl) (Nat.le_of_ble_eq_true rfl) rfl dX7_write_45 rfl ?_
        refine mm_istore_n (q := 49) (ls' := [some (.ref 0), some (.int x1), some (.int x2), some (.int (fX7_lesser b8 (24 : Int32))), none]) dX7_write_48 rfl rfl rfl (Nat.le_of_ble_eq_true rfl) rfl ?_
        refine mm_iconst (q := 50) dX7_write_49 rfl ic_0 ?_
        refine mm_istore (q := 52) (ls' := [some (.ref 0), some (.int x1), some (.int x2), some (.int (fX7_lesser b8 (24 : Int32))), some (.int (0 : Int32))]) dX7_write_50 rfl rfl (Nat.le_of_ble_eq_true rfl) rfl ?_
        exact fX7_write_L52_ok x1 x2 (fX7_lesser b8 (24 : Int32)) _ _ _
      · refine mm_aload_n (q := 32) dX7_write_31 rfl rfl rfl ?_
        refine mm_iconst (q := 33) dX7_write_32 rfl ic_1 ?_
        refine mm_callVI (as := [.int (1 : Int32)]) (st := []) (q := 36) lr_0 rfl (fX7_finds_ok (1 : Int32) M1) ms_X7_91 rfl (Nat.le_of_ble_eq_true rfl) (Nat.le_of_ble_eq_true rfl) rfl dX7_write_33 rfl (fun b13 _ => ?_)
        exact mm_iret rfl dX7_write_36
