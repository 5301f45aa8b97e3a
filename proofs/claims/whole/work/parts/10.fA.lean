def fJ6_bitCount_0f7a4 (x0 : Int32)  : Int32 :=
  (((((((x0 - ((mm_ushr x0 (1 : Int32)) &&& (1431655765 : Int32))) &&& (858993459 : Int32)) + ((mm_ushr (x0 - ((mm_ushr x0 (1 : Int32)) &&& (1431655765 : Int32))) (2 : Int32)) &&& (858993459 : Int32))) + (mm_ushr (((x0 - ((mm_ushr x0 (1 : Int32)) &&& (1431655765 : Int32))) &&& (858993459 : Int32)) + ((mm_ushr (x0 - ((mm_ushr x0 (1 : Int32)) &&& (1431655765 : Int32))) (2 : Int32)) &&& (858993459 : Int32))) (4 : Int32))) &&& (252645135 : Int32)) + (mm_ushr (((((x0 - ((mm_ushr x0 (1 : Int32)) &&& (1431655765 : Int32))) &&& (858993459 : Int32)) + ((mm_ushr (x0 - ((mm_ushr x0 (1 : Int32)) &&& (1431655765 : Int32))) (2 : Int32)) &&& (858993459 : Int32))) + (mm_ushr (((x0 - ((mm_ushr x0 (1 : Int32)) &&& (1431655765 : Int32))) &&& (858993459 : Int32)) + ((mm_ushr (x0 - ((mm_ushr x0 (1 : Int32)) &&& (1431655765 : Int32))) (2 : Int32)) &&& (858993459 : Int32))) (4 : Int32))) &&& (252645135 : Int32)) (8 : Int32))) + (mm_ushr ((((((x0 - ((mm_ushr x0 (1 : Int32)) &&& (1431655765 : Int32))) &&& (858993459 : Int32)) + ((mm_ushr (x0 - ((mm_ushr x0 (1 : Int32)) &&& (1431655765 : Int32))) (2 : Int32)) &&& (858993459 : Int32))) + (mm_ushr (((x0 - ((mm_ushr x0 (1 : Int32)) &&& (1431655765 : Int32))) &&& (858993459 : Int32)) + ((mm_ushr (x0 - ((mm_ushr x0 (1 : Int32)) &&& (1431655765 : Int32))) (2 : Int32)) &&& (858993459 : Int32))) (4 : Int32))) &&& (252645135 : Int32)) + (mm_ushr (((((x0 - ((mm_ushr x0 (1 : Int32)) &&& (1431655765 : Int32))) &&& (858993459 : Int32)) + ((mm_ushr (x0 - ((mm_ushr x0 (1 : Int32)) &&& (1431655765 : Int32))) (2 : Int32)) &&& (858993459 : Int32))) + (mm_ushr (((x0 - ((mm_ushr x0 (1 : Int32)) &&& (1431655765 : Int32))) &&& (858993459 : Int32)) + ((mm_ushr (x0 - ((mm_ushr x0 (1 : Int32)) &&& (1431655765 : Int32))) (2 : Int32)) &&& (858993459 : Int32))) (4 : Int32))) &&& (252645135 : Int32)) (8 : Int32))) (16 : Int32))) &&& (63 : Int32)
set_option maxRecDepth 100000 in
set_option maxHeartbeats 4000000 in
theorem fJ6_bitCount_0f7a4_ok (x0 : Int32) (M : mm_M)  : mm_E LC yJ6_bitCount_0f7a4 cJ6_bitCount_0f7a4 1 (some .int) 0 (mm_pI M) [.int x0] M (some (fJ6_bitCount_0f7a4 x0)) := by
  refine mm_E.of (own := RJ6) (ls := [some (.int x0)]) (by decide) rfl rfl (Nat.le_of_ble_eq_true rfl) ?_
  unfold fJ6_bitCount_0f7a4
  refine mm_iload_n (q := 1) dJ6_bitCount_0f7a4_0 rfl rfl rfl ?_
  refine mm_iload_n (q := 2) dJ6_bitCount_0f7a4_1 rfl rfl rfl ?_
  refine mm_iconst (q := 3) dJ6_bitCount_0f7a4_2 rfl ic_1 ?_
  refine mm_iushr (q := 4) dJ6_bitCount_0f7a4_3 rfl ?_
  refine mm_ldcw (q := 7) dJ6_bitCount_0f7a4_4 rfl cn_J6_265 ?_
  refine mm_iand (q := 8) dJ6_bitCount_0f7a4_7 rfl ?_
  refine mm_isub (q := 9) dJ6_bitCount_0f7a4_8 rfl ?_
  refine mm_istore_n (q := 10) (ls' := [some (.int (x0 - ((mm_ushr x0 (1 : Int32)) &&& (1431655765 : Int32))))]) dJ6_bitCount_0f7a4_9 rfl rfl rfl (Nat.le_of_ble_eq_true rfl) rfl ?_
  refine mm_iload_n (q := 11) dJ6_bitCount_0f7a4_10 rfl rfl rfl ?_
  refine mm_ldcw (q := 14) dJ6_bitCount_0f7a4_11 rfl cn_J6_266 ?_
  refine mm_iand (q := 15) dJ6_bitCount_0f7a4_14 rfl ?_
  refine mm_iload_n (q := 16) dJ6_bitCount_0f7a4_15 rfl rfl rfl ?_
  refine mm_iconst (q := 17) dJ6_bitCount_0f7a4_16 rfl ic_2 ?_
  refine mm_iushr (q := 18) dJ6_bitCount_0f7a4_17 rfl ?_
  refine mm_ldcw (q := 21) dJ6_bitCount_0f7a4_18 rfl cn_J6_266 ?_
  refine mm_iand (q := 22) dJ6_bitCount_0f7a4_21 rfl ?_
  refine mm_iadd (q := 23) dJ6_bitCount_0f7a4_22 rfl ?_
  refine mm_istore_n (q := 24) (ls' := [some (.int (((x0 - ((mm_ushr x0 (1 : Int32)) &&& (1431655765 : Int32))) &&& (858993459 : Int32)) + ((mm_ushr (x0 - ((mm_ushr x0 (1 : Int32)) &&& (1431655765 : Int32))) (2 : Int32)) &&& (858993459 : Int32))))]) dJ6_bitCount_0f7a4_23 rfl rfl rfl (Nat.le_of_ble_eq_true rfl) rfl ?_
  refine mm_iload_n (q := 25) dJ6_bitCount_0f7a4_24 rfl rfl rfl ?_
  refine mm_iload_n (q := 26) dJ6_bitCount_0f7a4_25 rfl rfl rfl ?_
  refine mm_iconst (q := 27) dJ6_bitCount_0f7a4_26 rfl ic_4 ?_
  refine mm_iushr (q := 28) dJ6_bitCount_0f7a4_27 rfl ?_
  refine mm_iadd (q := 29) dJ6_bitCount_0f7a4_28 rfl ?_
  refine mm_ldcw (q := 32) dJ6_bitCount_0f7a4_29 rfl cn_J6_267 ?_
  refine mm_iand (q := 33) dJ6_bitCount_0f7a4_32 rfl ?_
  refine mm_istore_n (q := 34) (ls' := [some (.int (((((x0 - ((mm_ushr x0 (1 : Int32)) &&& (1431655765 : Int32))) &&& (858993459 : Int32)) + ((mm_ushr (x0 - ((mm_ushr x0 (1 : Int32)) &&& (1431655765 : Int32))) (2 : Int32)) &&& (858993459 : Int32))) + (mm_ushr (((x0 - ((mm_ushr x0 (1 : Int32)) &&& (1431655765 : Int32))) &&& (858993459 : Int32)) + ((mm_ushr (x0 - ((mm_ushr x0 (1 : Int32)) &&& (1431655765 : Int32))) (2 : Int32)) &&& (858993459 : Int32))) (4 : Int32))) &&& (252645135 : Int32)))]) dJ6_bitCount_0f7a4_33 rfl rfl rfl (Nat.le_of_ble_eq_true rfl) rfl ?_
  refine mm_iload_n (q := 35) dJ6_bitCount_0f7a4_34 rfl rfl rfl ?_
  refine mm_iload_n (q := 36) dJ6_bitCount_0f7a4_35 rfl rfl rfl ?_
  refine mm_bipush (q := 38) dJ6_bitCount_0f7a4_36 rfl bp_8 ?_
  refine mm_iushr (q := 39) dJ6_bitCount_0f7a4_38 rfl ?_
  refine mm_iadd (q := 40) dJ6_bitCount_0f7a4_39 rfl ?_
  refine mm_istore_n (q := 41) (ls' := [some (.int ((((((x0 - ((mm_ushr x0 (1 : Int32)) &&& (1431655765 : Int32))) &&& (858993459 : Int32)) + ((mm_ushr (x0 - ((mm_ushr x0 (1 : Int32)) &&& (1431655765 : Int32))) (2 : Int32)) &&& (858993459 : Int32))) + (mm_ushr (((x0 - ((mm_ushr x0 (1 : Int32)) &&& (1431655765 : Int32))) &&& (858993459 : Int32)) + ((mm_ushr (x0 - ((mm_ushr x0 (1 : Int32)) &&& (1431655765 : Int32))) (2 : Int32)) &&& (858993459 : Int32))) (4 : Int32))) &&& (252645135 : Int32)) + (mm_ushr (((((x0 - ((mm_ushr x0 (1 : Int32)) &&& (1431655765 : Int32))) &&& (858993459 : Int32)) + ((mm_ushr (x0 - ((mm_ushr x0 (1 : Int32)) &&& (1431655765 : Int32))) (2 : Int32)) &&& (858993459 : Int32))) + (mm_ushr (((x0 - ((mm_ushr x0 (1 : Int32)) &&& (1431655765 : Int32))) &&& (858993459 : Int32)) + ((mm_ushr (x0 - ((mm_ushr x0 (1 : Int32)) &&& (1431655765 : Int32))) (2 : Int32)) &&& (858993459 : Int32))) (4 : Int32))) &&& (252645135 : Int32)) (8 : Int32))))]) dJ6_bitCount_0f7a4_40 rfl rfl rfl (Nat.le_of_ble_eq_true rfl) rfl ?_
  refine mm_iload_n (q := 42) dJ6_bitCount_0f7a4_41 rfl rfl rfl ?_
  refine mm_iload_n (q := 43) dJ6_bitCount_0f7a4_42 rfl rfl rfl ?_
  refine mm_bipush (q := 45) dJ6_bitCount_0f7a4_43 rfl bp_16 ?_
  refine mm_iushr (q := 46) dJ6_bitCount_0f7a4_45 rfl ?_
  refine mm_iadd (q := 47) dJ6_bitCount_0f7a4_46 rfl ?_
  refine mm_istore_n (q := 48) (ls' := [some (.int (((((((x0 - ((mm_ushr x0 (1 : Int32)) &&& (1431655765 : Int32))) &&& (858993459 : Int32)) + ((mm_ushr (x0 - ((mm_ushr x0 (1 : Int32)) &&& (1431655765 : Int32))) (2 : Int32)) &&& (858993459 : Int32))) + (mm_ushr (((x0 - ((mm_ushr x0 (1 : Int32)) &&& (1431655765 : Int32))) &&& (858993459 : Int32)) + ((mm_ushr (x0 - ((mm_ushr x0 (1 : Int32)) &&& (1431655765 : Int32))) (2 : Int32)) &&& (858993459 : Int32))) (4 : Int32))) &&& (252645135 : Int32)) + (mm_ushr (((((x0 - ((mm_ushr x0 (1 : Int32)) &&& (1431655765 : Int32))) &&& (858993459 : Int32)) + ((mm_ushr (x0 - ((mm_ushr x0 (1 : Int32)) &&& (1431655765 : Int32))) (2 : Int32)) &&& (858993459 : Int32))) + (mm_ushr (((x0 - ((mm_ushr x0 (1 : Int32)) &&& (1431655765 : Int32))) &&& (858993459 : Int32)) + ((mm_ushr (x0 - ((mm_ushr x0 (1 : Int32)) &&& (1431655765 : Int32))) (2 : Int32)) &&& (858993459 : Int32))) (4 : Int32))) &&& (252645135 : Int32)) (8 : Int32))) + (mm_ushr ((((((x0 - ((mm_ushr x0 (1 : Int32)) &&& (1431655765 : Int32))) &&& (858993459 : Int32)) + ((mm_ushr (x0 - ((mm_ushr x0 (1 : Int32)) &&& (1431655765 : Int32))) (2 : Int32)) &&& (858993459 : Int32))) + (mm_ushr (((x0 - ((mm_ushr x0 (1 : Int32)) &&& (1431655765 : Int32))) &&& (858993459 : Int32)) + ((mm_ushr (x0 - ((mm_ushr x0 (1 : Int32)) &&& (1431655765 : Int32))) (2 : Int32)) &&& (858993459 : Int32))) (4 : Int32))) &&& (252645135 : Int32)) + (mm_ushr (((((x0 - ((mm_ushr x0 (1 : Int32)) &&& (1431655765 : Int32))) &&& (858993459 : Int32)) + ((mm_ushr (x0 - ((mm_ushr x0 (1 : Int32)) &&& (1431655765 : Int32))) (2 : Int32)) &&& (858993459 : Int32))) + (mm_ushr (((x0 - ((mm_ushr x0 (1 : Int32)) &&& (1431655765 : Int32))) &&& (858993459 : Int32)) + ((mm_ushr (x0 - ((mm_ushr x0 (1 : Int32)) &&& (1431655765 : Int32))) (2 : Int32)) &&& (858993459 : Int32))) (4 : Int32))) &&& (252645135 : Int32)) (8 : Int32))) (16 : Int32))))]) dJ6_bitCount_0f7a4_47 rfl rfl rfl (Nat.le_of_ble_eq_true rfl) rfl ?_
  refine mm_iload_n (q := 49) dJ6_bitCount_0f7a4_48 rfl rfl rfl ?_
  refine mm_bipush (q := 51) dJ6_bitCount_0f7a4_49 rfl bp_63 ?_
  refine mm_iand (q := 52) dJ6_bitCount_0f7a4_51 rfl ?_
  exact mm_iret rfl dJ6_bitCount_0f7a4_52
def fX0_append (x1 : Int32) (x2 : Int32) (x3 : Int32) (M : mm_M) : Option (mm_M) :=
  if (8 : Int32) ≤ (M 20 3) then
    some M
  else
    (mm_wa M 21 8 (M 20 3) x1).bind fun M2 =>
    (mm_wa M2 22 8 (M2 20 3) x2).bind fun M3 =>
    (mm_wa M3 23 8 (M3 20 3) x3).bind fun M4 =>
    (mm_pf M4 20 3 ((M4 20 3) + (1 : Int32))).bind fun M5 =>
    some M5
set_option maxRecDepth 100000 in
set_option maxHeartbeats 4000000 in
theorem fX0_append_ok (x1 : Int32) (x2 : Int32) (x3 : Int32) (M : mm_M)  : mm_E LC yX0_append cX0_append 4 none 0 mm_eV [.ref 20, .int x1, .int x2, .int x3] M (fX0_append x1 x2 x3 M) := by
  refine mm_E.of (own := RX0) (ls := [some (.ref 20), some (.int x1), some (.int x2), some (.int x3)]) (by decide) rfl rfl (Nat.le_of_ble_eq_true rfl) ?_
  unfold fX0_append
  refine mm_aload_n (q := 1) dX0_append_0 rfl rfl rfl ?_
  refine mm_getI (q := 4) dX0_append_1 rfl lc_20 fd_X0_21 rfl ?_
  refine mm_bipush (q := 6) dX0_append_4 rfl bp_8 ?_
  refine mm_icmp_ge (q := 9) (tgt := 49) dX0_append_6 rfl (by decide) (fun c1 => ?_) (fun c1 => ?_)
  · exact mm_vret rfl dX0_append_49
  · refine mm_aload_n (q := 10) dX0_append_9 rfl rfl rfl ?_
    refine mm_getR (q := 13) (k1 := 21) dX0_append_10 rfl lc_20 fd_X0_9 rfl ?_
    refine mm_aload_n (q := 14) dX0_append_13 rfl rfl rfl ?_
    refine mm_getI (q := 17) dX0_append_14 rfl lc_20 fd_X0_21 rfl ?_
    refine mm_iload_n (q := 18) dX0_append_17 rfl rfl rfl ?_
    refine mm_iast (q := 19) dX0_append_18 rfl lc_21 (fun M2 _ => ?_)
    refine mm_aload_n (q := 20) dX0_append_19 rfl rfl rfl ?_
    refine mm_getR (q := 23) (k1 := 22) dX0_append_20 rfl lc_20 fd_X0_15 rfl ?_
    refine mm_aload_n (q := 24) dX0_append_23 rfl rfl rfl ?_
    refine mm_getI (q := 27) dX0_append_24 rfl lc_20 fd_X0_21 rfl ?_
    refine mm_iload_n (q := 28) dX0_append_27 rfl rfl rfl ?_
    refine mm_iast (q := 29) dX0_append_28 rfl lc_22 (fun M3 _ => ?_)
    refine mm_aload_n (q := 30) dX0_append_29 rfl rfl rfl ?_
    refine mm_getR (q := 33) (k1 := 23) dX0_append_30 rfl lc_20 fd_X0_18 rfl ?_
    refine mm_aload_n (q := 34) dX0_append_33 rfl rfl rfl ?_
    refine mm_getI (q := 37) dX0_append_34 rfl lc_20 fd_X0_21 rfl ?_
    refine mm_iload_n (q := 38) dX0_append_37 rfl rfl rfl ?_
    refine mm_iast (q := 39) dX0_append_38 rfl lc_23 (fun M4 _ => ?_)
    refine mm_aload_n (q := 40) dX0_append_39 rfl rfl rfl ?_
    refine mm_dup (q := 41) dX0_append_40 rfl rfl ?_
    refine mm_getI (q := 44) dX0_append_41 rfl lc_20 fd_X0_21 rfl ?_
    refine mm_iconst (q := 45) dX0_append_44 rfl ic_1 ?_
    refine mm_iadd (q := 46) dX0_append_45 rfl ?_
    refine mm_put (q := 49) dX0_append_46 rfl lc_20 fd_X0_21 ps_X0_3 rfl rfl rfl (fun M5 _ => ?_)
    exact mm_vret rfl dX0_append_49
def fX6_isOutside (x0 : Int32) (x1 : Int32)  : Int32 :=
  if x0 < 0 then
    (1 : Int32)
  else
    if x0 < x1 then
      (0 : Int32)
    else
      (1 : Int32)
set_option maxRecDepth 100000 in
set_option maxHeartbeats 4000000 in
theorem fX6_isOutside_ok (x0 : Int32) (x1 : Int32) (M : mm_M)  : mm_E LC yX6_isOutside cX6_isOutside 2 (some .boolean) 0 (mm_pI M) [.int x0, .int x1] M (some (fX6_isOutside x0 x1)) := by
  refine mm_E.of (own := RX6) (ls := [some (.int x0), some (.int x1)]) (by decide) rfl rfl (Nat.le_of_ble_eq_true rfl) ?_
  unfold fX6_isOutside
  refine mm_iload_n (q := 1) dX6_isOutside_0 rfl rfl rfl ?_
  by_cases c1 : x0 < 0
  · simp only [if_pos c1]
    refine mm_if_lt_t (tgt := 9) c1 dX6_isOutside_1 (by decide) ?_
    refine mm_iconst (q := 10) dX6_isOutside_9 rfl ic_1 ?_
    refine mm_goto (tgt := 14) dX6_isOutside_10 (by decide) ?_
    exact mm_zret rfl rfl dX6_isOutside_14
  · simp only [if_neg c1]
    refine mm_if_lt_f (q := 4) (tgt := 9) c1 dX6_isOutside_1 rfl (by decide) ?_
    refine mm_iload_n (q := 5) dX6_isOutside_4 rfl rfl rfl ?_
    refine mm_iload_n (q := 6) dX6_isOutside_5 rfl rfl rfl ?_
    by_cases c2 : x0 < x1
    · simp only [if_pos c2]
      refine mm_icmp_lt_t (tgt := 13) c2 dX6_isOutside_6 (by decide) ?_
      refine mm_iconst (q := 14) dX6_isOutside_13 rfl ic_0 ?_
      exact mm_zret rfl rfl dX6_isOutside_14
    · simp only [if_neg c2]
      refine mm_icmp_lt_f (q := 9) (tgt := 13) c2 dX6_isOutside_6 rfl (by decide) ?_
      refine mm_iconst (q := 10) dX6_isOutside_9 rfl ic_1 ?_
      refine mm_goto (tgt := 14) dX6_isOutside_10 (by decide) ?_
      exact mm_zret rfl rfl dX6_isOutside_14
def fX1_leftBehind (r0 : Nat) (x1 : Int32) (x2 : Int32) (M : mm_M) : Option (Int32) :=
  if (fX6_isOutside x1 (24 : Int32)) = 0 then
    (if (fX6_isOutside x2 (M r0 0)) = 0 then
      ((mm_rd M (r0 + 10) 288 ((x1 * (12 : Int32)) + x2)).bind fun b3 =>
      some b3)
    else
      some (-1 : Int32))
  else
    some (-1 : Int32)
set_option maxRecDepth 100000 in
set_option maxHeartbeats 4000000 in
theorem fX1_leftBehind_ok (r0 : Nat) (x1 : Int32) (x2 : Int32) (M : mm_M) (h0 : isCo r0) : mm_E LC yX1_leftBehind cX1_leftBehind 3 (some .int) 1 (mm_pI M) [.ref r0, .int x1, .int x2] M (fX1_leftBehind r0 x1 x2 M) := by
  refine mm_E.of (own := RX1) (ls := [some (.ref r0), some (.int x1), some (.int x2)]) (by decide) rfl rfl (Nat.le_of_ble_eq_true rfl) ?_
  unfold fX1_leftBehind
  refine mm_iload_n (q := 1) dX1_leftBehind_0 rfl rfl rfl ?_
  refine mm_bipush (q := 3) dX1_leftBehind_1 rfl bp_24 ?_
  refine mm_callSNT (as := [.int x1, .int (24 : Int32)]) (st := []) (q := 6) (fX6_isOutside_ok x1 (24 : Int32) M) ms_X1_142 rfl (Nat.le_of_ble_eq_true rfl) (Nat.le_of_ble_eq_true rfl) rfl dX1_leftBehind_3 rfl ?_
  refine mm_if_ne (q := 9) (tgt := 20) dX1_leftBehind_6 rfl (by decide) (fun c1 => ?_) (fun c1 => ?_)
  · refine mm_iload_n (q := 10) dX1_leftBehind_9 rfl rfl rfl ?_
    refine mm_aload_n (q := 11) dX1_leftBehind_10 rfl rfl rfl ?_
    refine mm_getI (q := 14) dX1_leftBehind_11 rfl (lc_Co h0) fd_X1_69 rfl ?_
    refine mm_callSNT (as := [.int x2, .int (M r0 0)]) (st := []) (q := 17) (fX6_isOutside_ok x2 (M r0 0) M) ms_X1_142 rfl (Nat.le_of_ble_eq_true rfl) (Nat.le_of_ble_eq_true rfl) rfl dX1_leftBehind_14 rfl ?_
    refine mm_if_eq (q := 20) (tgt := 24) dX1_leftBehind_17 rfl (by decide) (fun c2 => ?_) (fun c2 => ?_)
    · refine mm_aload_n (q := 25) dX1_leftBehind_24 rfl rfl rfl ?_
      refine mm_getR (q := 28) (k1 := (r0 + 10)) dX1_leftBehind_25 rfl (lc_Co h0) fd_X1_39 rfl ?_
      refine mm_iload_n (q := 29) dX1_leftBehind_28 rfl rfl rfl ?_
      refine mm_bipush (q := 31) dX1_leftBehind_29 rfl bp_12 ?_
      refine mm_imul (q := 32) dX1_leftBehind_31 rfl ?_
      refine mm_iload_n (q := 33) dX1_leftBehind_32 rfl rfl rfl ?_
      refine mm_iadd (q := 34) dX1_leftBehind_33 rfl ?_
      refine mm_iald (q := 35) dX1_leftBehind_34 rfl (lc_Co_10 h0) (fun b3 _ => ?_)
      exact mm_iret rfl dX1_leftBehind_35
    · refine mm_iconst (q := 21) dX1_leftBehind_20 rfl ic_m1 ?_
      refine mm_goto (tgt := 35) dX1_leftBehind_21 (by decide) ?_
      exact mm_iret rfl dX1_leftBehind_35
  · refine mm_iconst (q := 21) dX1_leftBehind_20 rfl ic_m1 ?_
    refine mm_goto (tgt := 35) dX1_leftBehind_21 (by decide) ?_
    exact mm_iret rfl dX1_leftBehind_35
def fX0_comesOut_L2 (r1 : Nat) (M : mm_M)  : Nat → Int32 → Option (Int32)
  | 0, _ => none
  | n + 1, x2 =>
    if (M 20 3) ≤ x2 then
      some (1 : Int32)
    else
      (mm_rd M 21 8 x2).bind fun b2 =>
      (mm_rd M 22 8 x2).bind fun b3 =>
      (fX1_leftBehind r1 b2 b3 M).bind fun b4 =>
      (mm_rd M 23 8 x2).bind fun b5 =>
      if b4 = b5 then
        fX0_comesOut_L2 r1 M n (x2 + (1 : Int32))
      else
        some (0 : Int32)
set_option maxRecDepth 100000 in
set_option maxHeartbeats 4000000 in
theorem fX0_comesOut_L2_ok (r1 : Nat) (M : mm_M) (h1 : isCo r1)   : ∀ (n : Nat) (x2 : Int32), mm_C LC cX0_comesOut 3 RX0 (some .boolean) 2 (mm_pI M) 2 [some (.ref 20), some (.ref r1), some (.int x2)] [] M (fX0_comesOut_L2 r1 M n x2) := by
  intro n
  induction n with
  | zero => intro x2; exact mm_none
  | succ n ih =>
    intro x2
    rw [fX0_comesOut_L2]
    refine mm_iload_n (q := 3) dX0_comesOut_2 rfl rfl rfl ?_
    refine mm_aload_n (q := 4) dX0_comesOut_3 rfl rfl rfl ?_
    refine mm_getI (q := 7) dX0_comesOut_4 rfl lc_20 fd_X0_21 rfl ?_
    refine mm_icmp_ge (q := 10) (tgt := 43) dX0_comesOut_7 rfl (by decide) (fun c1 => ?_) (fun c1 => ?_)
    · refine mm_iconst (q := 44) dX0_comesOut_43 rfl ic_1 ?_
      exact mm_zret rfl rfl dX0_comesOut_44
    · refine mm_aload_n (q := 11) dX0_comesOut_10 rfl rfl rfl ?_
      refine mm_aload_n (q := 12) dX0_comesOut_11 rfl rfl rfl ?_
      refine mm_getR (q := 15) (k1 := 21) dX0_comesOut_12 rfl lc_20 fd_X0_9 rfl ?_
      refine mm_iload_n (q := 16) dX0_comesOut_15 rfl rfl rfl ?_
      refine mm_iald (q := 17) dX0_comesOut_16 rfl lc_21 (fun b2 _ => ?_)
      refine mm_aload_n (q := 18) dX0_comesOut_17 rfl rfl rfl ?_
      refine mm_getR (q := 21) (k1 := 22) dX0_comesOut_18 rfl lc_20 fd_X0_15 rfl ?_
      refine mm_iload_n (q := 22) dX0_comesOut_21 rfl rfl rfl ?_
      refine mm_iald (q := 23) dX0_comesOut_22 rfl lc_22 (fun b3 _ => ?_)
      refine mm_callVP (as := [.int b2, .int b3]) (st := []) (q := 26) (lc_Co h1) rfl (fX1_leftBehind_ok r1 b2 b3 M h1) ms_X0_25 rfl (Nat.le_of_ble_eq_true rfl) (Nat.le_of_ble_eq_true rfl) rfl dX0_comesOut_23 rfl (fun b4 _ => ?_)
      refine mm_aload_n (q := 27) dX0_comesOut_26 rfl rfl rfl ?_
      refine mm_getR (q := 30) (k1 := 23) dX0_comesOut_27 rfl lc_20 fd_X0_18 rfl ?_
      refine mm_iload_n (q := 31) dX0_comesOut_30 rfl rfl rfl ?_
      refine mm_iald (q := 32) dX0_comesOut_31 rfl lc_23 (fun b5 _ => ?_)
      refine mm_icmp_eq (q := 35) (tgt := 37) dX0_comesOut_32 rfl (by decide) (fun c6 => ?_) (fun c6 => ?_)
      · refine mm_iinc (q := 40) (ls' := [some (.ref 20), some (.ref r1), some (.int (x2 + (1 : Int32)))]) dX0_comesOut_37 rfl rfl (ii_1 _) rfl (Nat.le_of_ble_eq_true rfl) rfl ?_
        refine mm_goto (tgt := 2) dX0_comesOut_40 (by decide) ?_
        exact ih _
      · refine mm_iconst (q := 36) dX0_comesOut_35 rfl ic_0 ?_
        exact mm_zret rfl rfl dX0_comesOut_36
def fX0_comesOut (r1 : Nat) (M : mm_M) : Option (Int32) :=
  fX0_comesOut_L2 r1 M 1000 (0 : Int32)
set_option maxRecDepth 100000 in
set_option maxHeartbeats 4000000 in
theorem fX0_comesOut_ok (r1 : Nat) (M : mm_M) (h1 : isCo r1) : mm_E LC yX0_comesOut cX0_comesOut 3 (some .boolean) 2 (mm_pI M) [.ref 20, .ref r1] M (fX0_comesOut r1 M) := by
  refine mm_E.of (own := RX0) (ls := [some (.ref 20), some (.ref r1), none]) (by decide) rfl rfl (Nat.le_of_ble_eq_true rfl) ?_
  unfold fX0_comesOut
  refine mm_iconst (q := 1) dX0_comesOut_0 rfl ic_0 ?_
  refine mm_istore_n (q := 2) (ls' := [some (.ref 20), some (.ref r1), some (.int (0 : Int32))]) dX0_comesOut_1 rfl rfl rfl (Nat.le_of_ble_eq_true rfl) rfl ?_
  exact fX0_comesOut_L2_ok r1 M h1 _ _
def fX5_areTwo (r0 : Nat) (x1 : Int32) (x2 : Int32) (M : mm_M) : Int32 :=
  if x1 = x2 then
    (0 : Int32)
  else
    if x1 < 0 then
      (0 : Int32)
    else
      if (M r0 0) ≤ x1 then
        (0 : Int32)
      else
        if x2 < 0 then
          (0 : Int32)
        else
          if (M r0 0) ≤ x2 then
            (0 : Int32)
          else
            (1 : Int32)
set_option maxRecDepth 100000 in
set_option maxHeartbeats 4000000 in
theorem fX5_areTwo_ok (r0 : Nat) (x1 : Int32) (x2 : Int32) (M : mm_M) (h0 : isTo r0) : mm_E LC yX5_areTwo cX5_areTwo 3 (some .boolean) 0 (mm_pI M) [.ref r0, .int x1, .int x2] M (some (fX5_areTwo r0 x1 x2 M)) := by
  refine mm_E.of (own := RX5) (ls := [some (.ref r0), some (.int x1), some (.int x2)]) (by decide) rfl rfl (Nat.le_of_ble_eq_true rfl) ?_
  unfold fX5_areTwo
  refine mm_iload_n (q := 1) dX5_areTwo_0 rfl rfl rfl ?_
  refine mm_iload_n (q := 2) dX5_areTwo_1 rfl rfl rfl ?_
  by_cases c1 : x1 = x2
  · simp only [if_pos c1]
    refine mm_icmp_eq_t (tgt := 33) c1 dX5_areTwo_2 (by decide) ?_
    refine mm_iconst (q := 34) dX5_areTwo_33 rfl ic_0 ?_
    exact mm_zret rfl rfl dX5_areTwo_34
  · simp only [if_neg c1]
    refine mm_icmp_eq_f (q := 5) (tgt := 33) c1 dX5_areTwo_2 rfl (by decide) ?_
    refine mm_iload_n (q := 6) dX5_areTwo_5 rfl rfl rfl ?_
    by_cases c2 : x1 < 0
    · simp only [if_pos c2]
      refine mm_if_lt_t (tgt := 33) c2 dX5_areTwo_6 (by decide) ?_
      refine mm_iconst (q := 34) dX5_areTwo_33 rfl ic_0 ?_
      exact mm_zret rfl rfl dX5_areTwo_34
    · simp only [if_neg c2]
      refine mm_if_lt_f (q := 9) (tgt := 33) c2 dX5_areTwo_6 rfl (by decide) ?_
      refine mm_iload_n (q := 10) dX5_areTwo_9 rfl rfl rfl ?_
      refine mm_aload_n (q := 11) dX5_areTwo_10 rfl rfl rfl ?_
      refine mm_getI (q := 14) dX5_areTwo_11 rfl (lc_To h0) fd_X5_48 rfl ?_
      by_cases c3 : (M r0 0) ≤ x1
      · simp only [if_pos c3]
        refine mm_icmp_ge_t (tgt := 33) c3 dX5_areTwo_14 (by decide) ?_
        refine mm_iconst (q := 34) dX5_areTwo_33 rfl ic_0 ?_
        exact mm_zret rfl rfl dX5_areTwo_34
      · simp only [if_neg c3]
        refine mm_icmp_ge_f (q := 17) (tgt := 33) c3 dX5_areTwo_14 rfl (by decide) ?_
        refine mm_iload_n (q := 18) dX5_areTwo_17 rfl rfl rfl ?_
        by_cases c4 : x2 < 0
        · simp only [if_pos c4]
          refine mm_if_lt_t (tgt := 33) c4 dX5_areTwo_18 (by decide) ?_
          refine mm_iconst (q := 34) dX5_areTwo_33 rfl ic_0 ?_
          exact mm_zret rfl rfl dX5_areTwo_34
        · simp only [if_neg c4]
          refine mm_if_lt_f (q := 21) (tgt := 33) c4 dX5_areTwo_18 rfl (by decide) ?_
          refine mm_iload_n (q := 22) dX5_areTwo_21 rfl rfl rfl ?_
          refine mm_aload_n (q := 23) dX5_areTwo_22 rfl rfl rfl ?_
          refine mm_getI (q := 26) dX5_areTwo_23 rfl (lc_To h0) fd_X5_48 rfl ?_
          by_cases c5 : (M r0 0) ≤ x2
          · simp only [if_pos c5]
            refine mm_icmp_ge_t (tgt := 33) c5 dX5_areTwo_26 (by decide) ?_
            refine mm_iconst (q := 34) dX5_areTwo_33 rfl ic_0 ?_
            exact mm_zret rfl rfl dX5_areTwo_34
          · simp only [if_neg c5]
            refine mm_icmp_ge_f (q := 29) (tgt := 33) c5 dX5_areTwo_26 rfl (by decide) ?_
            refine mm_iconst (q := 30) dX5_areTwo_29 rfl ic_1 ?_
            refine mm_goto (tgt := 34) dX5_areTwo_30 (by decide) ?_
            exact mm_zret rfl rfl dX5_areTwo_34
def fX2_all  (M : mm_M) : Int32 :=
  ((1 : Int32) <<< ((M 17 2) &&& 31)) - (1 : Int32)
set_option maxRecDepth 100000 in
set_option maxHeartbeats 4000000 in
theorem fX2_all_ok  (M : mm_M)  : mm_E LC yX2_all cX2_all 1 (some .int) 0 (mm_pI M) [.ref 17] M (some (fX2_all M)) := by
  refine mm_E.of (own := RX2) (ls := [some (.ref 17)]) (by decide) rfl rfl (Nat.le_of_ble_eq_true rfl) ?_
  unfold fX2_all
  refine mm_iconst (q := 1) dX2_all_0 rfl ic_1 ?_
  refine mm_aload_n (q := 2) dX2_all_1 rfl rfl rfl ?_
  refine mm_getI (q := 5) dX2_all_2 rfl lc_17 fd_X2_22 rfl ?_
  refine mm_ishl (q := 6) dX2_all_5 rfl ?_
  refine mm_iconst (q := 7) dX2_all_6 rfl ic_1 ?_
  refine mm_isub (q := 8) dX2_all_7 rfl ?_
  exact mm_iret rfl dX2_all_8
def fX2_isFull  (M : mm_M) : Int32 :=
  if (M 17 2) < (8 : Int32) then
    (0 : Int32)
  else
    (1 : Int32)
set_option maxRecDepth 100000 in
set_option maxHeartbeats 4000000 in
theorem fX2_isFull_ok  (M : mm_M)  : mm_E LC yX2_isFull cX2_isFull 1 (some .boolean) 0 (mm_pI M) [.ref 17] M (some (fX2_isFull M)) := by
  refine mm_E.of (own := RX2) (ls := [some (.ref 17)]) (by decide) rfl rfl (Nat.le_of_ble_eq_true rfl) ?_
  unfold fX2_isFull
  refine mm_aload_n (q := 1) dX2_isFull_0 rfl rfl rfl ?_
  refine mm_getI (q := 4) dX2_isFull_1 rfl lc_17 fd_X2_22 rfl ?_
  refine mm_bipush (q := 6) dX2_isFull_4 rfl bp_8 ?_
  by_cases c1 : (M 17 2) < (8 : Int32)
  · simp only [if_pos c1]
    refine mm_icmp_lt_t (tgt := 13) c1 dX2_isFull_6 (by decide) ?_
    refine mm_iconst (q := 14) dX2_isFull_13 rfl ic_0 ?_
    exact mm_zret rfl rfl dX2_isFull_14
  · simp only [if_neg c1]
    refine mm_icmp_lt_f (q := 9) (tgt := 13) c1 dX2_isFull_6 rfl (by decide) ?_
    refine mm_iconst (q := 10) dX2_isFull_9 rfl ic_1 ?_
    refine mm_goto (tgt := 14) dX2_isFull_10 (by decide) ?_
    exact mm_zret rfl rfl dX2_isFull_14
def fX2_append (x1 : Int32) (x2 : Int32) (M : mm_M) : Option (mm_M) :=
  if (fX2_isFull M) = 0 then
    ((mm_wa M 18 8 (M 17 2) x1).bind fun M2 =>
    (mm_wa M2 19 8 (M2 17 2) x2).bind fun M3 =>
    (mm_pf M3 17 2 ((M3 17 2) + (1 : Int32))).bind fun M4 =>
    some M4)
  else
    some M
set_option maxRecDepth 100000 in
set_option maxHeartbeats 4000000 in
theorem fX2_append_ok (x1 : Int32) (x2 : Int32) (M : mm_M)  : mm_E LC yX2_append cX2_append 3 none 1 mm_eV [.ref 17, .int x1, .int x2] M (fX2_append x1 x2 M) := by
  refine mm_E.of (own := RX2) (ls := [some (.ref 17), some (.int x1), some (.int x2)]) (by decide) rfl rfl (Nat.le_of_ble_eq_true rfl) ?_
  unfold fX2_append
  refine mm_aload_n (q := 1) dX2_append_0 rfl rfl rfl ?_
  refine mm_callVT (as := []) (st := []) (q := 4) lc_17 rfl (fX2_isFull_ok M) ms_X2_26 rfl (Nat.le_of_ble_eq_true rfl) (Nat.le_of_ble_eq_true rfl) rfl dX2_append_1 rfl ?_
  refine mm_if_ne (q := 7) (tgt := 37) dX2_append_4 rfl (by decide) (fun c1 => ?_) (fun c1 => ?_)
  · refine mm_aload_n (q := 8) dX2_append_7 rfl rfl rfl ?_
    refine mm_getR (q := 11) (k1 := 18) dX2_append_8 rfl lc_17 fd_X2_9 rfl ?_
    refine mm_aload_n (q := 12) dX2_append_11 rfl rfl rfl ?_
    refine mm_getI (q := 15) dX2_append_12 rfl lc_17 fd_X2_22 rfl ?_
    refine mm_iload_n (q := 16) dX2_append_15 rfl rfl rfl ?_
    refine mm_iast (q := 17) dX2_append_16 rfl lc_18 (fun M2 _ => ?_)
    refine mm_aload_n (q := 18) dX2_append_17 rfl rfl rfl ?_
    refine mm_getR (q := 21) (k1 := 19) dX2_append_18 rfl lc_17 fd_X2_15 rfl ?_
    refine mm_aload_n (q := 22) dX2_append_21 rfl rfl rfl ?_
    refine mm_getI (q := 25) dX2_append_22 rfl lc_17 fd_X2_22 rfl ?_
    refine mm_iload_n (q := 26) dX2_append_25 rfl rfl rfl ?_
    refine mm_iast (q := 27) dX2_append_26 rfl lc_19 (fun M3 _ => ?_)
    refine mm_aload_n (q := 28) dX2_append_27 rfl rfl rfl ?_
    refine mm_dup (q := 29) dX2_append_28 rfl rfl ?_
    refine mm_getI (q := 32) dX2_append_29 rfl lc_17 fd_X2_22 rfl ?_
    refine mm_iconst (q := 33) dX2_append_32 rfl ic_1 ?_
    refine mm_iadd (q := 34) dX2_append_33 rfl ?_
    refine mm_put (q := 37) dX2_append_34 rfl lc_17 fd_X2_22 ps_X2_2 rfl rfl rfl (fun M4 _ => ?_)
    exact mm_vret rfl dX2_append_37
  · exact mm_vret rfl dX2_append_37
def fX2_mayBe (x0 : Int32) (x1 : Int32)  : Int32 :=
  if (fX6_isOutside x0 (24 : Int32)) = 0 then
    (if (fX6_isOutside x1 (8 : Int32)) = 0 then
      (1 : Int32)
    else
      (0 : Int32))
  else
    (0 : Int32)
set_option maxRecDepth 100000 in
set_option maxHeartbeats 4000000 in
theorem fX2_mayBe_ok (x0 : Int32) (x1 : Int32) (M : mm_M)  : mm_E LC yX2_mayBe cX2_mayBe 2 (some .boolean) 1 (mm_pI M) [.int x0, .int x1] M (some (fX2_mayBe x0 x1)) := by
  refine mm_E.of (own := RX2) (ls := [some (.int x0), some (.int x1)]) (by decide) rfl rfl (Nat.le_of_ble_eq_true rfl) ?_
  unfold fX2_mayBe
  refine mm_iload_n (q := 1) dX2_mayBe_0 rfl rfl rfl ?_
  refine mm_bipush (q := 3) dX2_mayBe_1 rfl bp_24 ?_
  refine mm_callSNT (as := [.int x0, .int (24 : Int32)]) (st := []) (q := 6) (fX6_isOutside_ok x0 (24 : Int32) M) ms_X2_18 rfl (Nat.le_of_ble_eq_true rfl) (Nat.le_of_ble_eq_true rfl) rfl dX2_mayBe_3 rfl ?_
  by_cases c1 : (fX6_isOutside x0 (24 : Int32)) = 0
  · simp only [if_pos c1]
    refine mm_if_ne_t (q := 9) (tgt := 22) c1 dX2_mayBe_6 rfl (by decide) ?_
    refine mm_iload_n (q := 10) dX2_mayBe_9 rfl rfl rfl ?_
    refine mm_bipush (q := 12) dX2_mayBe_10 rfl bp_8 ?_
    refine mm_callSNT (as := [.int x1, .int (8 : Int32)]) (st := []) (q := 15) (fX6_isOutside_ok x1 (8 : Int32) M) ms_X2_18 rfl (Nat.le_of_ble_eq_true rfl) (Nat.le_of_ble_eq_true rfl) rfl dX2_mayBe_12 rfl ?_
    by_cases c2 : (fX6_isOutside x1 (8 : Int32)) = 0
    · simp only [if_pos c2]
      refine mm_if_ne_t (q := 18) (tgt := 22) c2 dX2_mayBe_15 rfl (by decide) ?_
      refine mm_iconst (q := 19) dX2_mayBe_18 rfl ic_1 ?_
      refine mm_goto (tgt := 23) dX2_mayBe_19 (by decide) ?_
      exact mm_zret rfl rfl dX2_mayBe_23
    · simp only [if_neg c2]
      refine mm_if_ne_f (tgt := 22) c2 dX2_mayBe_15 (by decide) ?_
      refine mm_iconst (q := 23) dX2_mayBe_22 rfl ic_0 ?_
      exact mm_zret rfl rfl dX2_mayBe_23
  · simp only [if_neg c1]
    refine mm_if_ne_f (tgt := 22) c1 dX2_mayBe_6 (by decide) ?_
    refine mm_iconst (q := 23) dX2_mayBe_22 rfl ic_0 ?_
    exact mm_zret rfl rfl dX2_mayBe_23
def fX3_begin_L12 (r0 : Nat)  : Nat → Int32 → mm_M → Option (mm_M)
  | 0, _, _ => none
  | n + 1, x3, M =>
    if (60 : Int32) ≤ x3 then
      some M
    else
      (mm_wa M (r0 + 1) 60 x3 (0 : Int32)).bind fun M4 =>
      fX3_begin_L12 r0 n (x3 + (1 : Int32)) M4
set_option maxRecDepth 100000 in
set_option maxHeartbeats 4000000 in
theorem fX3_begin_L12_ok (r0 : Nat) (h0 : isSh r0)   : ∀ (n : Nat) (x3 : Int32) (M : mm_M), mm_C LC cX3_begin 4 RX3 none 0 mm_eV 12 [some (.ref r0), none, none, some (.int x3)] [] M (fX3_begin_L12 r0 n x3 M) := by
  intro n
  induction n with
  | zero => intro x3 M; exact mm_none
  | succ n ih =>
    intro x3 M
    rw [fX3_begin_L12]
    refine mm_iload_n (q := 13) dX3_begin_12 rfl rfl rfl ?_
    refine mm_bipush (q := 15) dX3_begin_13 rfl bp_60 ?_
    refine mm_icmp_ge (q := 18) (tgt := 31) dX3_begin_15 rfl (by decide) (fun c3 => ?_) (fun c3 => ?_)
    · exact mm_vret rfl dX3_begin_31
    · refine mm_aload_n (q := 19) dX3_begin_18 rfl rfl rfl ?_
      refine mm_getR (q := 22) (k1 := (r0 + 1)) dX3_begin_19 rfl (lc_Sh h0) fd_X3_9 rfl ?_
      refine mm_iload_n (q := 23) dX3_begin_22 rfl rfl rfl ?_
      refine mm_iconst (q := 24) dX3_begin_23 rfl ic_0 ?_
      refine mm_iast (q := 25) dX3_begin_24 rfl (lc_Sh_1 h0) (fun M4 _ => ?_)
      refine mm_iinc (q := 28) (ls' := [some (.ref r0), none, none, some (.int (x3 + (1 : Int32)))]) dX3_begin_25 rfl rfl (ii_1 _) rfl (Nat.le_of_ble_eq_true rfl) rfl ?_
      refine mm_goto (tgt := 12) dX3_begin_28 (by decide) ?_
      exact ih _ _
def fX3_begin (r0 : Nat) (x1 : Int32) (x2 : Int32) (M : mm_M) : Option (mm_M) :=
  (mm_pf M r0 1 x1).bind fun M1 =>
  (mm_pf M1 r0 2 x2).bind fun M2 =>
  fX3_begin_L12 r0 1000 (0 : Int32) M2
set_option maxRecDepth 100000 in
set_option maxHeartbeats 4000000 in
theorem fX3_begin_ok (r0 : Nat) (x1 : Int32) (x2 : Int32) (M : mm_M) (h0 : isSh r0) : mm_E LC yX3_begin cX3_begin 4 none 0 mm_eV [.ref r0, .int x1, .int x2] M (fX3_begin r0 x1 x2 M) := by
  refine mm_E.of (own := RX3) (ls := [some (.ref r0), some (.int x1), some (.int x2), none]) (by decide) rfl rfl (Nat.le_of_ble_eq_true rfl) ?_
  unfold fX3_begin
  refine mm_aload_n (q := 1) dX3_begin_0 rfl rfl rfl ?_
  refine mm_iload_n (q := 2) dX3_begin_1 rfl rfl rfl ?_
  refine mm_put (q := 5) dX3_begin_2 rfl (lc_Sh h0) fd_X3_15 ps_X3_1 rfl rfl rfl (fun M1 _ => ?_)
  refine mm_aload_n (q := 6) dX3_begin_5 rfl rfl rfl ?_
  refine mm_iload_n (q := 7) dX3_begin_6 rfl rfl rfl ?_
  refine mm_put (q := 10) dX3_begin_7 rfl (lc_Sh h0) fd_X3_19 ps_X3_2 rfl rfl rfl (fun M2 _ => ?_)
  refine mm_iconst (q := 11) dX3_begin_10 rfl ic_0 ?_
  refine mm_istore_n (q := 12) (ls' := [some (.ref r0), some (.int x1), some (.int x2), some (.int (0 : Int32))]) dX3_begin_11 rfl rfl rfl (Nat.le_of_ble_eq_true rfl) rfl ?_
  refine mm_drop (ls' := [some (.ref r0), none, none, some (.int (0 : Int32))]) (mm_sub_at _ _ (And.intro rfl (And.intro rfl trivial))) ?_
  exact fX3_begin_L12_ok r0 h0 _ _ _
def fX3_hasItems (r0 : Nat) (x1 : Int32) (x2 : Int32) (M : mm_M) : Int32 :=
  if x1 < 0 then
    (0 : Int32)
  else
    if x2 < 0 then
      (0 : Int32)
    else
      if (M r0 2) < x1 then
        (0 : Int32)
      else
        if ((M r0 2) - x1) < x2 then
          (0 : Int32)
        else
          (1 : Int32)
set_option maxRecDepth 100000 in
set_option maxHeartbeats 4000000 in
theorem fX3_hasItems_ok (r0 : Nat) (x1 : Int32) (x2 : Int32) (M : mm_M) (h0 : isSh r0) : mm_E LC yX3_hasItems cX3_hasItems 3 (some .boolean) 0 (mm_pI M) [.ref r0, .int x1, .int x2] M (some (fX3_hasItems r0 x1 x2 M)) := by
  refine mm_E.of (own := RX3) (ls := [some (.ref r0), some (.int x1), some (.int x2)]) (by decide) rfl rfl (Nat.le_of_ble_eq_true rfl) ?_
  unfold fX3_hasItems
  refine mm_iload_n (q := 1) dX3_hasItems_0 rfl rfl rfl ?_
  by_cases c1 : x1 < 0
  · simp only [if_pos c1]
    refine mm_if_lt_t (tgt := 30) c1 dX3_hasItems_1 (by decide) ?_
    refine mm_iconst (q := 31) dX3_hasItems_30 rfl ic_0 ?_
    exact mm_zret rfl rfl dX3_hasItems_31
  · simp only [if_neg c1]
    refine mm_if_lt_f (q := 4) (tgt := 30) c1 dX3_hasItems_1 rfl (by decide) ?_
    refine mm_iload_n (q := 5) dX3_hasItems_4 rfl rfl rfl ?_
    by_cases c2 : x2 < 0
    · simp only [if_pos c2]
      refine mm_if_lt_t (tgt := 30) c2 dX3_hasItems_5 (by decide) ?_
      refine mm_iconst (q := 31) dX3_hasItems_30 rfl ic_0 ?_
      exact mm_zret rfl rfl dX3_hasItems_31
    · simp only [if_neg c2]
      refine mm_if_lt_f (q := 8) (tgt := 30) c2 dX3_hasItems_5 rfl (by decide) ?_
      refine mm_iload_n (q := 9) dX3_hasItems_8 rfl rfl rfl ?_
      refine mm_aload_n (q := 10) dX3_hasItems_9 rfl rfl rfl ?_
      refine mm_getI (q := 13) dX3_hasItems_10 rfl (lc_Sh h0) fd_X3_19 rfl ?_
      by_cases c3 : (M r0 2) < x1
      · simp only [if_pos c3]
        refine mm_icmp_gt_t (tgt := 30) c3 dX3_hasItems_13 (by decide) ?_
        refine mm_iconst (q := 31) dX3_hasItems_30 rfl ic_0 ?_
        exact mm_zret rfl rfl dX3_hasItems_31
      · simp only [if_neg c3]
        refine mm_icmp_gt_f (q := 16) (tgt := 30) c3 dX3_hasItems_13 rfl (by decide) ?_
        refine mm_iload_n (q := 17) dX3_hasItems_16 rfl rfl rfl ?_
        refine mm_aload_n (q := 18) dX3_hasItems_17 rfl rfl rfl ?_
        refine mm_getI (q := 21) dX3_hasItems_18 rfl (lc_Sh h0) fd_X3_19 rfl ?_
        refine mm_iload_n (q := 22) dX3_hasItems_21 rfl rfl rfl ?_
        refine mm_isub (q := 23) dX3_hasItems_22 rfl ?_
        by_cases c4 : ((M r0 2) - x1) < x2
        · simp only [if_pos c4]
          refine mm_icmp_gt_t (tgt := 30) c4 dX3_hasItems_23 (by decide) ?_
          refine mm_iconst (q := 31) dX3_hasItems_30 rfl ic_0 ?_
          exact mm_zret rfl rfl dX3_hasItems_31
        · simp only [if_neg c4]
          refine mm_icmp_gt_f (q := 26) (tgt := 30) c4 dX3_hasItems_23 rfl (by decide) ?_
          refine mm_iconst (q := 27) dX3_hasItems_26 rfl ic_1 ?_
          refine mm_goto (tgt := 31) dX3_hasItems_27 (by decide) ?_
          exact mm_zret rfl rfl dX3_hasItems_31
def fX3_isLost (r0 : Nat) (M : mm_M) : Int32 :=
  if (M r0 1) = (-1 : Int32) then
    (1 : Int32)
  else
    (0 : Int32)
set_option maxRecDepth 100000 in
set_option maxHeartbeats 4000000 in
theorem fX3_isLost_ok (r0 : Nat) (M : mm_M) (h0 : isSh r0) : mm_E LC yX3_isLost cX3_isLost 1 (some .boolean) 0 (mm_pI M) [.ref r0] M (some (fX3_isLost r0 M)) := by
  refine mm_E.of (own := RX3) (ls := [some (.ref r0)]) (by decide) rfl rfl (Nat.le_of_ble_eq_true rfl) ?_
  unfold fX3_isLost
  refine mm_aload_n (q := 1) dX3_isLost_0 rfl rfl rfl ?_
  refine mm_getI (q := 4) dX3_isLost_1 rfl (lc_Sh h0) fd_X3_15 rfl ?_
  refine mm_iconst (q := 5) dX3_isLost_4 rfl ic_m1 ?_
  by_cases c1 : (M r0 1) = (-1 : Int32)
  · simp only [if_pos c1]
    refine mm_icmp_ne_t (q := 8) (tgt := 12) c1 dX3_isLost_5 rfl (by decide) ?_
    refine mm_iconst (q := 9) dX3_isLost_8 rfl ic_1 ?_
    refine mm_goto (tgt := 13) dX3_isLost_9 (by decide) ?_
    exact mm_zret rfl rfl dX3_isLost_13
  · simp only [if_neg c1]
    refine mm_icmp_ne_f (tgt := 12) c1 dX3_isLost_5 (by decide) ?_
    refine mm_iconst (q := 13) dX3_isLost_12 rfl ic_0 ?_
    exact mm_zret rfl rfl dX3_isLost_13
def fX3_put (r0 : Nat) (x1 : Int32) (x2 : Int32) (M : mm_M) : Option (mm_M) :=
  if (fX6_isOutside x1 (M r0 2)) = 0 then
    (if (M r0 1) = 0 then
      ((mm_wa M (r0 + 1) 60 x1 ((x2).toInt8.toInt32)).bind fun M3 =>
      some M3)
    else
      if (M r0 1) = (1 : Int32) then
        ((mm_wa M (r0 + 1) 60 x1 ((x2).toInt16.toInt32)).bind fun M5 =>
        some M5)
      else
        (mm_wa M (r0 + 1) 60 x1 x2).bind fun M6 =>
        some M6)
  else
    some M
set_option maxRecDepth 100000 in
set_option maxHeartbeats 4000000 in
theorem fX3_put_ok (r0 : Nat) (x1 : Int32) (x2 : Int32) (M : mm_M) (h0 : isSh r0) : mm_E LC yX3_put cX3_put 3 none 1 mm_eV [.ref r0, .int x1, .int x2] M (fX3_put r0 x1 x2 M) := by
  refine mm_E.of (own := RX3) (ls := [some (.ref r0), some (.int x1), some (.int x2)]) (by decide) rfl rfl (Nat.le_of_ble_eq_true rfl) ?_
  unfold fX3_put
  refine mm_iload_n (q := 1) dX3_put_0 rfl rfl rfl ?_
  refine mm_aload_n (q := 2) dX3_put_1 rfl rfl rfl ?_
  refine mm_getI (q := 5) dX3_put_2 rfl (lc_Sh h0) fd_X3_19 rfl ?_
  refine mm_callSNT (as := [.int x1, .int (M r0 2)]) (st := []) (q := 8) (fX6_isOutside_ok x1 (M r0 2) M) ms_X3_22 rfl (Nat.le_of_ble_eq_true rfl) (Nat.le_of_ble_eq_true rfl) rfl dX3_put_5 rfl ?_
  refine mm_if_eq (q := 11) (tgt := 12) dX3_put_8 rfl (by decide) (fun c1 => ?_) (fun c1 => ?_)
  · refine mm_aload_n (q := 13) dX3_put_12 rfl rfl rfl ?_
    refine mm_getI (q := 16) dX3_put_13 rfl (lc_Sh h0) fd_X3_15 rfl ?_
    refine mm_if_ne (q := 19) (tgt := 30) dX3_put_16 rfl (by decide) (fun c2 => ?_) (fun c2 => ?_)
    · refine mm_aload_n (q := 20) dX3_put_19 rfl rfl rfl ?_
      refine mm_getR (q := 23) (k1 := (r0 + 1)) dX3_put_20 rfl (lc_Sh h0) fd_X3_9 rfl ?_
      refine mm_iload_n (q := 24) dX3_put_23 rfl rfl rfl ?_
      refine mm_iload_n (q := 25) dX3_put_24 rfl rfl rfl ?_
      refine mm_i2b (q := 26) dX3_put_25 rfl ?_
      refine mm_iast (q := 27) dX3_put_26 rfl (lc_Sh_1 h0) (fun M3 _ => ?_)
      refine mm_goto (tgt := 56) dX3_put_27 (by decide) ?_
      exact mm_vret rfl dX3_put_56
    · refine mm_aload_n (q := 31) dX3_put_30 rfl rfl rfl ?_
      refine mm_getI (q := 34) dX3_put_31 rfl (lc_Sh h0) fd_X3_15 rfl ?_
      refine mm_iconst (q := 35) dX3_put_34 rfl ic_1 ?_
      refine mm_icmp_ne (q := 38) (tgt := 49) dX3_put_35 rfl (by decide) (fun c4 => ?_) (fun c4 => ?_)
      · refine mm_aload_n (q := 39) dX3_put_38 rfl rfl rfl ?_
        refine mm_getR (q := 42) (k1 := (r0 + 1)) dX3_put_39 rfl (lc_Sh h0) fd_X3_9 rfl ?_
        refine mm_iload_n (q := 43) dX3_put_42 rfl rfl rfl ?_
        refine mm_iload_n (q := 44) dX3_put_43 rfl rfl rfl ?_
        refine mm_i2s (q := 45) dX3_put_44 rfl ?_
        refine mm_iast (q := 46) dX3_put_45 rfl (lc_Sh_1 h0) (fun M5 _ => ?_)
        refine mm_goto (tgt := 56) dX3_put_46 (by decide) ?_
        exact mm_vret rfl dX3_put_56
      · refine mm_aload_n (q := 50) dX3_put_49 rfl rfl rfl ?_
        refine mm_getR (q := 53) (k1 := (r0 + 1)) dX3_put_50 rfl (lc_Sh h0) fd_X3_9 rfl ?_
        refine mm_iload_n (q := 54) dX3_put_53 rfl rfl rfl ?_
        refine mm_iload_n (q := 55) dX3_put_54 rfl rfl rfl ?_
        refine mm_iast (q := 56) dX3_put_55 rfl (lc_Sh_1 h0) (fun M6 _ => ?_)
        exact mm_vret rfl dX3_put_56
  · exact mm_vret rfl dX3_put_11
def fX4_isFull (r0 : Nat) (M : mm_M) : Int32 :=
  if (M r0 3) < (Int32.ofNat (tl r0)) then
    (0 : Int32)
  else
    (1 : Int32)
set_option maxRecDepth 100000 in
set_option maxHeartbeats 4000000 in
theorem fX4_isFull_ok (r0 : Nat) (M : mm_M) (h0 : isTx r0) : mm_E LC yX4_isFull cX4_isFull 1 (some .boolean) 0 (mm_pI M) [.ref r0] M (some (fX4_isFull r0 M)) := by
  refine mm_E.of (own := RX4) (ls := [some (.ref r0)]) (by decide) rfl rfl (Nat.le_of_ble_eq_true rfl) ?_
  unfold fX4_isFull
  refine mm_aload_n (q := 1) dX4_isFull_0 rfl rfl rfl ?_
  refine mm_getI (q := 4) dX4_isFull_1 rfl (lc_Tx h0) fd_X4_25 rfl ?_
  refine mm_aload_n (q := 5) dX4_isFull_4 rfl rfl rfl ?_
  refine mm_getR (q := 8) (k1 := (r0 + 1)) dX4_isFull_5 rfl (lc_Tx h0) fd_X4_21 rfl ?_
  refine mm_alen (q := 9) (v := (Int32.ofNat (tl r0))) dX4_isFull_8 rfl (lc_Tx_1 h0) rfl ?_
  by_cases c1 : (M r0 3) < (Int32.ofNat (tl r0))
  · simp only [if_pos c1]
    refine mm_icmp_lt_t (tgt := 16) c1 dX4_isFull_9 (by decide) ?_
    refine mm_iconst (q := 17) dX4_isFull_16 rfl ic_0 ?_
    exact mm_zret rfl rfl dX4_isFull_17
  · simp only [if_neg c1]
    refine mm_icmp_lt_f (q := 12) (tgt := 16) c1 dX4_isFull_9 rfl (by decide) ?_
    refine mm_iconst (q := 13) dX4_isFull_12 rfl ic_1 ?_
    refine mm_goto (tgt := 17) dX4_isFull_13 (by decide) ?_
    exact mm_zret rfl rfl dX4_isFull_17
def fX4_sortOf (x0 : Int32)  : Int32 :=
  if x0 = (98 : Int32) then
    (3 : Int32)
  else
    if x0 = (109 : Int32) then
      (2 : Int32)
    else
      if x0 = (111 : Int32) then
        (1 : Int32)
      else
        if x0 = (112 : Int32) then
          (0 : Int32)
        else
          (-1 : Int32)
set_option maxRecDepth 100000 in
set_option maxHeartbeats 4000000 in
theorem fX4_sortOf_ok (x0 : Int32) (M : mm_M)  : mm_E LC yX4_sortOf cX4_sortOf 1 (some .int) 0 (mm_pI M) [.int x0] M (some (fX4_sortOf x0)) := by
  refine mm_E.of (own := RX4) (ls := [some (.int x0)]) (by decide) rfl rfl (Nat.le_of_ble_eq_true rfl) ?_
  unfold fX4_sortOf
  refine mm_iload_n (q := 1) dX4_sortOf_0 rfl rfl rfl ?_
  by_cases c1 : x0 = (98 : Int32)
  · simp only [if_pos c1]
    refine mm_lsw (off := 49) (tgt := 50) dX4_sortOf_1 (by decide) (by rw [c1]; decide) (by decide) ?_
    refine mm_iconst (q := 51) dX4_sortOf_50 rfl ic_3 ?_
    exact mm_iret rfl dX4_sortOf_51
  · simp only [if_neg c1]
    by_cases c2 : x0 = (109 : Int32)
    · simp only [if_pos c2]
      refine mm_lsw (off := 47) (tgt := 48) dX4_sortOf_1 (by decide) (by rw [c2]; decide) (by decide) ?_
      refine mm_iconst (q := 49) dX4_sortOf_48 rfl ic_2 ?_
      exact mm_iret rfl dX4_sortOf_49
    · simp only [if_neg c2]
      by_cases c3 : x0 = (111 : Int32)
      · simp only [if_pos c3]
        refine mm_lsw (off := 45) (tgt := 46) dX4_sortOf_1 (by decide) (by rw [c3]; decide) (by decide) ?_
        refine mm_iconst (q := 47) dX4_sortOf_46 rfl ic_1 ?_
        exact mm_iret rfl dX4_sortOf_47
      · simp only [if_neg c3]
        by_cases c4 : x0 = (112 : Int32)
        · simp only [if_pos c4]
          refine mm_lsw (off := 43) (tgt := 44) dX4_sortOf_1 (by decide) (by rw [c4]; decide) (by decide) ?_
          refine mm_iconst (q := 45) dX4_sortOf_44 rfl ic_0 ?_
          exact mm_iret rfl dX4_sortOf_45
        · simp only [if_neg c4]
          refine mm_lsw (off := 51) (tgt := 52) dX4_sortOf_1 (by decide) (by show Op.lookupswitch.offset [(98, 49), (109, 47), (111, 45), (112, 43)] 51 _ = _; rw [lv_osw c1 (show (98 : Int32).toInt = 98 by decide)]; rw [lv_osw c2 (show (109 : Int32).toInt = 109 by decide)]; rw [lv_osw c3 (show (111 : Int32).toInt = 111 by decide)]; rw [lv_osw c4 (show (112 : Int32).toInt = 112 by decide)]; rfl) (by decide) ?_
          refine mm_iconst (q := 53) dX4_sortOf_52 rfl ic_m1 ?_
          exact mm_iret rfl dX4_sortOf_53
def fX4_within (x0 : Int32) (x1 : Int32) (x2 : Int32) (x3 : Int32)  : Int32 :=
  if x0 < x1 then
    (-1 : Int32)
  else
    if x0 ≤ x2 then
      x0 - x3
    else
      (-1 : Int32)
set_option maxRecDepth 100000 in
set_option maxHeartbeats 4000000 in
theorem fX4_within_ok (x0 : Int32) (x1 : Int32) (x2 : Int32) (x3 : Int32) (M : mm_M)  : mm_E LC yX4_within cX4_within 4 (some .int) 0 (mm_pI M) [.int x0, .int x1, .int x2, .int x3] M (some (fX4_within x0 x1 x2 x3)) := by
  refine mm_E.of (own := RX4) (ls := [some (.int x0), some (.int x1), some (.int x2), some (.int x3)]) (by decide) rfl rfl (Nat.le_of_ble_eq_true rfl) ?_
  unfold fX4_within
  refine mm_iload_n (q := 1) dX4_within_0 rfl rfl rfl ?_
  refine mm_iload_n (q := 2) dX4_within_1 rfl rfl rfl ?_
  by_cases c1 : x0 < x1
  · simp only [if_pos c1]
    refine mm_icmp_lt_t (tgt := 10) c1 dX4_within_2 (by decide) ?_
    refine mm_iconst (q := 11) dX4_within_10 rfl ic_m1 ?_
    refine mm_goto (tgt := 17) dX4_within_11 (by decide) ?_
    exact mm_iret rfl dX4_within_17
  · simp only [if_neg c1]
    refine mm_icmp_lt_f (q := 5) (tgt := 10) c1 dX4_within_2 rfl (by decide) ?_
    refine mm_iload_n (q := 6) dX4_within_5 rfl rfl rfl ?_
    refine mm_iload_n (q := 7) dX4_within_6 rfl rfl rfl ?_
    by_cases c2 : x0 ≤ x2
    · simp only [if_pos c2]
      refine mm_icmp_le_t (tgt := 14) c2 dX4_within_7 (by decide) ?_
      refine mm_iload_n (q := 15) dX4_within_14 rfl rfl rfl ?_
      refine mm_iload_n (q := 16) dX4_within_15 rfl rfl rfl ?_
      refine mm_isub (q := 17) dX4_within_16 rfl ?_
      exact mm_iret rfl dX4_within_17
    · simp only [if_neg c2]
      refine mm_icmp_le_f (q := 10) (tgt := 14) c2 dX4_within_7 rfl (by decide) ?_
      refine mm_iconst (q := 11) dX4_within_10 rfl ic_m1 ?_
      refine mm_goto (tgt := 17) dX4_within_11 (by decide) ?_
      exact mm_iret rfl dX4_within_17
def fX4_meaning_J72 (r0 : Nat) (x1 : Int32) (s0 : Int32) (s1 : Int32)  (M : mm_M) : Int32 :=
  if x1 = (2 : Int32) then
    fX4_within s1 s0 (57 : Int32) (48 : Int32)
  else
    fX4_within s1 s0 (55 : Int32) (48 : Int32)
set_option maxRecDepth 100000 in
set_option maxHeartbeats 4000000 in
theorem fX4_meaning_J72_ok (r0 : Nat) (x1 : Int32) (s0 : Int32) (s1 : Int32)  (M : mm_M) (h0 : isTx r0)   : mm_C LC cX4_meaning 3 RX4 (some .int) 1 (mm_pI M) 72 [none, some (.int x1), none] [.int s0, .int s1] M (some (fX4_meaning_J72 r0 x1 s0 s1 M)) := by
  unfold fX4_meaning_J72
  refine mm_iload_n (q := 73) dX4_meaning_72 rfl rfl rfl ?_
  refine mm_iconst (q := 74) dX4_meaning_73 rfl ic_2 ?_
  by_cases c7 : x1 = (2 : Int32)
  · simp only [if_pos c7]
    refine mm_icmp_ne_t (q := 77) (tgt := 82) c7 dX4_meaning_74 rfl (by decide) ?_
    refine mm_bipush (q := 79) dX4_meaning_77 rfl bp_57 ?_
    refine mm_goto (tgt := 84) dX4_meaning_79 (by decide) ?_
    refine mm_bipush (q := 86) dX4_meaning_84 rfl bp_48 ?_
    refine mm_callST (as := [.int s1, .int s0, .int (57 : Int32), .int (48 : Int32)]) (st := []) (q := 89) (fX4_within_ok s1 s0 (57 : Int32) (48 : Int32) M) ms_X4_48 rfl (Nat.le_of_ble_eq_true rfl) (Nat.le_of_ble_eq_true rfl) rfl dX4_meaning_86 rfl ?_
    exact mm_iret rfl dX4_meaning_89
  · simp only [if_neg c7]
    refine mm_icmp_ne_f (tgt := 82) c7 dX4_meaning_74 (by decide) ?_
    refine mm_bipush (q := 84) dX4_meaning_82 rfl bp_55 ?_
    refine mm_bipush (q := 86) dX4_meaning_84 rfl bp_48 ?_
    refine mm_callST (as := [.int s1, .int s0, .int (55 : Int32), .int (48 : Int32)]) (st := []) (q := 89) (fX4_within_ok s1 s0 (55 : Int32) (48 : Int32) M) ms_X4_48 rfl (Nat.le_of_ble_eq_true rfl) (Nat.le_of_ble_eq_true rfl) rfl dX4_meaning_86 rfl ?_
    exact mm_iret rfl dX4_meaning_89
def fX4_meaning (r0 : Nat) (x1 : Int32) (x2 : Int32) (M : mm_M) : Int32 :=
  if x1 = ((M r0 1) - (1 : Int32)) then
    (if x2 = (59 : Int32) then
      (0 : Int32)
    else
      (-1 : Int32))
  else
    if (M r0 0) = 0 then
      (if x1 = 0 then
        fX4_sortOf x2
      else
        fX4_within x2 (97 : Int32) (120 : Int32) (97 : Int32))
    else
      if (M r0 0) = (1 : Int32) then
        fX4_meaning_J72 r0 x1 (if x1 = (2 : Int32) then (49 : Int32) else (48 : Int32)) x2 M
      else
        if x1 = 0 then
          fX4_within x2 (97 : Int32) (120 : Int32) (97 : Int32)
        else
          fX4_within x2 (48 : Int32) (55 : Int32) (48 : Int32)
set_option maxRecDepth 100000 in
set_option maxHeartbeats 4000000 in
theorem fX4_meaning_ok (r0 : Nat) (x1 : Int32) (x2 : Int32) (M : mm_M) (h0 : isTx r0) : mm_E LC yX4_meaning cX4_meaning 3 (some .int) 1 (mm_pI M) [.ref r0, .int x1, .int x2] M (some (fX4_meaning r0 x1 x2 M)) := by
  refine mm_E.of (own := RX4) (ls := [some (.ref r0), some (.int x1), some (.int x2)]) (by decide) rfl rfl (Nat.le_of_ble_eq_true rfl) ?_
  unfold fX4_meaning
  refine mm_iload_n (q := 1) dX4_meaning_0 rfl rfl rfl ?_
  refine mm_aload_n (q := 2) dX4_meaning_1 rfl rfl rfl ?_
  refine mm_getI (q := 5) dX4_meaning_2 rfl (lc_Tx h0) fd_X4_18 rfl ?_
  refine mm_iconst (q := 6) dX4_meaning_5 rfl ic_1 ?_
  refine mm_isub (q := 7) dX4_meaning_6 rfl ?_
  by_cases c1 : x1 = ((M r0 1) - (1 : Int32))
  · simp only [if_pos c1]
    refine mm_icmp_ne_t (q := 10) (tgt := 22) c1 dX4_meaning_7 rfl (by decide) ?_
    refine mm_iload_n (q := 11) dX4_meaning_10 rfl rfl rfl ?_
    refine mm_bipush (q := 13) dX4_meaning_11 rfl bp_59 ?_
    by_cases c2 : x2 = (59 : Int32)
    · simp only [if_pos c2]
      refine mm_icmp_ne_t (q := 16) (tgt := 20) c2 dX4_meaning_13 rfl (by decide) ?_
      refine mm_iconst (q := 17) dX4_meaning_16 rfl ic_0 ?_
      refine mm_goto (tgt := 21) dX4_meaning_17 (by decide) ?_
      exact mm_iret rfl dX4_meaning_21
    · simp only [if_neg c2]
      refine mm_icmp_ne_f (tgt := 20) c2 dX4_meaning_13 (by decide) ?_
      refine mm_iconst (q := 21) dX4_meaning_20 rfl ic_m1 ?_
      exact mm_iret rfl dX4_meaning_21
  · simp only [if_neg c1]
    refine mm_icmp_ne_f (tgt := 22) c1 dX4_meaning_7 (by decide) ?_
    refine mm_aload_n (q := 23) dX4_meaning_22 rfl rfl rfl ?_
    refine mm_getI (q := 26) dX4_meaning_23 rfl (lc_Tx h0) fd_X4_15 rfl ?_
    by_cases c3 : (M r0 0) = 0
    · simp only [if_pos c3]
      refine mm_if_ne_t (q := 29) (tgt := 51) c3 dX4_meaning_26 rfl (by decide) ?_
      refine mm_iload_n (q := 30) dX4_meaning_29 rfl rfl rfl ?_
      by_cases c4 : x1 = 0
      · simp only [if_pos c4]
        refine mm_if_ne_t (q := 33) (tgt := 40) c4 dX4_meaning_30 rfl (by decide) ?_
        refine mm_iload_n (q := 34) dX4_meaning_33 rfl rfl rfl ?_
        refine mm_callST (as := [.int x2]) (st := []) (q := 37) (fX4_sortOf_ok x2 M) ms_X4_44 rfl (Nat.le_of_ble_eq_true rfl) (Nat.le_of_ble_eq_true rfl) rfl dX4_meaning_34 rfl ?_
        refine mm_goto (tgt := 50) dX4_meaning_37 (by decide) ?_
        exact mm_iret rfl dX4_meaning_50
      · simp only [if_neg c4]
        refine mm_if_ne_f (tgt := 40) c4 dX4_meaning_30 (by decide) ?_
        refine mm_iload_n (q := 41) dX4_meaning_40 rfl rfl rfl ?_
        refine mm_bipush (q := 43) dX4_meaning_41 rfl bp_97 ?_
        refine mm_bipush (q := 45) dX4_meaning_43 rfl bp_120 ?_
        refine mm_bipush (q := 47) dX4_meaning_45 rfl bp_97 ?_
        refine mm_callST (as := [.int x2, .int (97 : Int32), .int (120 : Int32), .int (97 : Int32)]) (st := []) (q := 50) (fX4_within_ok x2 (97 : Int32) (120 : Int32) (97 : Int32) M) ms_X4_48 rfl (Nat.le_of_ble_eq_true rfl) (Nat.le_of_ble_eq_true rfl) rfl dX4_meaning_47 rfl ?_
        exact mm_iret rfl dX4_meaning_50
    · simp only [if_neg c3]
      refine mm_if_ne_f (tgt := 51) c3 dX4_meaning_26 (by decide) ?_
      refine mm_aload_n (q := 52) dX4_meaning_51 rfl rfl rfl ?_
      refine mm_getI (q := 55) dX4_meaning_52 rfl (lc_Tx h0) fd_X4_15 rfl ?_
      refine mm_iconst (q := 56) dX4_meaning_55 rfl ic_1 ?_
      by_cases c5 : (M r0 0) = (1 : Int32)
      · simp only [if_pos c5]
        refine mm_icmp_ne_t (q := 59) (tgt := 90) c5 dX4_meaning_56 rfl (by decide) ?_
        refine mm_iload_n (q := 60) dX4_meaning_59 rfl rfl rfl ?_
        refine mm_iload_n (q := 61) dX4_meaning_60 rfl rfl rfl ?_
        refine mm_iconst (q := 62) dX4_meaning_61 rfl ic_2 ?_
        by_cases c6 : x1 = (2 : Int32)
        · simp only [if_pos c6]
          refine mm_icmp_ne_t (q := 65) (tgt := 70) c6 dX4_meaning_62 rfl (by decide) ?_
          refine mm_bipush (q := 67) dX4_meaning_65 rfl bp_49 ?_
          refine mm_goto (tgt := 72) dX4_meaning_67 (by decide) ?_
          refine mm_drop (ls' := [none, some (.int x1), none]) (mm_sub_at _ _ (And.intro rfl trivial)) ?_
          exact fX4_meaning_J72_ok r0 _ _ _ _ h0
        · simp only [if_neg c6]
          refine mm_icmp_ne_f (tgt := 70) c6 dX4_meaning_62 (by decide) ?_
          refine mm_bipush (q := 72) dX4_meaning_70 rfl bp_48 ?_
          refine mm_drop (ls' := [none, some (.int x1), none]) (mm_sub_at _ _ (And.intro rfl trivial)) ?_
          exact fX4_meaning_J72_ok r0 _ _ _ _ h0
      · simp only [if_neg c5]
        refine mm_icmp_ne_f (tgt := 90) c5 dX4_meaning_56 (by decide) ?_
        refine mm_iload_n (q := 91) dX4_meaning_90 rfl rfl rfl ?_
        by_cases c8 : x1 = 0
        · simp only [if_pos c8]
          refine mm_if_ne_t (q := 94) (tgt := 107) c8 dX4_meaning_91 rfl (by decide) ?_
          refine mm_iload_n (q := 95) dX4_meaning_94 rfl rfl rfl ?_
          refine mm_bipush (q := 97) dX4_meaning_95 rfl bp_97 ?_
          refine mm_bipush (q := 99) dX4_meaning_97 rfl bp_120 ?_
          refine mm_bipush (q := 101) dX4_meaning_99 rfl bp_97 ?_
          refine mm_callST (as := [.int x2, .int (97 : Int32), .int (120 : Int32), .int (97 : Int32)]) (st := []) (q := 104) (fX4_within_ok x2 (97 : Int32) (120 : Int32) (97 : Int32) M) ms_X4_48 rfl (Nat.le_of_ble_eq_true rfl) (Nat.le_of_ble_eq_true rfl) rfl dX4_meaning_101 rfl ?_
          refine mm_goto (tgt := 117) dX4_meaning_104 (by decide) ?_
          exact mm_iret rfl dX4_meaning_117
        · simp only [if_neg c8]
          refine mm_if_ne_f (tgt := 107) c8 dX4_meaning_91 (by decide) ?_
          refine mm_iload_n (q := 108) dX4_meaning_107 rfl rfl rfl ?_
          refine mm_bipush (q := 110) dX4_meaning_108 rfl bp_48 ?_
          refine mm_bipush (q := 112) dX4_meaning_110 rfl bp_55 ?_
          refine mm_bipush (q := 114) dX4_meaning_112 rfl bp_48 ?_
          refine mm_callST (as := [.int x2, .int (48 : Int32), .int (55 : Int32), .int (48 : Int32)]) (st := []) (q := 117) (fX4_within_ok x2 (48 : Int32) (55 : Int32) (48 : Int32) M) ms_X4_48 rfl (Nat.le_of_ble_eq_true rfl) (Nat.le_of_ble_eq_true rfl) rfl dX4_meaning_114 rfl ?_
          exact mm_iret rfl dX4_meaning_117
def fX4_append (r0 : Nat) (x1 : Int32) (M : mm_M) : Option (mm_M) :=
  if (fX4_isFull r0 M) = 0 then
    ((mm_rm (M r0 3) (M r0 1)).bind fun b2 =>
    (mm_wa M (r0 + 1) (tl r0) (M r0 3) (fX4_meaning r0 b2 x1 M)).bind fun M3 =>
    if (M3 r0 4) = (-1 : Int32) then
      ((mm_rd M3 (r0 + 1) (tl r0) (M3 r0 3)).bind fun b5 =>
      if b5 = (-1 : Int32) then
        ((mm_pf M3 r0 4 (M3 r0 3)).bind fun M7 =>
        (mm_pf M7 r0 3 ((M7 r0 3) + (1 : Int32))).bind fun M8 =>
        some M8)
      else
        (mm_pf M3 r0 3 ((M3 r0 3) + (1 : Int32))).bind fun M9 =>
        some M9)
    else
      (mm_pf M3 r0 3 ((M3 r0 3) + (1 : Int32))).bind fun M10 =>
      some M10)
  else
    some M
set_option maxRecDepth 100000 in
set_option maxHeartbeats 4000000 in
theorem fX4_append_ok (r0 : Nat) (x1 : Int32) (M : mm_M) (h0 : isTx r0) : mm_E LC yX4_append cX4_append 2 none 2 mm_eV [.ref r0, .int x1] M (fX4_append r0 x1 M) := by
  refine mm_E.of (own := RX4) (ls := [some (.ref r0), some (.int x1)]) (by decide) rfl rfl (Nat.le_of_ble_eq_true rfl) ?_
  unfold fX4_append
  refine mm_aload_n (q := 1) dX4_append_0 rfl rfl rfl ?_
  refine mm_callVT (as := []) (st := []) (q := 4) (lc_Tx h0) rfl (fX4_isFull_ok r0 M h0) ms_X4_28 rfl (Nat.le_of_ble_eq_true rfl) (Nat.le_of_ble_eq_true rfl) rfl dX4_append_1 rfl ?_
  refine mm_if_eq (q := 7) (tgt := 8) dX4_append_4 rfl (by decide) (fun c1 => ?_) (fun c1 => ?_)
  · refine mm_aload_n (q := 9) dX4_append_8 rfl rfl rfl ?_
    refine mm_getR (q := 12) (k1 := (r0 + 1)) dX4_append_9 rfl (lc_Tx h0) fd_X4_21 rfl ?_
    refine mm_aload_n (q := 13) dX4_append_12 rfl rfl rfl ?_
    refine mm_getI (q := 16) dX4_append_13 rfl (lc_Tx h0) fd_X4_25 rfl ?_
    refine mm_aload_n (q := 17) dX4_append_16 rfl rfl rfl ?_
    refine mm_aload_n (q := 18) dX4_append_17 rfl rfl rfl ?_
    refine mm_getI (q := 21) dX4_append_18 rfl (lc_Tx h0) fd_X4_25 rfl ?_
    refine mm_aload_n (q := 22) dX4_append_21 rfl rfl rfl ?_
    refine mm_getI (q := 25) dX4_append_22 rfl (lc_Tx h0) fd_X4_18 rfl ?_
    refine mm_irem (q := 26) dX4_append_25 rfl (fun b2 _ => ?_)
    refine mm_iload_n (q := 27) dX4_append_26 rfl rfl rfl ?_
    refine mm_callVT (as := [.int b2, .int x1]) (st := [.int (M r0 3), .ref (r0 + 1)]) (q := 30) (lc_Tx h0) rfl (fX4_meaning_ok r0 b2 x1 M h0) ms_X4_32 rfl (Nat.le_of_ble_eq_true rfl) (Nat.le_of_ble_eq_true rfl) rfl dX4_append_27 rfl ?_
    refine mm_iast (q := 31) dX4_append_30 rfl (lc_Tx_1 h0) (fun M3 _ => ?_)
    refine mm_aload_n (q := 32) dX4_append_31 rfl rfl rfl ?_
    refine mm_getI (q := 35) dX4_append_32 rfl (lc_Tx h0) fd_X4_9 rfl ?_
    refine mm_iconst (q := 36) dX4_append_35 rfl ic_m1 ?_
    refine mm_icmp_ne (q := 39) (tgt := 60) dX4_append_36 rfl (by decide) (fun c4 => ?_) (fun c4 => ?_)
    · refine mm_aload_n (q := 40) dX4_append_39 rfl rfl rfl ?_
      refine mm_getR (q := 43) (k1 := (r0 + 1)) dX4_append_40 rfl (lc_Tx h0) fd_X4_21 rfl ?_
      refine mm_aload_n (q := 44) dX4_append_43 rfl rfl rfl ?_
      refine mm_getI (q := 47) dX4_append_44 rfl (lc_Tx h0) fd_X4_25 rfl ?_
      refine mm_iald (q := 48) dX4_append_47 rfl (lc_Tx_1 h0) (fun b5 _ => ?_)
      refine mm_iconst (q := 49) dX4_append_48 rfl ic_m1 ?_
      refine mm_icmp_ne (q := 52) (tgt := 60) dX4_append_49 rfl (by decide) (fun c6 => ?_) (fun c6 => ?_)
      · refine mm_aload_n (q := 53) dX4_append_52 rfl rfl rfl ?_
        refine mm_aload_n (q := 54) dX4_append_53 rfl rfl rfl ?_
        refine mm_getI (q := 57) dX4_append_54 rfl (lc_Tx h0) fd_X4_25 rfl ?_
        refine mm_put (q := 60) dX4_append_57 rfl (lc_Tx h0) fd_X4_9 ps_X4_4 rfl rfl rfl (fun M7 _ => ?_)
        refine mm_aload_n (q := 61) dX4_append_60 rfl rfl rfl ?_
        refine mm_dup (q := 62) dX4_append_61 rfl rfl ?_
        refine mm_getI (q := 65) dX4_append_62 rfl (lc_Tx h0) fd_X4_25 rfl ?_
        refine mm_iconst (q := 66) dX4_append_65 rfl ic_1 ?_
        refine mm_iadd (q := 67) dX4_append_66 rfl ?_
        refine mm_put (q := 70) dX4_append_67 rfl (lc_Tx h0) fd_X4_25 ps_X4_3 rfl rfl rfl (fun M8 _ => ?_)
        exact mm_vret rfl dX4_append_70
      · refine mm_aload_n (q := 61) dX4_append_60 rfl rfl rfl ?_
        refine mm_dup (q := 62) dX4_append_61 rfl rfl ?_
        refine mm_getI (q := 65) dX4_append_62 rfl (lc_Tx h0) fd_X4_25 rfl ?_
        refine mm_iconst (q := 66) dX4_append_65 rfl ic_1 ?_
        refine mm_iadd (q := 67) dX4_append_66 rfl ?_
        refine mm_put (q := 70) dX4_append_67 rfl (lc_Tx h0) fd_X4_25 ps_X4_3 rfl rfl rfl (fun M9 _ => ?_)
        exact mm_vret rfl dX4_append_70
    · refine mm_aload_n (q := 61) dX4_append_60 rfl rfl rfl ?_
      refine mm_dup (q := 62) dX4_append_61 rfl rfl ?_
      refine mm_getI (q := 65) dX4_append_62 rfl (lc_Tx h0) fd_X4_25 rfl ?_
      refine mm_iconst (q := 66) dX4_append_65 rfl ic_1 ?_
      refine mm_iadd (q := 67) dX4_append_66 rfl ?_
      refine mm_put (q := 70) dX4_append_67 rfl (lc_Tx h0) fd_X4_25 ps_X4_3 rfl rfl rfl (fun M10 _ => ?_)
      exact mm_vret rfl dX4_append_70
  · exact mm_vret rfl dX4_append_7
def fX4_cutTo (r0 : Nat) (x1 : Int32) (M : mm_M) : Option (mm_M) :=
  if x1 < 0 then
    some M
  else
    if x1 ≤ (M r0 3) then
      ((mm_pf M r0 3 x1).bind fun M3 =>
      if (M3 r0 4) < (M3 r0 3) then
        some M3
      else
        (mm_pf M3 r0 4 (-1 : Int32)).bind fun M5 =>
        some M5)
    else
      some M
set_option maxRecDepth 100000 in
set_option maxHeartbeats 4000000 in
theorem fX4_cutTo_ok (r0 : Nat) (x1 : Int32) (M : mm_M) (h0 : isTx r0) : mm_E LC yX4_cutTo cX4_cutTo 2 none 0 mm_eV [.ref r0, .int x1] M (fX4_cutTo r0 x1 M) := by
  refine mm_E.of (own := RX4) (ls := [some (.ref r0), some (.int x1)]) (by decide) rfl rfl (Nat.le_of_ble_eq_true rfl) ?_
  unfold fX4_cutTo
  refine mm_iload_n (q := 1) dX4_cutTo_0 rfl rfl rfl ?_
  refine mm_if_lt (q := 4) (tgt := 12) dX4_cutTo_1 rfl (by decide) (fun c1 => ?_) (fun c1 => ?_)
  · exact mm_vret rfl dX4_cutTo_12
  · refine mm_iload_n (q := 5) dX4_cutTo_4 rfl rfl rfl ?_
    refine mm_aload_n (q := 6) dX4_cutTo_5 rfl rfl rfl ?_
    refine mm_getI (q := 9) dX4_cutTo_6 rfl (lc_Tx h0) fd_X4_25 rfl ?_
    refine mm_icmp_le (q := 12) (tgt := 13) dX4_cutTo_9 rfl (by decide) (fun c2 => ?_) (fun c2 => ?_)
    · refine mm_aload_n (q := 14) dX4_cutTo_13 rfl rfl rfl ?_
      refine mm_iload_n (q := 15) dX4_cutTo_14 rfl rfl rfl ?_
      refine mm_put (q := 18) dX4_cutTo_15 rfl (lc_Tx h0) fd_X4_25 ps_X4_3 rfl rfl rfl (fun M3 _ => ?_)
      refine mm_aload_n (q := 19) dX4_cutTo_18 rfl rfl rfl ?_
      refine mm_getI (q := 22) dX4_cutTo_19 rfl (lc_Tx h0) fd_X4_9 rfl ?_
      refine mm_aload_n (q := 23) dX4_cutTo_22 rfl rfl rfl ?_
      refine mm_getI (q := 26) dX4_cutTo_23 rfl (lc_Tx h0) fd_X4_25 rfl ?_
      refine mm_icmp_lt (q := 29) (tgt := 34) dX4_cutTo_26 rfl (by decide) (fun c4 => ?_) (fun c4 => ?_)
      · exact mm_vret rfl dX4_cutTo_34
      · refine mm_aload_n (q := 30) dX4_cutTo_29 rfl rfl rfl ?_
        refine mm_iconst (q := 31) dX4_cutTo_30 rfl ic_m1 ?_
        refine mm_put (q := 34) dX4_cutTo_31 rfl (lc_Tx h0) fd_X4_9 ps_X4_4 rfl rfl rfl (fun M5 _ => ?_)
        exact mm_vret rfl dX4_cutTo_34
    · exact mm_vret rfl dX4_cutTo_12
def fX4_faultPlace (r0 : Nat) (M : mm_M) : Option (Int32) :=
  if (M r0 4) = (-1 : Int32) then
    (if (M r0 3) = 0 then
      some (-1 : Int32)
    else
      (mm_rm (M r0 3) (M r0 1)).bind fun b3 =>
      if b3 = ((M r0 1) - (1 : Int32)) then
        some (-1 : Int32)
      else
        some (M r0 3))
  else
    some (M r0 4)
set_option maxRecDepth 100000 in
set_option maxHeartbeats 4000000 in
theorem fX4_faultPlace_ok (r0 : Nat) (M : mm_M) (h0 : isTx r0) : mm_E LC yX4_faultPlace cX4_faultPlace 1 (some .int) 0 (mm_pI M) [.ref r0] M (fX4_faultPlace r0 M) := by
  refine mm_E.of (own := RX4) (ls := [some (.ref r0)]) (by decide) rfl rfl (Nat.le_of_ble_eq_true rfl) ?_
  unfold fX4_faultPlace
  refine mm_aload_n (q := 1) dX4_faultPlace_0 rfl rfl rfl ?_
  refine mm_getI (q := 4) dX4_faultPlace_1 rfl (lc_Tx h0) fd_X4_9 rfl ?_
  refine mm_iconst (q := 5) dX4_faultPlace_4 rfl ic_m1 ?_
  refine mm_icmp_eq (q := 8) (tgt := 13) dX4_faultPlace_5 rfl (by decide) (fun c1 => ?_) (fun c1 => ?_)
  · refine mm_aload_n (q := 14) dX4_faultPlace_13 rfl rfl rfl ?_
    refine mm_getI (q := 17) dX4_faultPlace_14 rfl (lc_Tx h0) fd_X4_25 rfl ?_
    refine mm_if_eq (q := 20) (tgt := 38) dX4_faultPlace_17 rfl (by decide) (fun c2 => ?_) (fun c2 => ?_)
    · refine mm_iconst (q := 39) dX4_faultPlace_38 rfl ic_m1 ?_
      refine mm_goto (tgt := 46) dX4_faultPlace_39 (by decide) ?_
      exact mm_iret rfl dX4_faultPlace_46
    · refine mm_aload_n (q := 21) dX4_faultPlace_20 rfl rfl rfl ?_
      refine mm_getI (q := 24) dX4_faultPlace_21 rfl (lc_Tx h0) fd_X4_25 rfl ?_
      refine mm_aload_n (q := 25) dX4_faultPlace_24 rfl rfl rfl ?_
      refine mm_getI (q := 28) dX4_faultPlace_25 rfl (lc_Tx h0) fd_X4_18 rfl ?_
      refine mm_irem (q := 29) dX4_faultPlace_28 rfl (fun b3 _ => ?_)
      refine mm_aload_n (q := 30) dX4_faultPlace_29 rfl rfl rfl ?_
      refine mm_getI (q := 33) dX4_faultPlace_30 rfl (lc_Tx h0) fd_X4_18 rfl ?_
      refine mm_iconst (q := 34) dX4_faultPlace_33 rfl ic_1 ?_
      refine mm_isub (q := 35) dX4_faultPlace_34 rfl ?_
      refine mm_icmp_ne (q := 38) (tgt := 42) dX4_faultPlace_35 rfl (by decide) (fun c4 => ?_) (fun c4 => ?_)
      · refine mm_iconst (q := 39) dX4_faultPlace_38 rfl ic_m1 ?_
        refine mm_goto (tgt := 46) dX4_faultPlace_39 (by decide) ?_
        exact mm_iret rfl dX4_faultPlace_46
      · refine mm_aload_n (q := 43) dX4_faultPlace_42 rfl rfl rfl ?_
        refine mm_getI (q := 46) dX4_faultPlace_43 rfl (lc_Tx h0) fd_X4_25 rfl ?_
        exact mm_iret rfl dX4_faultPlace_46
  · refine mm_aload_n (q := 9) dX4_faultPlace_8 rfl rfl rfl ?_
    refine mm_getI (q := 12) dX4_faultPlace_9 rfl (lc_Tx h0) fd_X4_9 rfl ?_
    exact mm_iret rfl dX4_faultPlace_12
def fX4_size (r0 : Nat) (M : mm_M) : Int32 :=
  M r0 3
set_option maxRecDepth 100000 in
set_option maxHeartbeats 4000000 in
theorem fX4_size_ok (r0 : Nat) (M : mm_M) (h0 : isTx r0) : mm_E LC yX4_size cX4_size 1 (some .int) 0 (mm_pI M) [.ref r0] M (some (fX4_size r0 M)) := by
  refine mm_E.of (own := RX4) (ls := [some (.ref r0)]) (by decide) rfl rfl (Nat.le_of_ble_eq_true rfl) ?_
  unfold fX4_size
  refine mm_aload_n (q := 1) dX4_size_0 rfl rfl rfl ?_
  refine mm_getI (q := 4) dX4_size_1 rfl (lc_Tx h0) fd_X4_25 rfl ?_
  exact mm_iret rfl dX4_size_4
def fX4_things (r0 : Nat) (M : mm_M) : Option (Int32) :=
  (fX4_faultPlace r0 M).bind fun b1 =>
  if b1 = (-1 : Int32) then
    ((mm_dv ((M r0 3) + (1 : Int32)) (M r0 1)).bind fun b3 =>
    some b3)
  else
    some (0 : Int32)
set_option maxRecDepth 100000 in
set_option maxHeartbeats 4000000 in
theorem fX4_things_ok (r0 : Nat) (M : mm_M) (h0 : isTx r0) : mm_E LC yX4_things cX4_things 1 (some .int) 1 (mm_pI M) [.ref r0] M (fX4_things r0 M) := by
  refine mm_E.of (own := RX4) (ls := [some (.ref r0)]) (by decide) rfl rfl (Nat.le_of_ble_eq_true rfl) ?_
  unfold fX4_things
  refine mm_aload_n (q := 1) dX4_things_0 rfl rfl rfl ?_
  refine mm_callVP (as := []) (st := []) (q := 4) (lc_Tx h0) rfl (fX4_faultPlace_ok r0 M h0) ms_X4_36 rfl (Nat.le_of_ble_eq_true rfl) (Nat.le_of_ble_eq_true rfl) rfl dX4_things_1 rfl (fun b1 _ => ?_)
  refine mm_iconst (q := 5) dX4_things_4 rfl ic_m1 ?_
  refine mm_icmp_ne (q := 8) (tgt := 22) dX4_things_5 rfl (by decide) (fun c2 => ?_) (fun c2 => ?_)
  · refine mm_aload_n (q := 9) dX4_things_8 rfl rfl rfl ?_
    refine mm_getI (q := 12) dX4_things_9 rfl (lc_Tx h0) fd_X4_25 rfl ?_
    refine mm_iconst (q := 13) dX4_things_12 rfl ic_1 ?_
    refine mm_iadd (q := 14) dX4_things_13 rfl ?_
    refine mm_aload_n (q := 15) dX4_things_14 rfl rfl rfl ?_
    refine mm_getI (q := 18) dX4_things_15 rfl (lc_Tx h0) fd_X4_18 rfl ?_
    refine mm_idiv (q := 19) dX4_things_18 rfl (fun b3 _ => ?_)
    refine mm_goto (tgt := 23) dX4_things_19 (by decide) ?_
    exact mm_iret rfl dX4_things_23
  · refine mm_iconst (q := 23) dX4_things_22 rfl ic_0 ?_
    exact mm_iret rfl dX4_things_23
def fX4_valueOf (r0 : Nat) (x1 : Int32) (x2 : Int32) (M : mm_M) : Option (Int32) :=
  if (fX6_isOutside ((x1 * (M r0 1)) + x2) (M r0 3)) = 0 then
    ((mm_rd M (r0 + 1) (tl r0) ((x1 * (M r0 1)) + x2)).bind fun b2 =>
    some b2)
  else
    some (-1 : Int32)
set_option maxRecDepth 100000 in
set_option maxHeartbeats 4000000 in
theorem fX4_valueOf_ok (r0 : Nat) (x1 : Int32) (x2 : Int32) (M : mm_M) (h0 : isTx r0) : mm_E LC yX4_valueOf cX4_valueOf 4 (some .int) 1 (mm_pI M) [.ref r0, .int x1, .int x2] M (fX4_valueOf r0 x1 x2 M) := by
  refine mm_E.of (own := RX4) (ls := [some (.ref r0), some (.int x1), some (.int x2), none]) (by decide) rfl rfl (Nat.le_of_ble_eq_true rfl) ?_
  unfold fX4_valueOf
  refine mm_iload_n (q := 1) dX4_valueOf_0 rfl rfl rfl ?_
  refine mm_aload_n (q := 2) dX4_valueOf_1 rfl rfl rfl ?_
  refine mm_getI (q := 5) dX4_valueOf_2 rfl (lc_Tx h0) fd_X4_18 rfl ?_
  refine mm_imul (q := 6) dX4_valueOf_5 rfl ?_
  refine mm_iload_n (q := 7) dX4_valueOf_6 rfl rfl rfl ?_
  refine mm_iadd (q := 8) dX4_valueOf_7 rfl ?_
  refine mm_istore_n (q := 9) (ls' := [some (.ref r0), some (.int x1), some (.int x2), some (.int ((x1 * (M r0 1)) + x2))]) dX4_valueOf_8 rfl rfl rfl (Nat.le_of_ble_eq_true rfl) rfl ?_
  refine mm_iload_n (q := 10) dX4_valueOf_9 rfl rfl rfl ?_
  refine mm_aload_n (q := 11) dX4_valueOf_10 rfl rfl rfl ?_
  refine mm_getI (q := 14) dX4_valueOf_11 rfl (lc_Tx h0) fd_X4_25 rfl ?_
  refine mm_callSNT (as := [.int ((x1 * (M r0 1)) + x2), .int (M r0 3)]) (st := []) (q := 17) (fX6_isOutside_ok ((x1 * (M r0 1)) + x2) (M r0 3) M) ms_X4_40 rfl (Nat.le_of_ble_eq_true rfl) (Nat.le_of_ble_eq_true rfl) rfl dX4_valueOf_14 rfl ?_
  refine mm_if_eq (q := 20) (tgt := 24) dX4_valueOf_17 rfl (by decide) (fun c1 => ?_) (fun c1 => ?_)
  · refine mm_aload_n (q := 25) dX4_valueOf_24 rfl rfl rfl ?_
    refine mm_getR (q := 28) (k1 := (r0 + 1)) dX4_valueOf_25 rfl (lc_Tx h0) fd_X4_21 rfl ?_
    refine mm_iload_n (q := 29) dX4_valueOf_28 rfl rfl rfl ?_
    refine mm_iald (q := 30) dX4_valueOf_29 rfl (lc_Tx_1 h0) (fun b2 _ => ?_)
    exact mm_iret rfl dX4_valueOf_30
  · refine mm_iconst (q := 21) dX4_valueOf_20 rfl ic_m1 ?_
    refine mm_goto (tgt := 30) dX4_valueOf_21 (by decide) ?_
    exact mm_iret rfl dX4_valueOf_30
def fX5_addMeeting (r0 : Nat) (x1 : Int32) (x2 : Int32) (x3 : Int32) (M : mm_M) : Option (mm_M) :=
  if (13 : Int32) ≤ (M r0 7) then
    some M
  else
    (mm_wa M (r0 + 6) 13 (M r0 7) x1).bind fun M2 =>
    (mm_wa M2 (r0 + 7) 13 (M2 r0 7) x2).bind fun M3 =>
    (mm_wa M3 (r0 + 8) 13 (M3 r0 7) x3).bind fun M4 =>
    (mm_pf M4 r0 7 ((M4 r0 7) + (1 : Int32))).bind fun M5 =>
    some M5
set_option maxRecDepth 100000 in
set_option maxHeartbeats 4000000 in
theorem fX5_addMeeting_ok (r0 : Nat) (x1 : Int32) (x2 : Int32) (x3 : Int32) (M : mm_M) (h0 : isTo r0) : mm_E LC yX5_addMeeting cX5_addMeeting 4 none 0 mm_eV [.ref r0, .int x1, .int x2, .int x3] M (fX5_addMeeting r0 x1 x2 x3 M) := by
  refine mm_E.of (own := RX5) (ls := [some (.ref r0), some (.int x1), some (.int x2), some (.int x3)]) (by decide) rfl rfl (Nat.le_of_ble_eq_true rfl) ?_
  unfold fX5_addMeeting
  refine mm_aload_n (q := 1) dX5_addMeeting_0 rfl rfl rfl ?_
  refine mm_getI (q := 4) dX5_addMeeting_1 rfl (lc_To h0) fd_X5_58 rfl ?_
  refine mm_aload_n (q := 5) dX5_addMeeting_4 rfl rfl rfl ?_
  refine mm_getR (q := 8) (k1 := (r0 + 6)) dX5_addMeeting_5 rfl (lc_To h0) fd_X5_27 rfl ?_
  refine mm_alen (q := 9) (v := (13 : Int32)) dX5_addMeeting_8 rfl (lc_To_6 h0) rfl ?_
  refine mm_icmp_ge (q := 12) (tgt := 52) dX5_addMeeting_9 rfl (by decide) (fun c1 => ?_) (fun c1 => ?_)
  · exact mm_vret rfl dX5_addMeeting_52
  · refine mm_aload_n (q := 13) dX5_addMeeting_12 rfl rfl rfl ?_
    refine mm_getR (q := 16) (k1 := (r0 + 6)) dX5_addMeeting_13 rfl (lc_To h0) fd_X5_27 rfl ?_
    refine mm_aload_n (q := 17) dX5_addMeeting_16 rfl rfl rfl ?_
    refine mm_getI (q := 20) dX5_addMeeting_17 rfl (lc_To h0) fd_X5_58 rfl ?_
    refine mm_iload_n (q := 21) dX5_addMeeting_20 rfl rfl rfl ?_
    refine mm_iast (q := 22) dX5_addMeeting_21 rfl (lc_To_6 h0) (fun M2 _ => ?_)
    refine mm_aload_n (q := 23) dX5_addMeeting_22 rfl rfl rfl ?_
    refine mm_getR (q := 26) (k1 := (r0 + 7)) dX5_addMeeting_23 rfl (lc_To h0) fd_X5_30 rfl ?_
    refine mm_aload_n (q := 27) dX5_addMeeting_26 rfl rfl rfl ?_
    refine mm_getI (q := 30) dX5_addMeeting_27 rfl (lc_To h0) fd_X5_58 rfl ?_
    refine mm_iload_n (q := 31) dX5_addMeeting_30 rfl rfl rfl ?_
    refine mm_iast (q := 32) dX5_addMeeting_31 rfl (lc_To_7 h0) (fun M3 _ => ?_)
    refine mm_aload_n (q := 33) dX5_addMeeting_32 rfl rfl rfl ?_
    refine mm_getR (q := 36) (k1 := (r0 + 8)) dX5_addMeeting_33 rfl (lc_To h0) fd_X5_33 rfl ?_
    refine mm_aload_n (q := 37) dX5_addMeeting_36 rfl rfl rfl ?_
    refine mm_getI (q := 40) dX5_addMeeting_37 rfl (lc_To h0) fd_X5_58 rfl ?_
    refine mm_iload_n (q := 41) dX5_addMeeting_40 rfl rfl rfl ?_
    refine mm_iast (q := 42) dX5_addMeeting_41 rfl (lc_To_8 h0) (fun M4 _ => ?_)
    refine mm_aload_n (q := 43) dX5_addMeeting_42 rfl rfl rfl ?_
    refine mm_dup (q := 44) dX5_addMeeting_43 rfl rfl ?_
    refine mm_getI (q := 47) dX5_addMeeting_44 rfl (lc_To h0) fd_X5_58 rfl ?_
    refine mm_iconst (q := 48) dX5_addMeeting_47 rfl ic_1 ?_
    refine mm_iadd (q := 49) dX5_addMeeting_48 rfl ?_
    refine mm_put (q := 52) dX5_addMeeting_49 rfl (lc_To h0) fd_X5_58 ps_X5_7 rfl rfl rfl (fun M5 _ => ?_)
    exact mm_vret rfl dX5_addMeeting_52
def fX5_becomeLike (r0 : Nat) (r1 : Nat) (M : mm_M) : Option (mm_M) :=
  (mm_pf M r0 0 (M r1 0)).bind fun M1 =>
  (mm_cp M1 (r1 + 1) 8 (0 : Int32) (r0 + 1) 8 (0 : Int32) (M1 r0 0)).bind fun M2 =>
  (mm_cp M2 (r1 + 2) 8 (0 : Int32) (r0 + 2) 8 (0 : Int32) (M2 r0 0)).bind fun M3 =>
  (mm_pf M3 r0 3 (M3 r1 3)).bind fun M4 =>
  (mm_cp M4 (r1 + 3) 12 (0 : Int32) (r0 + 3) 12 (0 : Int32) (M4 r0 3)).bind fun M5 =>
  (mm_cp M5 (r1 + 4) 12 (0 : Int32) (r0 + 4) 12 (0 : Int32) (M5 r0 3)).bind fun M6 =>
  (mm_cp M6 (r1 + 5) 12 (0 : Int32) (r0 + 5) 12 (0 : Int32) (M6 r0 3)).bind fun M7 =>
  (mm_pf M7 r0 7 (M7 r1 7)).bind fun M8 =>
  (mm_cp M8 (r1 + 6) 13 (0 : Int32) (r0 + 6) 13 (0 : Int32) (M8 r0 7)).bind fun M9 =>
  (mm_cp M9 (r1 + 7) 13 (0 : Int32) (r0 + 7) 13 (0 : Int32) (M9 r0 7)).bind fun M10 =>
  (mm_cp M10 (r1 + 8) 13 (0 : Int32) (r0 + 8) 13 (0 : Int32) (M10 r0 7)).bind fun M11 =>
  some M11
set_option maxRecDepth 100000 in
set_option maxHeartbeats 4000000 in
theorem fX5_becomeLike_ok (r0 : Nat) (r1 : Nat) (M : mm_M) (h0 : isTo r0) (h1 : isTo r1) : mm_E LC yX5_becomeLike cX5_becomeLike 2 none 1 mm_eV [.ref r0, .ref r1] M (fX5_becomeLike r0 r1 M) := by
  refine mm_E.of (own := RX5) (ls := [some (.ref r0), some (.ref r1)]) (by decide) rfl rfl (Nat.le_of_ble_eq_true rfl) ?_
  unfold fX5_becomeLike
  refine mm_aload_n (q := 1) dX5_becomeLike_0 rfl rfl rfl ?_
  refine mm_aload_n (q := 2) dX5_becomeLike_1 rfl rfl rfl ?_
  refine mm_getI (q := 5) dX5_becomeLike_2 rfl (lc_To h1) fd_X5_48 rfl ?_
  refine mm_put (q := 8) dX5_becomeLike_5 rfl (lc_To h0) fd_X5_48 ps_X5_0 rfl rfl rfl (fun M1 _ => ?_)
  refine mm_aload_n (q := 9) dX5_becomeLike_8 rfl rfl rfl ?_
  refine mm_getR (q := 12) (k1 := (r1 + 1)) dX5_becomeLike_9 rfl (lc_To h1) fd_X5_9 rfl ?_
  refine mm_iconst (q := 13) dX5_becomeLike_12 rfl ic_0 ?_
  refine mm_aload_n (q := 14) dX5_becomeLike_13 rfl rfl rfl ?_
  refine mm_getR (q := 17) (k1 := (r0 + 1)) dX5_becomeLike_14 rfl (lc_To h0) fd_X5_9 rfl ?_
  refine mm_iconst (q := 18) dX5_becomeLike_17 rfl ic_0 ?_
  refine mm_aload_n (q := 19) dX5_becomeLike_18 rfl rfl rfl ?_
  refine mm_getI (q := 22) dX5_becomeLike_19 rfl (lc_To h0) fd_X5_48 rfl ?_
  refine mm_copy (q := 25) (lc_To_1 h1) (lc_To_1 h0) cs_X5_70 ac_1 ac_2 ac_3 (Nat.le_of_ble_eq_true rfl) (Nat.le_of_ble_eq_true rfl) dX5_becomeLike_22 rfl (fun M2 _ => ?_)
  refine mm_aload_n (q := 26) dX5_becomeLike_25 rfl rfl rfl ?_
  refine mm_getR (q := 29) (k1 := (r1 + 2)) dX5_becomeLike_26 rfl (lc_To h1) fd_X5_15 rfl ?_
  refine mm_iconst (q := 30) dX5_becomeLike_29 rfl ic_0 ?_
  refine mm_aload_n (q := 31) dX5_becomeLike_30 rfl rfl rfl ?_
  refine mm_getR (q := 34) (k1 := (r0 + 2)) dX5_becomeLike_31 rfl (lc_To h0) fd_X5_15 rfl ?_
  refine mm_iconst (q := 35) dX5_becomeLike_34 rfl ic_0 ?_
  refine mm_aload_n (q := 36) dX5_becomeLike_35 rfl rfl rfl ?_
  refine mm_getI (q := 39) dX5_becomeLike_36 rfl (lc_To h0) fd_X5_48 rfl ?_
  refine mm_copy (q := 42) (lc_To_2 h1) (lc_To_2 h0) cs_X5_70 ac_1 ac_2 ac_3 (Nat.le_of_ble_eq_true rfl) (Nat.le_of_ble_eq_true rfl) dX5_becomeLike_39 rfl (fun M3 _ => ?_)
  refine mm_aload_n (q := 43) dX5_becomeLike_42 rfl rfl rfl ?_
  refine mm_aload_n (q := 44) dX5_becomeLike_43 rfl rfl rfl ?_
  refine mm_getI (q := 47) dX5_becomeLike_44 rfl (lc_To h1) fd_X5_55 rfl ?_
  refine mm_put (q := 50) dX5_becomeLike_47 rfl (lc_To h0) fd_X5_55 ps_X5_3 rfl rfl rfl (fun M4 _ => ?_)
  refine mm_aload_n (q := 51) dX5_becomeLike_50 rfl rfl rfl ?_
  refine mm_getR (q := 54) (k1 := (r1 + 3)) dX5_becomeLike_51 rfl (lc_To h1) fd_X5_18 rfl ?_
  refine mm_iconst (q := 55) dX5_becomeLike_54 rfl ic_0 ?_
  refine mm_aload_n (q := 56) dX5_becomeLike_55 rfl rfl rfl ?_
  refine mm_getR (q := 59) (k1 := (r0 + 3)) dX5_becomeLike_56 rfl (lc_To h0) fd_X5_18 rfl ?_
  refine mm_iconst (q := 60) dX5_becomeLike_59 rfl ic_0 ?_
  refine mm_aload_n (q := 61) dX5_becomeLike_60 rfl rfl rfl ?_
  refine mm_getI (q := 64) dX5_becomeLike_61 rfl (lc_To h0) fd_X5_55 rfl ?_
  refine mm_copy (q := 67) (lc_To_3 h1) (lc_To_3 h0) cs_X5_70 ac_1 ac_2 ac_3 (Nat.le_of_ble_eq_true rfl) (Nat.le_of_ble_eq_true rfl) dX5_becomeLike_64 rfl (fun M5 _ => ?_)
  refine mm_aload_n (q := 68) dX5_becomeLike_67 rfl rfl rfl ?_
  refine mm_getR (q := 71) (k1 := (r1 + 4)) dX5_becomeLike_68 rfl (lc_To h1) fd_X5_21 rfl ?_
  refine mm_iconst (q := 72) dX5_becomeLike_71 rfl ic_0 ?_
  refine mm_aload_n (q := 73) dX5_becomeLike_72 rfl rfl rfl ?_
  refine mm_getR (q := 76) (k1 := (r0 + 4)) dX5_becomeLike_73 rfl (lc_To h0) fd_X5_21 rfl ?_
  refine mm_iconst (q := 77) dX5_becomeLike_76 rfl ic_0 ?_
  refine mm_aload_n (q := 78) dX5_becomeLike_77 rfl rfl rfl ?_
  refine mm_getI (q := 81) dX5_becomeLike_78 rfl (lc_To h0) fd_X5_55 rfl ?_
  refine mm_copy (q := 84) (lc_To_4 h1) (lc_To_4 h0) cs_X5_70 ac_1 ac_2 ac_3 (Nat.le_of_ble_eq_true rfl) (Nat.le_of_ble_eq_true rfl) dX5_becomeLike_81 rfl (fun M6 _ => ?_)
  refine mm_aload_n (q := 85) dX5_becomeLike_84 rfl rfl rfl ?_
  refine mm_getR (q := 88) (k1 := (r1 + 5)) dX5_becomeLike_85 rfl (lc_To h1) fd_X5_24 rfl ?_
  refine mm_iconst (q := 89) dX5_becomeLike_88 rfl ic_0 ?_
  refine mm_aload_n (q := 90) dX5_becomeLike_89 rfl rfl rfl ?_
  refine mm_getR (q := 93) (k1 := (r0 + 5)) dX5_becomeLike_90 rfl (lc_To h0) fd_X5_24 rfl ?_
  refine mm_iconst (q := 94) dX5_becomeLike_93 rfl ic_0 ?_
  refine mm_aload_n (q := 95) dX5_becomeLike_94 rfl rfl rfl ?_
  refine mm_getI (q := 98) dX5_becomeLike_95 rfl (lc_To h0) fd_X5_55 rfl ?_
  refine mm_copy (q := 101) (lc_To_5 h1) (lc_To_5 h0) cs_X5_70 ac_1 ac_2 ac_3 (Nat.le_of_ble_eq_true rfl) (Nat.le_of_ble_eq_true rfl) dX5_becomeLike_98 rfl (fun M7 _ => ?_)
  refine mm_aload_n (q := 102) dX5_becomeLike_101 rfl rfl rfl ?_
  refine mm_aload_n (q := 103) dX5_becomeLike_102 rfl rfl rfl ?_
  refine mm_getI (q := 106) dX5_becomeLike_103 rfl (lc_To h1) fd_X5_58 rfl ?_
  refine mm_put (q := 109) dX5_becomeLike_106 rfl (lc_To h0) fd_X5_58 ps_X5_7 rfl rfl rfl (fun M8 _ => ?_)
  refine mm_aload_n (q := 110) dX5_becomeLike_109 rfl rfl rfl ?_
  refine mm_getR (q := 113) (k1 := (r1 + 6)) dX5_becomeLike_110 rfl (lc_To h1) fd_X5_27 rfl ?_
  refine mm_iconst (q := 114) dX5_becomeLike_113 rfl ic_0 ?_
  refine mm_aload_n (q := 115) dX5_becomeLike_114 rfl rfl rfl ?_
  refine mm_getR (q := 118) (k1 := (r0 + 6)) dX5_becomeLike_115 rfl (lc_To h0) fd_X5_27 rfl ?_
  refine mm_iconst (q := 119) dX5_becomeLike_118 rfl ic_0 ?_
  refine mm_aload_n (q := 120) dX5_becomeLike_119 rfl rfl rfl ?_
  refine mm_getI (q := 123) dX5_becomeLike_120 rfl (lc_To h0) fd_X5_58 rfl ?_
  refine mm_copy (q := 126) (lc_To_6 h1) (lc_To_6 h0) cs_X5_70 ac_1 ac_2 ac_3 (Nat.le_of_ble_eq_true rfl) (Nat.le_of_ble_eq_true rfl) dX5_becomeLike_123 rfl (fun M9 _ => ?_)
  refine mm_aload_n (q := 127) dX5_becomeLike_126 rfl rfl rfl ?_
  refine mm_getR (q := 130) (k1 := (r1 + 7)) dX5_becomeLike_127 rfl (lc_To h1) fd_X5_30 rfl ?_
  refine mm_iconst (q := 131) dX5_becomeLike_130 rfl ic_0 ?_
  refine mm_aload_n (q := 132) dX5_becomeLike_131 rfl rfl rfl ?_
  refine mm_getR (q := 135) (k1 := (r0 + 7)) dX5_becomeLike_132 rfl (lc_To h0) fd_X5_30 rfl ?_
  refine mm_iconst (q := 136) dX5_becomeLike_135 rfl ic_0 ?_
  refine mm_aload_n (q := 137) dX5_becomeLike_136 rfl rfl rfl ?_
  refine mm_getI (q := 140) dX5_becomeLike_137 rfl (lc_To h0) fd_X5_58 rfl ?_
  refine mm_copy (q := 143) (lc_To_7 h1) (lc_To_7 h0) cs_X5_70 ac_1 ac_2 ac_3 (Nat.le_of_ble_eq_true rfl) (Nat.le_of_ble_eq_true rfl) dX5_becomeLike_140 rfl (fun M10 _ => ?_)
  refine mm_aload_n (q := 144) dX5_becomeLike_143 rfl rfl rfl ?_
  refine mm_getR (q := 147) (k1 := (r1 + 8)) dX5_becomeLike_144 rfl (lc_To h1) fd_X5_33 rfl ?_
  refine mm_iconst (q := 148) dX5_becomeLike_147 rfl ic_0 ?_
  refine mm_aload_n (q := 149) dX5_becomeLike_148 rfl rfl rfl ?_
  refine mm_getR (q := 152) (k1 := (r0 + 8)) dX5_becomeLike_149 rfl (lc_To h0) fd_X5_33 rfl ?_
  refine mm_iconst (q := 153) dX5_becomeLike_152 rfl ic_0 ?_
  refine mm_aload_n (q := 154) dX5_becomeLike_153 rfl rfl rfl ?_
  refine mm_getI (q := 157) dX5_becomeLike_154 rfl (lc_To h0) fd_X5_58 rfl ?_
  refine mm_copy (q := 160) (lc_To_8 h1) (lc_To_8 h0) cs_X5_70 ac_1 ac_2 ac_3 (Nat.le_of_ble_eq_true rfl) (Nat.le_of_ble_eq_true rfl) dX5_becomeLike_157 rfl (fun M11 _ => ?_)
  exact mm_vret rfl dX5_becomeLike_160
def fX5_nextSeed (x0 : Int32)  : Int32 :=
  ((1103515245 : Int32) * x0) + (12345 : Int32)
set_option maxRecDepth 100000 in
set_option maxHeartbeats 4000000 in
theorem fX5_nextSeed_ok (x0 : Int32) (M : mm_M)  : mm_E LC yX5_nextSeed cX5_nextSeed 1 (some .int) 0 (mm_pI M) [.int x0] M (some (fX5_nextSeed x0)) := by
  refine mm_E.of (own := RX5) (ls := [some (.int x0)]) (by decide) rfl rfl (Nat.le_of_ble_eq_true rfl) ?_
  unfold fX5_nextSeed
  refine mm_ldc (q := 2) dX5_nextSeed_0 rfl cn_X5_69 ?_
  refine mm_iload_n (q := 3) dX5_nextSeed_2 rfl rfl rfl ?_
  refine mm_imul (q := 4) dX5_nextSeed_3 rfl ?_
  refine mm_sipush (q := 7) dX5_nextSeed_4 rfl sp_12345 ?_
  refine mm_iadd (q := 8) dX5_nextSeed_7 rfl ?_
  exact mm_iret rfl dX5_nextSeed_8
def fX5_drawMeetings_L10 (r0 : Nat) (x2 : Int32)  : Nat → Int32 → Int32 → mm_M → Option (mm_M)
  | 0, _, _, _ => none
  | n + 1, x3, x4, M =>
    if x2 ≤ x4 then
      some M
    else
      if (M r0 0) ≤ 0 then
        some M
      else
        (mm_rm (mm_ushr (fX5_nextSeed (fX5_nextSeed x3)) (16 : Int32)) (M r0 0)).bind fun b4 =>
        (mm_rm (mm_ushr (fX5_nextSeed (fX5_nextSeed (fX5_nextSeed x3))) (16 : Int32)) (M r0 0)).bind fun b5 =>
        (fX5_addMeeting r0 ((mm_ushr (fX5_nextSeed x3) (16 : Int32)) - (mm_ushr (fX5_nextSeed x3) (16 : Int32)) / (24 : Int32) * (24 : Int32)) b4 b5 M).bind fun M6 =>
        fX5_drawMeetings_L10 r0 x2 n (fX5_nextSeed (fX5_nextSeed (fX5_nextSeed x3))) (x4 + (1 : Int32)) M6
set_option maxRecDepth 100000 in
set_option maxHeartbeats 4000000 in
theorem fX5_drawMeetings_L10_ok (r0 : Nat) (x2 : Int32) (h0 : isTo r0)   : ∀ (n : Nat) (x3 : Int32) (x4 : Int32) (M : mm_M), mm_C LC cX5_drawMeetings 7 RX5 none 1 mm_eV 10 [some (.ref r0), none, some (.int x2), some (.int x3), some (.int x4), none, none] [] M (fX5_drawMeetings_L10 r0 x2 n x3 x4 M) := by
  intro n
  induction n with
  | zero => intro x3 x4 M; exact mm_none
  | succ n ih =>
    intro x3 x4 M
    rw [fX5_drawMeetings_L10]
    refine mm_iload (q := 12) dX5_drawMeetings_10 rfl rfl ?_
    refine mm_iload_n (q := 13) dX5_drawMeetings_12 rfl rfl rfl ?_
    refine mm_icmp_ge (q := 16) (tgt := 81) dX5_drawMeetings_13 rfl (by decide) (fun c2 => ?_) (fun c2 => ?_)
    · exact mm_vret rfl dX5_drawMeetings_81
    · refine mm_aload_n (q := 17) dX5_drawMeetings_16 rfl rfl rfl ?_
      refine mm_getI (q := 20) dX5_drawMeetings_17 rfl (lc_To h0) fd_X5_48 rfl ?_
      refine mm_if_le (q := 23) (tgt := 81) dX5_drawMeetings_20 rfl (by decide) (fun c3 => ?_) (fun c3 => ?_)
      · exact mm_vret rfl dX5_drawMeetings_81
      · refine mm_iload_n (q := 24) dX5_drawMeetings_23 rfl rfl rfl ?_
        refine mm_callST (as := [.int x3]) (st := []) (q := 27) (fX5_nextSeed_ok x3 M) ms_X5_65 rfl (Nat.le_of_ble_eq_true rfl) (Nat.le_of_ble_eq_true rfl) rfl dX5_drawMeetings_24 rfl ?_
        refine mm_istore_n (q := 28) (ls' := [some (.ref r0), none, some (.int x2), some (.int (fX5_nextSeed x3)), some (.int x4), none, none]) dX5_drawMeetings_27 rfl rfl rfl (Nat.le_of_ble_eq_true rfl) rfl ?_
        refine mm_iload_n (q := 29) dX5_drawMeetings_28 rfl rfl rfl ?_
        refine mm_bipush (q := 31) dX5_drawMeetings_29 rfl bp_16 ?_
        refine mm_iushr (q := 32) dX5_drawMeetings_31 rfl ?_
        refine mm_bipush (q := 34) dX5_drawMeetings_32 rfl bp_24 ?_
        refine mm_iremC (q := 35) dX5_drawMeetings_34 rfl (by decide) ?_
        refine mm_istore (q := 37) (ls' := [some (.ref r0), none, some (.int x2), some (.int (fX5_nextSeed x3)), some (.int x4), some (.int ((mm_ushr (fX5_nextSeed x3) (16 : Int32)) - (mm_ushr (fX5_nextSeed x3) (16 : Int32)) / (24 : Int32) * (24 : Int32))), none]) dX5_drawMeetings_35 rfl rfl (Nat.le_of_ble_eq_true rfl) rfl ?_
        refine mm_iload_n (q := 38) dX5_drawMeetings_37 rfl rfl rfl ?_
        refine mm_callST (as := [.int (fX5_nextSeed x3)]) (st := []) (q := 41) (fX5_nextSeed_ok (fX5_nextSeed x3) M) ms_X5_65 rfl (Nat.le_of_ble_eq_true rfl) (Nat.le_of_ble_eq_true rfl) rfl dX5_drawMeetings_38 rfl ?_
        refine mm_istore_n (q := 42) (ls' := [some (.ref r0), none, some (.int x2), some (.int (fX5_nextSeed (fX5_nextSeed x3))), some (.int x4), some (.int ((mm_ushr (fX5_nextSeed x3) (16 : Int32)) - (mm_ushr (fX5_nextSeed x3) (16 : Int32)) / (24 : Int32) * (24 : Int32))), none]) dX5_drawMeetings_41 rfl rfl rfl (Nat.le_of_ble_eq_true rfl) rfl ?_
        refine mm_iload_n (q := 43) dX5_drawMeetings_42 rfl rfl rfl ?_
        refine mm_bipush (q := 45) dX5_drawMeetings_43 rfl bp_16 ?_
        refine mm_iushr (q := 46) dX5_drawMeetings_45 rfl ?_
        refine mm_aload_n (q := 47) dX5_drawMeetings_46 rfl rfl rfl ?_
        refine mm_getI (q := 50) dX5_drawMeetings_47 rfl (lc_To h0) fd_X5_48 rfl ?_
        refine mm_irem (q := 51) dX5_drawMeetings_50 rfl (fun b4 _ => ?_)
        refine mm_istore (q := 53) (ls' := [some (.ref r0), none, some (.int x2), some (.int (fX5_nextSeed (fX5_nextSeed x3))), some (.int x4), some (.int ((mm_ushr (fX5_nextSeed x3) (16 : Int32)) - (mm_ushr (fX5_nextSeed x3) (16 : Int32)) / (24 : Int32) * (24 : Int32))), some (.int b4)]) dX5_drawMeetings_51 rfl rfl (Nat.le_of_ble_eq_true rfl) rfl ?_
        refine mm_iload_n (q := 54) dX5_drawMeetings_53 rfl rfl rfl ?_
        refine mm_callST (as := [.int (fX5_nextSeed (fX5_nextSeed x3))]) (st := []) (q := 57) (fX5_nextSeed_ok (fX5_nextSeed (fX5_nextSeed x3)) M) ms_X5_65 rfl (Nat.le_of_ble_eq_true rfl) (Nat.le_of_ble_eq_true rfl) rfl dX5_drawMeetings_54 rfl ?_
        refine mm_istore_n (q := 58) (ls' := [some (.ref r0), none, some (.int x2), some (.int (fX5_nextSeed (fX5_nextSeed (fX5_nextSeed x3)))), some (.int x4), some (.int ((mm_ushr (fX5_nextSeed x3) (16 : Int32)) - (mm_ushr (fX5_nextSeed x3) (16 : Int32)) / (24 : Int32) * (24 : Int32))), some (.int b4)]) dX5_drawMeetings_57 rfl rfl rfl (Nat.le_of_ble_eq_true rfl) rfl ?_
        refine mm_aload_n (q := 59) dX5_drawMeetings_58 rfl rfl rfl ?_
        refine mm_iload (q := 61) dX5_drawMeetings_59 rfl rfl ?_
        refine mm_iload (q := 63) dX5_drawMeetings_61 rfl rfl ?_
        refine mm_iload_n (q := 64) dX5_drawMeetings_63 rfl rfl rfl ?_
        refine mm_bipush (q := 66) dX5_drawMeetings_64 rfl bp_16 ?_
        refine mm_iushr (q := 67) dX5_drawMeetings_66 rfl ?_
        refine mm_aload_n (q := 68) dX5_drawMeetings_67 rfl rfl rfl ?_
        refine mm_getI (q := 71) dX5_drawMeetings_68 rfl (lc_To h0) fd_X5_48 rfl ?_
        refine mm_irem (q := 72) dX5_drawMeetings_71 rfl (fun b5 _ => ?_)
        refine mm_callVV (as := [.int ((mm_ushr (fX5_nextSeed x3) (16 : Int32)) - (mm_ushr (fX5_nextSeed x3) (16 : Int32)) / (24 : Int32) * (24 : Int32)), .int b4, .int b5]) (st := []) (q := 75) (lc_To h0) rfl (fX5_addMeeting_ok r0 ((mm_ushr (fX5_nextSeed x3) (16 : Int32)) - (mm_ushr (fX5_nextSeed x3) (16 : Int32)) / (24 : Int32) * (24 : Int32)) b4 b5 M h0) ms_X5_61 rfl (Nat.le_of_ble_eq_true rfl) (Nat.le_of_ble_eq_true rfl) rfl dX5_drawMeetings_72 rfl (fun M6 _ => ?_)
        refine mm_iinc (q := 78) (ls' := [some (.ref r0), none, some (.int x2), some (.int (fX5_nextSeed (fX5_nextSeed (fX5_nextSeed x3)))), some (.int (x4 + (1 : Int32))), some (.int ((mm_ushr (fX5_nextSeed x3) (16 : Int32)) - (mm_ushr (fX5_nextSeed x3) (16 : Int32)) / (24 : Int32) * (24 : Int32))), some (.int b4)]) dX5_drawMeetings_75 rfl rfl (ii_1 _) rfl (Nat.le_of_ble_eq_true rfl) rfl ?_
        refine mm_goto (tgt := 10) dX5_drawMeetings_78 (by decide) ?_
        refine mm_drop (ls' := [some (.ref r0), none, some (.int x2), some (.int (fX5_nextSeed (fX5_nextSeed (fX5_nextSeed x3)))), some (.int (x4 + (1 : Int32))), none, none]) (mm_sub_at _ _ (And.intro rfl (And.intro rfl (And.intro rfl (And.intro rfl trivial))))) ?_
        exact ih _ _ _
def fX5_drawMeetings (r0 : Nat) (x1 : Int32) (x2 : Int32) (M : mm_M) : Option (mm_M) :=
  (mm_pf M r0 7 (0 : Int32)).bind fun M1 =>
  fX5_drawMeetings_L10 r0 x2 1000 x1 (0 : Int32) M1
set_option maxRecDepth 100000 in
set_option maxHeartbeats 4000000 in
theorem fX5_drawMeetings_ok (r0 : Nat) (x1 : Int32) (x2 : Int32) (M : mm_M) (h0 : isTo r0) : mm_E LC yX5_drawMeetings cX5_drawMeetings 7 none 1 mm_eV [.ref r0, .int x1, .int x2] M (fX5_drawMeetings r0 x1 x2 M) := by
  refine mm_E.of (own := RX5) (ls := [some (.ref r0), some (.int x1), some (.int x2), none, none, none, none]) (by decide) rfl rfl (Nat.le_of_ble_eq_true rfl) ?_
  unfold fX5_drawMeetings
  refine mm_aload_n (q := 1) dX5_drawMeetings_0 rfl rfl rfl ?_
  refine mm_iconst (q := 2) dX5_drawMeetings_1 rfl ic_0 ?_
  refine mm_put (q := 5) dX5_drawMeetings_2 rfl (lc_To h0) fd_X5_58 ps_X5_7 rfl rfl rfl (fun M1 _ => ?_)
  refine mm_iload_n (q := 6) dX5_drawMeetings_5 rfl rfl rfl ?_
  refine mm_istore_n (q := 7) (ls' := [some (.ref r0), some (.int x1), some (.int x2), some (.int x1), none, none, none]) dX5_drawMeetings_6 rfl rfl rfl (Nat.le_of_ble_eq_true rfl) rfl ?_
  refine mm_iconst (q := 8) dX5_drawMeetings_7 rfl ic_0 ?_
  refine mm_istore (q := 10) (ls' := [some (.ref r0), some (.int x1), some (.int x2), some (.int x1), some (.int (0 : Int32)), none, none]) dX5_drawMeetings_8 rfl rfl (Nat.le_of_ble_eq_true rfl) rfl ?_
  refine mm_drop (ls' := [some (.ref r0), none, some (.int x2), some (.int x1), some (.int (0 : Int32)), none, none]) (mm_sub_at _ _ (And.intro rfl (And.intro rfl (And.intro rfl (And.intro rfl trivial))))) ?_
  exact fX5_drawMeetings_L10_ok r0 x2 h0 _ _ _ _
def fX5_readMeetings_L17 (r0 : Nat) (r1 : Nat) (x2 : Int32)  : Nat → Int32 → mm_M → Option (mm_M)
  | 0, _, _ => none
  | n + 1, x3, M =>
    if x2 ≤ x3 then
      some M
    else
      (fX4_valueOf r1 x3 (0 : Int32) M).bind fun b4 =>
      (fX4_valueOf r1 x3 (1 : Int32) M).bind fun b5 =>
      (fX4_valueOf r1 x3 (2 : Int32) M).bind fun b6 =>
      (fX5_addMeeting r0 b4 b5 b6 M).bind fun M7 =>
      fX5_readMeetings_L17 r0 r1 x2 n (x3 + (1 : Int32)) M7
set_option maxRecDepth 100000 in
set_option maxHeartbeats 4000000 in
theorem fX5_readMeetings_L17_ok (r0 : Nat) (r1 : Nat) (x2 : Int32) (h0 : isTo r0) (h1 : isTx r1)   : ∀ (n : Nat) (x3 : Int32) (M : mm_M), mm_C LC cX5_readMeetings 4 RX5 none 2 mm_eV 17 [some (.ref r0), some (.ref r1), some (.int x2), some (.int x3)] [] M (fX5_readMeetings_L17 r0 r1 x2 n x3 M) := by
  intro n
  induction n with
  | zero => intro x3 M; exact mm_none
  | succ n ih =>
    intro x3 M
    rw [fX5_readMeetings_L17]
    refine mm_iload_n (q := 18) dX5_readMeetings_17 rfl rfl rfl ?_
    refine mm_iload_n (q := 19) dX5_readMeetings_18 rfl rfl rfl ?_
    refine mm_icmp_ge (q := 22) (tgt := 50) dX5_readMeetings_19 rfl (by decide) (fun c3 => ?_) (fun c3 => ?_)
    · exact mm_vret rfl dX5_readMeetings_50
    · refine mm_aload_n (q := 23) dX5_readMeetings_22 rfl rfl rfl ?_
      refine mm_aload_n (q := 24) dX5_readMeetings_23 rfl rfl rfl ?_
      refine mm_iload_n (q := 25) dX5_readMeetings_24 rfl rfl rfl ?_
      refine mm_iconst (q := 26) dX5_readMeetings_25 rfl ic_0 ?_
      refine mm_callVP (as := [.int x3, .int (0 : Int32)]) (st := [.ref r0]) (q := 29) (lc_Tx h1) rfl (fX4_valueOf_ok r1 x3 (0 : Int32) M h1) ms_X5_52 rfl (Nat.le_of_ble_eq_true rfl) (Nat.le_of_ble_eq_true rfl) rfl dX5_readMeetings_26 rfl (fun b4 _ => ?_)
      refine mm_aload_n (q := 30) dX5_readMeetings_29 rfl rfl rfl ?_
      refine mm_iload_n (q := 31) dX5_readMeetings_30 rfl rfl rfl ?_
      refine mm_iconst (q := 32) dX5_readMeetings_31 rfl ic_1 ?_
      refine mm_callVP (as := [.int x3, .int (1 : Int32)]) (st := [.int b4, .ref r0]) (q := 35) (lc_Tx h1) rfl (fX4_valueOf_ok r1 x3 (1 : Int32) M h1) ms_X5_52 rfl (Nat.le_of_ble_eq_true rfl) (Nat.le_of_ble_eq_true rfl) rfl dX5_readMeetings_32 rfl (fun b5 _ => ?_)
      refine mm_aload_n (q := 36) dX5_readMeetings_35 rfl rfl rfl ?_
      refine mm_iload_n (q := 37) dX5_readMeetings_36 rfl rfl rfl ?_
      refine mm_iconst (q := 38) dX5_readMeetings_37 rfl ic_2 ?_
      refine mm_callVP (as := [.int x3, .int (2 : Int32)]) (st := [.int b5, .int b4, .ref r0]) (q := 41) (lc_Tx h1) rfl (fX4_valueOf_ok r1 x3 (2 : Int32) M h1) ms_X5_52 rfl (Nat.le_of_ble_eq_true rfl) (Nat.le_of_ble_eq_true rfl) rfl dX5_readMeetings_38 rfl (fun b6 _ => ?_)
      refine mm_callVV (as := [.int b4, .int b5, .int b6]) (st := []) (q := 44) (lc_To h0) rfl (fX5_addMeeting_ok r0 b4 b5 b6 M h0) ms_X5_61 rfl (Nat.le_of_ble_eq_true rfl) (Nat.le_of_ble_eq_true rfl) rfl dX5_readMeetings_41 rfl (fun M7 _ => ?_)
      refine mm_iinc (q := 47) (ls' := [some (.ref r0), some (.ref r1), some (.int x2), some (.int (x3 + (1 : Int32)))]) dX5_readMeetings_44 rfl rfl (ii_1 _) rfl (Nat.le_of_ble_eq_true rfl) rfl ?_
      refine mm_goto (tgt := 17) dX5_readMeetings_47 (by decide) ?_
      exact ih _ _
def fX5_readMeetings (r0 : Nat) (r1 : Nat) (M : mm_M) : Option (mm_M) :=
  (fX4_things r1 M).bind fun b1 =>
  (mm_pf M r0 7 (0 : Int32)).bind fun M2 =>
  fX5_readMeetings_L17 r0 r1 (mm_min b1 (12 : Int32)) 1000 (0 : Int32) M2
set_option maxRecDepth 100000 in
set_option maxHeartbeats 4000000 in
theorem fX5_readMeetings_ok (r0 : Nat) (r1 : Nat) (M : mm_M) (h0 : isTo r0) (h1 : isTx r1) : mm_E LC yX5_readMeetings cX5_readMeetings 4 none 2 mm_eV [.ref r0, .ref r1] M (fX5_readMeetings r0 r1 M) := by
  refine mm_E.of (own := RX5) (ls := [some (.ref r0), some (.ref r1), none, none]) (by decide) rfl rfl (Nat.le_of_ble_eq_true rfl) ?_
  unfold fX5_readMeetings
  refine mm_aload_n (q := 1) dX5_readMeetings_0 rfl rfl rfl ?_
  refine mm_callVP (as := []) (st := []) (q := 4) (lc_Tx h1) rfl (fX4_things_ok r1 M h1) ms_X5_36 rfl (Nat.le_of_ble_eq_true rfl) (Nat.le_of_ble_eq_true rfl) rfl dX5_readMeetings_1 rfl (fun b1 _ => ?_)
  refine mm_bipush (q := 6) dX5_readMeetings_4 rfl bp_12 ?_
  refine mm_mmin (q := 9) dX5_readMeetings_6 rfl cs_X5_42 ma_min_1 ma_0 ma_min_2 (Nat.le_of_ble_eq_true rfl) (Nat.le_of_ble_eq_true rfl) ?_
  refine mm_istore_n (q := 10) (ls' := [some (.ref r0), some (.ref r1), some (.int (mm_min b1 (12 : Int32))), none]) dX5_readMeetings_9 rfl rfl rfl (Nat.le_of_ble_eq_true rfl) rfl ?_
  refine mm_aload_n (q := 11) dX5_readMeetings_10 rfl rfl rfl ?_
  refine mm_iconst (q := 12) dX5_readMeetings_11 rfl ic_0 ?_
  refine mm_put (q := 15) dX5_readMeetings_12 rfl (lc_To h0) fd_X5_58 ps_X5_7 rfl rfl rfl (fun M2 _ => ?_)
  refine mm_iconst (q := 16) dX5_readMeetings_15 rfl ic_0 ?_
  refine mm_istore_n (q := 17) (ls' := [some (.ref r0), some (.ref r1), some (.int (mm_min b1 (12 : Int32))), some (.int (0 : Int32))]) dX5_readMeetings_16 rfl rfl rfl (Nat.le_of_ble_eq_true rfl) rfl ?_
  exact fX5_readMeetings_L17_ok r0 r1 (mm_min b1 (12 : Int32)) h0 h1 _ _ _
def fX5_readPeople_L15 (r0 : Nat) (r1 : Nat)  : Nat → Int32 → mm_M → Option (mm_M)
  | 0, _, _ => none
  | n + 1, x2, M =>
    if (M r0 0) ≤ x2 then
      some M
    else
      (fX4_valueOf r1 x2 (0 : Int32) M).bind fun b4 =>
      (mm_wa M (r0 + 1) 8 x2 b4).bind fun M5 =>
      (fX4_valueOf r1 x2 (1 : Int32) M5).bind fun b6 =>
      (mm_wa M5 (r0 + 2) 8 x2 b6).bind fun M7 =>
      fX5_readPeople_L15 r0 r1 n (x2 + (1 : Int32)) M7
set_option maxRecDepth 100000 in
set_option maxHeartbeats 4000000 in
theorem fX5_readPeople_L15_ok (r0 : Nat) (r1 : Nat) (h0 : isTo r0) (h1 : isTx r1)   : ∀ (n : Nat) (x2 : Int32) (M : mm_M), mm_C LC cX5_readPeople 3 RX5 none 2 mm_eV 15 [some (.ref r0), some (.ref r1), some (.int x2)] [] M (fX5_readPeople_L15 r0 r1 n x2 M) := by
  intro n
  induction n with
  | zero => intro x2 M; exact mm_none
  | succ n ih =>
    intro x2 M
    rw [fX5_readPeople_L15]
    refine mm_iload_n (q := 16) dX5_readPeople_15 rfl rfl rfl ?_
    refine mm_aload_n (q := 17) dX5_readPeople_16 rfl rfl rfl ?_
    refine mm_getI (q := 20) dX5_readPeople_17 rfl (lc_To h0) fd_X5_48 rfl ?_
    refine mm_icmp_ge (q := 23) (tgt := 53) dX5_readPeople_20 rfl (by decide) (fun c3 => ?_) (fun c3 => ?_)
    · exact mm_vret rfl dX5_readPeople_53
    · refine mm_aload_n (q := 24) dX5_readPeople_23 rfl rfl rfl ?_
      refine mm_getR (q := 27) (k1 := (r0 + 1)) dX5_readPeople_24 rfl (lc_To h0) fd_X5_9 rfl ?_
      refine mm_iload_n (q := 28) dX5_readPeople_27 rfl rfl rfl ?_
      refine mm_aload_n (q := 29) dX5_readPeople_28 rfl rfl rfl ?_
      refine mm_iload_n (q := 30) dX5_readPeople_29 rfl rfl rfl ?_
      refine mm_iconst (q := 31) dX5_readPeople_30 rfl ic_0 ?_
      refine mm_callVP (as := [.int x2, .int (0 : Int32)]) (st := [.int x2, .ref (r0 + 1)]) (q := 34) (lc_Tx h1) rfl (fX4_valueOf_ok r1 x2 (0 : Int32) M h1) ms_X5_52 rfl (Nat.le_of_ble_eq_true rfl) (Nat.le_of_ble_eq_true rfl) rfl dX5_readPeople_31 rfl (fun b4 _ => ?_)
      refine mm_iast (q := 35) dX5_readPeople_34 rfl (lc_To_1 h0) (fun M5 _ => ?_)
      refine mm_aload_n (q := 36) dX5_readPeople_35 rfl rfl rfl ?_
      refine mm_getR (q := 39) (k1 := (r0 + 2)) dX5_readPeople_36 rfl (lc_To h0) fd_X5_15 rfl ?_
      refine mm_iload_n (q := 40) dX5_readPeople_39 rfl rfl rfl ?_
      refine mm_aload_n (q := 41) dX5_readPeople_40 rfl rfl rfl ?_
      refine mm_iload_n (q := 42) dX5_readPeople_41 rfl rfl rfl ?_
      refine mm_iconst (q := 43) dX5_readPeople_42 rfl ic_1 ?_
      refine mm_callVP (as := [.int x2, .int (1 : Int32)]) (st := [.int x2, .ref (r0 + 2)]) (q := 46) (lc_Tx h1) rfl (fX4_valueOf_ok r1 x2 (1 : Int32) M5 h1) ms_X5_52 rfl (Nat.le_of_ble_eq_true rfl) (Nat.le_of_ble_eq_true rfl) rfl dX5_readPeople_43 rfl (fun b6 _ => ?_)
      refine mm_iast (q := 47) dX5_readPeople_46 rfl (lc_To_2 h0) (fun M7 _ => ?_)
      refine mm_iinc (q := 50) (ls' := [some (.ref r0), some (.ref r1), some (.int (x2 + (1 : Int32)))]) dX5_readPeople_47 rfl rfl (ii_1 _) rfl (Nat.le_of_ble_eq_true rfl) rfl ?_
      refine mm_goto (tgt := 15) dX5_readPeople_50 (by decide) ?_
      exact ih _ _
def fX5_readPeople (r0 : Nat) (r1 : Nat) (M : mm_M) : Option (mm_M) :=
  (fX4_things r1 M).bind fun b1 =>
  (mm_pf M r0 0 (mm_min b1 (8 : Int32))).bind fun M2 =>
  fX5_readPeople_L15 r0 r1 1000 (0 : Int32) M2
set_option maxRecDepth 100000 in
set_option maxHeartbeats 4000000 in
theorem fX5_readPeople_ok (r0 : Nat) (r1 : Nat) (M : mm_M) (h0 : isTo r0) (h1 : isTx r1) : mm_E LC yX5_readPeople cX5_readPeople 3 none 2 mm_eV [.ref r0, .ref r1] M (fX5_readPeople r0 r1 M) := by
  refine mm_E.of (own := RX5) (ls := [some (.ref r0), some (.ref r1), none]) (by decide) rfl rfl (Nat.le_of_ble_eq_true rfl) ?_
  unfold fX5_readPeople
  refine mm_aload_n (q := 1) dX5_readPeople_0 rfl rfl rfl ?_
  refine mm_aload_n (q := 2) dX5_readPeople_1 rfl rfl rfl ?_
  refine mm_callVP (as := []) (st := [.ref r0]) (q := 5) (lc_Tx h1) rfl (fX4_things_ok r1 M h1) ms_X5_36 rfl (Nat.le_of_ble_eq_true rfl) (Nat.le_of_ble_eq_true rfl) rfl dX5_readPeople_2 rfl (fun b1 _ => ?_)
  refine mm_bipush (q := 7) dX5_readPeople_5 rfl bp_8 ?_
  refine mm_mmin (q := 10) dX5_readPeople_7 rfl cs_X5_42 ma_min_1 ma_0 ma_min_2 (Nat.le_of_ble_eq_true rfl) (Nat.le_of_ble_eq_true rfl) ?_
  refine mm_put (q := 13) dX5_readPeople_10 rfl (lc_To h0) fd_X5_48 ps_X5_0 rfl rfl rfl (fun M2 _ => ?_)
  refine mm_iconst (q := 14) dX5_readPeople_13 rfl ic_0 ?_
  refine mm_istore_n (q := 15) (ls' := [some (.ref r0), some (.ref r1), some (.int (0 : Int32))]) dX5_readPeople_14 rfl rfl rfl (Nat.le_of_ble_eq_true rfl) rfl ?_
  exact fX5_readPeople_L15_ok r0 r1 h0 h1 _ _ _
def fX5_readWords_L15 (r0 : Nat) (r1 : Nat)  : Nat → Int32 → mm_M → Option (mm_M)
  | 0, _, _ => none
  | n + 1, x2, M =>
    if (M r0 3) ≤ x2 then
      some M
    else
      (fX4_valueOf r1 x2 (0 : Int32) M).bind fun b4 =>
      (mm_wa M (r0 + 3) 12 x2 b4).bind fun M5 =>
      (fX4_valueOf r1 x2 (1 : Int32) M5).bind fun b6 =>
      (mm_wa M5 (r0 + 4) 12 x2 b6).bind fun M7 =>
      (fX4_valueOf r1 x2 (2 : Int32) M7).bind fun b8 =>
      (mm_wa M7 (r0 + 5) 12 x2 b8).bind fun M9 =>
      fX5_readWords_L15 r0 r1 n (x2 + (1 : Int32)) M9
set_option maxRecDepth 100000 in
set_option maxHeartbeats 4000000 in
theorem fX5_readWords_L15_ok (r0 : Nat) (r1 : Nat) (h0 : isTo r0) (h1 : isTx r1)   : ∀ (n : Nat) (x2 : Int32) (M : mm_M), mm_C LC cX5_readWords 3 RX5 none 2 mm_eV 15 [some (.ref r0), some (.ref r1), some (.int x2)] [] M (fX5_readWords_L15 r0 r1 n x2 M) := by
  intro n
  induction n with
  | zero => intro x2 M; exact mm_none
  | succ n ih =>
    intro x2 M
    rw [fX5_readWords_L15]
    refine mm_iload_n (q := 16) dX5_readWords_15 rfl rfl rfl ?_
    refine mm_aload_n (q := 17) dX5_readWords_16 rfl rfl rfl ?_
    refine mm_getI (q := 20) dX5_readWords_17 rfl (lc_To h0) fd_X5_55 rfl ?_
    refine mm_icmp_ge (q := 23) (tgt := 65) dX5_readWords_20 rfl (by decide) (fun c3 => ?_) (fun c3 => ?_)
    · exact mm_vret rfl dX5_readWords_65
    · refine mm_aload_n (q := 24) dX5_readWords_23 rfl rfl rfl ?_
      refine mm_getR (q := 27) (k1 := (r0 + 3)) dX5_readWords_24 rfl (lc_To h0) fd_X5_18 rfl ?_
      refine mm_iload_n (q := 28) dX5_readWords_27 rfl rfl rfl ?_
      refine mm_aload_n (q := 29) dX5_readWords_28 rfl rfl rfl ?_
      refine mm_iload_n (q := 30) dX5_readWords_29 rfl rfl rfl ?_
      refine mm_iconst (q := 31) dX5_readWords_30 rfl ic_0 ?_
      refine mm_callVP (as := [.int x2, .int (0 : Int32)]) (st := [.int x2, .ref (r0 + 3)]) (q := 34) (lc_Tx h1) rfl (fX4_valueOf_ok r1 x2 (0 : Int32) M h1) ms_X5_52 rfl (Nat.le_of_ble_eq_true rfl) (Nat.le_of_ble_eq_true rfl) rfl dX5_readWords_31 rfl (fun b4 _ => ?_)
      refine mm_iast (q := 35) dX5_readWords_34 rfl (lc_To_3 h0) (fun M5 _ => ?_)
      refine mm_aload_n (q := 36) dX5_readWords_35 rfl rfl rfl ?_
      refine mm_getR (q := 39) (k1 := (r0 + 4)) dX5_readWords_36 rfl (lc_To h0) fd_X5_21 rfl ?_
      refine mm_iload_n (q := 40) dX5_readWords_39 rfl rfl rfl ?_
      refine mm_aload_n (q := 41) dX5_readWords_40 rfl rfl rfl ?_
      refine mm_iload_n (q := 42) dX5_readWords_41 rfl rfl rfl ?_
      refine mm_iconst (q := 43) dX5_readWords_42 rfl ic_1 ?_
      refine mm_callVP (as := [.int x2, .int (1 : Int32)]) (st := [.int x2, .ref (r0 + 4)]) (q := 46) (lc_Tx h1) rfl (fX4_valueOf_ok r1 x2 (1 : Int32) M5 h1) ms_X5_52 rfl (Nat.le_of_ble_eq_true rfl) (Nat.le_of_ble_eq_true rfl) rfl dX5_readWords_43 rfl (fun b6 _ => ?_)
      refine mm_iast (q := 47) dX5_readWords_46 rfl (lc_To_4 h0) (fun M7 _ => ?_)
      refine mm_aload_n (q := 48) dX5_readWords_47 rfl rfl rfl ?_
      refine mm_getR (q := 51) (k1 := (r0 + 5)) dX5_readWords_48 rfl (lc_To h0) fd_X5_24 rfl ?_
      refine mm_iload_n (q := 52) dX5_readWords_51 rfl rfl rfl ?_
      refine mm_aload_n (q := 53) dX5_readWords_52 rfl rfl rfl ?_
      refine mm_iload_n (q := 54) dX5_readWords_53 rfl rfl rfl ?_
      refine mm_iconst (q := 55) dX5_readWords_54 rfl ic_2 ?_
      refine mm_callVP (as := [.int x2, .int (2 : Int32)]) (st := [.int x2, .ref (r0 + 5)]) (q := 58) (lc_Tx h1) rfl (fX4_valueOf_ok r1 x2 (2 : Int32) M7 h1) ms_X5_52 rfl (Nat.le_of_ble_eq_true rfl) (Nat.le_of_ble_eq_true rfl) rfl dX5_readWords_55 rfl (fun b8 _ => ?_)
      refine mm_iast (q := 59) dX5_readWords_58 rfl (lc_To_5 h0) (fun M9 _ => ?_)
      refine mm_iinc (q := 62) (ls' := [some (.ref r0), some (.ref r1), some (.int (x2 + (1 : Int32)))]) dX5_readWords_59 rfl rfl (ii_1 _) rfl (Nat.le_of_ble_eq_true rfl) rfl ?_
      refine mm_goto (tgt := 15) dX5_readWords_62 (by decide) ?_
      exact ih _ _
def fX5_readWords (r0 : Nat) (r1 : Nat) (M : mm_M) : Option (mm_M) :=
  (fX4_things r1 M).bind fun b1 =>
  (mm_pf M r0 3 (mm_min b1 (12 : Int32))).bind fun M2 =>
  fX5_readWords_L15 r0 r1 1000 (0 : Int32) M2
set_option maxRecDepth 100000 in
set_option maxHeartbeats 4000000 in
theorem fX5_readWords_ok (r0 : Nat) (r1 : Nat) (M : mm_M) (h0 : isTo r0) (h1 : isTx r1) : mm_E LC yX5_readWords cX5_readWords 3 none 2 mm_eV [.ref r0, .ref r1] M (fX5_readWords r0 r1 M) := by
  refine mm_E.of (own := RX5) (ls := [some (.ref r0), some (.ref r1), none]) (by decide) rfl rfl (Nat.le_of_ble_eq_true rfl) ?_
  unfold fX5_readWords
  refine mm_aload_n (q := 1) dX5_readWords_0 rfl rfl rfl ?_
  refine mm_aload_n (q := 2) dX5_readWords_1 rfl rfl rfl ?_
  refine mm_callVP (as := []) (st := [.ref r0]) (q := 5) (lc_Tx h1) rfl (fX4_things_ok r1 M h1) ms_X5_36 rfl (Nat.le_of_ble_eq_true rfl) (Nat.le_of_ble_eq_true rfl) rfl dX5_readWords_2 rfl (fun b1 _ => ?_)
  refine mm_bipush (q := 7) dX5_readWords_5 rfl bp_12 ?_
  refine mm_mmin (q := 10) dX5_readWords_7 rfl cs_X5_42 ma_min_1 ma_0 ma_min_2 (Nat.le_of_ble_eq_true rfl) (Nat.le_of_ble_eq_true rfl) ?_
  refine mm_put (q := 13) dX5_readWords_10 rfl (lc_To h0) fd_X5_55 ps_X5_3 rfl rfl rfl (fun M2 _ => ?_)
  refine mm_iconst (q := 14) dX5_readWords_13 rfl ic_0 ?_
  refine mm_istore_n (q := 15) (ls' := [some (.ref r0), some (.ref r1), some (.int (0 : Int32))]) dX5_readWords_14 rfl rfl rfl (Nat.le_of_ble_eq_true rfl) rfl ?_
  exact fX5_readWords_L15_ok r0 r1 h0 h1 _ _ _
