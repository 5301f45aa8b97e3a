def fX6_sortByWhatIsLeft_L2 (x1 : Int32) (k24 : mm_M → Option (mm_M)) : Nat → Int32 → mm_M → Option (mm_M)
  | 0, _, _ => none
  | n + 1, x2, M =>
    if (240 : Int32) ≤ x2 then
      k24 M
    else
      (mm_wa M 68 240 x2 (0 : Int32)).bind fun M2 =>
      fX6_sortByWhatIsLeft_L2 x1 k24 n (x2 + (1 : Int32)) M2
set_option maxRecDepth 100000 in
set_option maxHeartbeats 4000000 in
theorem fX6_sortByWhatIsLeft_L2_ok (x1 : Int32)  (k24 : mm_M → Option (mm_M)) (hk24 : ∀  (M : mm_M), mm_C LC cX6_sortByWhatIsLeft 5 RX6 none 3 mm_eV 24 [some (.ref 0), some (.int x1), none, none, none] [] M (k24 M)) : ∀ (n : Nat) (x2 : Int32) (M : mm_M), mm_C LC cX6_sortByWhatIsLeft 5 RX6 none 3 mm_eV 2 [some (.ref 0), some (.int x1), some (.int x2), none, none] [] M (fX6_sortByWhatIsLeft_L2 x1 k24 n x2 M) := by
  intro n
  induction n with
  | zero => intro x2 M; exact mm_none
  | succ n ih =>
    intro x2 M
    rw [fX6_sortByWhatIsLeft_L2]
    refine mm_iload_n (q := 3) dX6_sortByWhatIsLeft_2 rfl rfl rfl ?_
    refine mm_aload_n (q := 4) dX6_sortByWhatIsLeft_3 rfl rfl rfl ?_
    refine mm_getR (q := 7) (k1 := 68) dX6_sortByWhatIsLeft_4 rfl lc_0 fd_X6_55 rfl ?_
    refine mm_alen (q := 8) (v := (240 : Int32)) dX6_sortByWhatIsLeft_7 rfl lc_68 rfl ?_
    refine mm_icmp_ge (q := 11) (tgt := 24) dX6_sortByWhatIsLeft_8 rfl (by decide) (fun c1 => ?_) (fun c1 => ?_)
    · refine mm_drop (ls' := [some (.ref 0), some (.int x1), none, none, none]) (mm_sub_at _ _ (And.intro rfl (And.intro rfl trivial))) ?_
      exact hk24  _
    · refine mm_aload_n (q := 12) dX6_sortByWhatIsLeft_11 rfl rfl rfl ?_
      refine mm_getR (q := 15) (k1 := 68) dX6_sortByWhatIsLeft_12 rfl lc_0 fd_X6_55 rfl ?_
      refine mm_iload_n (q := 16) dX6_sortByWhatIsLeft_15 rfl rfl rfl ?_
      refine mm_iconst (q := 17) dX6_sortByWhatIsLeft_16 rfl ic_0 ?_
      refine mm_iast (q := 18) dX6_sortByWhatIsLeft_17 rfl lc_68 (fun M2 _ => ?_)
      refine mm_iinc (q := 21) (ls' := [some (.ref 0), some (.int x1), some (.int (x2 + (1 : Int32))), none, none]) dX6_sortByWhatIsLeft_18 rfl rfl (ii_1 _) rfl (Nat.le_of_ble_eq_true rfl) rfl ?_
      refine mm_goto (tgt := 2) dX6_sortByWhatIsLeft_21 (by decide) ?_
      exact ih _ _
def fX6_sortByWhatIsLeft_L91 (x1 : Int32) (x2 : Int32) (k140 : mm_M → Option (mm_M)) : Nat → Int32 → mm_M → Option (mm_M)
  | 0, _, _ => none
  | n + 1, x3, M =>
    if (24 : Int32) ≤ x3 then
      k140 M
    else
      (fX1_leftBehind 55 x3 x1 M).bind fun b11 =>
      if (fX6_isOutside b11 (10 : Int32)) = 0 then
        ((mm_rd M 68 240 ((x3 * (10 : Int32)) + b11)).bind fun b13 =>
        (mm_wa M 68 240 ((x3 * (10 : Int32)) + b11) (b13 + (1 : Int32))).bind fun M14 =>
        fX6_sortByWhatIsLeft_L91 x1 x2 k140 n (x3 + (1 : Int32)) M14)
      else
        fX6_sortByWhatIsLeft_L91 x1 x2 k140 n (x3 + (1 : Int32)) M
set_option maxRecDepth 100000 in
set_option maxHeartbeats 4000000 in
theorem fX6_sortByWhatIsLeft_L91_ok (x1 : Int32) (x2 : Int32)  (k140 : mm_M → Option (mm_M)) (hk140 : ∀  (M : mm_M), mm_C LC cX6_sortByWhatIsLeft 5 RX6 none 3 mm_eV 140 [some (.ref 0), some (.int x1), some (.int x2), none, none] [] M (k140 M)) : ∀ (n : Nat) (x3 : Int32) (M : mm_M), mm_C LC cX6_sortByWhatIsLeft 5 RX6 none 3 mm_eV 91 [some (.ref 0), some (.int x1), some (.int x2), some (.int x3), none] [] M (fX6_sortByWhatIsLeft_L91 x1 x2 k140 n x3 M) := by
  intro n
  induction n with
  | zero => intro x3 M; exact mm_none
  | succ n ih =>
    intro x3 M
    rw [fX6_sortByWhatIsLeft_L91]
    refine mm_iload_n (q := 92) dX6_sortByWhatIsLeft_91 rfl rfl rfl ?_
    refine mm_bipush (q := 94) dX6_sortByWhatIsLeft_92 rfl bp_24 ?_
    refine mm_icmp_ge (q := 97) (tgt := 140) dX6_sortByWhatIsLeft_94 rfl (by decide) (fun c10 => ?_) (fun c10 => ?_)
    · refine mm_drop (ls' := [some (.ref 0), some (.int x1), some (.int x2), none, none]) (mm_sub_at _ _ (And.intro rfl (And.intro rfl (And.intro rfl trivial)))) ?_
      exact hk140  _
    · refine mm_aload_n (q := 98) dX6_sortByWhatIsLeft_97 rfl rfl rfl ?_
      refine mm_getR (q := 101) (k1 := 55) dX6_sortByWhatIsLeft_98 rfl lc_0 fd_X6_52 rfl ?_
      refine mm_iload_n (q := 102) dX6_sortByWhatIsLeft_101 rfl rfl rfl ?_
      refine mm_iload_n (q := 103) dX6_sortByWhatIsLeft_102 rfl rfl rfl ?_
      refine mm_callVP (as := [.int x3, .int x1]) (st := []) (q := 106) lc_55 rfl (fX1_leftBehind_ok 55 x3 x1 M isCo_55) ms_X6_156 rfl (Nat.le_of_ble_eq_true rfl) (Nat.le_of_ble_eq_true rfl) rfl dX6_sortByWhatIsLeft_103 rfl (fun b11 _ => ?_)
      refine mm_istore (q := 108) (ls' := [some (.ref 0), some (.int x1), some (.int x2), some (.int x3), some (.int b11)]) dX6_sortByWhatIsLeft_106 rfl rfl (Nat.le_of_ble_eq_true rfl) rfl ?_
      refine mm_iload (q := 110) dX6_sortByWhatIsLeft_108 rfl rfl ?_
      refine mm_bipush (q := 112) dX6_sortByWhatIsLeft_110 rfl bp_10 ?_
      refine mm_callST (as := [.int b11, .int (10 : Int32)]) (st := []) (q := 115) (fX6_isOutside_ok b11 (10 : Int32) M) ms_X6_66 rfl (Nat.le_of_ble_eq_true rfl) (Nat.le_of_ble_eq_true rfl) rfl dX6_sortByWhatIsLeft_112 rfl ?_
      refine mm_if_ne (q := 118) (tgt := 134) dX6_sortByWhatIsLeft_115 rfl (by decide) (fun c12 => ?_) (fun c12 => ?_)
      · refine mm_aload_n (q := 119) dX6_sortByWhatIsLeft_118 rfl rfl rfl ?_
        refine mm_getR (q := 122) (k1 := 68) dX6_sortByWhatIsLeft_119 rfl lc_0 fd_X6_55 rfl ?_
        refine mm_iload_n (q := 123) dX6_sortByWhatIsLeft_122 rfl rfl rfl ?_
        refine mm_bipush (q := 125) dX6_sortByWhatIsLeft_123 rfl bp_10 ?_
        refine mm_imul (q := 126) dX6_sortByWhatIsLeft_125 rfl ?_
        refine mm_iload (q := 128) dX6_sortByWhatIsLeft_126 rfl rfl ?_
        refine mm_iadd (q := 129) dX6_sortByWhatIsLeft_128 rfl ?_
        refine mm_dup2 (q := 130) dX6_sortByWhatIsLeft_129 rfl rfl rfl ?_
        refine mm_iald (q := 131) dX6_sortByWhatIsLeft_130 rfl lc_68 (fun b13 _ => ?_)
        refine mm_iconst (q := 132) dX6_sortByWhatIsLeft_131 rfl ic_1 ?_
        refine mm_iadd (q := 133) dX6_sortByWhatIsLeft_132 rfl ?_
        refine mm_iast (q := 134) dX6_sortByWhatIsLeft_133 rfl lc_68 (fun M14 _ => ?_)
        refine mm_iinc (q := 137) (ls' := [some (.ref 0), some (.int x1), some (.int x2), some (.int (x3 + (1 : Int32))), some (.int b11)]) dX6_sortByWhatIsLeft_134 rfl rfl (ii_1 _) rfl (Nat.le_of_ble_eq_true rfl) rfl ?_
        refine mm_goto (tgt := 91) dX6_sortByWhatIsLeft_137 (by decide) ?_
        refine mm_drop (ls' := [some (.ref 0), some (.int x1), some (.int x2), some (.int (x3 + (1 : Int32))), none]) (mm_sub_at _ _ (And.intro rfl (And.intro rfl (And.intro rfl (And.intro rfl trivial))))) ?_
        exact ih _ _
      · refine mm_iinc (q := 137) (ls' := [some (.ref 0), some (.int x1), some (.int x2), some (.int (x3 + (1 : Int32))), some (.int b11)]) dX6_sortByWhatIsLeft_134 rfl rfl (ii_1 _) rfl (Nat.le_of_ble_eq_true rfl) rfl ?_
        refine mm_goto (tgt := 91) dX6_sortByWhatIsLeft_137 (by decide) ?_
        refine mm_drop (ls' := [some (.ref 0), some (.int x1), some (.int x2), some (.int (x3 + (1 : Int32))), none]) (mm_sub_at _ _ (And.intro rfl (And.intro rfl (And.intro rfl (And.intro rfl trivial))))) ?_
        exact ih _ _
def fX6_sortByWhatIsLeft_L37 (x1 : Int32)  : Nat → Int32 → mm_M → Option (mm_M)
  | 0, _, _ => none
  | n + 1, x2, M =>
    if (9 : Int32) < x2 then
      some M
    else
      (mm_wa M 38 12 x1 x2).bind fun M6 =>
      (fX1_run 55 33 (fX2_all M6) M6).bind fun M7 =>
      (fX0_comesOut 55 M7).bind fun b8 =>
      if b8 = 0 then
        fX6_sortByWhatIsLeft_L37 x1 n (x2 + (1 : Int32)) M7
      else
        fX6_sortByWhatIsLeft_L91 x1 x2 (fun M15 =>
      fX6_sortByWhatIsLeft_L37 x1 n (x2 + (1 : Int32)) M15) 1000 (0 : Int32) M7
set_option maxRecDepth 100000 in
set_option maxHeartbeats 4000000 in
theorem fX6_sortByWhatIsLeft_L37_ok (x1 : Int32)    : ∀ (n : Nat) (x2 : Int32) (M : mm_M), mm_C LC cX6_sortByWhatIsLeft 5 RX6 none 3 mm_eV 37 [some (.ref 0), some (.int x1), some (.int x2), none, none] [] M (fX6_sortByWhatIsLeft_L37 x1 n x2 M) := by
  intro n
  induction n with
  | zero => intro x2 M; exact mm_none
  | succ n ih =>
    intro x2 M
    rw [fX6_sortByWhatIsLeft_L37]
    refine mm_iload_n (q := 38) dX6_sortByWhatIsLeft_37 rfl rfl rfl ?_
    refine mm_bipush (q := 40) dX6_sortByWhatIsLeft_38 rfl bp_9 ?_
    refine mm_icmp_gt (q := 43) (tgt := 146) dX6_sortByWhatIsLeft_40 rfl (by decide) (fun c5 => ?_) (fun c5 => ?_)
    · exact mm_vret rfl dX6_sortByWhatIsLeft_146
    · refine mm_aload_n (q := 44) dX6_sortByWhatIsLeft_43 rfl rfl rfl ?_
      refine mm_getR (q := 47) (k1 := 33) dX6_sortByWhatIsLeft_44 rfl lc_0 fd_X6_49 rfl ?_
      refine mm_getRN (q := 50) (k1 := 38) dX6_sortByWhatIsLeft_47 rfl lc_33 fd_X6_109 rfl ?_
      refine mm_iload_n (q := 51) dX6_sortByWhatIsLeft_50 rfl rfl rfl ?_
      refine mm_iload_n (q := 52) dX6_sortByWhatIsLeft_51 rfl rfl rfl ?_
      refine mm_iast (q := 53) dX6_sortByWhatIsLeft_52 rfl lc_38 (fun M6 _ => ?_)
      refine mm_aload_n (q := 54) dX6_sortByWhatIsLeft_53 rfl rfl rfl ?_
      refine mm_getR (q := 57) (k1 := 55) dX6_sortByWhatIsLeft_54 rfl lc_0 fd_X6_52 rfl ?_
      refine mm_aload_n (q := 58) dX6_sortByWhatIsLeft_57 rfl rfl rfl ?_
      refine mm_getR (q := 61) (k1 := 33) dX6_sortByWhatIsLeft_58 rfl lc_0 fd_X6_49 rfl ?_
      refine mm_aload_n (q := 62) dX6_sortByWhatIsLeft_61 rfl rfl rfl ?_
      refine mm_getR (q := 65) (k1 := 17) dX6_sortByWhatIsLeft_62 rfl lc_0 fd_X6_18 rfl ?_
      refine mm_aload_n (q := 66) dX6_sortByWhatIsLeft_65 rfl rfl rfl ?_
      refine mm_getR (q := 69) (k1 := 17) dX6_sortByWhatIsLeft_66 rfl lc_0 fd_X6_18 rfl ?_
      refine mm_callVT (as := []) (st := [.ref 17, .ref 33, .ref 55]) (q := 72) lc_17 rfl (fX2_all_ok M6) ms_X6_185 rfl (Nat.le_of_ble_eq_true rfl) (Nat.le_of_ble_eq_true rfl) rfl dX6_sortByWhatIsLeft_69 rfl ?_
      refine mm_callVV (as := [.ref 33, .ref 17, .int (fX2_all M6)]) (st := []) (q := 75) lc_55 rfl (fX1_run_ok 55 33 (fX2_all M6) M6 isCo_55 isTo_33) ms_X6_188 rfl (Nat.le_of_ble_eq_true rfl) (Nat.le_of_ble_eq_true rfl) rfl dX6_sortByWhatIsLeft_72 rfl (fun M7 _ => ?_)
      refine mm_aload_n (q := 76) dX6_sortByWhatIsLeft_75 rfl rfl rfl ?_
      refine mm_getR (q := 79) (k1 := 20) dX6_sortByWhatIsLeft_76 rfl lc_0 fd_X6_25 rfl ?_
      refine mm_aload_n (q := 80) dX6_sortByWhatIsLeft_79 rfl rfl rfl ?_
      refine mm_getR (q := 83) (k1 := 55) dX6_sortByWhatIsLeft_80 rfl lc_0 fd_X6_52 rfl ?_
      refine mm_callVP (as := [.ref 55]) (st := []) (q := 86) lc_20 rfl (fX0_comesOut_ok 55 M7 isCo_55) ms_X6_215 rfl (Nat.le_of_ble_eq_true rfl) (Nat.le_of_ble_eq_true rfl) rfl dX6_sortByWhatIsLeft_83 rfl (fun b8 _ => ?_)
      refine mm_if_eq (q := 89) (tgt := 140) dX6_sortByWhatIsLeft_86 rfl (by decide) (fun c9 => ?_) (fun c9 => ?_)
      · refine mm_iinc (q := 143) (ls' := [some (.ref 0), some (.int x1), some (.int (x2 + (1 : Int32))), none, none]) dX6_sortByWhatIsLeft_140 rfl rfl (ii_1 _) rfl (Nat.le_of_ble_eq_true rfl) rfl ?_
        refine mm_goto (tgt := 37) dX6_sortByWhatIsLeft_143 (by decide) ?_
        exact ih _ _
      · refine mm_iconst (q := 90) dX6_sortByWhatIsLeft_89 rfl ic_0 ?_
        refine mm_istore_n (q := 91) (ls' := [some (.ref 0), some (.int x1), some (.int x2), some (.int (0 : Int32)), none]) dX6_sortByWhatIsLeft_90 rfl rfl rfl (Nat.le_of_ble_eq_true rfl) rfl ?_
        refine fX6_sortByWhatIsLeft_L91_ok x1 x2 _ (fun M15 => ?_) _ _ _
        refine mm_iinc (q := 143) (ls' := [some (.ref 0), some (.int x1), some (.int (x2 + (1 : Int32))), none, none]) dX6_sortByWhatIsLeft_140 rfl rfl (ii_1 _) rfl (Nat.le_of_ble_eq_true rfl) rfl ?_
        refine mm_goto (tgt := 37) dX6_sortByWhatIsLeft_143 (by decide) ?_
        exact ih _ _
def fX6_sortByWhatIsLeft (x1 : Int32) (M : mm_M) : Option (mm_M) :=
  fX6_sortByWhatIsLeft_L2 x1 (fun M3 =>
      (fX5_becomeLike 33 24 M3).bind fun M4 =>
      fX6_sortByWhatIsLeft_L37 x1 1000 (1 : Int32) M4) 1000 (0 : Int32) M
set_option maxRecDepth 100000 in
set_option maxHeartbeats 4000000 in
theorem fX6_sortByWhatIsLeft_ok (x1 : Int32) (M : mm_M)  : mm_E LC yX6_sortByWhatIsLeft cX6_sortByWhatIsLeft 5 none 3 mm_eV [.ref 0, .int x1] M (fX6_sortByWhatIsLeft x1 M) := by
  refine mm_E.of (own := RX6) (ls := [some (.ref 0), some (.int x1), none, none, none]) (by decide) rfl rfl (Nat.le_of_ble_eq_true rfl) ?_
  unfold fX6_sortByWhatIsLeft
  refine mm_iconst (q := 1) dX6_sortByWhatIsLeft_0 rfl ic_0 ?_
  refine mm_istore_n (q := 2) (ls' := [some (.ref 0), some (.int x1), some (.int (0 : Int32)), none, none]) dX6_sortByWhatIsLeft_1 rfl rfl rfl (Nat.le_of_ble_eq_true rfl) rfl ?_
  refine fX6_sortByWhatIsLeft_L2_ok x1 _ (fun M3 => ?_) _ _ _
  refine mm_aload_n (q := 25) dX6_sortByWhatIsLeft_24 rfl rfl rfl ?_
  refine mm_getR (q := 28) (k1 := 33) dX6_sortByWhatIsLeft_25 rfl lc_0 fd_X6_49 rfl ?_
  refine mm_aload_n (q := 29) dX6_sortByWhatIsLeft_28 rfl rfl rfl ?_
  refine mm_getR (q := 32) (k1 := 24) dX6_sortByWhatIsLeft_29 rfl lc_0 fd_X6_38 rfl ?_
  refine mm_callVV (as := [.ref 24]) (st := []) (q := 35) lc_33 rfl (fX5_becomeLike_ok 33 24 M3 isTo_33 isTo_24) ms_X6_177 rfl (Nat.le_of_ble_eq_true rfl) (Nat.le_of_ble_eq_true rfl) rfl dX6_sortByWhatIsLeft_32 rfl (fun M4 _ => ?_)
  refine mm_iconst (q := 36) dX6_sortByWhatIsLeft_35 rfl ic_1 ?_
  refine mm_istore_n (q := 37) (ls' := [some (.ref 0), some (.int x1), some (.int (1 : Int32)), none, none]) dX6_sortByWhatIsLeft_36 rfl rfl rfl (Nat.le_of_ble_eq_true rfl) rfl ?_
  exact fX6_sortByWhatIsLeft_L37_ok x1 _ _ _
def fX6_mostAlike_L4 (x1 : Int32) (M : mm_M)  : Nat → Int32 → Int32 → Option (Int32)
  | 0, _, _ => none
  | n + 1, x2, x3 =>
    if (9 : Int32) < x3 then
      some x2
    else
      (mm_rd M 68 240 ((x1 * (10 : Int32)) + x3)).bind fun b2 =>
      fX6_mostAlike_L4 x1 M n (mm_max x2 b2) (x3 + (1 : Int32))
set_option maxRecDepth 100000 in
set_option maxHeartbeats 4000000 in
theorem fX6_mostAlike_L4_ok (x1 : Int32) (M : mm_M)    : ∀ (n : Nat) (x2 : Int32) (x3 : Int32), mm_C LC cX6_mostAlike 4 RX6 (some .int) 1 (mm_pI M) 4 [some (.ref 0), some (.int x1), some (.int x2), some (.int x3)] [] M (fX6_mostAlike_L4 x1 M n x2 x3) := by
  intro n
  induction n with
  | zero => intro x2 x3; exact mm_none
  | succ n ih =>
    intro x2 x3
    rw [fX6_mostAlike_L4]
    refine mm_iload_n (q := 5) dX6_mostAlike_4 rfl rfl rfl ?_
    refine mm_bipush (q := 7) dX6_mostAlike_5 rfl bp_9 ?_
    refine mm_icmp_gt (q := 10) (tgt := 32) dX6_mostAlike_7 rfl (by decide) (fun c1 => ?_) (fun c1 => ?_)
    · refine mm_iload_n (q := 33) dX6_mostAlike_32 rfl rfl rfl ?_
      exact mm_iret rfl dX6_mostAlike_33
    · refine mm_iload_n (q := 11) dX6_mostAlike_10 rfl rfl rfl ?_
      refine mm_aload_n (q := 12) dX6_mostAlike_11 rfl rfl rfl ?_
      refine mm_getR (q := 15) (k1 := 68) dX6_mostAlike_12 rfl lc_0 fd_X6_55 rfl ?_
      refine mm_iload_n (q := 16) dX6_mostAlike_15 rfl rfl rfl ?_
      refine mm_bipush (q := 18) dX6_mostAlike_16 rfl bp_10 ?_
      refine mm_imul (q := 19) dX6_mostAlike_18 rfl ?_
      refine mm_iload_n (q := 20) dX6_mostAlike_19 rfl rfl rfl ?_
      refine mm_iadd (q := 21) dX6_mostAlike_20 rfl ?_
      refine mm_iald (q := 22) dX6_mostAlike_21 rfl lc_68 (fun b2 _ => ?_)
      refine mm_mmax (q := 25) dX6_mostAlike_22 rfl cs_X6_367 ma_max_1 ma_0 ma_max_2 (Nat.le_of_ble_eq_true rfl) (Nat.le_of_ble_eq_true rfl) ?_
      refine mm_istore_n (q := 26) (ls' := [some (.ref 0), some (.int x1), some (.int (mm_max x2 b2)), some (.int x3)]) dX6_mostAlike_25 rfl rfl rfl (Nat.le_of_ble_eq_true rfl) rfl ?_
      refine mm_iinc (q := 29) (ls' := [some (.ref 0), some (.int x1), some (.int (mm_max x2 b2)), some (.int (x3 + (1 : Int32)))]) dX6_mostAlike_26 rfl rfl (ii_1 _) rfl (Nat.le_of_ble_eq_true rfl) rfl ?_
      refine mm_goto (tgt := 4) dX6_mostAlike_29 (by decide) ?_
      exact ih _ _
def fX6_mostAlike (x1 : Int32) (M : mm_M) : Option (Int32) :=
  fX6_mostAlike_L4 x1 M 1000 (0 : Int32) (0 : Int32)
set_option maxRecDepth 100000 in
set_option maxHeartbeats 4000000 in
theorem fX6_mostAlike_ok (x1 : Int32) (M : mm_M)  : mm_E LC yX6_mostAlike cX6_mostAlike 4 (some .int) 1 (mm_pI M) [.ref 0, .int x1] M (fX6_mostAlike x1 M) := by
  refine mm_E.of (own := RX6) (ls := [some (.ref 0), some (.int x1), none, none]) (by decide) rfl rfl (Nat.le_of_ble_eq_true rfl) ?_
  unfold fX6_mostAlike
  refine mm_iconst (q := 1) dX6_mostAlike_0 rfl ic_0 ?_
  refine mm_istore_n (q := 2) (ls' := [some (.ref 0), some (.int x1), some (.int (0 : Int32)), none]) dX6_mostAlike_1 rfl rfl rfl (Nat.le_of_ble_eq_true rfl) rfl ?_
  refine mm_iconst (q := 3) dX6_mostAlike_2 rfl ic_0 ?_
  refine mm_istore_n (q := 4) (ls' := [some (.ref 0), some (.int x1), some (.int (0 : Int32)), some (.int (0 : Int32))]) dX6_mostAlike_3 rfl rfl rfl (Nat.le_of_ble_eq_true rfl) rfl ?_
  exact fX6_mostAlike_L4_ok x1 M _ _ _
def fX6_ask_L33 (M : mm_M)  : Nat → Int32 → Int32 → Int32 → Option (Int32 × mm_M)
  | 0, _, _, _ => none
  | n + 1, x2, x3, x4 =>
    if (24 : Int32) ≤ x4 then
      some (x2, M)
    else
      (fX6_mostAlike x4 M).bind fun b5 =>
      fX6_ask_L33 M n (if x3 ≤ b5 then x2 else x4) (if x3 ≤ b5 then x3 else b5) (x4 + (1 : Int32))
set_option maxRecDepth 100000 in
set_option maxHeartbeats 4000000 in
theorem fX6_ask_L33_ok (M : mm_M)    : ∀ (n : Nat) (x2 : Int32) (x3 : Int32) (x4 : Int32), mm_C LC cX6_ask 6 RX6 (some .int) 4 mm_eI 33 [some (.ref 0), none, some (.int x2), some (.int x3), some (.int x4), none] [] M (fX6_ask_L33 M n x2 x3 x4) := by
  intro n
  induction n with
  | zero => intro x2 x3 x4; exact mm_none
  | succ n ih =>
    intro x2 x3 x4
    rw [fX6_ask_L33]
    refine mm_iload (q := 35) dX6_ask_33 rfl rfl ?_
    refine mm_bipush (q := 37) dX6_ask_35 rfl bp_24 ?_
    refine mm_icmp_ge (q := 40) (tgt := 66) dX6_ask_37 rfl (by decide) (fun c4 => ?_) (fun c4 => ?_)
    · refine mm_iload_n (q := 67) dX6_ask_66 rfl rfl rfl ?_
      exact mm_iret rfl dX6_ask_67
    · refine mm_aload_n (q := 41) dX6_ask_40 rfl rfl rfl ?_
      refine mm_iload (q := 43) dX6_ask_41 rfl rfl ?_
      refine mm_callVP (as := [.int x4]) (st := []) (q := 46) lc_0 rfl (fX6_mostAlike_ok x4 M) ms_X6_222 rfl (Nat.le_of_ble_eq_true rfl) (Nat.le_of_ble_eq_true rfl) rfl dX6_ask_43 rfl (fun b5 _ => ?_)
      refine mm_istore (q := 48) (ls' := [some (.ref 0), none, some (.int x2), some (.int x3), some (.int x4), some (.int b5)]) dX6_ask_46 rfl rfl (Nat.le_of_ble_eq_true rfl) rfl ?_
      refine mm_iload (q := 50) dX6_ask_48 rfl rfl ?_
      refine mm_iload_n (q := 51) dX6_ask_50 rfl rfl rfl ?_
      by_cases c6 : x3 ≤ b5
      · simp only [if_pos c6]
        refine mm_icmp_ge_t (tgt := 60) c6 dX6_ask_51 (by decide) ?_
        refine mm_iinc (q := 63) (ls' := [some (.ref 0), none, some (.int x2), some (.int x3), some (.int (x4 + (1 : Int32))), some (.int b5)]) dX6_ask_60 rfl rfl (ii_1 _) rfl (Nat.le_of_ble_eq_true rfl) rfl ?_
        refine mm_goto (tgt := 33) dX6_ask_63 (by decide) ?_
        refine mm_drop (ls' := [some (.ref 0), none, some (.int x2), some (.int x3), some (.int (x4 + (1 : Int32))), none]) (mm_sub_at _ _ (And.intro rfl (And.intro rfl (And.intro rfl (And.intro rfl trivial))))) ?_
        exact ih _ _ _
      · simp only [if_neg c6]
        refine mm_icmp_ge_f (q := 54) (tgt := 60) c6 dX6_ask_51 rfl (by decide) ?_
        refine mm_iload (q := 56) dX6_ask_54 rfl rfl ?_
        refine mm_istore_n (q := 57) (ls' := [some (.ref 0), none, some (.int x2), some (.int b5), some (.int x4), some (.int b5)]) dX6_ask_56 rfl rfl rfl (Nat.le_of_ble_eq_true rfl) rfl ?_
        refine mm_iload (q := 59) dX6_ask_57 rfl rfl ?_
        refine mm_istore_n (q := 60) (ls' := [some (.ref 0), none, some (.int x4), some (.int b5), some (.int x4), some (.int b5)]) dX6_ask_59 rfl rfl rfl (Nat.le_of_ble_eq_true rfl) rfl ?_
        refine mm_iinc (q := 63) (ls' := [some (.ref 0), none, some (.int x4), some (.int b5), some (.int (x4 + (1 : Int32))), some (.int b5)]) dX6_ask_60 rfl rfl (ii_1 _) rfl (Nat.le_of_ble_eq_true rfl) rfl ?_
        refine mm_goto (tgt := 33) dX6_ask_63 (by decide) ?_
        refine mm_drop (ls' := [some (.ref 0), none, some (.int x4), some (.int b5), some (.int (x4 + (1 : Int32))), none]) (mm_sub_at _ _ (And.intro rfl (And.intro rfl (And.intro rfl (And.intro rfl trivial))))) ?_
        exact ih _ _ _
def fX6_ask (x1 : Int32) (M : mm_M) : Option (Int32 × mm_M) :=
  if (fX6_isOutside x1 (M 24 3)) = 0 then
    ((fX6_sortByWhatIsLeft x1 M).bind fun M2 =>
    (fX6_mostAlike (0 : Int32) M2).bind fun b3 =>
    fX6_ask_L33 M2 1000 (0 : Int32) b3 (1 : Int32))
  else
    some ((-2 : Int32), M)
set_option maxRecDepth 100000 in
set_option maxHeartbeats 4000000 in
theorem fX6_ask_ok (x1 : Int32) (M : mm_M)  : mm_E LC yX6_ask cX6_ask 6 (some .int) 4 mm_eI [.ref 0, .int x1] M (fX6_ask x1 M) := by
  refine mm_E.of (own := RX6) (ls := [some (.ref 0), some (.int x1), none, none, none, none]) (by decide) rfl rfl (Nat.le_of_ble_eq_true rfl) ?_
  unfold fX6_ask
  refine mm_iload_n (q := 1) dX6_ask_0 rfl rfl rfl ?_
  refine mm_aload_n (q := 2) dX6_ask_1 rfl rfl rfl ?_
  refine mm_getR (q := 5) (k1 := 24) dX6_ask_2 rfl lc_0 fd_X6_38 rfl ?_
  refine mm_getIN (q := 8) dX6_ask_5 rfl lc_24 fd_X6_100 rfl ?_
  refine mm_callST (as := [.int x1, .int (M 24 3)]) (st := []) (q := 11) (fX6_isOutside_ok x1 (M 24 3) M) ms_X6_66 rfl (Nat.le_of_ble_eq_true rfl) (Nat.le_of_ble_eq_true rfl) rfl dX6_ask_8 rfl ?_
  refine mm_if_eq (q := 14) (tgt := 17) dX6_ask_11 rfl (by decide) (fun c1 => ?_) (fun c1 => ?_)
  · refine mm_aload_n (q := 18) dX6_ask_17 rfl rfl rfl ?_
    refine mm_iload_n (q := 19) dX6_ask_18 rfl rfl rfl ?_
    refine mm_callVV (as := [.int x1]) (st := []) (q := 22) lc_0 rfl (fX6_sortByWhatIsLeft_ok x1 M) ms_X6_219 rfl (Nat.le_of_ble_eq_true rfl) (Nat.le_of_ble_eq_true rfl) rfl dX6_ask_19 rfl (fun M2 _ => ?_)
    refine mm_iconst (q := 23) dX6_ask_22 rfl ic_0 ?_
    refine mm_istore_n (q := 24) (ls' := [some (.ref 0), some (.int x1), some (.int (0 : Int32)), none, none, none]) dX6_ask_23 rfl rfl rfl (Nat.le_of_ble_eq_true rfl) rfl ?_
    refine mm_aload_n (q := 25) dX6_ask_24 rfl rfl rfl ?_
    refine mm_iconst (q := 26) dX6_ask_25 rfl ic_0 ?_
    refine mm_callVP (as := [.int (0 : Int32)]) (st := []) (q := 29) lc_0 rfl (fX6_mostAlike_ok (0 : Int32) M2) ms_X6_222 rfl (Nat.le_of_ble_eq_true rfl) (Nat.le_of_ble_eq_true rfl) rfl dX6_ask_26 rfl (fun b3 _ => ?_)
    refine mm_istore_n (q := 30) (ls' := [some (.ref 0), some (.int x1), some (.int (0 : Int32)), some (.int b3), none, none]) dX6_ask_29 rfl rfl rfl (Nat.le_of_ble_eq_true rfl) rfl ?_
    refine mm_iconst (q := 31) dX6_ask_30 rfl ic_1 ?_
    refine mm_istore (q := 33) (ls' := [some (.ref 0), some (.int x1), some (.int (0 : Int32)), some (.int b3), some (.int (1 : Int32)), none]) dX6_ask_31 rfl rfl (Nat.le_of_ble_eq_true rfl) rfl ?_
    refine mm_drop (ls' := [some (.ref 0), none, some (.int (0 : Int32)), some (.int b3), some (.int (1 : Int32)), none]) (mm_sub_at _ _ (And.intro rfl (And.intro rfl (And.intro rfl (And.intro rfl trivial))))) ?_
    exact fX6_ask_L33_ok M2 _ _ _ _
  · refine mm_bipush (q := 16) dX6_ask_14 rfl bp_m2 ?_
    exact mm_iret rfl dX6_ask_16
def fX6_learnCourse  (M : mm_M) : Option (mm_M) :=
  if (M 0 10) = 0 then
    ((fX1_run 42 24 (fX2_all M) M).bind fun M2 =>
    (mm_pf M2 0 10 (1 : Int32)).bind fun M3 =>
    some M3)
  else
    some M
set_option maxRecDepth 100000 in
set_option maxHeartbeats 4000000 in
theorem fX6_learnCourse_ok  (M : mm_M)  : mm_E LC yX6_learnCourse cX6_learnCourse 1 none 3 mm_eV [.ref 0] M (fX6_learnCourse M) := by
  refine mm_E.of (own := RX6) (ls := [some (.ref 0)]) (by decide) rfl rfl (Nat.le_of_ble_eq_true rfl) ?_
  unfold fX6_learnCourse
  refine mm_aload_n (q := 1) dX6_learnCourse_0 rfl rfl rfl ?_
  refine mm_getI (q := 4) dX6_learnCourse_1 rfl lc_0 fd_X6_356 rfl ?_
  refine mm_if_ne (q := 7) (tgt := 34) dX6_learnCourse_4 rfl (by decide) (fun c1 => ?_) (fun c1 => ?_)
  · refine mm_aload_n (q := 8) dX6_learnCourse_7 rfl rfl rfl ?_
    refine mm_getR (q := 11) (k1 := 42) dX6_learnCourse_8 rfl lc_0 fd_X6_45 rfl ?_
    refine mm_aload_n (q := 12) dX6_learnCourse_11 rfl rfl rfl ?_
    refine mm_getR (q := 15) (k1 := 24) dX6_learnCourse_12 rfl lc_0 fd_X6_38 rfl ?_
    refine mm_aload_n (q := 16) dX6_learnCourse_15 rfl rfl rfl ?_
    refine mm_getR (q := 19) (k1 := 17) dX6_learnCourse_16 rfl lc_0 fd_X6_18 rfl ?_
    refine mm_aload_n (q := 20) dX6_learnCourse_19 rfl rfl rfl ?_
    refine mm_getR (q := 23) (k1 := 17) dX6_learnCourse_20 rfl lc_0 fd_X6_18 rfl ?_
    refine mm_callVT (as := []) (st := [.ref 17, .ref 24, .ref 42]) (q := 26) lc_17 rfl (fX2_all_ok M) ms_X6_185 rfl (Nat.le_of_ble_eq_true rfl) (Nat.le_of_ble_eq_true rfl) rfl dX6_learnCourse_23 rfl ?_
    refine mm_callVV (as := [.ref 24, .ref 17, .int (fX2_all M)]) (st := []) (q := 29) lc_42 rfl (fX1_run_ok 42 24 (fX2_all M) M isCo_42 isTo_24) ms_X6_188 rfl (Nat.le_of_ble_eq_true rfl) (Nat.le_of_ble_eq_true rfl) rfl dX6_learnCourse_26 rfl (fun M2 _ => ?_)
    refine mm_aload_n (q := 30) dX6_learnCourse_29 rfl rfl rfl ?_
    refine mm_iconst (q := 31) dX6_learnCourse_30 rfl ic_1 ?_
    refine mm_put (q := 34) dX6_learnCourse_31 rfl lc_0 fd_X6_356 ps_X6_10 rfl rfl rfl (fun M3 _ => ?_)
    exact mm_vret rfl dX6_learnCourse_34
  · exact mm_vret rfl dX6_learnCourse_34
def fX6_at (x1 : Int32) (x2 : Int32) (x3 : Int32) (M : mm_M) : Option (Int32 × mm_M) :=
  if (fX6_isOutside x1 (24 : Int32)) = 0 then
    (if (fX6_isOutside x2 (M 24 0)) = 0 then
      (if (fX6_isOutside x3 (4 : Int32)) = 0 then
        ((fX6_learnCourse M).bind fun M4 =>
        if x3 = 0 then
          ((mm_rd M4 26 8 x2).bind fun b6 =>
          if x1 < b6 then
            some ((0 : Int32), M4)
          else
            some ((1 : Int32), M4))
        else
          if x3 = (1 : Int32) then
            ((fX1_openUses 42 x1 28 x2 M4).bind fun b9 =>
            some (b9, M4))
          else
            if x3 = (2 : Int32) then
              ((fX1_openUses 42 x1 27 x2 M4).bind fun b11 =>
              some (b11, M4))
            else
              (fX1_saidBehind 42 x1 x2 M4).bind fun b12 =>
              some (b12, M4))
      else
        some ((-2 : Int32), M))
    else
      some ((-2 : Int32), M))
  else
    some ((-2 : Int32), M)
set_option maxRecDepth 100000 in
set_option maxHeartbeats 4000000 in
theorem fX6_at_ok (x1 : Int32) (x2 : Int32) (x3 : Int32) (M : mm_M)  : mm_E LC yX6_at cX6_at 4 (some .int) 4 mm_eI [.ref 0, .int x1, .int x2, .int x3] M (fX6_at x1 x2 x3 M) := by
  refine mm_E.of (own := RX6) (ls := [some (.ref 0), some (.int x1), some (.int x2), some (.int x3)]) (by decide) rfl rfl (Nat.le_of_ble_eq_true rfl) ?_
  unfold fX6_at
  refine mm_iload_n (q := 1) dX6_at_0 rfl rfl rfl ?_
  refine mm_bipush (q := 3) dX6_at_1 rfl bp_24 ?_
  refine mm_callST (as := [.int x1, .int (24 : Int32)]) (st := []) (q := 6) (fX6_isOutside_ok x1 (24 : Int32) M) ms_X6_66 rfl (Nat.le_of_ble_eq_true rfl) (Nat.le_of_ble_eq_true rfl) rfl dX6_at_3 rfl ?_
  refine mm_if_ne (q := 9) (tgt := 31) dX6_at_6 rfl (by decide) (fun c1 => ?_) (fun c1 => ?_)
  · refine mm_iload_n (q := 10) dX6_at_9 rfl rfl rfl ?_
    refine mm_aload_n (q := 11) dX6_at_10 rfl rfl rfl ?_
    refine mm_getR (q := 14) (k1 := 24) dX6_at_11 rfl lc_0 fd_X6_38 rfl ?_
    refine mm_getIN (q := 17) dX6_at_14 rfl lc_24 fd_X6_90 rfl ?_
    refine mm_callST (as := [.int x2, .int (M 24 0)]) (st := []) (q := 20) (fX6_isOutside_ok x2 (M 24 0) M) ms_X6_66 rfl (Nat.le_of_ble_eq_true rfl) (Nat.le_of_ble_eq_true rfl) rfl dX6_at_17 rfl ?_
    refine mm_if_ne (q := 23) (tgt := 31) dX6_at_20 rfl (by decide) (fun c2 => ?_) (fun c2 => ?_)
    · refine mm_iload_n (q := 24) dX6_at_23 rfl rfl rfl ?_
      refine mm_iconst (q := 25) dX6_at_24 rfl ic_4 ?_
      refine mm_callST (as := [.int x3, .int (4 : Int32)]) (st := []) (q := 28) (fX6_isOutside_ok x3 (4 : Int32) M) ms_X6_66 rfl (Nat.le_of_ble_eq_true rfl) (Nat.le_of_ble_eq_true rfl) rfl dX6_at_25 rfl ?_
      refine mm_if_eq (q := 31) (tgt := 34) dX6_at_28 rfl (by decide) (fun c3 => ?_) (fun c3 => ?_)
      · refine mm_aload_n (q := 35) dX6_at_34 rfl rfl rfl ?_
        refine mm_callVV (as := []) (st := []) (q := 38) lc_0 rfl (fX6_learnCourse_ok M) ms_X6_149 rfl (Nat.le_of_ble_eq_true rfl) (Nat.le_of_ble_eq_true rfl) rfl dX6_at_35 rfl (fun M4 _ => ?_)
        refine mm_iload_n (q := 39) dX6_at_38 rfl rfl rfl ?_
        refine mm_if_ne (q := 42) (tgt := 61) dX6_at_39 rfl (by decide) (fun c5 => ?_) (fun c5 => ?_)
        · refine mm_aload_n (q := 43) dX6_at_42 rfl rfl rfl ?_
          refine mm_getR (q := 46) (k1 := 24) dX6_at_43 rfl lc_0 fd_X6_38 rfl ?_
          refine mm_getRN (q := 49) (k1 := 26) dX6_at_46 rfl lc_24 fd_X6_97 rfl ?_
          refine mm_iload_n (q := 50) dX6_at_49 rfl rfl rfl ?_
          refine mm_iald (q := 51) dX6_at_50 rfl lc_26 (fun b6 _ => ?_)
          refine mm_iload_n (q := 52) dX6_at_51 rfl rfl rfl ?_
          refine mm_icmp_gt (q := 55) (tgt := 59) dX6_at_52 rfl (by decide) (fun c7 => ?_) (fun c7 => ?_)
          · refine mm_iconst (q := 60) dX6_at_59 rfl ic_0 ?_
            exact mm_iret rfl dX6_at_60
          · refine mm_iconst (q := 56) dX6_at_55 rfl ic_1 ?_
            refine mm_goto (tgt := 60) dX6_at_56 (by decide) ?_
            exact mm_iret rfl dX6_at_60
        · refine mm_iload_n (q := 62) dX6_at_61 rfl rfl rfl ?_
          refine mm_iconst (q := 63) dX6_at_62 rfl ic_1 ?_
          refine mm_icmp_ne (q := 66) (tgt := 83) dX6_at_63 rfl (by decide) (fun c8 => ?_) (fun c8 => ?_)
          · refine mm_aload_n (q := 67) dX6_at_66 rfl rfl rfl ?_
            refine mm_getR (q := 70) (k1 := 42) dX6_at_67 rfl lc_0 fd_X6_45 rfl ?_
            refine mm_iload_n (q := 71) dX6_at_70 rfl rfl rfl ?_
            refine mm_aload_n (q := 72) dX6_at_71 rfl rfl rfl ?_
            refine mm_getR (q := 75) (k1 := 24) dX6_at_72 rfl lc_0 fd_X6_38 rfl ?_
            refine mm_getRN (q := 78) (k1 := 28) dX6_at_75 rfl lc_24 fd_X6_106 rfl ?_
            refine mm_iload_n (q := 79) dX6_at_78 rfl rfl rfl ?_
            refine mm_callVP (as := [.int x1, .ref 28, .int x2]) (st := []) (q := 82) lc_42 rfl (fX1_openUses_ok 42 x1 28 x2 M4 isCo_42 lc_28) ms_X6_159 rfl (Nat.le_of_ble_eq_true rfl) (Nat.le_of_ble_eq_true rfl) rfl dX6_at_79 rfl (fun b9 _ => ?_)
            exact mm_iret rfl dX6_at_82
          · refine mm_iload_n (q := 84) dX6_at_83 rfl rfl rfl ?_
            refine mm_iconst (q := 85) dX6_at_84 rfl ic_2 ?_
            refine mm_icmp_ne (q := 88) (tgt := 107) dX6_at_85 rfl (by decide) (fun c10 => ?_) (fun c10 => ?_)
            · refine mm_aload_n (q := 89) dX6_at_88 rfl rfl rfl ?_
              refine mm_getR (q := 92) (k1 := 42) dX6_at_89 rfl lc_0 fd_X6_45 rfl ?_
              refine mm_iload_n (q := 93) dX6_at_92 rfl rfl rfl ?_
              refine mm_aload_n (q := 94) dX6_at_93 rfl rfl rfl ?_
              refine mm_getR (q := 97) (k1 := 24) dX6_at_94 rfl lc_0 fd_X6_38 rfl ?_
              refine mm_getRN (q := 100) (k1 := 27) dX6_at_97 rfl lc_24 fd_X6_103 rfl ?_
              refine mm_iload_n (q := 101) dX6_at_100 rfl rfl rfl ?_
              refine mm_callVP (as := [.int x1, .ref 27, .int x2]) (st := []) (q := 104) lc_42 rfl (fX1_openUses_ok 42 x1 27 x2 M4 isCo_42 lc_27) ms_X6_159 rfl (Nat.le_of_ble_eq_true rfl) (Nat.le_of_ble_eq_true rfl) rfl dX6_at_101 rfl (fun b11 _ => ?_)
              refine mm_goto (tgt := 116) dX6_at_104 (by decide) ?_
              exact mm_iret rfl dX6_at_116
            · refine mm_aload_n (q := 108) dX6_at_107 rfl rfl rfl ?_
              refine mm_getR (q := 111) (k1 := 42) dX6_at_108 rfl lc_0 fd_X6_45 rfl ?_
              refine mm_iload_n (q := 112) dX6_at_111 rfl rfl rfl ?_
              refine mm_iload_n (q := 113) dX6_at_112 rfl rfl rfl ?_
              refine mm_callVP (as := [.int x1, .int x2]) (st := []) (q := 116) lc_42 rfl (fX1_saidBehind_ok 42 x1 x2 M4 isCo_42) ms_X6_163 rfl (Nat.le_of_ble_eq_true rfl) (Nat.le_of_ble_eq_true rfl) rfl dX6_at_113 rfl (fun b12 _ => ?_)
              exact mm_iret rfl dX6_at_116
      · refine mm_bipush (q := 33) dX6_at_31 rfl bp_m2 ?_
        exact mm_iret rfl dX6_at_33
    · refine mm_bipush (q := 33) dX6_at_31 rfl bp_m2 ?_
      exact mm_iret rfl dX6_at_33
  · refine mm_bipush (q := 33) dX6_at_31 rfl bp_m2 ?_
    exact mm_iret rfl dX6_at_33
def fX6_courseChanged  (M : mm_M) : Option (mm_M) :=
  (mm_pf M 0 10 (0 : Int32)).bind fun M1 =>
  (mm_pf M1 0 11 (0 : Int32)).bind fun M2 =>
  some M2
set_option maxRecDepth 100000 in
set_option maxHeartbeats 4000000 in
theorem fX6_courseChanged_ok  (M : mm_M)  : mm_E LC yX6_courseChanged cX6_courseChanged 1 none 0 mm_eV [.ref 0] M (fX6_courseChanged M) := by
  refine mm_E.of (own := RX6) (ls := [some (.ref 0)]) (by decide) rfl rfl (Nat.le_of_ble_eq_true rfl) ?_
  unfold fX6_courseChanged
  refine mm_aload_n (q := 1) dX6_courseChanged_0 rfl rfl rfl ?_
  refine mm_iconst (q := 2) dX6_courseChanged_1 rfl ic_0 ?_
  refine mm_put (q := 5) dX6_courseChanged_2 rfl lc_0 fd_X6_356 ps_X6_10 rfl rfl rfl (fun M1 _ => ?_)
  refine mm_aload_n (q := 6) dX6_courseChanged_5 rfl rfl rfl ?_
  refine mm_iconst (q := 7) dX6_courseChanged_6 rfl ic_0 ?_
  refine mm_put (q := 10) dX6_courseChanged_7 rfl lc_0 fd_X6_360 ps_X6_11 rfl rfl rfl (fun M2 _ => ?_)
  exact mm_vret rfl dX6_courseChanged_10
def fX6_back  (M : mm_M) : Option (Int32 × mm_M) :=
  if (M 17 2) = 0 then
    some ((-3 : Int32), M)
  else
    (mm_pf M 17 2 ((M 17 2) - (1 : Int32))).bind fun M2 =>
    (fX6_courseChanged M2).bind fun M3 =>
    some (M3 17 2, M3)
set_option maxRecDepth 100000 in
set_option maxHeartbeats 4000000 in
theorem fX6_back_ok  (M : mm_M)  : mm_E LC yX6_back cX6_back 1 (some .int) 1 mm_eI [.ref 0] M (fX6_back M) := by
  refine mm_E.of (own := RX6) (ls := [some (.ref 0)]) (by decide) rfl rfl (Nat.le_of_ble_eq_true rfl) ?_
  unfold fX6_back
  refine mm_aload_n (q := 1) dX6_back_0 rfl rfl rfl ?_
  refine mm_getR (q := 4) (k1 := 17) dX6_back_1 rfl lc_0 fd_X6_18 rfl ?_
  refine mm_getIN (q := 7) dX6_back_4 rfl lc_17 fd_X6_134 rfl ?_
  refine mm_if_ne (q := 10) (tgt := 13) dX6_back_7 rfl (by decide) (fun c1 => ?_) (fun c1 => ?_)
  · refine mm_bipush (q := 12) dX6_back_10 rfl bp_m3 ?_
    exact mm_iret rfl dX6_back_12
  · refine mm_aload_n (q := 14) dX6_back_13 rfl rfl rfl ?_
    refine mm_getR (q := 17) (k1 := 17) dX6_back_14 rfl lc_0 fd_X6_18 rfl ?_
    refine mm_dup (q := 18) dX6_back_17 rfl rfl ?_
    refine mm_getIN (q := 21) dX6_back_18 rfl lc_17 fd_X6_134 rfl ?_
    refine mm_iconst (q := 22) dX6_back_21 rfl ic_1 ?_
    refine mm_isub (q := 23) dX6_back_22 rfl ?_
    refine mm_putN (q := 26) dX6_back_23 rfl lc_17 fd_X6_134 ps_X2_2 rfl rfl rfl (fun M2 _ => ?_)
    refine mm_aload_n (q := 27) dX6_back_26 rfl rfl rfl ?_
    refine mm_callVV (as := []) (st := []) (q := 30) lc_0 rfl (fX6_courseChanged_ok M2) ms_X6_131 rfl (Nat.le_of_ble_eq_true rfl) (Nat.le_of_ble_eq_true rfl) rfl dX6_back_27 rfl (fun M3 _ => ?_)
    refine mm_aload_n (q := 31) dX6_back_30 rfl rfl rfl ?_
    refine mm_getR (q := 34) (k1 := 17) dX6_back_31 rfl lc_0 fd_X6_18 rfl ?_
    refine mm_getIN (q := 37) dX6_back_34 rfl lc_17 fd_X6_134 rfl ?_
    exact mm_iret rfl dX6_back_37
def fX6_bank_L23 (x1 : Int32) (M : mm_M)  : Nat → Int32 → Int32 → Int32 → Option (Int32 × mm_M)
  | 0, _, _, _ => none
  | n + 1, x2, x3, x4 =>
    if (M 24 0) ≤ x4 then
      some (x2, M)
    else
      (fX1_openUses 42 x1 27 x4 M).bind fun b4 =>
      fX6_bank_L23 x1 M n (if b4 ≤ x3 then x2 else x4) (if b4 ≤ x3 then x3 else b4) (x4 + (1 : Int32))
set_option maxRecDepth 100000 in
set_option maxHeartbeats 4000000 in
theorem fX6_bank_L23_ok (x1 : Int32) (M : mm_M)    : ∀ (n : Nat) (x2 : Int32) (x3 : Int32) (x4 : Int32), mm_C LC cX6_bank 6 RX6 (some .int) 4 mm_eI 23 [some (.ref 0), some (.int x1), some (.int x2), some (.int x3), some (.int x4), none] [] M (fX6_bank_L23 x1 M n x2 x3 x4) := by
  intro n
  induction n with
  | zero => intro x2 x3 x4; exact mm_none
  | succ n ih =>
    intro x2 x3 x4
    rw [fX6_bank_L23]
    refine mm_iload (q := 25) dX6_bank_23 rfl rfl ?_
    refine mm_aload_n (q := 26) dX6_bank_25 rfl rfl rfl ?_
    refine mm_getR (q := 29) (k1 := 24) dX6_bank_26 rfl lc_0 fd_X6_38 rfl ?_
    refine mm_getIN (q := 32) dX6_bank_29 rfl lc_24 fd_X6_90 rfl ?_
    refine mm_icmp_ge (q := 35) (tgt := 72) dX6_bank_32 rfl (by decide) (fun c3 => ?_) (fun c3 => ?_)
    · refine mm_iload_n (q := 73) dX6_bank_72 rfl rfl rfl ?_
      exact mm_iret rfl dX6_bank_73
    · refine mm_aload_n (q := 36) dX6_bank_35 rfl rfl rfl ?_
      refine mm_getR (q := 39) (k1 := 42) dX6_bank_36 rfl lc_0 fd_X6_45 rfl ?_
      refine mm_iload_n (q := 40) dX6_bank_39 rfl rfl rfl ?_
      refine mm_aload_n (q := 41) dX6_bank_40 rfl rfl rfl ?_
      refine mm_getR (q := 44) (k1 := 24) dX6_bank_41 rfl lc_0 fd_X6_38 rfl ?_
      refine mm_getRN (q := 47) (k1 := 27) dX6_bank_44 rfl lc_24 fd_X6_103 rfl ?_
      refine mm_iload (q := 49) dX6_bank_47 rfl rfl ?_
      refine mm_callVP (as := [.int x1, .ref 27, .int x4]) (st := []) (q := 52) lc_42 rfl (fX1_openUses_ok 42 x1 27 x4 M isCo_42 lc_27) ms_X6_159 rfl (Nat.le_of_ble_eq_true rfl) (Nat.le_of_ble_eq_true rfl) rfl dX6_bank_49 rfl (fun b4 _ => ?_)
      refine mm_istore (q := 54) (ls' := [some (.ref 0), some (.int x1), some (.int x2), some (.int x3), some (.int x4), some (.int b4)]) dX6_bank_52 rfl rfl (Nat.le_of_ble_eq_true rfl) rfl ?_
      refine mm_iload (q := 56) dX6_bank_54 rfl rfl ?_
      refine mm_iload_n (q := 57) dX6_bank_56 rfl rfl rfl ?_
      by_cases c5 : b4 ≤ x3
      · simp only [if_pos c5]
        refine mm_icmp_le_t (tgt := 66) c5 dX6_bank_57 (by decide) ?_
        refine mm_iinc (q := 69) (ls' := [some (.ref 0), some (.int x1), some (.int x2), some (.int x3), some (.int (x4 + (1 : Int32))), some (.int b4)]) dX6_bank_66 rfl rfl (ii_1 _) rfl (Nat.le_of_ble_eq_true rfl) rfl ?_
        refine mm_goto (tgt := 23) dX6_bank_69 (by decide) ?_
        refine mm_drop (ls' := [some (.ref 0), some (.int x1), some (.int x2), some (.int x3), some (.int (x4 + (1 : Int32))), none]) (mm_sub_at _ _ (And.intro rfl (And.intro rfl (And.intro rfl (And.intro rfl (And.intro rfl trivial)))))) ?_
        exact ih _ _ _
      · simp only [if_neg c5]
        refine mm_icmp_le_f (q := 60) (tgt := 66) c5 dX6_bank_57 rfl (by decide) ?_
        refine mm_iload (q := 62) dX6_bank_60 rfl rfl ?_
        refine mm_istore_n (q := 63) (ls' := [some (.ref 0), some (.int x1), some (.int x2), some (.int b4), some (.int x4), some (.int b4)]) dX6_bank_62 rfl rfl rfl (Nat.le_of_ble_eq_true rfl) rfl ?_
        refine mm_iload (q := 65) dX6_bank_63 rfl rfl ?_
        refine mm_istore_n (q := 66) (ls' := [some (.ref 0), some (.int x1), some (.int x4), some (.int b4), some (.int x4), some (.int b4)]) dX6_bank_65 rfl rfl rfl (Nat.le_of_ble_eq_true rfl) rfl ?_
        refine mm_iinc (q := 69) (ls' := [some (.ref 0), some (.int x1), some (.int x4), some (.int b4), some (.int (x4 + (1 : Int32))), some (.int b4)]) dX6_bank_66 rfl rfl (ii_1 _) rfl (Nat.le_of_ble_eq_true rfl) rfl ?_
        refine mm_goto (tgt := 23) dX6_bank_69 (by decide) ?_
        refine mm_drop (ls' := [some (.ref 0), some (.int x1), some (.int x4), some (.int b4), some (.int (x4 + (1 : Int32))), none]) (mm_sub_at _ _ (And.intro rfl (And.intro rfl (And.intro rfl (And.intro rfl (And.intro rfl trivial)))))) ?_
        exact ih _ _ _
def fX6_bank (x1 : Int32) (M : mm_M) : Option (Int32 × mm_M) :=
  if (fX6_isOutside x1 (24 : Int32)) = 0 then
    ((fX6_learnCourse M).bind fun M2 =>
    fX6_bank_L23 x1 M2 1000 (-1 : Int32) (0 : Int32) (0 : Int32))
  else
    some ((-2 : Int32), M)
set_option maxRecDepth 100000 in
set_option maxHeartbeats 4000000 in
theorem fX6_bank_ok (x1 : Int32) (M : mm_M)  : mm_E LC yX6_bank cX6_bank 6 (some .int) 4 mm_eI [.ref 0, .int x1] M (fX6_bank x1 M) := by
  refine mm_E.of (own := RX6) (ls := [some (.ref 0), some (.int x1), none, none, none, none]) (by decide) rfl rfl (Nat.le_of_ble_eq_true rfl) ?_
  unfold fX6_bank
  refine mm_iload_n (q := 1) dX6_bank_0 rfl rfl rfl ?_
  refine mm_bipush (q := 3) dX6_bank_1 rfl bp_24 ?_
  refine mm_callST (as := [.int x1, .int (24 : Int32)]) (st := []) (q := 6) (fX6_isOutside_ok x1 (24 : Int32) M) ms_X6_66 rfl (Nat.le_of_ble_eq_true rfl) (Nat.le_of_ble_eq_true rfl) rfl dX6_bank_3 rfl ?_
  refine mm_if_eq (q := 9) (tgt := 12) dX6_bank_6 rfl (by decide) (fun c1 => ?_) (fun c1 => ?_)
  · refine mm_aload_n (q := 13) dX6_bank_12 rfl rfl rfl ?_
    refine mm_callVV (as := []) (st := []) (q := 16) lc_0 rfl (fX6_learnCourse_ok M) ms_X6_149 rfl (Nat.le_of_ble_eq_true rfl) (Nat.le_of_ble_eq_true rfl) rfl dX6_bank_13 rfl (fun M2 _ => ?_)
    refine mm_iconst (q := 17) dX6_bank_16 rfl ic_m1 ?_
    refine mm_istore_n (q := 18) (ls' := [some (.ref 0), some (.int x1), some (.int (-1 : Int32)), none, none, none]) dX6_bank_17 rfl rfl rfl (Nat.le_of_ble_eq_true rfl) rfl ?_
    refine mm_iconst (q := 19) dX6_bank_18 rfl ic_0 ?_
    refine mm_istore_n (q := 20) (ls' := [some (.ref 0), some (.int x1), some (.int (-1 : Int32)), some (.int (0 : Int32)), none, none]) dX6_bank_19 rfl rfl rfl (Nat.le_of_ble_eq_true rfl) rfl ?_
    refine mm_iconst (q := 21) dX6_bank_20 rfl ic_0 ?_
    refine mm_istore (q := 23) (ls' := [some (.ref 0), some (.int x1), some (.int (-1 : Int32)), some (.int (0 : Int32)), some (.int (0 : Int32)), none]) dX6_bank_21 rfl rfl (Nat.le_of_ble_eq_true rfl) rfl ?_
    exact fX6_bank_L23_ok x1 M2 _ _ _ _
  · refine mm_bipush (q := 11) dX6_bank_9 rfl bp_m2 ?_
    exact mm_iret rfl dX6_bank_11
def fX6_learnOdds_L10  (k32 : mm_M → Option (mm_M)) : Nat → Int32 → mm_M → Option (mm_M)
  | 0, _, _ => none
  | n + 1, x1, M =>
    if (108 : Int32) ≤ x1 then
      k32 M
    else
      (mm_wa M 69 108 x1 (0 : Int32)).bind fun M3 =>
      fX6_learnOdds_L10 k32 n (x1 + (1 : Int32)) M3
set_option maxRecDepth 100000 in
set_option maxHeartbeats 4000000 in
theorem fX6_learnOdds_L10_ok   (k32 : mm_M → Option (mm_M)) (hk32 : ∀  (M : mm_M), mm_C LC cX6_learnOdds 4 RX6 none 3 mm_eV 32 [some (.ref 0), none, none, none] [] M (k32 M)) : ∀ (n : Nat) (x1 : Int32) (M : mm_M), mm_C LC cX6_learnOdds 4 RX6 none 3 mm_eV 10 [some (.ref 0), some (.int x1), none, none] [] M (fX6_learnOdds_L10 k32 n x1 M) := by
  intro n
  induction n with
  | zero => intro x1 M; exact mm_none
  | succ n ih =>
    intro x1 M
    rw [fX6_learnOdds_L10]
    refine mm_iload_n (q := 11) dX6_learnOdds_10 rfl rfl rfl ?_
    refine mm_aload_n (q := 12) dX6_learnOdds_11 rfl rfl rfl ?_
    refine mm_getR (q := 15) (k1 := 69) dX6_learnOdds_12 rfl lc_0 fd_X6_59 rfl ?_
    refine mm_alen (q := 16) (v := (108 : Int32)) dX6_learnOdds_15 rfl lc_69 rfl ?_
    refine mm_icmp_ge (q := 19) (tgt := 32) dX6_learnOdds_16 rfl (by decide) (fun c2 => ?_) (fun c2 => ?_)
    · refine mm_drop (ls' := [some (.ref 0), none, none, none]) (mm_sub_at _ _ (And.intro rfl trivial)) ?_
      exact hk32  _
    · refine mm_aload_n (q := 20) dX6_learnOdds_19 rfl rfl rfl ?_
      refine mm_getR (q := 23) (k1 := 69) dX6_learnOdds_20 rfl lc_0 fd_X6_59 rfl ?_
      refine mm_iload_n (q := 24) dX6_learnOdds_23 rfl rfl rfl ?_
      refine mm_iconst (q := 25) dX6_learnOdds_24 rfl ic_0 ?_
      refine mm_iast (q := 26) dX6_learnOdds_25 rfl lc_69 (fun M3 _ => ?_)
      refine mm_iinc (q := 29) (ls' := [some (.ref 0), some (.int (x1 + (1 : Int32))), none, none]) dX6_learnOdds_26 rfl rfl (ii_1 _) rfl (Nat.le_of_ble_eq_true rfl) rfl ?_
      refine mm_goto (tgt := 10) dX6_learnOdds_29 (by decide) ?_
      exact ih _ _
def fX6_learnOdds_L68 (x1 : Int32) (x2 : Int32) (k114 : mm_M → Option (mm_M)) : Nat → Int32 → mm_M → Option (mm_M)
  | 0, _, _ => none
  | n + 1, x3, M =>
    if (M 24 3) ≤ x3 then
      k114 M
    else
      (fX1_stateBehind 55 (23 : Int32) x3 M).bind fun b8 =>
      if b8 = (1 : Int32) then
        ((mm_rd M 69 108 ((x3 * (9 : Int32)) + x2)).bind fun b10 =>
        (mm_wa M 69 108 ((x3 * (9 : Int32)) + x2) (b10 + (1 : Int32))).bind fun M11 =>
        fX6_learnOdds_L68 x1 x2 k114 n (x3 + (1 : Int32)) M11)
      else
        fX6_learnOdds_L68 x1 x2 k114 n (x3 + (1 : Int32)) M
set_option maxRecDepth 100000 in
set_option maxHeartbeats 4000000 in
theorem fX6_learnOdds_L68_ok (x1 : Int32) (x2 : Int32)  (k114 : mm_M → Option (mm_M)) (hk114 : ∀  (M : mm_M), mm_C LC cX6_learnOdds 4 RX6 none 3 mm_eV 114 [some (.ref 0), some (.int x1), none, none] [] M (k114 M)) : ∀ (n : Nat) (x3 : Int32) (M : mm_M), mm_C LC cX6_learnOdds 4 RX6 none 3 mm_eV 68 [some (.ref 0), some (.int x1), some (.int x2), some (.int x3)] [] M (fX6_learnOdds_L68 x1 x2 k114 n x3 M) := by
  intro n
  induction n with
  | zero => intro x3 M; exact mm_none
  | succ n ih =>
    intro x3 M
    rw [fX6_learnOdds_L68]
    refine mm_iload_n (q := 69) dX6_learnOdds_68 rfl rfl rfl ?_
    refine mm_aload_n (q := 70) dX6_learnOdds_69 rfl rfl rfl ?_
    refine mm_getR (q := 73) (k1 := 24) dX6_learnOdds_70 rfl lc_0 fd_X6_38 rfl ?_
    refine mm_getIN (q := 76) dX6_learnOdds_73 rfl lc_24 fd_X6_100 rfl ?_
    refine mm_icmp_ge (q := 79) (tgt := 114) dX6_learnOdds_76 rfl (by decide) (fun c7 => ?_) (fun c7 => ?_)
    · refine mm_drop (ls' := [some (.ref 0), some (.int x1), none, none]) (mm_sub_at _ _ (And.intro rfl (And.intro rfl trivial))) ?_
      exact hk114  _
    · refine mm_aload_n (q := 80) dX6_learnOdds_79 rfl rfl rfl ?_
      refine mm_getR (q := 83) (k1 := 55) dX6_learnOdds_80 rfl lc_0 fd_X6_52 rfl ?_
      refine mm_bipush (q := 85) dX6_learnOdds_83 rfl bp_23 ?_
      refine mm_iload_n (q := 86) dX6_learnOdds_85 rfl rfl rfl ?_
      refine mm_callVP (as := [.int (23 : Int32), .int x3]) (st := []) (q := 89) lc_55 rfl (fX1_stateBehind_ok 55 (23 : Int32) x3 M isCo_55) ms_X6_152 rfl (Nat.le_of_ble_eq_true rfl) (Nat.le_of_ble_eq_true rfl) rfl dX6_learnOdds_86 rfl (fun b8 _ => ?_)
      refine mm_iconst (q := 90) dX6_learnOdds_89 rfl ic_1 ?_
      refine mm_icmp_ne (q := 93) (tgt := 108) dX6_learnOdds_90 rfl (by decide) (fun c9 => ?_) (fun c9 => ?_)
      · refine mm_aload_n (q := 94) dX6_learnOdds_93 rfl rfl rfl ?_
        refine mm_getR (q := 97) (k1 := 69) dX6_learnOdds_94 rfl lc_0 fd_X6_59 rfl ?_
        refine mm_iload_n (q := 98) dX6_learnOdds_97 rfl rfl rfl ?_
        refine mm_bipush (q := 100) dX6_learnOdds_98 rfl bp_9 ?_
        refine mm_imul (q := 101) dX6_learnOdds_100 rfl ?_
        refine mm_iload_n (q := 102) dX6_learnOdds_101 rfl rfl rfl ?_
        refine mm_iadd (q := 103) dX6_learnOdds_102 rfl ?_
        refine mm_dup2 (q := 104) dX6_learnOdds_103 rfl rfl rfl ?_
        refine mm_iald (q := 105) dX6_learnOdds_104 rfl lc_69 (fun b10 _ => ?_)
        refine mm_iconst (q := 106) dX6_learnOdds_105 rfl ic_1 ?_
        refine mm_iadd (q := 107) dX6_learnOdds_106 rfl ?_
        refine mm_iast (q := 108) dX6_learnOdds_107 rfl lc_69 (fun M11 _ => ?_)
        refine mm_iinc (q := 111) (ls' := [some (.ref 0), some (.int x1), some (.int x2), some (.int (x3 + (1 : Int32)))]) dX6_learnOdds_108 rfl rfl (ii_1 _) rfl (Nat.le_of_ble_eq_true rfl) rfl ?_
        refine mm_goto (tgt := 68) dX6_learnOdds_111 (by decide) ?_
        exact ih _ _
      · refine mm_iinc (q := 111) (ls' := [some (.ref 0), some (.int x1), some (.int x2), some (.int (x3 + (1 : Int32)))]) dX6_learnOdds_108 rfl rfl (ii_1 _) rfl (Nat.le_of_ble_eq_true rfl) rfl ?_
        refine mm_goto (tgt := 68) dX6_learnOdds_111 (by decide) ?_
        exact ih _ _
def fX6_learnOdds_L34  (k120 : mm_M → Option (mm_M)) : Nat → Int32 → mm_M → Option (mm_M)
  | 0, _, _ => none
  | n + 1, x1, M =>
    if (fX2_all M) < x1 then
      k120 M
    else
      (fX1_run 55 24 x1 M).bind fun M6 =>
      fX6_learnOdds_L68 x1 (fJ6_bitCount_0f7a4 x1) (fun M12 =>
      fX6_learnOdds_L34 k120 n (x1 + (1 : Int32)) M12) 1000 (0 : Int32) M6
set_option maxRecDepth 100000 in
set_option maxHeartbeats 4000000 in
theorem fX6_learnOdds_L34_ok   (k120 : mm_M → Option (mm_M)) (hk120 : ∀  (M : mm_M), mm_C LC cX6_learnOdds 4 RX6 none 3 mm_eV 120 [some (.ref 0), none, none, none] [] M (k120 M)) : ∀ (n : Nat) (x1 : Int32) (M : mm_M), mm_C LC cX6_learnOdds 4 RX6 none 3 mm_eV 34 [some (.ref 0), some (.int x1), none, none] [] M (fX6_learnOdds_L34 k120 n x1 M) := by
  intro n
  induction n with
  | zero => intro x1 M; exact mm_none
  | succ n ih =>
    intro x1 M
    rw [fX6_learnOdds_L34]
    refine mm_iload_n (q := 35) dX6_learnOdds_34 rfl rfl rfl ?_
    refine mm_aload_n (q := 36) dX6_learnOdds_35 rfl rfl rfl ?_
    refine mm_getR (q := 39) (k1 := 17) dX6_learnOdds_36 rfl lc_0 fd_X6_18 rfl ?_
    refine mm_callVT (as := []) (st := [.int x1]) (q := 42) lc_17 rfl (fX2_all_ok M) ms_X6_185 rfl (Nat.le_of_ble_eq_true rfl) (Nat.le_of_ble_eq_true rfl) rfl dX6_learnOdds_39 rfl ?_
    refine mm_icmp_gt (q := 45) (tgt := 120) dX6_learnOdds_42 rfl (by decide) (fun c5 => ?_) (fun c5 => ?_)
    · refine mm_drop (ls' := [some (.ref 0), none, none, none]) (mm_sub_at _ _ (And.intro rfl trivial)) ?_
      exact hk120  _
    · refine mm_aload_n (q := 46) dX6_learnOdds_45 rfl rfl rfl ?_
      refine mm_getR (q := 49) (k1 := 55) dX6_learnOdds_46 rfl lc_0 fd_X6_52 rfl ?_
      refine mm_aload_n (q := 50) dX6_learnOdds_49 rfl rfl rfl ?_
      refine mm_getR (q := 53) (k1 := 24) dX6_learnOdds_50 rfl lc_0 fd_X6_38 rfl ?_
      refine mm_aload_n (q := 54) dX6_learnOdds_53 rfl rfl rfl ?_
      refine mm_getR (q := 57) (k1 := 17) dX6_learnOdds_54 rfl lc_0 fd_X6_18 rfl ?_
      refine mm_iload_n (q := 58) dX6_learnOdds_57 rfl rfl rfl ?_
      refine mm_callVV (as := [.ref 24, .ref 17, .int x1]) (st := []) (q := 61) lc_55 rfl (fX1_run_ok 55 24 x1 M isCo_55 isTo_24) ms_X6_188 rfl (Nat.le_of_ble_eq_true rfl) (Nat.le_of_ble_eq_true rfl) rfl dX6_learnOdds_58 rfl (fun M6 _ => ?_)
      refine mm_iload_n (q := 62) dX6_learnOdds_61 rfl rfl rfl ?_
      refine mm_callST (as := [.int x1]) (st := []) (q := 65) (fJ6_bitCount_0f7a4_ok x1 M6) ms_X6_204 rfl (Nat.le_of_ble_eq_true rfl) (Nat.le_of_ble_eq_true rfl) rfl dX6_learnOdds_62 rfl ?_
      refine mm_istore_n (q := 66) (ls' := [some (.ref 0), some (.int x1), some (.int (fJ6_bitCount_0f7a4 x1)), none]) dX6_learnOdds_65 rfl rfl rfl (Nat.le_of_ble_eq_true rfl) rfl ?_
      refine mm_iconst (q := 67) dX6_learnOdds_66 rfl ic_0 ?_
      refine mm_istore_n (q := 68) (ls' := [some (.ref 0), some (.int x1), some (.int (fJ6_bitCount_0f7a4 x1)), some (.int (0 : Int32))]) dX6_learnOdds_67 rfl rfl rfl (Nat.le_of_ble_eq_true rfl) rfl ?_
      refine fX6_learnOdds_L68_ok x1 (fJ6_bitCount_0f7a4 x1) _ (fun M12 => ?_) _ _ _
      refine mm_iinc (q := 117) (ls' := [some (.ref 0), some (.int (x1 + (1 : Int32))), none, none]) dX6_learnOdds_114 rfl rfl (ii_1 _) rfl (Nat.le_of_ble_eq_true rfl) rfl ?_
      refine mm_goto (tgt := 34) dX6_learnOdds_117 (by decide) ?_
      exact ih _ _
def fX6_learnOdds  (M : mm_M) : Option (mm_M) :=
  if (M 0 11) = 0 then
    fX6_learnOdds_L10 (fun M4 =>
      fX6_learnOdds_L34 (fun M13 =>
      (mm_pf M13 0 11 (1 : Int32)).bind fun M14 =>
      some M14) 1000 (0 : Int32) M4) 1000 (0 : Int32) M
  else
    some M
set_option maxRecDepth 100000 in
set_option maxHeartbeats 4000000 in
theorem fX6_learnOdds_ok  (M : mm_M)  : mm_E LC yX6_learnOdds cX6_learnOdds 4 none 3 mm_eV [.ref 0] M (fX6_learnOdds M) := by
  refine mm_E.of (own := RX6) (ls := [some (.ref 0), none, none, none]) (by decide) rfl rfl (Nat.le_of_ble_eq_true rfl) ?_
  unfold fX6_learnOdds
  refine mm_aload_n (q := 1) dX6_learnOdds_0 rfl rfl rfl ?_
  refine mm_getI (q := 4) dX6_learnOdds_1 rfl lc_0 fd_X6_360 rfl ?_
  refine mm_if_eq (q := 7) (tgt := 8) dX6_learnOdds_4 rfl (by decide) (fun c1 => ?_) (fun c1 => ?_)
  · refine mm_iconst (q := 9) dX6_learnOdds_8 rfl ic_0 ?_
    refine mm_istore_n (q := 10) (ls' := [some (.ref 0), some (.int (0 : Int32)), none, none]) dX6_learnOdds_9 rfl rfl rfl (Nat.le_of_ble_eq_true rfl) rfl ?_
    refine fX6_learnOdds_L10_ok _ (fun M4 => ?_) _ _ _
    refine mm_iconst (q := 33) dX6_learnOdds_32 rfl ic_0 ?_
    refine mm_istore_n (q := 34) (ls' := [some (.ref 0), some (.int (0 : Int32)), none, none]) dX6_learnOdds_33 rfl rfl rfl (Nat.le_of_ble_eq_true rfl) rfl ?_
    refine fX6_learnOdds_L34_ok _ (fun M13 => ?_) _ _ _
    refine mm_aload_n (q := 121) dX6_learnOdds_120 rfl rfl rfl ?_
    refine mm_iconst (q := 122) dX6_learnOdds_121 rfl ic_1 ?_
    refine mm_put (q := 125) dX6_learnOdds_122 rfl lc_0 fd_X6_360 ps_X6_11 rfl rfl rfl (fun M14 _ => ?_)
    exact mm_vret rfl dX6_learnOdds_125
  · exact mm_vret rfl dX6_learnOdds_7
def fX6_power_L5 (x0 : Int64) (x2 : Int32)  : Nat → Int64 → Int32 → Option (Int64)
  | 0, _, _ => none
  | n + 1, x3, x5 =>
    if x2 ≤ x5 then
      some x3
    else
      fX6_power_L5 x0 x2 n (x3 * x0) (x5 + (1 : Int32))
set_option maxRecDepth 100000 in
set_option maxHeartbeats 4000000 in
theorem fX6_power_L5_ok (x0 : Int64) (x2 : Int32) (M : mm_M)    : ∀ (n : Nat) (x3 : Int64) (x5 : Int32), mm_C LC cX6_power 6 RX6 (some .long) 0 (mm_pL M) 5 [some (.long x0), none, some (.int x2), some (.long x3), none, some (.int x5)] [] M (fX6_power_L5 x0 x2 n x3 x5) := by
  intro n
  induction n with
  | zero => intro x3 x5; exact mm_none
  | succ n ih =>
    intro x3 x5
    rw [fX6_power_L5]
    refine mm_iload (q := 7) dX6_power_5 rfl rfl ?_
    refine mm_iload_n (q := 8) dX6_power_7 rfl rfl rfl ?_
    refine mm_icmp_ge (q := 11) (tgt := 21) dX6_power_8 rfl (by decide) (fun c1 => ?_) (fun c1 => ?_)
    · refine mm_lload_n (q := 22) dX6_power_21 rfl rfl rfl ?_
      exact mm_lret rfl dX6_power_22
    · refine mm_lload_n (q := 12) dX6_power_11 rfl rfl rfl ?_
      refine mm_lload_n (q := 13) dX6_power_12 rfl rfl rfl ?_
      refine mm_lmul (q := 14) dX6_power_13 rfl ?_
      refine mm_lstore_n (q := 15) (ls' := [some (.long x0), none, some (.int x2), some (.long (x3 * x0)), none, some (.int x5)]) dX6_power_14 rfl rfl rfl (Nat.le_of_ble_eq_true rfl) rfl ?_
      refine mm_iinc (q := 18) (ls' := [some (.long x0), none, some (.int x2), some (.long (x3 * x0)), none, some (.int (x5 + (1 : Int32)))]) dX6_power_15 rfl rfl (ii_1 _) rfl (Nat.le_of_ble_eq_true rfl) rfl ?_
      refine mm_goto (tgt := 5) dX6_power_18 (by decide) ?_
      exact ih _ _
def fX6_power (x0 : Int64) (x2 : Int32)  : Option (Int64) :=
  fX6_power_L5 x0 x2 1000 (1 : Int64) (0 : Int32)
set_option maxRecDepth 100000 in
set_option maxHeartbeats 4000000 in
theorem fX6_power_ok (x0 : Int64) (x2 : Int32) (M : mm_M)  : mm_E LC yX6_power cX6_power 6 (some .long) 0 (mm_pL M) [.long x0, .int x2] M (fX6_power x0 x2) := by
  refine mm_E.of (own := RX6) (ls := [some (.long x0), none, some (.int x2), none, none, none]) (by decide) rfl rfl (Nat.le_of_ble_eq_true rfl) ?_
  unfold fX6_power
  refine mm_lconst (q := 1) dX6_power_0 rfl lk_1 ?_
  refine mm_lstore_n (q := 2) (ls' := [some (.long x0), none, some (.int x2), some (.long (1 : Int64)), none, none]) dX6_power_1 rfl rfl rfl (Nat.le_of_ble_eq_true rfl) rfl ?_
  refine mm_iconst (q := 3) dX6_power_2 rfl ic_0 ?_
  refine mm_istore (q := 5) (ls' := [some (.long x0), none, some (.int x2), some (.long (1 : Int64)), none, some (.int (0 : Int32))]) dX6_power_3 rfl rfl (Nat.le_of_ble_eq_true rfl) rfl ?_
  exact fX6_power_L5_ok x0 x2 M _ _ _
def fX6_chance_L56 (x1 : Int32) (x2 : Int32) (x3 : Int32) (x4 : Int32) (M : mm_M) (k123 : Int64 → Option (Int64 × mm_M)) : Nat → Int64 → Int32 → Option (Int64 × mm_M)
  | 0, _, _ => none
  | n + 1, x5, x7 =>
    if (M 17 2) < x7 then
      k123 x5
    else
      (mm_rd M 69 108 ((x2 * (9 : Int32)) + x7)).bind fun b6 =>
      (fX6_power ((x1).toInt64) x7).bind fun b7 =>
      (fX6_power (((16 : Int32) - x1).toInt64) ((M 17 2) - x7)).bind fun b8 =>
      fX6_chance_L56 x1 x2 x3 x4 M k123 n (x5 + ((((b6).toInt64) * b7) * b8)) (x7 + (1 : Int32))
set_option maxRecDepth 100000 in
set_option maxHeartbeats 4000000 in
theorem fX6_chance_L56_ok (x1 : Int32) (x2 : Int32) (x3 : Int32) (x4 : Int32) (M : mm_M)  (k123 : Int64 → Option (Int64 × mm_M)) (hk123 : ∀ (x5 : Int64), mm_C LC cX6_chance 10 RX6 (some .long) 4 mm_eL 123 [none, none, none, some (.int x3), some (.int x4), some (.long x5), none, none, none, none] [] M (k123 x5)) : ∀ (n : Nat) (x5 : Int64) (x7 : Int32), mm_C LC cX6_chance 10 RX6 (some .long) 4 mm_eL 56 [some (.ref 0), some (.int x1), some (.int x2), some (.int x3), some (.int x4), some (.long x5), none, some (.int x7), none, none] [] M (fX6_chance_L56 x1 x2 x3 x4 M k123 n x5 x7) := by
  intro n
  induction n with
  | zero => intro x5 x7; exact mm_none
  | succ n ih =>
    intro x5 x7
    rw [fX6_chance_L56]
    refine mm_iload (q := 58) dX6_chance_56 rfl rfl ?_
    refine mm_aload_n (q := 59) dX6_chance_58 rfl rfl rfl ?_
    refine mm_getR (q := 62) (k1 := 17) dX6_chance_59 rfl lc_0 fd_X6_18 rfl ?_
    refine mm_getIN (q := 65) dX6_chance_62 rfl lc_17 fd_X6_134 rfl ?_
    refine mm_icmp_gt (q := 68) (tgt := 123) dX6_chance_65 rfl (by decide) (fun c5 => ?_) (fun c5 => ?_)
    · refine mm_drop (ls' := [none, none, none, some (.int x3), some (.int x4), some (.long x5), none, none, none, none]) (mm_sub_at _ _ (And.intro rfl (And.intro rfl (And.intro rfl trivial)))) ?_
      exact hk123 _
    · refine mm_aload_n (q := 69) dX6_chance_68 rfl rfl rfl ?_
      refine mm_getR (q := 72) (k1 := 69) dX6_chance_69 rfl lc_0 fd_X6_59 rfl ?_
      refine mm_iload_n (q := 73) dX6_chance_72 rfl rfl rfl ?_
      refine mm_bipush (q := 75) dX6_chance_73 rfl bp_9 ?_
      refine mm_imul (q := 76) dX6_chance_75 rfl ?_
      refine mm_iload (q := 78) dX6_chance_76 rfl rfl ?_
      refine mm_iadd (q := 79) dX6_chance_78 rfl ?_
      refine mm_iald (q := 80) dX6_chance_79 rfl lc_69 (fun b6 _ => ?_)
      refine mm_i2l (q := 81) dX6_chance_80 rfl ?_
      refine mm_lstore (q := 83) (ls' := [some (.ref 0), some (.int x1), some (.int x2), some (.int x3), some (.int x4), some (.long x5), none, some (.int x7), some (.long ((b6).toInt64)), none]) dX6_chance_81 rfl rfl (Nat.le_of_ble_eq_true rfl) rfl ?_
      refine mm_lload (q := 85) dX6_chance_83 rfl rfl ?_
      refine mm_lload (q := 87) dX6_chance_85 rfl rfl ?_
      refine mm_iload_n (q := 88) dX6_chance_87 rfl rfl rfl ?_
      refine mm_i2l (q := 89) dX6_chance_88 rfl ?_
      refine mm_iload (q := 91) dX6_chance_89 rfl rfl ?_
      refine mm_callSQ (as := [.long ((x1).toInt64), .int x7]) (st := [.long ((b6).toInt64), .long x5]) (q := 94) (fX6_power_ok ((x1).toInt64) x7 M) ms_X6_230 rfl (Nat.le_of_ble_eq_true rfl) (Nat.le_of_ble_eq_true rfl) rfl dX6_chance_91 rfl (fun b7 _ => ?_)
      refine mm_lmul (q := 95) dX6_chance_94 rfl ?_
      refine mm_bipush (q := 97) dX6_chance_95 rfl bp_16 ?_
      refine mm_iload_n (q := 98) dX6_chance_97 rfl rfl rfl ?_
      refine mm_isub (q := 99) dX6_chance_98 rfl ?_
      refine mm_i2l (q := 100) dX6_chance_99 rfl ?_
      refine mm_aload_n (q := 101) dX6_chance_100 rfl rfl rfl ?_
      refine mm_getR (q := 104) (k1 := 17) dX6_chance_101 rfl lc_0 fd_X6_18 rfl ?_
      refine mm_getIN (q := 107) dX6_chance_104 rfl lc_17 fd_X6_134 rfl ?_
      refine mm_iload (q := 109) dX6_chance_107 rfl rfl ?_
      refine mm_isub (q := 110) dX6_chance_109 rfl ?_
      refine mm_callSQ (as := [.long (((16 : Int32) - x1).toInt64), .int ((M 17 2) - x7)]) (st := [.long (((b6).toInt64) * b7), .long x5]) (q := 113) (fX6_power_ok (((16 : Int32) - x1).toInt64) ((M 17 2) - x7) M) ms_X6_230 rfl (Nat.le_of_ble_eq_true rfl) (Nat.le_of_ble_eq_true rfl) rfl dX6_chance_110 rfl (fun b8 _ => ?_)
      refine mm_lmul (q := 114) dX6_chance_113 rfl ?_
      refine mm_ladd (q := 115) dX6_chance_114 rfl ?_
      refine mm_lstore (q := 117) (ls' := [some (.ref 0), some (.int x1), some (.int x2), some (.int x3), some (.int x4), some (.long (x5 + ((((b6).toInt64) * b7) * b8))), none, some (.int x7), some (.long ((b6).toInt64)), none]) dX6_chance_115 rfl rfl (Nat.le_of_ble_eq_true rfl) rfl ?_
      refine mm_iinc (q := 120) (ls' := [some (.ref 0), some (.int x1), some (.int x2), some (.int x3), some (.int x4), some (.long (x5 + ((((b6).toInt64) * b7) * b8))), none, some (.int (x7 + (1 : Int32))), some (.long ((b6).toInt64)), none]) dX6_chance_117 rfl rfl (ii_1 _) rfl (Nat.le_of_ble_eq_true rfl) rfl ?_
      refine mm_goto (tgt := 56) dX6_chance_120 (by decide) ?_
      refine mm_drop (ls' := [some (.ref 0), some (.int x1), some (.int x2), some (.int x3), some (.int x4), some (.long (x5 + ((((b6).toInt64) * b7) * b8))), none, some (.int (x7 + (1 : Int32))), none, none]) (mm_sub_at _ _ (And.intro rfl (And.intro rfl (And.intro rfl (And.intro rfl (And.intro rfl (And.intro rfl (And.intro rfl trivial)))))))) ?_
      exact ih _ _
def fX6_chance_J166 (x3 : Int32) (x5 : Int64) (x7 : Int64)  (M : mm_M) : Option (Int64 × mm_M) :=
  if x3 = 0 then
    some (x5, M)
  else
    some (x7, M)
set_option maxRecDepth 100000 in
set_option maxHeartbeats 4000000 in
theorem fX6_chance_J166_ok (x3 : Int32) (x5 : Int64) (x7 : Int64)  (M : mm_M)    : mm_C LC cX6_chance 10 RX6 (some .long) 4 mm_eL 166 [none, none, none, some (.int x3), none, some (.long x5), none, some (.long x7), none, none] [] M (fX6_chance_J166 x3 x5 x7 M) := by
  unfold fX6_chance_J166
  refine mm_iload_n (q := 167) dX6_chance_166 rfl rfl rfl ?_
  refine mm_if_ne (q := 170) (tgt := 175) dX6_chance_167 rfl (by decide) (fun c11 => ?_) (fun c11 => ?_)
  · refine mm_lload (q := 172) dX6_chance_170 rfl rfl ?_
    refine mm_goto (tgt := 177) dX6_chance_172 (by decide) ?_
    exact mm_lret rfl dX6_chance_177
  · refine mm_lload (q := 177) dX6_chance_175 rfl rfl ?_
    exact mm_lret rfl dX6_chance_177
def fX6_chance_L132 (x3 : Int32) (x4 : Int32) (M : mm_M)  : Nat → Int64 → Int64 → Int32 → Option (Int64 × mm_M)
  | 0, _, _, _ => none
  | n + 1, x5, x7, x9 =>
    if x4 ≤ x9 then
      fX6_chance_J166 x3 x5 x7 M
    else
      if (lg_cmp (x5 &&& (1 : Int64)) (0 : Int64)) = 0 then
        fX6_chance_L132 x3 x4 M n (x5 >>> (((1 : Int32)).toInt64 &&& 63)) (x7 >>> (((1 : Int32)).toInt64 &&& 63)) (x9 + (1 : Int32))
      else
        fX6_chance_J166 x3 x5 x7 M
set_option maxRecDepth 100000 in
set_option maxHeartbeats 4000000 in
theorem fX6_chance_L132_ok (x3 : Int32) (x4 : Int32) (M : mm_M)    : ∀ (n : Nat) (x5 : Int64) (x7 : Int64) (x9 : Int32), mm_C LC cX6_chance 10 RX6 (some .long) 4 mm_eL 132 [none, none, none, some (.int x3), some (.int x4), some (.long x5), none, some (.long x7), none, some (.int x9)] [] M (fX6_chance_L132 x3 x4 M n x5 x7 x9) := by
  intro n
  induction n with
  | zero => intro x5 x7 x9; exact mm_none
  | succ n ih =>
    intro x5 x7 x9
    rw [fX6_chance_L132]
    refine mm_iload (q := 134) dX6_chance_132 rfl rfl ?_
    refine mm_iload (q := 136) dX6_chance_134 rfl rfl ?_
    refine mm_icmp_ge (q := 139) (tgt := 166) dX6_chance_136 rfl (by decide) (fun c10 => ?_) (fun c10 => ?_)
    · refine mm_drop (ls' := [none, none, none, some (.int x3), none, some (.long x5), none, some (.long x7), none, none]) (mm_sub_at _ _ (And.intro rfl (And.intro rfl (And.intro rfl trivial)))) ?_
      exact fX6_chance_J166_ok _ _ _ _
    · refine mm_lload (q := 141) dX6_chance_139 rfl rfl ?_
      refine mm_lconst (q := 142) dX6_chance_141 rfl lk_1 ?_
      refine mm_land (q := 143) dX6_chance_142 rfl ?_
      refine mm_lconst (q := 144) dX6_chance_143 rfl lk_0 ?_
      refine mm_lcmp (q := 145) dX6_chance_144 rfl ?_
      refine mm_if_ne (q := 148) (tgt := 166) dX6_chance_145 rfl (by decide) (fun c12 => ?_) (fun c12 => ?_)
      · refine mm_lload (q := 150) dX6_chance_148 rfl rfl ?_
        refine mm_iconst (q := 151) dX6_chance_150 rfl ic_1 ?_
        refine mm_lshr (q := 152) dX6_chance_151 rfl ?_
        refine mm_lstore (q := 154) (ls' := [none, none, none, some (.int x3), some (.int x4), some (.long (x5 >>> (((1 : Int32)).toInt64 &&& 63))), none, some (.long x7), none, some (.int x9)]) dX6_chance_152 rfl rfl (Nat.le_of_ble_eq_true rfl) rfl ?_
        refine mm_lload (q := 156) dX6_chance_154 rfl rfl ?_
        refine mm_iconst (q := 157) dX6_chance_156 rfl ic_1 ?_
        refine mm_lshr (q := 158) dX6_chance_157 rfl ?_
        refine mm_lstore (q := 160) (ls' := [none, none, none, some (.int x3), some (.int x4), some (.long (x5 >>> (((1 : Int32)).toInt64 &&& 63))), none, some (.long (x7 >>> (((1 : Int32)).toInt64 &&& 63))), none, some (.int x9)]) dX6_chance_158 rfl rfl (Nat.le_of_ble_eq_true rfl) rfl ?_
        refine mm_iinc (q := 163) (ls' := [none, none, none, some (.int x3), some (.int x4), some (.long (x5 >>> (((1 : Int32)).toInt64 &&& 63))), none, some (.long (x7 >>> (((1 : Int32)).toInt64 &&& 63))), none, some (.int (x9 + (1 : Int32)))]) dX6_chance_160 rfl rfl (ii_1 _) rfl (Nat.le_of_ble_eq_true rfl) rfl ?_
        refine mm_goto (tgt := 132) dX6_chance_163 (by decide) ?_
        exact ih _ _ _
      · refine mm_drop (ls' := [none, none, none, some (.int x3), none, some (.long x5), none, some (.long x7), none, none]) (mm_sub_at _ _ (And.intro rfl (And.intro rfl (And.intro rfl trivial)))) ?_
        exact fX6_chance_J166_ok _ _ _ _
def fX6_chance (x1 : Int32) (x2 : Int32) (x3 : Int32) (M : mm_M) : Option (Int64 × mm_M) :=
  if (fX6_isOutside x1 (17 : Int32)) = 0 then
    (if (fX6_isOutside x2 (M 24 3)) = 0 then
      (if (fX6_isOutside x3 (2 : Int32)) = 0 then
        ((fX6_learnOdds M).bind fun M4 =>
        fX6_chance_L56 x1 x2 x3 ((4 : Int32) * (M4 17 2)) M4 (fun z9 =>
      fX6_chance_L132 x3 ((4 : Int32) * (M4 17 2)) M4 1000 z9 ((1 : Int64) <<< ((((4 : Int32) * (M4 17 2))).toInt64 &&& 63)) (0 : Int32)) 1000 (0 : Int64) (0 : Int32))
      else
        some ((-9223372036854775806 : Int64), M))
    else
      some ((-9223372036854775806 : Int64), M))
  else
    some ((-9223372036854775806 : Int64), M)
set_option maxRecDepth 100000 in
set_option maxHeartbeats 4000000 in
theorem fX6_chance_ok (x1 : Int32) (x2 : Int32) (x3 : Int32) (M : mm_M)  : mm_E LC yX6_chance cX6_chance 10 (some .long) 4 mm_eL [.ref 0, .int x1, .int x2, .int x3] M (fX6_chance x1 x2 x3 M) := by
  refine mm_E.of (own := RX6) (ls := [some (.ref 0), some (.int x1), some (.int x2), some (.int x3), none, none, none, none, none, none]) (by decide) rfl rfl (Nat.le_of_ble_eq_true rfl) ?_
  unfold fX6_chance
  refine mm_iload_n (q := 1) dX6_chance_0 rfl rfl rfl ?_
  refine mm_bipush (q := 3) dX6_chance_1 rfl bp_17 ?_
  refine mm_callST (as := [.int x1, .int (17 : Int32)]) (st := []) (q := 6) (fX6_isOutside_ok x1 (17 : Int32) M) ms_X6_66 rfl (Nat.le_of_ble_eq_true rfl) (Nat.le_of_ble_eq_true rfl) rfl dX6_chance_3 rfl ?_
  refine mm_if_ne (q := 9) (tgt := 31) dX6_chance_6 rfl (by decide) (fun c1 => ?_) (fun c1 => ?_)
  · refine mm_iload_n (q := 10) dX6_chance_9 rfl rfl rfl ?_
    refine mm_aload_n (q := 11) dX6_chance_10 rfl rfl rfl ?_
    refine mm_getR (q := 14) (k1 := 24) dX6_chance_11 rfl lc_0 fd_X6_38 rfl ?_
    refine mm_getIN (q := 17) dX6_chance_14 rfl lc_24 fd_X6_100 rfl ?_
    refine mm_callST (as := [.int x2, .int (M 24 3)]) (st := []) (q := 20) (fX6_isOutside_ok x2 (M 24 3) M) ms_X6_66 rfl (Nat.le_of_ble_eq_true rfl) (Nat.le_of_ble_eq_true rfl) rfl dX6_chance_17 rfl ?_
    refine mm_if_ne (q := 23) (tgt := 31) dX6_chance_20 rfl (by decide) (fun c2 => ?_) (fun c2 => ?_)
    · refine mm_iload_n (q := 24) dX6_chance_23 rfl rfl rfl ?_
      refine mm_iconst (q := 25) dX6_chance_24 rfl ic_2 ?_
      refine mm_callST (as := [.int x3, .int (2 : Int32)]) (st := []) (q := 28) (fX6_isOutside_ok x3 (2 : Int32) M) ms_X6_66 rfl (Nat.le_of_ble_eq_true rfl) (Nat.le_of_ble_eq_true rfl) rfl dX6_chance_25 rfl ?_
      refine mm_if_eq (q := 31) (tgt := 35) dX6_chance_28 rfl (by decide) (fun c3 => ?_) (fun c3 => ?_)
      · refine mm_aload_n (q := 36) dX6_chance_35 rfl rfl rfl ?_
        refine mm_callVV (as := []) (st := []) (q := 39) lc_0 rfl (fX6_learnOdds_ok M) ms_X6_227 rfl (Nat.le_of_ble_eq_true rfl) (Nat.le_of_ble_eq_true rfl) rfl dX6_chance_36 rfl (fun M4 _ => ?_)
        refine mm_iconst (q := 40) dX6_chance_39 rfl ic_4 ?_
        refine mm_aload_n (q := 41) dX6_chance_40 rfl rfl rfl ?_
        refine mm_getR (q := 44) (k1 := 17) dX6_chance_41 rfl lc_0 fd_X6_18 rfl ?_
        refine mm_getIN (q := 47) dX6_chance_44 rfl lc_17 fd_X6_134 rfl ?_
        refine mm_imul (q := 48) dX6_chance_47 rfl ?_
        refine mm_istore (q := 50) (ls' := [some (.ref 0), some (.int x1), some (.int x2), some (.int x3), some (.int ((4 : Int32) * (M4 17 2))), none, none, none, none, none]) dX6_chance_48 rfl rfl (Nat.le_of_ble_eq_true rfl) rfl ?_
        refine mm_lconst (q := 51) dX6_chance_50 rfl lk_0 ?_
        refine mm_lstore (q := 53) (ls' := [some (.ref 0), some (.int x1), some (.int x2), some (.int x3), some (.int ((4 : Int32) * (M4 17 2))), some (.long (0 : Int64)), none, none, none, none]) dX6_chance_51 rfl rfl (Nat.le_of_ble_eq_true rfl) rfl ?_
        refine mm_iconst (q := 54) dX6_chance_53 rfl ic_0 ?_
        refine mm_istore (q := 56) (ls' := [some (.ref 0), some (.int x1), some (.int x2), some (.int x3), some (.int ((4 : Int32) * (M4 17 2))), some (.long (0 : Int64)), none, some (.int (0 : Int32)), none, none]) dX6_chance_54 rfl rfl (Nat.le_of_ble_eq_true rfl) rfl ?_
        refine fX6_chance_L56_ok x1 x2 x3 ((4 : Int32) * (M4 17 2)) M4 _ (fun z9 => ?_) _ _ _
        refine mm_lconst (q := 124) dX6_chance_123 rfl lk_1 ?_
        refine mm_iload (q := 126) dX6_chance_124 rfl rfl ?_
        refine mm_lshl (q := 127) dX6_chance_126 rfl ?_
        refine mm_lstore (q := 129) (ls' := [none, none, none, some (.int x3), some (.int ((4 : Int32) * (M4 17 2))), some (.long z9), none, some (.long ((1 : Int64) <<< ((((4 : Int32) * (M4 17 2))).toInt64 &&& 63))), none, none]) dX6_chance_127 rfl rfl (Nat.le_of_ble_eq_true rfl) rfl ?_
        refine mm_iconst (q := 130) dX6_chance_129 rfl ic_0 ?_
        refine mm_istore (q := 132) (ls' := [none, none, none, some (.int x3), some (.int ((4 : Int32) * (M4 17 2))), some (.long z9), none, some (.long ((1 : Int64) <<< ((((4 : Int32) * (M4 17 2))).toInt64 &&& 63))), none, some (.int (0 : Int32))]) dX6_chance_130 rfl rfl (Nat.le_of_ble_eq_true rfl) rfl ?_
        exact fX6_chance_L132_ok x3 ((4 : Int32) * (M4 17 2)) M4 _ _ _ _
      · refine mm_ldc2 (q := 34) dX6_chance_31 rfl cn_X6_225 ?_
        exact mm_lret rfl dX6_chance_34
    · refine mm_ldc2 (q := 34) dX6_chance_31 rfl cn_X6_225 ?_
      exact mm_lret rfl dX6_chance_34
  · refine mm_ldc2 (q := 34) dX6_chance_31 rfl cn_X6_225 ?_
    exact mm_lret rfl dX6_chance_34
def fX6_clear_L23 (x1 : Int32) (M : mm_M)  : Nat → Int32 → Option (Int32 × mm_M)
  | 0, _ => none
  | n + 1, x2 =>
    if (24 : Int32) ≤ x2 then
      some ((-1 : Int32), M)
    else
      (fX1_owesNothing 42 24 x2 x1 M).bind fun b4 =>
      if b4 = 0 then
        fX6_clear_L23 x1 M n (x2 + (1 : Int32))
      else
        some (x2, M)
set_option maxRecDepth 100000 in
set_option maxHeartbeats 4000000 in
theorem fX6_clear_L23_ok (x1 : Int32) (M : mm_M)    : ∀ (n : Nat) (x2 : Int32), mm_C LC cX6_clear 3 RX6 (some .int) 4 mm_eI 23 [some (.ref 0), some (.int x1), some (.int x2)] [] M (fX6_clear_L23 x1 M n x2) := by
  intro n
  induction n with
  | zero => intro x2; exact mm_none
  | succ n ih =>
    intro x2
    rw [fX6_clear_L23]
    refine mm_iload_n (q := 24) dX6_clear_23 rfl rfl rfl ?_
    refine mm_bipush (q := 26) dX6_clear_24 rfl bp_24 ?_
    refine mm_icmp_ge (q := 29) (tgt := 53) dX6_clear_26 rfl (by decide) (fun c3 => ?_) (fun c3 => ?_)
    · refine mm_iconst (q := 54) dX6_clear_53 rfl ic_m1 ?_
      exact mm_iret rfl dX6_clear_54
    · refine mm_aload_n (q := 30) dX6_clear_29 rfl rfl rfl ?_
      refine mm_getR (q := 33) (k1 := 42) dX6_clear_30 rfl lc_0 fd_X6_45 rfl ?_
      refine mm_aload_n (q := 34) dX6_clear_33 rfl rfl rfl ?_
      refine mm_getR (q := 37) (k1 := 24) dX6_clear_34 rfl lc_0 fd_X6_38 rfl ?_
      refine mm_iload_n (q := 38) dX6_clear_37 rfl rfl rfl ?_
      refine mm_iload_n (q := 39) dX6_clear_38 rfl rfl rfl ?_
      refine mm_callVP (as := [.ref 24, .int x2, .int x1]) (st := []) (q := 42) lc_42 rfl (fX1_owesNothing_ok 42 24 x2 x1 M isCo_42 isTo_24) ms_X6_166 rfl (Nat.le_of_ble_eq_true rfl) (Nat.le_of_ble_eq_true rfl) rfl dX6_clear_39 rfl (fun b4 _ => ?_)
      refine mm_if_eq (q := 45) (tgt := 47) dX6_clear_42 rfl (by decide) (fun c5 => ?_) (fun c5 => ?_)
      · refine mm_iinc (q := 50) (ls' := [some (.ref 0), some (.int x1), some (.int (x2 + (1 : Int32)))]) dX6_clear_47 rfl rfl (ii_1 _) rfl (Nat.le_of_ble_eq_true rfl) rfl ?_
        refine mm_goto (tgt := 23) dX6_clear_50 (by decide) ?_
        exact ih _
      · refine mm_iload_n (q := 46) dX6_clear_45 rfl rfl rfl ?_
        exact mm_iret rfl dX6_clear_46
def fX6_clear (x1 : Int32) (M : mm_M) : Option (Int32 × mm_M) :=
  if (fX6_isOutside x1 (M 24 0)) = 0 then
    ((fX6_learnCourse M).bind fun M2 =>
    fX6_clear_L23 x1 M2 1000 (0 : Int32))
  else
    some ((-2 : Int32), M)
set_option maxRecDepth 100000 in
set_option maxHeartbeats 4000000 in
theorem fX6_clear_ok (x1 : Int32) (M : mm_M)  : mm_E LC yX6_clear cX6_clear 3 (some .int) 4 mm_eI [.ref 0, .int x1] M (fX6_clear x1 M) := by
  refine mm_E.of (own := RX6) (ls := [some (.ref 0), some (.int x1), none]) (by decide) rfl rfl (Nat.le_of_ble_eq_true rfl) ?_
  unfold fX6_clear
  refine mm_iload_n (q := 1) dX6_clear_0 rfl rfl rfl ?_
  refine mm_aload_n (q := 2) dX6_clear_1 rfl rfl rfl ?_
  refine mm_getR (q := 5) (k1 := 24) dX6_clear_2 rfl lc_0 fd_X6_38 rfl ?_
  refine mm_getIN (q := 8) dX6_clear_5 rfl lc_24 fd_X6_90 rfl ?_
  refine mm_callST (as := [.int x1, .int (M 24 0)]) (st := []) (q := 11) (fX6_isOutside_ok x1 (M 24 0) M) ms_X6_66 rfl (Nat.le_of_ble_eq_true rfl) (Nat.le_of_ble_eq_true rfl) rfl dX6_clear_8 rfl ?_
  refine mm_if_eq (q := 14) (tgt := 17) dX6_clear_11 rfl (by decide) (fun c1 => ?_) (fun c1 => ?_)
  · refine mm_aload_n (q := 18) dX6_clear_17 rfl rfl rfl ?_
    refine mm_callVV (as := []) (st := []) (q := 21) lc_0 rfl (fX6_learnCourse_ok M) ms_X6_149 rfl (Nat.le_of_ble_eq_true rfl) (Nat.le_of_ble_eq_true rfl) rfl dX6_clear_18 rfl (fun M2 _ => ?_)
    refine mm_iconst (q := 22) dX6_clear_21 rfl ic_0 ?_
    refine mm_istore_n (q := 23) (ls' := [some (.ref 0), some (.int x1), some (.int (0 : Int32))]) dX6_clear_22 rfl rfl rfl (Nat.le_of_ble_eq_true rfl) rfl ?_
    exact fX6_clear_L23_ok x1 M2 _ _
  · refine mm_bipush (q := 16) dX6_clear_14 rfl bp_m2 ?_
    exact mm_iret rfl dX6_clear_16
def fX6_finding (x1 : Int32) (M : mm_M) : Option (Int32 × mm_M) :=
  (mm_pf M 0 12 x1).bind fun M1 =>
  some ((-10 : Int32) - x1, M1)
set_option maxRecDepth 100000 in
set_option maxHeartbeats 4000000 in
theorem fX6_finding_ok (x1 : Int32) (M : mm_M)  : mm_E LC yX6_finding cX6_finding 2 (some .int) 0 mm_eI [.ref 0, .int x1] M (fX6_finding x1 M) := by
  refine mm_E.of (own := RX6) (ls := [some (.ref 0), some (.int x1)]) (by decide) rfl rfl (Nat.le_of_ble_eq_true rfl) ?_
  unfold fX6_finding
  refine mm_aload_n (q := 1) dX6_finding_0 rfl rfl rfl ?_
  refine mm_iload_n (q := 2) dX6_finding_1 rfl rfl rfl ?_
  refine mm_put (q := 5) dX6_finding_2 rfl lc_0 fd_X6_265 ps_X6_12 rfl rfl rfl (fun M1 _ => ?_)
  refine mm_bipush (q := 7) dX6_finding_5 rfl bp_m10 ?_
  refine mm_iload_n (q := 8) dX6_finding_7 rfl rfl rfl ?_
  refine mm_isub (q := 9) dX6_finding_8 rfl ?_
  exact mm_iret rfl dX6_finding_9
def fX6_copy (x1 : Int32) (x2 : Int32) (x3 : Int32) (x4 : Int32) (x5 : Int32) (M : mm_M) : Option (Int32 × mm_M) :=
  if (fX6_isOutside x1 (4 : Int32)) = 0 then
    (if (fX6_isOutside x3 (4 : Int32)) = 0 then
      ((mm_ra [9, 11, 13, 15] x1).bind fun b3 =>
      (mm_ra [9, 11, 13, 15] x3).bind fun b4 =>
      if (fX3_isLost b3 M) = 0 then
        (if (fX3_isLost b4 M) = 0 then
          (if (M b3 1) = (M b4 1) then
            (if (fX3_hasItems b3 x2 x5 M) = 0 then
              ((fX6_finding (2 : Int32) M).bind fun b9 =>
              some (b9.1, b9.2))
            else
              if (fX3_hasItems b4 x4 x5 M) = 0 then
                ((fX6_finding (2 : Int32) M).bind fun b11 =>
                some (b11.1, b11.2))
              else
                (mm_cp M (b3 + 1) 60 x2 (b4 + 1) 60 x4 x5).bind fun M12 =>
                some ((1 : Int32), M12))
          else
            (fX6_finding (4 : Int32) M).bind fun b13 =>
            some (b13.1, b13.2))
        else
          (fX6_finding (1 : Int32) M).bind fun b14 =>
          some (b14.1, b14.2))
      else
        (fX6_finding (1 : Int32) M).bind fun b15 =>
        some (b15.1, b15.2))
    else
      some ((-2 : Int32), M))
  else
    some ((-2 : Int32), M)
set_option maxRecDepth 100000 in
set_option maxHeartbeats 4000000 in
theorem fX6_copy_ok (x1 : Int32) (x2 : Int32) (x3 : Int32) (x4 : Int32) (x5 : Int32) (M : mm_M)  : mm_E LC yX6_copy cX6_copy 8 (some .int) 1 mm_eI [.ref 0, .int x1, .int x2, .int x3, .int x4, .int x5] M (fX6_copy x1 x2 x3 x4 x5 M) := by
  refine mm_E.of (own := RX6) (ls := [some (.ref 0), some (.int x1), some (.int x2), some (.int x3), some (.int x4), some (.int x5), none, none]) (by decide) rfl rfl (Nat.le_of_ble_eq_true rfl) ?_
  unfold fX6_copy
  refine mm_iload_n (q := 1) dX6_copy_0 rfl rfl rfl ?_
  refine mm_iconst (q := 2) dX6_copy_1 rfl ic_4 ?_
  refine mm_callST (as := [.int x1, .int (4 : Int32)]) (st := []) (q := 5) (fX6_isOutside_ok x1 (4 : Int32) M) ms_X6_66 rfl (Nat.le_of_ble_eq_true rfl) (Nat.le_of_ble_eq_true rfl) rfl dX6_copy_2 rfl ?_
  refine mm_if_ne (q := 8) (tgt := 16) dX6_copy_5 rfl (by decide) (fun c1 => ?_) (fun c1 => ?_)
  · refine mm_iload_n (q := 9) dX6_copy_8 rfl rfl rfl ?_
    refine mm_iconst (q := 10) dX6_copy_9 rfl ic_4 ?_
    refine mm_callST (as := [.int x3, .int (4 : Int32)]) (st := []) (q := 13) (fX6_isOutside_ok x3 (4 : Int32) M) ms_X6_66 rfl (Nat.le_of_ble_eq_true rfl) (Nat.le_of_ble_eq_true rfl) rfl dX6_copy_10 rfl ?_
    refine mm_if_eq (q := 16) (tgt := 19) dX6_copy_13 rfl (by decide) (fun c2 => ?_) (fun c2 => ?_)
    · refine mm_aload_n (q := 20) dX6_copy_19 rfl rfl rfl ?_
      refine mm_getR (q := 23) (k1 := 8) dX6_copy_20 rfl lc_0 fd_X6_31 rfl ?_
      refine mm_iload_n (q := 24) dX6_copy_23 rfl rfl rfl ?_
      refine mm_aald (q := 25) (cn := "WordsLent$Sheet") dX6_copy_24 rfl lc_8 (fun _ => rfl) (fun b3 hb3 => ?_)
      refine mm_astore (q := 27) (ls' := [some (.ref 0), some (.int x1), some (.int x2), some (.int x3), some (.int x4), some (.int x5), some (.ref b3), none]) dX6_copy_25 rfl rfl (Nat.le_of_ble_eq_true rfl) rfl ?_
      refine mm_aload_n (q := 28) dX6_copy_27 rfl rfl rfl ?_
      refine mm_getR (q := 31) (k1 := 8) dX6_copy_28 rfl lc_0 fd_X6_31 rfl ?_
      refine mm_iload_n (q := 32) dX6_copy_31 rfl rfl rfl ?_
      refine mm_aald (q := 33) (cn := "WordsLent$Sheet") dX6_copy_32 rfl lc_8 (fun _ => rfl) (fun b4 hb4 => ?_)
      refine mm_astore (q := 35) (ls' := [some (.ref 0), some (.int x1), some (.int x2), some (.int x3), some (.int x4), some (.int x5), some (.ref b3), some (.ref b4)]) dX6_copy_33 rfl rfl (Nat.le_of_ble_eq_true rfl) rfl ?_
      refine mm_aload (q := 37) dX6_copy_35 rfl rfl ?_
      refine mm_callVT (as := []) (st := []) (q := 40) (lc_Sh (isSh_of hb3)) rfl (fX3_isLost_ok b3 M (isSh_of hb3)) ms_X6_137 rfl (Nat.le_of_ble_eq_true rfl) (Nat.le_of_ble_eq_true rfl) rfl dX6_copy_37 rfl ?_
      refine mm_if_ne (q := 43) (tgt := 51) dX6_copy_40 rfl (by decide) (fun c5 => ?_) (fun c5 => ?_)
      · refine mm_aload (q := 45) dX6_copy_43 rfl rfl ?_
        refine mm_callVT (as := []) (st := []) (q := 48) (lc_Sh (isSh_of hb4)) rfl (fX3_isLost_ok b4 M (isSh_of hb4)) ms_X6_137 rfl (Nat.le_of_ble_eq_true rfl) (Nat.le_of_ble_eq_true rfl) rfl dX6_copy_45 rfl ?_
        refine mm_if_eq (q := 51) (tgt := 57) dX6_copy_48 rfl (by decide) (fun c6 => ?_) (fun c6 => ?_)
        · refine mm_aload (q := 59) dX6_copy_57 rfl rfl ?_
          refine mm_getIN (q := 62) dX6_copy_59 rfl (lc_Sh (isSh_of hb3)) fd_X6_248 rfl ?_
          refine mm_aload (q := 64) dX6_copy_62 rfl rfl ?_
          refine mm_getIN (q := 67) dX6_copy_64 rfl (lc_Sh (isSh_of hb4)) fd_X6_248 rfl ?_
          refine mm_icmp_eq (q := 70) (tgt := 76) dX6_copy_67 rfl (by decide) (fun c7 => ?_) (fun c7 => ?_)
          · refine mm_aload (q := 78) dX6_copy_76 rfl rfl ?_
            refine mm_iload_n (q := 79) dX6_copy_78 rfl rfl rfl ?_
            refine mm_iload (q := 81) dX6_copy_79 rfl rfl ?_
            refine mm_callVT (as := [.int x2, .int x5]) (st := []) (q := 84) (lc_Sh (isSh_of hb3)) rfl (fX3_hasItems_ok b3 x2 x5 M (isSh_of hb3)) ms_X6_251 rfl (Nat.le_of_ble_eq_true rfl) (Nat.le_of_ble_eq_true rfl) rfl dX6_copy_81 rfl ?_
            refine mm_if_eq (q := 87) (tgt := 99) dX6_copy_84 rfl (by decide) (fun c8 => ?_) (fun c8 => ?_)
            · refine mm_aload_n (q := 100) dX6_copy_99 rfl rfl rfl ?_
              refine mm_iconst (q := 101) dX6_copy_100 rfl ic_2 ?_
              refine mm_callVI (as := [.int (2 : Int32)]) (st := []) (q := 104) lc_0 rfl (fX6_finding_ok (2 : Int32) M) ms_X6_140 rfl (Nat.le_of_ble_eq_true rfl) (Nat.le_of_ble_eq_true rfl) rfl dX6_copy_101 rfl (fun b9 _ => ?_)
              exact mm_iret rfl dX6_copy_104
            · refine mm_aload (q := 89) dX6_copy_87 rfl rfl ?_
              refine mm_iload (q := 91) dX6_copy_89 rfl rfl ?_
              refine mm_iload (q := 93) dX6_copy_91 rfl rfl ?_
              refine mm_callVT (as := [.int x4, .int x5]) (st := []) (q := 96) (lc_Sh (isSh_of hb4)) rfl (fX3_hasItems_ok b4 x4 x5 M (isSh_of hb4)) ms_X6_251 rfl (Nat.le_of_ble_eq_true rfl) (Nat.le_of_ble_eq_true rfl) rfl dX6_copy_93 rfl ?_
              refine mm_if_ne (q := 99) (tgt := 105) dX6_copy_96 rfl (by decide) (fun c10 => ?_) (fun c10 => ?_)
              · refine mm_aload_n (q := 100) dX6_copy_99 rfl rfl rfl ?_
                refine mm_iconst (q := 101) dX6_copy_100 rfl ic_2 ?_
                refine mm_callVI (as := [.int (2 : Int32)]) (st := []) (q := 104) lc_0 rfl (fX6_finding_ok (2 : Int32) M) ms_X6_140 rfl (Nat.le_of_ble_eq_true rfl) (Nat.le_of_ble_eq_true rfl) rfl dX6_copy_101 rfl (fun b11 _ => ?_)
                exact mm_iret rfl dX6_copy_104
              · refine mm_aload (q := 107) dX6_copy_105 rfl rfl ?_
                refine mm_getRN (q := 110) (k1 := (b3 + 1)) dX6_copy_107 rfl (lc_Sh (isSh_of hb3)) fd_X6_146 rfl ?_
                refine mm_iload_n (q := 111) dX6_copy_110 rfl rfl rfl ?_
                refine mm_aload (q := 113) dX6_copy_111 rfl rfl ?_
                refine mm_getRN (q := 116) (k1 := (b4 + 1)) dX6_copy_113 rfl (lc_Sh (isSh_of hb4)) fd_X6_146 rfl ?_
                refine mm_iload (q := 118) dX6_copy_116 rfl rfl ?_
                refine mm_iload (q := 120) dX6_copy_118 rfl rfl ?_
                refine mm_copy (q := 123) (lc_Sh_1 (isSh_of hb3)) (lc_Sh_1 (isSh_of hb4)) cs_X6_254 ac_1 ac_2 ac_3 (Nat.le_of_ble_eq_true rfl) (Nat.le_of_ble_eq_true rfl) dX6_copy_120 rfl (fun M12 _ => ?_)
                refine mm_iconst (q := 124) dX6_copy_123 rfl ic_1 ?_
                exact mm_iret rfl dX6_copy_124
          · refine mm_aload_n (q := 71) dX6_copy_70 rfl rfl rfl ?_
            refine mm_iconst (q := 72) dX6_copy_71 rfl ic_4 ?_
            refine mm_callVI (as := [.int (4 : Int32)]) (st := []) (q := 75) lc_0 rfl (fX6_finding_ok (4 : Int32) M) ms_X6_140 rfl (Nat.le_of_ble_eq_true rfl) (Nat.le_of_ble_eq_true rfl) rfl dX6_copy_72 rfl (fun b13 _ => ?_)
            exact mm_iret rfl dX6_copy_75
        · refine mm_aload_n (q := 52) dX6_copy_51 rfl rfl rfl ?_
          refine mm_iconst (q := 53) dX6_copy_52 rfl ic_1 ?_
          refine mm_callVI (as := [.int (1 : Int32)]) (st := []) (q := 56) lc_0 rfl (fX6_finding_ok (1 : Int32) M) ms_X6_140 rfl (Nat.le_of_ble_eq_true rfl) (Nat.le_of_ble_eq_true rfl) rfl dX6_copy_53 rfl (fun b14 _ => ?_)
          exact mm_iret rfl dX6_copy_56
      · refine mm_aload_n (q := 52) dX6_copy_51 rfl rfl rfl ?_
        refine mm_iconst (q := 53) dX6_copy_52 rfl ic_1 ?_
        refine mm_callVI (as := [.int (1 : Int32)]) (st := []) (q := 56) lc_0 rfl (fX6_finding_ok (1 : Int32) M) ms_X6_140 rfl (Nat.le_of_ble_eq_true rfl) (Nat.le_of_ble_eq_true rfl) rfl dX6_copy_53 rfl (fun b15 _ => ?_)
        exact mm_iret rfl dX6_copy_56
    · refine mm_bipush (q := 18) dX6_copy_16 rfl bp_m2 ?_
      exact mm_iret rfl dX6_copy_18
  · refine mm_bipush (q := 18) dX6_copy_16 rfl bp_m2 ?_
    exact mm_iret rfl dX6_copy_18
def fX6_count (x1 : Int32) (M : mm_M) : Option (Int32) :=
  if (fX6_isOutside x1 (9 : Int32)) = 0 then
    (if x1 = (0 : Int32) then
      some (M 24 0)
    else
      if x1 = (1 : Int32) then
        some (M 24 3)
      else
        if x1 = (2 : Int32) then
          some (M 24 7)
        else
          if x1 = (3 : Int32) then
            ((mm_ra [2, 4, 6] (x1 - (3 : Int32))).bind fun b6 =>
            some (fX4_size b6 M))
          else
            if x1 = (4 : Int32) then
              ((mm_ra [2, 4, 6] (x1 - (3 : Int32))).bind fun b8 =>
              some (fX4_size b8 M))
            else
              if x1 = (5 : Int32) then
                ((mm_ra [2, 4, 6] (x1 - (3 : Int32))).bind fun b10 =>
                some (fX4_size b10 M))
              else
                if x1 = (6 : Int32) then
                  some (M 17 2)
                else
                  if x1 = (7 : Int32) then
                    some (M 20 3)
                  else
                    if x1 = (8 : Int32) then
                      some (M 0 12)
                    else
                      (mm_ra [2, 4, 6] (x1 - (3 : Int32))).bind fun b14 =>
                      some (fX4_size b14 M))
  else
    some (-2 : Int32)
set_option maxRecDepth 100000 in
set_option maxHeartbeats 4000000 in
theorem fX6_count_ok (x1 : Int32) (M : mm_M)  : mm_E LC yX6_count cX6_count 2 (some .int) 1 (mm_pI M) [.ref 0, .int x1] M (fX6_count x1 M) := by
  refine mm_E.of (own := RX6) (ls := [some (.ref 0), some (.int x1)]) (by decide) rfl rfl (Nat.le_of_ble_eq_true rfl) ?_
  unfold fX6_count
  refine mm_iload_n (q := 1) dX6_count_0 rfl rfl rfl ?_
  refine mm_bipush (q := 3) dX6_count_1 rfl bp_9 ?_
  refine mm_callST (as := [.int x1, .int (9 : Int32)]) (st := []) (q := 6) (fX6_isOutside_ok x1 (9 : Int32) M) ms_X6_66 rfl (Nat.le_of_ble_eq_true rfl) (Nat.le_of_ble_eq_true rfl) rfl dX6_count_3 rfl ?_
  refine mm_if_eq (q := 9) (tgt := 12) dX6_count_6 rfl (by decide) (fun c1 => ?_) (fun c1 => ?_)
  · refine mm_iload_n (q := 13) dX6_count_12 rfl rfl rfl ?_
    by_cases c2 : x1 = (0 : Int32)
    · rw [if_pos c2]
      refine mm_tswI (tgt := 64) (v := 0) (off := 51) (by rw [c2]; decide) dX6_count_13 (by decide) (by decide) rfl (by decide) ?_
      refine mm_aload_n (q := 65) dX6_count_64 rfl rfl rfl ?_
      refine mm_getR (q := 68) (k1 := 24) dX6_count_65 rfl lc_0 fd_X6_38 rfl ?_
      refine mm_getIN (q := 71) dX6_count_68 rfl lc_24 fd_X6_90 rfl ?_
      exact mm_iret rfl dX6_count_71
    · rw [if_neg c2]
      by_cases c3 : x1 = (1 : Int32)
      · rw [if_pos c3]
        refine mm_tswI (tgt := 72) (v := 1) (off := 59) (by rw [c3]; decide) dX6_count_13 (by decide) (by decide) rfl (by decide) ?_
        refine mm_aload_n (q := 73) dX6_count_72 rfl rfl rfl ?_
        refine mm_getR (q := 76) (k1 := 24) dX6_count_73 rfl lc_0 fd_X6_38 rfl ?_
        refine mm_getIN (q := 79) dX6_count_76 rfl lc_24 fd_X6_100 rfl ?_
        exact mm_iret rfl dX6_count_79
      · rw [if_neg c3]
        by_cases c4 : x1 = (2 : Int32)
        · rw [if_pos c4]
          refine mm_tswI (tgt := 80) (v := 2) (off := 67) (by rw [c4]; decide) dX6_count_13 (by decide) (by decide) rfl (by decide) ?_
          refine mm_aload_n (q := 81) dX6_count_80 rfl rfl rfl ?_
          refine mm_getR (q := 84) (k1 := 24) dX6_count_81 rfl lc_0 fd_X6_38 rfl ?_
          refine mm_getIN (q := 87) dX6_count_84 rfl lc_24 fd_X6_112 rfl ?_
          exact mm_iret rfl dX6_count_87
        · rw [if_neg c4]
          by_cases c5 : x1 = (3 : Int32)
          · rw [if_pos c5]
            refine mm_tswI (tgt := 109) (v := 3) (off := 96) (by rw [c5]; decide) dX6_count_13 (by decide) (by decide) rfl (by decide) ?_
            refine mm_aload_n (q := 110) dX6_count_109 rfl rfl rfl ?_
            refine mm_getR (q := 113) (k1 := 1) dX6_count_110 rfl lc_0 fd_X6_11 rfl ?_
            refine mm_iload_n (q := 114) dX6_count_113 rfl rfl rfl ?_
            refine mm_iconst (q := 115) dX6_count_114 rfl ic_3 ?_
            refine mm_isub (q := 116) dX6_count_115 rfl ?_
            refine mm_aald (q := 117) (cn := "WordsLent$Text") dX6_count_116 rfl lc_1 (fun _ => rfl) (fun b6 hb6 => ?_)
            refine mm_callVT (as := []) (st := []) (q := 120) (lc_Tx (isTx_of hb6)) rfl (fX4_size_ok b6 M (isTx_of hb6)) ms_X6_80 rfl (Nat.le_of_ble_eq_true rfl) (Nat.le_of_ble_eq_true rfl) rfl dX6_count_117 rfl ?_
            exact mm_iret rfl dX6_count_120
          · rw [if_neg c5]
            by_cases c7 : x1 = (4 : Int32)
            · rw [if_pos c7]
              refine mm_tswI (tgt := 109) (v := 4) (off := 96) (by rw [c7]; decide) dX6_count_13 (by decide) (by decide) rfl (by decide) ?_
              refine mm_aload_n (q := 110) dX6_count_109 rfl rfl rfl ?_
              refine mm_getR (q := 113) (k1 := 1) dX6_count_110 rfl lc_0 fd_X6_11 rfl ?_
              refine mm_iload_n (q := 114) dX6_count_113 rfl rfl rfl ?_
              refine mm_iconst (q := 115) dX6_count_114 rfl ic_3 ?_
              refine mm_isub (q := 116) dX6_count_115 rfl ?_
              refine mm_aald (q := 117) (cn := "WordsLent$Text") dX6_count_116 rfl lc_1 (fun _ => rfl) (fun b8 hb8 => ?_)
              refine mm_callVT (as := []) (st := []) (q := 120) (lc_Tx (isTx_of hb8)) rfl (fX4_size_ok b8 M (isTx_of hb8)) ms_X6_80 rfl (Nat.le_of_ble_eq_true rfl) (Nat.le_of_ble_eq_true rfl) rfl dX6_count_117 rfl ?_
              exact mm_iret rfl dX6_count_120
            · rw [if_neg c7]
              by_cases c9 : x1 = (5 : Int32)
              · rw [if_pos c9]
                refine mm_tswI (tgt := 109) (v := 5) (off := 96) (by rw [c9]; decide) dX6_count_13 (by decide) (by decide) rfl (by decide) ?_
                refine mm_aload_n (q := 110) dX6_count_109 rfl rfl rfl ?_
                refine mm_getR (q := 113) (k1 := 1) dX6_count_110 rfl lc_0 fd_X6_11 rfl ?_
                refine mm_iload_n (q := 114) dX6_count_113 rfl rfl rfl ?_
                refine mm_iconst (q := 115) dX6_count_114 rfl ic_3 ?_
                refine mm_isub (q := 116) dX6_count_115 rfl ?_
                refine mm_aald (q := 117) (cn := "WordsLent$Text") dX6_count_116 rfl lc_1 (fun _ => rfl) (fun b10 hb10 => ?_)
                refine mm_callVT (as := []) (st := []) (q := 120) (lc_Tx (isTx_of hb10)) rfl (fX4_size_ok b10 M (isTx_of hb10)) ms_X6_80 rfl (Nat.le_of_ble_eq_true rfl) (Nat.le_of_ble_eq_true rfl) rfl dX6_count_117 rfl ?_
                exact mm_iret rfl dX6_count_120
              · rw [if_neg c9]
                by_cases c11 : x1 = (6 : Int32)
                · rw [if_pos c11]
                  refine mm_tswI (tgt := 88) (v := 6) (off := 75) (by rw [c11]; decide) dX6_count_13 (by decide) (by decide) rfl (by decide) ?_
                  refine mm_aload_n (q := 89) dX6_count_88 rfl rfl rfl ?_
                  refine mm_getR (q := 92) (k1 := 17) dX6_count_89 rfl lc_0 fd_X6_18 rfl ?_
                  refine mm_getIN (q := 95) dX6_count_92 rfl lc_17 fd_X6_134 rfl ?_
                  exact mm_iret rfl dX6_count_95
                · rw [if_neg c11]
                  by_cases c12 : x1 = (7 : Int32)
                  · rw [if_pos c12]
                    refine mm_tswI (tgt := 96) (v := 7) (off := 83) (by rw [c12]; decide) dX6_count_13 (by decide) (by decide) rfl (by decide) ?_
                    refine mm_aload_n (q := 97) dX6_count_96 rfl rfl rfl ?_
                    refine mm_getR (q := 100) (k1 := 20) dX6_count_97 rfl lc_0 fd_X6_25 rfl ?_
                    refine mm_getIN (q := 103) dX6_count_100 rfl lc_20 fd_X6_212 rfl ?_
                    exact mm_iret rfl dX6_count_103
                  · rw [if_neg c12]
                    by_cases c13 : x1 = (8 : Int32)
                    · rw [if_pos c13]
                      refine mm_tswI (tgt := 104) (v := 8) (off := 91) (by rw [c13]; decide) dX6_count_13 (by decide) (by decide) rfl (by decide) ?_
                      refine mm_aload_n (q := 105) dX6_count_104 rfl rfl rfl ?_
                      refine mm_getI (q := 108) dX6_count_105 rfl lc_0 fd_X6_265 rfl ?_
                      exact mm_iret rfl dX6_count_108
                    · rw [if_neg c13]
                      refine mm_tswO (tgt := 109) (by have e0 := lv_neT c2 (show (0 : Int32).toInt = 0 by decide); have e1 := lv_neT c3 (show (1 : Int32).toInt = 1 by decide); have e2 := lv_neT c4 (show (2 : Int32).toInt = 2 by decide); have e3 := lv_neT c5 (show (3 : Int32).toInt = 3 by decide); have e4 := lv_neT c7 (show (4 : Int32).toInt = 4 by decide); have e5 := lv_neT c9 (show (5 : Int32).toInt = 5 by decide); have e6 := lv_neT c11 (show (6 : Int32).toInt = 6 by decide); have e7 := lv_neT c12 (show (7 : Int32).toInt = 7 by decide); have e8 := lv_neT c13 (show (8 : Int32).toInt = 8 by decide); omega) dX6_count_13 (by decide) ?_
                      refine mm_aload_n (q := 110) dX6_count_109 rfl rfl rfl ?_
                      refine mm_getR (q := 113) (k1 := 1) dX6_count_110 rfl lc_0 fd_X6_11 rfl ?_
                      refine mm_iload_n (q := 114) dX6_count_113 rfl rfl rfl ?_
                      refine mm_iconst (q := 115) dX6_count_114 rfl ic_3 ?_
                      refine mm_isub (q := 116) dX6_count_115 rfl ?_
                      refine mm_aald (q := 117) (cn := "WordsLent$Text") dX6_count_116 rfl lc_1 (fun _ => rfl) (fun b14 hb14 => ?_)
                      refine mm_callVT (as := []) (st := []) (q := 120) (lc_Tx (isTx_of hb14)) rfl (fX4_size_ok b14 M (isTx_of hb14)) ms_X6_80 rfl (Nat.le_of_ble_eq_true rfl) (Nat.le_of_ble_eq_true rfl) rfl dX6_count_117 rfl ?_
                      exact mm_iret rfl dX6_count_120
  · refine mm_bipush (q := 11) dX6_count_9 rfl bp_m2 ?_
    exact mm_iret rfl dX6_count_11
def fX6_fault (x1 : Int32) (M : mm_M) : Option (Int32) :=
  if (fX6_isOutside x1 (3 : Int32)) = 0 then
    ((mm_ra [2, 4, 6] x1).bind fun b2 =>
    (fX4_faultPlace b2 M).bind fun b3 =>
    some b3)
  else
    some (-2 : Int32)
set_option maxRecDepth 100000 in
set_option maxHeartbeats 4000000 in
theorem fX6_fault_ok (x1 : Int32) (M : mm_M)  : mm_E LC yX6_fault cX6_fault 2 (some .int) 1 (mm_pI M) [.ref 0, .int x1] M (fX6_fault x1 M) := by
  refine mm_E.of (own := RX6) (ls := [some (.ref 0), some (.int x1)]) (by decide) rfl rfl (Nat.le_of_ble_eq_true rfl) ?_
  unfold fX6_fault
  refine mm_iload_n (q := 1) dX6_fault_0 rfl rfl rfl ?_
  refine mm_iconst (q := 2) dX6_fault_1 rfl ic_3 ?_
  refine mm_callST (as := [.int x1, .int (3 : Int32)]) (st := []) (q := 5) (fX6_isOutside_ok x1 (3 : Int32) M) ms_X6_66 rfl (Nat.le_of_ble_eq_true rfl) (Nat.le_of_ble_eq_true rfl) rfl dX6_fault_2 rfl ?_
  refine mm_if_eq (q := 8) (tgt := 13) dX6_fault_5 rfl (by decide) (fun c1 => ?_) (fun c1 => ?_)
  · refine mm_aload_n (q := 14) dX6_fault_13 rfl rfl rfl ?_
    refine mm_getR (q := 17) (k1 := 1) dX6_fault_14 rfl lc_0 fd_X6_11 rfl ?_
    refine mm_iload_n (q := 18) dX6_fault_17 rfl rfl rfl ?_
    refine mm_aald (q := 19) (cn := "WordsLent$Text") dX6_fault_18 rfl lc_1 (fun _ => rfl) (fun b2 hb2 => ?_)
    refine mm_callVP (as := []) (st := []) (q := 22) (lc_Tx (isTx_of hb2)) rfl (fX4_faultPlace_ok b2 M (isTx_of hb2)) ms_X6_87 rfl (Nat.le_of_ble_eq_true rfl) (Nat.le_of_ble_eq_true rfl) rfl dX6_fault_19 rfl (fun b3 _ => ?_)
    exact mm_iret rfl dX6_fault_22
  · refine mm_bipush (q := 10) dX6_fault_8 rfl bp_m2 ?_
    refine mm_goto (tgt := 22) dX6_fault_10 (by decide) ?_
    exact mm_iret rfl dX6_fault_22
def fX6_meeting (x1 : Int32) (x2 : Int32) (M : mm_M) : Option (Int32) :=
  if (fX6_isOutside x1 (12 : Int32)) = 0 then
    (if (fX6_isOutside x2 (3 : Int32)) = 0 then
      (if x1 < (M 24 7) then
        (if x2 = 0 then
          ((mm_rd M 30 13 x1).bind fun b5 =>
          some b5)
        else
          if x2 = (1 : Int32) then
            ((mm_rd M 31 13 x1).bind fun b7 =>
            some b7)
          else
            (mm_rd M 32 13 x1).bind fun b8 =>
            some b8)
      else
        some (-1 : Int32))
    else
      some (-2 : Int32))
  else
    some (-2 : Int32)
set_option maxRecDepth 100000 in
set_option maxHeartbeats 4000000 in
theorem fX6_meeting_ok (x1 : Int32) (x2 : Int32) (M : mm_M)  : mm_E LC yX6_meeting cX6_meeting 3 (some .int) 1 (mm_pI M) [.ref 0, .int x1, .int x2] M (fX6_meeting x1 x2 M) := by
  refine mm_E.of (own := RX6) (ls := [some (.ref 0), some (.int x1), some (.int x2)]) (by decide) rfl rfl (Nat.le_of_ble_eq_true rfl) ?_
  unfold fX6_meeting
  refine mm_iload_n (q := 1) dX6_meeting_0 rfl rfl rfl ?_
  refine mm_bipush (q := 3) dX6_meeting_1 rfl bp_12 ?_
  refine mm_callST (as := [.int x1, .int (12 : Int32)]) (st := []) (q := 6) (fX6_isOutside_ok x1 (12 : Int32) M) ms_X6_66 rfl (Nat.le_of_ble_eq_true rfl) (Nat.le_of_ble_eq_true rfl) rfl dX6_meeting_3 rfl ?_
  refine mm_if_ne (q := 9) (tgt := 17) dX6_meeting_6 rfl (by decide) (fun c1 => ?_) (fun c1 => ?_)
  · refine mm_iload_n (q := 10) dX6_meeting_9 rfl rfl rfl ?_
    refine mm_iconst (q := 11) dX6_meeting_10 rfl ic_3 ?_
    refine mm_callST (as := [.int x2, .int (3 : Int32)]) (st := []) (q := 14) (fX6_isOutside_ok x2 (3 : Int32) M) ms_X6_66 rfl (Nat.le_of_ble_eq_true rfl) (Nat.le_of_ble_eq_true rfl) rfl dX6_meeting_11 rfl ?_
    refine mm_if_eq (q := 17) (tgt := 20) dX6_meeting_14 rfl (by decide) (fun c2 => ?_) (fun c2 => ?_)
    · refine mm_iload_n (q := 21) dX6_meeting_20 rfl rfl rfl ?_
      refine mm_aload_n (q := 22) dX6_meeting_21 rfl rfl rfl ?_
      refine mm_getR (q := 25) (k1 := 24) dX6_meeting_22 rfl lc_0 fd_X6_38 rfl ?_
      refine mm_getIN (q := 28) dX6_meeting_25 rfl lc_24 fd_X6_112 rfl ?_
      refine mm_icmp_lt (q := 31) (tgt := 33) dX6_meeting_28 rfl (by decide) (fun c3 => ?_) (fun c3 => ?_)
      · refine mm_iload_n (q := 34) dX6_meeting_33 rfl rfl rfl ?_
        refine mm_if_ne (q := 37) (tgt := 47) dX6_meeting_34 rfl (by decide) (fun c4 => ?_) (fun c4 => ?_)
        · refine mm_aload_n (q := 38) dX6_meeting_37 rfl rfl rfl ?_
          refine mm_getR (q := 41) (k1 := 24) dX6_meeting_38 rfl lc_0 fd_X6_38 rfl ?_
          refine mm_getRN (q := 44) (k1 := 30) dX6_meeting_41 rfl lc_24 fd_X6_115 rfl ?_
          refine mm_iload_n (q := 45) dX6_meeting_44 rfl rfl rfl ?_
          refine mm_iald (q := 46) dX6_meeting_45 rfl lc_30 (fun b5 _ => ?_)
          exact mm_iret rfl dX6_meeting_46
        · refine mm_iload_n (q := 48) dX6_meeting_47 rfl rfl rfl ?_
          refine mm_iconst (q := 49) dX6_meeting_48 rfl ic_1 ?_
          refine mm_icmp_ne (q := 52) (tgt := 64) dX6_meeting_49 rfl (by decide) (fun c6 => ?_) (fun c6 => ?_)
          · refine mm_aload_n (q := 53) dX6_meeting_52 rfl rfl rfl ?_
            refine mm_getR (q := 56) (k1 := 24) dX6_meeting_53 rfl lc_0 fd_X6_38 rfl ?_
            refine mm_getRN (q := 59) (k1 := 31) dX6_meeting_56 rfl lc_24 fd_X6_118 rfl ?_
            refine mm_iload_n (q := 60) dX6_meeting_59 rfl rfl rfl ?_
            refine mm_iald (q := 61) dX6_meeting_60 rfl lc_31 (fun b7 _ => ?_)
            refine mm_goto (tgt := 73) dX6_meeting_61 (by decide) ?_
            exact mm_iret rfl dX6_meeting_73
          · refine mm_aload_n (q := 65) dX6_meeting_64 rfl rfl rfl ?_
            refine mm_getR (q := 68) (k1 := 24) dX6_meeting_65 rfl lc_0 fd_X6_38 rfl ?_
            refine mm_getRN (q := 71) (k1 := 32) dX6_meeting_68 rfl lc_24 fd_X6_121 rfl ?_
            refine mm_iload_n (q := 72) dX6_meeting_71 rfl rfl rfl ?_
            refine mm_iald (q := 73) dX6_meeting_72 rfl lc_32 (fun b8 _ => ?_)
            exact mm_iret rfl dX6_meeting_73
      · refine mm_iconst (q := 32) dX6_meeting_31 rfl ic_m1 ?_
        exact mm_iret rfl dX6_meeting_32
    · refine mm_bipush (q := 19) dX6_meeting_17 rfl bp_m2 ?_
      exact mm_iret rfl dX6_meeting_19
  · refine mm_bipush (q := 19) dX6_meeting_17 rfl bp_m2 ?_
    exact mm_iret rfl dX6_meeting_19
def fX6_word (x1 : Int32) (x2 : Int32) (M : mm_M) : Option (Int32) :=
  if (fX6_isOutside x1 (M 24 3)) = 0 then
    (if (fX6_isOutside x2 (3 : Int32)) = 0 then
      (if x2 = 0 then
        ((mm_rd M 27 12 x1).bind fun b4 =>
        some b4)
      else
        if x2 = (1 : Int32) then
          ((mm_rd M 28 12 x1).bind fun b6 =>
          some b6)
        else
          (mm_rd M 29 12 x1).bind fun b7 =>
          some b7)
    else
      some (-2 : Int32))
  else
    some (-2 : Int32)
set_option maxRecDepth 100000 in
set_option maxHeartbeats 4000000 in
theorem fX6_word_ok (x1 : Int32) (x2 : Int32) (M : mm_M)  : mm_E LC yX6_word cX6_word 3 (some .int) 1 (mm_pI M) [.ref 0, .int x1, .int x2] M (fX6_word x1 x2 M) := by
  refine mm_E.of (own := RX6) (ls := [some (.ref 0), some (.int x1), some (.int x2)]) (by decide) rfl rfl (Nat.le_of_ble_eq_true rfl) ?_
  unfold fX6_word
  refine mm_iload_n (q := 1) dX6_word_0 rfl rfl rfl ?_
  refine mm_aload_n (q := 2) dX6_word_1 rfl rfl rfl ?_
  refine mm_getR (q := 5) (k1 := 24) dX6_word_2 rfl lc_0 fd_X6_38 rfl ?_
  refine mm_getIN (q := 8) dX6_word_5 rfl lc_24 fd_X6_100 rfl ?_
  refine mm_callST (as := [.int x1, .int (M 24 3)]) (st := []) (q := 11) (fX6_isOutside_ok x1 (M 24 3) M) ms_X6_66 rfl (Nat.le_of_ble_eq_true rfl) (Nat.le_of_ble_eq_true rfl) rfl dX6_word_8 rfl ?_
  refine mm_if_ne (q := 14) (tgt := 22) dX6_word_11 rfl (by decide) (fun c1 => ?_) (fun c1 => ?_)
  · refine mm_iload_n (q := 15) dX6_word_14 rfl rfl rfl ?_
    refine mm_iconst (q := 16) dX6_word_15 rfl ic_3 ?_
    refine mm_callST (as := [.int x2, .int (3 : Int32)]) (st := []) (q := 19) (fX6_isOutside_ok x2 (3 : Int32) M) ms_X6_66 rfl (Nat.le_of_ble_eq_true rfl) (Nat.le_of_ble_eq_true rfl) rfl dX6_word_16 rfl ?_
    refine mm_if_eq (q := 22) (tgt := 25) dX6_word_19 rfl (by decide) (fun c2 => ?_) (fun c2 => ?_)
    · refine mm_iload_n (q := 26) dX6_word_25 rfl rfl rfl ?_
      refine mm_if_ne (q := 29) (tgt := 39) dX6_word_26 rfl (by decide) (fun c3 => ?_) (fun c3 => ?_)
      · refine mm_aload_n (q := 30) dX6_word_29 rfl rfl rfl ?_
        refine mm_getR (q := 33) (k1 := 24) dX6_word_30 rfl lc_0 fd_X6_38 rfl ?_
        refine mm_getRN (q := 36) (k1 := 27) dX6_word_33 rfl lc_24 fd_X6_103 rfl ?_
        refine mm_iload_n (q := 37) dX6_word_36 rfl rfl rfl ?_
        refine mm_iald (q := 38) dX6_word_37 rfl lc_27 (fun b4 _ => ?_)
        exact mm_iret rfl dX6_word_38
      · refine mm_iload_n (q := 40) dX6_word_39 rfl rfl rfl ?_
        refine mm_iconst (q := 41) dX6_word_40 rfl ic_1 ?_
        refine mm_icmp_ne (q := 44) (tgt := 56) dX6_word_41 rfl (by decide) (fun c5 => ?_) (fun c5 => ?_)
        · refine mm_aload_n (q := 45) dX6_word_44 rfl rfl rfl ?_
          refine mm_getR (q := 48) (k1 := 24) dX6_word_45 rfl lc_0 fd_X6_38 rfl ?_
          refine mm_getRN (q := 51) (k1 := 28) dX6_word_48 rfl lc_24 fd_X6_106 rfl ?_
          refine mm_iload_n (q := 52) dX6_word_51 rfl rfl rfl ?_
          refine mm_iald (q := 53) dX6_word_52 rfl lc_28 (fun b6 _ => ?_)
          refine mm_goto (tgt := 65) dX6_word_53 (by decide) ?_
          exact mm_iret rfl dX6_word_65
        · refine mm_aload_n (q := 57) dX6_word_56 rfl rfl rfl ?_
          refine mm_getR (q := 60) (k1 := 24) dX6_word_57 rfl lc_0 fd_X6_38 rfl ?_
          refine mm_getRN (q := 63) (k1 := 29) dX6_word_60 rfl lc_24 fd_X6_109 rfl ?_
          refine mm_iload_n (q := 64) dX6_word_63 rfl rfl rfl ?_
          refine mm_iald (q := 65) dX6_word_64 rfl lc_29 (fun b7 _ => ?_)
          exact mm_iret rfl dX6_word_65
    · refine mm_bipush (q := 24) dX6_word_22 rfl bp_m2 ?_
      exact mm_iret rfl dX6_word_24
  · refine mm_bipush (q := 24) dX6_word_22 rfl bp_m2 ?_
    exact mm_iret rfl dX6_word_24
def fX6_stands (x1 : Int32) (x2 : Int32) (x3 : Int32) (M : mm_M) : Option (Int32 × mm_M) :=
  if (fX6_isOutside x1 (24 : Int32)) = 0 then
    (if (fX6_isOutside x2 (M 24 3)) = 0 then
      (if (fX6_isOutside x3 (2 : Int32)) = 0 then
        ((fX6_learnCourse M).bind fun M4 =>
        if x3 = 0 then
          ((fX1_stateBehind 42 x1 x2 M4).bind fun b6 =>
          some (b6, M4))
        else
          (fX1_leftBehind 42 x1 x2 M4).bind fun b7 =>
          some (b7, M4))
      else
        some ((-2 : Int32), M))
    else
      some ((-2 : Int32), M))
  else
    some ((-2 : Int32), M)
set_option maxRecDepth 100000 in
set_option maxHeartbeats 4000000 in
theorem fX6_stands_ok (x1 : Int32) (x2 : Int32) (x3 : Int32) (M : mm_M)  : mm_E LC yX6_stands cX6_stands 4 (some .int) 4 mm_eI [.ref 0, .int x1, .int x2, .int x3] M (fX6_stands x1 x2 x3 M) := by
  refine mm_E.of (own := RX6) (ls := [some (.ref 0), some (.int x1), some (.int x2), some (.int x3)]) (by decide) rfl rfl (Nat.le_of_ble_eq_true rfl) ?_
  unfold fX6_stands
  refine mm_iload_n (q := 1) dX6_stands_0 rfl rfl rfl ?_
  refine mm_bipush (q := 3) dX6_stands_1 rfl bp_24 ?_
  refine mm_callST (as := [.int x1, .int (24 : Int32)]) (st := []) (q := 6) (fX6_isOutside_ok x1 (24 : Int32) M) ms_X6_66 rfl (Nat.le_of_ble_eq_true rfl) (Nat.le_of_ble_eq_true rfl) rfl dX6_stands_3 rfl ?_
  refine mm_if_ne (q := 9) (tgt := 31) dX6_stands_6 rfl (by decide) (fun c1 => ?_) (fun c1 => ?_)
  · refine mm_iload_n (q := 10) dX6_stands_9 rfl rfl rfl ?_
    refine mm_aload_n (q := 11) dX6_stands_10 rfl rfl rfl ?_
    refine mm_getR (q := 14) (k1 := 24) dX6_stands_11 rfl lc_0 fd_X6_38 rfl ?_
    refine mm_getIN (q := 17) dX6_stands_14 rfl lc_24 fd_X6_100 rfl ?_
    refine mm_callST (as := [.int x2, .int (M 24 3)]) (st := []) (q := 20) (fX6_isOutside_ok x2 (M 24 3) M) ms_X6_66 rfl (Nat.le_of_ble_eq_true rfl) (Nat.le_of_ble_eq_true rfl) rfl dX6_stands_17 rfl ?_
    refine mm_if_ne (q := 23) (tgt := 31) dX6_stands_20 rfl (by decide) (fun c2 => ?_) (fun c2 => ?_)
    · refine mm_iload_n (q := 24) dX6_stands_23 rfl rfl rfl ?_
      refine mm_iconst (q := 25) dX6_stands_24 rfl ic_2 ?_
      refine mm_callST (as := [.int x3, .int (2 : Int32)]) (st := []) (q := 28) (fX6_isOutside_ok x3 (2 : Int32) M) ms_X6_66 rfl (Nat.le_of_ble_eq_true rfl) (Nat.le_of_ble_eq_true rfl) rfl dX6_stands_25 rfl ?_
      refine mm_if_eq (q := 31) (tgt := 34) dX6_stands_28 rfl (by decide) (fun c3 => ?_) (fun c3 => ?_)
      · refine mm_aload_n (q := 35) dX6_stands_34 rfl rfl rfl ?_
        refine mm_callVV (as := []) (st := []) (q := 38) lc_0 rfl (fX6_learnCourse_ok M) ms_X6_149 rfl (Nat.le_of_ble_eq_true rfl) (Nat.le_of_ble_eq_true rfl) rfl dX6_stands_35 rfl (fun M4 _ => ?_)
        refine mm_iload_n (q := 39) dX6_stands_38 rfl rfl rfl ?_
        refine mm_if_ne (q := 42) (tgt := 54) dX6_stands_39 rfl (by decide) (fun c5 => ?_) (fun c5 => ?_)
        · refine mm_aload_n (q := 43) dX6_stands_42 rfl rfl rfl ?_
          refine mm_getR (q := 46) (k1 := 42) dX6_stands_43 rfl lc_0 fd_X6_45 rfl ?_
          refine mm_iload_n (q := 47) dX6_stands_46 rfl rfl rfl ?_
          refine mm_iload_n (q := 48) dX6_stands_47 rfl rfl rfl ?_
          refine mm_callVP (as := [.int x1, .int x2]) (st := []) (q := 51) lc_42 rfl (fX1_stateBehind_ok 42 x1 x2 M4 isCo_42) ms_X6_152 rfl (Nat.le_of_ble_eq_true rfl) (Nat.le_of_ble_eq_true rfl) rfl dX6_stands_48 rfl (fun b6 _ => ?_)
          refine mm_goto (tgt := 63) dX6_stands_51 (by decide) ?_
          exact mm_iret rfl dX6_stands_63
        · refine mm_aload_n (q := 55) dX6_stands_54 rfl rfl rfl ?_
          refine mm_getR (q := 58) (k1 := 42) dX6_stands_55 rfl lc_0 fd_X6_45 rfl ?_
          refine mm_iload_n (q := 59) dX6_stands_58 rfl rfl rfl ?_
          refine mm_iload_n (q := 60) dX6_stands_59 rfl rfl rfl ?_
          refine mm_callVP (as := [.int x1, .int x2]) (st := []) (q := 63) lc_42 rfl (fX1_leftBehind_ok 42 x1 x2 M4 isCo_42) ms_X6_156 rfl (Nat.le_of_ble_eq_true rfl) (Nat.le_of_ble_eq_true rfl) rfl dX6_stands_60 rfl (fun b7 _ => ?_)
          exact mm_iret rfl dX6_stands_63
      · refine mm_bipush (q := 33) dX6_stands_31 rfl bp_m2 ?_
        exact mm_iret rfl dX6_stands_33
    · refine mm_bipush (q := 33) dX6_stands_31 rfl bp_m2 ?_
      exact mm_iret rfl dX6_stands_33
  · refine mm_bipush (q := 33) dX6_stands_31 rfl bp_m2 ?_
    exact mm_iret rfl dX6_stands_33
def fX6_lent_L32 (x1 : Int32)  : Nat → Int32 → Int32 → mm_M → Option (Int32 × mm_M)
  | 0, _, _, _ => none
  | n + 1, x2, x3, M =>
    if (9 : Int32) < x3 then
      some (x2, M)
    else
      (mm_wa M 38 12 x1 x3).bind fun M4 =>
      (fX1_run 55 33 (fX2_all M4) M4).bind fun M5 =>
      (fX0_comesOut 55 M5).bind fun b6 =>
      fX6_lent_L32 x1 n (if b6 = 0 then x2 else x2 ||| ((1 : Int32) <<< (x3 &&& 31))) (x3 + (1 : Int32)) M5
set_option maxRecDepth 100000 in
set_option maxHeartbeats 4000000 in
theorem fX6_lent_L32_ok (x1 : Int32)    : ∀ (n : Nat) (x2 : Int32) (x3 : Int32) (M : mm_M), mm_C LC cX6_lent 4 RX6 (some .int) 3 mm_eI 32 [some (.ref 0), some (.int x1), some (.int x2), some (.int x3)] [] M (fX6_lent_L32 x1 n x2 x3 M) := by
  intro n
  induction n with
  | zero => intro x2 x3 M; exact mm_none
  | succ n ih =>
    intro x2 x3 M
    rw [fX6_lent_L32]
    refine mm_iload_n (q := 33) dX6_lent_32 rfl rfl rfl ?_
    refine mm_bipush (q := 35) dX6_lent_33 rfl bp_9 ?_
    refine mm_icmp_gt (q := 38) (tgt := 96) dX6_lent_35 rfl (by decide) (fun c3 => ?_) (fun c3 => ?_)
    · refine mm_iload_n (q := 97) dX6_lent_96 rfl rfl rfl ?_
      exact mm_iret rfl dX6_lent_97
    · refine mm_aload_n (q := 39) dX6_lent_38 rfl rfl rfl ?_
      refine mm_getR (q := 42) (k1 := 33) dX6_lent_39 rfl lc_0 fd_X6_49 rfl ?_
      refine mm_getRN (q := 45) (k1 := 38) dX6_lent_42 rfl lc_33 fd_X6_109 rfl ?_
      refine mm_iload_n (q := 46) dX6_lent_45 rfl rfl rfl ?_
      refine mm_iload_n (q := 47) dX6_lent_46 rfl rfl rfl ?_
      refine mm_iast (q := 48) dX6_lent_47 rfl lc_38 (fun M4 _ => ?_)
      refine mm_aload_n (q := 49) dX6_lent_48 rfl rfl rfl ?_
      refine mm_getR (q := 52) (k1 := 55) dX6_lent_49 rfl lc_0 fd_X6_52 rfl ?_
      refine mm_aload_n (q := 53) dX6_lent_52 rfl rfl rfl ?_
      refine mm_getR (q := 56) (k1 := 33) dX6_lent_53 rfl lc_0 fd_X6_49 rfl ?_
      refine mm_aload_n (q := 57) dX6_lent_56 rfl rfl rfl ?_
      refine mm_getR (q := 60) (k1 := 17) dX6_lent_57 rfl lc_0 fd_X6_18 rfl ?_
      refine mm_aload_n (q := 61) dX6_lent_60 rfl rfl rfl ?_
      refine mm_getR (q := 64) (k1 := 17) dX6_lent_61 rfl lc_0 fd_X6_18 rfl ?_
      refine mm_callVT (as := []) (st := [.ref 17, .ref 33, .ref 55]) (q := 67) lc_17 rfl (fX2_all_ok M4) ms_X6_185 rfl (Nat.le_of_ble_eq_true rfl) (Nat.le_of_ble_eq_true rfl) rfl dX6_lent_64 rfl ?_
      refine mm_callVV (as := [.ref 33, .ref 17, .int (fX2_all M4)]) (st := []) (q := 70) lc_55 rfl (fX1_run_ok 55 33 (fX2_all M4) M4 isCo_55 isTo_33) ms_X6_188 rfl (Nat.le_of_ble_eq_true rfl) (Nat.le_of_ble_eq_true rfl) rfl dX6_lent_67 rfl (fun M5 _ => ?_)
      refine mm_aload_n (q := 71) dX6_lent_70 rfl rfl rfl ?_
      refine mm_getR (q := 74) (k1 := 20) dX6_lent_71 rfl lc_0 fd_X6_25 rfl ?_
      refine mm_aload_n (q := 75) dX6_lent_74 rfl rfl rfl ?_
      refine mm_getR (q := 78) (k1 := 55) dX6_lent_75 rfl lc_0 fd_X6_52 rfl ?_
      refine mm_callVP (as := [.ref 55]) (st := []) (q := 81) lc_20 rfl (fX0_comesOut_ok 55 M5 isCo_55) ms_X6_215 rfl (Nat.le_of_ble_eq_true rfl) (Nat.le_of_ble_eq_true rfl) rfl dX6_lent_78 rfl (fun b6 _ => ?_)
      by_cases c7 : b6 = 0
      · simp only [if_pos c7]
        refine mm_if_eq_t (tgt := 90) c7 dX6_lent_81 (by decide) ?_
        refine mm_iinc (q := 93) (ls' := [some (.ref 0), some (.int x1), some (.int x2), some (.int (x3 + (1 : Int32)))]) dX6_lent_90 rfl rfl (ii_1 _) rfl (Nat.le_of_ble_eq_true rfl) rfl ?_
        refine mm_goto (tgt := 32) dX6_lent_93 (by decide) ?_
        exact ih _ _ _
      · simp only [if_neg c7]
        refine mm_if_eq_f (q := 84) (tgt := 90) c7 dX6_lent_81 rfl (by decide) ?_
        refine mm_iload_n (q := 85) dX6_lent_84 rfl rfl rfl ?_
        refine mm_iconst (q := 86) dX6_lent_85 rfl ic_1 ?_
        refine mm_iload_n (q := 87) dX6_lent_86 rfl rfl rfl ?_
        refine mm_ishl (q := 88) dX6_lent_87 rfl ?_
        refine mm_ior (q := 89) dX6_lent_88 rfl ?_
        refine mm_istore_n (q := 90) (ls' := [some (.ref 0), some (.int x1), some (.int (x2 ||| ((1 : Int32) <<< (x3 &&& 31)))), some (.int x3)]) dX6_lent_89 rfl rfl rfl (Nat.le_of_ble_eq_true rfl) rfl ?_
        refine mm_iinc (q := 93) (ls' := [some (.ref 0), some (.int x1), some (.int (x2 ||| ((1 : Int32) <<< (x3 &&& 31)))), some (.int (x3 + (1 : Int32)))]) dX6_lent_90 rfl rfl (ii_1 _) rfl (Nat.le_of_ble_eq_true rfl) rfl ?_
        refine mm_goto (tgt := 32) dX6_lent_93 (by decide) ?_
        exact ih _ _ _
def fX6_lent (x1 : Int32) (M : mm_M) : Option (Int32 × mm_M) :=
  if (fX6_isOutside x1 (M 24 3)) = 0 then
    ((fX5_becomeLike 33 24 M).bind fun M2 =>
    fX6_lent_L32 x1 1000 (0 : Int32) (1 : Int32) M2)
  else
    some ((-2 : Int32), M)
set_option maxRecDepth 100000 in
set_option maxHeartbeats 4000000 in
theorem fX6_lent_ok (x1 : Int32) (M : mm_M)  : mm_E LC yX6_lent cX6_lent 4 (some .int) 3 mm_eI [.ref 0, .int x1] M (fX6_lent x1 M) := by
  refine mm_E.of (own := RX6) (ls := [some (.ref 0), some (.int x1), none, none]) (by decide) rfl rfl (Nat.le_of_ble_eq_true rfl) ?_
  unfold fX6_lent
  refine mm_iload_n (q := 1) dX6_lent_0 rfl rfl rfl ?_
  refine mm_aload_n (q := 2) dX6_lent_1 rfl rfl rfl ?_
  refine mm_getR (q := 5) (k1 := 24) dX6_lent_2 rfl lc_0 fd_X6_38 rfl ?_
  refine mm_getIN (q := 8) dX6_lent_5 rfl lc_24 fd_X6_100 rfl ?_
  refine mm_callST (as := [.int x1, .int (M 24 3)]) (st := []) (q := 11) (fX6_isOutside_ok x1 (M 24 3) M) ms_X6_66 rfl (Nat.le_of_ble_eq_true rfl) (Nat.le_of_ble_eq_true rfl) rfl dX6_lent_8 rfl ?_
  refine mm_if_eq (q := 14) (tgt := 17) dX6_lent_11 rfl (by decide) (fun c1 => ?_) (fun c1 => ?_)
  · refine mm_aload_n (q := 18) dX6_lent_17 rfl rfl rfl ?_
    refine mm_getR (q := 21) (k1 := 33) dX6_lent_18 rfl lc_0 fd_X6_49 rfl ?_
    refine mm_aload_n (q := 22) dX6_lent_21 rfl rfl rfl ?_
    refine mm_getR (q := 25) (k1 := 24) dX6_lent_22 rfl lc_0 fd_X6_38 rfl ?_
    refine mm_callVV (as := [.ref 24]) (st := []) (q := 28) lc_33 rfl (fX5_becomeLike_ok 33 24 M isTo_33 isTo_24) ms_X6_177 rfl (Nat.le_of_ble_eq_true rfl) (Nat.le_of_ble_eq_true rfl) rfl dX6_lent_25 rfl (fun M2 _ => ?_)
    refine mm_iconst (q := 29) dX6_lent_28 rfl ic_0 ?_
    refine mm_istore_n (q := 30) (ls' := [some (.ref 0), some (.int x1), some (.int (0 : Int32)), none]) dX6_lent_29 rfl rfl rfl (Nat.le_of_ble_eq_true rfl) rfl ?_
    refine mm_iconst (q := 31) dX6_lent_30 rfl ic_1 ?_
    refine mm_istore_n (q := 32) (ls' := [some (.ref 0), some (.int x1), some (.int (0 : Int32)), some (.int (1 : Int32))]) dX6_lent_31 rfl rfl rfl (Nat.le_of_ble_eq_true rfl) rfl ?_
    exact fX6_lent_L32_ok x1 _ _ _ _
  · refine mm_bipush (q := 16) dX6_lent_14 rfl bp_m2 ?_
    exact mm_iret rfl dX6_lent_16
def fX6_digestWord_L6 (x3 : Int32) (M : mm_M) (k35 : Int64 → Option (Int64 × mm_M)) : Nat → Int64 → Int32 → Option (Int64 × mm_M)
  | 0, _, _ => none
  | n + 1, x4, x6 =>
    if (3 : Int32) ≤ x6 then
      k35 x4
    else
      (fX6_word x3 x6 M).bind fun b2 =>
      fX6_digestWord_L6 x3 M k35 n (((31 : Int64) * x4) + ((b2).toInt64)) (x6 + (1 : Int32))
set_option maxRecDepth 100000 in
set_option maxHeartbeats 4000000 in
theorem fX6_digestWord_L6_ok (x3 : Int32) (M : mm_M)  (k35 : Int64 → Option (Int64 × mm_M)) (hk35 : ∀ (x4 : Int64), mm_C LC cX6_digestWord 10 RX6 (some .long) 5 mm_eL 35 [some (.ref 0), none, none, some (.int x3), some (.long x4), none, none, none, none, none] [] M (k35 x4)) : ∀ (n : Nat) (x4 : Int64) (x6 : Int32), mm_C LC cX6_digestWord 10 RX6 (some .long) 5 mm_eL 6 [some (.ref 0), none, none, some (.int x3), some (.long x4), none, some (.int x6), none, none, none] [] M (fX6_digestWord_L6 x3 M k35 n x4 x6) := by
  intro n
  induction n with
  | zero => intro x4 x6; exact mm_none
  | succ n ih =>
    intro x4 x6
    rw [fX6_digestWord_L6]
    refine mm_iload (q := 8) dX6_digestWord_6 rfl rfl ?_
    refine mm_iconst (q := 9) dX6_digestWord_8 rfl ic_3 ?_
    refine mm_icmp_ge (q := 12) (tgt := 35) dX6_digestWord_9 rfl (by decide) (fun c1 => ?_) (fun c1 => ?_)
    · refine mm_drop (ls' := [some (.ref 0), none, none, some (.int x3), some (.long x4), none, none, none, none, none]) (mm_sub_at _ _ (And.intro rfl (And.intro rfl (And.intro rfl trivial)))) ?_
      exact hk35 _
    · refine mm_ldc2 (q := 15) dX6_digestWord_12 rfl cn_X6_270 ?_
      refine mm_lload (q := 17) dX6_digestWord_15 rfl rfl ?_
      refine mm_lmul (q := 18) dX6_digestWord_17 rfl ?_
      refine mm_aload_n (q := 19) dX6_digestWord_18 rfl rfl rfl ?_
      refine mm_iload_n (q := 20) dX6_digestWord_19 rfl rfl rfl ?_
      refine mm_iload (q := 22) dX6_digestWord_20 rfl rfl ?_
      refine mm_callVP (as := [.int x3, .int x6]) (st := [.long ((31 : Int64) * x4)]) (q := 25) lc_0 rfl (fX6_word_ok x3 x6 M) ms_X6_312 rfl (Nat.le_of_ble_eq_true rfl) (Nat.le_of_ble_eq_true rfl) rfl dX6_digestWord_22 rfl (fun b2 _ => ?_)
      refine mm_i2l (q := 26) dX6_digestWord_25 rfl ?_
      refine mm_ladd (q := 27) dX6_digestWord_26 rfl ?_
      refine mm_lstore (q := 29) (ls' := [some (.ref 0), none, none, some (.int x3), some (.long (((31 : Int64) * x4) + ((b2).toInt64))), none, some (.int x6), none, none, none]) dX6_digestWord_27 rfl rfl (Nat.le_of_ble_eq_true rfl) rfl ?_
      refine mm_iinc (q := 32) (ls' := [some (.ref 0), none, none, some (.int x3), some (.long (((31 : Int64) * x4) + ((b2).toInt64))), none, some (.int (x6 + (1 : Int32))), none, none, none]) dX6_digestWord_29 rfl rfl (ii_1 _) rfl (Nat.le_of_ble_eq_true rfl) rfl ?_
      refine mm_goto (tgt := 6) dX6_digestWord_32 (by decide) ?_
      exact ih _ _
def fX6_digestWord_L48 (x3 : Int32) (x7 : Int32) (k104 : Int64 → mm_M → Option (Int64 × mm_M)) : Nat → Int64 → Int32 → mm_M → Option (Int64 × mm_M)
  | 0, _, _, _ => none
  | n + 1, x4, x8, M =>
    if x7 ≤ x8 then
      k104 x4 M
    else
      (mm_dr x8).bind fun b5 =>
      (fX6_stands b5 x3 (0 : Int32) M).bind fun b6 =>
      (fX6_stands b5 x3 (1 : Int32) b6.2).bind fun b7 =>
      fX6_digestWord_L48 x3 x7 k104 n (((31 : Int64) * (((31 : Int64) * x4) + ((b6.1).toInt64))) + ((b7.1).toInt64)) (x8 + (1 : Int32)) b7.2
set_option maxRecDepth 100000 in
set_option maxHeartbeats 4000000 in
theorem fX6_digestWord_L48_ok (x3 : Int32) (x7 : Int32)  (k104 : Int64 → mm_M → Option (Int64 × mm_M)) (hk104 : ∀ (x4 : Int64) (M : mm_M), mm_C LC cX6_digestWord 10 RX6 (some .long) 5 mm_eL 104 [some (.ref 0), none, none, some (.int x3), some (.long x4), none, none, none, none, none] [] M (k104 x4 M)) : ∀ (n : Nat) (x4 : Int64) (x8 : Int32) (M : mm_M), mm_C LC cX6_digestWord 10 RX6 (some .long) 5 mm_eL 48 [some (.ref 0), none, none, some (.int x3), some (.long x4), none, some (.ref 1000), some (.int x7), some (.int x8), none] [] M (fX6_digestWord_L48 x3 x7 k104 n x4 x8 M) := by
  intro n
  induction n with
  | zero => intro x4 x8 M; exact mm_none
  | succ n ih =>
    intro x4 x8 M
    rw [fX6_digestWord_L48]
    refine mm_iload (q := 50) dX6_digestWord_48 rfl rfl ?_
    refine mm_iload (q := 52) dX6_digestWord_50 rfl rfl ?_
    refine mm_icmp_ge (q := 55) (tgt := 104) dX6_digestWord_52 rfl (by decide) (fun c4 => ?_) (fun c4 => ?_)
    · refine mm_drop (ls' := [some (.ref 0), none, none, some (.int x3), some (.long x4), none, none, none, none, none]) (mm_sub_at _ _ (And.intro rfl (And.intro rfl (And.intro rfl trivial)))) ?_
      exact hk104 _ _
    · refine mm_aload (q := 57) dX6_digestWord_55 rfl rfl ?_
      refine mm_iload (q := 59) dX6_digestWord_57 rfl rfl ?_
      refine mm_gld (q := 60) dX6_digestWord_59 rfl (fun b5 _ => ?_)
      refine mm_istore (q := 62) (ls' := [some (.ref 0), none, none, some (.int x3), some (.long x4), none, some (.ref 1000), some (.int x7), some (.int x8), some (.int b5)]) dX6_digestWord_60 rfl rfl (Nat.le_of_ble_eq_true rfl) rfl ?_
      refine mm_ldc2 (q := 65) dX6_digestWord_62 rfl cn_X6_270 ?_
      refine mm_lload (q := 67) dX6_digestWord_65 rfl rfl ?_
      refine mm_lmul (q := 68) dX6_digestWord_67 rfl ?_
      refine mm_aload_n (q := 69) dX6_digestWord_68 rfl rfl rfl ?_
      refine mm_iload (q := 71) dX6_digestWord_69 rfl rfl ?_
      refine mm_iload_n (q := 72) dX6_digestWord_71 rfl rfl rfl ?_
      refine mm_iconst (q := 73) dX6_digestWord_72 rfl ic_0 ?_
      refine mm_callVI (as := [.int b5, .int x3, .int (0 : Int32)]) (st := [.long ((31 : Int64) * x4)]) (q := 76) lc_0 rfl (fX6_stands_ok b5 x3 (0 : Int32) M) ms_X6_318 rfl (Nat.le_of_ble_eq_true rfl) (Nat.le_of_ble_eq_true rfl) rfl dX6_digestWord_73 rfl (fun b6 _ => ?_)
      refine mm_i2l (q := 77) dX6_digestWord_76 rfl ?_
      refine mm_ladd (q := 78) dX6_digestWord_77 rfl ?_
      refine mm_lstore (q := 80) (ls' := [some (.ref 0), none, none, some (.int x3), some (.long (((31 : Int64) * x4) + ((b6.1).toInt64))), none, some (.ref 1000), some (.int x7), some (.int x8), some (.int b5)]) dX6_digestWord_78 rfl rfl (Nat.le_of_ble_eq_true rfl) rfl ?_
      refine mm_ldc2 (q := 83) dX6_digestWord_80 rfl cn_X6_270 ?_
      refine mm_lload (q := 85) dX6_digestWord_83 rfl rfl ?_
      refine mm_lmul (q := 86) dX6_digestWord_85 rfl ?_
      refine mm_aload_n (q := 87) dX6_digestWord_86 rfl rfl rfl ?_
      refine mm_iload (q := 89) dX6_digestWord_87 rfl rfl ?_
      refine mm_iload_n (q := 90) dX6_digestWord_89 rfl rfl rfl ?_
      refine mm_iconst (q := 91) dX6_digestWord_90 rfl ic_1 ?_
      refine mm_callVI (as := [.int b5, .int x3, .int (1 : Int32)]) (st := [.long ((31 : Int64) * (((31 : Int64) * x4) + ((b6.1).toInt64)))]) (q := 94) lc_0 rfl (fX6_stands_ok b5 x3 (1 : Int32) b6.2) ms_X6_318 rfl (Nat.le_of_ble_eq_true rfl) (Nat.le_of_ble_eq_true rfl) rfl dX6_digestWord_91 rfl (fun b7 _ => ?_)
      refine mm_i2l (q := 95) dX6_digestWord_94 rfl ?_
      refine mm_ladd (q := 96) dX6_digestWord_95 rfl ?_
      refine mm_lstore (q := 98) (ls' := [some (.ref 0), none, none, some (.int x3), some (.long (((31 : Int64) * (((31 : Int64) * x4) + ((b6.1).toInt64))) + ((b7.1).toInt64))), none, some (.ref 1000), some (.int x7), some (.int x8), some (.int b5)]) dX6_digestWord_96 rfl rfl (Nat.le_of_ble_eq_true rfl) rfl ?_
      refine mm_iinc (q := 101) (ls' := [some (.ref 0), none, none, some (.int x3), some (.long (((31 : Int64) * (((31 : Int64) * x4) + ((b6.1).toInt64))) + ((b7.1).toInt64))), none, some (.ref 1000), some (.int x7), some (.int (x8 + (1 : Int32))), some (.int b5)]) dX6_digestWord_98 rfl rfl (ii_1 _) rfl (Nat.le_of_ble_eq_true rfl) rfl ?_
      refine mm_goto (tgt := 48) dX6_digestWord_101 (by decide) ?_
      refine mm_drop (ls' := [some (.ref 0), none, none, some (.int x3), some (.long (((31 : Int64) * (((31 : Int64) * x4) + ((b6.1).toInt64))) + ((b7.1).toInt64))), none, some (.ref 1000), some (.int x7), some (.int (x8 + (1 : Int32))), none]) (mm_sub_at _ _ (And.intro rfl (And.intro rfl (And.intro rfl (And.intro rfl (And.intro rfl (And.intro rfl trivial))))))) ?_
      exact ih _ _ _
def fX6_digestWord (x1 : Int64) (x3 : Int32) (M : mm_M) : Option (Int64 × mm_M) :=
  fX6_digestWord_L6 x3 M (fun z3 =>
      fX6_digestWord_L48 x3 (4 : Int32) (fun z8 M9 =>
      (fX6_lent x3 M9).bind fun b10 =>
      (fX6_ask x3 b10.2).bind fun b11 =>
      (fX6_chance (5 : Int32) x3 (0 : Int32) b11.2).bind fun b12 =>
      (fX6_chance (5 : Int32) x3 (1 : Int32) b12.2).bind fun b13 =>
      some (((31 : Int64) * (((31 : Int64) * (((31 : Int64) * (((31 : Int64) * z8) + ((b10.1).toInt64))) + ((b11.1).toInt64))) + b12.1)) + b13.1, b13.2)) 1000 z3 (0 : Int32) M) 1000 x1 (0 : Int32)
set_option maxRecDepth 100000 in
set_option maxHeartbeats 4000000 in
theorem fX6_digestWord_ok (x1 : Int64) (x3 : Int32) (M : mm_M)  : mm_E LC yX6_digestWord cX6_digestWord 10 (some .long) 5 mm_eL [.ref 0, .long x1, .int x3] M (fX6_digestWord x1 x3 M) := by
  refine mm_E.of (own := RX6) (ls := [some (.ref 0), some (.long x1), none, some (.int x3), none, none, none, none, none, none]) (by decide) rfl rfl (Nat.le_of_ble_eq_true rfl) ?_
  unfold fX6_digestWord
  refine mm_lload_n (q := 1) dX6_digestWord_0 rfl rfl rfl ?_
  refine mm_lstore (q := 3) (ls' := [some (.ref 0), some (.long x1), none, some (.int x3), some (.long x1), none, none, none, none, none]) dX6_digestWord_1 rfl rfl (Nat.le_of_ble_eq_true rfl) rfl ?_
  refine mm_iconst (q := 4) dX6_digestWord_3 rfl ic_0 ?_
  refine mm_istore (q := 6) (ls' := [some (.ref 0), some (.long x1), none, some (.int x3), some (.long x1), none, some (.int (0 : Int32)), none, none, none]) dX6_digestWord_4 rfl rfl (Nat.le_of_ble_eq_true rfl) rfl ?_
  refine mm_drop (ls' := [some (.ref 0), none, none, some (.int x3), some (.long x1), none, some (.int (0 : Int32)), none, none, none]) (mm_sub_at _ _ (And.intro rfl (And.intro rfl (And.intro rfl (And.intro rfl trivial))))) ?_
  refine fX6_digestWord_L6_ok x3 M _ (fun z3 => ?_) _ _ _
  refine mm_gets (q := 38) fs_X6_315 dX6_digestWord_35 rfl ?_
  refine mm_astore (q := 40) (ls' := [some (.ref 0), none, none, some (.int x3), some (.long z3), none, some (.ref 1000), none, none, none]) dX6_digestWord_38 rfl rfl (Nat.le_of_ble_eq_true rfl) rfl ?_
  refine mm_aload (q := 42) dX6_digestWord_40 rfl rfl ?_
  refine mm_glen (q := 43) dX6_digestWord_42 rfl ?_
  refine mm_istore (q := 45) (ls' := [some (.ref 0), none, none, some (.int x3), some (.long z3), none, some (.ref 1000), some (.int (4 : Int32)), none, none]) dX6_digestWord_43 rfl rfl (Nat.le_of_ble_eq_true rfl) rfl ?_
  refine mm_iconst (q := 46) dX6_digestWord_45 rfl ic_0 ?_
  refine mm_istore (q := 48) (ls' := [some (.ref 0), none, none, some (.int x3), some (.long z3), none, some (.ref 1000), some (.int (4 : Int32)), some (.int (0 : Int32)), none]) dX6_digestWord_46 rfl rfl (Nat.le_of_ble_eq_true rfl) rfl ?_
  refine fX6_digestWord_L48_ok x3 (4 : Int32) _ (fun z8 M9 => ?_) _ _ _ _
  refine mm_ldc2 (q := 107) dX6_digestWord_104 rfl cn_X6_270 ?_
  refine mm_lload (q := 109) dX6_digestWord_107 rfl rfl ?_
  refine mm_lmul (q := 110) dX6_digestWord_109 rfl ?_
  refine mm_aload_n (q := 111) dX6_digestWord_110 rfl rfl rfl ?_
  refine mm_iload_n (q := 112) dX6_digestWord_111 rfl rfl rfl ?_
  refine mm_callVI (as := [.int x3]) (st := [.long ((31 : Int64) * z8)]) (q := 115) lc_0 rfl (fX6_lent_ok x3 M9) ms_X6_321 rfl (Nat.le_of_ble_eq_true rfl) (Nat.le_of_ble_eq_true rfl) rfl dX6_digestWord_112 rfl (fun b10 _ => ?_)
  refine mm_i2l (q := 116) dX6_digestWord_115 rfl ?_
  refine mm_ladd (q := 117) dX6_digestWord_116 rfl ?_
  refine mm_lstore (q := 119) (ls' := [some (.ref 0), none, none, some (.int x3), some (.long (((31 : Int64) * z8) + ((b10.1).toInt64))), none, none, none, none, none]) dX6_digestWord_117 rfl rfl (Nat.le_of_ble_eq_true rfl) rfl ?_
  refine mm_ldc2 (q := 122) dX6_digestWord_119 rfl cn_X6_270 ?_
  refine mm_lload (q := 124) dX6_digestWord_122 rfl rfl ?_
  refine mm_lmul (q := 125) dX6_digestWord_124 rfl ?_
  refine mm_aload_n (q := 126) dX6_digestWord_125 rfl rfl rfl ?_
  refine mm_iload_n (q := 127) dX6_digestWord_126 rfl rfl rfl ?_
  refine mm_callVI (as := [.int x3]) (st := [.long ((31 : Int64) * (((31 : Int64) * z8) + ((b10.1).toInt64)))]) (q := 130) lc_0 rfl (fX6_ask_ok x3 b10.2) ms_X6_324 rfl (Nat.le_of_ble_eq_true rfl) (Nat.le_of_ble_eq_true rfl) rfl dX6_digestWord_127 rfl (fun b11 _ => ?_)
  refine mm_i2l (q := 131) dX6_digestWord_130 rfl ?_
  refine mm_ladd (q := 132) dX6_digestWord_131 rfl ?_
  refine mm_lstore (q := 134) (ls' := [some (.ref 0), none, none, some (.int x3), some (.long (((31 : Int64) * (((31 : Int64) * z8) + ((b10.1).toInt64))) + ((b11.1).toInt64))), none, none, none, none, none]) dX6_digestWord_132 rfl rfl (Nat.le_of_ble_eq_true rfl) rfl ?_
  refine mm_ldc2 (q := 137) dX6_digestWord_134 rfl cn_X6_270 ?_
  refine mm_lload (q := 139) dX6_digestWord_137 rfl rfl ?_
  refine mm_lmul (q := 140) dX6_digestWord_139 rfl ?_
  refine mm_aload_n (q := 141) dX6_digestWord_140 rfl rfl rfl ?_
  refine mm_iconst (q := 142) dX6_digestWord_141 rfl ic_5 ?_
  refine mm_iload_n (q := 143) dX6_digestWord_142 rfl rfl rfl ?_
  refine mm_iconst (q := 144) dX6_digestWord_143 rfl ic_0 ?_
  refine mm_callVL (as := [.int (5 : Int32), .int x3, .int (0 : Int32)]) (st := [.long ((31 : Int64) * (((31 : Int64) * (((31 : Int64) * z8) + ((b10.1).toInt64))) + ((b11.1).toInt64)))]) (q := 147) lc_0 rfl (fX6_chance_ok (5 : Int32) x3 (0 : Int32) b11.2) ms_X6_327 rfl (Nat.le_of_ble_eq_true rfl) (Nat.le_of_ble_eq_true rfl) rfl dX6_digestWord_144 rfl (fun b12 _ => ?_)
  refine mm_ladd (q := 148) dX6_digestWord_147 rfl ?_
  refine mm_lstore (q := 150) (ls' := [some (.ref 0), none, none, some (.int x3), some (.long (((31 : Int64) * (((31 : Int64) * (((31 : Int64) * z8) + ((b10.1).toInt64))) + ((b11.1).toInt64))) + b12.1)), none, none, none, none, none]) dX6_digestWord_148 rfl rfl (Nat.le_of_ble_eq_true rfl) rfl ?_
  refine mm_ldc2 (q := 153) dX6_digestWord_150 rfl cn_X6_270 ?_
  refine mm_lload (q := 155) dX6_digestWord_153 rfl rfl ?_
  refine mm_lmul (q := 156) dX6_digestWord_155 rfl ?_
  refine mm_aload_n (q := 157) dX6_digestWord_156 rfl rfl rfl ?_
  refine mm_iconst (q := 158) dX6_digestWord_157 rfl ic_5 ?_
  refine mm_iload_n (q := 159) dX6_digestWord_158 rfl rfl rfl ?_
  refine mm_iconst (q := 160) dX6_digestWord_159 rfl ic_1 ?_
  refine mm_callVL (as := [.int (5 : Int32), .int x3, .int (1 : Int32)]) (st := [.long ((31 : Int64) * (((31 : Int64) * (((31 : Int64) * (((31 : Int64) * z8) + ((b10.1).toInt64))) + ((b11.1).toInt64))) + b12.1))]) (q := 163) lc_0 rfl (fX6_chance_ok (5 : Int32) x3 (1 : Int32) b12.2) ms_X6_327 rfl (Nat.le_of_ble_eq_true rfl) (Nat.le_of_ble_eq_true rfl) rfl dX6_digestWord_160 rfl (fun b13 _ => ?_)
  refine mm_ladd (q := 164) dX6_digestWord_163 rfl ?_
  exact mm_lret rfl dX6_digestWord_164
def fX6_person (x1 : Int32) (x2 : Int32) (M : mm_M) : Option (Int32) :=
  if (fX6_isOutside x1 (M 24 0)) = 0 then
    (if (fX6_isOutside x2 (2 : Int32)) = 0 then
      (if x2 = 0 then
        ((mm_rd M 25 8 x1).bind fun b4 =>
        some b4)
      else
        (mm_rd M 26 8 x1).bind fun b5 =>
        some b5)
    else
      some (-2 : Int32))
  else
    some (-2 : Int32)
set_option maxRecDepth 100000 in
set_option maxHeartbeats 4000000 in
theorem fX6_person_ok (x1 : Int32) (x2 : Int32) (M : mm_M)  : mm_E LC yX6_person cX6_person 3 (some .int) 1 (mm_pI M) [.ref 0, .int x1, .int x2] M (fX6_person x1 x2 M) := by
  refine mm_E.of (own := RX6) (ls := [some (.ref 0), some (.int x1), some (.int x2)]) (by decide) rfl rfl (Nat.le_of_ble_eq_true rfl) ?_
  unfold fX6_person
  refine mm_iload_n (q := 1) dX6_person_0 rfl rfl rfl ?_
  refine mm_aload_n (q := 2) dX6_person_1 rfl rfl rfl ?_
  refine mm_getR (q := 5) (k1 := 24) dX6_person_2 rfl lc_0 fd_X6_38 rfl ?_
  refine mm_getIN (q := 8) dX6_person_5 rfl lc_24 fd_X6_90 rfl ?_
  refine mm_callST (as := [.int x1, .int (M 24 0)]) (st := []) (q := 11) (fX6_isOutside_ok x1 (M 24 0) M) ms_X6_66 rfl (Nat.le_of_ble_eq_true rfl) (Nat.le_of_ble_eq_true rfl) rfl dX6_person_8 rfl ?_
  refine mm_if_ne (q := 14) (tgt := 22) dX6_person_11 rfl (by decide) (fun c1 => ?_) (fun c1 => ?_)
  · refine mm_iload_n (q := 15) dX6_person_14 rfl rfl rfl ?_
    refine mm_iconst (q := 16) dX6_person_15 rfl ic_2 ?_
    refine mm_callST (as := [.int x2, .int (2 : Int32)]) (st := []) (q := 19) (fX6_isOutside_ok x2 (2 : Int32) M) ms_X6_66 rfl (Nat.le_of_ble_eq_true rfl) (Nat.le_of_ble_eq_true rfl) rfl dX6_person_16 rfl ?_
    refine mm_if_eq (q := 22) (tgt := 25) dX6_person_19 rfl (by decide) (fun c2 => ?_) (fun c2 => ?_)
    · refine mm_iload_n (q := 26) dX6_person_25 rfl rfl rfl ?_
      refine mm_if_ne (q := 29) (tgt := 41) dX6_person_26 rfl (by decide) (fun c3 => ?_) (fun c3 => ?_)
      · refine mm_aload_n (q := 30) dX6_person_29 rfl rfl rfl ?_
        refine mm_getR (q := 33) (k1 := 24) dX6_person_30 rfl lc_0 fd_X6_38 rfl ?_
        refine mm_getRN (q := 36) (k1 := 25) dX6_person_33 rfl lc_24 fd_X6_94 rfl ?_
        refine mm_iload_n (q := 37) dX6_person_36 rfl rfl rfl ?_
        refine mm_iald (q := 38) dX6_person_37 rfl lc_25 (fun b4 _ => ?_)
        refine mm_goto (tgt := 50) dX6_person_38 (by decide) ?_
        exact mm_iret rfl dX6_person_50
      · refine mm_aload_n (q := 42) dX6_person_41 rfl rfl rfl ?_
        refine mm_getR (q := 45) (k1 := 24) dX6_person_42 rfl lc_0 fd_X6_38 rfl ?_
        refine mm_getRN (q := 48) (k1 := 26) dX6_person_45 rfl lc_24 fd_X6_97 rfl ?_
        refine mm_iload_n (q := 49) dX6_person_48 rfl rfl rfl ?_
        refine mm_iald (q := 50) dX6_person_49 rfl lc_26 (fun b5 _ => ?_)
        exact mm_iret rfl dX6_person_50
    · refine mm_bipush (q := 24) dX6_person_22 rfl bp_m2 ?_
      exact mm_iret rfl dX6_person_24
  · refine mm_bipush (q := 24) dX6_person_22 rfl bp_m2 ?_
    exact mm_iret rfl dX6_person_24
def fX6_live_L30 (x1 : Int32)  : Nat → Int32 → mm_M → Option (Int32 × mm_M)
  | 0, _, _ => none
  | n + 1, x2, M =>
    if (24 : Int32) ≤ x2 then
      some ((-1 : Int32), M)
    else
      (mm_wa M 35 8 x1 x2).bind fun M4 =>
      (fX1_run 55 33 (fX2_all M4) M4).bind fun M5 =>
      (fX1_hasLost 55 33 (23 : Int32) x1 M5).bind fun b6 =>
      if b6 = 0 then
        some (x2, M5)
      else
        fX6_live_L30 x1 n (x2 + (1 : Int32)) M5
set_option maxRecDepth 100000 in
set_option maxHeartbeats 4000000 in
theorem fX6_live_L30_ok (x1 : Int32)    : ∀ (n : Nat) (x2 : Int32) (M : mm_M), mm_C LC cX6_live 3 RX6 (some .int) 3 mm_eI 30 [some (.ref 0), some (.int x1), some (.int x2)] [] M (fX6_live_L30 x1 n x2 M) := by
  intro n
  induction n with
  | zero => intro x2 M; exact mm_none
  | succ n ih =>
    intro x2 M
    rw [fX6_live_L30]
    refine mm_iload_n (q := 31) dX6_live_30 rfl rfl rfl ?_
    refine mm_bipush (q := 33) dX6_live_31 rfl bp_24 ?_
    refine mm_icmp_ge (q := 36) (tgt := 93) dX6_live_33 rfl (by decide) (fun c3 => ?_) (fun c3 => ?_)
    · refine mm_iconst (q := 94) dX6_live_93 rfl ic_m1 ?_
      exact mm_iret rfl dX6_live_94
    · refine mm_aload_n (q := 37) dX6_live_36 rfl rfl rfl ?_
      refine mm_getR (q := 40) (k1 := 33) dX6_live_37 rfl lc_0 fd_X6_49 rfl ?_
      refine mm_getRN (q := 43) (k1 := 35) dX6_live_40 rfl lc_33 fd_X6_97 rfl ?_
      refine mm_iload_n (q := 44) dX6_live_43 rfl rfl rfl ?_
      refine mm_iload_n (q := 45) dX6_live_44 rfl rfl rfl ?_
      refine mm_iast (q := 46) dX6_live_45 rfl lc_35 (fun M4 _ => ?_)
      refine mm_aload_n (q := 47) dX6_live_46 rfl rfl rfl ?_
      refine mm_getR (q := 50) (k1 := 55) dX6_live_47 rfl lc_0 fd_X6_52 rfl ?_
      refine mm_aload_n (q := 51) dX6_live_50 rfl rfl rfl ?_
      refine mm_getR (q := 54) (k1 := 33) dX6_live_51 rfl lc_0 fd_X6_49 rfl ?_
      refine mm_aload_n (q := 55) dX6_live_54 rfl rfl rfl ?_
      refine mm_getR (q := 58) (k1 := 17) dX6_live_55 rfl lc_0 fd_X6_18 rfl ?_
      refine mm_aload_n (q := 59) dX6_live_58 rfl rfl rfl ?_
      refine mm_getR (q := 62) (k1 := 17) dX6_live_59 rfl lc_0 fd_X6_18 rfl ?_
      refine mm_callVT (as := []) (st := [.ref 17, .ref 33, .ref 55]) (q := 65) lc_17 rfl (fX2_all_ok M4) ms_X6_185 rfl (Nat.le_of_ble_eq_true rfl) (Nat.le_of_ble_eq_true rfl) rfl dX6_live_62 rfl ?_
      refine mm_callVV (as := [.ref 33, .ref 17, .int (fX2_all M4)]) (st := []) (q := 68) lc_55 rfl (fX1_run_ok 55 33 (fX2_all M4) M4 isCo_55 isTo_33) ms_X6_188 rfl (Nat.le_of_ble_eq_true rfl) (Nat.le_of_ble_eq_true rfl) rfl dX6_live_65 rfl (fun M5 _ => ?_)
      refine mm_aload_n (q := 69) dX6_live_68 rfl rfl rfl ?_
      refine mm_getR (q := 72) (k1 := 55) dX6_live_69 rfl lc_0 fd_X6_52 rfl ?_
      refine mm_aload_n (q := 73) dX6_live_72 rfl rfl rfl ?_
      refine mm_getR (q := 76) (k1 := 33) dX6_live_73 rfl lc_0 fd_X6_49 rfl ?_
      refine mm_bipush (q := 78) dX6_live_76 rfl bp_23 ?_
      refine mm_iload_n (q := 79) dX6_live_78 rfl rfl rfl ?_
      refine mm_callVP (as := [.ref 33, .int (23 : Int32), .int x1]) (st := []) (q := 82) lc_55 rfl (fX1_hasLost_ok 55 33 (23 : Int32) x1 M5 isCo_55 isTo_33) ms_X6_195 rfl (Nat.le_of_ble_eq_true rfl) (Nat.le_of_ble_eq_true rfl) rfl dX6_live_79 rfl (fun b6 _ => ?_)
      refine mm_if_ne (q := 85) (tgt := 87) dX6_live_82 rfl (by decide) (fun c7 => ?_) (fun c7 => ?_)
      · refine mm_iload_n (q := 86) dX6_live_85 rfl rfl rfl ?_
        exact mm_iret rfl dX6_live_86
      · refine mm_iinc (q := 90) (ls' := [some (.ref 0), some (.int x1), some (.int (x2 + (1 : Int32)))]) dX6_live_87 rfl rfl (ii_1 _) rfl (Nat.le_of_ble_eq_true rfl) rfl ?_
        refine mm_goto (tgt := 30) dX6_live_90 (by decide) ?_
        exact ih _ _
def fX6_live (x1 : Int32) (M : mm_M) : Option (Int32 × mm_M) :=
  if (fX6_isOutside x1 (M 24 0)) = 0 then
    ((fX5_becomeLike 33 24 M).bind fun M2 =>
    fX6_live_L30 x1 1000 (0 : Int32) M2)
  else
    some ((-2 : Int32), M)
set_option maxRecDepth 100000 in
set_option maxHeartbeats 4000000 in
theorem fX6_live_ok (x1 : Int32) (M : mm_M)  : mm_E LC yX6_live cX6_live 3 (some .int) 3 mm_eI [.ref 0, .int x1] M (fX6_live x1 M) := by
  refine mm_E.of (own := RX6) (ls := [some (.ref 0), some (.int x1), none]) (by decide) rfl rfl (Nat.le_of_ble_eq_true rfl) ?_
  unfold fX6_live
  refine mm_iload_n (q := 1) dX6_live_0 rfl rfl rfl ?_
  refine mm_aload_n (q := 2) dX6_live_1 rfl rfl rfl ?_
  refine mm_getR (q := 5) (k1 := 24) dX6_live_2 rfl lc_0 fd_X6_38 rfl ?_
  refine mm_getIN (q := 8) dX6_live_5 rfl lc_24 fd_X6_90 rfl ?_
  refine mm_callST (as := [.int x1, .int (M 24 0)]) (st := []) (q := 11) (fX6_isOutside_ok x1 (M 24 0) M) ms_X6_66 rfl (Nat.le_of_ble_eq_true rfl) (Nat.le_of_ble_eq_true rfl) rfl dX6_live_8 rfl ?_
  refine mm_if_eq (q := 14) (tgt := 17) dX6_live_11 rfl (by decide) (fun c1 => ?_) (fun c1 => ?_)
  · refine mm_aload_n (q := 18) dX6_live_17 rfl rfl rfl ?_
    refine mm_getR (q := 21) (k1 := 33) dX6_live_18 rfl lc_0 fd_X6_49 rfl ?_
    refine mm_aload_n (q := 22) dX6_live_21 rfl rfl rfl ?_
    refine mm_getR (q := 25) (k1 := 24) dX6_live_22 rfl lc_0 fd_X6_38 rfl ?_
    refine mm_callVV (as := [.ref 24]) (st := []) (q := 28) lc_33 rfl (fX5_becomeLike_ok 33 24 M isTo_33 isTo_24) ms_X6_177 rfl (Nat.le_of_ble_eq_true rfl) (Nat.le_of_ble_eq_true rfl) rfl dX6_live_25 rfl (fun M2 _ => ?_)
    refine mm_iconst (q := 29) dX6_live_28 rfl ic_0 ?_
    refine mm_istore_n (q := 30) (ls' := [some (.ref 0), some (.int x1), some (.int (0 : Int32))]) dX6_live_29 rfl rfl rfl (Nat.le_of_ble_eq_true rfl) rfl ?_
    exact fX6_live_L30_ok x1 _ _ _
  · refine mm_bipush (q := 16) dX6_live_14 rfl bp_m2 ?_
    exact mm_iret rfl dX6_live_16
def fX6_sort_L32 (x1 : Int32)  : Nat → Int32 → Int32 → mm_M → Option (Int32 × mm_M)
  | 0, _, _, _ => none
  | n + 1, x2, x3, M =>
    if (4 : Int32) ≤ x3 then
      some (x2, M)
    else
      (mm_wa M 34 8 x1 x3).bind fun M4 =>
      (fX1_run 55 33 (fX2_all M4) M4).bind fun M5 =>
      (fX0_comesOut 55 M5).bind fun b6 =>
      fX6_sort_L32 x1 n (if b6 = 0 then x2 else x2 ||| ((1 : Int32) <<< (x3 &&& 31))) (x3 + (1 : Int32)) M5
set_option maxRecDepth 100000 in
set_option maxHeartbeats 4000000 in
theorem fX6_sort_L32_ok (x1 : Int32)    : ∀ (n : Nat) (x2 : Int32) (x3 : Int32) (M : mm_M), mm_C LC cX6_sort 4 RX6 (some .int) 3 mm_eI 32 [some (.ref 0), some (.int x1), some (.int x2), some (.int x3)] [] M (fX6_sort_L32 x1 n x2 x3 M) := by
  intro n
  induction n with
  | zero => intro x2 x3 M; exact mm_none
  | succ n ih =>
    intro x2 x3 M
    rw [fX6_sort_L32]
    refine mm_iload_n (q := 33) dX6_sort_32 rfl rfl rfl ?_
    refine mm_iconst (q := 34) dX6_sort_33 rfl ic_4 ?_
    refine mm_icmp_ge (q := 37) (tgt := 95) dX6_sort_34 rfl (by decide) (fun c3 => ?_) (fun c3 => ?_)
    · refine mm_iload_n (q := 96) dX6_sort_95 rfl rfl rfl ?_
      exact mm_iret rfl dX6_sort_96
    · refine mm_aload_n (q := 38) dX6_sort_37 rfl rfl rfl ?_
      refine mm_getR (q := 41) (k1 := 33) dX6_sort_38 rfl lc_0 fd_X6_49 rfl ?_
      refine mm_getRN (q := 44) (k1 := 34) dX6_sort_41 rfl lc_33 fd_X6_94 rfl ?_
      refine mm_iload_n (q := 45) dX6_sort_44 rfl rfl rfl ?_
      refine mm_iload_n (q := 46) dX6_sort_45 rfl rfl rfl ?_
      refine mm_iast (q := 47) dX6_sort_46 rfl lc_34 (fun M4 _ => ?_)
      refine mm_aload_n (q := 48) dX6_sort_47 rfl rfl rfl ?_
      refine mm_getR (q := 51) (k1 := 55) dX6_sort_48 rfl lc_0 fd_X6_52 rfl ?_
      refine mm_aload_n (q := 52) dX6_sort_51 rfl rfl rfl ?_
      refine mm_getR (q := 55) (k1 := 33) dX6_sort_52 rfl lc_0 fd_X6_49 rfl ?_
      refine mm_aload_n (q := 56) dX6_sort_55 rfl rfl rfl ?_
      refine mm_getR (q := 59) (k1 := 17) dX6_sort_56 rfl lc_0 fd_X6_18 rfl ?_
      refine mm_aload_n (q := 60) dX6_sort_59 rfl rfl rfl ?_
      refine mm_getR (q := 63) (k1 := 17) dX6_sort_60 rfl lc_0 fd_X6_18 rfl ?_
      refine mm_callVT (as := []) (st := [.ref 17, .ref 33, .ref 55]) (q := 66) lc_17 rfl (fX2_all_ok M4) ms_X6_185 rfl (Nat.le_of_ble_eq_true rfl) (Nat.le_of_ble_eq_true rfl) rfl dX6_sort_63 rfl ?_
      refine mm_callVV (as := [.ref 33, .ref 17, .int (fX2_all M4)]) (st := []) (q := 69) lc_55 rfl (fX1_run_ok 55 33 (fX2_all M4) M4 isCo_55 isTo_33) ms_X6_188 rfl (Nat.le_of_ble_eq_true rfl) (Nat.le_of_ble_eq_true rfl) rfl dX6_sort_66 rfl (fun M5 _ => ?_)
      refine mm_aload_n (q := 70) dX6_sort_69 rfl rfl rfl ?_
      refine mm_getR (q := 73) (k1 := 20) dX6_sort_70 rfl lc_0 fd_X6_25 rfl ?_
      refine mm_aload_n (q := 74) dX6_sort_73 rfl rfl rfl ?_
      refine mm_getR (q := 77) (k1 := 55) dX6_sort_74 rfl lc_0 fd_X6_52 rfl ?_
      refine mm_callVP (as := [.ref 55]) (st := []) (q := 80) lc_20 rfl (fX0_comesOut_ok 55 M5 isCo_55) ms_X6_215 rfl (Nat.le_of_ble_eq_true rfl) (Nat.le_of_ble_eq_true rfl) rfl dX6_sort_77 rfl (fun b6 _ => ?_)
      by_cases c7 : b6 = 0
      · simp only [if_pos c7]
        refine mm_if_eq_t (tgt := 89) c7 dX6_sort_80 (by decide) ?_
        refine mm_iinc (q := 92) (ls' := [some (.ref 0), some (.int x1), some (.int x2), some (.int (x3 + (1 : Int32)))]) dX6_sort_89 rfl rfl (ii_1 _) rfl (Nat.le_of_ble_eq_true rfl) rfl ?_
        refine mm_goto (tgt := 32) dX6_sort_92 (by decide) ?_
        exact ih _ _ _
      · simp only [if_neg c7]
        refine mm_if_eq_f (q := 83) (tgt := 89) c7 dX6_sort_80 rfl (by decide) ?_
        refine mm_iload_n (q := 84) dX6_sort_83 rfl rfl rfl ?_
        refine mm_iconst (q := 85) dX6_sort_84 rfl ic_1 ?_
        refine mm_iload_n (q := 86) dX6_sort_85 rfl rfl rfl ?_
        refine mm_ishl (q := 87) dX6_sort_86 rfl ?_
        refine mm_ior (q := 88) dX6_sort_87 rfl ?_
        refine mm_istore_n (q := 89) (ls' := [some (.ref 0), some (.int x1), some (.int (x2 ||| ((1 : Int32) <<< (x3 &&& 31)))), some (.int x3)]) dX6_sort_88 rfl rfl rfl (Nat.le_of_ble_eq_true rfl) rfl ?_
        refine mm_iinc (q := 92) (ls' := [some (.ref 0), some (.int x1), some (.int (x2 ||| ((1 : Int32) <<< (x3 &&& 31)))), some (.int (x3 + (1 : Int32)))]) dX6_sort_89 rfl rfl (ii_1 _) rfl (Nat.le_of_ble_eq_true rfl) rfl ?_
        refine mm_goto (tgt := 32) dX6_sort_92 (by decide) ?_
        exact ih _ _ _
def fX6_sort (x1 : Int32) (M : mm_M) : Option (Int32 × mm_M) :=
  if (fX6_isOutside x1 (M 24 0)) = 0 then
    ((fX5_becomeLike 33 24 M).bind fun M2 =>
    fX6_sort_L32 x1 1000 (0 : Int32) (0 : Int32) M2)
  else
    some ((-2 : Int32), M)
set_option maxRecDepth 100000 in
set_option maxHeartbeats 4000000 in
theorem fX6_sort_ok (x1 : Int32) (M : mm_M)  : mm_E LC yX6_sort cX6_sort 4 (some .int) 3 mm_eI [.ref 0, .int x1] M (fX6_sort x1 M) := by
  refine mm_E.of (own := RX6) (ls := [some (.ref 0), some (.int x1), none, none]) (by decide) rfl rfl (Nat.le_of_ble_eq_true rfl) ?_
  unfold fX6_sort
  refine mm_iload_n (q := 1) dX6_sort_0 rfl rfl rfl ?_
  refine mm_aload_n (q := 2) dX6_sort_1 rfl rfl rfl ?_
  refine mm_getR (q := 5) (k1 := 24) dX6_sort_2 rfl lc_0 fd_X6_38 rfl ?_
  refine mm_getIN (q := 8) dX6_sort_5 rfl lc_24 fd_X6_90 rfl ?_
  refine mm_callST (as := [.int x1, .int (M 24 0)]) (st := []) (q := 11) (fX6_isOutside_ok x1 (M 24 0) M) ms_X6_66 rfl (Nat.le_of_ble_eq_true rfl) (Nat.le_of_ble_eq_true rfl) rfl dX6_sort_8 rfl ?_
  refine mm_if_eq (q := 14) (tgt := 17) dX6_sort_11 rfl (by decide) (fun c1 => ?_) (fun c1 => ?_)
  · refine mm_aload_n (q := 18) dX6_sort_17 rfl rfl rfl ?_
    refine mm_getR (q := 21) (k1 := 33) dX6_sort_18 rfl lc_0 fd_X6_49 rfl ?_
    refine mm_aload_n (q := 22) dX6_sort_21 rfl rfl rfl ?_
    refine mm_getR (q := 25) (k1 := 24) dX6_sort_22 rfl lc_0 fd_X6_38 rfl ?_
    refine mm_callVV (as := [.ref 24]) (st := []) (q := 28) lc_33 rfl (fX5_becomeLike_ok 33 24 M isTo_33 isTo_24) ms_X6_177 rfl (Nat.le_of_ble_eq_true rfl) (Nat.le_of_ble_eq_true rfl) rfl dX6_sort_25 rfl (fun M2 _ => ?_)
    refine mm_iconst (q := 29) dX6_sort_28 rfl ic_0 ?_
    refine mm_istore_n (q := 30) (ls' := [some (.ref 0), some (.int x1), some (.int (0 : Int32)), none]) dX6_sort_29 rfl rfl rfl (Nat.le_of_ble_eq_true rfl) rfl ?_
    refine mm_iconst (q := 31) dX6_sort_30 rfl ic_0 ?_
    refine mm_istore_n (q := 32) (ls' := [some (.ref 0), some (.int x1), some (.int (0 : Int32)), some (.int (0 : Int32))]) dX6_sort_31 rfl rfl rfl (Nat.le_of_ble_eq_true rfl) rfl ?_
    exact fX6_sort_L32_ok x1 _ _ _ _
  · refine mm_bipush (q := 16) dX6_sort_14 rfl bp_m2 ?_
    exact mm_iret rfl dX6_sort_16
def fX6_digestPerson_L34 (x3 : Int32) (k65 : Int64 → mm_M → Option (Int64 × mm_M)) : Nat → Int64 → Int32 → mm_M → Option (Int64 × mm_M)
  | 0, _, _, _ => none
  | n + 1, x4, x6, M =>
    if (4 : Int32) ≤ x6 then
      k65 x4 M
    else
      (fX6_at (6 : Int32) x3 x6 M).bind fun b4 =>
      fX6_digestPerson_L34 x3 k65 n (((31 : Int64) * x4) + ((b4.1).toInt64)) (x6 + (1 : Int32)) b4.2
set_option maxRecDepth 100000 in
set_option maxHeartbeats 4000000 in
theorem fX6_digestPerson_L34_ok (x3 : Int32)  (k65 : Int64 → mm_M → Option (Int64 × mm_M)) (hk65 : ∀ (x4 : Int64) (M : mm_M), mm_C LC cX6_digestPerson 7 RX6 (some .long) 5 mm_eL 65 [some (.ref 0), none, none, some (.int x3), some (.long x4), none, none] [] M (k65 x4 M)) : ∀ (n : Nat) (x4 : Int64) (x6 : Int32) (M : mm_M), mm_C LC cX6_digestPerson 7 RX6 (some .long) 5 mm_eL 34 [some (.ref 0), none, none, some (.int x3), some (.long x4), none, some (.int x6)] [] M (fX6_digestPerson_L34 x3 k65 n x4 x6 M) := by
  intro n
  induction n with
  | zero => intro x4 x6 M; exact mm_none
  | succ n ih =>
    intro x4 x6 M
    rw [fX6_digestPerson_L34]
    refine mm_iload (q := 36) dX6_digestPerson_34 rfl rfl ?_
    refine mm_iconst (q := 37) dX6_digestPerson_36 rfl ic_4 ?_
    refine mm_icmp_ge (q := 40) (tgt := 65) dX6_digestPerson_37 rfl (by decide) (fun c3 => ?_) (fun c3 => ?_)
    · refine mm_drop (ls' := [some (.ref 0), none, none, some (.int x3), some (.long x4), none, none]) (mm_sub_at _ _ (And.intro rfl (And.intro rfl (And.intro rfl trivial)))) ?_
      exact hk65 _ _
    · refine mm_ldc2 (q := 43) dX6_digestPerson_40 rfl cn_X6_270 ?_
      refine mm_lload (q := 45) dX6_digestPerson_43 rfl rfl ?_
      refine mm_lmul (q := 46) dX6_digestPerson_45 rfl ?_
      refine mm_aload_n (q := 47) dX6_digestPerson_46 rfl rfl rfl ?_
      refine mm_bipush (q := 49) dX6_digestPerson_47 rfl bp_6 ?_
      refine mm_iload_n (q := 50) dX6_digestPerson_49 rfl rfl rfl ?_
      refine mm_iload (q := 52) dX6_digestPerson_50 rfl rfl ?_
      refine mm_callVI (as := [.int (6 : Int32), .int x3, .int x6]) (st := [.long ((31 : Int64) * x4)]) (q := 55) lc_0 rfl (fX6_at_ok (6 : Int32) x3 x6 M) ms_X6_334 rfl (Nat.le_of_ble_eq_true rfl) (Nat.le_of_ble_eq_true rfl) rfl dX6_digestPerson_52 rfl (fun b4 _ => ?_)
      refine mm_i2l (q := 56) dX6_digestPerson_55 rfl ?_
      refine mm_ladd (q := 57) dX6_digestPerson_56 rfl ?_
      refine mm_lstore (q := 59) (ls' := [some (.ref 0), none, none, some (.int x3), some (.long (((31 : Int64) * x4) + ((b4.1).toInt64))), none, some (.int x6)]) dX6_digestPerson_57 rfl rfl (Nat.le_of_ble_eq_true rfl) rfl ?_
      refine mm_iinc (q := 62) (ls' := [some (.ref 0), none, none, some (.int x3), some (.long (((31 : Int64) * x4) + ((b4.1).toInt64))), none, some (.int (x6 + (1 : Int32)))]) dX6_digestPerson_59 rfl rfl (ii_1 _) rfl (Nat.le_of_ble_eq_true rfl) rfl ?_
      refine mm_goto (tgt := 34) dX6_digestPerson_62 (by decide) ?_
      exact ih _ _ _
def fX6_digestPerson_L68 (x3 : Int32) (k99 : Int64 → mm_M → Option (Int64 × mm_M)) : Nat → Int64 → Int32 → mm_M → Option (Int64 × mm_M)
  | 0, _, _, _ => none
  | n + 1, x4, x6, M =>
    if (4 : Int32) ≤ x6 then
      k99 x4 M
    else
      (fX6_at (23 : Int32) x3 x6 M).bind fun b8 =>
      fX6_digestPerson_L68 x3 k99 n (((31 : Int64) * x4) + ((b8.1).toInt64)) (x6 + (1 : Int32)) b8.2
set_option maxRecDepth 100000 in
set_option maxHeartbeats 4000000 in
theorem fX6_digestPerson_L68_ok (x3 : Int32)  (k99 : Int64 → mm_M → Option (Int64 × mm_M)) (hk99 : ∀ (x4 : Int64) (M : mm_M), mm_C LC cX6_digestPerson 7 RX6 (some .long) 5 mm_eL 99 [some (.ref 0), none, none, some (.int x3), some (.long x4), none, none] [] M (k99 x4 M)) : ∀ (n : Nat) (x4 : Int64) (x6 : Int32) (M : mm_M), mm_C LC cX6_digestPerson 7 RX6 (some .long) 5 mm_eL 68 [some (.ref 0), none, none, some (.int x3), some (.long x4), none, some (.int x6)] [] M (fX6_digestPerson_L68 x3 k99 n x4 x6 M) := by
  intro n
  induction n with
  | zero => intro x4 x6 M; exact mm_none
  | succ n ih =>
    intro x4 x6 M
    rw [fX6_digestPerson_L68]
    refine mm_iload (q := 70) dX6_digestPerson_68 rfl rfl ?_
    refine mm_iconst (q := 71) dX6_digestPerson_70 rfl ic_4 ?_
    refine mm_icmp_ge (q := 74) (tgt := 99) dX6_digestPerson_71 rfl (by decide) (fun c7 => ?_) (fun c7 => ?_)
    · refine mm_drop (ls' := [some (.ref 0), none, none, some (.int x3), some (.long x4), none, none]) (mm_sub_at _ _ (And.intro rfl (And.intro rfl (And.intro rfl trivial)))) ?_
      exact hk99 _ _
    · refine mm_ldc2 (q := 77) dX6_digestPerson_74 rfl cn_X6_270 ?_
      refine mm_lload (q := 79) dX6_digestPerson_77 rfl rfl ?_
      refine mm_lmul (q := 80) dX6_digestPerson_79 rfl ?_
      refine mm_aload_n (q := 81) dX6_digestPerson_80 rfl rfl rfl ?_
      refine mm_bipush (q := 83) dX6_digestPerson_81 rfl bp_23 ?_
      refine mm_iload_n (q := 84) dX6_digestPerson_83 rfl rfl rfl ?_
      refine mm_iload (q := 86) dX6_digestPerson_84 rfl rfl ?_
      refine mm_callVI (as := [.int (23 : Int32), .int x3, .int x6]) (st := [.long ((31 : Int64) * x4)]) (q := 89) lc_0 rfl (fX6_at_ok (23 : Int32) x3 x6 M) ms_X6_334 rfl (Nat.le_of_ble_eq_true rfl) (Nat.le_of_ble_eq_true rfl) rfl dX6_digestPerson_86 rfl (fun b8 _ => ?_)
      refine mm_i2l (q := 90) dX6_digestPerson_89 rfl ?_
      refine mm_ladd (q := 91) dX6_digestPerson_90 rfl ?_
      refine mm_lstore (q := 93) (ls' := [some (.ref 0), none, none, some (.int x3), some (.long (((31 : Int64) * x4) + ((b8.1).toInt64))), none, some (.int x6)]) dX6_digestPerson_91 rfl rfl (Nat.le_of_ble_eq_true rfl) rfl ?_
      refine mm_iinc (q := 96) (ls' := [some (.ref 0), none, none, some (.int x3), some (.long (((31 : Int64) * x4) + ((b8.1).toInt64))), none, some (.int (x6 + (1 : Int32)))]) dX6_digestPerson_93 rfl rfl (ii_1 _) rfl (Nat.le_of_ble_eq_true rfl) rfl ?_
      refine mm_goto (tgt := 68) dX6_digestPerson_96 (by decide) ?_
      exact ih _ _ _
def fX6_digestPerson (x1 : Int64) (x3 : Int32) (M : mm_M) : Option (Int64 × mm_M) :=
  (fX6_person x3 (0 : Int32) M).bind fun b1 =>
  (fX6_person x3 (1 : Int32) M).bind fun b2 =>
  fX6_digestPerson_L34 x3 (fun z5 M6 =>
      fX6_digestPerson_L68 x3 (fun z9 M10 =>
      (fX6_clear x3 M10).bind fun b11 =>
      (fX6_live x3 b11.2).bind fun b12 =>
      (fX6_sort x3 b12.2).bind fun b13 =>
      some (((31 : Int64) * (((31 : Int64) * (((31 : Int64) * z9) + ((b11.1).toInt64))) + ((b12.1).toInt64))) + ((b13.1).toInt64), b13.2)) 1000 z5 (0 : Int32) M6) 1000 (((31 : Int64) * (((31 : Int64) * x1) + ((b1).toInt64))) + ((b2).toInt64)) (0 : Int32) M
set_option maxRecDepth 100000 in
set_option maxHeartbeats 4000000 in
theorem fX6_digestPerson_ok (x1 : Int64) (x3 : Int32) (M : mm_M)  : mm_E LC yX6_digestPerson cX6_digestPerson 7 (some .long) 5 mm_eL [.ref 0, .long x1, .int x3] M (fX6_digestPerson x1 x3 M) := by
  refine mm_E.of (own := RX6) (ls := [some (.ref 0), some (.long x1), none, some (.int x3), none, none, none]) (by decide) rfl rfl (Nat.le_of_ble_eq_true rfl) ?_
  unfold fX6_digestPerson
  refine mm_ldc2 (q := 3) dX6_digestPerson_0 rfl cn_X6_270 ?_
  refine mm_lload_n (q := 4) dX6_digestPerson_3 rfl rfl rfl ?_
  refine mm_lmul (q := 5) dX6_digestPerson_4 rfl ?_
  refine mm_aload_n (q := 6) dX6_digestPerson_5 rfl rfl rfl ?_
  refine mm_iload_n (q := 7) dX6_digestPerson_6 rfl rfl rfl ?_
  refine mm_iconst (q := 8) dX6_digestPerson_7 rfl ic_0 ?_
  refine mm_callVP (as := [.int x3, .int (0 : Int32)]) (st := [.long ((31 : Int64) * x1)]) (q := 11) lc_0 rfl (fX6_person_ok x3 (0 : Int32) M) ms_X6_331 rfl (Nat.le_of_ble_eq_true rfl) (Nat.le_of_ble_eq_true rfl) rfl dX6_digestPerson_8 rfl (fun b1 _ => ?_)
  refine mm_i2l (q := 12) dX6_digestPerson_11 rfl ?_
  refine mm_ladd (q := 13) dX6_digestPerson_12 rfl ?_
  refine mm_lstore (q := 15) (ls' := [some (.ref 0), some (.long x1), none, some (.int x3), some (.long (((31 : Int64) * x1) + ((b1).toInt64))), none, none]) dX6_digestPerson_13 rfl rfl (Nat.le_of_ble_eq_true rfl) rfl ?_
  refine mm_ldc2 (q := 18) dX6_digestPerson_15 rfl cn_X6_270 ?_
  refine mm_lload (q := 20) dX6_digestPerson_18 rfl rfl ?_
  refine mm_lmul (q := 21) dX6_digestPerson_20 rfl ?_
  refine mm_aload_n (q := 22) dX6_digestPerson_21 rfl rfl rfl ?_
  refine mm_iload_n (q := 23) dX6_digestPerson_22 rfl rfl rfl ?_
  refine mm_iconst (q := 24) dX6_digestPerson_23 rfl ic_1 ?_
  refine mm_callVP (as := [.int x3, .int (1 : Int32)]) (st := [.long ((31 : Int64) * (((31 : Int64) * x1) + ((b1).toInt64)))]) (q := 27) lc_0 rfl (fX6_person_ok x3 (1 : Int32) M) ms_X6_331 rfl (Nat.le_of_ble_eq_true rfl) (Nat.le_of_ble_eq_true rfl) rfl dX6_digestPerson_24 rfl (fun b2 _ => ?_)
  refine mm_i2l (q := 28) dX6_digestPerson_27 rfl ?_
  refine mm_ladd (q := 29) dX6_digestPerson_28 rfl ?_
  refine mm_lstore (q := 31) (ls' := [some (.ref 0), some (.long x1), none, some (.int x3), some (.long (((31 : Int64) * (((31 : Int64) * x1) + ((b1).toInt64))) + ((b2).toInt64))), none, none]) dX6_digestPerson_29 rfl rfl (Nat.le_of_ble_eq_true rfl) rfl ?_
  refine mm_iconst (q := 32) dX6_digestPerson_31 rfl ic_0 ?_
  refine mm_istore (q := 34) (ls' := [some (.ref 0), some (.long x1), none, some (.int x3), some (.long (((31 : Int64) * (((31 : Int64) * x1) + ((b1).toInt64))) + ((b2).toInt64))), none, some (.int (0 : Int32))]) dX6_digestPerson_32 rfl rfl (Nat.le_of_ble_eq_true rfl) rfl ?_
  refine mm_drop (ls' := [some (.ref 0), none, none, some (.int x3), some (.long (((31 : Int64) * (((31 : Int64) * x1) + ((b1).toInt64))) + ((b2).toInt64))), none, some (.int (0 : Int32))]) (mm_sub_at _ _ (And.intro rfl (And.intro rfl (And.intro rfl (And.intro rfl trivial))))) ?_
  refine fX6_digestPerson_L34_ok x3 _ (fun z5 M6 => ?_) _ _ _ _
  refine mm_iconst (q := 66) dX6_digestPerson_65 rfl ic_0 ?_
  refine mm_istore (q := 68) (ls' := [some (.ref 0), none, none, some (.int x3), some (.long z5), none, some (.int (0 : Int32))]) dX6_digestPerson_66 rfl rfl (Nat.le_of_ble_eq_true rfl) rfl ?_
  refine fX6_digestPerson_L68_ok x3 _ (fun z9 M10 => ?_) _ _ _ _
  refine mm_ldc2 (q := 102) dX6_digestPerson_99 rfl cn_X6_270 ?_
  refine mm_lload (q := 104) dX6_digestPerson_102 rfl rfl ?_
  refine mm_lmul (q := 105) dX6_digestPerson_104 rfl ?_
  refine mm_aload_n (q := 106) dX6_digestPerson_105 rfl rfl rfl ?_
  refine mm_iload_n (q := 107) dX6_digestPerson_106 rfl rfl rfl ?_
  refine mm_callVI (as := [.int x3]) (st := [.long ((31 : Int64) * z9)]) (q := 110) lc_0 rfl (fX6_clear_ok x3 M10) ms_X6_337 rfl (Nat.le_of_ble_eq_true rfl) (Nat.le_of_ble_eq_true rfl) rfl dX6_digestPerson_107 rfl (fun b11 _ => ?_)
  refine mm_i2l (q := 111) dX6_digestPerson_110 rfl ?_
  refine mm_ladd (q := 112) dX6_digestPerson_111 rfl ?_
  refine mm_lstore (q := 114) (ls' := [some (.ref 0), none, none, some (.int x3), some (.long (((31 : Int64) * z9) + ((b11.1).toInt64))), none, none]) dX6_digestPerson_112 rfl rfl (Nat.le_of_ble_eq_true rfl) rfl ?_
  refine mm_ldc2 (q := 117) dX6_digestPerson_114 rfl cn_X6_270 ?_
  refine mm_lload (q := 119) dX6_digestPerson_117 rfl rfl ?_
  refine mm_lmul (q := 120) dX6_digestPerson_119 rfl ?_
  refine mm_aload_n (q := 121) dX6_digestPerson_120 rfl rfl rfl ?_
  refine mm_iload_n (q := 122) dX6_digestPerson_121 rfl rfl rfl ?_
  refine mm_callVI (as := [.int x3]) (st := [.long ((31 : Int64) * (((31 : Int64) * z9) + ((b11.1).toInt64)))]) (q := 125) lc_0 rfl (fX6_live_ok x3 b11.2) ms_X6_340 rfl (Nat.le_of_ble_eq_true rfl) (Nat.le_of_ble_eq_true rfl) rfl dX6_digestPerson_122 rfl (fun b12 _ => ?_)
  refine mm_i2l (q := 126) dX6_digestPerson_125 rfl ?_
  refine mm_ladd (q := 127) dX6_digestPerson_126 rfl ?_
  refine mm_lstore (q := 129) (ls' := [some (.ref 0), none, none, some (.int x3), some (.long (((31 : Int64) * (((31 : Int64) * z9) + ((b11.1).toInt64))) + ((b12.1).toInt64))), none, none]) dX6_digestPerson_127 rfl rfl (Nat.le_of_ble_eq_true rfl) rfl ?_
  refine mm_ldc2 (q := 132) dX6_digestPerson_129 rfl cn_X6_270 ?_
  refine mm_lload (q := 134) dX6_digestPerson_132 rfl rfl ?_
  refine mm_lmul (q := 135) dX6_digestPerson_134 rfl ?_
  refine mm_aload_n (q := 136) dX6_digestPerson_135 rfl rfl rfl ?_
  refine mm_iload_n (q := 137) dX6_digestPerson_136 rfl rfl rfl ?_
  refine mm_callVI (as := [.int x3]) (st := [.long ((31 : Int64) * (((31 : Int64) * (((31 : Int64) * z9) + ((b11.1).toInt64))) + ((b12.1).toInt64)))]) (q := 140) lc_0 rfl (fX6_sort_ok x3 b12.2) ms_X6_343 rfl (Nat.le_of_ble_eq_true rfl) (Nat.le_of_ble_eq_true rfl) rfl dX6_digestPerson_137 rfl (fun b13 _ => ?_)
  refine mm_i2l (q := 141) dX6_digestPerson_140 rfl ?_
  refine mm_ladd (q := 142) dX6_digestPerson_141 rfl ?_
  exact mm_lret rfl dX6_digestPerson_142
def fX6_ring_L45 (x2 : Int32) (M : mm_M)  : Nat → Int32 → Int32 → Int32 → Option (Int32 × mm_M)
  | 0, _, _, _ => none
  | n + 1, x3, x4, x5 =>
    if (M 24 0) ≤ x5 then
      (if x3 = (-1 : Int32) then
        some (x3, M)
      else
        if x2 = (1 : Int32) then
          some (x3, M)
        else
          some (x4, M))
    else
      (fX1_stepsAround 42 x5 M).bind fun b8 =>
      fX6_ring_L45 x2 M n (if b8 = (-1 : Int32) then x3 else (if x4 ≤ b8 then x3 else x5)) (if b8 = (-1 : Int32) then x4 else (if x4 ≤ b8 then x4 else b8)) (x5 + (1 : Int32))
set_option maxRecDepth 100000 in
set_option maxHeartbeats 4000000 in
theorem fX6_ring_L45_ok (x2 : Int32) (M : mm_M)    : ∀ (n : Nat) (x3 : Int32) (x4 : Int32) (x5 : Int32), mm_C LC cX6_ring 7 RX6 (some .int) 4 mm_eI 45 [some (.ref 0), none, some (.int x2), some (.int x3), some (.int x4), some (.int x5), none] [] M (fX6_ring_L45 x2 M n x3 x4 x5) := by
  intro n
  induction n with
  | zero => intro x3 x4 x5; exact mm_none
  | succ n ih =>
    intro x3 x4 x5
    rw [fX6_ring_L45]
    refine mm_iload (q := 47) dX6_ring_45 rfl rfl ?_
    refine mm_aload_n (q := 48) dX6_ring_47 rfl rfl rfl ?_
    refine mm_getR (q := 51) (k1 := 24) dX6_ring_48 rfl lc_0 fd_X6_38 rfl ?_
    refine mm_getIN (q := 54) dX6_ring_51 rfl lc_24 fd_X6_90 rfl ?_
    refine mm_icmp_ge (q := 57) (tgt := 94) dX6_ring_54 rfl (by decide) (fun c5 => ?_) (fun c5 => ?_)
    · refine mm_iload_n (q := 95) dX6_ring_94 rfl rfl rfl ?_
      refine mm_iconst (q := 96) dX6_ring_95 rfl ic_m1 ?_
      refine mm_icmp_eq (q := 99) (tgt := 104) dX6_ring_96 rfl (by decide) (fun c6 => ?_) (fun c6 => ?_)
      · refine mm_iload_n (q := 105) dX6_ring_104 rfl rfl rfl ?_
        refine mm_goto (tgt := 110) dX6_ring_105 (by decide) ?_
        exact mm_iret rfl dX6_ring_110
      · refine mm_iload_n (q := 100) dX6_ring_99 rfl rfl rfl ?_
        refine mm_iconst (q := 101) dX6_ring_100 rfl ic_1 ?_
        refine mm_icmp_ne (q := 104) (tgt := 108) dX6_ring_101 rfl (by decide) (fun c7 => ?_) (fun c7 => ?_)
        · refine mm_iload_n (q := 105) dX6_ring_104 rfl rfl rfl ?_
          refine mm_goto (tgt := 110) dX6_ring_105 (by decide) ?_
          exact mm_iret rfl dX6_ring_110
        · refine mm_iload (q := 110) dX6_ring_108 rfl rfl ?_
          exact mm_iret rfl dX6_ring_110
    · refine mm_aload_n (q := 58) dX6_ring_57 rfl rfl rfl ?_
      refine mm_getR (q := 61) (k1 := 42) dX6_ring_58 rfl lc_0 fd_X6_45 rfl ?_
      refine mm_iload (q := 63) dX6_ring_61 rfl rfl ?_
      refine mm_callVP (as := [.int x5]) (st := []) (q := 66) lc_42 rfl (fX1_stepsAround_ok 42 x5 M isCo_42) ms_X6_174 rfl (Nat.le_of_ble_eq_true rfl) (Nat.le_of_ble_eq_true rfl) rfl dX6_ring_63 rfl (fun b8 _ => ?_)
      refine mm_istore (q := 68) (ls' := [some (.ref 0), none, some (.int x2), some (.int x3), some (.int x4), some (.int x5), some (.int b8)]) dX6_ring_66 rfl rfl (Nat.le_of_ble_eq_true rfl) rfl ?_
      refine mm_iload (q := 70) dX6_ring_68 rfl rfl ?_
      refine mm_iconst (q := 71) dX6_ring_70 rfl ic_m1 ?_
      by_cases c9 : b8 = (-1 : Int32)
      · simp only [if_pos c9]
        refine mm_icmp_eq_t (tgt := 88) c9 dX6_ring_71 (by decide) ?_
        refine mm_iinc (q := 91) (ls' := [some (.ref 0), none, some (.int x2), some (.int x3), some (.int x4), some (.int (x5 + (1 : Int32))), some (.int b8)]) dX6_ring_88 rfl rfl (ii_1 _) rfl (Nat.le_of_ble_eq_true rfl) rfl ?_
        refine mm_goto (tgt := 45) dX6_ring_91 (by decide) ?_
        refine mm_drop (ls' := [some (.ref 0), none, some (.int x2), some (.int x3), some (.int x4), some (.int (x5 + (1 : Int32))), none]) (mm_sub_at _ _ (And.intro rfl (And.intro rfl (And.intro rfl (And.intro rfl (And.intro rfl trivial)))))) ?_
        exact ih _ _ _
      · simp only [if_neg c9]
        refine mm_icmp_eq_f (q := 74) (tgt := 88) c9 dX6_ring_71 rfl (by decide) ?_
        refine mm_iload (q := 76) dX6_ring_74 rfl rfl ?_
        refine mm_iload (q := 78) dX6_ring_76 rfl rfl ?_
        by_cases c10 : x4 ≤ b8
        · simp only [if_pos c10]
          refine mm_icmp_ge_t (tgt := 88) c10 dX6_ring_78 (by decide) ?_
          refine mm_iinc (q := 91) (ls' := [some (.ref 0), none, some (.int x2), some (.int x3), some (.int x4), some (.int (x5 + (1 : Int32))), some (.int b8)]) dX6_ring_88 rfl rfl (ii_1 _) rfl (Nat.le_of_ble_eq_true rfl) rfl ?_
          refine mm_goto (tgt := 45) dX6_ring_91 (by decide) ?_
          refine mm_drop (ls' := [some (.ref 0), none, some (.int x2), some (.int x3), some (.int x4), some (.int (x5 + (1 : Int32))), none]) (mm_sub_at _ _ (And.intro rfl (And.intro rfl (And.intro rfl (And.intro rfl (And.intro rfl trivial)))))) ?_
          exact ih _ _ _
        · simp only [if_neg c10]
          refine mm_icmp_ge_f (q := 81) (tgt := 88) c10 dX6_ring_78 rfl (by decide) ?_
          refine mm_iload (q := 83) dX6_ring_81 rfl rfl ?_
          refine mm_istore (q := 85) (ls' := [some (.ref 0), none, some (.int x2), some (.int x3), some (.int b8), some (.int x5), some (.int b8)]) dX6_ring_83 rfl rfl (Nat.le_of_ble_eq_true rfl) rfl ?_
          refine mm_iload (q := 87) dX6_ring_85 rfl rfl ?_
          refine mm_istore_n (q := 88) (ls' := [some (.ref 0), none, some (.int x2), some (.int x5), some (.int b8), some (.int x5), some (.int b8)]) dX6_ring_87 rfl rfl rfl (Nat.le_of_ble_eq_true rfl) rfl ?_
          refine mm_iinc (q := 91) (ls' := [some (.ref 0), none, some (.int x2), some (.int x5), some (.int b8), some (.int (x5 + (1 : Int32))), some (.int b8)]) dX6_ring_88 rfl rfl (ii_1 _) rfl (Nat.le_of_ble_eq_true rfl) rfl ?_
          refine mm_goto (tgt := 45) dX6_ring_91 (by decide) ?_
          refine mm_drop (ls' := [some (.ref 0), none, some (.int x2), some (.int x5), some (.int b8), some (.int (x5 + (1 : Int32))), none]) (mm_sub_at _ _ (And.intro rfl (And.intro rfl (And.intro rfl (And.intro rfl (And.intro rfl trivial)))))) ?_
          exact ih _ _ _
def fX6_ring (x1 : Int32) (x2 : Int32) (M : mm_M) : Option (Int32 × mm_M) :=
  if (fX6_isOutside x1 (24 : Int32)) = 0 then
    (if (fX6_isOutside x2 (2 : Int32)) = 0 then
      ((fX6_learnCourse M).bind fun M3 =>
      (fX1_followDebts 42 24 x1 M3).bind fun M4 =>
      fX6_ring_L45 x2 M4 1000 (-1 : Int32) (9 : Int32) (0 : Int32))
    else
      some ((-2 : Int32), M))
  else
    some ((-2 : Int32), M)
set_option maxRecDepth 100000 in
set_option maxHeartbeats 4000000 in
theorem fX6_ring_ok (x1 : Int32) (x2 : Int32) (M : mm_M)  : mm_E LC yX6_ring cX6_ring 7 (some .int) 4 mm_eI [.ref 0, .int x1, .int x2] M (fX6_ring x1 x2 M) := by
  refine mm_E.of (own := RX6) (ls := [some (.ref 0), some (.int x1), some (.int x2), none, none, none, none]) (by decide) rfl rfl (Nat.le_of_ble_eq_true rfl) ?_
  unfold fX6_ring
  refine mm_iload_n (q := 1) dX6_ring_0 rfl rfl rfl ?_
  refine mm_bipush (q := 3) dX6_ring_1 rfl bp_24 ?_
  refine mm_callST (as := [.int x1, .int (24 : Int32)]) (st := []) (q := 6) (fX6_isOutside_ok x1 (24 : Int32) M) ms_X6_66 rfl (Nat.le_of_ble_eq_true rfl) (Nat.le_of_ble_eq_true rfl) rfl dX6_ring_3 rfl ?_
  refine mm_if_ne (q := 9) (tgt := 17) dX6_ring_6 rfl (by decide) (fun c1 => ?_) (fun c1 => ?_)
  · refine mm_iload_n (q := 10) dX6_ring_9 rfl rfl rfl ?_
    refine mm_iconst (q := 11) dX6_ring_10 rfl ic_2 ?_
    refine mm_callST (as := [.int x2, .int (2 : Int32)]) (st := []) (q := 14) (fX6_isOutside_ok x2 (2 : Int32) M) ms_X6_66 rfl (Nat.le_of_ble_eq_true rfl) (Nat.le_of_ble_eq_true rfl) rfl dX6_ring_11 rfl ?_
    refine mm_if_eq (q := 17) (tgt := 20) dX6_ring_14 rfl (by decide) (fun c2 => ?_) (fun c2 => ?_)
    · refine mm_aload_n (q := 21) dX6_ring_20 rfl rfl rfl ?_
      refine mm_callVV (as := []) (st := []) (q := 24) lc_0 rfl (fX6_learnCourse_ok M) ms_X6_149 rfl (Nat.le_of_ble_eq_true rfl) (Nat.le_of_ble_eq_true rfl) rfl dX6_ring_21 rfl (fun M3 _ => ?_)
      refine mm_aload_n (q := 25) dX6_ring_24 rfl rfl rfl ?_
      refine mm_getR (q := 28) (k1 := 42) dX6_ring_25 rfl lc_0 fd_X6_45 rfl ?_
      refine mm_aload_n (q := 29) dX6_ring_28 rfl rfl rfl ?_
      refine mm_getR (q := 32) (k1 := 24) dX6_ring_29 rfl lc_0 fd_X6_38 rfl ?_
      refine mm_iload_n (q := 33) dX6_ring_32 rfl rfl rfl ?_
      refine mm_callVV (as := [.ref 24, .int x1]) (st := []) (q := 36) lc_42 rfl (fX1_followDebts_ok 42 24 x1 M3 isCo_42 isTo_24) ms_X6_170 rfl (Nat.le_of_ble_eq_true rfl) (Nat.le_of_ble_eq_true rfl) rfl dX6_ring_33 rfl (fun M4 _ => ?_)
      refine mm_iconst (q := 37) dX6_ring_36 rfl ic_m1 ?_
      refine mm_istore_n (q := 38) (ls' := [some (.ref 0), some (.int x1), some (.int x2), some (.int (-1 : Int32)), none, none, none]) dX6_ring_37 rfl rfl rfl (Nat.le_of_ble_eq_true rfl) rfl ?_
      refine mm_bipush (q := 40) dX6_ring_38 rfl bp_9 ?_
      refine mm_istore (q := 42) (ls' := [some (.ref 0), some (.int x1), some (.int x2), some (.int (-1 : Int32)), some (.int (9 : Int32)), none, none]) dX6_ring_40 rfl rfl (Nat.le_of_ble_eq_true rfl) rfl ?_
      refine mm_iconst (q := 43) dX6_ring_42 rfl ic_0 ?_
      refine mm_istore (q := 45) (ls' := [some (.ref 0), some (.int x1), some (.int x2), some (.int (-1 : Int32)), some (.int (9 : Int32)), some (.int (0 : Int32)), none]) dX6_ring_43 rfl rfl (Nat.le_of_ble_eq_true rfl) rfl ?_
      refine mm_drop (ls' := [some (.ref 0), none, some (.int x2), some (.int (-1 : Int32)), some (.int (9 : Int32)), some (.int (0 : Int32)), none]) (mm_sub_at _ _ (And.intro rfl (And.intro rfl (And.intro rfl (And.intro rfl (And.intro rfl trivial)))))) ?_
      exact fX6_ring_L45_ok x2 M4 _ _ _ _
    · refine mm_bipush (q := 19) dX6_ring_17 rfl bp_m2 ?_
      exact mm_iret rfl dX6_ring_19
  · refine mm_bipush (q := 19) dX6_ring_17 rfl bp_m2 ?_
    exact mm_iret rfl dX6_ring_19
def fX6_silent_L8 (M : mm_M)  : Nat → Int32 → Int32 → Option (Int32 × mm_M)
  | 0, _, _ => none
  | n + 1, x1, x2 =>
    if (M 24 0) ≤ x2 then
      some (x1, M)
    else
      (fX1_saidBehind 42 (23 : Int32) x2 M).bind fun b3 =>
      fX6_silent_L8 M n (if b3 = 0 then x1 ||| ((1 : Int32) <<< (x2 &&& 31)) else x1) (x2 + (1 : Int32))
set_option maxRecDepth 100000 in
set_option maxHeartbeats 4000000 in
theorem fX6_silent_L8_ok (M : mm_M)    : ∀ (n : Nat) (x1 : Int32) (x2 : Int32), mm_C LC cX6_silent 3 RX6 (some .int) 4 mm_eI 8 [some (.ref 0), some (.int x1), some (.int x2)] [] M (fX6_silent_L8 M n x1 x2) := by
  intro n
  induction n with
  | zero => intro x1 x2; exact mm_none
  | succ n ih =>
    intro x1 x2
    rw [fX6_silent_L8]
    refine mm_iload_n (q := 9) dX6_silent_8 rfl rfl rfl ?_
    refine mm_aload_n (q := 10) dX6_silent_9 rfl rfl rfl ?_
    refine mm_getR (q := 13) (k1 := 24) dX6_silent_10 rfl lc_0 fd_X6_38 rfl ?_
    refine mm_getIN (q := 16) dX6_silent_13 rfl lc_24 fd_X6_90 rfl ?_
    refine mm_icmp_ge (q := 19) (tgt := 44) dX6_silent_16 rfl (by decide) (fun c2 => ?_) (fun c2 => ?_)
    · refine mm_iload_n (q := 45) dX6_silent_44 rfl rfl rfl ?_
      exact mm_iret rfl dX6_silent_45
    · refine mm_aload_n (q := 20) dX6_silent_19 rfl rfl rfl ?_
      refine mm_getR (q := 23) (k1 := 42) dX6_silent_20 rfl lc_0 fd_X6_45 rfl ?_
      refine mm_bipush (q := 25) dX6_silent_23 rfl bp_23 ?_
      refine mm_iload_n (q := 26) dX6_silent_25 rfl rfl rfl ?_
      refine mm_callVP (as := [.int (23 : Int32), .int x2]) (st := []) (q := 29) lc_42 rfl (fX1_saidBehind_ok 42 (23 : Int32) x2 M isCo_42) ms_X6_163 rfl (Nat.le_of_ble_eq_true rfl) (Nat.le_of_ble_eq_true rfl) rfl dX6_silent_26 rfl (fun b3 _ => ?_)
      by_cases c4 : b3 = 0
      · simp only [if_pos c4]
        refine mm_if_ne_t (q := 32) (tgt := 38) c4 dX6_silent_29 rfl (by decide) ?_
        refine mm_iload_n (q := 33) dX6_silent_32 rfl rfl rfl ?_
        refine mm_iconst (q := 34) dX6_silent_33 rfl ic_1 ?_
        refine mm_iload_n (q := 35) dX6_silent_34 rfl rfl rfl ?_
        refine mm_ishl (q := 36) dX6_silent_35 rfl ?_
        refine mm_ior (q := 37) dX6_silent_36 rfl ?_
        refine mm_istore_n (q := 38) (ls' := [some (.ref 0), some (.int (x1 ||| ((1 : Int32) <<< (x2 &&& 31)))), some (.int x2)]) dX6_silent_37 rfl rfl rfl (Nat.le_of_ble_eq_true rfl) rfl ?_
        refine mm_iinc (q := 41) (ls' := [some (.ref 0), some (.int (x1 ||| ((1 : Int32) <<< (x2 &&& 31)))), some (.int (x2 + (1 : Int32)))]) dX6_silent_38 rfl rfl (ii_1 _) rfl (Nat.le_of_ble_eq_true rfl) rfl ?_
        refine mm_goto (tgt := 8) dX6_silent_41 (by decide) ?_
        exact ih _ _
      · simp only [if_neg c4]
        refine mm_if_ne_f (tgt := 38) c4 dX6_silent_29 (by decide) ?_
        refine mm_iinc (q := 41) (ls' := [some (.ref 0), some (.int x1), some (.int (x2 + (1 : Int32)))]) dX6_silent_38 rfl rfl (ii_1 _) rfl (Nat.le_of_ble_eq_true rfl) rfl ?_
        refine mm_goto (tgt := 8) dX6_silent_41 (by decide) ?_
        exact ih _ _
def fX6_silent  (M : mm_M) : Option (Int32 × mm_M) :=
  (fX6_learnCourse M).bind fun M1 =>
  fX6_silent_L8 M1 1000 (0 : Int32) (0 : Int32)
set_option maxRecDepth 100000 in
set_option maxHeartbeats 4000000 in
theorem fX6_silent_ok  (M : mm_M)  : mm_E LC yX6_silent cX6_silent 3 (some .int) 4 mm_eI [.ref 0] M (fX6_silent M) := by
  refine mm_E.of (own := RX6) (ls := [some (.ref 0), none, none]) (by decide) rfl rfl (Nat.le_of_ble_eq_true rfl) ?_
  unfold fX6_silent
  refine mm_aload_n (q := 1) dX6_silent_0 rfl rfl rfl ?_
  refine mm_callVV (as := []) (st := []) (q := 4) lc_0 rfl (fX6_learnCourse_ok M) ms_X6_149 rfl (Nat.le_of_ble_eq_true rfl) (Nat.le_of_ble_eq_true rfl) rfl dX6_silent_1 rfl (fun M1 _ => ?_)
  refine mm_iconst (q := 5) dX6_silent_4 rfl ic_0 ?_
  refine mm_istore_n (q := 6) (ls' := [some (.ref 0), some (.int (0 : Int32)), none]) dX6_silent_5 rfl rfl rfl (Nat.le_of_ble_eq_true rfl) rfl ?_
  refine mm_iconst (q := 7) dX6_silent_6 rfl ic_0 ?_
  refine mm_istore_n (q := 8) (ls' := [some (.ref 0), some (.int (0 : Int32)), some (.int (0 : Int32))]) dX6_silent_7 rfl rfl rfl (Nat.le_of_ble_eq_true rfl) rfl ?_
  exact fX6_silent_L8_ok M1 _ _ _
def fX6_meet_L60 (x1 : Int32) (x2 : Int32) (x6 : Int32) (k159 : Int32 → Int32 → Int32 → mm_M → Option (Int32 × mm_M)) : Nat → Int32 → Int32 → Int32 → Int32 → mm_M → Option (Int32 × mm_M)
  | 0, _, _, _, _, _ => none
  | n + 1, x3, x4, x5, x7, M =>
    if (M 33 0) ≤ x7 then
      k159 x3 x4 x5 M
    else
      (mm_pf M 33 7 (M 24 7)).bind fun M8 =>
      (fX5_addMeeting 33 x1 x6 x7 M8).bind fun M9 =>
      (fX1_run 55 33 (fX2_all M9) M9).bind fun M10 =>
      (fX1_openOrLostUses 55 M10).bind fun b11 =>
      fX6_meet_L60 x1 x2 x6 k159 n (if x5 = (-1 : Int32) then x6 else (if x5 ≤ b11 then x3 else x6)) (if x5 = (-1 : Int32) then x7 else (if x5 ≤ b11 then x4 else x7)) (if x5 = (-1 : Int32) then b11 else (if x5 ≤ b11 then x5 else b11)) (x7 + (1 : Int32)) M10
set_option maxRecDepth 100000 in
set_option maxHeartbeats 4000000 in
theorem fX6_meet_L60_ok (x1 : Int32) (x2 : Int32) (x6 : Int32)  (k159 : Int32 → Int32 → Int32 → mm_M → Option (Int32 × mm_M)) (hk159 : ∀ (x3 : Int32) (x4 : Int32) (x5 : Int32) (M : mm_M), mm_C LC cX6_meet 9 RX6 (some .int) 3 mm_eI 159 [some (.ref 0), some (.int x1), some (.int x2), some (.int x3), some (.int x4), some (.int x5), some (.int x6), none, none] [] M (k159 x3 x4 x5 M)) : ∀ (n : Nat) (x3 : Int32) (x4 : Int32) (x5 : Int32) (x7 : Int32) (M : mm_M), mm_C LC cX6_meet 9 RX6 (some .int) 3 mm_eI 60 [some (.ref 0), some (.int x1), some (.int x2), some (.int x3), some (.int x4), some (.int x5), some (.int x6), some (.int x7), none] [] M (fX6_meet_L60 x1 x2 x6 k159 n x3 x4 x5 x7 M) := by
  intro n
  induction n with
  | zero => intro x3 x4 x5 x7 M; exact mm_none
  | succ n ih =>
    intro x3 x4 x5 x7 M
    rw [fX6_meet_L60]
    refine mm_iload (q := 62) dX6_meet_60 rfl rfl ?_
    refine mm_aload_n (q := 63) dX6_meet_62 rfl rfl rfl ?_
    refine mm_getR (q := 66) (k1 := 33) dX6_meet_63 rfl lc_0 fd_X6_49 rfl ?_
    refine mm_getIN (q := 69) dX6_meet_66 rfl lc_33 fd_X6_90 rfl ?_
    refine mm_icmp_ge (q := 72) (tgt := 159) dX6_meet_69 rfl (by decide) (fun c7 => ?_) (fun c7 => ?_)
    · refine mm_drop (ls' := [some (.ref 0), some (.int x1), some (.int x2), some (.int x3), some (.int x4), some (.int x5), some (.int x6), none, none]) (mm_sub_at _ _ (And.intro rfl (And.intro rfl (And.intro rfl (And.intro rfl (And.intro rfl (And.intro rfl (And.intro rfl trivial)))))))) ?_
      exact hk159 _ _ _ _
    · refine mm_aload_n (q := 73) dX6_meet_72 rfl rfl rfl ?_
      refine mm_getR (q := 76) (k1 := 33) dX6_meet_73 rfl lc_0 fd_X6_49 rfl ?_
      refine mm_aload_n (q := 77) dX6_meet_76 rfl rfl rfl ?_
      refine mm_getR (q := 80) (k1 := 24) dX6_meet_77 rfl lc_0 fd_X6_38 rfl ?_
      refine mm_getIN (q := 83) dX6_meet_80 rfl lc_24 fd_X6_112 rfl ?_
      refine mm_putN (q := 86) dX6_meet_83 rfl lc_33 fd_X6_112 ps_X5_7 rfl rfl rfl (fun M8 _ => ?_)
      refine mm_aload_n (q := 87) dX6_meet_86 rfl rfl rfl ?_
      refine mm_getR (q := 90) (k1 := 33) dX6_meet_87 rfl lc_0 fd_X6_49 rfl ?_
      refine mm_iload_n (q := 91) dX6_meet_90 rfl rfl rfl ?_
      refine mm_iload (q := 93) dX6_meet_91 rfl rfl ?_
      refine mm_iload (q := 95) dX6_meet_93 rfl rfl ?_
      refine mm_callVV (as := [.int x1, .int x6, .int x7]) (st := []) (q := 98) lc_33 rfl (fX5_addMeeting_ok 33 x1 x6 x7 M8 isTo_33) ms_X6_181 rfl (Nat.le_of_ble_eq_true rfl) (Nat.le_of_ble_eq_true rfl) rfl dX6_meet_95 rfl (fun M9 _ => ?_)
      refine mm_aload_n (q := 99) dX6_meet_98 rfl rfl rfl ?_
      refine mm_getR (q := 102) (k1 := 55) dX6_meet_99 rfl lc_0 fd_X6_52 rfl ?_
      refine mm_aload_n (q := 103) dX6_meet_102 rfl rfl rfl ?_
      refine mm_getR (q := 106) (k1 := 33) dX6_meet_103 rfl lc_0 fd_X6_49 rfl ?_
      refine mm_aload_n (q := 107) dX6_meet_106 rfl rfl rfl ?_
      refine mm_getR (q := 110) (k1 := 17) dX6_meet_107 rfl lc_0 fd_X6_18 rfl ?_
      refine mm_aload_n (q := 111) dX6_meet_110 rfl rfl rfl ?_
      refine mm_getR (q := 114) (k1 := 17) dX6_meet_111 rfl lc_0 fd_X6_18 rfl ?_
      refine mm_callVT (as := []) (st := [.ref 17, .ref 33, .ref 55]) (q := 117) lc_17 rfl (fX2_all_ok M9) ms_X6_185 rfl (Nat.le_of_ble_eq_true rfl) (Nat.le_of_ble_eq_true rfl) rfl dX6_meet_114 rfl ?_
      refine mm_callVV (as := [.ref 33, .ref 17, .int (fX2_all M9)]) (st := []) (q := 120) lc_55 rfl (fX1_run_ok 55 33 (fX2_all M9) M9 isCo_55 isTo_33) ms_X6_188 rfl (Nat.le_of_ble_eq_true rfl) (Nat.le_of_ble_eq_true rfl) rfl dX6_meet_117 rfl (fun M10 _ => ?_)
      refine mm_aload_n (q := 121) dX6_meet_120 rfl rfl rfl ?_
      refine mm_getR (q := 124) (k1 := 55) dX6_meet_121 rfl lc_0 fd_X6_52 rfl ?_
      refine mm_callVP (as := []) (st := []) (q := 127) lc_55 rfl (fX1_openOrLostUses_ok 55 M10 isCo_55) ms_X6_192 rfl (Nat.le_of_ble_eq_true rfl) (Nat.le_of_ble_eq_true rfl) rfl dX6_meet_124 rfl (fun b11 _ => ?_)
      refine mm_istore (q := 129) (ls' := [some (.ref 0), some (.int x1), some (.int x2), some (.int x3), some (.int x4), some (.int x5), some (.int x6), some (.int x7), some (.int b11)]) dX6_meet_127 rfl rfl (Nat.le_of_ble_eq_true rfl) rfl ?_
      refine mm_iload (q := 131) dX6_meet_129 rfl rfl ?_
      refine mm_iconst (q := 132) dX6_meet_131 rfl ic_m1 ?_
      by_cases c12 : x5 = (-1 : Int32)
      · simp only [if_pos c12]
        refine mm_icmp_eq_t (tgt := 142) c12 dX6_meet_132 (by decide) ?_
        refine mm_iload (q := 144) dX6_meet_142 rfl rfl ?_
        refine mm_istore (q := 146) (ls' := [some (.ref 0), some (.int x1), some (.int x2), some (.int x3), some (.int x4), some (.int b11), some (.int x6), some (.int x7), some (.int b11)]) dX6_meet_144 rfl rfl (Nat.le_of_ble_eq_true rfl) rfl ?_
        refine mm_iload (q := 148) dX6_meet_146 rfl rfl ?_
        refine mm_istore_n (q := 149) (ls' := [some (.ref 0), some (.int x1), some (.int x2), some (.int x6), some (.int x4), some (.int b11), some (.int x6), some (.int x7), some (.int b11)]) dX6_meet_148 rfl rfl rfl (Nat.le_of_ble_eq_true rfl) rfl ?_
        refine mm_iload (q := 151) dX6_meet_149 rfl rfl ?_
        refine mm_istore (q := 153) (ls' := [some (.ref 0), some (.int x1), some (.int x2), some (.int x6), some (.int x7), some (.int b11), some (.int x6), some (.int x7), some (.int b11)]) dX6_meet_151 rfl rfl (Nat.le_of_ble_eq_true rfl) rfl ?_
        refine mm_iinc (q := 156) (ls' := [some (.ref 0), some (.int x1), some (.int x2), some (.int x6), some (.int x7), some (.int b11), some (.int x6), some (.int (x7 + (1 : Int32))), some (.int b11)]) dX6_meet_153 rfl rfl (ii_1 _) rfl (Nat.le_of_ble_eq_true rfl) rfl ?_
        refine mm_goto (tgt := 60) dX6_meet_156 (by decide) ?_
        refine mm_drop (ls' := [some (.ref 0), some (.int x1), some (.int x2), some (.int x6), some (.int x7), some (.int b11), some (.int x6), some (.int (x7 + (1 : Int32))), none]) (mm_sub_at _ _ (And.intro rfl (And.intro rfl (And.intro rfl (And.intro rfl (And.intro rfl (And.intro rfl (And.intro rfl (And.intro rfl trivial))))))))) ?_
        exact ih _ _ _ _ _
      · simp only [if_neg c12]
        refine mm_icmp_eq_f (q := 135) (tgt := 142) c12 dX6_meet_132 rfl (by decide) ?_
        refine mm_iload (q := 137) dX6_meet_135 rfl rfl ?_
        refine mm_iload (q := 139) dX6_meet_137 rfl rfl ?_
        by_cases c13 : x5 ≤ b11
        · simp only [if_pos c13]
          refine mm_icmp_ge_t (tgt := 153) c13 dX6_meet_139 (by decide) ?_
          refine mm_iinc (q := 156) (ls' := [some (.ref 0), some (.int x1), some (.int x2), some (.int x3), some (.int x4), some (.int x5), some (.int x6), some (.int (x7 + (1 : Int32))), some (.int b11)]) dX6_meet_153 rfl rfl (ii_1 _) rfl (Nat.le_of_ble_eq_true rfl) rfl ?_
          refine mm_goto (tgt := 60) dX6_meet_156 (by decide) ?_
          refine mm_drop (ls' := [some (.ref 0), some (.int x1), some (.int x2), some (.int x3), some (.int x4), some (.int x5), some (.int x6), some (.int (x7 + (1 : Int32))), none]) (mm_sub_at _ _ (And.intro rfl (And.intro rfl (And.intro rfl (And.intro rfl (And.intro rfl (And.intro rfl (And.intro rfl (And.intro rfl trivial))))))))) ?_
          exact ih _ _ _ _ _
        · simp only [if_neg c13]
          refine mm_icmp_ge_f (q := 142) (tgt := 153) c13 dX6_meet_139 rfl (by decide) ?_
          refine mm_iload (q := 144) dX6_meet_142 rfl rfl ?_
          refine mm_istore (q := 146) (ls' := [some (.ref 0), some (.int x1), some (.int x2), some (.int x3), some (.int x4), some (.int b11), some (.int x6), some (.int x7), some (.int b11)]) dX6_meet_144 rfl rfl (Nat.le_of_ble_eq_true rfl) rfl ?_
          refine mm_iload (q := 148) dX6_meet_146 rfl rfl ?_
          refine mm_istore_n (q := 149) (ls' := [some (.ref 0), some (.int x1), some (.int x2), some (.int x6), some (.int x4), some (.int b11), some (.int x6), some (.int x7), some (.int b11)]) dX6_meet_148 rfl rfl rfl (Nat.le_of_ble_eq_true rfl) rfl ?_
          refine mm_iload (q := 151) dX6_meet_149 rfl rfl ?_
          refine mm_istore (q := 153) (ls' := [some (.ref 0), some (.int x1), some (.int x2), some (.int x6), some (.int x7), some (.int b11), some (.int x6), some (.int x7), some (.int b11)]) dX6_meet_151 rfl rfl (Nat.le_of_ble_eq_true rfl) rfl ?_
          refine mm_iinc (q := 156) (ls' := [some (.ref 0), some (.int x1), some (.int x2), some (.int x6), some (.int x7), some (.int b11), some (.int x6), some (.int (x7 + (1 : Int32))), some (.int b11)]) dX6_meet_153 rfl rfl (ii_1 _) rfl (Nat.le_of_ble_eq_true rfl) rfl ?_
          refine mm_goto (tgt := 60) dX6_meet_156 (by decide) ?_
          refine mm_drop (ls' := [some (.ref 0), some (.int x1), some (.int x2), some (.int x6), some (.int x7), some (.int b11), some (.int x6), some (.int (x7 + (1 : Int32))), none]) (mm_sub_at _ _ (And.intro rfl (And.intro rfl (And.intro rfl (And.intro rfl (And.intro rfl (And.intro rfl (And.intro rfl (And.intro rfl trivial))))))))) ?_
          exact ih _ _ _ _ _
def fX6_meet_L42 (x1 : Int32) (x2 : Int32)  : Nat → Int32 → Int32 → Int32 → Int32 → mm_M → Option (Int32 × mm_M)
  | 0, _, _, _, _, _ => none
  | n + 1, x3, x4, x5, x6, M =>
    if (M 33 0) ≤ x6 then
      (if x2 = 0 then
        some (x3, M)
      else
        if x2 = (1 : Int32) then
          some (x4, M)
        else
          some (x5, M))
    else
      fX6_meet_L60 x1 x2 x6 (fun z14 z15 z16 M17 =>
      fX6_meet_L42 x1 x2 n z14 z15 z16 (x6 + (1 : Int32)) M17) 1000 x3 x4 x5 (x6 + (1 : Int32)) M
set_option maxRecDepth 100000 in
set_option maxHeartbeats 4000000 in
theorem fX6_meet_L42_ok (x1 : Int32) (x2 : Int32)    : ∀ (n : Nat) (x3 : Int32) (x4 : Int32) (x5 : Int32) (x6 : Int32) (M : mm_M), mm_C LC cX6_meet 9 RX6 (some .int) 3 mm_eI 42 [some (.ref 0), some (.int x1), some (.int x2), some (.int x3), some (.int x4), some (.int x5), some (.int x6), none, none] [] M (fX6_meet_L42 x1 x2 n x3 x4 x5 x6 M) := by
  intro n
  induction n with
  | zero => intro x3 x4 x5 x6 M; exact mm_none
  | succ n ih =>
    intro x3 x4 x5 x6 M
    rw [fX6_meet_L42]
    refine mm_iload (q := 44) dX6_meet_42 rfl rfl ?_
    refine mm_aload_n (q := 45) dX6_meet_44 rfl rfl rfl ?_
    refine mm_getR (q := 48) (k1 := 33) dX6_meet_45 rfl lc_0 fd_X6_49 rfl ?_
    refine mm_getIN (q := 51) dX6_meet_48 rfl lc_33 fd_X6_90 rfl ?_
    refine mm_icmp_ge (q := 54) (tgt := 165) dX6_meet_51 rfl (by decide) (fun c4 => ?_) (fun c4 => ?_)
    · refine mm_iload_n (q := 166) dX6_meet_165 rfl rfl rfl ?_
      refine mm_if_ne (q := 169) (tgt := 171) dX6_meet_166 rfl (by decide) (fun c5 => ?_) (fun c5 => ?_)
      · refine mm_iload_n (q := 170) dX6_meet_169 rfl rfl rfl ?_
        exact mm_iret rfl dX6_meet_170
      · refine mm_iload_n (q := 172) dX6_meet_171 rfl rfl rfl ?_
        refine mm_iconst (q := 173) dX6_meet_172 rfl ic_1 ?_
        refine mm_icmp_ne (q := 176) (tgt := 181) dX6_meet_173 rfl (by decide) (fun c6 => ?_) (fun c6 => ?_)
        · refine mm_iload (q := 178) dX6_meet_176 rfl rfl ?_
          refine mm_goto (tgt := 183) dX6_meet_178 (by decide) ?_
          exact mm_iret rfl dX6_meet_183
        · refine mm_iload (q := 183) dX6_meet_181 rfl rfl ?_
          exact mm_iret rfl dX6_meet_183
    · refine mm_iload (q := 56) dX6_meet_54 rfl rfl ?_
      refine mm_iconst (q := 57) dX6_meet_56 rfl ic_1 ?_
      refine mm_iadd (q := 58) dX6_meet_57 rfl ?_
      refine mm_istore (q := 60) (ls' := [some (.ref 0), some (.int x1), some (.int x2), some (.int x3), some (.int x4), some (.int x5), some (.int x6), some (.int (x6 + (1 : Int32))), none]) dX6_meet_58 rfl rfl (Nat.le_of_ble_eq_true rfl) rfl ?_
      refine fX6_meet_L60_ok x1 x2 x6 _ (fun z14 z15 z16 M17 => ?_) _ _ _ _ _ _
      refine mm_iinc (q := 162) (ls' := [some (.ref 0), some (.int x1), some (.int x2), some (.int z14), some (.int z15), some (.int z16), some (.int (x6 + (1 : Int32))), none, none]) dX6_meet_159 rfl rfl (ii_1 _) rfl (Nat.le_of_ble_eq_true rfl) rfl ?_
      refine mm_goto (tgt := 42) dX6_meet_162 (by decide) ?_
      exact ih _ _ _ _ _
def fX6_meet (x1 : Int32) (x2 : Int32) (M : mm_M) : Option (Int32 × mm_M) :=
  if (fX6_isOutside x1 (24 : Int32)) = 0 then
    (if (fX6_isOutside x2 (3 : Int32)) = 0 then
      ((fX5_becomeLike 33 24 M).bind fun M3 =>
      fX6_meet_L42 x1 x2 1000 (-1 : Int32) (-1 : Int32) (-1 : Int32) (0 : Int32) M3)
    else
      some ((-2 : Int32), M))
  else
    some ((-2 : Int32), M)
set_option maxRecDepth 100000 in
set_option maxHeartbeats 4000000 in
theorem fX6_meet_ok (x1 : Int32) (x2 : Int32) (M : mm_M)  : mm_E LC yX6_meet cX6_meet 9 (some .int) 3 mm_eI [.ref 0, .int x1, .int x2] M (fX6_meet x1 x2 M) := by
  refine mm_E.of (own := RX6) (ls := [some (.ref 0), some (.int x1), some (.int x2), none, none, none, none, none, none]) (by decide) rfl rfl (Nat.le_of_ble_eq_true rfl) ?_
  unfold fX6_meet
  refine mm_iload_n (q := 1) dX6_meet_0 rfl rfl rfl ?_
  refine mm_bipush (q := 3) dX6_meet_1 rfl bp_24 ?_
  refine mm_callST (as := [.int x1, .int (24 : Int32)]) (st := []) (q := 6) (fX6_isOutside_ok x1 (24 : Int32) M) ms_X6_66 rfl (Nat.le_of_ble_eq_true rfl) (Nat.le_of_ble_eq_true rfl) rfl dX6_meet_3 rfl ?_
  refine mm_if_ne (q := 9) (tgt := 17) dX6_meet_6 rfl (by decide) (fun c1 => ?_) (fun c1 => ?_)
  · refine mm_iload_n (q := 10) dX6_meet_9 rfl rfl rfl ?_
    refine mm_iconst (q := 11) dX6_meet_10 rfl ic_3 ?_
    refine mm_callST (as := [.int x2, .int (3 : Int32)]) (st := []) (q := 14) (fX6_isOutside_ok x2 (3 : Int32) M) ms_X6_66 rfl (Nat.le_of_ble_eq_true rfl) (Nat.le_of_ble_eq_true rfl) rfl dX6_meet_11 rfl ?_
    refine mm_if_eq (q := 17) (tgt := 20) dX6_meet_14 rfl (by decide) (fun c2 => ?_) (fun c2 => ?_)
    · refine mm_aload_n (q := 21) dX6_meet_20 rfl rfl rfl ?_
      refine mm_getR (q := 24) (k1 := 33) dX6_meet_21 rfl lc_0 fd_X6_49 rfl ?_
      refine mm_aload_n (q := 25) dX6_meet_24 rfl rfl rfl ?_
      refine mm_getR (q := 28) (k1 := 24) dX6_meet_25 rfl lc_0 fd_X6_38 rfl ?_
      refine mm_callVV (as := [.ref 24]) (st := []) (q := 31) lc_33 rfl (fX5_becomeLike_ok 33 24 M isTo_33 isTo_24) ms_X6_177 rfl (Nat.le_of_ble_eq_true rfl) (Nat.le_of_ble_eq_true rfl) rfl dX6_meet_28 rfl (fun M3 _ => ?_)
      refine mm_iconst (q := 32) dX6_meet_31 rfl ic_m1 ?_
      refine mm_istore_n (q := 33) (ls' := [some (.ref 0), some (.int x1), some (.int x2), some (.int (-1 : Int32)), none, none, none, none, none]) dX6_meet_32 rfl rfl rfl (Nat.le_of_ble_eq_true rfl) rfl ?_
      refine mm_iconst (q := 34) dX6_meet_33 rfl ic_m1 ?_
      refine mm_istore (q := 36) (ls' := [some (.ref 0), some (.int x1), some (.int x2), some (.int (-1 : Int32)), some (.int (-1 : Int32)), none, none, none, none]) dX6_meet_34 rfl rfl (Nat.le_of_ble_eq_true rfl) rfl ?_
      refine mm_iconst (q := 37) dX6_meet_36 rfl ic_m1 ?_
      refine mm_istore (q := 39) (ls' := [some (.ref 0), some (.int x1), some (.int x2), some (.int (-1 : Int32)), some (.int (-1 : Int32)), some (.int (-1 : Int32)), none, none, none]) dX6_meet_37 rfl rfl (Nat.le_of_ble_eq_true rfl) rfl ?_
      refine mm_iconst (q := 40) dX6_meet_39 rfl ic_0 ?_
      refine mm_istore (q := 42) (ls' := [some (.ref 0), some (.int x1), some (.int x2), some (.int (-1 : Int32)), some (.int (-1 : Int32)), some (.int (-1 : Int32)), some (.int (0 : Int32)), none, none]) dX6_meet_40 rfl rfl (Nat.le_of_ble_eq_true rfl) rfl ?_
      exact fX6_meet_L42_ok x1 x2 _ _ _ _ _ _
    · refine mm_bipush (q := 19) dX6_meet_17 rfl bp_m2 ?_
      exact mm_iret rfl dX6_meet_19
  · refine mm_bipush (q := 19) dX6_meet_17 rfl bp_m2 ?_
    exact mm_iret rfl dX6_meet_19
def fX6_voice_J96 (x1 : Int32) (x2 : Int32) (x3 : Int32) (x4 : Int32) (kr : Int32 → Int32 → Int32 → mm_M → Option (Int32 × mm_M)) (M : mm_M) : Option (Int32 × mm_M) :=
  (mm_rd M 25 8 x4).bind fun b9 =>
  (mm_wa M 34 8 x4 b9).bind fun M10 =>
  kr x2 x3 (x4 + (1 : Int32)) M10
set_option maxRecDepth 100000 in
set_option maxHeartbeats 4000000 in
theorem fX6_voice_J96_ok (x1 : Int32) (x2 : Int32) (x3 : Int32) (x4 : Int32)  (M : mm_M)  (kr : Int32 → Int32 → Int32 → mm_M → Option (Int32 × mm_M)) (hkr : ∀ (x2 : Int32) (x3 : Int32) (x4 : Int32) (M : mm_M), mm_C LC cX6_voice 6 RX6 (some .int) 3 mm_eI 29 [some (.ref 0), some (.int x1), some (.int x2), some (.int x3), some (.int x4), none] [] M (kr x2 x3 x4 M)) : mm_C LC cX6_voice 6 RX6 (some .int) 3 mm_eI 96 [some (.ref 0), some (.int x1), some (.int x2), some (.int x3), some (.int x4), none] [] M (fX6_voice_J96 x1 x2 x3 x4 kr M) := by
  unfold fX6_voice_J96
  refine mm_aload_n (q := 97) dX6_voice_96 rfl rfl rfl ?_
  refine mm_getR (q := 100) (k1 := 33) dX6_voice_97 rfl lc_0 fd_X6_49 rfl ?_
  refine mm_getRN (q := 103) (k1 := 34) dX6_voice_100 rfl lc_33 fd_X6_94 rfl ?_
  refine mm_iload (q := 105) dX6_voice_103 rfl rfl ?_
  refine mm_aload_n (q := 106) dX6_voice_105 rfl rfl rfl ?_
  refine mm_getR (q := 109) (k1 := 24) dX6_voice_106 rfl lc_0 fd_X6_38 rfl ?_
  refine mm_getRN (q := 112) (k1 := 25) dX6_voice_109 rfl lc_24 fd_X6_94 rfl ?_
  refine mm_iload (q := 114) dX6_voice_112 rfl rfl ?_
  refine mm_iald (q := 115) dX6_voice_114 rfl lc_25 (fun b9 _ => ?_)
  refine mm_iast (q := 116) dX6_voice_115 rfl lc_34 (fun M10 _ => ?_)
  refine mm_iinc (q := 119) (ls' := [some (.ref 0), some (.int x1), some (.int x2), some (.int x3), some (.int (x4 + (1 : Int32))), none]) dX6_voice_116 rfl rfl (ii_1 _) rfl (Nat.le_of_ble_eq_true rfl) rfl ?_
  refine mm_goto (tgt := 29) dX6_voice_119 (by decide) ?_
  exact hkr _ _ _ _
def fX6_voice_L29 (x1 : Int32)  : Nat → Int32 → Int32 → Int32 → mm_M → Option (Int32 × mm_M)
  | 0, _, _, _, _ => none
  | n + 1, x2, x3, x4, M =>
    if (M 33 0) ≤ x4 then
      (if x1 = 0 then
        some (x2, M)
      else
        some (x3, M))
    else
      (mm_wa M 34 8 x4 (3 : Int32)).bind fun M5 =>
      (fX1_run 55 33 (fX2_all M5) M5).bind fun M6 =>
      (fX1_wordsThatAre 55 (1 : Int32) M6).bind fun b7 =>
      fX6_voice_J96 x1 (if b7 ≤ x3 then x2 else x4) (if b7 ≤ x3 then x3 else b7) x4 (fX6_voice_L29 x1 n) M6
set_option maxRecDepth 100000 in
set_option maxHeartbeats 4000000 in
theorem fX6_voice_L29_ok (x1 : Int32)    : ∀ (n : Nat) (x2 : Int32) (x3 : Int32) (x4 : Int32) (M : mm_M), mm_C LC cX6_voice 6 RX6 (some .int) 3 mm_eI 29 [some (.ref 0), some (.int x1), some (.int x2), some (.int x3), some (.int x4), none] [] M (fX6_voice_L29 x1 n x2 x3 x4 M) := by
  intro n
  induction n with
  | zero => intro x2 x3 x4 M; exact mm_none
  | succ n ih =>
    intro x2 x3 x4 M
    rw [fX6_voice_L29]
    refine mm_iload (q := 31) dX6_voice_29 rfl rfl ?_
    refine mm_aload_n (q := 32) dX6_voice_31 rfl rfl rfl ?_
    refine mm_getR (q := 35) (k1 := 33) dX6_voice_32 rfl lc_0 fd_X6_49 rfl ?_
    refine mm_getIN (q := 38) dX6_voice_35 rfl lc_33 fd_X6_90 rfl ?_
    refine mm_icmp_ge (q := 41) (tgt := 122) dX6_voice_38 rfl (by decide) (fun c3 => ?_) (fun c3 => ?_)
    · refine mm_iload_n (q := 123) dX6_voice_122 rfl rfl rfl ?_
      refine mm_if_ne (q := 126) (tgt := 130) dX6_voice_123 rfl (by decide) (fun c4 => ?_) (fun c4 => ?_)
      · refine mm_iload_n (q := 127) dX6_voice_126 rfl rfl rfl ?_
        refine mm_goto (tgt := 131) dX6_voice_127 (by decide) ?_
        exact mm_iret rfl dX6_voice_131
      · refine mm_iload_n (q := 131) dX6_voice_130 rfl rfl rfl ?_
        exact mm_iret rfl dX6_voice_131
    · refine mm_aload_n (q := 42) dX6_voice_41 rfl rfl rfl ?_
      refine mm_getR (q := 45) (k1 := 33) dX6_voice_42 rfl lc_0 fd_X6_49 rfl ?_
      refine mm_getRN (q := 48) (k1 := 34) dX6_voice_45 rfl lc_33 fd_X6_94 rfl ?_
      refine mm_iload (q := 50) dX6_voice_48 rfl rfl ?_
      refine mm_iconst (q := 51) dX6_voice_50 rfl ic_3 ?_
      refine mm_iast (q := 52) dX6_voice_51 rfl lc_34 (fun M5 _ => ?_)
      refine mm_aload_n (q := 53) dX6_voice_52 rfl rfl rfl ?_
      refine mm_getR (q := 56) (k1 := 55) dX6_voice_53 rfl lc_0 fd_X6_52 rfl ?_
      refine mm_aload_n (q := 57) dX6_voice_56 rfl rfl rfl ?_
      refine mm_getR (q := 60) (k1 := 33) dX6_voice_57 rfl lc_0 fd_X6_49 rfl ?_
      refine mm_aload_n (q := 61) dX6_voice_60 rfl rfl rfl ?_
      refine mm_getR (q := 64) (k1 := 17) dX6_voice_61 rfl lc_0 fd_X6_18 rfl ?_
      refine mm_aload_n (q := 65) dX6_voice_64 rfl rfl rfl ?_
      refine mm_getR (q := 68) (k1 := 17) dX6_voice_65 rfl lc_0 fd_X6_18 rfl ?_
      refine mm_callVT (as := []) (st := [.ref 17, .ref 33, .ref 55]) (q := 71) lc_17 rfl (fX2_all_ok M5) ms_X6_185 rfl (Nat.le_of_ble_eq_true rfl) (Nat.le_of_ble_eq_true rfl) rfl dX6_voice_68 rfl ?_
      refine mm_callVV (as := [.ref 33, .ref 17, .int (fX2_all M5)]) (st := []) (q := 74) lc_55 rfl (fX1_run_ok 55 33 (fX2_all M5) M5 isCo_55 isTo_33) ms_X6_188 rfl (Nat.le_of_ble_eq_true rfl) (Nat.le_of_ble_eq_true rfl) rfl dX6_voice_71 rfl (fun M6 _ => ?_)
      refine mm_aload_n (q := 75) dX6_voice_74 rfl rfl rfl ?_
      refine mm_getR (q := 78) (k1 := 55) dX6_voice_75 rfl lc_0 fd_X6_52 rfl ?_
      refine mm_iconst (q := 79) dX6_voice_78 rfl ic_1 ?_
      refine mm_callVP (as := [.int (1 : Int32)]) (st := []) (q := 82) lc_55 rfl (fX1_wordsThatAre_ok 55 (1 : Int32) M6 isCo_55) ms_X6_198 rfl (Nat.le_of_ble_eq_true rfl) (Nat.le_of_ble_eq_true rfl) rfl dX6_voice_79 rfl (fun b7 _ => ?_)
      refine mm_istore (q := 84) (ls' := [some (.ref 0), some (.int x1), some (.int x2), some (.int x3), some (.int x4), some (.int b7)]) dX6_voice_82 rfl rfl (Nat.le_of_ble_eq_true rfl) rfl ?_
      refine mm_iload (q := 86) dX6_voice_84 rfl rfl ?_
      refine mm_iload_n (q := 87) dX6_voice_86 rfl rfl rfl ?_
      by_cases c8 : b7 ≤ x3
      · simp only [if_pos c8]
        refine mm_icmp_le_t (tgt := 96) c8 dX6_voice_87 (by decide) ?_
        refine mm_drop (ls' := [some (.ref 0), some (.int x1), some (.int x2), some (.int x3), some (.int x4), none]) (mm_sub_at _ _ (And.intro rfl (And.intro rfl (And.intro rfl (And.intro rfl (And.intro rfl trivial)))))) ?_
        exact fX6_voice_J96_ok _ _ _ _ _ _ ih
      · simp only [if_neg c8]
        refine mm_icmp_le_f (q := 90) (tgt := 96) c8 dX6_voice_87 rfl (by decide) ?_
        refine mm_iload (q := 92) dX6_voice_90 rfl rfl ?_
        refine mm_istore_n (q := 93) (ls' := [some (.ref 0), some (.int x1), some (.int x2), some (.int b7), some (.int x4), some (.int b7)]) dX6_voice_92 rfl rfl rfl (Nat.le_of_ble_eq_true rfl) rfl ?_
        refine mm_iload (q := 95) dX6_voice_93 rfl rfl ?_
        refine mm_istore_n (q := 96) (ls' := [some (.ref 0), some (.int x1), some (.int x4), some (.int b7), some (.int x4), some (.int b7)]) dX6_voice_95 rfl rfl rfl (Nat.le_of_ble_eq_true rfl) rfl ?_
        refine mm_drop (ls' := [some (.ref 0), some (.int x1), some (.int x4), some (.int b7), some (.int x4), none]) (mm_sub_at _ _ (And.intro rfl (And.intro rfl (And.intro rfl (And.intro rfl (And.intro rfl trivial)))))) ?_
        exact fX6_voice_J96_ok _ _ _ _ _ _ ih
def fX6_voice (x1 : Int32) (M : mm_M) : Option (Int32 × mm_M) :=
  if (fX6_isOutside x1 (2 : Int32)) = 0 then
    ((fX5_becomeLike 33 24 M).bind fun M2 =>
    fX6_voice_L29 x1 1000 (-1 : Int32) (-1 : Int32) (0 : Int32) M2)
  else
    some ((-2 : Int32), M)
set_option maxRecDepth 100000 in
set_option maxHeartbeats 4000000 in
theorem fX6_voice_ok (x1 : Int32) (M : mm_M)  : mm_E LC yX6_voice cX6_voice 6 (some .int) 3 mm_eI [.ref 0, .int x1] M (fX6_voice x1 M) := by
  refine mm_E.of (own := RX6) (ls := [some (.ref 0), some (.int x1), none, none, none, none]) (by decide) rfl rfl (Nat.le_of_ble_eq_true rfl) ?_
  unfold fX6_voice
  refine mm_iload_n (q := 1) dX6_voice_0 rfl rfl rfl ?_
  refine mm_iconst (q := 2) dX6_voice_1 rfl ic_2 ?_
  refine mm_callST (as := [.int x1, .int (2 : Int32)]) (st := []) (q := 5) (fX6_isOutside_ok x1 (2 : Int32) M) ms_X6_66 rfl (Nat.le_of_ble_eq_true rfl) (Nat.le_of_ble_eq_true rfl) rfl dX6_voice_2 rfl ?_
  refine mm_if_eq (q := 8) (tgt := 11) dX6_voice_5 rfl (by decide) (fun c1 => ?_) (fun c1 => ?_)
  · refine mm_aload_n (q := 12) dX6_voice_11 rfl rfl rfl ?_
    refine mm_getR (q := 15) (k1 := 33) dX6_voice_12 rfl lc_0 fd_X6_49 rfl ?_
    refine mm_aload_n (q := 16) dX6_voice_15 rfl rfl rfl ?_
    refine mm_getR (q := 19) (k1 := 24) dX6_voice_16 rfl lc_0 fd_X6_38 rfl ?_
    refine mm_callVV (as := [.ref 24]) (st := []) (q := 22) lc_33 rfl (fX5_becomeLike_ok 33 24 M isTo_33 isTo_24) ms_X6_177 rfl (Nat.le_of_ble_eq_true rfl) (Nat.le_of_ble_eq_true rfl) rfl dX6_voice_19 rfl (fun M2 _ => ?_)
    refine mm_iconst (q := 23) dX6_voice_22 rfl ic_m1 ?_
    refine mm_istore_n (q := 24) (ls' := [some (.ref 0), some (.int x1), some (.int (-1 : Int32)), none, none, none]) dX6_voice_23 rfl rfl rfl (Nat.le_of_ble_eq_true rfl) rfl ?_
    refine mm_iconst (q := 25) dX6_voice_24 rfl ic_m1 ?_
    refine mm_istore_n (q := 26) (ls' := [some (.ref 0), some (.int x1), some (.int (-1 : Int32)), some (.int (-1 : Int32)), none, none]) dX6_voice_25 rfl rfl rfl (Nat.le_of_ble_eq_true rfl) rfl ?_
    refine mm_iconst (q := 27) dX6_voice_26 rfl ic_0 ?_
    refine mm_istore (q := 29) (ls' := [some (.ref 0), some (.int x1), some (.int (-1 : Int32)), some (.int (-1 : Int32)), some (.int (0 : Int32)), none]) dX6_voice_27 rfl rfl (Nat.le_of_ble_eq_true rfl) rfl ?_
    exact fX6_voice_L29_ok x1 _ _ _ _ _
  · refine mm_bipush (q := 10) dX6_voice_8 rfl bp_m2 ?_
    exact mm_iret rfl dX6_voice_10
def fX6_losesNothingWithout (x1 : Int32) (M : mm_M) : Option (Int32 × mm_M) :=
  (fX1_run 55 24 ((fX2_all M) &&& (x1 ^^^ (-1 : Int32))) M).bind fun M1 =>
  (fX1_wordsThatAre 55 (3 : Int32) M1).bind fun b2 =>
  if b2 = 0 then
    some ((1 : Int32), M1)
  else
    some ((0 : Int32), M1)
set_option maxRecDepth 100000 in
set_option maxHeartbeats 4000000 in
theorem fX6_losesNothingWithout_ok (x1 : Int32) (M : mm_M)  : mm_E LC yX6_losesNothingWithout cX6_losesNothingWithout 2 (some .boolean) 3 mm_eI [.ref 0, .int x1] M (fX6_losesNothingWithout x1 M) := by
  refine mm_E.of (own := RX6) (ls := [some (.ref 0), some (.int x1)]) (by decide) rfl rfl (Nat.le_of_ble_eq_true rfl) ?_
  unfold fX6_losesNothingWithout
  refine mm_aload_n (q := 1) dX6_losesNothingWithout_0 rfl rfl rfl ?_
  refine mm_getR (q := 4) (k1 := 55) dX6_losesNothingWithout_1 rfl lc_0 fd_X6_52 rfl ?_
  refine mm_aload_n (q := 5) dX6_losesNothingWithout_4 rfl rfl rfl ?_
  refine mm_getR (q := 8) (k1 := 24) dX6_losesNothingWithout_5 rfl lc_0 fd_X6_38 rfl ?_
  refine mm_aload_n (q := 9) dX6_losesNothingWithout_8 rfl rfl rfl ?_
  refine mm_getR (q := 12) (k1 := 17) dX6_losesNothingWithout_9 rfl lc_0 fd_X6_18 rfl ?_
  refine mm_aload_n (q := 13) dX6_losesNothingWithout_12 rfl rfl rfl ?_
  refine mm_getR (q := 16) (k1 := 17) dX6_losesNothingWithout_13 rfl lc_0 fd_X6_18 rfl ?_
  refine mm_callVT (as := []) (st := [.ref 17, .ref 24, .ref 55]) (q := 19) lc_17 rfl (fX2_all_ok M) ms_X6_185 rfl (Nat.le_of_ble_eq_true rfl) (Nat.le_of_ble_eq_true rfl) rfl dX6_losesNothingWithout_16 rfl ?_
  refine mm_iload_n (q := 20) dX6_losesNothingWithout_19 rfl rfl rfl ?_
  refine mm_iconst (q := 21) dX6_losesNothingWithout_20 rfl ic_m1 ?_
  refine mm_ixor (q := 22) dX6_losesNothingWithout_21 rfl ?_
  refine mm_iand (q := 23) dX6_losesNothingWithout_22 rfl ?_
  refine mm_callVV (as := [.ref 24, .ref 17, .int ((fX2_all M) &&& (x1 ^^^ (-1 : Int32)))]) (st := []) (q := 26) lc_55 rfl (fX1_run_ok 55 24 ((fX2_all M) &&& (x1 ^^^ (-1 : Int32))) M isCo_55 isTo_24) ms_X6_188 rfl (Nat.le_of_ble_eq_true rfl) (Nat.le_of_ble_eq_true rfl) rfl dX6_losesNothingWithout_23 rfl (fun M1 _ => ?_)
  refine mm_aload_n (q := 27) dX6_losesNothingWithout_26 rfl rfl rfl ?_
  refine mm_getR (q := 30) (k1 := 55) dX6_losesNothingWithout_27 rfl lc_0 fd_X6_52 rfl ?_
  refine mm_iconst (q := 31) dX6_losesNothingWithout_30 rfl ic_3 ?_
  refine mm_callVP (as := [.int (3 : Int32)]) (st := []) (q := 34) lc_55 rfl (fX1_wordsThatAre_ok 55 (3 : Int32) M1 isCo_55) ms_X6_198 rfl (Nat.le_of_ble_eq_true rfl) (Nat.le_of_ble_eq_true rfl) rfl dX6_losesNothingWithout_31 rfl (fun b2 _ => ?_)
  refine mm_if_ne (q := 37) (tgt := 41) dX6_losesNothingWithout_34 rfl (by decide) (fun c3 => ?_) (fun c3 => ?_)
  · refine mm_iconst (q := 38) dX6_losesNothingWithout_37 rfl ic_1 ?_
    refine mm_goto (tgt := 42) dX6_losesNothingWithout_38 (by decide) ?_
    exact mm_zret rfl rfl dX6_losesNothingWithout_42
  · refine mm_iconst (q := 42) dX6_losesNothingWithout_41 rfl ic_0 ?_
    exact mm_zret rfl rfl dX6_losesNothingWithout_42
def fX6_sparedEchoes_L12  (k43 : mm_M → Option (Int32 × mm_M)) : Nat → Int32 → mm_M → Option (Int32 × mm_M)
  | 0, _, _ => none
  | n + 1, x1, M =>
    if (M 17 2) ≤ x1 then
      k43 M
    else
      (fX6_losesNothingWithout ((1 : Int32) <<< (x1 &&& 31)) M).bind fun b4 =>
      if b4.1 = 0 then
        fX6_sparedEchoes_L12 k43 n (x1 + (1 : Int32)) b4.2
      else
        some ((1 : Int32) <<< (x1 &&& 31), b4.2)
set_option maxRecDepth 100000 in
set_option maxHeartbeats 4000000 in
theorem fX6_sparedEchoes_L12_ok   (k43 : mm_M → Option (Int32 × mm_M)) (hk43 : ∀  (M : mm_M), mm_C LC cX6_sparedEchoes 3 RX6 (some .int) 4 mm_eI 43 [some (.ref 0), none, none] [] M (k43 M)) : ∀ (n : Nat) (x1 : Int32) (M : mm_M), mm_C LC cX6_sparedEchoes 3 RX6 (some .int) 4 mm_eI 12 [some (.ref 0), some (.int x1), none] [] M (fX6_sparedEchoes_L12 k43 n x1 M) := by
  intro n
  induction n with
  | zero => intro x1 M; exact mm_none
  | succ n ih =>
    intro x1 M
    rw [fX6_sparedEchoes_L12]
    refine mm_iload_n (q := 13) dX6_sparedEchoes_12 rfl rfl rfl ?_
    refine mm_aload_n (q := 14) dX6_sparedEchoes_13 rfl rfl rfl ?_
    refine mm_getR (q := 17) (k1 := 17) dX6_sparedEchoes_14 rfl lc_0 fd_X6_18 rfl ?_
    refine mm_getIN (q := 20) dX6_sparedEchoes_17 rfl lc_17 fd_X6_134 rfl ?_
    refine mm_icmp_ge (q := 23) (tgt := 43) dX6_sparedEchoes_20 rfl (by decide) (fun c3 => ?_) (fun c3 => ?_)
    · refine mm_drop (ls' := [some (.ref 0), none, none]) (mm_sub_at _ _ (And.intro rfl trivial)) ?_
      exact hk43  _
    · refine mm_aload_n (q := 24) dX6_sparedEchoes_23 rfl rfl rfl ?_
      refine mm_iconst (q := 25) dX6_sparedEchoes_24 rfl ic_1 ?_
      refine mm_iload_n (q := 26) dX6_sparedEchoes_25 rfl rfl rfl ?_
      refine mm_ishl (q := 27) dX6_sparedEchoes_26 rfl ?_
      refine mm_callVI (as := [.int ((1 : Int32) <<< (x1 &&& 31))]) (st := []) (q := 30) lc_0 rfl (fX6_losesNothingWithout_ok ((1 : Int32) <<< (x1 &&& 31)) M) ms_X6_363 rfl (Nat.le_of_ble_eq_true rfl) (Nat.le_of_ble_eq_true rfl) rfl dX6_sparedEchoes_27 rfl (fun b4 _ => ?_)
      refine mm_if_eq (q := 33) (tgt := 37) dX6_sparedEchoes_30 rfl (by decide) (fun c5 => ?_) (fun c5 => ?_)
      · refine mm_iinc (q := 40) (ls' := [some (.ref 0), some (.int (x1 + (1 : Int32))), none]) dX6_sparedEchoes_37 rfl rfl (ii_1 _) rfl (Nat.le_of_ble_eq_true rfl) rfl ?_
        refine mm_goto (tgt := 12) dX6_sparedEchoes_40 (by decide) ?_
        exact ih _ _
      · refine mm_iconst (q := 34) dX6_sparedEchoes_33 rfl ic_1 ?_
        refine mm_iload_n (q := 35) dX6_sparedEchoes_34 rfl rfl rfl ?_
        refine mm_ishl (q := 36) dX6_sparedEchoes_35 rfl ?_
        exact mm_iret rfl dX6_sparedEchoes_36
def fX6_sparedEchoes_L60 (x1 : Int32) (k99 : mm_M → Option (Int32 × mm_M)) : Nat → Int32 → mm_M → Option (Int32 × mm_M)
  | 0, _, _ => none
  | n + 1, x2, M =>
    if (M 17 2) ≤ x2 then
      k99 M
    else
      (fX6_losesNothingWithout (((1 : Int32) <<< (x1 &&& 31)) ||| ((1 : Int32) <<< (x2 &&& 31))) M).bind fun b9 =>
      if b9.1 = 0 then
        fX6_sparedEchoes_L60 x1 k99 n (x2 + (1 : Int32)) b9.2
      else
        some (((1 : Int32) <<< (x1 &&& 31)) ||| ((1 : Int32) <<< (x2 &&& 31)), b9.2)
set_option maxRecDepth 100000 in
set_option maxHeartbeats 4000000 in
theorem fX6_sparedEchoes_L60_ok (x1 : Int32)  (k99 : mm_M → Option (Int32 × mm_M)) (hk99 : ∀  (M : mm_M), mm_C LC cX6_sparedEchoes 3 RX6 (some .int) 4 mm_eI 99 [some (.ref 0), some (.int x1), none] [] M (k99 M)) : ∀ (n : Nat) (x2 : Int32) (M : mm_M), mm_C LC cX6_sparedEchoes 3 RX6 (some .int) 4 mm_eI 60 [some (.ref 0), some (.int x1), some (.int x2)] [] M (fX6_sparedEchoes_L60 x1 k99 n x2 M) := by
  intro n
  induction n with
  | zero => intro x2 M; exact mm_none
  | succ n ih =>
    intro x2 M
    rw [fX6_sparedEchoes_L60]
    refine mm_iload_n (q := 61) dX6_sparedEchoes_60 rfl rfl rfl ?_
    refine mm_aload_n (q := 62) dX6_sparedEchoes_61 rfl rfl rfl ?_
    refine mm_getR (q := 65) (k1 := 17) dX6_sparedEchoes_62 rfl lc_0 fd_X6_18 rfl ?_
    refine mm_getIN (q := 68) dX6_sparedEchoes_65 rfl lc_17 fd_X6_134 rfl ?_
    refine mm_icmp_ge (q := 71) (tgt := 99) dX6_sparedEchoes_68 rfl (by decide) (fun c8 => ?_) (fun c8 => ?_)
    · refine mm_drop (ls' := [some (.ref 0), some (.int x1), none]) (mm_sub_at _ _ (And.intro rfl (And.intro rfl trivial))) ?_
      exact hk99  _
    · refine mm_aload_n (q := 72) dX6_sparedEchoes_71 rfl rfl rfl ?_
      refine mm_iconst (q := 73) dX6_sparedEchoes_72 rfl ic_1 ?_
      refine mm_iload_n (q := 74) dX6_sparedEchoes_73 rfl rfl rfl ?_
      refine mm_ishl (q := 75) dX6_sparedEchoes_74 rfl ?_
      refine mm_iconst (q := 76) dX6_sparedEchoes_75 rfl ic_1 ?_
      refine mm_iload_n (q := 77) dX6_sparedEchoes_76 rfl rfl rfl ?_
      refine mm_ishl (q := 78) dX6_sparedEchoes_77 rfl ?_
      refine mm_ior (q := 79) dX6_sparedEchoes_78 rfl ?_
      refine mm_callVI (as := [.int (((1 : Int32) <<< (x1 &&& 31)) ||| ((1 : Int32) <<< (x2 &&& 31)))]) (st := []) (q := 82) lc_0 rfl (fX6_losesNothingWithout_ok (((1 : Int32) <<< (x1 &&& 31)) ||| ((1 : Int32) <<< (x2 &&& 31))) M) ms_X6_363 rfl (Nat.le_of_ble_eq_true rfl) (Nat.le_of_ble_eq_true rfl) rfl dX6_sparedEchoes_79 rfl (fun b9 _ => ?_)
      refine mm_if_eq (q := 85) (tgt := 93) dX6_sparedEchoes_82 rfl (by decide) (fun c10 => ?_) (fun c10 => ?_)
      · refine mm_iinc (q := 96) (ls' := [some (.ref 0), some (.int x1), some (.int (x2 + (1 : Int32)))]) dX6_sparedEchoes_93 rfl rfl (ii_1 _) rfl (Nat.le_of_ble_eq_true rfl) rfl ?_
        refine mm_goto (tgt := 60) dX6_sparedEchoes_96 (by decide) ?_
        exact ih _ _
      · refine mm_iconst (q := 86) dX6_sparedEchoes_85 rfl ic_1 ?_
        refine mm_iload_n (q := 87) dX6_sparedEchoes_86 rfl rfl rfl ?_
        refine mm_ishl (q := 88) dX6_sparedEchoes_87 rfl ?_
        refine mm_iconst (q := 89) dX6_sparedEchoes_88 rfl ic_1 ?_
        refine mm_iload_n (q := 90) dX6_sparedEchoes_89 rfl rfl rfl ?_
        refine mm_ishl (q := 91) dX6_sparedEchoes_90 rfl ?_
        refine mm_ior (q := 92) dX6_sparedEchoes_91 rfl ?_
        exact mm_iret rfl dX6_sparedEchoes_92
def fX6_sparedEchoes_L45   : Nat → Int32 → mm_M → Option (Int32 × mm_M)
  | 0, _, _ => none
  | n + 1, x1, M =>
    if (M 17 2) ≤ x1 then
      some ((-1 : Int32), M)
    else
      fX6_sparedEchoes_L60 x1 (fun M11 =>
      fX6_sparedEchoes_L45 n (x1 + (1 : Int32)) M11) 1000 (x1 + (1 : Int32)) M
set_option maxRecDepth 100000 in
set_option maxHeartbeats 4000000 in
theorem fX6_sparedEchoes_L45_ok     : ∀ (n : Nat) (x1 : Int32) (M : mm_M), mm_C LC cX6_sparedEchoes 3 RX6 (some .int) 4 mm_eI 45 [some (.ref 0), some (.int x1), none] [] M (fX6_sparedEchoes_L45 n x1 M) := by
  intro n
  induction n with
  | zero => intro x1 M; exact mm_none
  | succ n ih =>
    intro x1 M
    rw [fX6_sparedEchoes_L45]
    refine mm_iload_n (q := 46) dX6_sparedEchoes_45 rfl rfl rfl ?_
    refine mm_aload_n (q := 47) dX6_sparedEchoes_46 rfl rfl rfl ?_
    refine mm_getR (q := 50) (k1 := 17) dX6_sparedEchoes_47 rfl lc_0 fd_X6_18 rfl ?_
    refine mm_getIN (q := 53) dX6_sparedEchoes_50 rfl lc_17 fd_X6_134 rfl ?_
    refine mm_icmp_ge (q := 56) (tgt := 105) dX6_sparedEchoes_53 rfl (by decide) (fun c7 => ?_) (fun c7 => ?_)
    · refine mm_iconst (q := 106) dX6_sparedEchoes_105 rfl ic_m1 ?_
      exact mm_iret rfl dX6_sparedEchoes_106
    · refine mm_iload_n (q := 57) dX6_sparedEchoes_56 rfl rfl rfl ?_
      refine mm_iconst (q := 58) dX6_sparedEchoes_57 rfl ic_1 ?_
      refine mm_iadd (q := 59) dX6_sparedEchoes_58 rfl ?_
      refine mm_istore_n (q := 60) (ls' := [some (.ref 0), some (.int x1), some (.int (x1 + (1 : Int32)))]) dX6_sparedEchoes_59 rfl rfl rfl (Nat.le_of_ble_eq_true rfl) rfl ?_
      refine fX6_sparedEchoes_L60_ok x1 _ (fun M11 => ?_) _ _ _
      refine mm_iinc (q := 102) (ls' := [some (.ref 0), some (.int (x1 + (1 : Int32))), none]) dX6_sparedEchoes_99 rfl rfl (ii_1 _) rfl (Nat.le_of_ble_eq_true rfl) rfl ?_
      refine mm_goto (tgt := 45) dX6_sparedEchoes_102 (by decide) ?_
      exact ih _ _
def fX6_sparedEchoes  (M : mm_M) : Option (Int32 × mm_M) :=
  (fX6_losesNothingWithout (0 : Int32) M).bind fun b1 =>
  if b1.1 = 0 then
    fX6_sparedEchoes_L12 (fun M6 =>
      fX6_sparedEchoes_L45 1000 (0 : Int32) M6) 1000 (0 : Int32) b1.2
  else
    some ((0 : Int32), b1.2)
set_option maxRecDepth 100000 in
set_option maxHeartbeats 4000000 in
theorem fX6_sparedEchoes_ok  (M : mm_M)  : mm_E LC yX6_sparedEchoes cX6_sparedEchoes 3 (some .int) 4 mm_eI [.ref 0] M (fX6_sparedEchoes M) := by
  refine mm_E.of (own := RX6) (ls := [some (.ref 0), none, none]) (by decide) rfl rfl (Nat.le_of_ble_eq_true rfl) ?_
  unfold fX6_sparedEchoes
  refine mm_aload_n (q := 1) dX6_sparedEchoes_0 rfl rfl rfl ?_
  refine mm_iconst (q := 2) dX6_sparedEchoes_1 rfl ic_0 ?_
  refine mm_callVI (as := [.int (0 : Int32)]) (st := []) (q := 5) lc_0 rfl (fX6_losesNothingWithout_ok (0 : Int32) M) ms_X6_363 rfl (Nat.le_of_ble_eq_true rfl) (Nat.le_of_ble_eq_true rfl) rfl dX6_sparedEchoes_2 rfl (fun b1 _ => ?_)
  refine mm_if_eq (q := 8) (tgt := 10) dX6_sparedEchoes_5 rfl (by decide) (fun c2 => ?_) (fun c2 => ?_)
  · refine mm_iconst (q := 11) dX6_sparedEchoes_10 rfl ic_0 ?_
    refine mm_istore_n (q := 12) (ls' := [some (.ref 0), some (.int (0 : Int32)), none]) dX6_sparedEchoes_11 rfl rfl rfl (Nat.le_of_ble_eq_true rfl) rfl ?_
    refine fX6_sparedEchoes_L12_ok _ (fun M6 => ?_) _ _ _
    refine mm_iconst (q := 44) dX6_sparedEchoes_43 rfl ic_0 ?_
    refine mm_istore_n (q := 45) (ls' := [some (.ref 0), some (.int (0 : Int32)), none]) dX6_sparedEchoes_44 rfl rfl rfl (Nat.le_of_ble_eq_true rfl) rfl ?_
    exact fX6_sparedEchoes_L45_ok  _ _ _
  · refine mm_iconst (q := 9) dX6_sparedEchoes_8 rfl ic_0 ?_
    exact mm_iret rfl dX6_sparedEchoes_9
def fX6_lowestBit_L2 (x0 : Int32)  : Nat → Int32 → Option (Int32)
  | 0, _ => none
  | n + 1, x1 =>
    if (32 : Int32) ≤ x1 then
      some (-1 : Int32)
    else
      if ((x0 >>> (x1 &&& 31)) &&& (1 : Int32)) = 0 then
        fX6_lowestBit_L2 x0 n (x1 + (1 : Int32))
      else
        some x1
set_option maxRecDepth 100000 in
set_option maxHeartbeats 4000000 in
theorem fX6_lowestBit_L2_ok (x0 : Int32) (M : mm_M)    : ∀ (n : Nat) (x1 : Int32), mm_C LC cX6_lowestBit 2 RX6 (some .int) 0 (mm_pI M) 2 [some (.int x0), some (.int x1)] [] M (fX6_lowestBit_L2 x0 n x1) := by
  intro n
  induction n with
  | zero => intro x1; exact mm_none
  | succ n ih =>
    intro x1
    rw [fX6_lowestBit_L2]
    refine mm_iload_n (q := 3) dX6_lowestBit_2 rfl rfl rfl ?_
    refine mm_bipush (q := 5) dX6_lowestBit_3 rfl bp_32 ?_
    refine mm_icmp_ge (q := 8) (tgt := 24) dX6_lowestBit_5 rfl (by decide) (fun c1 => ?_) (fun c1 => ?_)
    · refine mm_iconst (q := 25) dX6_lowestBit_24 rfl ic_m1 ?_
      exact mm_iret rfl dX6_lowestBit_25
    · refine mm_iload_n (q := 9) dX6_lowestBit_8 rfl rfl rfl ?_
      refine mm_iload_n (q := 10) dX6_lowestBit_9 rfl rfl rfl ?_
      refine mm_ishr (q := 11) dX6_lowestBit_10 rfl ?_
      refine mm_iconst (q := 12) dX6_lowestBit_11 rfl ic_1 ?_
      refine mm_iand (q := 13) dX6_lowestBit_12 rfl ?_
      refine mm_if_eq (q := 16) (tgt := 18) dX6_lowestBit_13 rfl (by decide) (fun c2 => ?_) (fun c2 => ?_)
      · refine mm_iinc (q := 21) (ls' := [some (.int x0), some (.int (x1 + (1 : Int32)))]) dX6_lowestBit_18 rfl rfl (ii_1 _) rfl (Nat.le_of_ble_eq_true rfl) rfl ?_
        refine mm_goto (tgt := 2) dX6_lowestBit_21 (by decide) ?_
        exact ih _
      · refine mm_iload_n (q := 17) dX6_lowestBit_16 rfl rfl rfl ?_
        exact mm_iret rfl dX6_lowestBit_17
def fX6_lowestBit (x0 : Int32)  : Option (Int32) :=
  fX6_lowestBit_L2 x0 1000 (0 : Int32)
set_option maxRecDepth 100000 in
set_option maxHeartbeats 4000000 in
theorem fX6_lowestBit_ok (x0 : Int32) (M : mm_M)  : mm_E LC yX6_lowestBit cX6_lowestBit 2 (some .int) 0 (mm_pI M) [.int x0] M (fX6_lowestBit x0) := by
  refine mm_E.of (own := RX6) (ls := [some (.int x0), none]) (by decide) rfl rfl (Nat.le_of_ble_eq_true rfl) ?_
  unfold fX6_lowestBit
  refine mm_iconst (q := 1) dX6_lowestBit_0 rfl ic_0 ?_
  refine mm_istore_n (q := 2) (ls' := [some (.int x0), some (.int (0 : Int32))]) dX6_lowestBit_1 rfl rfl rfl (Nat.le_of_ble_eq_true rfl) rfl ?_
  exact fX6_lowestBit_L2_ok x0 M _ _
def fX6_spare (x1 : Int32) (M : mm_M) : Option (Int32 × mm_M) :=
  if x1 < (-1 : Int32) then
    some ((-2 : Int32), M)
  else
    if x1 ≤ (1 : Int32) then
      ((fX6_sparedEchoes M).bind fun b3 =>
      if b3.1 = (-1 : Int32) then
        some ((-1 : Int32), b3.2)
      else
        if x1 = (-1 : Int32) then
          some (fJ6_bitCount_0f7a4 b3.1, b3.2)
        else
          if x1 = 0 then
            ((fX6_lowestBit b3.1).bind fun b7 =>
            some (b7, b3.2))
          else
            (fX6_lowestBit (b3.1 &&& (b3.1 - (1 : Int32)))).bind fun b8 =>
            some (b8, b3.2))
    else
      some ((-2 : Int32), M)
set_option maxRecDepth 100000 in
set_option maxHeartbeats 4000000 in
theorem fX6_spare_ok (x1 : Int32) (M : mm_M)  : mm_E LC yX6_spare cX6_spare 3 (some .int) 5 mm_eI [.ref 0, .int x1] M (fX6_spare x1 M) := by
  refine mm_E.of (own := RX6) (ls := [some (.ref 0), some (.int x1), none]) (by decide) rfl rfl (Nat.le_of_ble_eq_true rfl) ?_
  unfold fX6_spare
  refine mm_iload_n (q := 1) dX6_spare_0 rfl rfl rfl ?_
  refine mm_iconst (q := 2) dX6_spare_1 rfl ic_m1 ?_
  refine mm_icmp_lt (q := 5) (tgt := 10) dX6_spare_2 rfl (by decide) (fun c1 => ?_) (fun c1 => ?_)
  · refine mm_bipush (q := 12) dX6_spare_10 rfl bp_m2 ?_
    exact mm_iret rfl dX6_spare_12
  · refine mm_iload_n (q := 6) dX6_spare_5 rfl rfl rfl ?_
    refine mm_iconst (q := 7) dX6_spare_6 rfl ic_1 ?_
    refine mm_icmp_le (q := 10) (tgt := 13) dX6_spare_7 rfl (by decide) (fun c2 => ?_) (fun c2 => ?_)
    · refine mm_aload_n (q := 14) dX6_spare_13 rfl rfl rfl ?_
      refine mm_callVI (as := []) (st := []) (q := 17) lc_0 rfl (fX6_sparedEchoes_ok M) ms_X6_201 rfl (Nat.le_of_ble_eq_true rfl) (Nat.le_of_ble_eq_true rfl) rfl dX6_spare_14 rfl (fun b3 _ => ?_)
      refine mm_istore_n (q := 18) (ls' := [some (.ref 0), some (.int x1), some (.int b3.1)]) dX6_spare_17 rfl rfl rfl (Nat.le_of_ble_eq_true rfl) rfl ?_
      refine mm_iload_n (q := 19) dX6_spare_18 rfl rfl rfl ?_
      refine mm_iconst (q := 20) dX6_spare_19 rfl ic_m1 ?_
      refine mm_icmp_ne (q := 23) (tgt := 25) dX6_spare_20 rfl (by decide) (fun c4 => ?_) (fun c4 => ?_)
      · refine mm_iconst (q := 24) dX6_spare_23 rfl ic_m1 ?_
        exact mm_iret rfl dX6_spare_24
      · refine mm_iload_n (q := 26) dX6_spare_25 rfl rfl rfl ?_
        refine mm_iconst (q := 27) dX6_spare_26 rfl ic_m1 ?_
        refine mm_icmp_ne (q := 30) (tgt := 35) dX6_spare_27 rfl (by decide) (fun c5 => ?_) (fun c5 => ?_)
        · refine mm_iload_n (q := 31) dX6_spare_30 rfl rfl rfl ?_
          refine mm_callST (as := [.int b3.1]) (st := []) (q := 34) (fJ6_bitCount_0f7a4_ok b3.1 b3.2) ms_X6_204 rfl (Nat.le_of_ble_eq_true rfl) (Nat.le_of_ble_eq_true rfl) rfl dX6_spare_31 rfl ?_
          exact mm_iret rfl dX6_spare_34
        · refine mm_iload_n (q := 36) dX6_spare_35 rfl rfl rfl ?_
          refine mm_if_ne (q := 39) (tgt := 43) dX6_spare_36 rfl (by decide) (fun c6 => ?_) (fun c6 => ?_)
          · refine mm_iload_n (q := 40) dX6_spare_39 rfl rfl rfl ?_
            refine mm_goto (tgt := 48) dX6_spare_40 (by decide) ?_
            refine mm_callSP (as := [.int b3.1]) (st := []) (q := 51) (fX6_lowestBit_ok b3.1 b3.2) ms_X6_209 rfl (Nat.le_of_ble_eq_true rfl) (Nat.le_of_ble_eq_true rfl) rfl dX6_spare_48 rfl (fun b7 _ => ?_)
            exact mm_iret rfl dX6_spare_51
          · refine mm_iload_n (q := 44) dX6_spare_43 rfl rfl rfl ?_
            refine mm_iload_n (q := 45) dX6_spare_44 rfl rfl rfl ?_
            refine mm_iconst (q := 46) dX6_spare_45 rfl ic_1 ?_
            refine mm_isub (q := 47) dX6_spare_46 rfl ?_
            refine mm_iand (q := 48) dX6_spare_47 rfl ?_
            refine mm_callSP (as := [.int (b3.1 &&& (b3.1 - (1 : Int32)))]) (st := []) (q := 51) (fX6_lowestBit_ok (b3.1 &&& (b3.1 - (1 : Int32))) b3.2) ms_X6_209 rfl (Nat.le_of_ble_eq_true rfl) (Nat.le_of_ble_eq_true rfl) rfl dX6_spare_48 rfl (fun b8 _ => ?_)
            exact mm_iret rfl dX6_spare_51
    · refine mm_bipush (q := 12) dX6_spare_10 rfl bp_m2 ?_
      exact mm_iret rfl dX6_spare_12
def fX6_never_L4   : Nat → Int32 → Int32 → mm_M → Option (Int32 × mm_M)
  | 0, _, _, _ => none
  | n + 1, x1, x2, M =>
    if (M 17 2) ≤ x2 then
      some (x1, M)
    else
      (fX1_run 55 24 ((fX2_all M) &&& (((1 : Int32) <<< (x2 &&& 31)) ^^^ (-1 : Int32))) M).bind fun M2 =>
      (fX0_comesOut 55 M2).bind fun b3 =>
      fX6_never_L4 n (if b3 = 0 then x1 else x1 ||| ((1 : Int32) <<< (x2 &&& 31))) (x2 + (1 : Int32)) M2
set_option maxRecDepth 100000 in
set_option maxHeartbeats 4000000 in
theorem fX6_never_L4_ok     : ∀ (n : Nat) (x1 : Int32) (x2 : Int32) (M : mm_M), mm_C LC cX6_never 3 RX6 (some .int) 3 mm_eI 4 [some (.ref 0), some (.int x1), some (.int x2)] [] M (fX6_never_L4 n x1 x2 M) := by
  intro n
  induction n with
  | zero => intro x1 x2 M; exact mm_none
  | succ n ih =>
    intro x1 x2 M
    rw [fX6_never_L4]
    refine mm_iload_n (q := 5) dX6_never_4 rfl rfl rfl ?_
    refine mm_aload_n (q := 6) dX6_never_5 rfl rfl rfl ?_
    refine mm_getR (q := 9) (k1 := 17) dX6_never_6 rfl lc_0 fd_X6_18 rfl ?_
    refine mm_getIN (q := 12) dX6_never_9 rfl lc_17 fd_X6_134 rfl ?_
    refine mm_icmp_ge (q := 15) (tgt := 69) dX6_never_12 rfl (by decide) (fun c1 => ?_) (fun c1 => ?_)
    · refine mm_iload_n (q := 70) dX6_never_69 rfl rfl rfl ?_
      exact mm_iret rfl dX6_never_70
    · refine mm_aload_n (q := 16) dX6_never_15 rfl rfl rfl ?_
      refine mm_getR (q := 19) (k1 := 55) dX6_never_16 rfl lc_0 fd_X6_52 rfl ?_
      refine mm_aload_n (q := 20) dX6_never_19 rfl rfl rfl ?_
      refine mm_getR (q := 23) (k1 := 24) dX6_never_20 rfl lc_0 fd_X6_38 rfl ?_
      refine mm_aload_n (q := 24) dX6_never_23 rfl rfl rfl ?_
      refine mm_getR (q := 27) (k1 := 17) dX6_never_24 rfl lc_0 fd_X6_18 rfl ?_
      refine mm_aload_n (q := 28) dX6_never_27 rfl rfl rfl ?_
      refine mm_getR (q := 31) (k1 := 17) dX6_never_28 rfl lc_0 fd_X6_18 rfl ?_
      refine mm_callVT (as := []) (st := [.ref 17, .ref 24, .ref 55]) (q := 34) lc_17 rfl (fX2_all_ok M) ms_X6_185 rfl (Nat.le_of_ble_eq_true rfl) (Nat.le_of_ble_eq_true rfl) rfl dX6_never_31 rfl ?_
      refine mm_iconst (q := 35) dX6_never_34 rfl ic_1 ?_
      refine mm_iload_n (q := 36) dX6_never_35 rfl rfl rfl ?_
      refine mm_ishl (q := 37) dX6_never_36 rfl ?_
      refine mm_iconst (q := 38) dX6_never_37 rfl ic_m1 ?_
      refine mm_ixor (q := 39) dX6_never_38 rfl ?_
      refine mm_iand (q := 40) dX6_never_39 rfl ?_
      refine mm_callVV (as := [.ref 24, .ref 17, .int ((fX2_all M) &&& (((1 : Int32) <<< (x2 &&& 31)) ^^^ (-1 : Int32)))]) (st := []) (q := 43) lc_55 rfl (fX1_run_ok 55 24 ((fX2_all M) &&& (((1 : Int32) <<< (x2 &&& 31)) ^^^ (-1 : Int32))) M isCo_55 isTo_24) ms_X6_188 rfl (Nat.le_of_ble_eq_true rfl) (Nat.le_of_ble_eq_true rfl) rfl dX6_never_40 rfl (fun M2 _ => ?_)
      refine mm_aload_n (q := 44) dX6_never_43 rfl rfl rfl ?_
      refine mm_getR (q := 47) (k1 := 20) dX6_never_44 rfl lc_0 fd_X6_25 rfl ?_
      refine mm_aload_n (q := 48) dX6_never_47 rfl rfl rfl ?_
      refine mm_getR (q := 51) (k1 := 55) dX6_never_48 rfl lc_0 fd_X6_52 rfl ?_
      refine mm_callVP (as := [.ref 55]) (st := []) (q := 54) lc_20 rfl (fX0_comesOut_ok 55 M2 isCo_55) ms_X6_215 rfl (Nat.le_of_ble_eq_true rfl) (Nat.le_of_ble_eq_true rfl) rfl dX6_never_51 rfl (fun b3 _ => ?_)
      by_cases c4 : b3 = 0
      · simp only [if_pos c4]
        refine mm_if_eq_t (tgt := 63) c4 dX6_never_54 (by decide) ?_
        refine mm_iinc (q := 66) (ls' := [some (.ref 0), some (.int x1), some (.int (x2 + (1 : Int32)))]) dX6_never_63 rfl rfl (ii_1 _) rfl (Nat.le_of_ble_eq_true rfl) rfl ?_
        refine mm_goto (tgt := 4) dX6_never_66 (by decide) ?_
        exact ih _ _ _
      · simp only [if_neg c4]
        refine mm_if_eq_f (q := 57) (tgt := 63) c4 dX6_never_54 rfl (by decide) ?_
        refine mm_iload_n (q := 58) dX6_never_57 rfl rfl rfl ?_
        refine mm_iconst (q := 59) dX6_never_58 rfl ic_1 ?_
        refine mm_iload_n (q := 60) dX6_never_59 rfl rfl rfl ?_
        refine mm_ishl (q := 61) dX6_never_60 rfl ?_
        refine mm_ior (q := 62) dX6_never_61 rfl ?_
        refine mm_istore_n (q := 63) (ls' := [some (.ref 0), some (.int (x1 ||| ((1 : Int32) <<< (x2 &&& 31)))), some (.int x2)]) dX6_never_62 rfl rfl rfl (Nat.le_of_ble_eq_true rfl) rfl ?_
        refine mm_iinc (q := 66) (ls' := [some (.ref 0), some (.int (x1 ||| ((1 : Int32) <<< (x2 &&& 31)))), some (.int (x2 + (1 : Int32)))]) dX6_never_63 rfl rfl (ii_1 _) rfl (Nat.le_of_ble_eq_true rfl) rfl ?_
        refine mm_goto (tgt := 4) dX6_never_66 (by decide) ?_
        exact ih _ _ _
def fX6_never  (M : mm_M) : Option (Int32 × mm_M) :=
  fX6_never_L4 1000 (0 : Int32) (0 : Int32) M
set_option maxRecDepth 100000 in
set_option maxHeartbeats 4000000 in
theorem fX6_never_ok  (M : mm_M)  : mm_E LC yX6_never cX6_never 3 (some .int) 3 mm_eI [.ref 0] M (fX6_never M) := by
  refine mm_E.of (own := RX6) (ls := [some (.ref 0), none, none]) (by decide) rfl rfl (Nat.le_of_ble_eq_true rfl) ?_
  unfold fX6_never
  refine mm_iconst (q := 1) dX6_never_0 rfl ic_0 ?_
  refine mm_istore_n (q := 2) (ls' := [some (.ref 0), some (.int (0 : Int32)), none]) dX6_never_1 rfl rfl rfl (Nat.le_of_ble_eq_true rfl) rfl ?_
  refine mm_iconst (q := 3) dX6_never_2 rfl ic_0 ?_
  refine mm_istore_n (q := 4) (ls' := [some (.ref 0), some (.int (0 : Int32)), some (.int (0 : Int32))]) dX6_never_3 rfl rfl rfl (Nat.le_of_ble_eq_true rfl) rfl ?_
  exact fX6_never_L4_ok  _ _ _ _
def fX6_lives (x1 : Int32) (x2 : Int32) (x3 : Int32) (M : mm_M) : Option (Int32 × mm_M) :=
  if (fX6_isOutside x2 (13 : Int32)) = 0 then
    (if (fX6_isOutside x3 (2 : Int32)) = 0 then
      ((fX5_becomeLike 33 24 M).bind fun M3 =>
      (fX5_drawMeetings 33 x1 x2 M3).bind fun M4 =>
      (fX1_run 55 33 (fX2_all M4) M4).bind fun M5 =>
      if x3 = 0 then
        ((fX1_wordsThatAre 55 (1 : Int32) M5).bind fun b7 =>
        some (b7, M5))
      else
        (fX1_wordsThatAre 55 (3 : Int32) M5).bind fun b8 =>
        some (b8, M5))
    else
      some ((-2 : Int32), M))
  else
    some ((-2 : Int32), M)
set_option maxRecDepth 100000 in
set_option maxHeartbeats 4000000 in
theorem fX6_lives_ok (x1 : Int32) (x2 : Int32) (x3 : Int32) (M : mm_M)  : mm_E LC yX6_lives cX6_lives 4 (some .int) 3 mm_eI [.ref 0, .int x1, .int x2, .int x3] M (fX6_lives x1 x2 x3 M) := by
  refine mm_E.of (own := RX6) (ls := [some (.ref 0), some (.int x1), some (.int x2), some (.int x3)]) (by decide) rfl rfl (Nat.le_of_ble_eq_true rfl) ?_
  unfold fX6_lives
  refine mm_iload_n (q := 1) dX6_lives_0 rfl rfl rfl ?_
  refine mm_bipush (q := 3) dX6_lives_1 rfl bp_13 ?_
  refine mm_callST (as := [.int x2, .int (13 : Int32)]) (st := []) (q := 6) (fX6_isOutside_ok x2 (13 : Int32) M) ms_X6_66 rfl (Nat.le_of_ble_eq_true rfl) (Nat.le_of_ble_eq_true rfl) rfl dX6_lives_3 rfl ?_
  refine mm_if_ne (q := 9) (tgt := 17) dX6_lives_6 rfl (by decide) (fun c1 => ?_) (fun c1 => ?_)
  · refine mm_iload_n (q := 10) dX6_lives_9 rfl rfl rfl ?_
    refine mm_iconst (q := 11) dX6_lives_10 rfl ic_2 ?_
    refine mm_callST (as := [.int x3, .int (2 : Int32)]) (st := []) (q := 14) (fX6_isOutside_ok x3 (2 : Int32) M) ms_X6_66 rfl (Nat.le_of_ble_eq_true rfl) (Nat.le_of_ble_eq_true rfl) rfl dX6_lives_11 rfl ?_
    refine mm_if_eq (q := 17) (tgt := 20) dX6_lives_14 rfl (by decide) (fun c2 => ?_) (fun c2 => ?_)
    · refine mm_aload_n (q := 21) dX6_lives_20 rfl rfl rfl ?_
      refine mm_getR (q := 24) (k1 := 33) dX6_lives_21 rfl lc_0 fd_X6_49 rfl ?_
      refine mm_aload_n (q := 25) dX6_lives_24 rfl rfl rfl ?_
      refine mm_getR (q := 28) (k1 := 24) dX6_lives_25 rfl lc_0 fd_X6_38 rfl ?_
      refine mm_callVV (as := [.ref 24]) (st := []) (q := 31) lc_33 rfl (fX5_becomeLike_ok 33 24 M isTo_33 isTo_24) ms_X6_177 rfl (Nat.le_of_ble_eq_true rfl) (Nat.le_of_ble_eq_true rfl) rfl dX6_lives_28 rfl (fun M3 _ => ?_)
      refine mm_aload_n (q := 32) dX6_lives_31 rfl rfl rfl ?_
      refine mm_getR (q := 35) (k1 := 33) dX6_lives_32 rfl lc_0 fd_X6_49 rfl ?_
      refine mm_iload_n (q := 36) dX6_lives_35 rfl rfl rfl ?_
      refine mm_iload_n (q := 37) dX6_lives_36 rfl rfl rfl ?_
      refine mm_callVV (as := [.int x1, .int x2]) (st := []) (q := 40) lc_33 rfl (fX5_drawMeetings_ok 33 x1 x2 M3 isTo_33) ms_X6_234 rfl (Nat.le_of_ble_eq_true rfl) (Nat.le_of_ble_eq_true rfl) rfl dX6_lives_37 rfl (fun M4 _ => ?_)
      refine mm_aload_n (q := 41) dX6_lives_40 rfl rfl rfl ?_
      refine mm_getR (q := 44) (k1 := 55) dX6_lives_41 rfl lc_0 fd_X6_52 rfl ?_
      refine mm_aload_n (q := 45) dX6_lives_44 rfl rfl rfl ?_
      refine mm_getR (q := 48) (k1 := 33) dX6_lives_45 rfl lc_0 fd_X6_49 rfl ?_
      refine mm_aload_n (q := 49) dX6_lives_48 rfl rfl rfl ?_
      refine mm_getR (q := 52) (k1 := 17) dX6_lives_49 rfl lc_0 fd_X6_18 rfl ?_
      refine mm_aload_n (q := 53) dX6_lives_52 rfl rfl rfl ?_
      refine mm_getR (q := 56) (k1 := 17) dX6_lives_53 rfl lc_0 fd_X6_18 rfl ?_
      refine mm_callVT (as := []) (st := [.ref 17, .ref 33, .ref 55]) (q := 59) lc_17 rfl (fX2_all_ok M4) ms_X6_185 rfl (Nat.le_of_ble_eq_true rfl) (Nat.le_of_ble_eq_true rfl) rfl dX6_lives_56 rfl ?_
      refine mm_callVV (as := [.ref 33, .ref 17, .int (fX2_all M4)]) (st := []) (q := 62) lc_55 rfl (fX1_run_ok 55 33 (fX2_all M4) M4 isCo_55 isTo_33) ms_X6_188 rfl (Nat.le_of_ble_eq_true rfl) (Nat.le_of_ble_eq_true rfl) rfl dX6_lives_59 rfl (fun M5 _ => ?_)
      refine mm_aload_n (q := 63) dX6_lives_62 rfl rfl rfl ?_
      refine mm_getR (q := 66) (k1 := 55) dX6_lives_63 rfl lc_0 fd_X6_52 rfl ?_
      refine mm_iload_n (q := 67) dX6_lives_66 rfl rfl rfl ?_
      refine mm_if_ne (q := 70) (tgt := 74) dX6_lives_67 rfl (by decide) (fun c6 => ?_) (fun c6 => ?_)
      · refine mm_iconst (q := 71) dX6_lives_70 rfl ic_1 ?_
        refine mm_goto (tgt := 75) dX6_lives_71 (by decide) ?_
        refine mm_callVP (as := [.int (1 : Int32)]) (st := []) (q := 78) lc_55 rfl (fX1_wordsThatAre_ok 55 (1 : Int32) M5 isCo_55) ms_X6_198 rfl (Nat.le_of_ble_eq_true rfl) (Nat.le_of_ble_eq_true rfl) rfl dX6_lives_75 rfl (fun b7 _ => ?_)
        exact mm_iret rfl dX6_lives_78
      · refine mm_iconst (q := 75) dX6_lives_74 rfl ic_3 ?_
        refine mm_callVP (as := [.int (3 : Int32)]) (st := []) (q := 78) lc_55 rfl (fX1_wordsThatAre_ok 55 (3 : Int32) M5 isCo_55) ms_X6_198 rfl (Nat.le_of_ble_eq_true rfl) (Nat.le_of_ble_eq_true rfl) rfl dX6_lives_75 rfl (fun b8 _ => ?_)
        exact mm_iret rfl dX6_lives_78
    · refine mm_bipush (q := 19) dX6_lives_17 rfl bp_m2 ?_
      exact mm_iret rfl dX6_lives_19
  · refine mm_bipush (q := 19) dX6_lives_17 rfl bp_m2 ?_
    exact mm_iret rfl dX6_lives_19
def fX6_digest_L6 (M : mm_M) (k31 : Int64 → Option (Int64 × mm_M)) : Nat → Int64 → Int32 → Option (Int64 × mm_M)
  | 0, _, _ => none
  | n + 1, x1, x3 =>
    if (8 : Int32) ≤ x3 then
      k31 x1
    else
      (fX6_count x3 M).bind fun b2 =>
      fX6_digest_L6 M k31 n (((31 : Int64) * x1) + ((b2).toInt64)) (x3 + (1 : Int32))
set_option maxRecDepth 100000 in
set_option maxHeartbeats 4000000 in
theorem fX6_digest_L6_ok (M : mm_M)  (k31 : Int64 → Option (Int64 × mm_M)) (hk31 : ∀ (x1 : Int64), mm_C LC cX6_digest 5 RX6 (some .long) 6 mm_eL 31 [some (.ref 0), some (.long x1), none, none, none] [] M (k31 x1)) : ∀ (n : Nat) (x1 : Int64) (x3 : Int32), mm_C LC cX6_digest 5 RX6 (some .long) 6 mm_eL 6 [some (.ref 0), some (.long x1), none, some (.int x3), none] [] M (fX6_digest_L6 M k31 n x1 x3) := by
  intro n
  induction n with
  | zero => intro x1 x3; exact mm_none
  | succ n ih =>
    intro x1 x3
    rw [fX6_digest_L6]
    refine mm_iload_n (q := 7) dX6_digest_6 rfl rfl rfl ?_
    refine mm_bipush (q := 9) dX6_digest_7 rfl bp_8 ?_
    refine mm_icmp_ge (q := 12) (tgt := 31) dX6_digest_9 rfl (by decide) (fun c1 => ?_) (fun c1 => ?_)
    · refine mm_drop (ls' := [some (.ref 0), some (.long x1), none, none, none]) (mm_sub_at _ _ (And.intro rfl (And.intro rfl trivial))) ?_
      exact hk31 _
    · refine mm_ldc2 (q := 15) dX6_digest_12 rfl cn_X6_270 ?_
      refine mm_lload_n (q := 16) dX6_digest_15 rfl rfl rfl ?_
      refine mm_lmul (q := 17) dX6_digest_16 rfl ?_
      refine mm_aload_n (q := 18) dX6_digest_17 rfl rfl rfl ?_
      refine mm_iload_n (q := 19) dX6_digest_18 rfl rfl rfl ?_
      refine mm_callVP (as := [.int x3]) (st := [.long ((31 : Int64) * x1)]) (q := 22) lc_0 rfl (fX6_count_ok x3 M) ms_X6_272 rfl (Nat.le_of_ble_eq_true rfl) (Nat.le_of_ble_eq_true rfl) rfl dX6_digest_19 rfl (fun b2 _ => ?_)
      refine mm_i2l (q := 23) dX6_digest_22 rfl ?_
      refine mm_ladd (q := 24) dX6_digest_23 rfl ?_
      refine mm_lstore_n (q := 25) (ls' := [some (.ref 0), some (.long (((31 : Int64) * x1) + ((b2).toInt64))), none, some (.int x3), none]) dX6_digest_24 rfl rfl rfl (Nat.le_of_ble_eq_true rfl) rfl ?_
      refine mm_iinc (q := 28) (ls' := [some (.ref 0), some (.long (((31 : Int64) * x1) + ((b2).toInt64))), none, some (.int (x3 + (1 : Int32))), none]) dX6_digest_25 rfl rfl (ii_1 _) rfl (Nat.le_of_ble_eq_true rfl) rfl ?_
      refine mm_goto (tgt := 6) dX6_digest_28 (by decide) ?_
      exact ih _ _
def fX6_digest_L33 (M : mm_M) (k57 : Int64 → Option (Int64 × mm_M)) : Nat → Int64 → Int32 → Option (Int64 × mm_M)
  | 0, _, _ => none
  | n + 1, x1, x3 =>
    if (3 : Int32) ≤ x3 then
      k57 x1
    else
      (fX6_fault x3 M).bind fun b5 =>
      fX6_digest_L33 M k57 n (((31 : Int64) * x1) + ((b5).toInt64)) (x3 + (1 : Int32))
set_option maxRecDepth 100000 in
set_option maxHeartbeats 4000000 in
theorem fX6_digest_L33_ok (M : mm_M)  (k57 : Int64 → Option (Int64 × mm_M)) (hk57 : ∀ (x1 : Int64), mm_C LC cX6_digest 5 RX6 (some .long) 6 mm_eL 57 [some (.ref 0), some (.long x1), none, none, none] [] M (k57 x1)) : ∀ (n : Nat) (x1 : Int64) (x3 : Int32), mm_C LC cX6_digest 5 RX6 (some .long) 6 mm_eL 33 [some (.ref 0), some (.long x1), none, some (.int x3), none] [] M (fX6_digest_L33 M k57 n x1 x3) := by
  intro n
  induction n with
  | zero => intro x1 x3; exact mm_none
  | succ n ih =>
    intro x1 x3
    rw [fX6_digest_L33]
    refine mm_iload_n (q := 34) dX6_digest_33 rfl rfl rfl ?_
    refine mm_iconst (q := 35) dX6_digest_34 rfl ic_3 ?_
    refine mm_icmp_ge (q := 38) (tgt := 57) dX6_digest_35 rfl (by decide) (fun c4 => ?_) (fun c4 => ?_)
    · refine mm_drop (ls' := [some (.ref 0), some (.long x1), none, none, none]) (mm_sub_at _ _ (And.intro rfl (And.intro rfl trivial))) ?_
      exact hk57 _
    · refine mm_ldc2 (q := 41) dX6_digest_38 rfl cn_X6_270 ?_
      refine mm_lload_n (q := 42) dX6_digest_41 rfl rfl rfl ?_
      refine mm_lmul (q := 43) dX6_digest_42 rfl ?_
      refine mm_aload_n (q := 44) dX6_digest_43 rfl rfl rfl ?_
      refine mm_iload_n (q := 45) dX6_digest_44 rfl rfl rfl ?_
      refine mm_callVP (as := [.int x3]) (st := [.long ((31 : Int64) * x1)]) (q := 48) lc_0 rfl (fX6_fault_ok x3 M) ms_X6_275 rfl (Nat.le_of_ble_eq_true rfl) (Nat.le_of_ble_eq_true rfl) rfl dX6_digest_45 rfl (fun b5 _ => ?_)
      refine mm_i2l (q := 49) dX6_digest_48 rfl ?_
      refine mm_ladd (q := 50) dX6_digest_49 rfl ?_
      refine mm_lstore_n (q := 51) (ls' := [some (.ref 0), some (.long (((31 : Int64) * x1) + ((b5).toInt64))), none, some (.int x3), none]) dX6_digest_50 rfl rfl rfl (Nat.le_of_ble_eq_true rfl) rfl ?_
      refine mm_iinc (q := 54) (ls' := [some (.ref 0), some (.long (((31 : Int64) * x1) + ((b5).toInt64))), none, some (.int (x3 + (1 : Int32))), none]) dX6_digest_51 rfl rfl (ii_1 _) rfl (Nat.le_of_ble_eq_true rfl) rfl ?_
      refine mm_goto (tgt := 33) dX6_digest_54 (by decide) ?_
      exact ih _ _
def fX6_digest_L68 (x3 : Int32) (M : mm_M) (k95 : Int64 → Option (Int64 × mm_M)) : Nat → Int64 → Int32 → Option (Int64 × mm_M)
  | 0, _, _ => none
  | n + 1, x1, x4 =>
    if (3 : Int32) ≤ x4 then
      k95 x1
    else
      (fX6_meeting x3 x4 M).bind fun b9 =>
      fX6_digest_L68 x3 M k95 n (((31 : Int64) * x1) + ((b9).toInt64)) (x4 + (1 : Int32))
set_option maxRecDepth 100000 in
set_option maxHeartbeats 4000000 in
theorem fX6_digest_L68_ok (x3 : Int32) (M : mm_M)  (k95 : Int64 → Option (Int64 × mm_M)) (hk95 : ∀ (x1 : Int64), mm_C LC cX6_digest 5 RX6 (some .long) 6 mm_eL 95 [some (.ref 0), some (.long x1), none, some (.int x3), none] [] M (k95 x1)) : ∀ (n : Nat) (x1 : Int64) (x4 : Int32), mm_C LC cX6_digest 5 RX6 (some .long) 6 mm_eL 68 [some (.ref 0), some (.long x1), none, some (.int x3), some (.int x4)] [] M (fX6_digest_L68 x3 M k95 n x1 x4) := by
  intro n
  induction n with
  | zero => intro x1 x4; exact mm_none
  | succ n ih =>
    intro x1 x4
    rw [fX6_digest_L68]
    refine mm_iload (q := 70) dX6_digest_68 rfl rfl ?_
    refine mm_iconst (q := 71) dX6_digest_70 rfl ic_3 ?_
    refine mm_icmp_ge (q := 74) (tgt := 95) dX6_digest_71 rfl (by decide) (fun c8 => ?_) (fun c8 => ?_)
    · refine mm_drop (ls' := [some (.ref 0), some (.long x1), none, some (.int x3), none]) (mm_sub_at _ _ (And.intro rfl (And.intro rfl (And.intro rfl trivial)))) ?_
      exact hk95 _
    · refine mm_ldc2 (q := 77) dX6_digest_74 rfl cn_X6_270 ?_
      refine mm_lload_n (q := 78) dX6_digest_77 rfl rfl rfl ?_
      refine mm_lmul (q := 79) dX6_digest_78 rfl ?_
      refine mm_aload_n (q := 80) dX6_digest_79 rfl rfl rfl ?_
      refine mm_iload_n (q := 81) dX6_digest_80 rfl rfl rfl ?_
      refine mm_iload (q := 83) dX6_digest_81 rfl rfl ?_
      refine mm_callVP (as := [.int x3, .int x4]) (st := [.long ((31 : Int64) * x1)]) (q := 86) lc_0 rfl (fX6_meeting_ok x3 x4 M) ms_X6_278 rfl (Nat.le_of_ble_eq_true rfl) (Nat.le_of_ble_eq_true rfl) rfl dX6_digest_83 rfl (fun b9 _ => ?_)
      refine mm_i2l (q := 87) dX6_digest_86 rfl ?_
      refine mm_ladd (q := 88) dX6_digest_87 rfl ?_
      refine mm_lstore_n (q := 89) (ls' := [some (.ref 0), some (.long (((31 : Int64) * x1) + ((b9).toInt64))), none, some (.int x3), some (.int x4)]) dX6_digest_88 rfl rfl rfl (Nat.le_of_ble_eq_true rfl) rfl ?_
      refine mm_iinc (q := 92) (ls' := [some (.ref 0), some (.long (((31 : Int64) * x1) + ((b9).toInt64))), none, some (.int x3), some (.int (x4 + (1 : Int32)))]) dX6_digest_89 rfl rfl (ii_1 _) rfl (Nat.le_of_ble_eq_true rfl) rfl ?_
      refine mm_goto (tgt := 68) dX6_digest_92 (by decide) ?_
      exact ih _ _
def fX6_digest_L59 (M : mm_M) (k101 : Int64 → Option (Int64 × mm_M)) : Nat → Int64 → Int32 → Option (Int64 × mm_M)
  | 0, _, _ => none
  | n + 1, x1, x3 =>
    if (12 : Int32) ≤ x3 then
      k101 x1
    else
      fX6_digest_L68 x3 M (fun z10 =>
      fX6_digest_L59 M k101 n z10 (x3 + (1 : Int32))) 1000 x1 (0 : Int32)
set_option maxRecDepth 100000 in
set_option maxHeartbeats 4000000 in
theorem fX6_digest_L59_ok (M : mm_M)  (k101 : Int64 → Option (Int64 × mm_M)) (hk101 : ∀ (x1 : Int64), mm_C LC cX6_digest 5 RX6 (some .long) 6 mm_eL 101 [some (.ref 0), some (.long x1), none, none, none] [] M (k101 x1)) : ∀ (n : Nat) (x1 : Int64) (x3 : Int32), mm_C LC cX6_digest 5 RX6 (some .long) 6 mm_eL 59 [some (.ref 0), some (.long x1), none, some (.int x3), none] [] M (fX6_digest_L59 M k101 n x1 x3) := by
  intro n
  induction n with
  | zero => intro x1 x3; exact mm_none
  | succ n ih =>
    intro x1 x3
    rw [fX6_digest_L59]
    refine mm_iload_n (q := 60) dX6_digest_59 rfl rfl rfl ?_
    refine mm_bipush (q := 62) dX6_digest_60 rfl bp_12 ?_
    refine mm_icmp_ge (q := 65) (tgt := 101) dX6_digest_62 rfl (by decide) (fun c7 => ?_) (fun c7 => ?_)
    · refine mm_drop (ls' := [some (.ref 0), some (.long x1), none, none, none]) (mm_sub_at _ _ (And.intro rfl (And.intro rfl trivial))) ?_
      exact hk101 _
    · refine mm_iconst (q := 66) dX6_digest_65 rfl ic_0 ?_
      refine mm_istore (q := 68) (ls' := [some (.ref 0), some (.long x1), none, some (.int x3), some (.int (0 : Int32))]) dX6_digest_66 rfl rfl (Nat.le_of_ble_eq_true rfl) rfl ?_
      refine fX6_digest_L68_ok x3 M _ (fun z10 => ?_) _ _ _
      refine mm_iinc (q := 98) (ls' := [some (.ref 0), some (.long z10), none, some (.int (x3 + (1 : Int32))), none]) dX6_digest_95 rfl rfl (ii_1 _) rfl (Nat.le_of_ble_eq_true rfl) rfl ?_
      refine mm_goto (tgt := 59) dX6_digest_98 (by decide) ?_
      exact ih _ _
def fX6_digest_L103  (k127 : Int64 → mm_M → Option (Int64 × mm_M)) : Nat → Int64 → Int32 → mm_M → Option (Int64 × mm_M)
  | 0, _, _, _ => none
  | n + 1, x1, x3, M =>
    if (M 24 3) ≤ x3 then
      k127 x1 M
    else
      (fX6_digestWord x1 x3 M).bind fun b13 =>
      fX6_digest_L103 k127 n b13.1 (x3 + (1 : Int32)) b13.2
set_option maxRecDepth 100000 in
set_option maxHeartbeats 4000000 in
theorem fX6_digest_L103_ok   (k127 : Int64 → mm_M → Option (Int64 × mm_M)) (hk127 : ∀ (x1 : Int64) (M : mm_M), mm_C LC cX6_digest 5 RX6 (some .long) 6 mm_eL 127 [some (.ref 0), some (.long x1), none, none, none] [] M (k127 x1 M)) : ∀ (n : Nat) (x1 : Int64) (x3 : Int32) (M : mm_M), mm_C LC cX6_digest 5 RX6 (some .long) 6 mm_eL 103 [some (.ref 0), some (.long x1), none, some (.int x3), none] [] M (fX6_digest_L103 k127 n x1 x3 M) := by
  intro n
  induction n with
  | zero => intro x1 x3 M; exact mm_none
  | succ n ih =>
    intro x1 x3 M
    rw [fX6_digest_L103]
    refine mm_iload_n (q := 104) dX6_digest_103 rfl rfl rfl ?_
    refine mm_aload_n (q := 105) dX6_digest_104 rfl rfl rfl ?_
    refine mm_getR (q := 108) (k1 := 24) dX6_digest_105 rfl lc_0 fd_X6_38 rfl ?_
    refine mm_getIN (q := 111) dX6_digest_108 rfl lc_24 fd_X6_100 rfl ?_
    refine mm_icmp_ge (q := 114) (tgt := 127) dX6_digest_111 rfl (by decide) (fun c12 => ?_) (fun c12 => ?_)
    · refine mm_drop (ls' := [some (.ref 0), some (.long x1), none, none, none]) (mm_sub_at _ _ (And.intro rfl (And.intro rfl trivial))) ?_
      exact hk127 _ _
    · refine mm_aload_n (q := 115) dX6_digest_114 rfl rfl rfl ?_
      refine mm_lload_n (q := 116) dX6_digest_115 rfl rfl rfl ?_
      refine mm_iload_n (q := 117) dX6_digest_116 rfl rfl rfl ?_
      refine mm_callVL (as := [.long x1, .int x3]) (st := []) (q := 120) lc_0 rfl (fX6_digestWord_ok x1 x3 M) ms_X6_281 rfl (Nat.le_of_ble_eq_true rfl) (Nat.le_of_ble_eq_true rfl) rfl dX6_digest_117 rfl (fun b13 _ => ?_)
      refine mm_lstore_n (q := 121) (ls' := [some (.ref 0), some (.long b13.1), none, some (.int x3), none]) dX6_digest_120 rfl rfl rfl (Nat.le_of_ble_eq_true rfl) rfl ?_
      refine mm_iinc (q := 124) (ls' := [some (.ref 0), some (.long b13.1), none, some (.int (x3 + (1 : Int32))), none]) dX6_digest_121 rfl rfl (ii_1 _) rfl (Nat.le_of_ble_eq_true rfl) rfl ?_
      refine mm_goto (tgt := 103) dX6_digest_124 (by decide) ?_
      exact ih _ _ _
def fX6_digest_L129  (k153 : Int64 → mm_M → Option (Int64 × mm_M)) : Nat → Int64 → Int32 → mm_M → Option (Int64 × mm_M)
  | 0, _, _, _ => none
  | n + 1, x1, x3, M =>
    if (M 24 0) ≤ x3 then
      k153 x1 M
    else
      (fX6_digestPerson x1 x3 M).bind fun b17 =>
      fX6_digest_L129 k153 n b17.1 (x3 + (1 : Int32)) b17.2
set_option maxRecDepth 100000 in
set_option maxHeartbeats 4000000 in
theorem fX6_digest_L129_ok   (k153 : Int64 → mm_M → Option (Int64 × mm_M)) (hk153 : ∀ (x1 : Int64) (M : mm_M), mm_C LC cX6_digest 5 RX6 (some .long) 6 mm_eL 153 [some (.ref 0), some (.long x1), none, none, none] [] M (k153 x1 M)) : ∀ (n : Nat) (x1 : Int64) (x3 : Int32) (M : mm_M), mm_C LC cX6_digest 5 RX6 (some .long) 6 mm_eL 129 [some (.ref 0), some (.long x1), none, some (.int x3), none] [] M (fX6_digest_L129 k153 n x1 x3 M) := by
  intro n
  induction n with
  | zero => intro x1 x3 M; exact mm_none
  | succ n ih =>
    intro x1 x3 M
    rw [fX6_digest_L129]
    refine mm_iload_n (q := 130) dX6_digest_129 rfl rfl rfl ?_
    refine mm_aload_n (q := 131) dX6_digest_130 rfl rfl rfl ?_
    refine mm_getR (q := 134) (k1 := 24) dX6_digest_131 rfl lc_0 fd_X6_38 rfl ?_
    refine mm_getIN (q := 137) dX6_digest_134 rfl lc_24 fd_X6_90 rfl ?_
    refine mm_icmp_ge (q := 140) (tgt := 153) dX6_digest_137 rfl (by decide) (fun c16 => ?_) (fun c16 => ?_)
    · refine mm_drop (ls' := [some (.ref 0), some (.long x1), none, none, none]) (mm_sub_at _ _ (And.intro rfl (And.intro rfl trivial))) ?_
      exact hk153 _ _
    · refine mm_aload_n (q := 141) dX6_digest_140 rfl rfl rfl ?_
      refine mm_lload_n (q := 142) dX6_digest_141 rfl rfl rfl ?_
      refine mm_iload_n (q := 143) dX6_digest_142 rfl rfl rfl ?_
      refine mm_callVL (as := [.long x1, .int x3]) (st := []) (q := 146) lc_0 rfl (fX6_digestPerson_ok x1 x3 M) ms_X6_284 rfl (Nat.le_of_ble_eq_true rfl) (Nat.le_of_ble_eq_true rfl) rfl dX6_digest_143 rfl (fun b17 _ => ?_)
      refine mm_lstore_n (q := 147) (ls' := [some (.ref 0), some (.long b17.1), none, some (.int x3), none]) dX6_digest_146 rfl rfl rfl (Nat.le_of_ble_eq_true rfl) rfl ?_
      refine mm_iinc (q := 150) (ls' := [some (.ref 0), some (.long b17.1), none, some (.int (x3 + (1 : Int32))), none]) dX6_digest_147 rfl rfl (ii_1 _) rfl (Nat.le_of_ble_eq_true rfl) rfl ?_
      refine mm_goto (tgt := 129) dX6_digest_150 (by decide) ?_
      exact ih _ _ _
def fX6_digest_L155  (k208 : Int64 → mm_M → Option (Int64 × mm_M)) : Nat → Int64 → Int32 → mm_M → Option (Int64 × mm_M)
  | 0, _, _, _ => none
  | n + 1, x1, x3, M =>
    if (24 : Int32) ≤ x3 then
      k208 x1 M
    else
      (fX6_bank x3 M).bind fun b21 =>
      (fX6_ring x3 (0 : Int32) b21.2).bind fun b22 =>
      (fX6_ring x3 (1 : Int32) b22.2).bind fun b23 =>
      fX6_digest_L155 k208 n (((31 : Int64) * (((31 : Int64) * (((31 : Int64) * x1) + ((b21.1).toInt64))) + ((b22.1).toInt64))) + ((b23.1).toInt64)) (x3 + (1 : Int32)) b23.2
set_option maxRecDepth 100000 in
set_option maxHeartbeats 4000000 in
theorem fX6_digest_L155_ok   (k208 : Int64 → mm_M → Option (Int64 × mm_M)) (hk208 : ∀ (x1 : Int64) (M : mm_M), mm_C LC cX6_digest 5 RX6 (some .long) 6 mm_eL 208 [some (.ref 0), some (.long x1), none, none, none] [] M (k208 x1 M)) : ∀ (n : Nat) (x1 : Int64) (x3 : Int32) (M : mm_M), mm_C LC cX6_digest 5 RX6 (some .long) 6 mm_eL 155 [some (.ref 0), some (.long x1), none, some (.int x3), none] [] M (fX6_digest_L155 k208 n x1 x3 M) := by
  intro n
  induction n with
  | zero => intro x1 x3 M; exact mm_none
  | succ n ih =>
    intro x1 x3 M
    rw [fX6_digest_L155]
    refine mm_iload_n (q := 156) dX6_digest_155 rfl rfl rfl ?_
    refine mm_bipush (q := 158) dX6_digest_156 rfl bp_24 ?_
    refine mm_icmp_ge (q := 161) (tgt := 208) dX6_digest_158 rfl (by decide) (fun c20 => ?_) (fun c20 => ?_)
    · refine mm_drop (ls' := [some (.ref 0), some (.long x1), none, none, none]) (mm_sub_at _ _ (And.intro rfl (And.intro rfl trivial))) ?_
      exact hk208 _ _
    · refine mm_ldc2 (q := 164) dX6_digest_161 rfl cn_X6_270 ?_
      refine mm_lload_n (q := 165) dX6_digest_164 rfl rfl rfl ?_
      refine mm_lmul (q := 166) dX6_digest_165 rfl ?_
      refine mm_aload_n (q := 167) dX6_digest_166 rfl rfl rfl ?_
      refine mm_iload_n (q := 168) dX6_digest_167 rfl rfl rfl ?_
      refine mm_callVI (as := [.int x3]) (st := [.long ((31 : Int64) * x1)]) (q := 171) lc_0 rfl (fX6_bank_ok x3 M) ms_X6_287 rfl (Nat.le_of_ble_eq_true rfl) (Nat.le_of_ble_eq_true rfl) rfl dX6_digest_168 rfl (fun b21 _ => ?_)
      refine mm_i2l (q := 172) dX6_digest_171 rfl ?_
      refine mm_ladd (q := 173) dX6_digest_172 rfl ?_
      refine mm_lstore_n (q := 174) (ls' := [some (.ref 0), some (.long (((31 : Int64) * x1) + ((b21.1).toInt64))), none, some (.int x3), none]) dX6_digest_173 rfl rfl rfl (Nat.le_of_ble_eq_true rfl) rfl ?_
      refine mm_ldc2 (q := 177) dX6_digest_174 rfl cn_X6_270 ?_
      refine mm_lload_n (q := 178) dX6_digest_177 rfl rfl rfl ?_
      refine mm_lmul (q := 179) dX6_digest_178 rfl ?_
      refine mm_aload_n (q := 180) dX6_digest_179 rfl rfl rfl ?_
      refine mm_iload_n (q := 181) dX6_digest_180 rfl rfl rfl ?_
      refine mm_iconst (q := 182) dX6_digest_181 rfl ic_0 ?_
      refine mm_callVI (as := [.int x3, .int (0 : Int32)]) (st := [.long ((31 : Int64) * (((31 : Int64) * x1) + ((b21.1).toInt64)))]) (q := 185) lc_0 rfl (fX6_ring_ok x3 (0 : Int32) b21.2) ms_X6_290 rfl (Nat.le_of_ble_eq_true rfl) (Nat.le_of_ble_eq_true rfl) rfl dX6_digest_182 rfl (fun b22 _ => ?_)
      refine mm_i2l (q := 186) dX6_digest_185 rfl ?_
      refine mm_ladd (q := 187) dX6_digest_186 rfl ?_
      refine mm_lstore_n (q := 188) (ls' := [some (.ref 0), some (.long (((31 : Int64) * (((31 : Int64) * x1) + ((b21.1).toInt64))) + ((b22.1).toInt64))), none, some (.int x3), none]) dX6_digest_187 rfl rfl rfl (Nat.le_of_ble_eq_true rfl) rfl ?_
      refine mm_ldc2 (q := 191) dX6_digest_188 rfl cn_X6_270 ?_
      refine mm_lload_n (q := 192) dX6_digest_191 rfl rfl rfl ?_
      refine mm_lmul (q := 193) dX6_digest_192 rfl ?_
      refine mm_aload_n (q := 194) dX6_digest_193 rfl rfl rfl ?_
      refine mm_iload_n (q := 195) dX6_digest_194 rfl rfl rfl ?_
      refine mm_iconst (q := 196) dX6_digest_195 rfl ic_1 ?_
      refine mm_callVI (as := [.int x3, .int (1 : Int32)]) (st := [.long ((31 : Int64) * (((31 : Int64) * (((31 : Int64) * x1) + ((b21.1).toInt64))) + ((b22.1).toInt64)))]) (q := 199) lc_0 rfl (fX6_ring_ok x3 (1 : Int32) b22.2) ms_X6_290 rfl (Nat.le_of_ble_eq_true rfl) (Nat.le_of_ble_eq_true rfl) rfl dX6_digest_196 rfl (fun b23 _ => ?_)
      refine mm_i2l (q := 200) dX6_digest_199 rfl ?_
      refine mm_ladd (q := 201) dX6_digest_200 rfl ?_
      refine mm_lstore_n (q := 202) (ls' := [some (.ref 0), some (.long (((31 : Int64) * (((31 : Int64) * (((31 : Int64) * x1) + ((b21.1).toInt64))) + ((b22.1).toInt64))) + ((b23.1).toInt64))), none, some (.int x3), none]) dX6_digest_201 rfl rfl rfl (Nat.le_of_ble_eq_true rfl) rfl ?_
      refine mm_iinc (q := 205) (ls' := [some (.ref 0), some (.long (((31 : Int64) * (((31 : Int64) * (((31 : Int64) * x1) + ((b21.1).toInt64))) + ((b22.1).toInt64))) + ((b23.1).toInt64))), none, some (.int (x3 + (1 : Int32))), none]) dX6_digest_202 rfl rfl (ii_1 _) rfl (Nat.le_of_ble_eq_true rfl) rfl ?_
      refine mm_goto (tgt := 155) dX6_digest_205 (by decide) ?_
      exact ih _ _ _
def fX6_digest_L222  (k248 : Int64 → mm_M → Option (Int64 × mm_M)) : Nat → Int64 → Int32 → mm_M → Option (Int64 × mm_M)
  | 0, _, _, _ => none
  | n + 1, x1, x3, M =>
    if (3 : Int32) ≤ x3 then
      k248 x1 M
    else
      (fX6_meet (8 : Int32) x3 M).bind fun b28 =>
      fX6_digest_L222 k248 n (((31 : Int64) * x1) + ((b28.1).toInt64)) (x3 + (1 : Int32)) b28.2
set_option maxRecDepth 100000 in
set_option maxHeartbeats 4000000 in
theorem fX6_digest_L222_ok   (k248 : Int64 → mm_M → Option (Int64 × mm_M)) (hk248 : ∀ (x1 : Int64) (M : mm_M), mm_C LC cX6_digest 5 RX6 (some .long) 6 mm_eL 248 [some (.ref 0), some (.long x1), none, none, none] [] M (k248 x1 M)) : ∀ (n : Nat) (x1 : Int64) (x3 : Int32) (M : mm_M), mm_C LC cX6_digest 5 RX6 (some .long) 6 mm_eL 222 [some (.ref 0), some (.long x1), none, some (.int x3), none] [] M (fX6_digest_L222 k248 n x1 x3 M) := by
  intro n
  induction n with
  | zero => intro x1 x3 M; exact mm_none
  | succ n ih =>
    intro x1 x3 M
    rw [fX6_digest_L222]
    refine mm_iload_n (q := 223) dX6_digest_222 rfl rfl rfl ?_
    refine mm_iconst (q := 224) dX6_digest_223 rfl ic_3 ?_
    refine mm_icmp_ge (q := 227) (tgt := 248) dX6_digest_224 rfl (by decide) (fun c27 => ?_) (fun c27 => ?_)
    · refine mm_drop (ls' := [some (.ref 0), some (.long x1), none, none, none]) (mm_sub_at _ _ (And.intro rfl (And.intro rfl trivial))) ?_
      exact hk248 _ _
    · refine mm_ldc2 (q := 230) dX6_digest_227 rfl cn_X6_270 ?_
      refine mm_lload_n (q := 231) dX6_digest_230 rfl rfl rfl ?_
      refine mm_lmul (q := 232) dX6_digest_231 rfl ?_
      refine mm_aload_n (q := 233) dX6_digest_232 rfl rfl rfl ?_
      refine mm_bipush (q := 235) dX6_digest_233 rfl bp_8 ?_
      refine mm_iload_n (q := 236) dX6_digest_235 rfl rfl rfl ?_
      refine mm_callVI (as := [.int (8 : Int32), .int x3]) (st := [.long ((31 : Int64) * x1)]) (q := 239) lc_0 rfl (fX6_meet_ok (8 : Int32) x3 M) ms_X6_296 rfl (Nat.le_of_ble_eq_true rfl) (Nat.le_of_ble_eq_true rfl) rfl dX6_digest_236 rfl (fun b28 _ => ?_)
      refine mm_i2l (q := 240) dX6_digest_239 rfl ?_
      refine mm_ladd (q := 241) dX6_digest_240 rfl ?_
      refine mm_lstore_n (q := 242) (ls' := [some (.ref 0), some (.long (((31 : Int64) * x1) + ((b28.1).toInt64))), none, some (.int x3), none]) dX6_digest_241 rfl rfl rfl (Nat.le_of_ble_eq_true rfl) rfl ?_
      refine mm_iinc (q := 245) (ls' := [some (.ref 0), some (.long (((31 : Int64) * x1) + ((b28.1).toInt64))), none, some (.int (x3 + (1 : Int32))), none]) dX6_digest_242 rfl rfl (ii_1 _) rfl (Nat.le_of_ble_eq_true rfl) rfl ?_
      refine mm_goto (tgt := 222) dX6_digest_245 (by decide) ?_
      exact ih _ _ _
def fX6_digest  (M : mm_M) : Option (Int64 × mm_M) :=
  fX6_digest_L6 M (fun z3 =>
      fX6_digest_L33 M (fun z6 =>
      fX6_digest_L59 M (fun z11 =>
      fX6_digest_L103 (fun z14 M15 =>
      fX6_digest_L129 (fun z18 M19 =>
      fX6_digest_L155 (fun z24 M25 =>
      (fX6_silent M25).bind fun b26 =>
      fX6_digest_L222 (fun z29 M30 =>
      (fX6_voice (0 : Int32) M30).bind fun b31 =>
      (fX6_voice (1 : Int32) b31.2).bind fun b32 =>
      (fX6_spare (-1 : Int32) b32.2).bind fun b33 =>
      (fX6_spare (0 : Int32) b33.2).bind fun b34 =>
      (fX6_never b34.2).bind fun b35 =>
      (fX6_lives (7 : Int32) (9 : Int32) (0 : Int32) b35.2).bind fun b36 =>
      (fX6_lives (7 : Int32) (9 : Int32) (1 : Int32) b36.2).bind fun b37 =>
      some (((31 : Int64) * (((31 : Int64) * (((31 : Int64) * (((31 : Int64) * (((31 : Int64) * (((31 : Int64) * (((31 : Int64) * z29) + ((b31.1).toInt64))) + ((b32.1).toInt64))) + ((b33.1).toInt64))) + ((b34.1).toInt64))) + ((b35.1).toInt64))) + ((b36.1).toInt64))) + ((b37.1).toInt64), b37.2)) 1000 (((31 : Int64) * z24) + ((b26.1).toInt64)) (0 : Int32) b26.2) 1000 z18 (0 : Int32) M19) 1000 z14 (0 : Int32) M15) 1000 z11 (0 : Int32) M) 1000 z6 (0 : Int32)) 1000 z3 (0 : Int32)) 1000 (17 : Int64) (0 : Int32)
set_option maxRecDepth 100000 in
set_option maxHeartbeats 4000000 in
theorem fX6_digest_ok  (M : mm_M)  : mm_E LC yX6_digest cX6_digest 5 (some .long) 6 mm_eL [.ref 0] M (fX6_digest M) := by
  refine mm_E.of (own := RX6) (ls := [some (.ref 0), none, none, none, none]) (by decide) rfl rfl (Nat.le_of_ble_eq_true rfl) ?_
  unfold fX6_digest
  refine mm_ldc2 (q := 3) dX6_digest_0 rfl cn_X6_268 ?_
  refine mm_lstore_n (q := 4) (ls' := [some (.ref 0), some (.long (17 : Int64)), none, none, none]) dX6_digest_3 rfl rfl rfl (Nat.le_of_ble_eq_true rfl) rfl ?_
  refine mm_iconst (q := 5) dX6_digest_4 rfl ic_0 ?_
  refine mm_istore_n (q := 6) (ls' := [some (.ref 0), some (.long (17 : Int64)), none, some (.int (0 : Int32)), none]) dX6_digest_5 rfl rfl rfl (Nat.le_of_ble_eq_true rfl) rfl ?_
  refine fX6_digest_L6_ok M _ (fun z3 => ?_) _ _ _
  refine mm_iconst (q := 32) dX6_digest_31 rfl ic_0 ?_
  refine mm_istore_n (q := 33) (ls' := [some (.ref 0), some (.long z3), none, some (.int (0 : Int32)), none]) dX6_digest_32 rfl rfl rfl (Nat.le_of_ble_eq_true rfl) rfl ?_
  refine fX6_digest_L33_ok M _ (fun z6 => ?_) _ _ _
  refine mm_iconst (q := 58) dX6_digest_57 rfl ic_0 ?_
  refine mm_istore_n (q := 59) (ls' := [some (.ref 0), some (.long z6), none, some (.int (0 : Int32)), none]) dX6_digest_58 rfl rfl rfl (Nat.le_of_ble_eq_true rfl) rfl ?_
  refine fX6_digest_L59_ok M _ (fun z11 => ?_) _ _ _
  refine mm_iconst (q := 102) dX6_digest_101 rfl ic_0 ?_
  refine mm_istore_n (q := 103) (ls' := [some (.ref 0), some (.long z11), none, some (.int (0 : Int32)), none]) dX6_digest_102 rfl rfl rfl (Nat.le_of_ble_eq_true rfl) rfl ?_
  refine fX6_digest_L103_ok _ (fun z14 M15 => ?_) _ _ _ _
  refine mm_iconst (q := 128) dX6_digest_127 rfl ic_0 ?_
  refine mm_istore_n (q := 129) (ls' := [some (.ref 0), some (.long z14), none, some (.int (0 : Int32)), none]) dX6_digest_128 rfl rfl rfl (Nat.le_of_ble_eq_true rfl) rfl ?_
  refine fX6_digest_L129_ok _ (fun z18 M19 => ?_) _ _ _ _
  refine mm_iconst (q := 154) dX6_digest_153 rfl ic_0 ?_
  refine mm_istore_n (q := 155) (ls' := [some (.ref 0), some (.long z18), none, some (.int (0 : Int32)), none]) dX6_digest_154 rfl rfl rfl (Nat.le_of_ble_eq_true rfl) rfl ?_
  refine fX6_digest_L155_ok _ (fun z24 M25 => ?_) _ _ _ _
  refine mm_ldc2 (q := 211) dX6_digest_208 rfl cn_X6_270 ?_
  refine mm_lload_n (q := 212) dX6_digest_211 rfl rfl rfl ?_
  refine mm_lmul (q := 213) dX6_digest_212 rfl ?_
  refine mm_aload_n (q := 214) dX6_digest_213 rfl rfl rfl ?_
  refine mm_callVI (as := []) (st := [.long ((31 : Int64) * z24)]) (q := 217) lc_0 rfl (fX6_silent_ok M25) ms_X6_293 rfl (Nat.le_of_ble_eq_true rfl) (Nat.le_of_ble_eq_true rfl) rfl dX6_digest_214 rfl (fun b26 _ => ?_)
  refine mm_i2l (q := 218) dX6_digest_217 rfl ?_
  refine mm_ladd (q := 219) dX6_digest_218 rfl ?_
  refine mm_lstore_n (q := 220) (ls' := [some (.ref 0), some (.long (((31 : Int64) * z24) + ((b26.1).toInt64))), none, none, none]) dX6_digest_219 rfl rfl rfl (Nat.le_of_ble_eq_true rfl) rfl ?_
  refine mm_iconst (q := 221) dX6_digest_220 rfl ic_0 ?_
  refine mm_istore_n (q := 222) (ls' := [some (.ref 0), some (.long (((31 : Int64) * z24) + ((b26.1).toInt64))), none, some (.int (0 : Int32)), none]) dX6_digest_221 rfl rfl rfl (Nat.le_of_ble_eq_true rfl) rfl ?_
  refine fX6_digest_L222_ok _ (fun z29 M30 => ?_) _ _ _ _
  refine mm_ldc2 (q := 251) dX6_digest_248 rfl cn_X6_270 ?_
  refine mm_lload_n (q := 252) dX6_digest_251 rfl rfl rfl ?_
  refine mm_lmul (q := 253) dX6_digest_252 rfl ?_
  refine mm_aload_n (q := 254) dX6_digest_253 rfl rfl rfl ?_
  refine mm_iconst (q := 255) dX6_digest_254 rfl ic_0 ?_
  refine mm_callVI (as := [.int (0 : Int32)]) (st := [.long ((31 : Int64) * z29)]) (q := 258) lc_0 rfl (fX6_voice_ok (0 : Int32) M30) ms_X6_299 rfl (Nat.le_of_ble_eq_true rfl) (Nat.le_of_ble_eq_true rfl) rfl dX6_digest_255 rfl (fun b31 _ => ?_)
  refine mm_i2l (q := 259) dX6_digest_258 rfl ?_
  refine mm_ladd (q := 260) dX6_digest_259 rfl ?_
  refine mm_lstore_n (q := 261) (ls' := [some (.ref 0), some (.long (((31 : Int64) * z29) + ((b31.1).toInt64))), none, none, none]) dX6_digest_260 rfl rfl rfl (Nat.le_of_ble_eq_true rfl) rfl ?_
  refine mm_ldc2 (q := 264) dX6_digest_261 rfl cn_X6_270 ?_
  refine mm_lload_n (q := 265) dX6_digest_264 rfl rfl rfl ?_
  refine mm_lmul (q := 266) dX6_digest_265 rfl ?_
  refine mm_aload_n (q := 267) dX6_digest_266 rfl rfl rfl ?_
  refine mm_iconst (q := 268) dX6_digest_267 rfl ic_1 ?_
  refine mm_callVI (as := [.int (1 : Int32)]) (st := [.long ((31 : Int64) * (((31 : Int64) * z29) + ((b31.1).toInt64)))]) (q := 271) lc_0 rfl (fX6_voice_ok (1 : Int32) b31.2) ms_X6_299 rfl (Nat.le_of_ble_eq_true rfl) (Nat.le_of_ble_eq_true rfl) rfl dX6_digest_268 rfl (fun b32 _ => ?_)
  refine mm_i2l (q := 272) dX6_digest_271 rfl ?_
  refine mm_ladd (q := 273) dX6_digest_272 rfl ?_
  refine mm_lstore_n (q := 274) (ls' := [some (.ref 0), some (.long (((31 : Int64) * (((31 : Int64) * z29) + ((b31.1).toInt64))) + ((b32.1).toInt64))), none, none, none]) dX6_digest_273 rfl rfl rfl (Nat.le_of_ble_eq_true rfl) rfl ?_
  refine mm_ldc2 (q := 277) dX6_digest_274 rfl cn_X6_270 ?_
  refine mm_lload_n (q := 278) dX6_digest_277 rfl rfl rfl ?_
  refine mm_lmul (q := 279) dX6_digest_278 rfl ?_
  refine mm_aload_n (q := 280) dX6_digest_279 rfl rfl rfl ?_
  refine mm_iconst (q := 281) dX6_digest_280 rfl ic_m1 ?_
  refine mm_callVI (as := [.int (-1 : Int32)]) (st := [.long ((31 : Int64) * (((31 : Int64) * (((31 : Int64) * z29) + ((b31.1).toInt64))) + ((b32.1).toInt64)))]) (q := 284) lc_0 rfl (fX6_spare_ok (-1 : Int32) b32.2) ms_X6_302 rfl (Nat.le_of_ble_eq_true rfl) (Nat.le_of_ble_eq_true rfl) rfl dX6_digest_281 rfl (fun b33 _ => ?_)
  refine mm_i2l (q := 285) dX6_digest_284 rfl ?_
  refine mm_ladd (q := 286) dX6_digest_285 rfl ?_
  refine mm_lstore_n (q := 287) (ls' := [some (.ref 0), some (.long (((31 : Int64) * (((31 : Int64) * (((31 : Int64) * z29) + ((b31.1).toInt64))) + ((b32.1).toInt64))) + ((b33.1).toInt64))), none, none, none]) dX6_digest_286 rfl rfl rfl (Nat.le_of_ble_eq_true rfl) rfl ?_
  refine mm_ldc2 (q := 290) dX6_digest_287 rfl cn_X6_270 ?_
  refine mm_lload_n (q := 291) dX6_digest_290 rfl rfl rfl ?_
  refine mm_lmul (q := 292) dX6_digest_291 rfl ?_
  refine mm_aload_n (q := 293) dX6_digest_292 rfl rfl rfl ?_
  refine mm_iconst (q := 294) dX6_digest_293 rfl ic_0 ?_
  refine mm_callVI (as := [.int (0 : Int32)]) (st := [.long ((31 : Int64) * (((31 : Int64) * (((31 : Int64) * (((31 : Int64) * z29) + ((b31.1).toInt64))) + ((b32.1).toInt64))) + ((b33.1).toInt64)))]) (q := 297) lc_0 rfl (fX6_spare_ok (0 : Int32) b33.2) ms_X6_302 rfl (Nat.le_of_ble_eq_true rfl) (Nat.le_of_ble_eq_true rfl) rfl dX6_digest_294 rfl (fun b34 _ => ?_)
  refine mm_i2l (q := 298) dX6_digest_297 rfl ?_
  refine mm_ladd (q := 299) dX6_digest_298 rfl ?_
  refine mm_lstore_n (q := 300) (ls' := [some (.ref 0), some (.long (((31 : Int64) * (((31 : Int64) * (((31 : Int64) * (((31 : Int64) * z29) + ((b31.1).toInt64))) + ((b32.1).toInt64))) + ((b33.1).toInt64))) + ((b34.1).toInt64))), none, none, none]) dX6_digest_299 rfl rfl rfl (Nat.le_of_ble_eq_true rfl) rfl ?_
  refine mm_ldc2 (q := 303) dX6_digest_300 rfl cn_X6_270 ?_
  refine mm_lload_n (q := 304) dX6_digest_303 rfl rfl rfl ?_
  refine mm_lmul (q := 305) dX6_digest_304 rfl ?_
  refine mm_aload_n (q := 306) dX6_digest_305 rfl rfl rfl ?_
  refine mm_callVI (as := []) (st := [.long ((31 : Int64) * (((31 : Int64) * (((31 : Int64) * (((31 : Int64) * (((31 : Int64) * z29) + ((b31.1).toInt64))) + ((b32.1).toInt64))) + ((b33.1).toInt64))) + ((b34.1).toInt64)))]) (q := 309) lc_0 rfl (fX6_never_ok b34.2) ms_X6_305 rfl (Nat.le_of_ble_eq_true rfl) (Nat.le_of_ble_eq_true rfl) rfl dX6_digest_306 rfl (fun b35 _ => ?_)
  refine mm_i2l (q := 310) dX6_digest_309 rfl ?_
  refine mm_ladd (q := 311) dX6_digest_310 rfl ?_
  refine mm_lstore_n (q := 312) (ls' := [some (.ref 0), some (.long (((31 : Int64) * (((31 : Int64) * (((31 : Int64) * (((31 : Int64) * (((31 : Int64) * z29) + ((b31.1).toInt64))) + ((b32.1).toInt64))) + ((b33.1).toInt64))) + ((b34.1).toInt64))) + ((b35.1).toInt64))), none, none, none]) dX6_digest_311 rfl rfl rfl (Nat.le_of_ble_eq_true rfl) rfl ?_
  refine mm_ldc2 (q := 315) dX6_digest_312 rfl cn_X6_270 ?_
  refine mm_lload_n (q := 316) dX6_digest_315 rfl rfl rfl ?_
  refine mm_lmul (q := 317) dX6_digest_316 rfl ?_
  refine mm_aload_n (q := 318) dX6_digest_317 rfl rfl rfl ?_
  refine mm_bipush (q := 320) dX6_digest_318 rfl bp_7 ?_
  refine mm_bipush (q := 322) dX6_digest_320 rfl bp_9 ?_
  refine mm_iconst (q := 323) dX6_digest_322 rfl ic_0 ?_
  refine mm_callVI (as := [.int (7 : Int32), .int (9 : Int32), .int (0 : Int32)]) (st := [.long ((31 : Int64) * (((31 : Int64) * (((31 : Int64) * (((31 : Int64) * (((31 : Int64) * (((31 : Int64) * z29) + ((b31.1).toInt64))) + ((b32.1).toInt64))) + ((b33.1).toInt64))) + ((b34.1).toInt64))) + ((b35.1).toInt64)))]) (q := 326) lc_0 rfl (fX6_lives_ok (7 : Int32) (9 : Int32) (0 : Int32) b35.2) ms_X6_308 rfl (Nat.le_of_ble_eq_true rfl) (Nat.le_of_ble_eq_true rfl) rfl dX6_digest_323 rfl (fun b36 _ => ?_)
  refine mm_i2l (q := 327) dX6_digest_326 rfl ?_
  refine mm_ladd (q := 328) dX6_digest_327 rfl ?_
  refine mm_lstore_n (q := 329) (ls' := [some (.ref 0), some (.long (((31 : Int64) * (((31 : Int64) * (((31 : Int64) * (((31 : Int64) * (((31 : Int64) * (((31 : Int64) * z29) + ((b31.1).toInt64))) + ((b32.1).toInt64))) + ((b33.1).toInt64))) + ((b34.1).toInt64))) + ((b35.1).toInt64))) + ((b36.1).toInt64))), none, none, none]) dX6_digest_328 rfl rfl rfl (Nat.le_of_ble_eq_true rfl) rfl ?_
  refine mm_ldc2 (q := 332) dX6_digest_329 rfl cn_X6_270 ?_
  refine mm_lload_n (q := 333) dX6_digest_332 rfl rfl rfl ?_
  refine mm_lmul (q := 334) dX6_digest_333 rfl ?_
  refine mm_aload_n (q := 335) dX6_digest_334 rfl rfl rfl ?_
  refine mm_bipush (q := 337) dX6_digest_335 rfl bp_7 ?_
  refine mm_bipush (q := 339) dX6_digest_337 rfl bp_9 ?_
  refine mm_iconst (q := 340) dX6_digest_339 rfl ic_1 ?_
  refine mm_callVI (as := [.int (7 : Int32), .int (9 : Int32), .int (1 : Int32)]) (st := [.long ((31 : Int64) * (((31 : Int64) * (((31 : Int64) * (((31 : Int64) * (((31 : Int64) * (((31 : Int64) * (((31 : Int64) * z29) + ((b31.1).toInt64))) + ((b32.1).toInt64))) + ((b33.1).toInt64))) + ((b34.1).toInt64))) + ((b35.1).toInt64))) + ((b36.1).toInt64)))]) (q := 343) lc_0 rfl (fX6_lives_ok (7 : Int32) (9 : Int32) (1 : Int32) b36.2) ms_X6_308 rfl (Nat.le_of_ble_eq_true rfl) (Nat.le_of_ble_eq_true rfl) rfl dX6_digest_340 rfl (fun b37 _ => ?_)
  refine mm_i2l (q := 344) dX6_digest_343 rfl ?_
  refine mm_ladd (q := 345) dX6_digest_344 rfl ?_
  exact mm_lret rfl dX6_digest_345
def fX6_echo (x1 : Int32) (x2 : Int32) (M : mm_M) : Option (Int32 × mm_M) :=
  if (fX2_mayBe x1 x2) = 0 then
    some ((-2 : Int32), M)
  else
    if (fX2_isFull M) = 0 then
      ((fX2_append x1 x2 M).bind fun M3 =>
      (fX6_courseChanged M3).bind fun M4 =>
      some (M4 17 2, M4))
    else
      some ((-4 : Int32), M)
set_option maxRecDepth 100000 in
set_option maxHeartbeats 4000000 in
theorem fX6_echo_ok (x1 : Int32) (x2 : Int32) (M : mm_M)  : mm_E LC yX6_echo cX6_echo 3 (some .int) 2 mm_eI [.ref 0, .int x1, .int x2] M (fX6_echo x1 x2 M) := by
  refine mm_E.of (own := RX6) (ls := [some (.ref 0), some (.int x1), some (.int x2)]) (by decide) rfl rfl (Nat.le_of_ble_eq_true rfl) ?_
  unfold fX6_echo
  refine mm_iload_n (q := 1) dX6_echo_0 rfl rfl rfl ?_
  refine mm_iload_n (q := 2) dX6_echo_1 rfl rfl rfl ?_
  refine mm_callST (as := [.int x1, .int x2]) (st := []) (q := 5) (fX2_mayBe_ok x1 x2 M) ms_X6_124 rfl (Nat.le_of_ble_eq_true rfl) (Nat.le_of_ble_eq_true rfl) rfl dX6_echo_2 rfl ?_
  refine mm_if_ne (q := 8) (tgt := 11) dX6_echo_5 rfl (by decide) (fun c1 => ?_) (fun c1 => ?_)
  · refine mm_bipush (q := 10) dX6_echo_8 rfl bp_m2 ?_
    exact mm_iret rfl dX6_echo_10
  · refine mm_aload_n (q := 12) dX6_echo_11 rfl rfl rfl ?_
    refine mm_getR (q := 15) (k1 := 17) dX6_echo_12 rfl lc_0 fd_X6_18 rfl ?_
    refine mm_callVT (as := []) (st := []) (q := 18) lc_17 rfl (fX2_isFull_ok M) ms_X6_127 rfl (Nat.le_of_ble_eq_true rfl) (Nat.le_of_ble_eq_true rfl) rfl dX6_echo_15 rfl ?_
    refine mm_if_eq (q := 21) (tgt := 24) dX6_echo_18 rfl (by decide) (fun c2 => ?_) (fun c2 => ?_)
    · refine mm_aload_n (q := 25) dX6_echo_24 rfl rfl rfl ?_
      refine mm_getR (q := 28) (k1 := 17) dX6_echo_25 rfl lc_0 fd_X6_18 rfl ?_
      refine mm_iload_n (q := 29) dX6_echo_28 rfl rfl rfl ?_
      refine mm_iload_n (q := 30) dX6_echo_29 rfl rfl rfl ?_
      refine mm_callVV (as := [.int x1, .int x2]) (st := []) (q := 33) lc_17 rfl (fX2_append_ok x1 x2 M) ms_X6_128 rfl (Nat.le_of_ble_eq_true rfl) (Nat.le_of_ble_eq_true rfl) rfl dX6_echo_30 rfl (fun M3 _ => ?_)
      refine mm_aload_n (q := 34) dX6_echo_33 rfl rfl rfl ?_
      refine mm_callVV (as := []) (st := []) (q := 37) lc_0 rfl (fX6_courseChanged_ok M3) ms_X6_131 rfl (Nat.le_of_ble_eq_true rfl) (Nat.le_of_ble_eq_true rfl) rfl dX6_echo_34 rfl (fun M4 _ => ?_)
      refine mm_aload_n (q := 38) dX6_echo_37 rfl rfl rfl ?_
      refine mm_getR (q := 41) (k1 := 17) dX6_echo_38 rfl lc_0 fd_X6_18 rfl ?_
      refine mm_getIN (q := 44) dX6_echo_41 rfl lc_17 fd_X6_134 rfl ?_
      exact mm_iret rfl dX6_echo_44
    · refine mm_bipush (q := 23) dX6_echo_21 rfl bp_m4 ?_
      exact mm_iret rfl dX6_echo_23
def fX6_forget  (M : mm_M) : Option (Int32 × mm_M) :=
  (mm_pf M 20 3 (0 : Int32)).bind fun M1 =>
  some (M 20 3, M1)
set_option maxRecDepth 100000 in
set_option maxHeartbeats 4000000 in
theorem fX6_forget_ok  (M : mm_M)  : mm_E LC yX6_forget cX6_forget 2 (some .int) 0 mm_eI [.ref 0] M (fX6_forget M) := by
  refine mm_E.of (own := RX6) (ls := [some (.ref 0), none]) (by decide) rfl rfl (Nat.le_of_ble_eq_true rfl) ?_
  unfold fX6_forget
  refine mm_aload_n (q := 1) dX6_forget_0 rfl rfl rfl ?_
  refine mm_getR (q := 4) (k1 := 20) dX6_forget_1 rfl lc_0 fd_X6_25 rfl ?_
  refine mm_getIN (q := 7) dX6_forget_4 rfl lc_20 fd_X6_212 rfl ?_
  refine mm_istore_n (q := 8) (ls' := [some (.ref 0), some (.int (M 20 3))]) dX6_forget_7 rfl rfl rfl (Nat.le_of_ble_eq_true rfl) rfl ?_
  refine mm_aload_n (q := 9) dX6_forget_8 rfl rfl rfl ?_
  refine mm_getR (q := 12) (k1 := 20) dX6_forget_9 rfl lc_0 fd_X6_25 rfl ?_
  refine mm_iconst (q := 13) dX6_forget_12 rfl ic_0 ?_
  refine mm_putN (q := 16) dX6_forget_13 rfl lc_20 fd_X6_212 ps_X0_3 rfl rfl rfl (fun M1 _ => ?_)
  refine mm_iload_n (q := 17) dX6_forget_16 rfl rfl rfl ?_
  exact mm_iret rfl dX6_forget_17
def fX6_whatIsAmiss (r0 : Nat) (x1 : Int32) (x2 : Int32) (M : mm_M) : Int32 :=
  if (fX3_isLost r0 M) = 0 then
    (if (M r0 1) = x1 then
      (if (fX6_isOutside x2 (M r0 2)) = 0 then
        (0 : Int32)
      else
        (2 : Int32))
    else
      (3 : Int32))
  else
    (1 : Int32)
set_option maxRecDepth 100000 in
set_option maxHeartbeats 4000000 in
theorem fX6_whatIsAmiss_ok (r0 : Nat) (x1 : Int32) (x2 : Int32) (M : mm_M) (h0 : isSh r0) : mm_E LC yX6_whatIsAmiss cX6_whatIsAmiss 3 (some .int) 1 (mm_pI M) [.ref r0, .int x1, .int x2] M (some (fX6_whatIsAmiss r0 x1 x2 M)) := by
  refine mm_E.of (own := RX6) (ls := [some (.ref r0), some (.int x1), some (.int x2)]) (by decide) rfl rfl (Nat.le_of_ble_eq_true rfl) ?_
  unfold fX6_whatIsAmiss
  refine mm_aload_n (q := 1) dX6_whatIsAmiss_0 rfl rfl rfl ?_
  refine mm_callVT (as := []) (st := []) (q := 4) (lc_Sh h0) rfl (fX3_isLost_ok r0 M h0) ms_X6_137 rfl (Nat.le_of_ble_eq_true rfl) (Nat.le_of_ble_eq_true rfl) rfl dX6_whatIsAmiss_1 rfl ?_
  by_cases c1 : (fX3_isLost r0 M) = 0
  · simp only [if_pos c1]
    refine mm_if_eq_t (tgt := 9) c1 dX6_whatIsAmiss_4 (by decide) ?_
    refine mm_aload_n (q := 10) dX6_whatIsAmiss_9 rfl rfl rfl ?_
    refine mm_getIN (q := 13) dX6_whatIsAmiss_10 rfl (lc_Sh h0) fd_X6_248 rfl ?_
    refine mm_iload_n (q := 14) dX6_whatIsAmiss_13 rfl rfl rfl ?_
    by_cases c2 : (M r0 1) = x1
    · simp only [if_pos c2]
      refine mm_icmp_eq_t (tgt := 19) c2 dX6_whatIsAmiss_14 (by decide) ?_
      refine mm_iload_n (q := 20) dX6_whatIsAmiss_19 rfl rfl rfl ?_
      refine mm_aload_n (q := 21) dX6_whatIsAmiss_20 rfl rfl rfl ?_
      refine mm_getIN (q := 24) dX6_whatIsAmiss_21 rfl (lc_Sh h0) fd_X6_144 rfl ?_
      refine mm_callST (as := [.int x2, .int (M r0 2)]) (st := []) (q := 27) (fX6_isOutside_ok x2 (M r0 2) M) ms_X6_66 rfl (Nat.le_of_ble_eq_true rfl) (Nat.le_of_ble_eq_true rfl) rfl dX6_whatIsAmiss_24 rfl ?_
      by_cases c3 : (fX6_isOutside x2 (M r0 2)) = 0
      · simp only [if_pos c3]
        refine mm_if_eq_t (tgt := 34) c3 dX6_whatIsAmiss_27 (by decide) ?_
        refine mm_iconst (q := 35) dX6_whatIsAmiss_34 rfl ic_0 ?_
        exact mm_iret rfl dX6_whatIsAmiss_35
      · simp only [if_neg c3]
        refine mm_if_eq_f (q := 30) (tgt := 34) c3 dX6_whatIsAmiss_27 rfl (by decide) ?_
        refine mm_iconst (q := 31) dX6_whatIsAmiss_30 rfl ic_2 ?_
        refine mm_goto (tgt := 35) dX6_whatIsAmiss_31 (by decide) ?_
        exact mm_iret rfl dX6_whatIsAmiss_35
    · simp only [if_neg c2]
      refine mm_icmp_eq_f (q := 17) (tgt := 19) c2 dX6_whatIsAmiss_14 rfl (by decide) ?_
      refine mm_iconst (q := 18) dX6_whatIsAmiss_17 rfl ic_3 ?_
      exact mm_iret rfl dX6_whatIsAmiss_18
  · simp only [if_neg c1]
    refine mm_if_eq_f (q := 7) (tgt := 9) c1 dX6_whatIsAmiss_4 rfl (by decide) ?_
    refine mm_iconst (q := 8) dX6_whatIsAmiss_7 rfl ic_1 ?_
    exact mm_iret rfl dX6_whatIsAmiss_8
def fX6_get (x1 : Int32) (x2 : Int32) (x3 : Int32) (M : mm_M) : Option (Int32 × mm_M) :=
  if (fX6_isOutside x1 (4 : Int32)) = 0 then
    (if (fX6_isOutside x2 (3 : Int32)) = 0 then
      ((mm_ra [9, 11, 13, 15] x1).bind fun b3 =>
      if (fX6_whatIsAmiss b3 x2 x3 M) = 0 then
        ((mm_ra [9, 11, 13, 15] x1).bind fun b5 =>
        (mm_rd M (b5 + 1) 60 x3).bind fun b6 =>
        some (b6, M))
      else
        (fX6_finding (fX6_whatIsAmiss b3 x2 x3 M) M).bind fun b7 =>
        some ((-2147483648 : Int32), b7.2))
    else
      some ((-2147483648 : Int32), M))
  else
    some ((-2147483648 : Int32), M)
set_option maxRecDepth 100000 in
set_option maxHeartbeats 4000000 in
theorem fX6_get_ok (x1 : Int32) (x2 : Int32) (x3 : Int32) (M : mm_M)  : mm_E LC yX6_get cX6_get 5 (some .int) 2 mm_eI [.ref 0, .int x1, .int x2, .int x3] M (fX6_get x1 x2 x3 M) := by
  refine mm_E.of (own := RX6) (ls := [some (.ref 0), some (.int x1), some (.int x2), some (.int x3), none]) (by decide) rfl rfl (Nat.le_of_ble_eq_true rfl) ?_
  unfold fX6_get
  refine mm_iload_n (q := 1) dX6_get_0 rfl rfl rfl ?_
  refine mm_iconst (q := 2) dX6_get_1 rfl ic_4 ?_
  refine mm_callST (as := [.int x1, .int (4 : Int32)]) (st := []) (q := 5) (fX6_isOutside_ok x1 (4 : Int32) M) ms_X6_66 rfl (Nat.le_of_ble_eq_true rfl) (Nat.le_of_ble_eq_true rfl) rfl dX6_get_2 rfl ?_
  refine mm_if_ne (q := 8) (tgt := 16) dX6_get_5 rfl (by decide) (fun c1 => ?_) (fun c1 => ?_)
  · refine mm_iload_n (q := 9) dX6_get_8 rfl rfl rfl ?_
    refine mm_iconst (q := 10) dX6_get_9 rfl ic_3 ?_
    refine mm_callST (as := [.int x2, .int (3 : Int32)]) (st := []) (q := 13) (fX6_isOutside_ok x2 (3 : Int32) M) ms_X6_66 rfl (Nat.le_of_ble_eq_true rfl) (Nat.le_of_ble_eq_true rfl) rfl dX6_get_10 rfl ?_
    refine mm_if_eq (q := 16) (tgt := 19) dX6_get_13 rfl (by decide) (fun c2 => ?_) (fun c2 => ?_)
    · refine mm_aload_n (q := 20) dX6_get_19 rfl rfl rfl ?_
      refine mm_getR (q := 23) (k1 := 8) dX6_get_20 rfl lc_0 fd_X6_31 rfl ?_
      refine mm_iload_n (q := 24) dX6_get_23 rfl rfl rfl ?_
      refine mm_aald (q := 25) (cn := "WordsLent$Sheet") dX6_get_24 rfl lc_8 (fun _ => rfl) (fun b3 hb3 => ?_)
      refine mm_iload_n (q := 26) dX6_get_25 rfl rfl rfl ?_
      refine mm_iload_n (q := 27) dX6_get_26 rfl rfl rfl ?_
      refine mm_callST (as := [.ref b3, .int x2, .int x3]) (st := []) (q := 30) (fX6_whatIsAmiss_ok b3 x2 x3 M (isSh_of hb3)) ms_X6_240 rfl (Nat.le_of_ble_eq_true rfl) (Nat.le_of_ble_eq_true rfl) rfl dX6_get_27 rfl ?_
      refine mm_istore (q := 32) (ls' := [some (.ref 0), some (.int x1), some (.int x2), some (.int x3), some (.int (fX6_whatIsAmiss b3 x2 x3 M))]) dX6_get_30 rfl rfl (Nat.le_of_ble_eq_true rfl) rfl ?_
      refine mm_iload (q := 34) dX6_get_32 rfl rfl ?_
      refine mm_if_eq (q := 37) (tgt := 47) dX6_get_34 rfl (by decide) (fun c4 => ?_) (fun c4 => ?_)
      · refine mm_aload_n (q := 48) dX6_get_47 rfl rfl rfl ?_
        refine mm_getR (q := 51) (k1 := 8) dX6_get_48 rfl lc_0 fd_X6_31 rfl ?_
        refine mm_iload_n (q := 52) dX6_get_51 rfl rfl rfl ?_
        refine mm_aald (q := 53) (cn := "WordsLent$Sheet") dX6_get_52 rfl lc_8 (fun _ => rfl) (fun b5 hb5 => ?_)
        refine mm_getRN (q := 56) (k1 := (b5 + 1)) dX6_get_53 rfl (lc_Sh (isSh_of hb5)) fd_X6_146 rfl ?_
        refine mm_iload_n (q := 57) dX6_get_56 rfl rfl rfl ?_
        refine mm_iald (q := 58) dX6_get_57 rfl (lc_Sh_1 (isSh_of hb5)) (fun b6 _ => ?_)
        exact mm_iret rfl dX6_get_58
      · refine mm_aload_n (q := 38) dX6_get_37 rfl rfl rfl ?_
        refine mm_iload (q := 40) dX6_get_38 rfl rfl ?_
        refine mm_callVI (as := [.int (fX6_whatIsAmiss b3 x2 x3 M)]) (st := []) (q := 43) lc_0 rfl (fX6_finding_ok (fX6_whatIsAmiss b3 x2 x3 M) M) ms_X6_140 rfl (Nat.le_of_ble_eq_true rfl) (Nat.le_of_ble_eq_true rfl) rfl dX6_get_40 rfl (fun b7 _ => ?_)
        refine mm_pop (q := 44) dX6_get_43 rfl rfl ?_
        refine mm_ldc (q := 46) dX6_get_44 rfl cn_X6_247 ?_
        exact mm_iret rfl dX6_get_46
    · refine mm_ldc (q := 18) dX6_get_16 rfl cn_X6_247 ?_
      exact mm_iret rfl dX6_get_18
  · refine mm_ldc (q := 18) dX6_get_16 rfl cn_X6_247 ?_
    exact mm_iret rfl dX6_get_18
def fX6_lay (x1 : Int32) (x2 : Int32) (x3 : Int32) (x4 : Int32) (M : mm_M) : Option (Int32 × mm_M) :=
  if (fX6_isOutside x1 (4 : Int32)) = 0 then
    (if (fX6_isOutside x2 (3 : Int32)) = 0 then
      ((mm_ra [9, 11, 13, 15] x1).bind fun b3 =>
      if (fX6_whatIsAmiss b3 x2 x3 M) = 0 then
        ((mm_ra [9, 11, 13, 15] x1).bind fun b5 =>
        (fX3_put b5 x3 x4 M).bind fun M6 =>
        some ((1 : Int32), M6))
      else
        (fX6_finding (fX6_whatIsAmiss b3 x2 x3 M) M).bind fun b7 =>
        some (b7.1, b7.2))
    else
      some ((-2 : Int32), M))
  else
    some ((-2 : Int32), M)
set_option maxRecDepth 100000 in
set_option maxHeartbeats 4000000 in
theorem fX6_lay_ok (x1 : Int32) (x2 : Int32) (x3 : Int32) (x4 : Int32) (M : mm_M)  : mm_E LC yX6_lay cX6_lay 6 (some .int) 2 mm_eI [.ref 0, .int x1, .int x2, .int x3, .int x4] M (fX6_lay x1 x2 x3 x4 M) := by
  refine mm_E.of (own := RX6) (ls := [some (.ref 0), some (.int x1), some (.int x2), some (.int x3), some (.int x4), none]) (by decide) rfl rfl (Nat.le_of_ble_eq_true rfl) ?_
  unfold fX6_lay
  refine mm_iload_n (q := 1) dX6_lay_0 rfl rfl rfl ?_
  refine mm_iconst (q := 2) dX6_lay_1 rfl ic_4 ?_
  refine mm_callST (as := [.int x1, .int (4 : Int32)]) (st := []) (q := 5) (fX6_isOutside_ok x1 (4 : Int32) M) ms_X6_66 rfl (Nat.le_of_ble_eq_true rfl) (Nat.le_of_ble_eq_true rfl) rfl dX6_lay_2 rfl ?_
  refine mm_if_ne (q := 8) (tgt := 16) dX6_lay_5 rfl (by decide) (fun c1 => ?_) (fun c1 => ?_)
  · refine mm_iload_n (q := 9) dX6_lay_8 rfl rfl rfl ?_
    refine mm_iconst (q := 10) dX6_lay_9 rfl ic_3 ?_
    refine mm_callST (as := [.int x2, .int (3 : Int32)]) (st := []) (q := 13) (fX6_isOutside_ok x2 (3 : Int32) M) ms_X6_66 rfl (Nat.le_of_ble_eq_true rfl) (Nat.le_of_ble_eq_true rfl) rfl dX6_lay_10 rfl ?_
    refine mm_if_eq (q := 16) (tgt := 19) dX6_lay_13 rfl (by decide) (fun c2 => ?_) (fun c2 => ?_)
    · refine mm_aload_n (q := 20) dX6_lay_19 rfl rfl rfl ?_
      refine mm_getR (q := 23) (k1 := 8) dX6_lay_20 rfl lc_0 fd_X6_31 rfl ?_
      refine mm_iload_n (q := 24) dX6_lay_23 rfl rfl rfl ?_
      refine mm_aald (q := 25) (cn := "WordsLent$Sheet") dX6_lay_24 rfl lc_8 (fun _ => rfl) (fun b3 hb3 => ?_)
      refine mm_iload_n (q := 26) dX6_lay_25 rfl rfl rfl ?_
      refine mm_iload_n (q := 27) dX6_lay_26 rfl rfl rfl ?_
      refine mm_callST (as := [.ref b3, .int x2, .int x3]) (st := []) (q := 30) (fX6_whatIsAmiss_ok b3 x2 x3 M (isSh_of hb3)) ms_X6_240 rfl (Nat.le_of_ble_eq_true rfl) (Nat.le_of_ble_eq_true rfl) rfl dX6_lay_27 rfl ?_
      refine mm_istore (q := 32) (ls' := [some (.ref 0), some (.int x1), some (.int x2), some (.int x3), some (.int x4), some (.int (fX6_whatIsAmiss b3 x2 x3 M))]) dX6_lay_30 rfl rfl (Nat.le_of_ble_eq_true rfl) rfl ?_
      refine mm_iload (q := 34) dX6_lay_32 rfl rfl ?_
      refine mm_if_eq (q := 37) (tgt := 44) dX6_lay_34 rfl (by decide) (fun c4 => ?_) (fun c4 => ?_)
      · refine mm_aload_n (q := 45) dX6_lay_44 rfl rfl rfl ?_
        refine mm_getR (q := 48) (k1 := 8) dX6_lay_45 rfl lc_0 fd_X6_31 rfl ?_
        refine mm_iload_n (q := 49) dX6_lay_48 rfl rfl rfl ?_
        refine mm_aald (q := 50) (cn := "WordsLent$Sheet") dX6_lay_49 rfl lc_8 (fun _ => rfl) (fun b5 hb5 => ?_)
        refine mm_iload_n (q := 51) dX6_lay_50 rfl rfl rfl ?_
        refine mm_iload (q := 53) dX6_lay_51 rfl rfl ?_
        refine mm_callVV (as := [.int x3, .int x4]) (st := []) (q := 56) (lc_Sh (isSh_of hb5)) rfl (fX3_put_ok b5 x3 x4 M (isSh_of hb5)) ms_X6_244 rfl (Nat.le_of_ble_eq_true rfl) (Nat.le_of_ble_eq_true rfl) rfl dX6_lay_53 rfl (fun M6 _ => ?_)
        refine mm_iconst (q := 57) dX6_lay_56 rfl ic_1 ?_
        exact mm_iret rfl dX6_lay_57
      · refine mm_aload_n (q := 38) dX6_lay_37 rfl rfl rfl ?_
        refine mm_iload (q := 40) dX6_lay_38 rfl rfl ?_
        refine mm_callVI (as := [.int (fX6_whatIsAmiss b3 x2 x3 M)]) (st := []) (q := 43) lc_0 rfl (fX6_finding_ok (fX6_whatIsAmiss b3 x2 x3 M) M) ms_X6_140 rfl (Nat.le_of_ble_eq_true rfl) (Nat.le_of_ble_eq_true rfl) rfl dX6_lay_40 rfl (fun b7 _ => ?_)
        exact mm_iret rfl dX6_lay_43
    · refine mm_bipush (q := 18) dX6_lay_16 rfl bp_m2 ?_
      exact mm_iret rfl dX6_lay_18
  · refine mm_bipush (q := 18) dX6_lay_16 rfl bp_m2 ?_
    exact mm_iret rfl dX6_lay_18
def fX6_lose (x1 : Int32) (M : mm_M) : Option (Int32 × mm_M) :=
  if (fX6_isOutside x1 (4 : Int32)) = 0 then
    ((mm_ra [9, 11, 13, 15] x1).bind fun b2 =>
    if (fX3_isLost b2 M) = 0 then
      ((mm_ra [9, 11, 13, 15] x1).bind fun b4 =>
      (mm_ra [9, 11, 13, 15] x1).bind fun b5 =>
      (fX3_begin b5 (-1 : Int32) (0 : Int32) M).bind fun M6 =>
      some (M b4 2, M6))
    else
      (fX6_finding (1 : Int32) M).bind fun b7 =>
      some (b7.1, b7.2))
  else
    some ((-2 : Int32), M)
set_option maxRecDepth 100000 in
set_option maxHeartbeats 4000000 in
theorem fX6_lose_ok (x1 : Int32) (M : mm_M)  : mm_E LC yX6_lose cX6_lose 3 (some .int) 1 mm_eI [.ref 0, .int x1] M (fX6_lose x1 M) := by
  refine mm_E.of (own := RX6) (ls := [some (.ref 0), some (.int x1), none]) (by decide) rfl rfl (Nat.le_of_ble_eq_true rfl) ?_
  unfold fX6_lose
  refine mm_iload_n (q := 1) dX6_lose_0 rfl rfl rfl ?_
  refine mm_iconst (q := 2) dX6_lose_1 rfl ic_4 ?_
  refine mm_callST (as := [.int x1, .int (4 : Int32)]) (st := []) (q := 5) (fX6_isOutside_ok x1 (4 : Int32) M) ms_X6_66 rfl (Nat.le_of_ble_eq_true rfl) (Nat.le_of_ble_eq_true rfl) rfl dX6_lose_2 rfl ?_
  refine mm_if_eq (q := 8) (tgt := 11) dX6_lose_5 rfl (by decide) (fun c1 => ?_) (fun c1 => ?_)
  · refine mm_aload_n (q := 12) dX6_lose_11 rfl rfl rfl ?_
    refine mm_getR (q := 15) (k1 := 8) dX6_lose_12 rfl lc_0 fd_X6_31 rfl ?_
    refine mm_iload_n (q := 16) dX6_lose_15 rfl rfl rfl ?_
    refine mm_aald (q := 17) (cn := "WordsLent$Sheet") dX6_lose_16 rfl lc_8 (fun _ => rfl) (fun b2 hb2 => ?_)
    refine mm_callVT (as := []) (st := []) (q := 20) (lc_Sh (isSh_of hb2)) rfl (fX3_isLost_ok b2 M (isSh_of hb2)) ms_X6_137 rfl (Nat.le_of_ble_eq_true rfl) (Nat.le_of_ble_eq_true rfl) rfl dX6_lose_17 rfl ?_
    refine mm_if_eq (q := 23) (tgt := 29) dX6_lose_20 rfl (by decide) (fun c3 => ?_) (fun c3 => ?_)
    · refine mm_aload_n (q := 30) dX6_lose_29 rfl rfl rfl ?_
      refine mm_getR (q := 33) (k1 := 8) dX6_lose_30 rfl lc_0 fd_X6_31 rfl ?_
      refine mm_iload_n (q := 34) dX6_lose_33 rfl rfl rfl ?_
      refine mm_aald (q := 35) (cn := "WordsLent$Sheet") dX6_lose_34 rfl lc_8 (fun _ => rfl) (fun b4 hb4 => ?_)
      refine mm_getIN (q := 38) dX6_lose_35 rfl (lc_Sh (isSh_of hb4)) fd_X6_144 rfl ?_
      refine mm_istore_n (q := 39) (ls' := [some (.ref 0), some (.int x1), some (.int (M b4 2))]) dX6_lose_38 rfl rfl rfl (Nat.le_of_ble_eq_true rfl) rfl ?_
      refine mm_aload_n (q := 40) dX6_lose_39 rfl rfl rfl ?_
      refine mm_getR (q := 43) (k1 := 8) dX6_lose_40 rfl lc_0 fd_X6_31 rfl ?_
      refine mm_iload_n (q := 44) dX6_lose_43 rfl rfl rfl ?_
      refine mm_aald (q := 45) (cn := "WordsLent$Sheet") dX6_lose_44 rfl lc_8 (fun _ => rfl) (fun b5 hb5 => ?_)
      refine mm_iconst (q := 46) dX6_lose_45 rfl ic_m1 ?_
      refine mm_iconst (q := 47) dX6_lose_46 rfl ic_0 ?_
      refine mm_callVV (as := [.int (-1 : Int32), .int (0 : Int32)]) (st := []) (q := 50) (lc_Sh (isSh_of hb5)) rfl (fX3_begin_ok b5 (-1 : Int32) (0 : Int32) M (isSh_of hb5)) ms_X6_237 rfl (Nat.le_of_ble_eq_true rfl) (Nat.le_of_ble_eq_true rfl) rfl dX6_lose_47 rfl (fun M6 _ => ?_)
      refine mm_iload_n (q := 51) dX6_lose_50 rfl rfl rfl ?_
      exact mm_iret rfl dX6_lose_51
    · refine mm_aload_n (q := 24) dX6_lose_23 rfl rfl rfl ?_
      refine mm_iconst (q := 25) dX6_lose_24 rfl ic_1 ?_
      refine mm_callVI (as := [.int (1 : Int32)]) (st := []) (q := 28) lc_0 rfl (fX6_finding_ok (1 : Int32) M) ms_X6_140 rfl (Nat.le_of_ble_eq_true rfl) (Nat.le_of_ble_eq_true rfl) rfl dX6_lose_25 rfl (fun b7 _ => ?_)
      exact mm_iret rfl dX6_lose_28
  · refine mm_bipush (q := 10) dX6_lose_8 rfl bp_m2 ?_
    exact mm_iret rfl dX6_lose_10
def fX6_read_L36 (p2 : Nat) (k79 : Int32 → mm_M → Option (Int32 × mm_M)) (k114 : Int32 → mm_M → Option (Int32 × mm_M)) : Nat → Int32 → Int32 → mm_M → Option (Int32 × mm_M)
  | 0, _, _, _ => none
  | n + 1, x3, x4, M =>
    if (M p2 2) ≤ (x4 + (1 : Int32)) then
      k114 x3 M
    else
      if (fX2_isFull M) = 0 then
        ((mm_rd M (p2 + 1) 60 x4).bind fun b6 =>
        (mm_rd M (p2 + 1) 60 (x4 + (1 : Int32))).bind fun b7 =>
        if (fX2_mayBe b6 b7) = 0 then
          k79 x3 M
        else
          (mm_rd M (p2 + 1) 60 x4).bind fun b9 =>
          (mm_rd M (p2 + 1) 60 (x4 + (1 : Int32))).bind fun b10 =>
          (fX2_append b9 b10 M).bind fun M11 =>
          fX6_read_L36 p2 k79 k114 n (x3 + (1 : Int32)) (x4 + (2 : Int32)) M11)
      else
        k114 x3 M
set_option maxRecDepth 100000 in
set_option maxHeartbeats 4000000 in
theorem fX6_read_L36_ok (p2 : Nat) (hp2 : isSh p2) (k79 : Int32 → mm_M → Option (Int32 × mm_M)) (k114 : Int32 → mm_M → Option (Int32 × mm_M)) (hk79 : ∀ (x3 : Int32) (M : mm_M), mm_C LC cX6_read 5 RX6 (some .int) 2 mm_eI 79 [some (.ref 0), none, none, some (.int x3), none] [] M (k79 x3 M)) (hk114 : ∀ (x3 : Int32) (M : mm_M), mm_C LC cX6_read 5 RX6 (some .int) 2 mm_eI 114 [some (.ref 0), none, none, some (.int x3), none] [] M (k114 x3 M)) : ∀ (n : Nat) (x3 : Int32) (x4 : Int32) (M : mm_M), mm_C LC cX6_read 5 RX6 (some .int) 2 mm_eI 36 [some (.ref 0), none, some (.ref p2), some (.int x3), some (.int x4)] [] M (fX6_read_L36 p2 k79 k114 n x3 x4 M) := by
  intro n
  induction n with
  | zero => intro x3 x4 M; exact mm_none
  | succ n ih =>
    intro x3 x4 M
    rw [fX6_read_L36]
    refine mm_iload (q := 38) dX6_read_36 rfl rfl ?_
    refine mm_iconst (q := 39) dX6_read_38 rfl ic_1 ?_
    refine mm_iadd (q := 40) dX6_read_39 rfl ?_
    refine mm_aload_n (q := 41) dX6_read_40 rfl rfl rfl ?_
    refine mm_getIN (q := 44) dX6_read_41 rfl (lc_Sh hp2) fd_X6_144 rfl ?_
    refine mm_icmp_ge (q := 47) (tgt := 114) dX6_read_44 rfl (by decide) (fun c4 => ?_) (fun c4 => ?_)
    · refine mm_drop (ls' := [some (.ref 0), none, none, some (.int x3), none]) (mm_sub_at _ _ (And.intro rfl (And.intro rfl trivial))) ?_
      exact hk114 _ _
    · refine mm_aload_n (q := 48) dX6_read_47 rfl rfl rfl ?_
      refine mm_getR (q := 51) (k1 := 17) dX6_read_48 rfl lc_0 fd_X6_18 rfl ?_
      refine mm_callVT (as := []) (st := []) (q := 54) lc_17 rfl (fX2_isFull_ok M) ms_X6_127 rfl (Nat.le_of_ble_eq_true rfl) (Nat.le_of_ble_eq_true rfl) rfl dX6_read_51 rfl ?_
      refine mm_if_ne (q := 57) (tgt := 114) dX6_read_54 rfl (by decide) (fun c5 => ?_) (fun c5 => ?_)
      · refine mm_aload_n (q := 58) dX6_read_57 rfl rfl rfl ?_
        refine mm_getRN (q := 61) (k1 := (p2 + 1)) dX6_read_58 rfl (lc_Sh hp2) fd_X6_146 rfl ?_
        refine mm_iload (q := 63) dX6_read_61 rfl rfl ?_
        refine mm_iald (q := 64) dX6_read_63 rfl (lc_Sh_1 hp2) (fun b6 _ => ?_)
        refine mm_aload_n (q := 65) dX6_read_64 rfl rfl rfl ?_
        refine mm_getRN (q := 68) (k1 := (p2 + 1)) dX6_read_65 rfl (lc_Sh hp2) fd_X6_146 rfl ?_
        refine mm_iload (q := 70) dX6_read_68 rfl rfl ?_
        refine mm_iconst (q := 71) dX6_read_70 rfl ic_1 ?_
        refine mm_iadd (q := 72) dX6_read_71 rfl ?_
        refine mm_iald (q := 73) dX6_read_72 rfl (lc_Sh_1 hp2) (fun b7 _ => ?_)
        refine mm_callST (as := [.int b6, .int b7]) (st := []) (q := 76) (fX2_mayBe_ok b6 b7 M) ms_X6_124 rfl (Nat.le_of_ble_eq_true rfl) (Nat.le_of_ble_eq_true rfl) rfl dX6_read_73 rfl ?_
        refine mm_if_ne (q := 79) (tgt := 82) dX6_read_76 rfl (by decide) (fun c8 => ?_) (fun c8 => ?_)
        · refine mm_drop (ls' := [some (.ref 0), none, none, some (.int x3), none]) (mm_sub_at _ _ (And.intro rfl (And.intro rfl trivial))) ?_
          exact hk79 _ _
        · refine mm_aload_n (q := 83) dX6_read_82 rfl rfl rfl ?_
          refine mm_getR (q := 86) (k1 := 17) dX6_read_83 rfl lc_0 fd_X6_18 rfl ?_
          refine mm_aload_n (q := 87) dX6_read_86 rfl rfl rfl ?_
          refine mm_getRN (q := 90) (k1 := (p2 + 1)) dX6_read_87 rfl (lc_Sh hp2) fd_X6_146 rfl ?_
          refine mm_iload (q := 92) dX6_read_90 rfl rfl ?_
          refine mm_iald (q := 93) dX6_read_92 rfl (lc_Sh_1 hp2) (fun b9 _ => ?_)
          refine mm_aload_n (q := 94) dX6_read_93 rfl rfl rfl ?_
          refine mm_getRN (q := 97) (k1 := (p2 + 1)) dX6_read_94 rfl (lc_Sh hp2) fd_X6_146 rfl ?_
          refine mm_iload (q := 99) dX6_read_97 rfl rfl ?_
          refine mm_iconst (q := 100) dX6_read_99 rfl ic_1 ?_
          refine mm_iadd (q := 101) dX6_read_100 rfl ?_
          refine mm_iald (q := 102) dX6_read_101 rfl (lc_Sh_1 hp2) (fun b10 _ => ?_)
          refine mm_callVV (as := [.int b9, .int b10]) (st := []) (q := 105) lc_17 rfl (fX2_append_ok b9 b10 M) ms_X6_128 rfl (Nat.le_of_ble_eq_true rfl) (Nat.le_of_ble_eq_true rfl) rfl dX6_read_102 rfl (fun M11 _ => ?_)
          refine mm_iinc (q := 108) (ls' := [some (.ref 0), none, some (.ref p2), some (.int (x3 + (1 : Int32))), some (.int x4)]) dX6_read_105 rfl rfl (ii_1 _) rfl (Nat.le_of_ble_eq_true rfl) rfl ?_
          refine mm_iinc (q := 111) (ls' := [some (.ref 0), none, some (.ref p2), some (.int (x3 + (1 : Int32))), some (.int (x4 + (2 : Int32)))]) dX6_read_108 rfl rfl (ii_2 _) rfl (Nat.le_of_ble_eq_true rfl) rfl ?_
          refine mm_goto (tgt := 36) dX6_read_111 (by decide) ?_
          exact ih _ _ _
      · refine mm_drop (ls' := [some (.ref 0), none, none, some (.int x3), none]) (mm_sub_at _ _ (And.intro rfl (And.intro rfl trivial))) ?_
        exact hk114 _ _
def fX6_read (x1 : Int32) (M : mm_M) : Option (Int32 × mm_M) :=
  if (fX6_isOutside x1 (4 : Int32)) = 0 then
    ((mm_ra [9, 11, 13, 15] x1).bind fun b2 =>
    if (fX3_isLost b2 M) = 0 then
      fX6_read_L36 b2 (fun z12 M13 =>
      (fX6_courseChanged M13).bind fun M14 =>
      some (z12, M14)) (fun z15 M16 =>
      (fX6_courseChanged M16).bind fun M17 =>
      some (z15, M17)) 1000 (0 : Int32) (0 : Int32) M
    else
      (fX6_finding (1 : Int32) M).bind fun b18 =>
      some (b18.1, b18.2))
  else
    some ((-2 : Int32), M)
set_option maxRecDepth 100000 in
set_option maxHeartbeats 4000000 in
theorem fX6_read_ok (x1 : Int32) (M : mm_M)  : mm_E LC yX6_read cX6_read 5 (some .int) 2 mm_eI [.ref 0, .int x1] M (fX6_read x1 M) := by
  refine mm_E.of (own := RX6) (ls := [some (.ref 0), some (.int x1), none, none, none]) (by decide) rfl rfl (Nat.le_of_ble_eq_true rfl) ?_
  unfold fX6_read
  refine mm_iload_n (q := 1) dX6_read_0 rfl rfl rfl ?_
  refine mm_iconst (q := 2) dX6_read_1 rfl ic_4 ?_
  refine mm_callST (as := [.int x1, .int (4 : Int32)]) (st := []) (q := 5) (fX6_isOutside_ok x1 (4 : Int32) M) ms_X6_66 rfl (Nat.le_of_ble_eq_true rfl) (Nat.le_of_ble_eq_true rfl) rfl dX6_read_2 rfl ?_
  refine mm_if_eq (q := 8) (tgt := 11) dX6_read_5 rfl (by decide) (fun c1 => ?_) (fun c1 => ?_)
  · refine mm_aload_n (q := 12) dX6_read_11 rfl rfl rfl ?_
    refine mm_getR (q := 15) (k1 := 8) dX6_read_12 rfl lc_0 fd_X6_31 rfl ?_
    refine mm_iload_n (q := 16) dX6_read_15 rfl rfl rfl ?_
    refine mm_aald (q := 17) (cn := "WordsLent$Sheet") dX6_read_16 rfl lc_8 (fun _ => rfl) (fun b2 hb2 => ?_)
    refine mm_astore_n (q := 18) (ls' := [some (.ref 0), some (.int x1), some (.ref b2), none, none]) dX6_read_17 rfl rfl rfl (Nat.le_of_ble_eq_true rfl) rfl ?_
    refine mm_aload_n (q := 19) dX6_read_18 rfl rfl rfl ?_
    refine mm_callVT (as := []) (st := []) (q := 22) (lc_Sh (isSh_of hb2)) rfl (fX3_isLost_ok b2 M (isSh_of hb2)) ms_X6_137 rfl (Nat.le_of_ble_eq_true rfl) (Nat.le_of_ble_eq_true rfl) rfl dX6_read_19 rfl ?_
    refine mm_if_eq (q := 25) (tgt := 31) dX6_read_22 rfl (by decide) (fun c3 => ?_) (fun c3 => ?_)
    · refine mm_iconst (q := 32) dX6_read_31 rfl ic_0 ?_
      refine mm_istore_n (q := 33) (ls' := [some (.ref 0), some (.int x1), some (.ref b2), some (.int (0 : Int32)), none]) dX6_read_32 rfl rfl rfl (Nat.le_of_ble_eq_true rfl) rfl ?_
      refine mm_iconst (q := 34) dX6_read_33 rfl ic_0 ?_
      refine mm_istore (q := 36) (ls' := [some (.ref 0), some (.int x1), some (.ref b2), some (.int (0 : Int32)), some (.int (0 : Int32))]) dX6_read_34 rfl rfl (Nat.le_of_ble_eq_true rfl) rfl ?_
      refine mm_drop (ls' := [some (.ref 0), none, some (.ref b2), some (.int (0 : Int32)), some (.int (0 : Int32))]) (mm_sub_at _ _ (And.intro rfl (And.intro rfl (And.intro rfl (And.intro rfl trivial))))) ?_
      refine fX6_read_L36_ok b2 (isSh_of hb2) _ _ (fun z12 M13 => ?_) (fun z15 M16 => ?_) _ _ _ _
      · refine mm_goto (tgt := 114) dX6_read_79 (by decide) ?_
        refine mm_aload_n (q := 115) dX6_read_114 rfl rfl rfl ?_
        refine mm_callVV (as := []) (st := []) (q := 118) lc_0 rfl (fX6_courseChanged_ok M13) ms_X6_131 rfl (Nat.le_of_ble_eq_true rfl) (Nat.le_of_ble_eq_true rfl) rfl dX6_read_115 rfl (fun M14 _ => ?_)
        refine mm_iload_n (q := 119) dX6_read_118 rfl rfl rfl ?_
        exact mm_iret rfl dX6_read_119
      · refine mm_aload_n (q := 115) dX6_read_114 rfl rfl rfl ?_
        refine mm_callVV (as := []) (st := []) (q := 118) lc_0 rfl (fX6_courseChanged_ok M16) ms_X6_131 rfl (Nat.le_of_ble_eq_true rfl) (Nat.le_of_ble_eq_true rfl) rfl dX6_read_115 rfl (fun M17 _ => ?_)
        refine mm_iload_n (q := 119) dX6_read_118 rfl rfl rfl ?_
        exact mm_iret rfl dX6_read_119
    · refine mm_aload_n (q := 26) dX6_read_25 rfl rfl rfl ?_
      refine mm_iconst (q := 27) dX6_read_26 rfl ic_1 ?_
      refine mm_callVI (as := [.int (1 : Int32)]) (st := []) (q := 30) lc_0 rfl (fX6_finding_ok (1 : Int32) M) ms_X6_140 rfl (Nat.le_of_ble_eq_true rfl) (Nat.le_of_ble_eq_true rfl) rfl dX6_read_27 rfl (fun b18 _ => ?_)
      exact mm_iret rfl dX6_read_30
  · refine mm_bipush (q := 10) dX6_read_8 rfl bp_m2 ?_
    exact mm_iret rfl dX6_read_10
def fX6_sheet (x1 : Int32) (x2 : Int32) (x3 : Int32) (M : mm_M) : Option (Int32 × mm_M) :=
  if (fX6_isOutside x1 (4 : Int32)) = 0 then
    (if (fX6_isOutside x2 (3 : Int32)) = 0 then
      (if x3 ≤ (60 : Int32) then
        (if 0 ≤ x3 then
          ((mm_ra [9, 11, 13, 15] x1).bind fun b5 =>
          (fX3_begin b5 x2 x3 M).bind fun M6 =>
          some (x3, M6))
        else
          (fX6_finding (5 : Int32) M).bind fun b7 =>
          some (b7.1, b7.2))
      else
        some ((-2 : Int32), M))
    else
      some ((-2 : Int32), M))
  else
    some ((-2 : Int32), M)
set_option maxRecDepth 100000 in
set_option maxHeartbeats 4000000 in
theorem fX6_sheet_ok (x1 : Int32) (x2 : Int32) (x3 : Int32) (M : mm_M)  : mm_E LC yX6_sheet cX6_sheet 4 (some .int) 1 mm_eI [.ref 0, .int x1, .int x2, .int x3] M (fX6_sheet x1 x2 x3 M) := by
  refine mm_E.of (own := RX6) (ls := [some (.ref 0), some (.int x1), some (.int x2), some (.int x3)]) (by decide) rfl rfl (Nat.le_of_ble_eq_true rfl) ?_
  unfold fX6_sheet
  refine mm_iload_n (q := 1) dX6_sheet_0 rfl rfl rfl ?_
  refine mm_iconst (q := 2) dX6_sheet_1 rfl ic_4 ?_
  refine mm_callST (as := [.int x1, .int (4 : Int32)]) (st := []) (q := 5) (fX6_isOutside_ok x1 (4 : Int32) M) ms_X6_66 rfl (Nat.le_of_ble_eq_true rfl) (Nat.le_of_ble_eq_true rfl) rfl dX6_sheet_2 rfl ?_
  refine mm_if_ne (q := 8) (tgt := 22) dX6_sheet_5 rfl (by decide) (fun c1 => ?_) (fun c1 => ?_)
  · refine mm_iload_n (q := 9) dX6_sheet_8 rfl rfl rfl ?_
    refine mm_iconst (q := 10) dX6_sheet_9 rfl ic_3 ?_
    refine mm_callST (as := [.int x2, .int (3 : Int32)]) (st := []) (q := 13) (fX6_isOutside_ok x2 (3 : Int32) M) ms_X6_66 rfl (Nat.le_of_ble_eq_true rfl) (Nat.le_of_ble_eq_true rfl) rfl dX6_sheet_10 rfl ?_
    refine mm_if_ne (q := 16) (tgt := 22) dX6_sheet_13 rfl (by decide) (fun c2 => ?_) (fun c2 => ?_)
    · refine mm_iload_n (q := 17) dX6_sheet_16 rfl rfl rfl ?_
      refine mm_bipush (q := 19) dX6_sheet_17 rfl bp_60 ?_
      refine mm_icmp_le (q := 22) (tgt := 25) dX6_sheet_19 rfl (by decide) (fun c3 => ?_) (fun c3 => ?_)
      · refine mm_iload_n (q := 26) dX6_sheet_25 rfl rfl rfl ?_
        refine mm_if_ge (q := 29) (tgt := 35) dX6_sheet_26 rfl (by decide) (fun c4 => ?_) (fun c4 => ?_)
        · refine mm_aload_n (q := 36) dX6_sheet_35 rfl rfl rfl ?_
          refine mm_getR (q := 39) (k1 := 8) dX6_sheet_36 rfl lc_0 fd_X6_31 rfl ?_
          refine mm_iload_n (q := 40) dX6_sheet_39 rfl rfl rfl ?_
          refine mm_aald (q := 41) (cn := "WordsLent$Sheet") dX6_sheet_40 rfl lc_8 (fun _ => rfl) (fun b5 hb5 => ?_)
          refine mm_iload_n (q := 42) dX6_sheet_41 rfl rfl rfl ?_
          refine mm_iload_n (q := 43) dX6_sheet_42 rfl rfl rfl ?_
          refine mm_callVV (as := [.int x2, .int x3]) (st := []) (q := 46) (lc_Sh (isSh_of hb5)) rfl (fX3_begin_ok b5 x2 x3 M (isSh_of hb5)) ms_X6_237 rfl (Nat.le_of_ble_eq_true rfl) (Nat.le_of_ble_eq_true rfl) rfl dX6_sheet_43 rfl (fun M6 _ => ?_)
          refine mm_iload_n (q := 47) dX6_sheet_46 rfl rfl rfl ?_
          exact mm_iret rfl dX6_sheet_47
        · refine mm_aload_n (q := 30) dX6_sheet_29 rfl rfl rfl ?_
          refine mm_iconst (q := 31) dX6_sheet_30 rfl ic_5 ?_
          refine mm_callVI (as := [.int (5 : Int32)]) (st := []) (q := 34) lc_0 rfl (fX6_finding_ok (5 : Int32) M) ms_X6_140 rfl (Nat.le_of_ble_eq_true rfl) (Nat.le_of_ble_eq_true rfl) rfl dX6_sheet_31 rfl (fun b7 _ => ?_)
          exact mm_iret rfl dX6_sheet_34
      · refine mm_bipush (q := 24) dX6_sheet_22 rfl bp_m2 ?_
        exact mm_iret rfl dX6_sheet_24
    · refine mm_bipush (q := 24) dX6_sheet_22 rfl bp_m2 ?_
      exact mm_iret rfl dX6_sheet_24
  · refine mm_bipush (q := 24) dX6_sheet_22 rfl bp_m2 ?_
    exact mm_iret rfl dX6_sheet_24
def fX6_tally (x1 : Int32) (x2 : Int32) (x3 : Int32) (M : mm_M) : Option (Int32 × mm_M) :=
  if (fX6_isOutside x1 (24 : Int32)) = 0 then
    (if (fX6_isOutside x2 (12 : Int32)) = 0 then
      (if (fX6_isOutside x3 (10 : Int32)) = 0 then
        (if (M 20 3) = (8 : Int32) then
          some ((-4 : Int32), M)
        else
          (fX0_append x1 x2 x3 M).bind fun M5 =>
          some (M5 20 3, M5))
      else
        some ((-2 : Int32), M))
    else
      some ((-2 : Int32), M))
  else
    some ((-2 : Int32), M)
set_option maxRecDepth 100000 in
set_option maxHeartbeats 4000000 in
theorem fX6_tally_ok (x1 : Int32) (x2 : Int32) (x3 : Int32) (M : mm_M)  : mm_E LC yX6_tally cX6_tally 4 (some .int) 1 mm_eI [.ref 0, .int x1, .int x2, .int x3] M (fX6_tally x1 x2 x3 M) := by
  refine mm_E.of (own := RX6) (ls := [some (.ref 0), some (.int x1), some (.int x2), some (.int x3)]) (by decide) rfl rfl (Nat.le_of_ble_eq_true rfl) ?_
  unfold fX6_tally
  refine mm_iload_n (q := 1) dX6_tally_0 rfl rfl rfl ?_
  refine mm_bipush (q := 3) dX6_tally_1 rfl bp_24 ?_
  refine mm_callST (as := [.int x1, .int (24 : Int32)]) (st := []) (q := 6) (fX6_isOutside_ok x1 (24 : Int32) M) ms_X6_66 rfl (Nat.le_of_ble_eq_true rfl) (Nat.le_of_ble_eq_true rfl) rfl dX6_tally_3 rfl ?_
  refine mm_if_ne (q := 9) (tgt := 27) dX6_tally_6 rfl (by decide) (fun c1 => ?_) (fun c1 => ?_)
  · refine mm_iload_n (q := 10) dX6_tally_9 rfl rfl rfl ?_
    refine mm_bipush (q := 12) dX6_tally_10 rfl bp_12 ?_
    refine mm_callST (as := [.int x2, .int (12 : Int32)]) (st := []) (q := 15) (fX6_isOutside_ok x2 (12 : Int32) M) ms_X6_66 rfl (Nat.le_of_ble_eq_true rfl) (Nat.le_of_ble_eq_true rfl) rfl dX6_tally_12 rfl ?_
    refine mm_if_ne (q := 18) (tgt := 27) dX6_tally_15 rfl (by decide) (fun c2 => ?_) (fun c2 => ?_)
    · refine mm_iload_n (q := 19) dX6_tally_18 rfl rfl rfl ?_
      refine mm_bipush (q := 21) dX6_tally_19 rfl bp_10 ?_
      refine mm_callST (as := [.int x3, .int (10 : Int32)]) (st := []) (q := 24) (fX6_isOutside_ok x3 (10 : Int32) M) ms_X6_66 rfl (Nat.le_of_ble_eq_true rfl) (Nat.le_of_ble_eq_true rfl) rfl dX6_tally_21 rfl ?_
      refine mm_if_eq (q := 27) (tgt := 30) dX6_tally_24 rfl (by decide) (fun c3 => ?_) (fun c3 => ?_)
      · refine mm_aload_n (q := 31) dX6_tally_30 rfl rfl rfl ?_
        refine mm_getR (q := 34) (k1 := 20) dX6_tally_31 rfl lc_0 fd_X6_25 rfl ?_
        refine mm_getIN (q := 37) dX6_tally_34 rfl lc_20 fd_X6_212 rfl ?_
        refine mm_bipush (q := 39) dX6_tally_37 rfl bp_8 ?_
        refine mm_icmp_ne (q := 42) (tgt := 45) dX6_tally_39 rfl (by decide) (fun c4 => ?_) (fun c4 => ?_)
        · refine mm_bipush (q := 44) dX6_tally_42 rfl bp_m4 ?_
          exact mm_iret rfl dX6_tally_44
        · refine mm_aload_n (q := 46) dX6_tally_45 rfl rfl rfl ?_
          refine mm_getR (q := 49) (k1 := 20) dX6_tally_46 rfl lc_0 fd_X6_25 rfl ?_
          refine mm_iload_n (q := 50) dX6_tally_49 rfl rfl rfl ?_
          refine mm_iload_n (q := 51) dX6_tally_50 rfl rfl rfl ?_
          refine mm_iload_n (q := 52) dX6_tally_51 rfl rfl rfl ?_
          refine mm_callVV (as := [.int x1, .int x2, .int x3]) (st := []) (q := 55) lc_20 rfl (fX0_append_ok x1 x2 x3 M) ms_X6_213 rfl (Nat.le_of_ble_eq_true rfl) (Nat.le_of_ble_eq_true rfl) rfl dX6_tally_52 rfl (fun M5 _ => ?_)
          refine mm_aload_n (q := 56) dX6_tally_55 rfl rfl rfl ?_
          refine mm_getR (q := 59) (k1 := 20) dX6_tally_56 rfl lc_0 fd_X6_25 rfl ?_
          refine mm_getIN (q := 62) dX6_tally_59 rfl lc_20 fd_X6_212 rfl ?_
          exact mm_iret rfl dX6_tally_62
      · refine mm_bipush (q := 29) dX6_tally_27 rfl bp_m2 ?_
        exact mm_iret rfl dX6_tally_29
    · refine mm_bipush (q := 29) dX6_tally_27 rfl bp_m2 ?_
      exact mm_iret rfl dX6_tally_29
  · refine mm_bipush (q := 29) dX6_tally_27 rfl bp_m2 ?_
    exact mm_iret rfl dX6_tally_29
def fX6_tellAgain (x1 : Int32) (M : mm_M) : Option (mm_M) :=
  if x1 = 0 then
    ((mm_ra [2, 4, 6] (0 : Int32)).bind fun b2 =>
    (fX5_readPeople 24 b2 M).bind fun M3 =>
    (fX6_courseChanged M3).bind fun M4 =>
    some M4)
  else
    if x1 = (1 : Int32) then
      ((mm_ra [2, 4, 6] (1 : Int32)).bind fun b6 =>
      (fX5_readWords 24 b6 M).bind fun M7 =>
      (fX6_courseChanged M7).bind fun M8 =>
      some M8)
    else
      (mm_ra [2, 4, 6] (2 : Int32)).bind fun b9 =>
      (fX5_readMeetings 24 b9 M).bind fun M10 =>
      (fX6_courseChanged M10).bind fun M11 =>
      some M11
set_option maxRecDepth 100000 in
set_option maxHeartbeats 4000000 in
theorem fX6_tellAgain_ok (x1 : Int32) (M : mm_M)  : mm_E LC yX6_tellAgain cX6_tellAgain 2 none 3 mm_eV [.ref 0, .int x1] M (fX6_tellAgain x1 M) := by
  refine mm_E.of (own := RX6) (ls := [some (.ref 0), some (.int x1)]) (by decide) rfl rfl (Nat.le_of_ble_eq_true rfl) ?_
  unfold fX6_tellAgain
  refine mm_iload_n (q := 1) dX6_tellAgain_0 rfl rfl rfl ?_
  refine mm_if_ne (q := 4) (tgt := 20) dX6_tellAgain_1 rfl (by decide) (fun c1 => ?_) (fun c1 => ?_)
  · refine mm_aload_n (q := 5) dX6_tellAgain_4 rfl rfl rfl ?_
    refine mm_getR (q := 8) (k1 := 24) dX6_tellAgain_5 rfl lc_0 fd_X6_38 rfl ?_
    refine mm_aload_n (q := 9) dX6_tellAgain_8 rfl rfl rfl ?_
    refine mm_getR (q := 12) (k1 := 1) dX6_tellAgain_9 rfl lc_0 fd_X6_11 rfl ?_
    refine mm_iconst (q := 13) dX6_tellAgain_12 rfl ic_0 ?_
    refine mm_aald (q := 14) (cn := "WordsLent$Text") dX6_tellAgain_13 rfl lc_1 (fun _ => rfl) (fun b2 hb2 => ?_)
    refine mm_callVV (as := [.ref b2]) (st := []) (q := 17) lc_24 rfl (fX5_readPeople_ok 24 b2 M isTo_24 (isTx_of hb2)) ms_X6_346 rfl (Nat.le_of_ble_eq_true rfl) (Nat.le_of_ble_eq_true rfl) rfl dX6_tellAgain_14 rfl (fun M3 _ => ?_)
    refine mm_goto (tgt := 54) dX6_tellAgain_17 (by decide) ?_
    refine mm_aload_n (q := 55) dX6_tellAgain_54 rfl rfl rfl ?_
    refine mm_callVV (as := []) (st := []) (q := 58) lc_0 rfl (fX6_courseChanged_ok M3) ms_X6_131 rfl (Nat.le_of_ble_eq_true rfl) (Nat.le_of_ble_eq_true rfl) rfl dX6_tellAgain_55 rfl (fun M4 _ => ?_)
    exact mm_vret rfl dX6_tellAgain_58
  · refine mm_iload_n (q := 21) dX6_tellAgain_20 rfl rfl rfl ?_
    refine mm_iconst (q := 22) dX6_tellAgain_21 rfl ic_1 ?_
    refine mm_icmp_ne (q := 25) (tgt := 41) dX6_tellAgain_22 rfl (by decide) (fun c5 => ?_) (fun c5 => ?_)
    · refine mm_aload_n (q := 26) dX6_tellAgain_25 rfl rfl rfl ?_
      refine mm_getR (q := 29) (k1 := 24) dX6_tellAgain_26 rfl lc_0 fd_X6_38 rfl ?_
      refine mm_aload_n (q := 30) dX6_tellAgain_29 rfl rfl rfl ?_
      refine mm_getR (q := 33) (k1 := 1) dX6_tellAgain_30 rfl lc_0 fd_X6_11 rfl ?_
      refine mm_iconst (q := 34) dX6_tellAgain_33 rfl ic_1 ?_
      refine mm_aald (q := 35) (cn := "WordsLent$Text") dX6_tellAgain_34 rfl lc_1 (fun _ => rfl) (fun b6 hb6 => ?_)
      refine mm_callVV (as := [.ref b6]) (st := []) (q := 38) lc_24 rfl (fX5_readWords_ok 24 b6 M isTo_24 (isTx_of hb6)) ms_X6_350 rfl (Nat.le_of_ble_eq_true rfl) (Nat.le_of_ble_eq_true rfl) rfl dX6_tellAgain_35 rfl (fun M7 _ => ?_)
      refine mm_goto (tgt := 54) dX6_tellAgain_38 (by decide) ?_
      refine mm_aload_n (q := 55) dX6_tellAgain_54 rfl rfl rfl ?_
      refine mm_callVV (as := []) (st := []) (q := 58) lc_0 rfl (fX6_courseChanged_ok M7) ms_X6_131 rfl (Nat.le_of_ble_eq_true rfl) (Nat.le_of_ble_eq_true rfl) rfl dX6_tellAgain_55 rfl (fun M8 _ => ?_)
      exact mm_vret rfl dX6_tellAgain_58
    · refine mm_aload_n (q := 42) dX6_tellAgain_41 rfl rfl rfl ?_
      refine mm_getR (q := 45) (k1 := 24) dX6_tellAgain_42 rfl lc_0 fd_X6_38 rfl ?_
      refine mm_aload_n (q := 46) dX6_tellAgain_45 rfl rfl rfl ?_
      refine mm_getR (q := 49) (k1 := 1) dX6_tellAgain_46 rfl lc_0 fd_X6_11 rfl ?_
      refine mm_iconst (q := 50) dX6_tellAgain_49 rfl ic_2 ?_
      refine mm_aald (q := 51) (cn := "WordsLent$Text") dX6_tellAgain_50 rfl lc_1 (fun _ => rfl) (fun b9 hb9 => ?_)
      refine mm_callVV (as := [.ref b9]) (st := []) (q := 54) lc_24 rfl (fX5_readMeetings_ok 24 b9 M isTo_24 (isTx_of hb9)) ms_X6_353 rfl (Nat.le_of_ble_eq_true rfl) (Nat.le_of_ble_eq_true rfl) rfl dX6_tellAgain_51 rfl (fun M10 _ => ?_)
      refine mm_aload_n (q := 55) dX6_tellAgain_54 rfl rfl rfl ?_
      refine mm_callVV (as := []) (st := []) (q := 58) lc_0 rfl (fX6_courseChanged_ok M10) ms_X6_131 rfl (Nat.le_of_ble_eq_true rfl) (Nat.le_of_ble_eq_true rfl) rfl dX6_tellAgain_55 rfl (fun M11 _ => ?_)
      exact mm_vret rfl dX6_tellAgain_58
def fX6_type (x1 : Int32) (x2 : Int32) (M : mm_M) : Option (Int32 × mm_M) :=
  if (fX6_isOutside x1 (3 : Int32)) = 0 then
    (if (fX6_isOutside x2 (256 : Int32)) = 0 then
      ((mm_ra [2, 4, 6] x1).bind fun b3 =>
      if (fX4_isFull b3 M) = 0 then
        ((mm_ra [2, 4, 6] x1).bind fun b5 =>
        (fX4_append b5 x2 M).bind fun M6 =>
        (fX6_tellAgain x1 M6).bind fun M7 =>
        (mm_ra [2, 4, 6] x1).bind fun b8 =>
        some (fX4_size b8 M7, M7))
      else
        some ((-4 : Int32), M))
    else
      some ((-2 : Int32), M))
  else
    some ((-2 : Int32), M)
set_option maxRecDepth 100000 in
set_option maxHeartbeats 4000000 in
theorem fX6_type_ok (x1 : Int32) (x2 : Int32) (M : mm_M)  : mm_E LC yX6_type cX6_type 3 (some .int) 4 mm_eI [.ref 0, .int x1, .int x2] M (fX6_type x1 x2 M) := by
  refine mm_E.of (own := RX6) (ls := [some (.ref 0), some (.int x1), some (.int x2)]) (by decide) rfl rfl (Nat.le_of_ble_eq_true rfl) ?_
  unfold fX6_type
  refine mm_iload_n (q := 1) dX6_type_0 rfl rfl rfl ?_
  refine mm_iconst (q := 2) dX6_type_1 rfl ic_3 ?_
  refine mm_callST (as := [.int x1, .int (3 : Int32)]) (st := []) (q := 5) (fX6_isOutside_ok x1 (3 : Int32) M) ms_X6_66 rfl (Nat.le_of_ble_eq_true rfl) (Nat.le_of_ble_eq_true rfl) rfl dX6_type_2 rfl ?_
  refine mm_if_ne (q := 8) (tgt := 18) dX6_type_5 rfl (by decide) (fun c1 => ?_) (fun c1 => ?_)
  · refine mm_iload_n (q := 9) dX6_type_8 rfl rfl rfl ?_
    refine mm_sipush (q := 12) dX6_type_9 rfl sp_256 ?_
    refine mm_callST (as := [.int x2, .int (256 : Int32)]) (st := []) (q := 15) (fX6_isOutside_ok x2 (256 : Int32) M) ms_X6_66 rfl (Nat.le_of_ble_eq_true rfl) (Nat.le_of_ble_eq_true rfl) rfl dX6_type_12 rfl ?_
    refine mm_if_eq (q := 18) (tgt := 21) dX6_type_15 rfl (by decide) (fun c2 => ?_) (fun c2 => ?_)
    · refine mm_aload_n (q := 22) dX6_type_21 rfl rfl rfl ?_
      refine mm_getR (q := 25) (k1 := 1) dX6_type_22 rfl lc_0 fd_X6_11 rfl ?_
      refine mm_iload_n (q := 26) dX6_type_25 rfl rfl rfl ?_
      refine mm_aald (q := 27) (cn := "WordsLent$Text") dX6_type_26 rfl lc_1 (fun _ => rfl) (fun b3 hb3 => ?_)
      refine mm_callVT (as := []) (st := []) (q := 30) (lc_Tx (isTx_of hb3)) rfl (fX4_isFull_ok b3 M (isTx_of hb3)) ms_X6_70 rfl (Nat.le_of_ble_eq_true rfl) (Nat.le_of_ble_eq_true rfl) rfl dX6_type_27 rfl ?_
      refine mm_if_eq (q := 33) (tgt := 36) dX6_type_30 rfl (by decide) (fun c4 => ?_) (fun c4 => ?_)
      · refine mm_aload_n (q := 37) dX6_type_36 rfl rfl rfl ?_
        refine mm_getR (q := 40) (k1 := 1) dX6_type_37 rfl lc_0 fd_X6_11 rfl ?_
        refine mm_iload_n (q := 41) dX6_type_40 rfl rfl rfl ?_
        refine mm_aald (q := 42) (cn := "WordsLent$Text") dX6_type_41 rfl lc_1 (fun _ => rfl) (fun b5 hb5 => ?_)
        refine mm_iload_n (q := 43) dX6_type_42 rfl rfl rfl ?_
        refine mm_callVV (as := [.int x2]) (st := []) (q := 46) (lc_Tx (isTx_of hb5)) rfl (fX4_append_ok b5 x2 M (isTx_of hb5)) ms_X6_74 rfl (Nat.le_of_ble_eq_true rfl) (Nat.le_of_ble_eq_true rfl) rfl dX6_type_43 rfl (fun M6 _ => ?_)
        refine mm_aload_n (q := 47) dX6_type_46 rfl rfl rfl ?_
        refine mm_iload_n (q := 48) dX6_type_47 rfl rfl rfl ?_
        refine mm_callVV (as := [.int x1]) (st := []) (q := 51) lc_0 rfl (fX6_tellAgain_ok x1 M6) ms_X6_77 rfl (Nat.le_of_ble_eq_true rfl) (Nat.le_of_ble_eq_true rfl) rfl dX6_type_48 rfl (fun M7 _ => ?_)
        refine mm_aload_n (q := 52) dX6_type_51 rfl rfl rfl ?_
        refine mm_getR (q := 55) (k1 := 1) dX6_type_52 rfl lc_0 fd_X6_11 rfl ?_
        refine mm_iload_n (q := 56) dX6_type_55 rfl rfl rfl ?_
        refine mm_aald (q := 57) (cn := "WordsLent$Text") dX6_type_56 rfl lc_1 (fun _ => rfl) (fun b8 hb8 => ?_)
        refine mm_callVT (as := []) (st := []) (q := 60) (lc_Tx (isTx_of hb8)) rfl (fX4_size_ok b8 M7 (isTx_of hb8)) ms_X6_80 rfl (Nat.le_of_ble_eq_true rfl) (Nat.le_of_ble_eq_true rfl) rfl dX6_type_57 rfl ?_
        exact mm_iret rfl dX6_type_60
      · refine mm_bipush (q := 35) dX6_type_33 rfl bp_m4 ?_
        exact mm_iret rfl dX6_type_35
    · refine mm_bipush (q := 20) dX6_type_18 rfl bp_m2 ?_
      exact mm_iret rfl dX6_type_20
  · refine mm_bipush (q := 20) dX6_type_18 rfl bp_m2 ?_
    exact mm_iret rfl dX6_type_20
def fX6_undo (x1 : Int32) (M : mm_M) : Option (Int32 × mm_M) :=
  if (fX6_isOutside x1 (3 : Int32)) = 0 then
    ((mm_ra [2, 4, 6] x1).bind fun b2 =>
    if (fX4_size b2 M) = 0 then
      some ((-3 : Int32), M)
    else
      (mm_ra [2, 4, 6] x1).bind fun b4 =>
      (fX4_cutTo b4 ((fX4_size b2 M) - (1 : Int32)) M).bind fun M5 =>
      (fX6_tellAgain x1 M5).bind fun M6 =>
      some ((fX4_size b2 M) - (1 : Int32), M6))
  else
    some ((-2 : Int32), M)
set_option maxRecDepth 100000 in
set_option maxHeartbeats 4000000 in
theorem fX6_undo_ok (x1 : Int32) (M : mm_M)  : mm_E LC yX6_undo cX6_undo 3 (some .int) 4 mm_eI [.ref 0, .int x1] M (fX6_undo x1 M) := by
  refine mm_E.of (own := RX6) (ls := [some (.ref 0), some (.int x1), none]) (by decide) rfl rfl (Nat.le_of_ble_eq_true rfl) ?_
  unfold fX6_undo
  refine mm_iload_n (q := 1) dX6_undo_0 rfl rfl rfl ?_
  refine mm_iconst (q := 2) dX6_undo_1 rfl ic_3 ?_
  refine mm_callST (as := [.int x1, .int (3 : Int32)]) (st := []) (q := 5) (fX6_isOutside_ok x1 (3 : Int32) M) ms_X6_66 rfl (Nat.le_of_ble_eq_true rfl) (Nat.le_of_ble_eq_true rfl) rfl dX6_undo_2 rfl ?_
  refine mm_if_eq (q := 8) (tgt := 11) dX6_undo_5 rfl (by decide) (fun c1 => ?_) (fun c1 => ?_)
  · refine mm_aload_n (q := 12) dX6_undo_11 rfl rfl rfl ?_
    refine mm_getR (q := 15) (k1 := 1) dX6_undo_12 rfl lc_0 fd_X6_11 rfl ?_
    refine mm_iload_n (q := 16) dX6_undo_15 rfl rfl rfl ?_
    refine mm_aald (q := 17) (cn := "WordsLent$Text") dX6_undo_16 rfl lc_1 (fun _ => rfl) (fun b2 hb2 => ?_)
    refine mm_callVT (as := []) (st := []) (q := 20) (lc_Tx (isTx_of hb2)) rfl (fX4_size_ok b2 M (isTx_of hb2)) ms_X6_80 rfl (Nat.le_of_ble_eq_true rfl) (Nat.le_of_ble_eq_true rfl) rfl dX6_undo_17 rfl ?_
    refine mm_istore_n (q := 21) (ls' := [some (.ref 0), some (.int x1), some (.int (fX4_size b2 M))]) dX6_undo_20 rfl rfl rfl (Nat.le_of_ble_eq_true rfl) rfl ?_
    refine mm_iload_n (q := 22) dX6_undo_21 rfl rfl rfl ?_
    refine mm_if_ne (q := 25) (tgt := 28) dX6_undo_22 rfl (by decide) (fun c3 => ?_) (fun c3 => ?_)
    · refine mm_bipush (q := 27) dX6_undo_25 rfl bp_m3 ?_
      exact mm_iret rfl dX6_undo_27
    · refine mm_aload_n (q := 29) dX6_undo_28 rfl rfl rfl ?_
      refine mm_getR (q := 32) (k1 := 1) dX6_undo_29 rfl lc_0 fd_X6_11 rfl ?_
      refine mm_iload_n (q := 33) dX6_undo_32 rfl rfl rfl ?_
      refine mm_aald (q := 34) (cn := "WordsLent$Text") dX6_undo_33 rfl lc_1 (fun _ => rfl) (fun b4 hb4 => ?_)
      refine mm_iload_n (q := 35) dX6_undo_34 rfl rfl rfl ?_
      refine mm_iconst (q := 36) dX6_undo_35 rfl ic_1 ?_
      refine mm_isub (q := 37) dX6_undo_36 rfl ?_
      refine mm_callVV (as := [.int ((fX4_size b2 M) - (1 : Int32))]) (st := []) (q := 40) (lc_Tx (isTx_of hb4)) rfl (fX4_cutTo_ok b4 ((fX4_size b2 M) - (1 : Int32)) M (isTx_of hb4)) ms_X6_84 rfl (Nat.le_of_ble_eq_true rfl) (Nat.le_of_ble_eq_true rfl) rfl dX6_undo_37 rfl (fun M5 _ => ?_)
      refine mm_aload_n (q := 41) dX6_undo_40 rfl rfl rfl ?_
      refine mm_iload_n (q := 42) dX6_undo_41 rfl rfl rfl ?_
      refine mm_callVV (as := [.int x1]) (st := []) (q := 45) lc_0 rfl (fX6_tellAgain_ok x1 M5) ms_X6_77 rfl (Nat.le_of_ble_eq_true rfl) (Nat.le_of_ble_eq_true rfl) rfl dX6_undo_42 rfl (fun M6 _ => ?_)
      refine mm_iload_n (q := 46) dX6_undo_45 rfl rfl rfl ?_
      refine mm_iconst (q := 47) dX6_undo_46 rfl ic_1 ?_
      refine mm_isub (q := 48) dX6_undo_47 rfl ?_
      exact mm_iret rfl dX6_undo_48
  · refine mm_bipush (q := 10) dX6_undo_8 rfl bp_m2 ?_
    exact mm_iret rfl dX6_undo_10
def fX6_wipe (x1 : Int32) (M : mm_M) : Option (Int32 × mm_M) :=
  if (fX6_isOutside x1 (3 : Int32)) = 0 then
    ((mm_ra [2, 4, 6] x1).bind fun b2 =>
    (mm_ra [2, 4, 6] x1).bind fun b3 =>
    (fX4_cutTo b3 (0 : Int32) M).bind fun M4 =>
    (fX6_tellAgain x1 M4).bind fun M5 =>
    some (fX4_size b2 M, M5))
  else
    some ((-2 : Int32), M)
set_option maxRecDepth 100000 in
set_option maxHeartbeats 4000000 in
theorem fX6_wipe_ok (x1 : Int32) (M : mm_M)  : mm_E LC yX6_wipe cX6_wipe 3 (some .int) 4 mm_eI [.ref 0, .int x1] M (fX6_wipe x1 M) := by
  refine mm_E.of (own := RX6) (ls := [some (.ref 0), some (.int x1), none]) (by decide) rfl rfl (Nat.le_of_ble_eq_true rfl) ?_
  unfold fX6_wipe
  refine mm_iload_n (q := 1) dX6_wipe_0 rfl rfl rfl ?_
  refine mm_iconst (q := 2) dX6_wipe_1 rfl ic_3 ?_
  refine mm_callST (as := [.int x1, .int (3 : Int32)]) (st := []) (q := 5) (fX6_isOutside_ok x1 (3 : Int32) M) ms_X6_66 rfl (Nat.le_of_ble_eq_true rfl) (Nat.le_of_ble_eq_true rfl) rfl dX6_wipe_2 rfl ?_
  refine mm_if_eq (q := 8) (tgt := 11) dX6_wipe_5 rfl (by decide) (fun c1 => ?_) (fun c1 => ?_)
  · refine mm_aload_n (q := 12) dX6_wipe_11 rfl rfl rfl ?_
    refine mm_getR (q := 15) (k1 := 1) dX6_wipe_12 rfl lc_0 fd_X6_11 rfl ?_
    refine mm_iload_n (q := 16) dX6_wipe_15 rfl rfl rfl ?_
    refine mm_aald (q := 17) (cn := "WordsLent$Text") dX6_wipe_16 rfl lc_1 (fun _ => rfl) (fun b2 hb2 => ?_)
    refine mm_callVT (as := []) (st := []) (q := 20) (lc_Tx (isTx_of hb2)) rfl (fX4_size_ok b2 M (isTx_of hb2)) ms_X6_80 rfl (Nat.le_of_ble_eq_true rfl) (Nat.le_of_ble_eq_true rfl) rfl dX6_wipe_17 rfl ?_
    refine mm_istore_n (q := 21) (ls' := [some (.ref 0), some (.int x1), some (.int (fX4_size b2 M))]) dX6_wipe_20 rfl rfl rfl (Nat.le_of_ble_eq_true rfl) rfl ?_
    refine mm_aload_n (q := 22) dX6_wipe_21 rfl rfl rfl ?_
    refine mm_getR (q := 25) (k1 := 1) dX6_wipe_22 rfl lc_0 fd_X6_11 rfl ?_
    refine mm_iload_n (q := 26) dX6_wipe_25 rfl rfl rfl ?_
    refine mm_aald (q := 27) (cn := "WordsLent$Text") dX6_wipe_26 rfl lc_1 (fun _ => rfl) (fun b3 hb3 => ?_)
    refine mm_iconst (q := 28) dX6_wipe_27 rfl ic_0 ?_
    refine mm_callVV (as := [.int (0 : Int32)]) (st := []) (q := 31) (lc_Tx (isTx_of hb3)) rfl (fX4_cutTo_ok b3 (0 : Int32) M (isTx_of hb3)) ms_X6_84 rfl (Nat.le_of_ble_eq_true rfl) (Nat.le_of_ble_eq_true rfl) rfl dX6_wipe_28 rfl (fun M4 _ => ?_)
    refine mm_aload_n (q := 32) dX6_wipe_31 rfl rfl rfl ?_
    refine mm_iload_n (q := 33) dX6_wipe_32 rfl rfl rfl ?_
    refine mm_callVV (as := [.int x1]) (st := []) (q := 36) lc_0 rfl (fX6_tellAgain_ok x1 M4) ms_X6_77 rfl (Nat.le_of_ble_eq_true rfl) (Nat.le_of_ble_eq_true rfl) rfl dX6_wipe_33 rfl (fun M5 _ => ?_)
    refine mm_iload_n (q := 37) dX6_wipe_36 rfl rfl rfl ?_
    exact mm_iret rfl dX6_wipe_37
  · refine mm_bipush (q := 10) dX6_wipe_8 rfl bp_m2 ?_
    exact mm_iret rfl dX6_wipe_10
def fX6_write_L63 (x1 : Int32) (x4 : Int32) (p3 : Nat)  : Nat → Int32 → mm_M → Option (Int32 × mm_M)
  | 0, _, _ => none
  | n + 1, x5, M =>
    if x4 ≤ x5 then
      some (x4, M)
    else
      (fX1_leftBehind 42 x5 x1 M).bind fun b7 =>
      (fX3_put p3 x5 b7 M).bind fun M8 =>
      fX6_write_L63 x1 x4 p3 n (x5 + (1 : Int32)) M8
set_option maxRecDepth 100000 in
set_option maxHeartbeats 4000000 in
theorem fX6_write_L63_ok (x1 : Int32) (x4 : Int32) (p3 : Nat) (hp3 : isSh p3)   : ∀ (n : Nat) (x5 : Int32) (M : mm_M), mm_C LC cX6_write 6 RX6 (some .int) 4 mm_eI 63 [some (.ref 0), some (.int x1), none, some (.ref p3), some (.int x4), some (.int x5)] [] M (fX6_write_L63 x1 x4 p3 n x5 M) := by
  intro n
  induction n with
  | zero => intro x5 M; exact mm_none
  | succ n ih =>
    intro x5 M
    rw [fX6_write_L63]
    refine mm_iload (q := 65) dX6_write_63 rfl rfl ?_
    refine mm_iload (q := 67) dX6_write_65 rfl rfl ?_
    refine mm_icmp_ge (q := 70) (tgt := 92) dX6_write_67 rfl (by decide) (fun c6 => ?_) (fun c6 => ?_)
    · refine mm_iload (q := 94) dX6_write_92 rfl rfl ?_
      exact mm_iret rfl dX6_write_94
    · refine mm_aload_n (q := 71) dX6_write_70 rfl rfl rfl ?_
      refine mm_iload (q := 73) dX6_write_71 rfl rfl ?_
      refine mm_aload_n (q := 74) dX6_write_73 rfl rfl rfl ?_
      refine mm_getR (q := 77) (k1 := 42) dX6_write_74 rfl lc_0 fd_X6_45 rfl ?_
      refine mm_iload (q := 79) dX6_write_77 rfl rfl ?_
      refine mm_iload_n (q := 80) dX6_write_79 rfl rfl rfl ?_
      refine mm_callVP (as := [.int x5, .int x1]) (st := [.int x5, .ref p3]) (q := 83) lc_42 rfl (fX1_leftBehind_ok 42 x5 x1 M isCo_42) ms_X6_156 rfl (Nat.le_of_ble_eq_true rfl) (Nat.le_of_ble_eq_true rfl) rfl dX6_write_80 rfl (fun b7 _ => ?_)
      refine mm_callVV (as := [.int x5, .int b7]) (st := []) (q := 86) (lc_Sh hp3) rfl (fX3_put_ok p3 x5 b7 M hp3) ms_X6_244 rfl (Nat.le_of_ble_eq_true rfl) (Nat.le_of_ble_eq_true rfl) rfl dX6_write_83 rfl (fun M8 _ => ?_)
      refine mm_iinc (q := 89) (ls' := [some (.ref 0), some (.int x1), none, some (.ref p3), some (.int x4), some (.int (x5 + (1 : Int32)))]) dX6_write_86 rfl rfl (ii_1 _) rfl (Nat.le_of_ble_eq_true rfl) rfl ?_
      refine mm_goto (tgt := 63) dX6_write_89 (by decide) ?_
      exact ih _ _
def fX6_write (x1 : Int32) (x2 : Int32) (M : mm_M) : Option (Int32 × mm_M) :=
  if (fX6_isOutside x1 (M 24 3)) = 0 then
    (if (fX6_isOutside x2 (4 : Int32)) = 0 then
      ((mm_ra [9, 11, 13, 15] x2).bind fun b3 =>
      if (fX3_isLost b3 M) = 0 then
        ((fX6_learnCourse M).bind fun M5 =>
        fX6_write_L63 x1 (mm_min (M5 b3 2) (24 : Int32)) b3 1000 (0 : Int32) M5)
      else
        (fX6_finding (1 : Int32) M).bind fun b9 =>
        some (b9.1, b9.2))
    else
      some ((-2 : Int32), M))
  else
    some ((-2 : Int32), M)
set_option maxRecDepth 100000 in
set_option maxHeartbeats 4000000 in
theorem fX6_write_ok (x1 : Int32) (x2 : Int32) (M : mm_M)  : mm_E LC yX6_write cX6_write 6 (some .int) 4 mm_eI [.ref 0, .int x1, .int x2] M (fX6_write x1 x2 M) := by
  refine mm_E.of (own := RX6) (ls := [some (.ref 0), some (.int x1), some (.int x2), none, none, none]) (by decide) rfl rfl (Nat.le_of_ble_eq_true rfl) ?_
  unfold fX6_write
  refine mm_iload_n (q := 1) dX6_write_0 rfl rfl rfl ?_
  refine mm_aload_n (q := 2) dX6_write_1 rfl rfl rfl ?_
  refine mm_getR (q := 5) (k1 := 24) dX6_write_2 rfl lc_0 fd_X6_38 rfl ?_
  refine mm_getIN (q := 8) dX6_write_5 rfl lc_24 fd_X6_100 rfl ?_
  refine mm_callST (as := [.int x1, .int (M 24 3)]) (st := []) (q := 11) (fX6_isOutside_ok x1 (M 24 3) M) ms_X6_66 rfl (Nat.le_of_ble_eq_true rfl) (Nat.le_of_ble_eq_true rfl) rfl dX6_write_8 rfl ?_
  refine mm_if_ne (q := 14) (tgt := 22) dX6_write_11 rfl (by decide) (fun c1 => ?_) (fun c1 => ?_)
  · refine mm_iload_n (q := 15) dX6_write_14 rfl rfl rfl ?_
    refine mm_iconst (q := 16) dX6_write_15 rfl ic_4 ?_
    refine mm_callST (as := [.int x2, .int (4 : Int32)]) (st := []) (q := 19) (fX6_isOutside_ok x2 (4 : Int32) M) ms_X6_66 rfl (Nat.le_of_ble_eq_true rfl) (Nat.le_of_ble_eq_true rfl) rfl dX6_write_16 rfl ?_
    refine mm_if_eq (q := 22) (tgt := 25) dX6_write_19 rfl (by decide) (fun c2 => ?_) (fun c2 => ?_)
    · refine mm_aload_n (q := 26) dX6_write_25 rfl rfl rfl ?_
      refine mm_getR (q := 29) (k1 := 8) dX6_write_26 rfl lc_0 fd_X6_31 rfl ?_
      refine mm_iload_n (q := 30) dX6_write_29 rfl rfl rfl ?_
      refine mm_aald (q := 31) (cn := "WordsLent$Sheet") dX6_write_30 rfl lc_8 (fun _ => rfl) (fun b3 hb3 => ?_)
      refine mm_astore_n (q := 32) (ls' := [some (.ref 0), some (.int x1), some (.int x2), some (.ref b3), none, none]) dX6_write_31 rfl rfl rfl (Nat.le_of_ble_eq_true rfl) rfl ?_
      refine mm_aload_n (q := 33) dX6_write_32 rfl rfl rfl ?_
      refine mm_callVT (as := []) (st := []) (q := 36) (lc_Sh (isSh_of hb3)) rfl (fX3_isLost_ok b3 M (isSh_of hb3)) ms_X6_137 rfl (Nat.le_of_ble_eq_true rfl) (Nat.le_of_ble_eq_true rfl) rfl dX6_write_33 rfl ?_
      refine mm_if_eq (q := 39) (tgt := 45) dX6_write_36 rfl (by decide) (fun c4 => ?_) (fun c4 => ?_)
      · refine mm_aload_n (q := 46) dX6_write_45 rfl rfl rfl ?_
        refine mm_callVV (as := []) (st := []) (q := 49) lc_0 rfl (fX6_learnCourse_ok M) ms_X6_149 rfl (Nat.le_of_ble_eq_true rfl) (Nat.le_of_ble_eq_true rfl) rfl dX6_write_46 rfl (fun M5 _ => ?_)
        refine mm_aload_n (q := 50) dX6_write_49 rfl rfl rfl ?_
        refine mm_getIN (q := 53) dX6_write_50 rfl (lc_Sh (isSh_of hb3)) fd_X6_144 rfl ?_
        refine mm_bipush (q := 55) dX6_write_53 rfl bp_24 ?_
        refine mm_mmin (q := 58) dX6_write_55 rfl cs_X6_260 ma_min_1 ma_0 ma_min_2 (Nat.le_of_ble_eq_true rfl) (Nat.le_of_ble_eq_true rfl) ?_
        refine mm_istore (q := 60) (ls' := [some (.ref 0), some (.int x1), some (.int x2), some (.ref b3), some (.int (mm_min (M5 b3 2) (24 : Int32))), none]) dX6_write_58 rfl rfl (Nat.le_of_ble_eq_true rfl) rfl ?_
        refine mm_iconst (q := 61) dX6_write_60 rfl ic_0 ?_
        refine mm_istore (q := 63) (ls' := [some (.ref 0), some (.int x1), some (.int x2), some (.ref b3), some (.int (mm_min (M5 b3 2) (24 : Int32))), some (.int (0 : Int32))]) dX6_write_61 rfl rfl (Nat.le_of_ble_eq_true rfl) rfl ?_
        refine mm_drop (ls' := [some (.ref 0), some (.int x1), none, some (.ref b3), some (.int (mm_min (M5 b3 2) (24 : Int32))), some (.int (0 : Int32))]) (mm_sub_at _ _ (And.intro rfl (And.intro rfl (And.intro rfl (And.intro rfl (And.intro rfl trivial)))))) ?_
        exact fX6_write_L63_ok x1 (mm_min (M5 b3 2) (24 : Int32)) b3 (isSh_of hb3) _ _ _
      · refine mm_aload_n (q := 40) dX6_write_39 rfl rfl rfl ?_
        refine mm_iconst (q := 41) dX6_write_40 rfl ic_1 ?_
        refine mm_callVI (as := [.int (1 : Int32)]) (st := []) (q := 44) lc_0 rfl (fX6_finding_ok (1 : Int32) M) ms_X6_140 rfl (Nat.le_of_ble_eq_true rfl) (Nat.le_of_ble_eq_true rfl) rfl dX6_write_41 rfl (fun b9 _ => ?_)
        exact mm_iret rfl dX6_write_44
    · refine mm_bipush (q := 24) dX6_write_22 rfl bp_m2 ?_
      exact mm_iret rfl dX6_write_24
  · refine mm_bipush (q := 24) dX6_write_22 rfl bp_m2 ?_
    exact mm_iret rfl dX6_write_24
