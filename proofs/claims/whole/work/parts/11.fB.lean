def fX1_beginDays_L3 (r0 : Nat) (r1 : Nat) (x3 : Int32) (k40 : mm_M → Option (mm_M)) : Nat → Int32 → mm_M → Option (mm_M)
  | 0, _, _ => none
  | n + 1, x4, M =>
    if (24 : Int32) ≤ x4 then
      k40 M
    else
      (mm_wa M (r0 + 5) 24 x4 (0 : Int32)).bind fun M2 =>
      (mm_wa M2 (r0 + 6) 24 x4 (0 : Int32)).bind fun M3 =>
      (mm_wa M3 (r0 + 7) 24 x4 (-1 : Int32)).bind fun M4 =>
      fX1_beginDays_L3 r0 r1 x3 k40 n (x4 + (1 : Int32)) M4
set_option maxRecDepth 100000 in
set_option maxHeartbeats 4000000 in
theorem fX1_beginDays_L3_ok (r0 : Nat) (r1 : Nat) (x3 : Int32) (h0 : isCo r0) (h1 : isTo r1) (k40 : mm_M → Option (mm_M)) (hk40 : ∀  (M : mm_M), mm_C LC cX1_beginDays 5 RX1 none 0 mm_eV 40 [some (.ref r0), some (.ref r1), some (.ref 17), some (.int x3), none] [] M (k40 M)) : ∀ (n : Nat) (x4 : Int32) (M : mm_M), mm_C LC cX1_beginDays 5 RX1 none 0 mm_eV 3 [some (.ref r0), some (.ref r1), some (.ref 17), some (.int x3), some (.int x4)] [] M (fX1_beginDays_L3 r0 r1 x3 k40 n x4 M) := by
  intro n
  induction n with
  | zero => intro x4 M; exact mm_none
  | succ n ih =>
    intro x4 M
    rw [fX1_beginDays_L3]
    refine mm_iload (q := 5) dX1_beginDays_3 rfl rfl ?_
    refine mm_bipush (q := 7) dX1_beginDays_5 rfl bp_24 ?_
    refine mm_icmp_ge (q := 10) (tgt := 40) dX1_beginDays_7 rfl (by decide) (fun c1 => ?_) (fun c1 => ?_)
    · refine mm_drop (ls' := [some (.ref r0), some (.ref r1), some (.ref 17), some (.int x3), none]) (mm_sub_at _ _ (And.intro rfl (And.intro rfl (And.intro rfl (And.intro rfl trivial))))) ?_
      exact hk40  _
    · refine mm_aload_n (q := 11) dX1_beginDays_10 rfl rfl rfl ?_
      refine mm_getR (q := 14) (k1 := (r0 + 5)) dX1_beginDays_11 rfl (lc_Co h0) fd_X1_24 rfl ?_
      refine mm_iload (q := 16) dX1_beginDays_14 rfl rfl ?_
      refine mm_iconst (q := 17) dX1_beginDays_16 rfl ic_0 ?_
      refine mm_iast (q := 18) dX1_beginDays_17 rfl (lc_Co_5 h0) (fun M2 _ => ?_)
      refine mm_aload_n (q := 19) dX1_beginDays_18 rfl rfl rfl ?_
      refine mm_getR (q := 22) (k1 := (r0 + 6)) dX1_beginDays_19 rfl (lc_Co h0) fd_X1_27 rfl ?_
      refine mm_iload (q := 24) dX1_beginDays_22 rfl rfl ?_
      refine mm_iconst (q := 25) dX1_beginDays_24 rfl ic_0 ?_
      refine mm_iast (q := 26) dX1_beginDays_25 rfl (lc_Co_6 h0) (fun M3 _ => ?_)
      refine mm_aload_n (q := 27) dX1_beginDays_26 rfl rfl rfl ?_
      refine mm_getR (q := 30) (k1 := (r0 + 7)) dX1_beginDays_27 rfl (lc_Co h0) fd_X1_30 rfl ?_
      refine mm_iload (q := 32) dX1_beginDays_30 rfl rfl ?_
      refine mm_iconst (q := 33) dX1_beginDays_32 rfl ic_m1 ?_
      refine mm_iast (q := 34) dX1_beginDays_33 rfl (lc_Co_7 h0) (fun M4 _ => ?_)
      refine mm_iinc (q := 37) (ls' := [some (.ref r0), some (.ref r1), some (.ref 17), some (.int x3), some (.int (x4 + (1 : Int32)))]) dX1_beginDays_34 rfl rfl (ii_1 _) rfl (Nat.le_of_ble_eq_true rfl) rfl ?_
      refine mm_goto (tgt := 3) dX1_beginDays_37 (by decide) ?_
      exact ih _ _
def fX1_beginDays_L43 (r0 : Nat) (r1 : Nat) (x3 : Int32) (k91 : mm_M → Option (mm_M)) : Nat → Int32 → mm_M → Option (mm_M)
  | 0, _, _ => none
  | n + 1, x4, M =>
    if (M 17 2) ≤ x4 then
      k91 M
    else
      if ((x3 >>> (x4 &&& 31)) &&& (1 : Int32)) = 0 then
        fX1_beginDays_L43 r0 r1 x3 k91 n (x4 + (1 : Int32)) M
      else
        (mm_rd M 18 8 x4).bind fun b8 =>
        (mm_rd M (r0 + 5) 24 b8).bind fun b9 =>
        (mm_rd M 19 8 x4).bind fun b10 =>
        (mm_wa M (r0 + 5) 24 b8 (b9 ||| ((1 : Int32) <<< (b10 &&& 31)))).bind fun M11 =>
        fX1_beginDays_L43 r0 r1 x3 k91 n (x4 + (1 : Int32)) M11
set_option maxRecDepth 100000 in
set_option maxHeartbeats 4000000 in
theorem fX1_beginDays_L43_ok (r0 : Nat) (r1 : Nat) (x3 : Int32) (h0 : isCo r0) (h1 : isTo r1) (k91 : mm_M → Option (mm_M)) (hk91 : ∀  (M : mm_M), mm_C LC cX1_beginDays 5 RX1 none 0 mm_eV 91 [some (.ref r0), some (.ref r1), none, none, none] [] M (k91 M)) : ∀ (n : Nat) (x4 : Int32) (M : mm_M), mm_C LC cX1_beginDays 5 RX1 none 0 mm_eV 43 [some (.ref r0), some (.ref r1), some (.ref 17), some (.int x3), some (.int x4)] [] M (fX1_beginDays_L43 r0 r1 x3 k91 n x4 M) := by
  intro n
  induction n with
  | zero => intro x4 M; exact mm_none
  | succ n ih =>
    intro x4 M
    rw [fX1_beginDays_L43]
    refine mm_iload (q := 45) dX1_beginDays_43 rfl rfl ?_
    refine mm_aload_n (q := 46) dX1_beginDays_45 rfl rfl rfl ?_
    refine mm_getIN (q := 49) dX1_beginDays_46 rfl lc_17 fd_X1_101 rfl ?_
    refine mm_icmp_ge (q := 52) (tgt := 91) dX1_beginDays_49 rfl (by decide) (fun c6 => ?_) (fun c6 => ?_)
    · refine mm_drop (ls' := [some (.ref r0), some (.ref r1), none, none, none]) (mm_sub_at _ _ (And.intro rfl (And.intro rfl trivial))) ?_
      exact hk91  _
    · refine mm_iload_n (q := 53) dX1_beginDays_52 rfl rfl rfl ?_
      refine mm_iload (q := 55) dX1_beginDays_53 rfl rfl ?_
      refine mm_ishr (q := 56) dX1_beginDays_55 rfl ?_
      refine mm_iconst (q := 57) dX1_beginDays_56 rfl ic_1 ?_
      refine mm_iand (q := 58) dX1_beginDays_57 rfl ?_
      refine mm_if_eq (q := 61) (tgt := 85) dX1_beginDays_58 rfl (by decide) (fun c7 => ?_) (fun c7 => ?_)
      · refine mm_iinc (q := 88) (ls' := [some (.ref r0), some (.ref r1), some (.ref 17), some (.int x3), some (.int (x4 + (1 : Int32)))]) dX1_beginDays_85 rfl rfl (ii_1 _) rfl (Nat.le_of_ble_eq_true rfl) rfl ?_
        refine mm_goto (tgt := 43) dX1_beginDays_88 (by decide) ?_
        exact ih _ _
      · refine mm_aload_n (q := 62) dX1_beginDays_61 rfl rfl rfl ?_
        refine mm_getR (q := 65) (k1 := (r0 + 5)) dX1_beginDays_62 rfl (lc_Co h0) fd_X1_24 rfl ?_
        refine mm_aload_n (q := 66) dX1_beginDays_65 rfl rfl rfl ?_
        refine mm_getRN (q := 69) (k1 := 18) dX1_beginDays_66 rfl lc_17 fd_X1_106 rfl ?_
        refine mm_iload (q := 71) dX1_beginDays_69 rfl rfl ?_
        refine mm_iald (q := 72) dX1_beginDays_71 rfl lc_18 (fun b8 _ => ?_)
        refine mm_dup2 (q := 73) dX1_beginDays_72 rfl rfl rfl ?_
        refine mm_iald (q := 74) dX1_beginDays_73 rfl (lc_Co_5 h0) (fun b9 _ => ?_)
        refine mm_iconst (q := 75) dX1_beginDays_74 rfl ic_1 ?_
        refine mm_aload_n (q := 76) dX1_beginDays_75 rfl rfl rfl ?_
        refine mm_getRN (q := 79) (k1 := 19) dX1_beginDays_76 rfl lc_17 fd_X1_109 rfl ?_
        refine mm_iload (q := 81) dX1_beginDays_79 rfl rfl ?_
        refine mm_iald (q := 82) dX1_beginDays_81 rfl lc_19 (fun b10 _ => ?_)
        refine mm_ishl (q := 83) dX1_beginDays_82 rfl ?_
        refine mm_ior (q := 84) dX1_beginDays_83 rfl ?_
        refine mm_iast (q := 85) dX1_beginDays_84 rfl (lc_Co_5 h0) (fun M11 _ => ?_)
        refine mm_iinc (q := 88) (ls' := [some (.ref r0), some (.ref r1), some (.ref 17), some (.int x3), some (.int (x4 + (1 : Int32)))]) dX1_beginDays_85 rfl rfl (ii_1 _) rfl (Nat.le_of_ble_eq_true rfl) rfl ?_
        refine mm_goto (tgt := 43) dX1_beginDays_88 (by decide) ?_
        exact ih _ _
def fX1_beginDays_L94 (r0 : Nat) (r1 : Nat) (k128 : mm_M → Option (mm_M)) : Nat → Int32 → mm_M → Option (mm_M)
  | 0, _, _ => none
  | n + 1, x4, M =>
    if (M r1 0) ≤ x4 then
      k128 M
    else
      (mm_rd M (r1 + 2) 8 x4).bind fun b14 =>
      (mm_rd M (r0 + 6) 24 b14).bind fun b15 =>
      (mm_wa M (r0 + 6) 24 b14 (b15 ||| ((1 : Int32) <<< (x4 &&& 31)))).bind fun M16 =>
      fX1_beginDays_L94 r0 r1 k128 n (x4 + (1 : Int32)) M16
set_option maxRecDepth 100000 in
set_option maxHeartbeats 4000000 in
theorem fX1_beginDays_L94_ok (r0 : Nat) (r1 : Nat) (h0 : isCo r0) (h1 : isTo r1) (k128 : mm_M → Option (mm_M)) (hk128 : ∀  (M : mm_M), mm_C LC cX1_beginDays 5 RX1 none 0 mm_eV 128 [some (.ref r0), some (.ref r1), none, none, none] [] M (k128 M)) : ∀ (n : Nat) (x4 : Int32) (M : mm_M), mm_C LC cX1_beginDays 5 RX1 none 0 mm_eV 94 [some (.ref r0), some (.ref r1), none, none, some (.int x4)] [] M (fX1_beginDays_L94 r0 r1 k128 n x4 M) := by
  intro n
  induction n with
  | zero => intro x4 M; exact mm_none
  | succ n ih =>
    intro x4 M
    rw [fX1_beginDays_L94]
    refine mm_iload (q := 96) dX1_beginDays_94 rfl rfl ?_
    refine mm_aload_n (q := 97) dX1_beginDays_96 rfl rfl rfl ?_
    refine mm_getIN (q := 100) dX1_beginDays_97 rfl (lc_To h1) fd_X1_79 rfl ?_
    refine mm_icmp_ge (q := 103) (tgt := 128) dX1_beginDays_100 rfl (by decide) (fun c13 => ?_) (fun c13 => ?_)
    · refine mm_drop (ls' := [some (.ref r0), some (.ref r1), none, none, none]) (mm_sub_at _ _ (And.intro rfl (And.intro rfl trivial))) ?_
      exact hk128  _
    · refine mm_aload_n (q := 104) dX1_beginDays_103 rfl rfl rfl ?_
      refine mm_getR (q := 107) (k1 := (r0 + 6)) dX1_beginDays_104 rfl (lc_Co h0) fd_X1_27 rfl ?_
      refine mm_aload_n (q := 108) dX1_beginDays_107 rfl rfl rfl ?_
      refine mm_getRN (q := 111) (k1 := (r1 + 2)) dX1_beginDays_108 rfl (lc_To h1) fd_X1_112 rfl ?_
      refine mm_iload (q := 113) dX1_beginDays_111 rfl rfl ?_
      refine mm_iald (q := 114) dX1_beginDays_113 rfl (lc_To_2 h1) (fun b14 _ => ?_)
      refine mm_dup2 (q := 115) dX1_beginDays_114 rfl rfl rfl ?_
      refine mm_iald (q := 116) dX1_beginDays_115 rfl (lc_Co_6 h0) (fun b15 _ => ?_)
      refine mm_iconst (q := 117) dX1_beginDays_116 rfl ic_1 ?_
      refine mm_iload (q := 119) dX1_beginDays_117 rfl rfl ?_
      refine mm_ishl (q := 120) dX1_beginDays_119 rfl ?_
      refine mm_ior (q := 121) dX1_beginDays_120 rfl ?_
      refine mm_iast (q := 122) dX1_beginDays_121 rfl (lc_Co_6 h0) (fun M16 _ => ?_)
      refine mm_iinc (q := 125) (ls' := [some (.ref r0), some (.ref r1), none, none, some (.int (x4 + (1 : Int32)))]) dX1_beginDays_122 rfl rfl (ii_1 _) rfl (Nat.le_of_ble_eq_true rfl) rfl ?_
      refine mm_goto (tgt := 94) dX1_beginDays_125 (by decide) ?_
      exact ih _ _
def fX1_beginDays_L136 (r0 : Nat) (r1 : Nat)  : Nat → Int32 → mm_M → Option (mm_M)
  | 0, _, _ => none
  | n + 1, x4, M =>
    if x4 < 0 then
      some M
    else
      (mm_rd M (r1 + 6) 13 x4).bind fun b19 =>
      (mm_rd M (r0 + 7) 24 b19).bind fun b20 =>
      (mm_wa M (r0 + 8) 13 x4 b20).bind fun M21 =>
      (mm_rd M21 (r1 + 6) 13 x4).bind fun b22 =>
      (mm_wa M21 (r0 + 7) 24 b22 x4).bind fun M23 =>
      fX1_beginDays_L136 r0 r1 n (x4 + (-1 : Int32)) M23
set_option maxRecDepth 100000 in
set_option maxHeartbeats 4000000 in
theorem fX1_beginDays_L136_ok (r0 : Nat) (r1 : Nat) (h0 : isCo r0) (h1 : isTo r1)   : ∀ (n : Nat) (x4 : Int32) (M : mm_M), mm_C LC cX1_beginDays 5 RX1 none 0 mm_eV 136 [some (.ref r0), some (.ref r1), none, none, some (.int x4)] [] M (fX1_beginDays_L136 r0 r1 n x4 M) := by
  intro n
  induction n with
  | zero => intro x4 M; exact mm_none
  | succ n ih =>
    intro x4 M
    rw [fX1_beginDays_L136]
    refine mm_iload (q := 138) dX1_beginDays_136 rfl rfl ?_
    refine mm_if_lt (q := 141) (tgt := 180) dX1_beginDays_138 rfl (by decide) (fun c18 => ?_) (fun c18 => ?_)
    · exact mm_vret rfl dX1_beginDays_180
    · refine mm_aload_n (q := 142) dX1_beginDays_141 rfl rfl rfl ?_
      refine mm_getR (q := 145) (k1 := (r0 + 8)) dX1_beginDays_142 rfl (lc_Co h0) fd_X1_33 rfl ?_
      refine mm_iload (q := 147) dX1_beginDays_145 rfl rfl ?_
      refine mm_aload_n (q := 148) dX1_beginDays_147 rfl rfl rfl ?_
      refine mm_getR (q := 151) (k1 := (r0 + 7)) dX1_beginDays_148 rfl (lc_Co h0) fd_X1_30 rfl ?_
      refine mm_aload_n (q := 152) dX1_beginDays_151 rfl rfl rfl ?_
      refine mm_getRN (q := 155) (k1 := (r1 + 6)) dX1_beginDays_152 rfl (lc_To h1) fd_X1_118 rfl ?_
      refine mm_iload (q := 157) dX1_beginDays_155 rfl rfl ?_
      refine mm_iald (q := 158) dX1_beginDays_157 rfl (lc_To_6 h1) (fun b19 _ => ?_)
      refine mm_iald (q := 159) dX1_beginDays_158 rfl (lc_Co_7 h0) (fun b20 _ => ?_)
      refine mm_iast (q := 160) dX1_beginDays_159 rfl (lc_Co_8 h0) (fun M21 _ => ?_)
      refine mm_aload_n (q := 161) dX1_beginDays_160 rfl rfl rfl ?_
      refine mm_getR (q := 164) (k1 := (r0 + 7)) dX1_beginDays_161 rfl (lc_Co h0) fd_X1_30 rfl ?_
      refine mm_aload_n (q := 165) dX1_beginDays_164 rfl rfl rfl ?_
      refine mm_getRN (q := 168) (k1 := (r1 + 6)) dX1_beginDays_165 rfl (lc_To h1) fd_X1_118 rfl ?_
      refine mm_iload (q := 170) dX1_beginDays_168 rfl rfl ?_
      refine mm_iald (q := 171) dX1_beginDays_170 rfl (lc_To_6 h1) (fun b22 _ => ?_)
      refine mm_iload (q := 173) dX1_beginDays_171 rfl rfl ?_
      refine mm_iast (q := 174) dX1_beginDays_173 rfl (lc_Co_7 h0) (fun M23 _ => ?_)
      refine mm_iinc (q := 177) (ls' := [some (.ref r0), some (.ref r1), none, none, some (.int (x4 + (-1 : Int32)))]) dX1_beginDays_174 rfl rfl (ii_m1 _) rfl (Nat.le_of_ble_eq_true rfl) rfl ?_
      refine mm_goto (tgt := 136) dX1_beginDays_177 (by decide) ?_
      exact ih _ _
def fX1_beginDays (r0 : Nat) (r1 : Nat) (x3 : Int32) (M : mm_M) : Option (mm_M) :=
  fX1_beginDays_L3 r0 r1 x3 (fun M5 =>
      fX1_beginDays_L43 r0 r1 x3 (fun M12 =>
      fX1_beginDays_L94 r0 r1 (fun M17 =>
      fX1_beginDays_L136 r0 r1 1000 ((M17 r1 7) - (1 : Int32)) M17) 1000 (0 : Int32) M12) 1000 (0 : Int32) M5) 1000 (0 : Int32) M
set_option maxRecDepth 100000 in
set_option maxHeartbeats 4000000 in
theorem fX1_beginDays_ok (r0 : Nat) (r1 : Nat) (x3 : Int32) (M : mm_M) (h0 : isCo r0) (h1 : isTo r1) : mm_E LC yX1_beginDays cX1_beginDays 5 none 0 mm_eV [.ref r0, .ref r1, .ref 17, .int x3] M (fX1_beginDays r0 r1 x3 M) := by
  refine mm_E.of (own := RX1) (ls := [some (.ref r0), some (.ref r1), some (.ref 17), some (.int x3), none]) (by decide) rfl rfl (Nat.le_of_ble_eq_true rfl) ?_
  unfold fX1_beginDays
  refine mm_iconst (q := 1) dX1_beginDays_0 rfl ic_0 ?_
  refine mm_istore (q := 3) (ls' := [some (.ref r0), some (.ref r1), some (.ref 17), some (.int x3), some (.int (0 : Int32))]) dX1_beginDays_1 rfl rfl (Nat.le_of_ble_eq_true rfl) rfl ?_
  refine fX1_beginDays_L3_ok r0 r1 x3 h0 h1 _ (fun M5 => ?_) _ _ _
  refine mm_iconst (q := 41) dX1_beginDays_40 rfl ic_0 ?_
  refine mm_istore (q := 43) (ls' := [some (.ref r0), some (.ref r1), some (.ref 17), some (.int x3), some (.int (0 : Int32))]) dX1_beginDays_41 rfl rfl (Nat.le_of_ble_eq_true rfl) rfl ?_
  refine fX1_beginDays_L43_ok r0 r1 x3 h0 h1 _ (fun M12 => ?_) _ _ _
  refine mm_iconst (q := 92) dX1_beginDays_91 rfl ic_0 ?_
  refine mm_istore (q := 94) (ls' := [some (.ref r0), some (.ref r1), none, none, some (.int (0 : Int32))]) dX1_beginDays_92 rfl rfl (Nat.le_of_ble_eq_true rfl) rfl ?_
  refine fX1_beginDays_L94_ok r0 r1 h0 h1 _ (fun M17 => ?_) _ _ _
  refine mm_aload_n (q := 129) dX1_beginDays_128 rfl rfl rfl ?_
  refine mm_getIN (q := 132) dX1_beginDays_129 rfl (lc_To h1) fd_X1_115 rfl ?_
  refine mm_iconst (q := 133) dX1_beginDays_132 rfl ic_1 ?_
  refine mm_isub (q := 134) dX1_beginDays_133 rfl ?_
  refine mm_istore (q := 136) (ls' := [some (.ref r0), some (.ref r1), none, none, some (.int ((M17 r1 7) - (1 : Int32)))]) dX1_beginDays_134 rfl rfl (Nat.le_of_ble_eq_true rfl) rfl ?_
  exact fX1_beginDays_L136_ok r0 r1 h0 h1 _ _ _
def fX1_beginPeople_L7 (r0 : Nat) (r1 : Nat)  : Nat → Int32 → mm_M → Option (mm_M)
  | 0, _, _ => none
  | n + 1, x2, M =>
    if (M r1 0) ≤ x2 then
      some M
    else
      (mm_wa M (r0 + 3) 8 x2 (0 : Int32)).bind fun M3 =>
      (mm_wa M3 (r0 + 4) 8 x2 (0 : Int32)).bind fun M4 =>
      fX1_beginPeople_L7 r0 r1 n (x2 + (1 : Int32)) M4
set_option maxRecDepth 100000 in
set_option maxHeartbeats 4000000 in
theorem fX1_beginPeople_L7_ok (r0 : Nat) (r1 : Nat) (h0 : isCo r0) (h1 : isTo r1)   : ∀ (n : Nat) (x2 : Int32) (M : mm_M), mm_C LC cX1_beginPeople 3 RX1 none 0 mm_eV 7 [some (.ref r0), some (.ref r1), some (.int x2)] [] M (fX1_beginPeople_L7 r0 r1 n x2 M) := by
  intro n
  induction n with
  | zero => intro x2 M; exact mm_none
  | succ n ih =>
    intro x2 M
    rw [fX1_beginPeople_L7]
    refine mm_iload_n (q := 8) dX1_beginPeople_7 rfl rfl rfl ?_
    refine mm_aload_n (q := 9) dX1_beginPeople_8 rfl rfl rfl ?_
    refine mm_getIN (q := 12) dX1_beginPeople_9 rfl (lc_To h1) fd_X1_79 rfl ?_
    refine mm_icmp_ge (q := 15) (tgt := 35) dX1_beginPeople_12 rfl (by decide) (fun c2 => ?_) (fun c2 => ?_)
    · exact mm_vret rfl dX1_beginPeople_35
    · refine mm_aload_n (q := 16) dX1_beginPeople_15 rfl rfl rfl ?_
      refine mm_getR (q := 19) (k1 := (r0 + 3)) dX1_beginPeople_16 rfl (lc_Co h0) fd_X1_18 rfl ?_
      refine mm_iload_n (q := 20) dX1_beginPeople_19 rfl rfl rfl ?_
      refine mm_iconst (q := 21) dX1_beginPeople_20 rfl ic_0 ?_
      refine mm_iast (q := 22) dX1_beginPeople_21 rfl (lc_Co_3 h0) (fun M3 _ => ?_)
      refine mm_aload_n (q := 23) dX1_beginPeople_22 rfl rfl rfl ?_
      refine mm_getR (q := 26) (k1 := (r0 + 4)) dX1_beginPeople_23 rfl (lc_Co h0) fd_X1_21 rfl ?_
      refine mm_iload_n (q := 27) dX1_beginPeople_26 rfl rfl rfl ?_
      refine mm_iconst (q := 28) dX1_beginPeople_27 rfl ic_0 ?_
      refine mm_iast (q := 29) dX1_beginPeople_28 rfl (lc_Co_4 h0) (fun M4 _ => ?_)
      refine mm_iinc (q := 32) (ls' := [some (.ref r0), some (.ref r1), some (.int (x2 + (1 : Int32)))]) dX1_beginPeople_29 rfl rfl (ii_1 _) rfl (Nat.le_of_ble_eq_true rfl) rfl ?_
      refine mm_goto (tgt := 7) dX1_beginPeople_32 (by decide) ?_
      exact ih _ _
def fX1_beginPeople (r0 : Nat) (r1 : Nat) (M : mm_M) : Option (mm_M) :=
  (mm_pf M r0 5 (0 : Int32)).bind fun M1 =>
  fX1_beginPeople_L7 r0 r1 1000 (0 : Int32) M1
set_option maxRecDepth 100000 in
set_option maxHeartbeats 4000000 in
theorem fX1_beginPeople_ok (r0 : Nat) (r1 : Nat) (M : mm_M) (h0 : isCo r0) (h1 : isTo r1) : mm_E LC yX1_beginPeople cX1_beginPeople 3 none 0 mm_eV [.ref r0, .ref r1] M (fX1_beginPeople r0 r1 M) := by
  refine mm_E.of (own := RX1) (ls := [some (.ref r0), some (.ref r1), none]) (by decide) rfl rfl (Nat.le_of_ble_eq_true rfl) ?_
  unfold fX1_beginPeople
  refine mm_aload_n (q := 1) dX1_beginPeople_0 rfl rfl rfl ?_
  refine mm_iconst (q := 2) dX1_beginPeople_1 rfl ic_0 ?_
  refine mm_put (q := 5) dX1_beginPeople_2 rfl (lc_Co h0) fd_X1_98 ps_X1_5 rfl rfl rfl (fun M1 _ => ?_)
  refine mm_iconst (q := 6) dX1_beginPeople_5 rfl ic_0 ?_
  refine mm_istore_n (q := 7) (ls' := [some (.ref r0), some (.ref r1), some (.int (0 : Int32))]) dX1_beginPeople_6 rfl rfl rfl (Nat.le_of_ble_eq_true rfl) rfl ?_
  exact fX1_beginPeople_L7_ok r0 r1 h0 h1 _ _ _
def fX1_beginWords_J47 (r0 : Nat) (r1 : Nat) (x2 : Int32) (s0 : Int32) (s1 : Int32) (kr : Int32 → mm_M → Option (mm_M)) (M : mm_M) : Option (mm_M) :=
  (mm_wa M (r0 + 1) 12 s1 s0).bind fun M6 =>
  (mm_rd M6 (r1 + 5) 12 x2).bind fun b7 =>
  (mm_wa M6 (r0 + 2) 12 x2 b7).bind fun M8 =>
  kr (x2 + (1 : Int32)) M8
set_option maxRecDepth 100000 in
set_option maxHeartbeats 4000000 in
theorem fX1_beginWords_J47_ok (r0 : Nat) (r1 : Nat) (x2 : Int32) (s0 : Int32) (s1 : Int32)  (M : mm_M) (h0 : isCo r0) (h1 : isTo r1) (kr : Int32 → mm_M → Option (mm_M)) (hkr : ∀ (x2 : Int32) (M : mm_M), mm_C LC cX1_beginWords 3 RX1 none 1 mm_eV 10 [some (.ref r0), some (.ref r1), some (.int x2)] [] M (kr x2 M)) : mm_C LC cX1_beginWords 3 RX1 none 1 mm_eV 47 [some (.ref r0), some (.ref r1), some (.int x2)] [.int s0, .int s1, .ref (r0 + 1)] M (fX1_beginWords_J47 r0 r1 x2 s0 s1 kr M) := by
  unfold fX1_beginWords_J47
  refine mm_iast (q := 48) dX1_beginWords_47 rfl (lc_Co_1 h0) (fun M6 _ => ?_)
  refine mm_aload_n (q := 49) dX1_beginWords_48 rfl rfl rfl ?_
  refine mm_getR (q := 52) (k1 := (r0 + 2)) dX1_beginWords_49 rfl (lc_Co h0) fd_X1_15 rfl ?_
  refine mm_iload_n (q := 53) dX1_beginWords_52 rfl rfl rfl ?_
  refine mm_aload_n (q := 54) dX1_beginWords_53 rfl rfl rfl ?_
  refine mm_getRN (q := 57) (k1 := (r1 + 5)) dX1_beginWords_54 rfl (lc_To h1) fd_X1_95 rfl ?_
  refine mm_iload_n (q := 58) dX1_beginWords_57 rfl rfl rfl ?_
  refine mm_iald (q := 59) dX1_beginWords_58 rfl (lc_To_5 h1) (fun b7 _ => ?_)
  refine mm_iast (q := 60) dX1_beginWords_59 rfl (lc_Co_2 h0) (fun M8 _ => ?_)
  refine mm_iinc (q := 63) (ls' := [some (.ref r0), some (.ref r1), some (.int (x2 + (1 : Int32)))]) dX1_beginWords_60 rfl rfl (ii_1 _) rfl (Nat.le_of_ble_eq_true rfl) rfl ?_
  refine mm_goto (tgt := 10) dX1_beginWords_63 (by decide) ?_
  exact hkr _ _
def fX1_beginWords_L10 (r0 : Nat) (r1 : Nat)  : Nat → Int32 → mm_M → Option (mm_M)
  | 0, _, _ => none
  | n + 1, x2, M =>
    if (M r0 0) ≤ x2 then
      some M
    else
      (mm_rd M (r1 + 3) 12 x2).bind fun b3 =>
      (mm_rd M (r1 + 4) 12 x2).bind fun b4 =>
      fX1_beginWords_J47 r0 r1 x2 (if (fX5_areTwo r1 b3 b4 M) = 0 then (4 : Int32) else (0 : Int32)) x2 (fX1_beginWords_L10 r0 r1 n) M
set_option maxRecDepth 100000 in
set_option maxHeartbeats 4000000 in
theorem fX1_beginWords_L10_ok (r0 : Nat) (r1 : Nat) (h0 : isCo r0) (h1 : isTo r1)   : ∀ (n : Nat) (x2 : Int32) (M : mm_M), mm_C LC cX1_beginWords 3 RX1 none 1 mm_eV 10 [some (.ref r0), some (.ref r1), some (.int x2)] [] M (fX1_beginWords_L10 r0 r1 n x2 M) := by
  intro n
  induction n with
  | zero => intro x2 M; exact mm_none
  | succ n ih =>
    intro x2 M
    rw [fX1_beginWords_L10]
    refine mm_iload_n (q := 11) dX1_beginWords_10 rfl rfl rfl ?_
    refine mm_aload_n (q := 12) dX1_beginWords_11 rfl rfl rfl ?_
    refine mm_getI (q := 15) dX1_beginWords_12 rfl (lc_Co h0) fd_X1_69 rfl ?_
    refine mm_icmp_ge (q := 18) (tgt := 66) dX1_beginWords_15 rfl (by decide) (fun c2 => ?_) (fun c2 => ?_)
    · exact mm_vret rfl dX1_beginWords_66
    · refine mm_aload_n (q := 19) dX1_beginWords_18 rfl rfl rfl ?_
      refine mm_getR (q := 22) (k1 := (r0 + 1)) dX1_beginWords_19 rfl (lc_Co h0) fd_X1_9 rfl ?_
      refine mm_iload_n (q := 23) dX1_beginWords_22 rfl rfl rfl ?_
      refine mm_aload_n (q := 24) dX1_beginWords_23 rfl rfl rfl ?_
      refine mm_aload_n (q := 25) dX1_beginWords_24 rfl rfl rfl ?_
      refine mm_getRN (q := 28) (k1 := (r1 + 3)) dX1_beginWords_25 rfl (lc_To h1) fd_X1_85 rfl ?_
      refine mm_iload_n (q := 29) dX1_beginWords_28 rfl rfl rfl ?_
      refine mm_iald (q := 30) dX1_beginWords_29 rfl (lc_To_3 h1) (fun b3 _ => ?_)
      refine mm_aload_n (q := 31) dX1_beginWords_30 rfl rfl rfl ?_
      refine mm_getRN (q := 34) (k1 := (r1 + 4)) dX1_beginWords_31 rfl (lc_To h1) fd_X1_88 rfl ?_
      refine mm_iload_n (q := 35) dX1_beginWords_34 rfl rfl rfl ?_
      refine mm_iald (q := 36) dX1_beginWords_35 rfl (lc_To_4 h1) (fun b4 _ => ?_)
      refine mm_callVT (as := [.int b3, .int b4]) (st := [.int x2, .ref (r0 + 1)]) (q := 39) (lc_To h1) rfl (fX5_areTwo_ok r1 b3 b4 M h1) ms_X1_91 rfl (Nat.le_of_ble_eq_true rfl) (Nat.le_of_ble_eq_true rfl) rfl dX1_beginWords_36 rfl ?_
      by_cases c5 : (fX5_areTwo r1 b3 b4 M) = 0
      · simp only [if_pos c5]
        refine mm_if_eq_t (tgt := 46) c5 dX1_beginWords_39 (by decide) ?_
        refine mm_iconst (q := 47) dX1_beginWords_46 rfl ic_4 ?_
        exact fX1_beginWords_J47_ok r0 r1 _ _ _ _ h0 h1 _ ih
      · simp only [if_neg c5]
        refine mm_if_eq_f (q := 42) (tgt := 46) c5 dX1_beginWords_39 rfl (by decide) ?_
        refine mm_iconst (q := 43) dX1_beginWords_42 rfl ic_0 ?_
        refine mm_goto (tgt := 47) dX1_beginWords_43 (by decide) ?_
        exact fX1_beginWords_J47_ok r0 r1 _ _ _ _ h0 h1 _ ih
def fX1_beginWords (r0 : Nat) (r1 : Nat) (M : mm_M) : Option (mm_M) :=
  (mm_pf M r0 0 (M r1 3)).bind fun M1 =>
  fX1_beginWords_L10 r0 r1 1000 (0 : Int32) M1
set_option maxRecDepth 100000 in
set_option maxHeartbeats 4000000 in
theorem fX1_beginWords_ok (r0 : Nat) (r1 : Nat) (M : mm_M) (h0 : isCo r0) (h1 : isTo r1) : mm_E LC yX1_beginWords cX1_beginWords 3 none 1 mm_eV [.ref r0, .ref r1] M (fX1_beginWords r0 r1 M) := by
  refine mm_E.of (own := RX1) (ls := [some (.ref r0), some (.ref r1), none]) (by decide) rfl rfl (Nat.le_of_ble_eq_true rfl) ?_
  unfold fX1_beginWords
  refine mm_aload_n (q := 1) dX1_beginWords_0 rfl rfl rfl ?_
  refine mm_aload_n (q := 2) dX1_beginWords_1 rfl rfl rfl ?_
  refine mm_getIN (q := 5) dX1_beginWords_2 rfl (lc_To h1) fd_X1_84 rfl ?_
  refine mm_put (q := 8) dX1_beginWords_5 rfl (lc_Co h0) fd_X1_69 ps_X1_0 rfl rfl rfl (fun M1 _ => ?_)
  refine mm_iconst (q := 9) dX1_beginWords_8 rfl ic_0 ?_
  refine mm_istore_n (q := 10) (ls' := [some (.ref r0), some (.ref r1), some (.int (0 : Int32))]) dX1_beginWords_9 rfl rfl rfl (Nat.le_of_ble_eq_true rfl) rfl ?_
  exact fX1_beginWords_L10_ok r0 r1 h0 h1 _ _ _
def fX1_bury_L2 (r0 : Nat) (r1 : Nat) (x2 : Int32) (k81 : mm_M → Option (mm_M)) : Nat → Int32 → mm_M → Option (mm_M)
  | 0, _, _ => none
  | n + 1, x3, M =>
    if (M r0 0) ≤ x3 then
      k81 M
    else
      (mm_rd M (r0 + 1) 12 x3).bind fun b2 =>
      if b2 = 0 then
        ((mm_rd M (r0 + 6) 24 x2).bind fun b4 =>
        (mm_rd M (r1 + 4) 12 x3).bind fun b5 =>
        if ((b4 >>> (b5 &&& 31)) &&& (1 : Int32)) = 0 then
          ((mm_rd M (r0 + 6) 24 x2).bind fun b7 =>
          (mm_rd M (r1 + 3) 12 x3).bind fun b8 =>
          if ((b7 >>> (b8 &&& 31)) &&& (1 : Int32)) = 0 then
            fX1_bury_L2 r0 r1 x2 k81 n (x3 + (1 : Int32)) M
          else
            (mm_wa M (r0 + 1) 12 x3 (2 : Int32)).bind fun M10 =>
            fX1_bury_L2 r0 r1 x2 k81 n (x3 + (1 : Int32)) M10)
        else
          (mm_wa M (r0 + 1) 12 x3 (3 : Int32)).bind fun M11 =>
          fX1_bury_L2 r0 r1 x2 k81 n (x3 + (1 : Int32)) M11)
      else
        fX1_bury_L2 r0 r1 x2 k81 n (x3 + (1 : Int32)) M
set_option maxRecDepth 100000 in
set_option maxHeartbeats 4000000 in
theorem fX1_bury_L2_ok (r0 : Nat) (r1 : Nat) (x2 : Int32) (h0 : isCo r0) (h1 : isTo r1) (k81 : mm_M → Option (mm_M)) (hk81 : ∀  (M : mm_M), mm_C LC cX1_bury 4 RX1 none 0 mm_eV 81 [some (.ref r0), none, some (.int x2), none] [] M (k81 M)) : ∀ (n : Nat) (x3 : Int32) (M : mm_M), mm_C LC cX1_bury 4 RX1 none 0 mm_eV 2 [some (.ref r0), some (.ref r1), some (.int x2), some (.int x3)] [] M (fX1_bury_L2 r0 r1 x2 k81 n x3 M) := by
  intro n
  induction n with
  | zero => intro x3 M; exact mm_none
  | succ n ih =>
    intro x3 M
    rw [fX1_bury_L2]
    refine mm_iload_n (q := 3) dX1_bury_2 rfl rfl rfl ?_
    refine mm_aload_n (q := 4) dX1_bury_3 rfl rfl rfl ?_
    refine mm_getI (q := 7) dX1_bury_4 rfl (lc_Co h0) fd_X1_69 rfl ?_
    refine mm_icmp_ge (q := 10) (tgt := 81) dX1_bury_7 rfl (by decide) (fun c1 => ?_) (fun c1 => ?_)
    · refine mm_drop (ls' := [some (.ref r0), none, some (.int x2), none]) (mm_sub_at _ _ (And.intro rfl (And.intro rfl trivial))) ?_
      exact hk81  _
    · refine mm_aload_n (q := 11) dX1_bury_10 rfl rfl rfl ?_
      refine mm_getR (q := 14) (k1 := (r0 + 1)) dX1_bury_11 rfl (lc_Co h0) fd_X1_9 rfl ?_
      refine mm_iload_n (q := 15) dX1_bury_14 rfl rfl rfl ?_
      refine mm_iald (q := 16) dX1_bury_15 rfl (lc_Co_1 h0) (fun b2 _ => ?_)
      refine mm_if_eq (q := 19) (tgt := 22) dX1_bury_16 rfl (by decide) (fun c3 => ?_) (fun c3 => ?_)
      · refine mm_aload_n (q := 23) dX1_bury_22 rfl rfl rfl ?_
        refine mm_getR (q := 26) (k1 := (r0 + 6)) dX1_bury_23 rfl (lc_Co h0) fd_X1_27 rfl ?_
        refine mm_iload_n (q := 27) dX1_bury_26 rfl rfl rfl ?_
        refine mm_iald (q := 28) dX1_bury_27 rfl (lc_Co_6 h0) (fun b4 _ => ?_)
        refine mm_aload_n (q := 29) dX1_bury_28 rfl rfl rfl ?_
        refine mm_getRN (q := 32) (k1 := (r1 + 4)) dX1_bury_29 rfl (lc_To h1) fd_X1_88 rfl ?_
        refine mm_iload_n (q := 33) dX1_bury_32 rfl rfl rfl ?_
        refine mm_iald (q := 34) dX1_bury_33 rfl (lc_To_4 h1) (fun b5 _ => ?_)
        refine mm_ishr (q := 35) dX1_bury_34 rfl ?_
        refine mm_iconst (q := 36) dX1_bury_35 rfl ic_1 ?_
        refine mm_iand (q := 37) dX1_bury_36 rfl ?_
        refine mm_if_eq (q := 40) (tgt := 50) dX1_bury_37 rfl (by decide) (fun c6 => ?_) (fun c6 => ?_)
        · refine mm_aload_n (q := 51) dX1_bury_50 rfl rfl rfl ?_
          refine mm_getR (q := 54) (k1 := (r0 + 6)) dX1_bury_51 rfl (lc_Co h0) fd_X1_27 rfl ?_
          refine mm_iload_n (q := 55) dX1_bury_54 rfl rfl rfl ?_
          refine mm_iald (q := 56) dX1_bury_55 rfl (lc_Co_6 h0) (fun b7 _ => ?_)
          refine mm_aload_n (q := 57) dX1_bury_56 rfl rfl rfl ?_
          refine mm_getRN (q := 60) (k1 := (r1 + 3)) dX1_bury_57 rfl (lc_To h1) fd_X1_85 rfl ?_
          refine mm_iload_n (q := 61) dX1_bury_60 rfl rfl rfl ?_
          refine mm_iald (q := 62) dX1_bury_61 rfl (lc_To_3 h1) (fun b8 _ => ?_)
          refine mm_ishr (q := 63) dX1_bury_62 rfl ?_
          refine mm_iconst (q := 64) dX1_bury_63 rfl ic_1 ?_
          refine mm_iand (q := 65) dX1_bury_64 rfl ?_
          refine mm_if_eq (q := 68) (tgt := 75) dX1_bury_65 rfl (by decide) (fun c9 => ?_) (fun c9 => ?_)
          · refine mm_iinc (q := 78) (ls' := [some (.ref r0), some (.ref r1), some (.int x2), some (.int (x3 + (1 : Int32)))]) dX1_bury_75 rfl rfl (ii_1 _) rfl (Nat.le_of_ble_eq_true rfl) rfl ?_
            refine mm_goto (tgt := 2) dX1_bury_78 (by decide) ?_
            exact ih _ _
          · refine mm_aload_n (q := 69) dX1_bury_68 rfl rfl rfl ?_
            refine mm_getR (q := 72) (k1 := (r0 + 1)) dX1_bury_69 rfl (lc_Co h0) fd_X1_9 rfl ?_
            refine mm_iload_n (q := 73) dX1_bury_72 rfl rfl rfl ?_
            refine mm_iconst (q := 74) dX1_bury_73 rfl ic_2 ?_
            refine mm_iast (q := 75) dX1_bury_74 rfl (lc_Co_1 h0) (fun M10 _ => ?_)
            refine mm_iinc (q := 78) (ls' := [some (.ref r0), some (.ref r1), some (.int x2), some (.int (x3 + (1 : Int32)))]) dX1_bury_75 rfl rfl (ii_1 _) rfl (Nat.le_of_ble_eq_true rfl) rfl ?_
            refine mm_goto (tgt := 2) dX1_bury_78 (by decide) ?_
            exact ih _ _
        · refine mm_aload_n (q := 41) dX1_bury_40 rfl rfl rfl ?_
          refine mm_getR (q := 44) (k1 := (r0 + 1)) dX1_bury_41 rfl (lc_Co h0) fd_X1_9 rfl ?_
          refine mm_iload_n (q := 45) dX1_bury_44 rfl rfl rfl ?_
          refine mm_iconst (q := 46) dX1_bury_45 rfl ic_3 ?_
          refine mm_iast (q := 47) dX1_bury_46 rfl (lc_Co_1 h0) (fun M11 _ => ?_)
          refine mm_goto (tgt := 75) dX1_bury_47 (by decide) ?_
          refine mm_iinc (q := 78) (ls' := [some (.ref r0), some (.ref r1), some (.int x2), some (.int (x3 + (1 : Int32)))]) dX1_bury_75 rfl rfl (ii_1 _) rfl (Nat.le_of_ble_eq_true rfl) rfl ?_
          refine mm_goto (tgt := 2) dX1_bury_78 (by decide) ?_
          exact ih _ _
      · refine mm_goto (tgt := 75) dX1_bury_19 (by decide) ?_
        refine mm_iinc (q := 78) (ls' := [some (.ref r0), some (.ref r1), some (.int x2), some (.int (x3 + (1 : Int32)))]) dX1_bury_75 rfl rfl (ii_1 _) rfl (Nat.le_of_ble_eq_true rfl) rfl ?_
        refine mm_goto (tgt := 2) dX1_bury_78 (by decide) ?_
        exact ih _ _
def fX1_bury (r0 : Nat) (r1 : Nat) (x2 : Int32) (M : mm_M) : Option (mm_M) :=
  fX1_bury_L2 r0 r1 x2 (fun M12 =>
      (mm_rd M12 (r0 + 6) 24 x2).bind fun b13 =>
      (mm_pf M12 r0 5 ((M12 r0 5) ||| b13)).bind fun M14 =>
      some M14) 1000 (0 : Int32) M
set_option maxRecDepth 100000 in
set_option maxHeartbeats 4000000 in
theorem fX1_bury_ok (r0 : Nat) (r1 : Nat) (x2 : Int32) (M : mm_M) (h0 : isCo r0) (h1 : isTo r1) : mm_E LC yX1_bury cX1_bury 4 none 0 mm_eV [.ref r0, .ref r1, .int x2] M (fX1_bury r0 r1 x2 M) := by
  refine mm_E.of (own := RX1) (ls := [some (.ref r0), some (.ref r1), some (.int x2), none]) (by decide) rfl rfl (Nat.le_of_ble_eq_true rfl) ?_
  unfold fX1_bury
  refine mm_iconst (q := 1) dX1_bury_0 rfl ic_0 ?_
  refine mm_istore_n (q := 2) (ls' := [some (.ref r0), some (.ref r1), some (.int x2), some (.int (0 : Int32))]) dX1_bury_1 rfl rfl rfl (Nat.le_of_ble_eq_true rfl) rfl ?_
  refine fX1_bury_L2_ok r0 r1 x2 h0 h1 _ (fun M12 => ?_) _ _ _
  refine mm_aload_n (q := 82) dX1_bury_81 rfl rfl rfl ?_
  refine mm_dup (q := 83) dX1_bury_82 rfl rfl ?_
  refine mm_getI (q := 86) dX1_bury_83 rfl (lc_Co h0) fd_X1_98 rfl ?_
  refine mm_aload_n (q := 87) dX1_bury_86 rfl rfl rfl ?_
  refine mm_getR (q := 90) (k1 := (r0 + 6)) dX1_bury_87 rfl (lc_Co h0) fd_X1_27 rfl ?_
  refine mm_iload_n (q := 91) dX1_bury_90 rfl rfl rfl ?_
  refine mm_iald (q := 92) dX1_bury_91 rfl (lc_Co_6 h0) (fun b13 _ => ?_)
  refine mm_ior (q := 93) dX1_bury_92 rfl ?_
  refine mm_put (q := 96) dX1_bury_93 rfl (lc_Co h0) fd_X1_98 ps_X1_5 rfl rfl rfl (fun M14 _ => ?_)
  exact mm_vret rfl dX1_bury_96
def fX1_stateBehind (r0 : Nat) (x1 : Int32) (x2 : Int32) (M : mm_M) : Option (Int32) :=
  if (fX6_isOutside x1 (24 : Int32)) = 0 then
    (if (fX6_isOutside x2 (M r0 0)) = 0 then
      ((mm_rd M (r0 + 9) 288 ((x1 * (12 : Int32)) + x2)).bind fun b3 =>
      some b3)
    else
      some (-1 : Int32))
  else
    some (-1 : Int32)
set_option maxRecDepth 100000 in
set_option maxHeartbeats 4000000 in
theorem fX1_stateBehind_ok (r0 : Nat) (x1 : Int32) (x2 : Int32) (M : mm_M) (h0 : isCo r0) : mm_E LC yX1_stateBehind cX1_stateBehind 3 (some .int) 1 (mm_pI M) [.ref r0, .int x1, .int x2] M (fX1_stateBehind r0 x1 x2 M) := by
  refine mm_E.of (own := RX1) (ls := [some (.ref r0), some (.int x1), some (.int x2)]) (by decide) rfl rfl (Nat.le_of_ble_eq_true rfl) ?_
  unfold fX1_stateBehind
  refine mm_iload_n (q := 1) dX1_stateBehind_0 rfl rfl rfl ?_
  refine mm_bipush (q := 3) dX1_stateBehind_1 rfl bp_24 ?_
  refine mm_callSNT (as := [.int x1, .int (24 : Int32)]) (st := []) (q := 6) (fX6_isOutside_ok x1 (24 : Int32) M) ms_X1_142 rfl (Nat.le_of_ble_eq_true rfl) (Nat.le_of_ble_eq_true rfl) rfl dX1_stateBehind_3 rfl ?_
  refine mm_if_ne (q := 9) (tgt := 20) dX1_stateBehind_6 rfl (by decide) (fun c1 => ?_) (fun c1 => ?_)
  · refine mm_iload_n (q := 10) dX1_stateBehind_9 rfl rfl rfl ?_
    refine mm_aload_n (q := 11) dX1_stateBehind_10 rfl rfl rfl ?_
    refine mm_getI (q := 14) dX1_stateBehind_11 rfl (lc_Co h0) fd_X1_69 rfl ?_
    refine mm_callSNT (as := [.int x2, .int (M r0 0)]) (st := []) (q := 17) (fX6_isOutside_ok x2 (M r0 0) M) ms_X1_142 rfl (Nat.le_of_ble_eq_true rfl) (Nat.le_of_ble_eq_true rfl) rfl dX1_stateBehind_14 rfl ?_
    refine mm_if_eq (q := 20) (tgt := 24) dX1_stateBehind_17 rfl (by decide) (fun c2 => ?_) (fun c2 => ?_)
    · refine mm_aload_n (q := 25) dX1_stateBehind_24 rfl rfl rfl ?_
      refine mm_getR (q := 28) (k1 := (r0 + 9)) dX1_stateBehind_25 rfl (lc_Co h0) fd_X1_36 rfl ?_
      refine mm_iload_n (q := 29) dX1_stateBehind_28 rfl rfl rfl ?_
      refine mm_bipush (q := 31) dX1_stateBehind_29 rfl bp_12 ?_
      refine mm_imul (q := 32) dX1_stateBehind_31 rfl ?_
      refine mm_iload_n (q := 33) dX1_stateBehind_32 rfl rfl rfl ?_
      refine mm_iadd (q := 34) dX1_stateBehind_33 rfl ?_
      refine mm_iald (q := 35) dX1_stateBehind_34 rfl (lc_Co_9 h0) (fun b3 _ => ?_)
      exact mm_iret rfl dX1_stateBehind_35
    · refine mm_iconst (q := 21) dX1_stateBehind_20 rfl ic_m1 ?_
      refine mm_goto (tgt := 35) dX1_stateBehind_21 (by decide) ?_
      exact mm_iret rfl dX1_stateBehind_35
  · refine mm_iconst (q := 21) dX1_stateBehind_20 rfl ic_m1 ?_
    refine mm_goto (tgt := 35) dX1_stateBehind_21 (by decide) ?_
    exact mm_iret rfl dX1_stateBehind_35
def fX1_followDebts_L2 (r0 : Nat) (r1 : Nat) (x2 : Int32) (k21 : mm_M → Option (mm_M)) : Nat → Int32 → mm_M → Option (mm_M)
  | 0, _, _ => none
  | n + 1, x3, M =>
    if (8 : Int32) ≤ x3 then
      k21 M
    else
      (mm_wa M (r0 + 12) 8 x3 (0 : Int32)).bind fun M2 =>
      fX1_followDebts_L2 r0 r1 x2 k21 n (x3 + (1 : Int32)) M2
set_option maxRecDepth 100000 in
set_option maxHeartbeats 4000000 in
theorem fX1_followDebts_L2_ok (r0 : Nat) (r1 : Nat) (x2 : Int32) (h0 : isCo r0) (h1 : isTo r1) (k21 : mm_M → Option (mm_M)) (hk21 : ∀  (M : mm_M), mm_C LC cX1_followDebts 4 RX1 none 2 mm_eV 21 [some (.ref r0), some (.ref r1), some (.int x2), none] [] M (k21 M)) : ∀ (n : Nat) (x3 : Int32) (M : mm_M), mm_C LC cX1_followDebts 4 RX1 none 2 mm_eV 2 [some (.ref r0), some (.ref r1), some (.int x2), some (.int x3)] [] M (fX1_followDebts_L2 r0 r1 x2 k21 n x3 M) := by
  intro n
  induction n with
  | zero => intro x3 M; exact mm_none
  | succ n ih =>
    intro x3 M
    rw [fX1_followDebts_L2]
    refine mm_iload_n (q := 3) dX1_followDebts_2 rfl rfl rfl ?_
    refine mm_bipush (q := 5) dX1_followDebts_3 rfl bp_8 ?_
    refine mm_icmp_ge (q := 8) (tgt := 21) dX1_followDebts_5 rfl (by decide) (fun c1 => ?_) (fun c1 => ?_)
    · refine mm_drop (ls' := [some (.ref r0), some (.ref r1), some (.int x2), none]) (mm_sub_at _ _ (And.intro rfl (And.intro rfl (And.intro rfl trivial)))) ?_
      exact hk21  _
    · refine mm_aload_n (q := 9) dX1_followDebts_8 rfl rfl rfl ?_
      refine mm_getR (q := 12) (k1 := (r0 + 12)) dX1_followDebts_9 rfl (lc_Co h0) fd_X1_45 rfl ?_
      refine mm_iload_n (q := 13) dX1_followDebts_12 rfl rfl rfl ?_
      refine mm_iconst (q := 14) dX1_followDebts_13 rfl ic_0 ?_
      refine mm_iast (q := 15) dX1_followDebts_14 rfl (lc_Co_12 h0) (fun M2 _ => ?_)
      refine mm_iinc (q := 18) (ls' := [some (.ref r0), some (.ref r1), some (.int x2), some (.int (x3 + (1 : Int32)))]) dX1_followDebts_15 rfl rfl (ii_1 _) rfl (Nat.le_of_ble_eq_true rfl) rfl ?_
      refine mm_goto (tgt := 2) dX1_followDebts_18 (by decide) ?_
      exact ih _ _
def fX1_followDebts_L23 (r0 : Nat) (r1 : Nat) (x2 : Int32)  : Nat → Int32 → mm_M → Option (mm_M)
  | 0, _, _ => none
  | n + 1, x3, M =>
    if (M r0 0) ≤ x3 then
      some M
    else
      (fX1_stateBehind r0 x2 x3 M).bind fun b5 =>
      if b5 = 0 then
        ((mm_rd M (r1 + 4) 12 x3).bind fun b7 =>
        (mm_rd M (r0 + 12) 8 b7).bind fun b8 =>
        (mm_rd M (r1 + 3) 12 x3).bind fun b9 =>
        (mm_wa M (r0 + 12) 8 b7 (b8 ||| ((1 : Int32) <<< (b9 &&& 31)))).bind fun M10 =>
        fX1_followDebts_L23 r0 r1 x2 n (x3 + (1 : Int32)) M10)
      else
        fX1_followDebts_L23 r0 r1 x2 n (x3 + (1 : Int32)) M
set_option maxRecDepth 100000 in
set_option maxHeartbeats 4000000 in
theorem fX1_followDebts_L23_ok (r0 : Nat) (r1 : Nat) (x2 : Int32) (h0 : isCo r0) (h1 : isTo r1)   : ∀ (n : Nat) (x3 : Int32) (M : mm_M), mm_C LC cX1_followDebts 4 RX1 none 2 mm_eV 23 [some (.ref r0), some (.ref r1), some (.int x2), some (.int x3)] [] M (fX1_followDebts_L23 r0 r1 x2 n x3 M) := by
  intro n
  induction n with
  | zero => intro x3 M; exact mm_none
  | succ n ih =>
    intro x3 M
    rw [fX1_followDebts_L23]
    refine mm_iload_n (q := 24) dX1_followDebts_23 rfl rfl rfl ?_
    refine mm_aload_n (q := 25) dX1_followDebts_24 rfl rfl rfl ?_
    refine mm_getI (q := 28) dX1_followDebts_25 rfl (lc_Co h0) fd_X1_69 rfl ?_
    refine mm_icmp_ge (q := 31) (tgt := 68) dX1_followDebts_28 rfl (by decide) (fun c4 => ?_) (fun c4 => ?_)
    · exact mm_vret rfl dX1_followDebts_68
    · refine mm_aload_n (q := 32) dX1_followDebts_31 rfl rfl rfl ?_
      refine mm_iload_n (q := 33) dX1_followDebts_32 rfl rfl rfl ?_
      refine mm_iload_n (q := 34) dX1_followDebts_33 rfl rfl rfl ?_
      refine mm_callVP (as := [.int x2, .int x3]) (st := []) (q := 37) (lc_Co h0) rfl (fX1_stateBehind_ok r0 x2 x3 M h0) ms_X1_145 rfl (Nat.le_of_ble_eq_true rfl) (Nat.le_of_ble_eq_true rfl) rfl dX1_followDebts_34 rfl (fun b5 _ => ?_)
      refine mm_if_ne (q := 40) (tgt := 62) dX1_followDebts_37 rfl (by decide) (fun c6 => ?_) (fun c6 => ?_)
      · refine mm_aload_n (q := 41) dX1_followDebts_40 rfl rfl rfl ?_
        refine mm_getR (q := 44) (k1 := (r0 + 12)) dX1_followDebts_41 rfl (lc_Co h0) fd_X1_45 rfl ?_
        refine mm_aload_n (q := 45) dX1_followDebts_44 rfl rfl rfl ?_
        refine mm_getRN (q := 48) (k1 := (r1 + 4)) dX1_followDebts_45 rfl (lc_To h1) fd_X1_88 rfl ?_
        refine mm_iload_n (q := 49) dX1_followDebts_48 rfl rfl rfl ?_
        refine mm_iald (q := 50) dX1_followDebts_49 rfl (lc_To_4 h1) (fun b7 _ => ?_)
        refine mm_dup2 (q := 51) dX1_followDebts_50 rfl rfl rfl ?_
        refine mm_iald (q := 52) dX1_followDebts_51 rfl (lc_Co_12 h0) (fun b8 _ => ?_)
        refine mm_iconst (q := 53) dX1_followDebts_52 rfl ic_1 ?_
        refine mm_aload_n (q := 54) dX1_followDebts_53 rfl rfl rfl ?_
        refine mm_getRN (q := 57) (k1 := (r1 + 3)) dX1_followDebts_54 rfl (lc_To h1) fd_X1_85 rfl ?_
        refine mm_iload_n (q := 58) dX1_followDebts_57 rfl rfl rfl ?_
        refine mm_iald (q := 59) dX1_followDebts_58 rfl (lc_To_3 h1) (fun b9 _ => ?_)
        refine mm_ishl (q := 60) dX1_followDebts_59 rfl ?_
        refine mm_ior (q := 61) dX1_followDebts_60 rfl ?_
        refine mm_iast (q := 62) dX1_followDebts_61 rfl (lc_Co_12 h0) (fun M10 _ => ?_)
        refine mm_iinc (q := 65) (ls' := [some (.ref r0), some (.ref r1), some (.int x2), some (.int (x3 + (1 : Int32)))]) dX1_followDebts_62 rfl rfl (ii_1 _) rfl (Nat.le_of_ble_eq_true rfl) rfl ?_
        refine mm_goto (tgt := 23) dX1_followDebts_65 (by decide) ?_
        exact ih _ _
      · refine mm_iinc (q := 65) (ls' := [some (.ref r0), some (.ref r1), some (.int x2), some (.int (x3 + (1 : Int32)))]) dX1_followDebts_62 rfl rfl (ii_1 _) rfl (Nat.le_of_ble_eq_true rfl) rfl ?_
        refine mm_goto (tgt := 23) dX1_followDebts_65 (by decide) ?_
        exact ih _ _
def fX1_followDebts (r0 : Nat) (r1 : Nat) (x2 : Int32) (M : mm_M) : Option (mm_M) :=
  fX1_followDebts_L2 r0 r1 x2 (fun M3 =>
      fX1_followDebts_L23 r0 r1 x2 1000 (0 : Int32) M3) 1000 (0 : Int32) M
set_option maxRecDepth 100000 in
set_option maxHeartbeats 4000000 in
theorem fX1_followDebts_ok (r0 : Nat) (r1 : Nat) (x2 : Int32) (M : mm_M) (h0 : isCo r0) (h1 : isTo r1) : mm_E LC yX1_followDebts cX1_followDebts 4 none 2 mm_eV [.ref r0, .ref r1, .int x2] M (fX1_followDebts r0 r1 x2 M) := by
  refine mm_E.of (own := RX1) (ls := [some (.ref r0), some (.ref r1), some (.int x2), none]) (by decide) rfl rfl (Nat.le_of_ble_eq_true rfl) ?_
  unfold fX1_followDebts
  refine mm_iconst (q := 1) dX1_followDebts_0 rfl ic_0 ?_
  refine mm_istore_n (q := 2) (ls' := [some (.ref r0), some (.ref r1), some (.int x2), some (.int (0 : Int32))]) dX1_followDebts_1 rfl rfl rfl (Nat.le_of_ble_eq_true rfl) rfl ?_
  refine fX1_followDebts_L2_ok r0 r1 x2 h0 h1 _ (fun M3 => ?_) _ _ _
  refine mm_iconst (q := 22) dX1_followDebts_21 rfl ic_0 ?_
  refine mm_istore_n (q := 23) (ls' := [some (.ref r0), some (.ref r1), some (.int x2), some (.int (0 : Int32))]) dX1_followDebts_22 rfl rfl rfl (Nat.le_of_ble_eq_true rfl) rfl ?_
  exact fX1_followDebts_L23_ok r0 r1 x2 h0 h1 _ _ _
def fX1_growDebts_J39 (r0 : Nat) (r1 : Nat) (x2 : Int32) (s0 : Int32) (kr : Int32 → mm_M → Option (mm_M)) (M : mm_M) : Option (mm_M) :=
  (mm_rd M (r0 + 2) 12 x2).bind fun b7 =>
  (mm_wa M (r0 + 2) 12 x2 (mm_min (b7 + s0) (9 : Int32))).bind fun M8 =>
  kr (x2 + (1 : Int32)) M8
set_option maxRecDepth 100000 in
set_option maxHeartbeats 4000000 in
theorem fX1_growDebts_J39_ok (r0 : Nat) (r1 : Nat) (x2 : Int32) (s0 : Int32)  (M : mm_M) (h0 : isCo r0) (h1 : isTo r1) (kr : Int32 → mm_M → Option (mm_M)) (hkr : ∀ (x2 : Int32) (M : mm_M), mm_C LC cX1_growDebts 4 RX1 none 1 mm_eV 2 [some (.ref r0), some (.ref r1), some (.int x2), none] [] M (kr x2 M)) : mm_C LC cX1_growDebts 4 RX1 none 1 mm_eV 39 [some (.ref r0), some (.ref r1), some (.int x2), none] [.int s0] M (fX1_growDebts_J39 r0 r1 x2 s0 kr M) := by
  unfold fX1_growDebts_J39
  refine mm_istore_n (q := 40) (ls' := [some (.ref r0), some (.ref r1), some (.int x2), some (.int s0)]) dX1_growDebts_39 rfl rfl rfl (Nat.le_of_ble_eq_true rfl) rfl ?_
  refine mm_aload_n (q := 41) dX1_growDebts_40 rfl rfl rfl ?_
  refine mm_getR (q := 44) (k1 := (r0 + 2)) dX1_growDebts_41 rfl (lc_Co h0) fd_X1_15 rfl ?_
  refine mm_iload_n (q := 45) dX1_growDebts_44 rfl rfl rfl ?_
  refine mm_aload_n (q := 46) dX1_growDebts_45 rfl rfl rfl ?_
  refine mm_getR (q := 49) (k1 := (r0 + 2)) dX1_growDebts_46 rfl (lc_Co h0) fd_X1_15 rfl ?_
  refine mm_iload_n (q := 50) dX1_growDebts_49 rfl rfl rfl ?_
  refine mm_iald (q := 51) dX1_growDebts_50 rfl (lc_Co_2 h0) (fun b7 _ => ?_)
  refine mm_iload_n (q := 52) dX1_growDebts_51 rfl rfl rfl ?_
  refine mm_iadd (q := 53) dX1_growDebts_52 rfl ?_
  refine mm_bipush (q := 55) dX1_growDebts_53 rfl bp_9 ?_
  refine mm_mmin (q := 58) dX1_growDebts_55 rfl cs_X1_122 ma_min_1 ma_0 ma_min_2 (Nat.le_of_ble_eq_true rfl) (Nat.le_of_ble_eq_true rfl) ?_
  refine mm_iast (q := 59) dX1_growDebts_58 rfl (lc_Co_2 h0) (fun M8 _ => ?_)
  refine mm_iinc (q := 62) (ls' := [some (.ref r0), some (.ref r1), some (.int (x2 + (1 : Int32))), some (.int s0)]) dX1_growDebts_59 rfl rfl (ii_1 _) rfl (Nat.le_of_ble_eq_true rfl) rfl ?_
  refine mm_goto (tgt := 2) dX1_growDebts_62 (by decide) ?_
  refine mm_drop (ls' := [some (.ref r0), some (.ref r1), some (.int (x2 + (1 : Int32))), none]) (mm_sub_at _ _ (And.intro rfl (And.intro rfl (And.intro rfl trivial)))) ?_
  exact hkr _ _
def fX1_growDebts_L2 (r0 : Nat) (r1 : Nat)  : Nat → Int32 → mm_M → Option (mm_M)
  | 0, _, _ => none
  | n + 1, x2, M =>
    if (M r0 0) ≤ x2 then
      some M
    else
      (mm_rd M (r0 + 1) 12 x2).bind fun b2 =>
      if b2 = 0 then
        ((mm_rd M (r1 + 3) 12 x2).bind fun b4 =>
        (mm_rd M (r1 + 1) 8 b4).bind fun b5 =>
        fX1_growDebts_J39 r0 r1 x2 (if b5 = (3 : Int32) then (2 : Int32) else (1 : Int32)) (fX1_growDebts_L2 r0 r1 n) M)
      else
        fX1_growDebts_L2 r0 r1 n (x2 + (1 : Int32)) M
set_option maxRecDepth 100000 in
set_option maxHeartbeats 4000000 in
theorem fX1_growDebts_L2_ok (r0 : Nat) (r1 : Nat) (h0 : isCo r0) (h1 : isTo r1)   : ∀ (n : Nat) (x2 : Int32) (M : mm_M), mm_C LC cX1_growDebts 4 RX1 none 1 mm_eV 2 [some (.ref r0), some (.ref r1), some (.int x2), none] [] M (fX1_growDebts_L2 r0 r1 n x2 M) := by
  intro n
  induction n with
  | zero => intro x2 M; exact mm_none
  | succ n ih =>
    intro x2 M
    rw [fX1_growDebts_L2]
    refine mm_iload_n (q := 3) dX1_growDebts_2 rfl rfl rfl ?_
    refine mm_aload_n (q := 4) dX1_growDebts_3 rfl rfl rfl ?_
    refine mm_getI (q := 7) dX1_growDebts_4 rfl (lc_Co h0) fd_X1_69 rfl ?_
    refine mm_icmp_ge (q := 10) (tgt := 65) dX1_growDebts_7 rfl (by decide) (fun c1 => ?_) (fun c1 => ?_)
    · exact mm_vret rfl dX1_growDebts_65
    · refine mm_aload_n (q := 11) dX1_growDebts_10 rfl rfl rfl ?_
      refine mm_getR (q := 14) (k1 := (r0 + 1)) dX1_growDebts_11 rfl (lc_Co h0) fd_X1_9 rfl ?_
      refine mm_iload_n (q := 15) dX1_growDebts_14 rfl rfl rfl ?_
      refine mm_iald (q := 16) dX1_growDebts_15 rfl (lc_Co_1 h0) (fun b2 _ => ?_)
      refine mm_if_ne (q := 19) (tgt := 59) dX1_growDebts_16 rfl (by decide) (fun c3 => ?_) (fun c3 => ?_)
      · refine mm_aload_n (q := 20) dX1_growDebts_19 rfl rfl rfl ?_
        refine mm_getRN (q := 23) (k1 := (r1 + 1)) dX1_growDebts_20 rfl (lc_To h1) fd_X1_119 rfl ?_
        refine mm_aload_n (q := 24) dX1_growDebts_23 rfl rfl rfl ?_
        refine mm_getRN (q := 27) (k1 := (r1 + 3)) dX1_growDebts_24 rfl (lc_To h1) fd_X1_85 rfl ?_
        refine mm_iload_n (q := 28) dX1_growDebts_27 rfl rfl rfl ?_
        refine mm_iald (q := 29) dX1_growDebts_28 rfl (lc_To_3 h1) (fun b4 _ => ?_)
        refine mm_iald (q := 30) dX1_growDebts_29 rfl (lc_To_1 h1) (fun b5 _ => ?_)
        refine mm_iconst (q := 31) dX1_growDebts_30 rfl ic_3 ?_
        by_cases c6 : b5 = (3 : Int32)
        · simp only [if_pos c6]
          refine mm_icmp_ne_t (q := 34) (tgt := 38) c6 dX1_growDebts_31 rfl (by decide) ?_
          refine mm_iconst (q := 35) dX1_growDebts_34 rfl ic_2 ?_
          refine mm_goto (tgt := 39) dX1_growDebts_35 (by decide) ?_
          exact fX1_growDebts_J39_ok r0 r1 _ _ _ h0 h1 _ ih
        · simp only [if_neg c6]
          refine mm_icmp_ne_f (tgt := 38) c6 dX1_growDebts_31 (by decide) ?_
          refine mm_iconst (q := 39) dX1_growDebts_38 rfl ic_1 ?_
          exact fX1_growDebts_J39_ok r0 r1 _ _ _ h0 h1 _ ih
      · refine mm_iinc (q := 62) (ls' := [some (.ref r0), some (.ref r1), some (.int (x2 + (1 : Int32))), none]) dX1_growDebts_59 rfl rfl (ii_1 _) rfl (Nat.le_of_ble_eq_true rfl) rfl ?_
        refine mm_goto (tgt := 2) dX1_growDebts_62 (by decide) ?_
        exact ih _ _
def fX1_growDebts (r0 : Nat) (r1 : Nat) (M : mm_M) : Option (mm_M) :=
  fX1_growDebts_L2 r0 r1 1000 (0 : Int32) M
set_option maxRecDepth 100000 in
set_option maxHeartbeats 4000000 in
theorem fX1_growDebts_ok (r0 : Nat) (r1 : Nat) (M : mm_M) (h0 : isCo r0) (h1 : isTo r1) : mm_E LC yX1_growDebts cX1_growDebts 4 none 1 mm_eV [.ref r0, .ref r1] M (fX1_growDebts r0 r1 M) := by
  refine mm_E.of (own := RX1) (ls := [some (.ref r0), some (.ref r1), none, none]) (by decide) rfl rfl (Nat.le_of_ble_eq_true rfl) ?_
  unfold fX1_growDebts
  refine mm_iconst (q := 1) dX1_growDebts_0 rfl ic_0 ?_
  refine mm_istore_n (q := 2) (ls' := [some (.ref r0), some (.ref r1), some (.int (0 : Int32)), none]) dX1_growDebts_1 rfl rfl rfl (Nat.le_of_ble_eq_true rfl) rfl ?_
  exact fX1_growDebts_L2_ok r0 r1 h0 h1 _ _ _
def fX1_hasLost_L3 (r0 : Nat) (r1 : Nat) (x2 : Int32) (x3 : Int32) (M : mm_M)  : Nat → Int32 → Option (Int32)
  | 0, _ => none
  | n + 1, x4 =>
    if (M r0 0) ≤ x4 then
      some (0 : Int32)
    else
      (mm_rd M (r1 + 4) 12 x4).bind fun b2 =>
      if b2 = x3 then
        ((fX1_stateBehind r0 x2 x4 M).bind fun b4 =>
        if b4 = (3 : Int32) then
          some (1 : Int32)
        else
          fX1_hasLost_L3 r0 r1 x2 x3 M n (x4 + (1 : Int32)))
      else
        fX1_hasLost_L3 r0 r1 x2 x3 M n (x4 + (1 : Int32))
set_option maxRecDepth 100000 in
set_option maxHeartbeats 4000000 in
theorem fX1_hasLost_L3_ok (r0 : Nat) (r1 : Nat) (x2 : Int32) (x3 : Int32) (M : mm_M) (h0 : isCo r0) (h1 : isTo r1)   : ∀ (n : Nat) (x4 : Int32), mm_C LC cX1_hasLost 5 RX1 (some .boolean) 2 (mm_pI M) 3 [some (.ref r0), some (.ref r1), some (.int x2), some (.int x3), some (.int x4)] [] M (fX1_hasLost_L3 r0 r1 x2 x3 M n x4) := by
  intro n
  induction n with
  | zero => intro x4; exact mm_none
  | succ n ih =>
    intro x4
    rw [fX1_hasLost_L3]
    refine mm_iload (q := 5) dX1_hasLost_3 rfl rfl ?_
    refine mm_aload_n (q := 6) dX1_hasLost_5 rfl rfl rfl ?_
    refine mm_getI (q := 9) dX1_hasLost_6 rfl (lc_Co h0) fd_X1_69 rfl ?_
    refine mm_icmp_ge (q := 12) (tgt := 42) dX1_hasLost_9 rfl (by decide) (fun c1 => ?_) (fun c1 => ?_)
    · refine mm_iconst (q := 43) dX1_hasLost_42 rfl ic_0 ?_
      exact mm_zret rfl rfl dX1_hasLost_43
    · refine mm_aload_n (q := 13) dX1_hasLost_12 rfl rfl rfl ?_
      refine mm_getRN (q := 16) (k1 := (r1 + 4)) dX1_hasLost_13 rfl (lc_To h1) fd_X1_88 rfl ?_
      refine mm_iload (q := 18) dX1_hasLost_16 rfl rfl ?_
      refine mm_iald (q := 19) dX1_hasLost_18 rfl (lc_To_4 h1) (fun b2 _ => ?_)
      refine mm_iload_n (q := 20) dX1_hasLost_19 rfl rfl rfl ?_
      refine mm_icmp_ne (q := 23) (tgt := 36) dX1_hasLost_20 rfl (by decide) (fun c3 => ?_) (fun c3 => ?_)
      · refine mm_aload_n (q := 24) dX1_hasLost_23 rfl rfl rfl ?_
        refine mm_iload_n (q := 25) dX1_hasLost_24 rfl rfl rfl ?_
        refine mm_iload (q := 27) dX1_hasLost_25 rfl rfl ?_
        refine mm_callVP (as := [.int x2, .int x4]) (st := []) (q := 30) (lc_Co h0) rfl (fX1_stateBehind_ok r0 x2 x4 M h0) ms_X1_145 rfl (Nat.le_of_ble_eq_true rfl) (Nat.le_of_ble_eq_true rfl) rfl dX1_hasLost_27 rfl (fun b4 _ => ?_)
        refine mm_iconst (q := 31) dX1_hasLost_30 rfl ic_3 ?_
        refine mm_icmp_ne (q := 34) (tgt := 36) dX1_hasLost_31 rfl (by decide) (fun c5 => ?_) (fun c5 => ?_)
        · refine mm_iconst (q := 35) dX1_hasLost_34 rfl ic_1 ?_
          exact mm_zret rfl rfl dX1_hasLost_35
        · refine mm_iinc (q := 39) (ls' := [some (.ref r0), some (.ref r1), some (.int x2), some (.int x3), some (.int (x4 + (1 : Int32)))]) dX1_hasLost_36 rfl rfl (ii_1 _) rfl (Nat.le_of_ble_eq_true rfl) rfl ?_
          refine mm_goto (tgt := 3) dX1_hasLost_39 (by decide) ?_
          exact ih _
      · refine mm_iinc (q := 39) (ls' := [some (.ref r0), some (.ref r1), some (.int x2), some (.int x3), some (.int (x4 + (1 : Int32)))]) dX1_hasLost_36 rfl rfl (ii_1 _) rfl (Nat.le_of_ble_eq_true rfl) rfl ?_
        refine mm_goto (tgt := 3) dX1_hasLost_39 (by decide) ?_
        exact ih _
def fX1_hasLost (r0 : Nat) (r1 : Nat) (x2 : Int32) (x3 : Int32) (M : mm_M) : Option (Int32) :=
  fX1_hasLost_L3 r0 r1 x2 x3 M 1000 (0 : Int32)
set_option maxRecDepth 100000 in
set_option maxHeartbeats 4000000 in
theorem fX1_hasLost_ok (r0 : Nat) (r1 : Nat) (x2 : Int32) (x3 : Int32) (M : mm_M) (h0 : isCo r0) (h1 : isTo r1) : mm_E LC yX1_hasLost cX1_hasLost 5 (some .boolean) 2 (mm_pI M) [.ref r0, .ref r1, .int x2, .int x3] M (fX1_hasLost r0 r1 x2 x3 M) := by
  refine mm_E.of (own := RX1) (ls := [some (.ref r0), some (.ref r1), some (.int x2), some (.int x3), none]) (by decide) rfl rfl (Nat.le_of_ble_eq_true rfl) ?_
  unfold fX1_hasLost
  refine mm_iconst (q := 1) dX1_hasLost_0 rfl ic_0 ?_
  refine mm_istore (q := 3) (ls' := [some (.ref r0), some (.ref r1), some (.int x2), some (.int x3), some (.int (0 : Int32))]) dX1_hasLost_1 rfl rfl (Nat.le_of_ble_eq_true rfl) rfl ?_
  exact fX1_hasLost_L3_ok r0 r1 x2 x3 M h0 h1 _ _
def fX1_leastOpen_L3 (r0 : Nat) (r1 : Nat) (x2 : Int32) (x3 : Int32) (M : mm_M)  : Nat → Int32 → Option (Int32)
  | 0, _ => none
  | n + 1, x4 =>
    if (M r0 0) ≤ x4 then
      some (-1 : Int32)
    else
      (mm_rd M (r0 + 1) 12 x4).bind fun b2 =>
      if b2 = 0 then
        ((mm_rd M (r1 + 3) 12 x4).bind fun b4 =>
        if b4 = x2 then
          ((mm_rd M (r1 + 4) 12 x4).bind fun b6 =>
          if b6 = x3 then
            some x4
          else
            fX1_leastOpen_L3 r0 r1 x2 x3 M n (x4 + (1 : Int32)))
        else
          fX1_leastOpen_L3 r0 r1 x2 x3 M n (x4 + (1 : Int32)))
      else
        fX1_leastOpen_L3 r0 r1 x2 x3 M n (x4 + (1 : Int32))
set_option maxRecDepth 100000 in
set_option maxHeartbeats 4000000 in
theorem fX1_leastOpen_L3_ok (r0 : Nat) (r1 : Nat) (x2 : Int32) (x3 : Int32) (M : mm_M) (h0 : isCo r0) (h1 : isTo r1)   : ∀ (n : Nat) (x4 : Int32), mm_C LC cX1_leastOpen 5 RX1 (some .int) 0 (mm_pI M) 3 [some (.ref r0), some (.ref r1), some (.int x2), some (.int x3), some (.int x4)] [] M (fX1_leastOpen_L3 r0 r1 x2 x3 M n x4) := by
  intro n
  induction n with
  | zero => intro x4; exact mm_none
  | succ n ih =>
    intro x4
    rw [fX1_leastOpen_L3]
    refine mm_iload (q := 5) dX1_leastOpen_3 rfl rfl ?_
    refine mm_aload_n (q := 6) dX1_leastOpen_5 rfl rfl rfl ?_
    refine mm_getI (q := 9) dX1_leastOpen_6 rfl (lc_Co h0) fd_X1_69 rfl ?_
    refine mm_icmp_ge (q := 12) (tgt := 53) dX1_leastOpen_9 rfl (by decide) (fun c1 => ?_) (fun c1 => ?_)
    · refine mm_iconst (q := 54) dX1_leastOpen_53 rfl ic_m1 ?_
      exact mm_iret rfl dX1_leastOpen_54
    · refine mm_aload_n (q := 13) dX1_leastOpen_12 rfl rfl rfl ?_
      refine mm_getR (q := 16) (k1 := (r0 + 1)) dX1_leastOpen_13 rfl (lc_Co h0) fd_X1_9 rfl ?_
      refine mm_iload (q := 18) dX1_leastOpen_16 rfl rfl ?_
      refine mm_iald (q := 19) dX1_leastOpen_18 rfl (lc_Co_1 h0) (fun b2 _ => ?_)
      refine mm_if_ne (q := 22) (tgt := 47) dX1_leastOpen_19 rfl (by decide) (fun c3 => ?_) (fun c3 => ?_)
      · refine mm_aload_n (q := 23) dX1_leastOpen_22 rfl rfl rfl ?_
        refine mm_getRN (q := 26) (k1 := (r1 + 3)) dX1_leastOpen_23 rfl (lc_To h1) fd_X1_85 rfl ?_
        refine mm_iload (q := 28) dX1_leastOpen_26 rfl rfl ?_
        refine mm_iald (q := 29) dX1_leastOpen_28 rfl (lc_To_3 h1) (fun b4 _ => ?_)
        refine mm_iload_n (q := 30) dX1_leastOpen_29 rfl rfl rfl ?_
        refine mm_icmp_ne (q := 33) (tgt := 47) dX1_leastOpen_30 rfl (by decide) (fun c5 => ?_) (fun c5 => ?_)
        · refine mm_aload_n (q := 34) dX1_leastOpen_33 rfl rfl rfl ?_
          refine mm_getRN (q := 37) (k1 := (r1 + 4)) dX1_leastOpen_34 rfl (lc_To h1) fd_X1_88 rfl ?_
          refine mm_iload (q := 39) dX1_leastOpen_37 rfl rfl ?_
          refine mm_iald (q := 40) dX1_leastOpen_39 rfl (lc_To_4 h1) (fun b6 _ => ?_)
          refine mm_iload_n (q := 41) dX1_leastOpen_40 rfl rfl rfl ?_
          refine mm_icmp_ne (q := 44) (tgt := 47) dX1_leastOpen_41 rfl (by decide) (fun c7 => ?_) (fun c7 => ?_)
          · refine mm_iload (q := 46) dX1_leastOpen_44 rfl rfl ?_
            exact mm_iret rfl dX1_leastOpen_46
          · refine mm_iinc (q := 50) (ls' := [some (.ref r0), some (.ref r1), some (.int x2), some (.int x3), some (.int (x4 + (1 : Int32)))]) dX1_leastOpen_47 rfl rfl (ii_1 _) rfl (Nat.le_of_ble_eq_true rfl) rfl ?_
            refine mm_goto (tgt := 3) dX1_leastOpen_50 (by decide) ?_
            exact ih _
        · refine mm_iinc (q := 50) (ls' := [some (.ref r0), some (.ref r1), some (.int x2), some (.int x3), some (.int (x4 + (1 : Int32)))]) dX1_leastOpen_47 rfl rfl (ii_1 _) rfl (Nat.le_of_ble_eq_true rfl) rfl ?_
          refine mm_goto (tgt := 3) dX1_leastOpen_50 (by decide) ?_
          exact ih _
      · refine mm_iinc (q := 50) (ls' := [some (.ref r0), some (.ref r1), some (.int x2), some (.int x3), some (.int (x4 + (1 : Int32)))]) dX1_leastOpen_47 rfl rfl (ii_1 _) rfl (Nat.le_of_ble_eq_true rfl) rfl ?_
        refine mm_goto (tgt := 3) dX1_leastOpen_50 (by decide) ?_
        exact ih _
def fX1_leastOpen (r0 : Nat) (r1 : Nat) (x2 : Int32) (x3 : Int32) (M : mm_M) : Option (Int32) :=
  fX1_leastOpen_L3 r0 r1 x2 x3 M 1000 (0 : Int32)
set_option maxRecDepth 100000 in
set_option maxHeartbeats 4000000 in
theorem fX1_leastOpen_ok (r0 : Nat) (r1 : Nat) (x2 : Int32) (x3 : Int32) (M : mm_M) (h0 : isCo r0) (h1 : isTo r1) : mm_E LC yX1_leastOpen cX1_leastOpen 5 (some .int) 0 (mm_pI M) [.ref r0, .ref r1, .int x2, .int x3] M (fX1_leastOpen r0 r1 x2 x3 M) := by
  refine mm_E.of (own := RX1) (ls := [some (.ref r0), some (.ref r1), some (.int x2), some (.int x3), none]) (by decide) rfl rfl (Nat.le_of_ble_eq_true rfl) ?_
  unfold fX1_leastOpen
  refine mm_iconst (q := 1) dX1_leastOpen_0 rfl ic_0 ?_
  refine mm_istore (q := 3) (ls' := [some (.ref r0), some (.ref r1), some (.int x2), some (.int x3), some (.int (0 : Int32))]) dX1_leastOpen_1 rfl rfl (Nat.le_of_ble_eq_true rfl) rfl ?_
  exact fX1_leastOpen_L3_ok r0 r1 x2 x3 M h0 h1 _ _
def fX1_speak_J81 (r0 : Nat) (x4 : Int32) (s0 : Int32) (s1 : Int32) (s2 : Int32)  (M : mm_M) : Option (mm_M) :=
  (mm_wa M (r0 + 2) 12 s2 (s1 - s0)).bind fun M14 =>
  (mm_rd M14 (r0 + 2) 12 x4).bind fun b15 =>
  if 0 < b15 then
    some M14
  else
    (mm_wa M14 (r0 + 2) 12 x4 (0 : Int32)).bind fun M17 =>
    (mm_wa M17 (r0 + 1) 12 x4 (1 : Int32)).bind fun M18 =>
    some M18
set_option maxRecDepth 100000 in
set_option maxHeartbeats 4000000 in
theorem fX1_speak_J81_ok (r0 : Nat) (x4 : Int32) (s0 : Int32) (s1 : Int32) (s2 : Int32)  (M : mm_M) (h0 : isCo r0)   : mm_C LC cX1_speak 5 RX1 none 0 mm_eV 81 [some (.ref r0), none, none, none, some (.int x4)] [.int s0, .int s1, .int s2, .ref (r0 + 2)] M (fX1_speak_J81 r0 x4 s0 s1 s2 M) := by
  unfold fX1_speak_J81
  refine mm_isub (q := 82) dX1_speak_81 rfl ?_
  refine mm_iast (q := 83) dX1_speak_82 rfl (lc_Co_2 h0) (fun M14 _ => ?_)
  refine mm_aload_n (q := 84) dX1_speak_83 rfl rfl rfl ?_
  refine mm_getR (q := 87) (k1 := (r0 + 2)) dX1_speak_84 rfl (lc_Co h0) fd_X1_15 rfl ?_
  refine mm_iload (q := 89) dX1_speak_87 rfl rfl ?_
  refine mm_iald (q := 90) dX1_speak_89 rfl (lc_Co_2 h0) (fun b15 _ => ?_)
  refine mm_if_gt (q := 93) (tgt := 109) dX1_speak_90 rfl (by decide) (fun c16 => ?_) (fun c16 => ?_)
  · exact mm_vret rfl dX1_speak_109
  · refine mm_aload_n (q := 94) dX1_speak_93 rfl rfl rfl ?_
    refine mm_getR (q := 97) (k1 := (r0 + 2)) dX1_speak_94 rfl (lc_Co h0) fd_X1_15 rfl ?_
    refine mm_iload (q := 99) dX1_speak_97 rfl rfl ?_
    refine mm_iconst (q := 100) dX1_speak_99 rfl ic_0 ?_
    refine mm_iast (q := 101) dX1_speak_100 rfl (lc_Co_2 h0) (fun M17 _ => ?_)
    refine mm_aload_n (q := 102) dX1_speak_101 rfl rfl rfl ?_
    refine mm_getR (q := 105) (k1 := (r0 + 1)) dX1_speak_102 rfl (lc_Co h0) fd_X1_9 rfl ?_
    refine mm_iload (q := 107) dX1_speak_105 rfl rfl ?_
    refine mm_iconst (q := 108) dX1_speak_107 rfl ic_1 ?_
    refine mm_iast (q := 109) dX1_speak_108 rfl (lc_Co_1 h0) (fun M18 _ => ?_)
    exact mm_vret rfl dX1_speak_109
def fX1_speak_J39 (r0 : Nat) (x1 : Int32) (x2 : Int32) (x3 : Int32) (x4 : Int32)  (M : mm_M) : Option (mm_M) :=
  (mm_rd M (r0 + 3) 8 x3).bind fun b8 =>
  (mm_wa M (r0 + 3) 8 x3 (b8 + (1 : Int32))).bind fun M9 =>
  (mm_rd M9 (r0 + 5) 24 x2).bind fun b10 =>
  if ((b10 >>> (x3 &&& 31)) &&& (1 : Int32)) = 0 then
    ((mm_rd M9 (r0 + 2) 12 x4).bind fun b12 =>
    fX1_speak_J81 r0 x4 (if x1 = (3 : Int32) then (2 : Int32) else (1 : Int32)) b12 x4 M9)
  else
    some M9
set_option maxRecDepth 100000 in
set_option maxHeartbeats 4000000 in
theorem fX1_speak_J39_ok (r0 : Nat) (x1 : Int32) (x2 : Int32) (x3 : Int32) (x4 : Int32)  (M : mm_M) (h0 : isCo r0)   : mm_C LC cX1_speak 5 RX1 none 0 mm_eV 39 [some (.ref r0), some (.int x1), some (.int x2), some (.int x3), some (.int x4)] [] M (fX1_speak_J39 r0 x1 x2 x3 x4 M) := by
  unfold fX1_speak_J39
  refine mm_aload_n (q := 40) dX1_speak_39 rfl rfl rfl ?_
  refine mm_getR (q := 43) (k1 := (r0 + 3)) dX1_speak_40 rfl (lc_Co h0) fd_X1_18 rfl ?_
  refine mm_iload_n (q := 44) dX1_speak_43 rfl rfl rfl ?_
  refine mm_dup2 (q := 45) dX1_speak_44 rfl rfl rfl ?_
  refine mm_iald (q := 46) dX1_speak_45 rfl (lc_Co_3 h0) (fun b8 _ => ?_)
  refine mm_iconst (q := 47) dX1_speak_46 rfl ic_1 ?_
  refine mm_iadd (q := 48) dX1_speak_47 rfl ?_
  refine mm_iast (q := 49) dX1_speak_48 rfl (lc_Co_3 h0) (fun M9 _ => ?_)
  refine mm_aload_n (q := 50) dX1_speak_49 rfl rfl rfl ?_
  refine mm_getR (q := 53) (k1 := (r0 + 5)) dX1_speak_50 rfl (lc_Co h0) fd_X1_24 rfl ?_
  refine mm_iload_n (q := 54) dX1_speak_53 rfl rfl rfl ?_
  refine mm_iald (q := 55) dX1_speak_54 rfl (lc_Co_5 h0) (fun b10 _ => ?_)
  refine mm_iload_n (q := 56) dX1_speak_55 rfl rfl rfl ?_
  refine mm_ishr (q := 57) dX1_speak_56 rfl ?_
  refine mm_iconst (q := 58) dX1_speak_57 rfl ic_1 ?_
  refine mm_iand (q := 59) dX1_speak_58 rfl ?_
  refine mm_if_eq (q := 62) (tgt := 63) dX1_speak_59 rfl (by decide) (fun c11 => ?_) (fun c11 => ?_)
  · refine mm_aload_n (q := 64) dX1_speak_63 rfl rfl rfl ?_
    refine mm_getR (q := 67) (k1 := (r0 + 2)) dX1_speak_64 rfl (lc_Co h0) fd_X1_15 rfl ?_
    refine mm_iload (q := 69) dX1_speak_67 rfl rfl ?_
    refine mm_dup2 (q := 70) dX1_speak_69 rfl rfl rfl ?_
    refine mm_iald (q := 71) dX1_speak_70 rfl (lc_Co_2 h0) (fun b12 _ => ?_)
    refine mm_iload_n (q := 72) dX1_speak_71 rfl rfl rfl ?_
    refine mm_iconst (q := 73) dX1_speak_72 rfl ic_3 ?_
    by_cases c13 : x1 = (3 : Int32)
    · simp only [if_pos c13]
      refine mm_icmp_ne_t (q := 76) (tgt := 80) c13 dX1_speak_73 rfl (by decide) ?_
      refine mm_iconst (q := 77) dX1_speak_76 rfl ic_2 ?_
      refine mm_goto (tgt := 81) dX1_speak_77 (by decide) ?_
      refine mm_drop (ls' := [some (.ref r0), none, none, none, some (.int x4)]) (mm_sub_at _ _ (And.intro rfl (And.intro rfl trivial))) ?_
      exact fX1_speak_J81_ok r0 _ _ _ _ _ h0
    · simp only [if_neg c13]
      refine mm_icmp_ne_f (tgt := 80) c13 dX1_speak_73 (by decide) ?_
      refine mm_iconst (q := 81) dX1_speak_80 rfl ic_1 ?_
      refine mm_drop (ls' := [some (.ref r0), none, none, none, some (.int x4)]) (mm_sub_at _ _ (And.intro rfl (And.intro rfl trivial))) ?_
      exact fX1_speak_J81_ok r0 _ _ _ _ _ h0
  · exact mm_vret rfl dX1_speak_62
def fX1_speak (r0 : Nat) (x1 : Int32) (x2 : Int32) (x3 : Int32) (x4 : Int32) (M : mm_M) : Option (mm_M) :=
  if x4 = (-1 : Int32) then
    some M
  else
    if x1 = (2 : Int32) then
      some M
    else
      (mm_rd M (r0 + 4) 8 x3).bind fun b3 =>
      (mm_wa M (r0 + 4) 8 x3 (b3 + (1 : Int32))).bind fun M4 =>
      if x1 = (1 : Int32) then
        ((mm_rd M4 (r0 + 4) 8 x3).bind fun b6 =>
        if (b6 - b6 / (2 : Int32) * (2 : Int32)) = 0 then
          fX1_speak_J39 r0 x1 x2 x3 x4 M4
        else
          some M4)
      else
        fX1_speak_J39 r0 x1 x2 x3 x4 M4
set_option maxRecDepth 100000 in
set_option maxHeartbeats 4000000 in
theorem fX1_speak_ok (r0 : Nat) (x1 : Int32) (x2 : Int32) (x3 : Int32) (x4 : Int32) (M : mm_M) (h0 : isCo r0) : mm_E LC yX1_speak cX1_speak 5 none 0 mm_eV [.ref r0, .int x1, .int x2, .int x3, .int x4] M (fX1_speak r0 x1 x2 x3 x4 M) := by
  refine mm_E.of (own := RX1) (ls := [some (.ref r0), some (.int x1), some (.int x2), some (.int x3), some (.int x4)]) (by decide) rfl rfl (Nat.le_of_ble_eq_true rfl) ?_
  unfold fX1_speak
  refine mm_iload (q := 2) dX1_speak_0 rfl rfl ?_
  refine mm_iconst (q := 3) dX1_speak_2 rfl ic_m1 ?_
  refine mm_icmp_eq (q := 6) (tgt := 11) dX1_speak_3 rfl (by decide) (fun c1 => ?_) (fun c1 => ?_)
  · exact mm_vret rfl dX1_speak_11
  · refine mm_iload_n (q := 7) dX1_speak_6 rfl rfl rfl ?_
    refine mm_iconst (q := 8) dX1_speak_7 rfl ic_2 ?_
    refine mm_icmp_ne (q := 11) (tgt := 12) dX1_speak_8 rfl (by decide) (fun c2 => ?_) (fun c2 => ?_)
    · exact mm_vret rfl dX1_speak_11
    · refine mm_aload_n (q := 13) dX1_speak_12 rfl rfl rfl ?_
      refine mm_getR (q := 16) (k1 := (r0 + 4)) dX1_speak_13 rfl (lc_Co h0) fd_X1_21 rfl ?_
      refine mm_iload_n (q := 17) dX1_speak_16 rfl rfl rfl ?_
      refine mm_dup2 (q := 18) dX1_speak_17 rfl rfl rfl ?_
      refine mm_iald (q := 19) dX1_speak_18 rfl (lc_Co_4 h0) (fun b3 _ => ?_)
      refine mm_iconst (q := 20) dX1_speak_19 rfl ic_1 ?_
      refine mm_iadd (q := 21) dX1_speak_20 rfl ?_
      refine mm_iast (q := 22) dX1_speak_21 rfl (lc_Co_4 h0) (fun M4 _ => ?_)
      refine mm_iload_n (q := 23) dX1_speak_22 rfl rfl rfl ?_
      refine mm_iconst (q := 24) dX1_speak_23 rfl ic_1 ?_
      refine mm_icmp_ne (q := 27) (tgt := 39) dX1_speak_24 rfl (by decide) (fun c5 => ?_) (fun c5 => ?_)
      · refine mm_aload_n (q := 28) dX1_speak_27 rfl rfl rfl ?_
        refine mm_getR (q := 31) (k1 := (r0 + 4)) dX1_speak_28 rfl (lc_Co h0) fd_X1_21 rfl ?_
        refine mm_iload_n (q := 32) dX1_speak_31 rfl rfl rfl ?_
        refine mm_iald (q := 33) dX1_speak_32 rfl (lc_Co_4 h0) (fun b6 _ => ?_)
        refine mm_iconst (q := 34) dX1_speak_33 rfl ic_2 ?_
        refine mm_iremC (q := 35) dX1_speak_34 rfl (by decide) ?_
        refine mm_if_eq (q := 38) (tgt := 39) dX1_speak_35 rfl (by decide) (fun c7 => ?_) (fun c7 => ?_)
        · exact fX1_speak_J39_ok r0 _ _ _ _ _ h0
        · exact mm_vret rfl dX1_speak_38
      · exact fX1_speak_J39_ok r0 _ _ _ _ _ h0
def fX1_holdMeetings_L10 (r0 : Nat) (r1 : Nat) (x2 : Int32)  : Nat → Int32 → Int32 → mm_M → Option (mm_M)
  | 0, _, _, _ => none
  | n + 1, x3, x4, M =>
    if (M r1 7) ≤ x4 then
      some M
    else
      if x3 = (-1 : Int32) then
        some M
      else
        (mm_rd M (r1 + 7) 13 x3).bind fun b4 =>
        (mm_rd M (r1 + 8) 13 x3).bind fun b5 =>
        if (fX5_areTwo r1 b4 b5 M) = 0 then
          ((mm_rd M (r0 + 8) 13 x3).bind fun b7 =>
          fX1_holdMeetings_L10 r0 r1 x2 n b7 (x4 + (1 : Int32)) M)
        else
          if (((M r0 5) >>> (b4 &&& 31)) &&& (1 : Int32)) = 0 then
            (if (((M r0 5) >>> (b5 &&& 31)) &&& (1 : Int32)) = 0 then
              ((mm_rd M (r1 + 1) 8 b4).bind fun b10 =>
              (fX1_leastOpen r0 r1 b5 b4 M).bind fun b11 =>
              (fX1_speak r0 b10 x2 b4 b11 M).bind fun M12 =>
              (mm_rd M12 (r1 + 1) 8 b5).bind fun b13 =>
              (fX1_leastOpen r0 r1 b4 b5 M12).bind fun b14 =>
              (fX1_speak r0 b13 x2 b5 b14 M12).bind fun M15 =>
              (mm_rd M15 (r0 + 8) 13 x3).bind fun b16 =>
              fX1_holdMeetings_L10 r0 r1 x2 n b16 (x4 + (1 : Int32)) M15)
            else
              (mm_rd M (r0 + 8) 13 x3).bind fun b17 =>
              fX1_holdMeetings_L10 r0 r1 x2 n b17 (x4 + (1 : Int32)) M)
          else
            (mm_rd M (r0 + 8) 13 x3).bind fun b18 =>
            fX1_holdMeetings_L10 r0 r1 x2 n b18 (x4 + (1 : Int32)) M
set_option maxRecDepth 100000 in
set_option maxHeartbeats 4000000 in
theorem fX1_holdMeetings_L10_ok (r0 : Nat) (r1 : Nat) (x2 : Int32) (h0 : isCo r0) (h1 : isTo r1)   : ∀ (n : Nat) (x3 : Int32) (x4 : Int32) (M : mm_M), mm_C LC cX1_holdMeetings 7 RX1 none 1 mm_eV 10 [some (.ref r0), some (.ref r1), some (.int x2), some (.int x3), some (.int x4), none, none] [] M (fX1_holdMeetings_L10 r0 r1 x2 n x3 x4 M) := by
  intro n
  induction n with
  | zero => intro x3 x4 M; exact mm_none
  | succ n ih =>
    intro x3 x4 M
    rw [fX1_holdMeetings_L10]
    refine mm_iload (q := 12) dX1_holdMeetings_10 rfl rfl ?_
    refine mm_aload_n (q := 13) dX1_holdMeetings_12 rfl rfl rfl ?_
    refine mm_getIN (q := 16) dX1_holdMeetings_13 rfl (lc_To h1) fd_X1_115 rfl ?_
    refine mm_icmp_ge (q := 19) (tgt := 134) dX1_holdMeetings_16 rfl (by decide) (fun c2 => ?_) (fun c2 => ?_)
    · exact mm_vret rfl dX1_holdMeetings_134
    · refine mm_iload_n (q := 20) dX1_holdMeetings_19 rfl rfl rfl ?_
      refine mm_iconst (q := 21) dX1_holdMeetings_20 rfl ic_m1 ?_
      refine mm_icmp_eq (q := 24) (tgt := 134) dX1_holdMeetings_21 rfl (by decide) (fun c3 => ?_) (fun c3 => ?_)
      · exact mm_vret rfl dX1_holdMeetings_134
      · refine mm_aload_n (q := 25) dX1_holdMeetings_24 rfl rfl rfl ?_
        refine mm_getRN (q := 28) (k1 := (r1 + 7)) dX1_holdMeetings_25 rfl (lc_To h1) fd_X1_128 rfl ?_
        refine mm_iload_n (q := 29) dX1_holdMeetings_28 rfl rfl rfl ?_
        refine mm_iald (q := 30) dX1_holdMeetings_29 rfl (lc_To_7 h1) (fun b4 _ => ?_)
        refine mm_istore (q := 32) (ls' := [some (.ref r0), some (.ref r1), some (.int x2), some (.int x3), some (.int x4), some (.int b4), none]) dX1_holdMeetings_30 rfl rfl (Nat.le_of_ble_eq_true rfl) rfl ?_
        refine mm_aload_n (q := 33) dX1_holdMeetings_32 rfl rfl rfl ?_
        refine mm_getRN (q := 36) (k1 := (r1 + 8)) dX1_holdMeetings_33 rfl (lc_To h1) fd_X1_131 rfl ?_
        refine mm_iload_n (q := 37) dX1_holdMeetings_36 rfl rfl rfl ?_
        refine mm_iald (q := 38) dX1_holdMeetings_37 rfl (lc_To_8 h1) (fun b5 _ => ?_)
        refine mm_istore (q := 40) (ls' := [some (.ref r0), some (.ref r1), some (.int x2), some (.int x3), some (.int x4), some (.int b4), some (.int b5)]) dX1_holdMeetings_38 rfl rfl (Nat.le_of_ble_eq_true rfl) rfl ?_
        refine mm_aload_n (q := 41) dX1_holdMeetings_40 rfl rfl rfl ?_
        refine mm_iload (q := 43) dX1_holdMeetings_41 rfl rfl ?_
        refine mm_iload (q := 45) dX1_holdMeetings_43 rfl rfl ?_
        refine mm_callVT (as := [.int b4, .int b5]) (st := []) (q := 48) (lc_To h1) rfl (fX5_areTwo_ok r1 b4 b5 M h1) ms_X1_91 rfl (Nat.le_of_ble_eq_true rfl) (Nat.le_of_ble_eq_true rfl) rfl dX1_holdMeetings_45 rfl ?_
        refine mm_if_eq (q := 51) (tgt := 121) dX1_holdMeetings_48 rfl (by decide) (fun c6 => ?_) (fun c6 => ?_)
        · refine mm_aload_n (q := 122) dX1_holdMeetings_121 rfl rfl rfl ?_
          refine mm_getR (q := 125) (k1 := (r0 + 8)) dX1_holdMeetings_122 rfl (lc_Co h0) fd_X1_33 rfl ?_
          refine mm_iload_n (q := 126) dX1_holdMeetings_125 rfl rfl rfl ?_
          refine mm_iald (q := 127) dX1_holdMeetings_126 rfl (lc_Co_8 h0) (fun b7 _ => ?_)
          refine mm_istore_n (q := 128) (ls' := [some (.ref r0), some (.ref r1), some (.int x2), some (.int b7), some (.int x4), some (.int b4), some (.int b5)]) dX1_holdMeetings_127 rfl rfl rfl (Nat.le_of_ble_eq_true rfl) rfl ?_
          refine mm_iinc (q := 131) (ls' := [some (.ref r0), some (.ref r1), some (.int x2), some (.int b7), some (.int (x4 + (1 : Int32))), some (.int b4), some (.int b5)]) dX1_holdMeetings_128 rfl rfl (ii_1 _) rfl (Nat.le_of_ble_eq_true rfl) rfl ?_
          refine mm_goto (tgt := 10) dX1_holdMeetings_131 (by decide) ?_
          refine mm_drop (ls' := [some (.ref r0), some (.ref r1), some (.int x2), some (.int b7), some (.int (x4 + (1 : Int32))), none, none]) (mm_sub_at _ _ (And.intro rfl (And.intro rfl (And.intro rfl (And.intro rfl (And.intro rfl trivial)))))) ?_
          exact ih _ _ _
        · refine mm_aload_n (q := 52) dX1_holdMeetings_51 rfl rfl rfl ?_
          refine mm_getI (q := 55) dX1_holdMeetings_52 rfl (lc_Co h0) fd_X1_98 rfl ?_
          refine mm_iload (q := 57) dX1_holdMeetings_55 rfl rfl ?_
          refine mm_ishr (q := 58) dX1_holdMeetings_57 rfl ?_
          refine mm_iconst (q := 59) dX1_holdMeetings_58 rfl ic_1 ?_
          refine mm_iand (q := 60) dX1_holdMeetings_59 rfl ?_
          refine mm_if_ne (q := 63) (tgt := 121) dX1_holdMeetings_60 rfl (by decide) (fun c8 => ?_) (fun c8 => ?_)
          · refine mm_aload_n (q := 64) dX1_holdMeetings_63 rfl rfl rfl ?_
            refine mm_getI (q := 67) dX1_holdMeetings_64 rfl (lc_Co h0) fd_X1_98 rfl ?_
            refine mm_iload (q := 69) dX1_holdMeetings_67 rfl rfl ?_
            refine mm_ishr (q := 70) dX1_holdMeetings_69 rfl ?_
            refine mm_iconst (q := 71) dX1_holdMeetings_70 rfl ic_1 ?_
            refine mm_iand (q := 72) dX1_holdMeetings_71 rfl ?_
            refine mm_if_ne (q := 75) (tgt := 121) dX1_holdMeetings_72 rfl (by decide) (fun c9 => ?_) (fun c9 => ?_)
            · refine mm_aload_n (q := 76) dX1_holdMeetings_75 rfl rfl rfl ?_
              refine mm_aload_n (q := 77) dX1_holdMeetings_76 rfl rfl rfl ?_
              refine mm_getRN (q := 80) (k1 := (r1 + 1)) dX1_holdMeetings_77 rfl (lc_To h1) fd_X1_119 rfl ?_
              refine mm_iload (q := 82) dX1_holdMeetings_80 rfl rfl ?_
              refine mm_iald (q := 83) dX1_holdMeetings_82 rfl (lc_To_1 h1) (fun b10 _ => ?_)
              refine mm_iload_n (q := 84) dX1_holdMeetings_83 rfl rfl rfl ?_
              refine mm_iload (q := 86) dX1_holdMeetings_84 rfl rfl ?_
              refine mm_aload_n (q := 87) dX1_holdMeetings_86 rfl rfl rfl ?_
              refine mm_aload_n (q := 88) dX1_holdMeetings_87 rfl rfl rfl ?_
              refine mm_iload (q := 90) dX1_holdMeetings_88 rfl rfl ?_
              refine mm_iload (q := 92) dX1_holdMeetings_90 rfl rfl ?_
              refine mm_callVP (as := [.ref r1, .int b5, .int b4]) (st := [.int b4, .int x2, .int b10, .ref r0]) (q := 95) (lc_Co h0) rfl (fX1_leastOpen_ok r0 r1 b5 b4 M h0 h1) ms_X1_134 rfl (Nat.le_of_ble_eq_true rfl) (Nat.le_of_ble_eq_true rfl) rfl dX1_holdMeetings_92 rfl (fun b11 _ => ?_)
              refine mm_callVV (as := [.int b10, .int x2, .int b4, .int b11]) (st := []) (q := 98) (lc_Co h0) rfl (fX1_speak_ok r0 b10 x2 b4 b11 M h0) ms_X1_138 rfl (Nat.le_of_ble_eq_true rfl) (Nat.le_of_ble_eq_true rfl) rfl dX1_holdMeetings_95 rfl (fun M12 _ => ?_)
              refine mm_aload_n (q := 99) dX1_holdMeetings_98 rfl rfl rfl ?_
              refine mm_aload_n (q := 100) dX1_holdMeetings_99 rfl rfl rfl ?_
              refine mm_getRN (q := 103) (k1 := (r1 + 1)) dX1_holdMeetings_100 rfl (lc_To h1) fd_X1_119 rfl ?_
              refine mm_iload (q := 105) dX1_holdMeetings_103 rfl rfl ?_
              refine mm_iald (q := 106) dX1_holdMeetings_105 rfl (lc_To_1 h1) (fun b13 _ => ?_)
              refine mm_iload_n (q := 107) dX1_holdMeetings_106 rfl rfl rfl ?_
              refine mm_iload (q := 109) dX1_holdMeetings_107 rfl rfl ?_
              refine mm_aload_n (q := 110) dX1_holdMeetings_109 rfl rfl rfl ?_
              refine mm_aload_n (q := 111) dX1_holdMeetings_110 rfl rfl rfl ?_
              refine mm_iload (q := 113) dX1_holdMeetings_111 rfl rfl ?_
              refine mm_iload (q := 115) dX1_holdMeetings_113 rfl rfl ?_
              refine mm_callVP (as := [.ref r1, .int b4, .int b5]) (st := [.int b5, .int x2, .int b13, .ref r0]) (q := 118) (lc_Co h0) rfl (fX1_leastOpen_ok r0 r1 b4 b5 M12 h0 h1) ms_X1_134 rfl (Nat.le_of_ble_eq_true rfl) (Nat.le_of_ble_eq_true rfl) rfl dX1_holdMeetings_115 rfl (fun b14 _ => ?_)
              refine mm_callVV (as := [.int b13, .int x2, .int b5, .int b14]) (st := []) (q := 121) (lc_Co h0) rfl (fX1_speak_ok r0 b13 x2 b5 b14 M12 h0) ms_X1_138 rfl (Nat.le_of_ble_eq_true rfl) (Nat.le_of_ble_eq_true rfl) rfl dX1_holdMeetings_118 rfl (fun M15 _ => ?_)
              refine mm_aload_n (q := 122) dX1_holdMeetings_121 rfl rfl rfl ?_
              refine mm_getR (q := 125) (k1 := (r0 + 8)) dX1_holdMeetings_122 rfl (lc_Co h0) fd_X1_33 rfl ?_
              refine mm_iload_n (q := 126) dX1_holdMeetings_125 rfl rfl rfl ?_
              refine mm_iald (q := 127) dX1_holdMeetings_126 rfl (lc_Co_8 h0) (fun b16 _ => ?_)
              refine mm_istore_n (q := 128) (ls' := [some (.ref r0), some (.ref r1), some (.int x2), some (.int b16), some (.int x4), some (.int b4), some (.int b5)]) dX1_holdMeetings_127 rfl rfl rfl (Nat.le_of_ble_eq_true rfl) rfl ?_
              refine mm_iinc (q := 131) (ls' := [some (.ref r0), some (.ref r1), some (.int x2), some (.int b16), some (.int (x4 + (1 : Int32))), some (.int b4), some (.int b5)]) dX1_holdMeetings_128 rfl rfl (ii_1 _) rfl (Nat.le_of_ble_eq_true rfl) rfl ?_
              refine mm_goto (tgt := 10) dX1_holdMeetings_131 (by decide) ?_
              refine mm_drop (ls' := [some (.ref r0), some (.ref r1), some (.int x2), some (.int b16), some (.int (x4 + (1 : Int32))), none, none]) (mm_sub_at _ _ (And.intro rfl (And.intro rfl (And.intro rfl (And.intro rfl (And.intro rfl trivial)))))) ?_
              exact ih _ _ _
            · refine mm_aload_n (q := 122) dX1_holdMeetings_121 rfl rfl rfl ?_
              refine mm_getR (q := 125) (k1 := (r0 + 8)) dX1_holdMeetings_122 rfl (lc_Co h0) fd_X1_33 rfl ?_
              refine mm_iload_n (q := 126) dX1_holdMeetings_125 rfl rfl rfl ?_
              refine mm_iald (q := 127) dX1_holdMeetings_126 rfl (lc_Co_8 h0) (fun b17 _ => ?_)
              refine mm_istore_n (q := 128) (ls' := [some (.ref r0), some (.ref r1), some (.int x2), some (.int b17), some (.int x4), some (.int b4), some (.int b5)]) dX1_holdMeetings_127 rfl rfl rfl (Nat.le_of_ble_eq_true rfl) rfl ?_
              refine mm_iinc (q := 131) (ls' := [some (.ref r0), some (.ref r1), some (.int x2), some (.int b17), some (.int (x4 + (1 : Int32))), some (.int b4), some (.int b5)]) dX1_holdMeetings_128 rfl rfl (ii_1 _) rfl (Nat.le_of_ble_eq_true rfl) rfl ?_
              refine mm_goto (tgt := 10) dX1_holdMeetings_131 (by decide) ?_
              refine mm_drop (ls' := [some (.ref r0), some (.ref r1), some (.int x2), some (.int b17), some (.int (x4 + (1 : Int32))), none, none]) (mm_sub_at _ _ (And.intro rfl (And.intro rfl (And.intro rfl (And.intro rfl (And.intro rfl trivial)))))) ?_
              exact ih _ _ _
          · refine mm_aload_n (q := 122) dX1_holdMeetings_121 rfl rfl rfl ?_
            refine mm_getR (q := 125) (k1 := (r0 + 8)) dX1_holdMeetings_122 rfl (lc_Co h0) fd_X1_33 rfl ?_
            refine mm_iload_n (q := 126) dX1_holdMeetings_125 rfl rfl rfl ?_
            refine mm_iald (q := 127) dX1_holdMeetings_126 rfl (lc_Co_8 h0) (fun b18 _ => ?_)
            refine mm_istore_n (q := 128) (ls' := [some (.ref r0), some (.ref r1), some (.int x2), some (.int b18), some (.int x4), some (.int b4), some (.int b5)]) dX1_holdMeetings_127 rfl rfl rfl (Nat.le_of_ble_eq_true rfl) rfl ?_
            refine mm_iinc (q := 131) (ls' := [some (.ref r0), some (.ref r1), some (.int x2), some (.int b18), some (.int (x4 + (1 : Int32))), some (.int b4), some (.int b5)]) dX1_holdMeetings_128 rfl rfl (ii_1 _) rfl (Nat.le_of_ble_eq_true rfl) rfl ?_
            refine mm_goto (tgt := 10) dX1_holdMeetings_131 (by decide) ?_
            refine mm_drop (ls' := [some (.ref r0), some (.ref r1), some (.int x2), some (.int b18), some (.int (x4 + (1 : Int32))), none, none]) (mm_sub_at _ _ (And.intro rfl (And.intro rfl (And.intro rfl (And.intro rfl (And.intro rfl trivial)))))) ?_
            exact ih _ _ _
def fX1_holdMeetings (r0 : Nat) (r1 : Nat) (x2 : Int32) (M : mm_M) : Option (mm_M) :=
  (mm_rd M (r0 + 7) 24 x2).bind fun b1 =>
  fX1_holdMeetings_L10 r0 r1 x2 1000 b1 (0 : Int32) M
set_option maxRecDepth 100000 in
set_option maxHeartbeats 4000000 in
theorem fX1_holdMeetings_ok (r0 : Nat) (r1 : Nat) (x2 : Int32) (M : mm_M) (h0 : isCo r0) (h1 : isTo r1) : mm_E LC yX1_holdMeetings cX1_holdMeetings 7 none 1 mm_eV [.ref r0, .ref r1, .int x2] M (fX1_holdMeetings r0 r1 x2 M) := by
  refine mm_E.of (own := RX1) (ls := [some (.ref r0), some (.ref r1), some (.int x2), none, none, none, none]) (by decide) rfl rfl (Nat.le_of_ble_eq_true rfl) ?_
  unfold fX1_holdMeetings
  refine mm_aload_n (q := 1) dX1_holdMeetings_0 rfl rfl rfl ?_
  refine mm_getR (q := 4) (k1 := (r0 + 7)) dX1_holdMeetings_1 rfl (lc_Co h0) fd_X1_30 rfl ?_
  refine mm_iload_n (q := 5) dX1_holdMeetings_4 rfl rfl rfl ?_
  refine mm_iald (q := 6) dX1_holdMeetings_5 rfl (lc_Co_7 h0) (fun b1 _ => ?_)
  refine mm_istore_n (q := 7) (ls' := [some (.ref r0), some (.ref r1), some (.int x2), some (.int b1), none, none, none]) dX1_holdMeetings_6 rfl rfl rfl (Nat.le_of_ble_eq_true rfl) rfl ?_
  refine mm_iconst (q := 8) dX1_holdMeetings_7 rfl ic_0 ?_
  refine mm_istore (q := 10) (ls' := [some (.ref r0), some (.ref r1), some (.int x2), some (.int b1), some (.int (0 : Int32)), none, none]) dX1_holdMeetings_8 rfl rfl (Nat.le_of_ble_eq_true rfl) rfl ?_
  exact fX1_holdMeetings_L10_ok r0 r1 x2 h0 h1 _ _ _ _
def fX1_oneDebtOn_L4 (r0 : Nat) (x1 : Int32) (M : mm_M)  : Nat → Int32 → Int32 → Option (Int32)
  | 0, _, _ => none
  | n + 1, x2, x3 =>
    if (8 : Int32) ≤ x3 then
      some x2
    else
      if ((x1 >>> (x3 &&& 31)) &&& (1 : Int32)) = 0 then
        fX1_oneDebtOn_L4 r0 x1 M n x2 (x3 + (1 : Int32))
      else
        (mm_rd M (r0 + 12) 8 x3).bind fun b3 =>
        fX1_oneDebtOn_L4 r0 x1 M n (x2 ||| b3) (x3 + (1 : Int32))
set_option maxRecDepth 100000 in
set_option maxHeartbeats 4000000 in
theorem fX1_oneDebtOn_L4_ok (r0 : Nat) (x1 : Int32) (M : mm_M) (h0 : isCo r0)   : ∀ (n : Nat) (x2 : Int32) (x3 : Int32), mm_C LC cX1_oneDebtOn 4 RX1 (some .int) 0 (mm_pI M) 4 [some (.ref r0), some (.int x1), some (.int x2), some (.int x3)] [] M (fX1_oneDebtOn_L4 r0 x1 M n x2 x3) := by
  intro n
  induction n with
  | zero => intro x2 x3; exact mm_none
  | succ n ih =>
    intro x2 x3
    rw [fX1_oneDebtOn_L4]
    refine mm_iload_n (q := 5) dX1_oneDebtOn_4 rfl rfl rfl ?_
    refine mm_bipush (q := 7) dX1_oneDebtOn_5 rfl bp_8 ?_
    refine mm_icmp_ge (q := 10) (tgt := 33) dX1_oneDebtOn_7 rfl (by decide) (fun c1 => ?_) (fun c1 => ?_)
    · refine mm_iload_n (q := 34) dX1_oneDebtOn_33 rfl rfl rfl ?_
      exact mm_iret rfl dX1_oneDebtOn_34
    · refine mm_iload_n (q := 11) dX1_oneDebtOn_10 rfl rfl rfl ?_
      refine mm_iload_n (q := 12) dX1_oneDebtOn_11 rfl rfl rfl ?_
      refine mm_ishr (q := 13) dX1_oneDebtOn_12 rfl ?_
      refine mm_iconst (q := 14) dX1_oneDebtOn_13 rfl ic_1 ?_
      refine mm_iand (q := 15) dX1_oneDebtOn_14 rfl ?_
      refine mm_if_eq (q := 18) (tgt := 27) dX1_oneDebtOn_15 rfl (by decide) (fun c2 => ?_) (fun c2 => ?_)
      · refine mm_iinc (q := 30) (ls' := [some (.ref r0), some (.int x1), some (.int x2), some (.int (x3 + (1 : Int32)))]) dX1_oneDebtOn_27 rfl rfl (ii_1 _) rfl (Nat.le_of_ble_eq_true rfl) rfl ?_
        refine mm_goto (tgt := 4) dX1_oneDebtOn_30 (by decide) ?_
        exact ih _ _
      · refine mm_iload_n (q := 19) dX1_oneDebtOn_18 rfl rfl rfl ?_
        refine mm_aload_n (q := 20) dX1_oneDebtOn_19 rfl rfl rfl ?_
        refine mm_getR (q := 23) (k1 := (r0 + 12)) dX1_oneDebtOn_20 rfl (lc_Co h0) fd_X1_45 rfl ?_
        refine mm_iload_n (q := 24) dX1_oneDebtOn_23 rfl rfl rfl ?_
        refine mm_iald (q := 25) dX1_oneDebtOn_24 rfl (lc_Co_12 h0) (fun b3 _ => ?_)
        refine mm_ior (q := 26) dX1_oneDebtOn_25 rfl ?_
        refine mm_istore_n (q := 27) (ls' := [some (.ref r0), some (.int x1), some (.int (x2 ||| b3)), some (.int x3)]) dX1_oneDebtOn_26 rfl rfl rfl (Nat.le_of_ble_eq_true rfl) rfl ?_
        refine mm_iinc (q := 30) (ls' := [some (.ref r0), some (.int x1), some (.int (x2 ||| b3)), some (.int (x3 + (1 : Int32)))]) dX1_oneDebtOn_27 rfl rfl (ii_1 _) rfl (Nat.le_of_ble_eq_true rfl) rfl ?_
        refine mm_goto (tgt := 4) dX1_oneDebtOn_30 (by decide) ?_
        exact ih _ _
def fX1_oneDebtOn (r0 : Nat) (x1 : Int32) (M : mm_M) : Option (Int32) :=
  fX1_oneDebtOn_L4 r0 x1 M 1000 (0 : Int32) (0 : Int32)
set_option maxRecDepth 100000 in
set_option maxHeartbeats 4000000 in
theorem fX1_oneDebtOn_ok (r0 : Nat) (x1 : Int32) (M : mm_M) (h0 : isCo r0) : mm_E LC yX1_oneDebtOn cX1_oneDebtOn 4 (some .int) 0 (mm_pI M) [.ref r0, .int x1] M (fX1_oneDebtOn r0 x1 M) := by
  refine mm_E.of (own := RX1) (ls := [some (.ref r0), some (.int x1), none, none]) (by decide) rfl rfl (Nat.le_of_ble_eq_true rfl) ?_
  unfold fX1_oneDebtOn
  refine mm_iconst (q := 1) dX1_oneDebtOn_0 rfl ic_0 ?_
  refine mm_istore_n (q := 2) (ls' := [some (.ref r0), some (.int x1), some (.int (0 : Int32)), none]) dX1_oneDebtOn_1 rfl rfl rfl (Nat.le_of_ble_eq_true rfl) rfl ?_
  refine mm_iconst (q := 3) dX1_oneDebtOn_2 rfl ic_0 ?_
  refine mm_istore_n (q := 4) (ls' := [some (.ref r0), some (.int x1), some (.int (0 : Int32)), some (.int (0 : Int32))]) dX1_oneDebtOn_3 rfl rfl rfl (Nat.le_of_ble_eq_true rfl) rfl ?_
  exact fX1_oneDebtOn_L4_ok r0 x1 M h0 _ _ _
def fX1_openOrLostUses_J29 (r0 : Nat) (x1 : Int32) (x2 : Int32) (kr : Int32 → Int32 → Option (Int32)) (M : mm_M) : Option (Int32) :=
  (fX1_leftBehind r0 (23 : Int32) x2 M).bind fun b4 =>
  kr (x1 + b4) (x2 + (1 : Int32))
set_option maxRecDepth 100000 in
set_option maxHeartbeats 4000000 in
theorem fX1_openOrLostUses_J29_ok (r0 : Nat) (x1 : Int32) (x2 : Int32)  (M : mm_M) (h0 : isCo r0) (kr : Int32 → Int32 → Option (Int32)) (hkr : ∀ (x1 : Int32) (x2 : Int32), mm_C LC cX1_openOrLostUses 4 RX1 (some .int) 2 (mm_pI M) 4 [some (.ref r0), some (.int x1), some (.int x2), none] [] M (kr x1 x2)) : mm_C LC cX1_openOrLostUses 4 RX1 (some .int) 2 (mm_pI M) 29 [some (.ref r0), some (.int x1), some (.int x2), none] [] M (fX1_openOrLostUses_J29 r0 x1 x2 kr M) := by
  unfold fX1_openOrLostUses_J29
  refine mm_iload_n (q := 30) dX1_openOrLostUses_29 rfl rfl rfl ?_
  refine mm_aload_n (q := 31) dX1_openOrLostUses_30 rfl rfl rfl ?_
  refine mm_bipush (q := 33) dX1_openOrLostUses_31 rfl bp_23 ?_
  refine mm_iload_n (q := 34) dX1_openOrLostUses_33 rfl rfl rfl ?_
  refine mm_callVP (as := [.int (23 : Int32), .int x2]) (st := [.int x1]) (q := 37) (lc_Co h0) rfl (fX1_leftBehind_ok r0 (23 : Int32) x2 M h0) ms_X1_148 rfl (Nat.le_of_ble_eq_true rfl) (Nat.le_of_ble_eq_true rfl) rfl dX1_openOrLostUses_34 rfl (fun b4 _ => ?_)
  refine mm_iadd (q := 38) dX1_openOrLostUses_37 rfl ?_
  refine mm_istore_n (q := 39) (ls' := [some (.ref r0), some (.int (x1 + b4)), some (.int x2), none]) dX1_openOrLostUses_38 rfl rfl rfl (Nat.le_of_ble_eq_true rfl) rfl ?_
  refine mm_iinc (q := 42) (ls' := [some (.ref r0), some (.int (x1 + b4)), some (.int (x2 + (1 : Int32))), none]) dX1_openOrLostUses_39 rfl rfl (ii_1 _) rfl (Nat.le_of_ble_eq_true rfl) rfl ?_
  refine mm_goto (tgt := 4) dX1_openOrLostUses_42 (by decide) ?_
  exact hkr _ _
def fX1_openOrLostUses_L4 (r0 : Nat) (M : mm_M)  : Nat → Int32 → Int32 → Option (Int32)
  | 0, _, _ => none
  | n + 1, x1, x2 =>
    if (M r0 0) ≤ x2 then
      some x1
    else
      (fX1_stateBehind r0 (23 : Int32) x2 M).bind fun b2 =>
      if b2 = 0 then
        fX1_openOrLostUses_J29 r0 x1 x2 (fX1_openOrLostUses_L4 r0 M n) M
      else
        if b2 = (3 : Int32) then
          fX1_openOrLostUses_J29 r0 x1 x2 (fX1_openOrLostUses_L4 r0 M n) M
        else
          fX1_openOrLostUses_L4 r0 M n x1 (x2 + (1 : Int32))
set_option maxRecDepth 100000 in
set_option maxHeartbeats 4000000 in
theorem fX1_openOrLostUses_L4_ok (r0 : Nat) (M : mm_M) (h0 : isCo r0)   : ∀ (n : Nat) (x1 : Int32) (x2 : Int32), mm_C LC cX1_openOrLostUses 4 RX1 (some .int) 2 (mm_pI M) 4 [some (.ref r0), some (.int x1), some (.int x2), none] [] M (fX1_openOrLostUses_L4 r0 M n x1 x2) := by
  intro n
  induction n with
  | zero => intro x1 x2; exact mm_none
  | succ n ih =>
    intro x1 x2
    rw [fX1_openOrLostUses_L4]
    refine mm_iload_n (q := 5) dX1_openOrLostUses_4 rfl rfl rfl ?_
    refine mm_aload_n (q := 6) dX1_openOrLostUses_5 rfl rfl rfl ?_
    refine mm_getI (q := 9) dX1_openOrLostUses_6 rfl (lc_Co h0) fd_X1_69 rfl ?_
    refine mm_icmp_ge (q := 12) (tgt := 45) dX1_openOrLostUses_9 rfl (by decide) (fun c1 => ?_) (fun c1 => ?_)
    · refine mm_iload_n (q := 46) dX1_openOrLostUses_45 rfl rfl rfl ?_
      exact mm_iret rfl dX1_openOrLostUses_46
    · refine mm_aload_n (q := 13) dX1_openOrLostUses_12 rfl rfl rfl ?_
      refine mm_bipush (q := 15) dX1_openOrLostUses_13 rfl bp_23 ?_
      refine mm_iload_n (q := 16) dX1_openOrLostUses_15 rfl rfl rfl ?_
      refine mm_callVP (as := [.int (23 : Int32), .int x2]) (st := []) (q := 19) (lc_Co h0) rfl (fX1_stateBehind_ok r0 (23 : Int32) x2 M h0) ms_X1_145 rfl (Nat.le_of_ble_eq_true rfl) (Nat.le_of_ble_eq_true rfl) rfl dX1_openOrLostUses_16 rfl (fun b2 _ => ?_)
      refine mm_istore_n (q := 20) (ls' := [some (.ref r0), some (.int x1), some (.int x2), some (.int b2)]) dX1_openOrLostUses_19 rfl rfl rfl (Nat.le_of_ble_eq_true rfl) rfl ?_
      refine mm_iload_n (q := 21) dX1_openOrLostUses_20 rfl rfl rfl ?_
      refine mm_if_eq (q := 24) (tgt := 29) dX1_openOrLostUses_21 rfl (by decide) (fun c3 => ?_) (fun c3 => ?_)
      · refine mm_drop (ls' := [some (.ref r0), some (.int x1), some (.int x2), none]) (mm_sub_at _ _ (And.intro rfl (And.intro rfl (And.intro rfl trivial)))) ?_
        exact fX1_openOrLostUses_J29_ok r0 _ _ _ h0 _ ih
      · refine mm_iload_n (q := 25) dX1_openOrLostUses_24 rfl rfl rfl ?_
        refine mm_iconst (q := 26) dX1_openOrLostUses_25 rfl ic_3 ?_
        refine mm_icmp_ne (q := 29) (tgt := 39) dX1_openOrLostUses_26 rfl (by decide) (fun c5 => ?_) (fun c5 => ?_)
        · refine mm_drop (ls' := [some (.ref r0), some (.int x1), some (.int x2), none]) (mm_sub_at _ _ (And.intro rfl (And.intro rfl (And.intro rfl trivial)))) ?_
          exact fX1_openOrLostUses_J29_ok r0 _ _ _ h0 _ ih
        · refine mm_iinc (q := 42) (ls' := [some (.ref r0), some (.int x1), some (.int (x2 + (1 : Int32))), some (.int b2)]) dX1_openOrLostUses_39 rfl rfl (ii_1 _) rfl (Nat.le_of_ble_eq_true rfl) rfl ?_
          refine mm_goto (tgt := 4) dX1_openOrLostUses_42 (by decide) ?_
          refine mm_drop (ls' := [some (.ref r0), some (.int x1), some (.int (x2 + (1 : Int32))), none]) (mm_sub_at _ _ (And.intro rfl (And.intro rfl (And.intro rfl trivial)))) ?_
          exact ih _ _
def fX1_openOrLostUses (r0 : Nat) (M : mm_M) : Option (Int32) :=
  fX1_openOrLostUses_L4 r0 M 1000 (0 : Int32) (0 : Int32)
set_option maxRecDepth 100000 in
set_option maxHeartbeats 4000000 in
theorem fX1_openOrLostUses_ok (r0 : Nat) (M : mm_M) (h0 : isCo r0) : mm_E LC yX1_openOrLostUses cX1_openOrLostUses 4 (some .int) 2 (mm_pI M) [.ref r0] M (fX1_openOrLostUses r0 M) := by
  refine mm_E.of (own := RX1) (ls := [some (.ref r0), none, none, none]) (by decide) rfl rfl (Nat.le_of_ble_eq_true rfl) ?_
  unfold fX1_openOrLostUses
  refine mm_iconst (q := 1) dX1_openOrLostUses_0 rfl ic_0 ?_
  refine mm_istore_n (q := 2) (ls' := [some (.ref r0), some (.int (0 : Int32)), none, none]) dX1_openOrLostUses_1 rfl rfl rfl (Nat.le_of_ble_eq_true rfl) rfl ?_
  refine mm_iconst (q := 3) dX1_openOrLostUses_2 rfl ic_0 ?_
  refine mm_istore_n (q := 4) (ls' := [some (.ref r0), some (.int (0 : Int32)), some (.int (0 : Int32)), none]) dX1_openOrLostUses_3 rfl rfl rfl (Nat.le_of_ble_eq_true rfl) rfl ?_
  exact fX1_openOrLostUses_L4_ok r0 M h0 _ _ _
def fX1_openUses_L6 (r0 : Nat) (r2 : Nat) (x1 : Int32) (x3 : Int32) (M : mm_M)  : Nat → Int32 → Int32 → Option (Int32)
  | 0, _, _ => none
  | n + 1, x4, x5 =>
    if (M r0 0) ≤ x5 then
      some x4
    else
      (mm_rd M r2 12 x5).bind fun b2 =>
      if b2 = x3 then
        ((fX1_stateBehind r0 x1 x5 M).bind fun b4 =>
        if b4 = 0 then
          ((fX1_leftBehind r0 x1 x5 M).bind fun b6 =>
          fX1_openUses_L6 r0 r2 x1 x3 M n (x4 + b6) (x5 + (1 : Int32)))
        else
          fX1_openUses_L6 r0 r2 x1 x3 M n x4 (x5 + (1 : Int32)))
      else
        fX1_openUses_L6 r0 r2 x1 x3 M n x4 (x5 + (1 : Int32))
set_option maxRecDepth 100000 in
set_option maxHeartbeats 4000000 in
theorem fX1_openUses_L6_ok (r0 : Nat) (r2 : Nat) (x1 : Int32) (x3 : Int32) (M : mm_M) (h0 : isCo r0) (h2 : LC[r2]? = some (.inl 12))   : ∀ (n : Nat) (x4 : Int32) (x5 : Int32), mm_C LC cX1_openUses 6 RX1 (some .int) 2 (mm_pI M) 6 [some (.ref r0), some (.int x1), some (.ref r2), some (.int x3), some (.int x4), some (.int x5)] [] M (fX1_openUses_L6 r0 r2 x1 x3 M n x4 x5) := by
  intro n
  induction n with
  | zero => intro x4 x5; exact mm_none
  | succ n ih =>
    intro x4 x5
    rw [fX1_openUses_L6]
    refine mm_iload (q := 8) dX1_openUses_6 rfl rfl ?_
    refine mm_aload_n (q := 9) dX1_openUses_8 rfl rfl rfl ?_
    refine mm_getI (q := 12) dX1_openUses_9 rfl (lc_Co h0) fd_X1_69 rfl ?_
    refine mm_icmp_ge (q := 15) (tgt := 51) dX1_openUses_12 rfl (by decide) (fun c1 => ?_) (fun c1 => ?_)
    · refine mm_iload (q := 53) dX1_openUses_51 rfl rfl ?_
      exact mm_iret rfl dX1_openUses_53
    · refine mm_aload_n (q := 16) dX1_openUses_15 rfl rfl rfl ?_
      refine mm_iload (q := 18) dX1_openUses_16 rfl rfl ?_
      refine mm_iald (q := 19) dX1_openUses_18 rfl h2 (fun b2 _ => ?_)
      refine mm_iload_n (q := 20) dX1_openUses_19 rfl rfl rfl ?_
      refine mm_icmp_ne (q := 23) (tgt := 45) dX1_openUses_20 rfl (by decide) (fun c3 => ?_) (fun c3 => ?_)
      · refine mm_aload_n (q := 24) dX1_openUses_23 rfl rfl rfl ?_
        refine mm_iload_n (q := 25) dX1_openUses_24 rfl rfl rfl ?_
        refine mm_iload (q := 27) dX1_openUses_25 rfl rfl ?_
        refine mm_callVP (as := [.int x1, .int x5]) (st := []) (q := 30) (lc_Co h0) rfl (fX1_stateBehind_ok r0 x1 x5 M h0) ms_X1_145 rfl (Nat.le_of_ble_eq_true rfl) (Nat.le_of_ble_eq_true rfl) rfl dX1_openUses_27 rfl (fun b4 _ => ?_)
        refine mm_if_ne (q := 33) (tgt := 45) dX1_openUses_30 rfl (by decide) (fun c5 => ?_) (fun c5 => ?_)
        · refine mm_iload (q := 35) dX1_openUses_33 rfl rfl ?_
          refine mm_aload_n (q := 36) dX1_openUses_35 rfl rfl rfl ?_
          refine mm_iload_n (q := 37) dX1_openUses_36 rfl rfl rfl ?_
          refine mm_iload (q := 39) dX1_openUses_37 rfl rfl ?_
          refine mm_callVP (as := [.int x1, .int x5]) (st := [.int x4]) (q := 42) (lc_Co h0) rfl (fX1_leftBehind_ok r0 x1 x5 M h0) ms_X1_148 rfl (Nat.le_of_ble_eq_true rfl) (Nat.le_of_ble_eq_true rfl) rfl dX1_openUses_39 rfl (fun b6 _ => ?_)
          refine mm_iadd (q := 43) dX1_openUses_42 rfl ?_
          refine mm_istore (q := 45) (ls' := [some (.ref r0), some (.int x1), some (.ref r2), some (.int x3), some (.int (x4 + b6)), some (.int x5)]) dX1_openUses_43 rfl rfl (Nat.le_of_ble_eq_true rfl) rfl ?_
          refine mm_iinc (q := 48) (ls' := [some (.ref r0), some (.int x1), some (.ref r2), some (.int x3), some (.int (x4 + b6)), some (.int (x5 + (1 : Int32)))]) dX1_openUses_45 rfl rfl (ii_1 _) rfl (Nat.le_of_ble_eq_true rfl) rfl ?_
          refine mm_goto (tgt := 6) dX1_openUses_48 (by decide) ?_
          exact ih _ _
        · refine mm_iinc (q := 48) (ls' := [some (.ref r0), some (.int x1), some (.ref r2), some (.int x3), some (.int x4), some (.int (x5 + (1 : Int32)))]) dX1_openUses_45 rfl rfl (ii_1 _) rfl (Nat.le_of_ble_eq_true rfl) rfl ?_
          refine mm_goto (tgt := 6) dX1_openUses_48 (by decide) ?_
          exact ih _ _
      · refine mm_iinc (q := 48) (ls' := [some (.ref r0), some (.int x1), some (.ref r2), some (.int x3), some (.int x4), some (.int (x5 + (1 : Int32)))]) dX1_openUses_45 rfl rfl (ii_1 _) rfl (Nat.le_of_ble_eq_true rfl) rfl ?_
        refine mm_goto (tgt := 6) dX1_openUses_48 (by decide) ?_
        exact ih _ _
def fX1_openUses (r0 : Nat) (x1 : Int32) (r2 : Nat) (x3 : Int32) (M : mm_M) : Option (Int32) :=
  fX1_openUses_L6 r0 r2 x1 x3 M 1000 (0 : Int32) (0 : Int32)
set_option maxRecDepth 100000 in
set_option maxHeartbeats 4000000 in
theorem fX1_openUses_ok (r0 : Nat) (x1 : Int32) (r2 : Nat) (x3 : Int32) (M : mm_M) (h0 : isCo r0) (h2 : LC[r2]? = some (.inl 12)) : mm_E LC yX1_openUses cX1_openUses 6 (some .int) 2 (mm_pI M) [.ref r0, .int x1, .ref r2, .int x3] M (fX1_openUses r0 x1 r2 x3 M) := by
  refine mm_E.of (own := RX1) (ls := [some (.ref r0), some (.int x1), some (.ref r2), some (.int x3), none, none]) (by decide) rfl rfl (Nat.le_of_ble_eq_true rfl) ?_
  unfold fX1_openUses
  refine mm_iconst (q := 1) dX1_openUses_0 rfl ic_0 ?_
  refine mm_istore (q := 3) (ls' := [some (.ref r0), some (.int x1), some (.ref r2), some (.int x3), some (.int (0 : Int32)), none]) dX1_openUses_1 rfl rfl (Nat.le_of_ble_eq_true rfl) rfl ?_
  refine mm_iconst (q := 4) dX1_openUses_3 rfl ic_0 ?_
  refine mm_istore (q := 6) (ls' := [some (.ref r0), some (.int x1), some (.ref r2), some (.int x3), some (.int (0 : Int32)), some (.int (0 : Int32))]) dX1_openUses_4 rfl rfl (Nat.le_of_ble_eq_true rfl) rfl ?_
  exact fX1_openUses_L6_ok r0 r2 x1 x3 M h0 h2 _ _ _
def fX1_owesNothing (r0 : Nat) (r1 : Nat) (x2 : Int32) (x3 : Int32) (M : mm_M) : Option (Int32) :=
  (fX1_openUses r0 x2 (r1 + 4) x3 M).bind fun b1 =>
  if b1 = 0 then
    ((fX1_hasLost r0 r1 x2 x3 M).bind fun b3 =>
    if b3 = 0 then
      some (1 : Int32)
    else
      some (0 : Int32))
  else
    some (0 : Int32)
set_option maxRecDepth 100000 in
set_option maxHeartbeats 4000000 in
theorem fX1_owesNothing_ok (r0 : Nat) (r1 : Nat) (x2 : Int32) (x3 : Int32) (M : mm_M) (h0 : isCo r0) (h1 : isTo r1) : mm_E LC yX1_owesNothing cX1_owesNothing 4 (some .boolean) 3 (mm_pI M) [.ref r0, .ref r1, .int x2, .int x3] M (fX1_owesNothing r0 r1 x2 x3 M) := by
  refine mm_E.of (own := RX1) (ls := [some (.ref r0), some (.ref r1), some (.int x2), some (.int x3)]) (by decide) rfl rfl (Nat.le_of_ble_eq_true rfl) ?_
  unfold fX1_owesNothing
  refine mm_aload_n (q := 1) dX1_owesNothing_0 rfl rfl rfl ?_
  refine mm_iload_n (q := 2) dX1_owesNothing_1 rfl rfl rfl ?_
  refine mm_aload_n (q := 3) dX1_owesNothing_2 rfl rfl rfl ?_
  refine mm_getRN (q := 6) (k1 := (r1 + 4)) dX1_owesNothing_3 rfl (lc_To h1) fd_X1_88 rfl ?_
  refine mm_iload_n (q := 7) dX1_owesNothing_6 rfl rfl rfl ?_
  refine mm_callVP (as := [.int x2, .ref (r1 + 4), .int x3]) (st := []) (q := 10) (lc_Co h0) rfl (fX1_openUses_ok r0 x2 (r1 + 4) x3 M h0 (lc_To_4 h1)) ms_X1_151 rfl (Nat.le_of_ble_eq_true rfl) (Nat.le_of_ble_eq_true rfl) rfl dX1_owesNothing_7 rfl (fun b1 _ => ?_)
  refine mm_if_ne (q := 13) (tgt := 27) dX1_owesNothing_10 rfl (by decide) (fun c2 => ?_) (fun c2 => ?_)
  · refine mm_aload_n (q := 14) dX1_owesNothing_13 rfl rfl rfl ?_
    refine mm_aload_n (q := 15) dX1_owesNothing_14 rfl rfl rfl ?_
    refine mm_iload_n (q := 16) dX1_owesNothing_15 rfl rfl rfl ?_
    refine mm_iload_n (q := 17) dX1_owesNothing_16 rfl rfl rfl ?_
    refine mm_callVP (as := [.ref r1, .int x2, .int x3]) (st := []) (q := 20) (lc_Co h0) rfl (fX1_hasLost_ok r0 r1 x2 x3 M h0 h1) ms_X1_155 rfl (Nat.le_of_ble_eq_true rfl) (Nat.le_of_ble_eq_true rfl) rfl dX1_owesNothing_17 rfl (fun b3 _ => ?_)
    refine mm_if_ne (q := 23) (tgt := 27) dX1_owesNothing_20 rfl (by decide) (fun c4 => ?_) (fun c4 => ?_)
    · refine mm_iconst (q := 24) dX1_owesNothing_23 rfl ic_1 ?_
      refine mm_goto (tgt := 28) dX1_owesNothing_24 (by decide) ?_
      exact mm_zret rfl rfl dX1_owesNothing_28
    · refine mm_iconst (q := 28) dX1_owesNothing_27 rfl ic_0 ?_
      exact mm_zret rfl rfl dX1_owesNothing_28
  · refine mm_iconst (q := 28) dX1_owesNothing_27 rfl ic_0 ?_
    exact mm_zret rfl rfl dX1_owesNothing_28
def fX1_run_J77 (r0 : Nat) (r1 : Nat) (x4 : Int32) (kr : Int32 → mm_M → Option (mm_M)) (M : mm_M) : Option (mm_M) :=
  (mm_cp M (r0 + 1) 12 (0 : Int32) (r0 + 9) 288 (x4 * (12 : Int32)) (M r0 0)).bind fun M10 =>
  (mm_cp M10 (r0 + 2) 12 (0 : Int32) (r0 + 10) 288 (x4 * (12 : Int32)) (M10 r0 0)).bind fun M11 =>
  (mm_cp M11 (r0 + 3) 8 (0 : Int32) (r0 + 11) 192 (x4 * (8 : Int32)) (M11 r1 0)).bind fun M12 =>
  kr (x4 + (1 : Int32)) M12
set_option maxRecDepth 100000 in
set_option maxHeartbeats 4000000 in
theorem fX1_run_J77_ok (r0 : Nat) (r1 : Nat) (x4 : Int32)  (M : mm_M) (h0 : isCo r0) (h1 : isTo r1) (kr : Int32 → mm_M → Option (mm_M)) (hkr : ∀ (x4 : Int32) (M : mm_M), mm_C LC cX1_run 5 RX1 none 2 mm_eV 20 [some (.ref r0), some (.ref r1), none, none, some (.int x4)] [] M (kr x4 M)) : mm_C LC cX1_run 5 RX1 none 2 mm_eV 77 [some (.ref r0), some (.ref r1), none, none, some (.int x4)] [] M (fX1_run_J77 r0 r1 x4 kr M) := by
  unfold fX1_run_J77
  refine mm_aload_n (q := 78) dX1_run_77 rfl rfl rfl ?_
  refine mm_getR (q := 81) (k1 := (r0 + 1)) dX1_run_78 rfl (lc_Co h0) fd_X1_9 rfl ?_
  refine mm_iconst (q := 82) dX1_run_81 rfl ic_0 ?_
  refine mm_aload_n (q := 83) dX1_run_82 rfl rfl rfl ?_
  refine mm_getR (q := 86) (k1 := (r0 + 9)) dX1_run_83 rfl (lc_Co h0) fd_X1_36 rfl ?_
  refine mm_iload (q := 88) dX1_run_86 rfl rfl ?_
  refine mm_bipush (q := 90) dX1_run_88 rfl bp_12 ?_
  refine mm_imul (q := 91) dX1_run_90 rfl ?_
  refine mm_aload_n (q := 92) dX1_run_91 rfl rfl rfl ?_
  refine mm_getI (q := 95) dX1_run_92 rfl (lc_Co h0) fd_X1_69 rfl ?_
  refine mm_copy (q := 98) (lc_Co_1 h0) (lc_Co_9 h0) cs_X1_73 ac_1 ac_2 ac_3 (Nat.le_of_ble_eq_true rfl) (Nat.le_of_ble_eq_true rfl) dX1_run_95 rfl (fun M10 _ => ?_)
  refine mm_aload_n (q := 99) dX1_run_98 rfl rfl rfl ?_
  refine mm_getR (q := 102) (k1 := (r0 + 2)) dX1_run_99 rfl (lc_Co h0) fd_X1_15 rfl ?_
  refine mm_iconst (q := 103) dX1_run_102 rfl ic_0 ?_
  refine mm_aload_n (q := 104) dX1_run_103 rfl rfl rfl ?_
  refine mm_getR (q := 107) (k1 := (r0 + 10)) dX1_run_104 rfl (lc_Co h0) fd_X1_39 rfl ?_
  refine mm_iload (q := 109) dX1_run_107 rfl rfl ?_
  refine mm_bipush (q := 111) dX1_run_109 rfl bp_12 ?_
  refine mm_imul (q := 112) dX1_run_111 rfl ?_
  refine mm_aload_n (q := 113) dX1_run_112 rfl rfl rfl ?_
  refine mm_getI (q := 116) dX1_run_113 rfl (lc_Co h0) fd_X1_69 rfl ?_
  refine mm_copy (q := 119) (lc_Co_2 h0) (lc_Co_10 h0) cs_X1_73 ac_1 ac_2 ac_3 (Nat.le_of_ble_eq_true rfl) (Nat.le_of_ble_eq_true rfl) dX1_run_116 rfl (fun M11 _ => ?_)
  refine mm_aload_n (q := 120) dX1_run_119 rfl rfl rfl ?_
  refine mm_getR (q := 123) (k1 := (r0 + 3)) dX1_run_120 rfl (lc_Co h0) fd_X1_18 rfl ?_
  refine mm_iconst (q := 124) dX1_run_123 rfl ic_0 ?_
  refine mm_aload_n (q := 125) dX1_run_124 rfl rfl rfl ?_
  refine mm_getR (q := 128) (k1 := (r0 + 11)) dX1_run_125 rfl (lc_Co h0) fd_X1_42 rfl ?_
  refine mm_iload (q := 130) dX1_run_128 rfl rfl ?_
  refine mm_bipush (q := 132) dX1_run_130 rfl bp_8 ?_
  refine mm_imul (q := 133) dX1_run_132 rfl ?_
  refine mm_aload_n (q := 134) dX1_run_133 rfl rfl rfl ?_
  refine mm_getIN (q := 137) dX1_run_134 rfl (lc_To h1) fd_X1_79 rfl ?_
  refine mm_copy (q := 140) (lc_Co_3 h0) (lc_Co_11 h0) cs_X1_73 ac_1 ac_2 ac_3 (Nat.le_of_ble_eq_true rfl) (Nat.le_of_ble_eq_true rfl) dX1_run_137 rfl (fun M12 _ => ?_)
  refine mm_iinc (q := 143) (ls' := [some (.ref r0), some (.ref r1), none, none, some (.int (x4 + (1 : Int32)))]) dX1_run_140 rfl rfl (ii_1 _) rfl (Nat.le_of_ble_eq_true rfl) rfl ?_
  refine mm_goto (tgt := 20) dX1_run_143 (by decide) ?_
  exact hkr _ _
def fX1_run_J53 (r0 : Nat) (r1 : Nat) (x4 : Int32) (kr : Int32 → mm_M → Option (mm_M)) (M : mm_M) : Option (mm_M) :=
  (fX1_holdMeetings r0 r1 x4 M).bind fun M7 =>
  (mm_rd M7 (r0 + 6) 24 x4).bind fun b8 =>
  if b8 = 0 then
    fX1_run_J77 r0 r1 x4 kr M7
  else
    (fX1_bury r0 r1 x4 M7).bind fun M13 =>
    fX1_run_J77 r0 r1 x4 kr M13
set_option maxRecDepth 100000 in
set_option maxHeartbeats 4000000 in
theorem fX1_run_J53_ok (r0 : Nat) (r1 : Nat) (x4 : Int32)  (M : mm_M) (h0 : isCo r0) (h1 : isTo r1) (kr : Int32 → mm_M → Option (mm_M)) (hkr : ∀ (x4 : Int32) (M : mm_M), mm_C LC cX1_run 5 RX1 none 2 mm_eV 20 [some (.ref r0), some (.ref r1), none, none, some (.int x4)] [] M (kr x4 M)) : mm_C LC cX1_run 5 RX1 none 2 mm_eV 53 [some (.ref r0), some (.ref r1), none, none, some (.int x4)] [] M (fX1_run_J53 r0 r1 x4 kr M) := by
  unfold fX1_run_J53
  refine mm_aload_n (q := 54) dX1_run_53 rfl rfl rfl ?_
  refine mm_aload_n (q := 55) dX1_run_54 rfl rfl rfl ?_
  refine mm_iload (q := 57) dX1_run_55 rfl rfl ?_
  refine mm_callVV (as := [.ref r1, .int x4]) (st := []) (q := 60) (lc_Co h0) rfl (fX1_holdMeetings_ok r0 r1 x4 M h0 h1) ms_X1_62 rfl (Nat.le_of_ble_eq_true rfl) (Nat.le_of_ble_eq_true rfl) rfl dX1_run_57 rfl (fun M7 _ => ?_)
  refine mm_aload_n (q := 61) dX1_run_60 rfl rfl rfl ?_
  refine mm_getR (q := 64) (k1 := (r0 + 6)) dX1_run_61 rfl (lc_Co h0) fd_X1_27 rfl ?_
  refine mm_iload (q := 66) dX1_run_64 rfl rfl ?_
  refine mm_iald (q := 67) dX1_run_66 rfl (lc_Co_6 h0) (fun b8 _ => ?_)
  refine mm_if_eq (q := 70) (tgt := 77) dX1_run_67 rfl (by decide) (fun c9 => ?_) (fun c9 => ?_)
  · exact fX1_run_J77_ok r0 r1 _ _ h0 h1 _ hkr
  · refine mm_aload_n (q := 71) dX1_run_70 rfl rfl rfl ?_
    refine mm_aload_n (q := 72) dX1_run_71 rfl rfl rfl ?_
    refine mm_iload (q := 74) dX1_run_72 rfl rfl ?_
    refine mm_callVV (as := [.ref r1, .int x4]) (st := []) (q := 77) (lc_Co h0) rfl (fX1_bury_ok r0 r1 x4 M7 h0 h1) ms_X1_66 rfl (Nat.le_of_ble_eq_true rfl) (Nat.le_of_ble_eq_true rfl) rfl dX1_run_74 rfl (fun M13 _ => ?_)
    exact fX1_run_J77_ok r0 r1 _ _ h0 h1 _ hkr
def fX1_run_J48 (r0 : Nat) (r1 : Nat) (x4 : Int32) (kr : Int32 → mm_M → Option (mm_M)) (M : mm_M) : Option (mm_M) :=
  (fX1_growDebts r0 r1 M).bind fun M6 =>
  fX1_run_J53 r0 r1 x4 kr M6
set_option maxRecDepth 100000 in
set_option maxHeartbeats 4000000 in
theorem fX1_run_J48_ok (r0 : Nat) (r1 : Nat) (x4 : Int32)  (M : mm_M) (h0 : isCo r0) (h1 : isTo r1) (kr : Int32 → mm_M → Option (mm_M)) (hkr : ∀ (x4 : Int32) (M : mm_M), mm_C LC cX1_run 5 RX1 none 2 mm_eV 20 [some (.ref r0), some (.ref r1), none, none, some (.int x4)] [] M (kr x4 M)) : mm_C LC cX1_run 5 RX1 none 2 mm_eV 48 [some (.ref r0), some (.ref r1), none, none, some (.int x4)] [] M (fX1_run_J48 r0 r1 x4 kr M) := by
  unfold fX1_run_J48
  refine mm_aload_n (q := 49) dX1_run_48 rfl rfl rfl ?_
  refine mm_aload_n (q := 50) dX1_run_49 rfl rfl rfl ?_
  refine mm_callVV (as := [.ref r1]) (st := []) (q := 53) (lc_Co h0) rfl (fX1_growDebts_ok r0 r1 M h0 h1) ms_X1_59 rfl (Nat.le_of_ble_eq_true rfl) (Nat.le_of_ble_eq_true rfl) rfl dX1_run_50 rfl (fun M6 _ => ?_)
  exact fX1_run_J53_ok r0 r1 _ _ h0 h1 _ hkr
def fX1_run_L20 (r0 : Nat) (r1 : Nat)  : Nat → Int32 → mm_M → Option (mm_M)
  | 0, _, _ => none
  | n + 1, x4, M =>
    if (24 : Int32) ≤ x4 then
      some M
    else
      if x4 = (6 : Int32) then
        fX1_run_J48 r0 r1 x4 (fX1_run_L20 r0 r1 n) M
      else
        if x4 = (13 : Int32) then
          fX1_run_J48 r0 r1 x4 (fX1_run_L20 r0 r1 n) M
        else
          if x4 = (20 : Int32) then
            fX1_run_J48 r0 r1 x4 (fX1_run_L20 r0 r1 n) M
          else
            fX1_run_J53 r0 r1 x4 (fX1_run_L20 r0 r1 n) M
set_option maxRecDepth 100000 in
set_option maxHeartbeats 4000000 in
theorem fX1_run_L20_ok (r0 : Nat) (r1 : Nat) (h0 : isCo r0) (h1 : isTo r1)   : ∀ (n : Nat) (x4 : Int32) (M : mm_M), mm_C LC cX1_run 5 RX1 none 2 mm_eV 20 [some (.ref r0), some (.ref r1), none, none, some (.int x4)] [] M (fX1_run_L20 r0 r1 n x4 M) := by
  intro n
  induction n with
  | zero => intro x4 M; exact mm_none
  | succ n ih =>
    intro x4 M
    rw [fX1_run_L20]
    refine mm_iload (q := 22) dX1_run_20 rfl rfl ?_
    refine mm_bipush (q := 24) dX1_run_22 rfl bp_24 ?_
    refine mm_icmp_ge (q := 27) (tgt := 146) dX1_run_24 rfl (by decide) (fun c4 => ?_) (fun c4 => ?_)
    · exact mm_vret rfl dX1_run_146
    · refine mm_iload (q := 29) dX1_run_27 rfl rfl ?_
      refine mm_bipush (q := 31) dX1_run_29 rfl bp_6 ?_
      refine mm_icmp_eq (q := 34) (tgt := 48) dX1_run_31 rfl (by decide) (fun c5 => ?_) (fun c5 => ?_)
      · exact fX1_run_J48_ok r0 r1 _ _ h0 h1 _ ih
      · refine mm_iload (q := 36) dX1_run_34 rfl rfl ?_
        refine mm_bipush (q := 38) dX1_run_36 rfl bp_13 ?_
        refine mm_icmp_eq (q := 41) (tgt := 48) dX1_run_38 rfl (by decide) (fun c14 => ?_) (fun c14 => ?_)
        · exact fX1_run_J48_ok r0 r1 _ _ h0 h1 _ ih
        · refine mm_iload (q := 43) dX1_run_41 rfl rfl ?_
          refine mm_bipush (q := 45) dX1_run_43 rfl bp_20 ?_
          refine mm_icmp_ne (q := 48) (tgt := 53) dX1_run_45 rfl (by decide) (fun c15 => ?_) (fun c15 => ?_)
          · exact fX1_run_J48_ok r0 r1 _ _ h0 h1 _ ih
          · exact fX1_run_J53_ok r0 r1 _ _ h0 h1 _ ih
def fX1_run (r0 : Nat) (r1 : Nat) (x3 : Int32) (M : mm_M) : Option (mm_M) :=
  (fX1_beginWords r0 r1 M).bind fun M1 =>
  (fX1_beginPeople r0 r1 M1).bind fun M2 =>
  (fX1_beginDays r0 r1 x3 M2).bind fun M3 =>
  fX1_run_L20 r0 r1 1000 (0 : Int32) M3
set_option maxRecDepth 100000 in
set_option maxHeartbeats 4000000 in
theorem fX1_run_ok (r0 : Nat) (r1 : Nat) (x3 : Int32) (M : mm_M) (h0 : isCo r0) (h1 : isTo r1) : mm_E LC yX1_run cX1_run 5 none 2 mm_eV [.ref r0, .ref r1, .ref 17, .int x3] M (fX1_run r0 r1 x3 M) := by
  refine mm_E.of (own := RX1) (ls := [some (.ref r0), some (.ref r1), some (.ref 17), some (.int x3), none]) (by decide) rfl rfl (Nat.le_of_ble_eq_true rfl) ?_
  unfold fX1_run
  refine mm_aload_n (q := 1) dX1_run_0 rfl rfl rfl ?_
  refine mm_aload_n (q := 2) dX1_run_1 rfl rfl rfl ?_
  refine mm_callVV (as := [.ref r1]) (st := []) (q := 5) (lc_Co h0) rfl (fX1_beginWords_ok r0 r1 M h0 h1) ms_X1_48 rfl (Nat.le_of_ble_eq_true rfl) (Nat.le_of_ble_eq_true rfl) rfl dX1_run_2 rfl (fun M1 _ => ?_)
  refine mm_aload_n (q := 6) dX1_run_5 rfl rfl rfl ?_
  refine mm_aload_n (q := 7) dX1_run_6 rfl rfl rfl ?_
  refine mm_callVV (as := [.ref r1]) (st := []) (q := 10) (lc_Co h0) rfl (fX1_beginPeople_ok r0 r1 M1 h0 h1) ms_X1_52 rfl (Nat.le_of_ble_eq_true rfl) (Nat.le_of_ble_eq_true rfl) rfl dX1_run_7 rfl (fun M2 _ => ?_)
  refine mm_aload_n (q := 11) dX1_run_10 rfl rfl rfl ?_
  refine mm_aload_n (q := 12) dX1_run_11 rfl rfl rfl ?_
  refine mm_aload_n (q := 13) dX1_run_12 rfl rfl rfl ?_
  refine mm_iload_n (q := 14) dX1_run_13 rfl rfl rfl ?_
  refine mm_callVV (as := [.ref r1, .ref 17, .int x3]) (st := []) (q := 17) (lc_Co h0) rfl (fX1_beginDays_ok r0 r1 x3 M2 h0 h1) ms_X1_55 rfl (Nat.le_of_ble_eq_true rfl) (Nat.le_of_ble_eq_true rfl) rfl dX1_run_14 rfl (fun M3 _ => ?_)
  refine mm_iconst (q := 18) dX1_run_17 rfl ic_0 ?_
  refine mm_istore (q := 20) (ls' := [some (.ref r0), some (.ref r1), some (.ref 17), some (.int x3), some (.int (0 : Int32))]) dX1_run_18 rfl rfl (Nat.le_of_ble_eq_true rfl) rfl ?_
  refine mm_drop (ls' := [some (.ref r0), some (.ref r1), none, none, some (.int (0 : Int32))]) (mm_sub_at _ _ (And.intro rfl (And.intro rfl (And.intro rfl trivial)))) ?_
  exact fX1_run_L20_ok r0 r1 h0 h1 _ _ _
def fX1_saidBehind (r0 : Nat) (x1 : Int32) (x2 : Int32) (M : mm_M) : Option (Int32) :=
  if (fX6_isOutside x1 (24 : Int32)) = 0 then
    (if (fX6_isOutside x2 (8 : Int32)) = 0 then
      ((mm_rd M (r0 + 11) 192 ((x1 * (8 : Int32)) + x2)).bind fun b3 =>
      some b3)
    else
      some (-1 : Int32))
  else
    some (-1 : Int32)
set_option maxRecDepth 100000 in
set_option maxHeartbeats 4000000 in
theorem fX1_saidBehind_ok (r0 : Nat) (x1 : Int32) (x2 : Int32) (M : mm_M) (h0 : isCo r0) : mm_E LC yX1_saidBehind cX1_saidBehind 3 (some .int) 1 (mm_pI M) [.ref r0, .int x1, .int x2] M (fX1_saidBehind r0 x1 x2 M) := by
  refine mm_E.of (own := RX1) (ls := [some (.ref r0), some (.int x1), some (.int x2)]) (by decide) rfl rfl (Nat.le_of_ble_eq_true rfl) ?_
  unfold fX1_saidBehind
  refine mm_iload_n (q := 1) dX1_saidBehind_0 rfl rfl rfl ?_
  refine mm_bipush (q := 3) dX1_saidBehind_1 rfl bp_24 ?_
  refine mm_callSNT (as := [.int x1, .int (24 : Int32)]) (st := []) (q := 6) (fX6_isOutside_ok x1 (24 : Int32) M) ms_X1_142 rfl (Nat.le_of_ble_eq_true rfl) (Nat.le_of_ble_eq_true rfl) rfl dX1_saidBehind_3 rfl ?_
  refine mm_if_ne (q := 9) (tgt := 18) dX1_saidBehind_6 rfl (by decide) (fun c1 => ?_) (fun c1 => ?_)
  · refine mm_iload_n (q := 10) dX1_saidBehind_9 rfl rfl rfl ?_
    refine mm_bipush (q := 12) dX1_saidBehind_10 rfl bp_8 ?_
    refine mm_callSNT (as := [.int x2, .int (8 : Int32)]) (st := []) (q := 15) (fX6_isOutside_ok x2 (8 : Int32) M) ms_X1_142 rfl (Nat.le_of_ble_eq_true rfl) (Nat.le_of_ble_eq_true rfl) rfl dX1_saidBehind_12 rfl ?_
    refine mm_if_eq (q := 18) (tgt := 22) dX1_saidBehind_15 rfl (by decide) (fun c2 => ?_) (fun c2 => ?_)
    · refine mm_aload_n (q := 23) dX1_saidBehind_22 rfl rfl rfl ?_
      refine mm_getR (q := 26) (k1 := (r0 + 11)) dX1_saidBehind_23 rfl (lc_Co h0) fd_X1_42 rfl ?_
      refine mm_iload_n (q := 27) dX1_saidBehind_26 rfl rfl rfl ?_
      refine mm_bipush (q := 29) dX1_saidBehind_27 rfl bp_8 ?_
      refine mm_imul (q := 30) dX1_saidBehind_29 rfl ?_
      refine mm_iload_n (q := 31) dX1_saidBehind_30 rfl rfl rfl ?_
      refine mm_iadd (q := 32) dX1_saidBehind_31 rfl ?_
      refine mm_iald (q := 33) dX1_saidBehind_32 rfl (lc_Co_11 h0) (fun b3 _ => ?_)
      exact mm_iret rfl dX1_saidBehind_33
    · refine mm_iconst (q := 19) dX1_saidBehind_18 rfl ic_m1 ?_
      refine mm_goto (tgt := 33) dX1_saidBehind_19 (by decide) ?_
      exact mm_iret rfl dX1_saidBehind_33
  · refine mm_iconst (q := 19) dX1_saidBehind_18 rfl ic_m1 ?_
    refine mm_goto (tgt := 33) dX1_saidBehind_19 (by decide) ?_
    exact mm_iret rfl dX1_saidBehind_33
def fX1_stepsAround_L6 (r0 : Nat) (x1 : Int32) (M : mm_M)  : Nat → Int32 → Int32 → Option (Int32)
  | 0, _, _ => none
  | n + 1, x2, x3 =>
    if (8 : Int32) < x3 then
      some (-1 : Int32)
    else
      (fX1_oneDebtOn r0 x2 M).bind fun b2 =>
      if ((b2 >>> (x1 &&& 31)) &&& (1 : Int32)) = 0 then
        fX1_stepsAround_L6 r0 x1 M n b2 (x3 + (1 : Int32))
      else
        some x3
set_option maxRecDepth 100000 in
set_option maxHeartbeats 4000000 in
theorem fX1_stepsAround_L6_ok (r0 : Nat) (x1 : Int32) (M : mm_M) (h0 : isCo r0)   : ∀ (n : Nat) (x2 : Int32) (x3 : Int32), mm_C LC cX1_stepsAround 4 RX1 (some .int) 1 (mm_pI M) 6 [some (.ref r0), some (.int x1), some (.int x2), some (.int x3)] [] M (fX1_stepsAround_L6 r0 x1 M n x2 x3) := by
  intro n
  induction n with
  | zero => intro x2 x3; exact mm_none
  | succ n ih =>
    intro x2 x3
    rw [fX1_stepsAround_L6]
    refine mm_iload_n (q := 7) dX1_stepsAround_6 rfl rfl rfl ?_
    refine mm_bipush (q := 9) dX1_stepsAround_7 rfl bp_8 ?_
    refine mm_icmp_gt (q := 12) (tgt := 34) dX1_stepsAround_9 rfl (by decide) (fun c1 => ?_) (fun c1 => ?_)
    · refine mm_iconst (q := 35) dX1_stepsAround_34 rfl ic_m1 ?_
      exact mm_iret rfl dX1_stepsAround_35
    · refine mm_aload_n (q := 13) dX1_stepsAround_12 rfl rfl rfl ?_
      refine mm_iload_n (q := 14) dX1_stepsAround_13 rfl rfl rfl ?_
      refine mm_callVP (as := [.int x2]) (st := []) (q := 17) (lc_Co h0) rfl (fX1_oneDebtOn_ok r0 x2 M h0) ms_X1_159 rfl (Nat.le_of_ble_eq_true rfl) (Nat.le_of_ble_eq_true rfl) rfl dX1_stepsAround_14 rfl (fun b2 _ => ?_)
      refine mm_istore_n (q := 18) (ls' := [some (.ref r0), some (.int x1), some (.int b2), some (.int x3)]) dX1_stepsAround_17 rfl rfl rfl (Nat.le_of_ble_eq_true rfl) rfl ?_
      refine mm_iload_n (q := 19) dX1_stepsAround_18 rfl rfl rfl ?_
      refine mm_iload_n (q := 20) dX1_stepsAround_19 rfl rfl rfl ?_
      refine mm_ishr (q := 21) dX1_stepsAround_20 rfl ?_
      refine mm_iconst (q := 22) dX1_stepsAround_21 rfl ic_1 ?_
      refine mm_iand (q := 23) dX1_stepsAround_22 rfl ?_
      refine mm_if_eq (q := 26) (tgt := 28) dX1_stepsAround_23 rfl (by decide) (fun c3 => ?_) (fun c3 => ?_)
      · refine mm_iinc (q := 31) (ls' := [some (.ref r0), some (.int x1), some (.int b2), some (.int (x3 + (1 : Int32)))]) dX1_stepsAround_28 rfl rfl (ii_1 _) rfl (Nat.le_of_ble_eq_true rfl) rfl ?_
        refine mm_goto (tgt := 6) dX1_stepsAround_31 (by decide) ?_
        exact ih _ _
      · refine mm_iload_n (q := 27) dX1_stepsAround_26 rfl rfl rfl ?_
        exact mm_iret rfl dX1_stepsAround_27
def fX1_stepsAround (r0 : Nat) (x1 : Int32) (M : mm_M) : Option (Int32) :=
  fX1_stepsAround_L6 r0 x1 M 1000 ((1 : Int32) <<< (x1 &&& 31)) (1 : Int32)
set_option maxRecDepth 100000 in
set_option maxHeartbeats 4000000 in
theorem fX1_stepsAround_ok (r0 : Nat) (x1 : Int32) (M : mm_M) (h0 : isCo r0) : mm_E LC yX1_stepsAround cX1_stepsAround 4 (some .int) 1 (mm_pI M) [.ref r0, .int x1] M (fX1_stepsAround r0 x1 M) := by
  refine mm_E.of (own := RX1) (ls := [some (.ref r0), some (.int x1), none, none]) (by decide) rfl rfl (Nat.le_of_ble_eq_true rfl) ?_
  unfold fX1_stepsAround
  refine mm_iconst (q := 1) dX1_stepsAround_0 rfl ic_1 ?_
  refine mm_iload_n (q := 2) dX1_stepsAround_1 rfl rfl rfl ?_
  refine mm_ishl (q := 3) dX1_stepsAround_2 rfl ?_
  refine mm_istore_n (q := 4) (ls' := [some (.ref r0), some (.int x1), some (.int ((1 : Int32) <<< (x1 &&& 31))), none]) dX1_stepsAround_3 rfl rfl rfl (Nat.le_of_ble_eq_true rfl) rfl ?_
  refine mm_iconst (q := 5) dX1_stepsAround_4 rfl ic_1 ?_
  refine mm_istore_n (q := 6) (ls' := [some (.ref r0), some (.int x1), some (.int ((1 : Int32) <<< (x1 &&& 31))), some (.int (1 : Int32))]) dX1_stepsAround_5 rfl rfl rfl (Nat.le_of_ble_eq_true rfl) rfl ?_
  exact fX1_stepsAround_L6_ok r0 x1 M h0 _ _ _
def fX1_wordsThatAre_L4 (r0 : Nat) (x1 : Int32) (M : mm_M)  : Nat → Int32 → Int32 → Option (Int32)
  | 0, _, _ => none
  | n + 1, x2, x3 =>
    if (M r0 0) ≤ x3 then
      some x2
    else
      (fX1_stateBehind r0 (23 : Int32) x3 M).bind fun b2 =>
      fX1_wordsThatAre_L4 r0 x1 M n (if b2 = x1 then x2 + (1 : Int32) else x2) (x3 + (1 : Int32))
set_option maxRecDepth 100000 in
set_option maxHeartbeats 4000000 in
theorem fX1_wordsThatAre_L4_ok (r0 : Nat) (x1 : Int32) (M : mm_M) (h0 : isCo r0)   : ∀ (n : Nat) (x2 : Int32) (x3 : Int32), mm_C LC cX1_wordsThatAre 4 RX1 (some .int) 2 (mm_pI M) 4 [some (.ref r0), some (.int x1), some (.int x2), some (.int x3)] [] M (fX1_wordsThatAre_L4 r0 x1 M n x2 x3) := by
  intro n
  induction n with
  | zero => intro x2 x3; exact mm_none
  | succ n ih =>
    intro x2 x3
    rw [fX1_wordsThatAre_L4]
    refine mm_iload_n (q := 5) dX1_wordsThatAre_4 rfl rfl rfl ?_
    refine mm_aload_n (q := 6) dX1_wordsThatAre_5 rfl rfl rfl ?_
    refine mm_getI (q := 9) dX1_wordsThatAre_6 rfl (lc_Co h0) fd_X1_69 rfl ?_
    refine mm_icmp_ge (q := 12) (tgt := 32) dX1_wordsThatAre_9 rfl (by decide) (fun c1 => ?_) (fun c1 => ?_)
    · refine mm_iload_n (q := 33) dX1_wordsThatAre_32 rfl rfl rfl ?_
      exact mm_iret rfl dX1_wordsThatAre_33
    · refine mm_aload_n (q := 13) dX1_wordsThatAre_12 rfl rfl rfl ?_
      refine mm_bipush (q := 15) dX1_wordsThatAre_13 rfl bp_23 ?_
      refine mm_iload_n (q := 16) dX1_wordsThatAre_15 rfl rfl rfl ?_
      refine mm_callVP (as := [.int (23 : Int32), .int x3]) (st := []) (q := 19) (lc_Co h0) rfl (fX1_stateBehind_ok r0 (23 : Int32) x3 M h0) ms_X1_145 rfl (Nat.le_of_ble_eq_true rfl) (Nat.le_of_ble_eq_true rfl) rfl dX1_wordsThatAre_16 rfl (fun b2 _ => ?_)
      refine mm_iload_n (q := 20) dX1_wordsThatAre_19 rfl rfl rfl ?_
      by_cases c3 : b2 = x1
      · simp only [if_pos c3]
        refine mm_icmp_ne_t (q := 23) (tgt := 26) c3 dX1_wordsThatAre_20 rfl (by decide) ?_
        refine mm_iinc (q := 26) (ls' := [some (.ref r0), some (.int x1), some (.int (x2 + (1 : Int32))), some (.int x3)]) dX1_wordsThatAre_23 rfl rfl (ii_1 _) rfl (Nat.le_of_ble_eq_true rfl) rfl ?_
        refine mm_iinc (q := 29) (ls' := [some (.ref r0), some (.int x1), some (.int (x2 + (1 : Int32))), some (.int (x3 + (1 : Int32)))]) dX1_wordsThatAre_26 rfl rfl (ii_1 _) rfl (Nat.le_of_ble_eq_true rfl) rfl ?_
        refine mm_goto (tgt := 4) dX1_wordsThatAre_29 (by decide) ?_
        exact ih _ _
      · simp only [if_neg c3]
        refine mm_icmp_ne_f (tgt := 26) c3 dX1_wordsThatAre_20 (by decide) ?_
        refine mm_iinc (q := 29) (ls' := [some (.ref r0), some (.int x1), some (.int x2), some (.int (x3 + (1 : Int32)))]) dX1_wordsThatAre_26 rfl rfl (ii_1 _) rfl (Nat.le_of_ble_eq_true rfl) rfl ?_
        refine mm_goto (tgt := 4) dX1_wordsThatAre_29 (by decide) ?_
        exact ih _ _
def fX1_wordsThatAre (r0 : Nat) (x1 : Int32) (M : mm_M) : Option (Int32) :=
  fX1_wordsThatAre_L4 r0 x1 M 1000 (0 : Int32) (0 : Int32)
set_option maxRecDepth 100000 in
set_option maxHeartbeats 4000000 in
theorem fX1_wordsThatAre_ok (r0 : Nat) (x1 : Int32) (M : mm_M) (h0 : isCo r0) : mm_E LC yX1_wordsThatAre cX1_wordsThatAre 4 (some .int) 2 (mm_pI M) [.ref r0, .int x1] M (fX1_wordsThatAre r0 x1 M) := by
  refine mm_E.of (own := RX1) (ls := [some (.ref r0), some (.int x1), none, none]) (by decide) rfl rfl (Nat.le_of_ble_eq_true rfl) ?_
  unfold fX1_wordsThatAre
  refine mm_iconst (q := 1) dX1_wordsThatAre_0 rfl ic_0 ?_
  refine mm_istore_n (q := 2) (ls' := [some (.ref r0), some (.int x1), some (.int (0 : Int32)), none]) dX1_wordsThatAre_1 rfl rfl rfl (Nat.le_of_ble_eq_true rfl) rfl ?_
  refine mm_iconst (q := 3) dX1_wordsThatAre_2 rfl ic_0 ?_
  refine mm_istore_n (q := 4) (ls' := [some (.ref r0), some (.int x1), some (.int (0 : Int32)), some (.int (0 : Int32))]) dX1_wordsThatAre_3 rfl rfl rfl (Nat.le_of_ble_eq_true rfl) rfl ?_
  exact fX1_wordsThatAre_L4_ok r0 x1 M h0 _ _ _
