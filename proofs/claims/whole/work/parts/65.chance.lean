/-! chance: the reference's half -/
theorem wt_L {c s ne q : Nat} {x2 x3 : Int32} {x4 : Int64} {N : mm_M} (hc : c ≤ 16) (hne : ne ≤ 8) (h13 : N 0 13 = nI ne) (k : Int64 → Option (Int64 × mm_M)) : ∀ f i n, i + f = ne → f < n → fX7_chanceOf_L47 (nI c) x2 x3 x4 (nI s) N k n (lN (q * (c ^ (i - pc_n s i) * (16 - c) ^ pc_n s i))) (nI i) = k (lN (q * (c ^ (ne - pc_n s ne) * (16 - c) ^ pc_n s ne)))
  | 0, i, n + 1, hi, hn => by rw [fX7_chanceOf_L47, h13, if_pos (by rw [nI_leI (by omega) (by omega)]; omega), show i = ne by omega]
  | f + 1, i, n + 1, hi, hn => by
    have ih := wt_L (s := s) (q := q) (x2 := x2) (x3 := x3) (x4 := x4) hc hne h13 k f (i + 1) n (by omega) (by omega)
    have hp := pc_le s i
    rw [fX7_chanceOf_L47, h13, if_neg (by rw [nI_leI (by omega) (by omega)]; omega), q_isIn (by omega), q_if10, q_lit 16, pk_sub hc, nI_l (by omega), nI_l (by omega), lN_mul, lN_mul, nI_1, ← ih, pc_n]
    by_cases b : bt (nI s) i = true
    · rw [if_pos b, if_pos b, show i + 1 - (pc_n s i + 1) = i - pc_n s i by omega, Nat.pow_succ, Nat.mul_assoc, Nat.mul_assoc]
    · rw [if_neg b, if_neg b, show pc_n s i + 0 = pc_n s i from rfl, show i + 1 - pc_n s i = (i - pc_n s i) + 1 by omega, Nat.pow_succ, Nat.mul_assoc, Nat.mul_assoc, Nat.mul_assoc, Nat.mul_comm ((16 - c) ^ pc_n s i) c]
theorem rc_L {S : md_T} {N0 : mm_M} {c w : Nat} {x3 : Int32} (ho : st_o S) (hn : RN S N0) (hc : c ≤ 16) (hw : w < pa_T S 0 3) (k : Int64 → mm_M → Option (Int64 × mm_M)) : ∀ f s n (N : mm_M), s + f = 2 ^ S 4 0 → f < n → RX S (pa_T S) N0 N → ∃ N', fX7_chanceOf_L6 (nI c) (nI w) x3 k n (lN (sm_s (ch_h2 S w c) s)) (nI s) N = k (lN (sm_s (ch_h2 S w c) (2 ^ S 4 0))) N' ∧ RX S (pa_T S) N0 N'
  | 0, s, n + 1, N, hs, hf, h => by
    have o4 := ho.2.1
    have p := pc_2 (show S 4 0 < 9 by omega)
    exact ⟨N, by rw [fX7_chanceOf_L6, h.2.2 13 (by omega), hn.2.1.1, pc_all _ (by omega), if_pos (by rw [nI_leI (by omega) (by omega)]; omega), show s = 2 ^ S 4 0 by omega], h⟩
  | f + 1, s, n + 1, N, hs, hf, h => by
    have o4 := ho.2.1
    have o1 := (st_ok ho).2.1
    have p := pc_2 (show S 4 0 < 9 by omega)
    have e13 := h.2.2 13 (by omega)
    have hh := h
    obtain ⟨h1, h2, h3⟩ := h
    have ne : NE S (mm_wr N 0 15 (nI s)) := NE.k (N := N0) (by rw [q_wr_n2 (by decide), h3 13 (by omega)]) (by rw [q_wr_ne (by decide), h2 10 (by omega)]) hn.2.1
    obtain ⟨N2, e1, e2, e3⟩ := rx_runs ho (st_ok ho) h1.g ne
    rw [q_wr_eq] at e3
    have rx : RX S (pa_T S) N0 N2 := ⟨e3.2.1, fun q hq => by rw [e2 q (by omega), q_wr_ne (by omega)]; exact h2 q hq, fun j hj => by rw [e2 0 (by omega), q_wr_n2 hj]; exact h3 j hj⟩
    have b4 := ((md_tr_ok (E := st_E S (fun i => !(bt (nI s) i))) (st_ok ho) 24).1 w hw).1
    have est := (e3.2.2.1.1 w hw).1
    have i13 : N2 0 13 = nI (S 4 0) := by rw [rx.2.2 13 (by omega)]; exact hn.2.1.1
    obtain ⟨N3, g1, g2⟩ := rc_L (c := c) (w := w) (x3 := x3) ho hn hc hw k f (s + 1) n N2 (by omega) (by omega) rx
    refine ⟨N3, ?_, g2⟩
    have w1 := wt_L (s := s) (q := 1) (x2 := nI w) (x3 := x3) (x4 := lN (sm_s (ch_h2 S w c) s)) (N := N2) hc o4 i13 (fun z => fX7_chanceOf_L6 (nI c) (nI w) x3 k n (lN (sm_s (ch_h2 S w c) s) + z) (nI s + 1) N2) (S 4 0) 0 1000 (by omega) (by omega)
    have w0 := wt_L (s := s) (q := 0) (x2 := nI w) (x3 := x3) (x4 := lN (sm_s (ch_h2 S w c) s)) (N := N2) hc o4 i13 (fun z => fX7_chanceOf_L6 (nI c) (nI w) x3 k n (lN (sm_s (ch_h2 S w c) s) + z) (nI s + 1) N2) (S 4 0) 0 1000 (by omega) (by omega)
    rw [Nat.one_mul] at w1
    rw [Nat.zero_mul, Nat.zero_mul] at w0
    have z1 : lN (1 * (c ^ (0 - pc_n s 0) * (16 - c) ^ pc_n s 0)) = 1 := by rw [pc_n]; simp; rfl
    rw [Nat.one_mul] at z1
    rw [z1] at w1
    rw [fX7_chanceOf_L6, e13, hn.2.1.1, pc_all _ (by omega), if_neg (by rw [nI_leI (by omega) (by omega)]; omega), q_pf, Option.bind_some, e1, Option.bind_some, q_rd (by omega) (by omega), Option.bind_some, est]
    rw [sm_s] at g1
    by_cases cc : md_tr (pa_T S) (st_E S (fun i => !(bt (nI s) i))) 24 1 w = 1
    · rw [if_pos (by rw [cc]; rfl)]
      have w1 : fX7_chanceOf_L47 (nI c) (nI w) x3 (lN (sm_s (ch_h2 S w c) s)) (nI s) N2 (fun z => fX7_chanceOf_L6 (nI c) (nI w) x3 k n (lN (sm_s (ch_h2 S w c) s) + z) (nI s + 1) N2) 1000 1 0 = _ := w1
      rw [w1, lN_add, nI_1, ← g1]
      congr 3
      unfold ch_h2
      rw [if_pos cc, Nat.one_mul]
    · rw [if_neg (by rw [q_lit 1, nI_eq (by omega) (by omega)]; exact cc)]
      have w0 : fX7_chanceOf_L47 (nI c) (nI w) x3 (lN (sm_s (ch_h2 S w c) s)) (nI s) N2 (fun z => fX7_chanceOf_L6 (nI c) (nI w) x3 k n (lN (sm_s (ch_h2 S w c) s) + z) (nI s + 1) N2) 1000 0 0 = _ := w0
      rw [w0, lN_add, nI_1, ← g1]
      congr 3
      unfold ch_h2
      rw [if_neg cc]
theorem rq_chance {S : md_T} {N : mm_M} (ho : st_o S) (h : RQ S N) {c w z : Nat} (hc : c ≤ 16) (hw : w < pa_T S 0 3) (hz : z < 2) : ∃ N', fX7_chanceOf (nI c) (nI w) (nI z) N = some (lN (ch_r (sm_s (ch_h S w c) (2 ^ S 4 0)) (2 ^ (4 * S 4 0)) z), N') ∧ RW N N' ∧ RQ S N' := by
  have o4 := ho.2.1
  have p := pc_2 (show S 4 0 < 9 by omega)
  obtain ⟨hn, hT⟩ := h
  obtain ⟨N1, e1, e2, e3, e4⟩ := rc_L (c := c) (w := w) (x3 := nI z) ho hn hc hw (fun z10 M11 => (mm_pf M11 0 15 (0 : Int32)).bind fun M12 => (fX7_part z10 ((1 : Int64) <<< ((((4 : Int32) * (M12 0 13))).toInt64 &&& 63)) (nI z)).bind fun b13 => some (b13, M12)) (2 ^ S 4 0) 0 1000 N (by omega) (by omega) ⟨hT, fun _ _ => rfl, fun _ _ => rfl⟩
  have wr : RW N (mm_wr N1 0 15 0) := ⟨fun q hq => by rw [q_wr_ne (by omega)]; exact e3 q (by omega), fun j hj => by
    by_cases c : j = 15
    · rw [c, q_wr_eq, hn.2.2.2.1]; rfl
    · rw [q_wr_n2 c]; exact e4 j c⟩
  refine ⟨_, ?_, wr, hn.keep wr, e2.g⟩
  unfold fX7_chanceOf
  have e1 : fX7_chanceOf_L6 (nI c) (nI w) (nI z) _ 1000 0 0 N = _ := e1
  have b := ch_le (w := w) ho hc
  have b2 : 2 ^ (4 * S 4 0) ≤ 2 ^ 32 := Nat.pow_le_pow_right (by decide) (by omega)
  rw [e1, q_pf, Option.bind_some, q_wr_n2 (by decide), e4 13 (by decide), hn.2.1.1, q_lit 4, pk_mul, pc_long _ (by omega), ch_rev ho, eu_part hz (by omega) (by omega) (Nat.pow_pos (by decide)), Option.bind_some]
theorem op_chance {M N : mm_M} (h : Rel M N) (x y z : Int32) : AG (fX6_chance x y z M) (fX7_chance x y z N) := by
  obtain ⟨S, ho, hc, hn, hk, hx⟩ := h
  obtain ⟨N1, f1, f2, f3⟩ := rl_find ho hn
  have o2 := (st_ok ho).2.1
  have en : fX7_no (-2 : Int32) = -9223372036854775806 := by decide
  have bad : AG (some ((-9223372036854775806 : Int64), M)) (some (-9223372036854775806, N1)) := ag_of ho hn hx (cr_rf hc hk) (nr_of f2)
  have ein : fX7_in x.toInt64 0 16 = if (0 ≤ x.toInt ∧ x.toInt < ((17 : Nat) : Int)) then 1 else 0 := by
    rw [q_in, show (0 : Int64).toInt = 0 by decide, show (16 : Int64).toInt = 16 by decide]
    exact q_ifc ⟨fun q => ⟨q.1, by have := q.2; omega⟩, fun q => ⟨q.1, by have := q.2; omega⟩⟩
  by_cases c : (0 ≤ x.toInt ∧ x.toInt < ((17 : Nat) : Int)) ∧ (0 ≤ y.toInt ∧ y.toInt < ((pa_T S 0 3 : Nat) : Int)) ∧ (0 ≤ z.toInt ∧ z.toInt < ((2 : Nat) : Int))
  · obtain ⟨c1, c2, c3⟩ := c
    rw [if_pos c1] at ein
    obtain ⟨d, hd, rfl⟩ := q_of c1.1 c1.2 (by omega)
    obtain ⟨w, hw, rfl⟩ := q_of c2.1 c2.2 (by omega)
    obtain ⟨v, hv, rfl⟩ := q_of c3.1 c3.2 (by omega)
    obtain ⟨N2, g1, g2, g3⟩ := rq_chance ho f3.1 (show d ≤ 16 by omega) hw hv
    refine ag_of ho hn hx (cr_chance ho hc hk (show d ≤ 16 by omega) hw hv) ⟨N2, ?_, f2.tr g2⟩
    unfold fX7_chance
    rw [f1, Option.bind_some, ein, q_isWord f3.1.2.2.1 (by omega), q_isTwo]
    simp only [Option.bind_some, q_if10, if_pos c2, if_pos c3, if_neg q_10, g1]
  · unfold fX6_chance fX7_chance
    rw [f1, Option.bind_some, ein, en, q_isWord f3.1.2.2.1 (by omega), q_isTwo, hc.2.1.2.1, q_lit 17, q_lit 2, q_isOutside (by omega), q_isOutside (by omega), q_isOutside (by omega)]
    simp only [Option.bind_some, q_if10, q_if01]
    refine ag_if (fun c1 => ag_if (fun c2 => ag_if (fun c3 => absurd ⟨c1, c2, c3⟩ c) (fun _ => bad)) (fun _ => bad)) (fun _ => bad)
