theorem q_lot {N : mm_M} {s : Int32} {p : Nat} (h : N 0 30 = s) (h0 : 0 < p) (hp : p < 2 ^ 31) : fX7_lot (nI p) N = some (nI (lv_u (fX5_nextSeed s) % p), mm_wr N 0 30 (fX5_nextSeed s)) := by
  have u := lv_u_lt (fX5_nextSeed s)
  unfold fX7_lot
  rw [q_pf, Option.bind_some, q_wr_eq, h, show (1103515245 : Int32) * s + 12345 = fX5_nextSeed s from rfl, lv_u_eq, q_rm (by omega) hp h0, Option.bind_some]
theorem ln_L {x x3 : Int32} {T : md_T} {m : Nat} (k : mm_M → Option (Int32 × mm_M)) (hm : m ≤ 12) (h8 : T 0 0 ≤ 8) (h0 : 0 < T 0 0) : ∀ f i n (N : mm_M), i + f = m → f < n → N 0 7 = nI (T 0 0) → N 0 30 = lv_s x i → N 0 11 = nI i → ∃ N', fX7_livesOf_L13 (nI m) x3 k n (nI i) N = k N' ∧ (∀ q, q ≠ 0 → q ≠ 9 → N' q = N q) ∧ (∀ j, j ≠ 30 → j ≠ 11 → N' 0 j = N 0 j) ∧ N' 0 11 = nI m ∧ (∀ j, j < 3 * i → N' 9 j = N 9 j) ∧ ∀ j, i ≤ j → j < m → N' 9 (3 * j) = nI (lv_T T x m 6 j) ∧ N' 9 (3 * j + 1) = nI (lv_T T x m 7 j) ∧ N' 9 (3 * j + 2) = nI (lv_T T x m 8 j)
  | 0, i, n + 1, N, hi, hn, a7, a30, a11 => ⟨N, by rw [fX7_livesOf_L13, if_pos (by rw [nI_leI (by omega) (by omega)]; omega)], fun _ _ _ => rfl, fun _ _ _ => rfl, by rw [a11, show i = m by omega], fun _ _ => rfl, fun j a b => by omega⟩
  | f + 1, i, n + 1, N, hi, hn, a7, a30, a11 => by
    have g1 := q_lot (p := 24) a30 (by omega) (by omega)
    have g2 := q_lot (N := mm_wr (mm_wr N 0 30 (fX5_nextSeed (lv_s x i))) 9 (3 * i) (nI (lv_T T x m 6 i))) (s := fX5_nextSeed (lv_s x i)) (p := T 0 0) (by rw [q_wr_ne (by decide), q_wr_eq]) h0 (by omega)
    have g3 := q_lot (N := mm_wr (mm_wr (mm_wr (mm_wr N 0 30 (fX5_nextSeed (lv_s x i))) 9 (3 * i) (nI (lv_T T x m 6 i))) 0 30 (fX5_nextSeed (fX5_nextSeed (lv_s x i)))) 9 (3 * i + 1) (nI (lv_T T x m 7 i))) (s := fX5_nextSeed (fX5_nextSeed (lv_s x i))) (p := T 0 0) (by rw [q_wr_ne (by decide), q_wr_eq]) h0 (by omega)
    obtain ⟨N', e1, e2, e3, e4, e5, e6⟩ := ln_L (x := x) (x3 := x3) k hm h8 h0 f (i + 1) n (mm_wr (mm_wr (mm_wr (mm_wr (mm_wr (mm_wr (mm_wr N 0 30 (fX5_nextSeed (lv_s x i))) 9 (3 * i) (nI (lv_T T x m 6 i))) 0 30 (fX5_nextSeed (fX5_nextSeed (lv_s x i)))) 9 (3 * i + 1) (nI (lv_T T x m 7 i))) 0 30 (fX5_nextSeed (fX5_nextSeed (fX5_nextSeed (lv_s x i))))) 9 (3 * i + 2) (nI (lv_T T x m 8 i))) 0 11 (nI (i + 1))) (by omega) (by omega) (by simp (disch := omega) only [q_wr_ne, q_wr_n2]; exact a7) (by simp (disch := omega) only [q_wr_ne, q_wr_n2, q_wr_eq]; rfl) q_wr_eq
    refine ⟨N', ?_, fun q a b => ?_, fun j a b => ?_, e4, fun j hj => ?_, fun j a b => ?_⟩
    · rw [fX7_livesOf_L13, if_neg (by rw [nI_leI (by omega) (by omega)]; omega), a7, if_neg (nI_nle h0 (by omega)), q_lit 24, g1, Option.bind_some]
      simp only [q_lit 3, pk_mul]
      rw [q_wa (by omega) (by omega), Option.bind_some]
      rw [show mm_wr (mm_wr N 0 30 (fX5_nextSeed (lv_s x i))) 9 (3 * i) (nI (lv_u (fX5_nextSeed (lv_s x i)) % 24)) 0 7 = nI (T 0 0) by rw [q_wr_ne (by decide), q_wr_n2 (by decide)]; exact a7]
      rw [show fX7_lot (nI (T 0 0)) (mm_wr (mm_wr N 0 30 (fX5_nextSeed (lv_s x i))) 9 (3 * i) (nI (lv_u (fX5_nextSeed (lv_s x i)) % 24))) = _ from g2, Option.bind_some, nI_1, q_wa (by omega) (by omega), Option.bind_some]
      rw [show mm_wr (mm_wr (mm_wr (mm_wr N 0 30 (fX5_nextSeed (lv_s x i))) 9 (3 * i) (nI (lv_T T x m 6 i))) 0 30 (fX5_nextSeed (fX5_nextSeed (lv_s x i)))) 9 (3 * i + 1) (nI (lv_u (fX5_nextSeed (fX5_nextSeed (lv_s x i))) % T 0 0)) 0 7 = nI (T 0 0) by simp (disch := omega) only [q_wr_ne, q_wr_n2]; exact a7]
      rw [show fX7_lot (nI (T 0 0)) (mm_wr (mm_wr (mm_wr (mm_wr N 0 30 (fX5_nextSeed (lv_s x i))) 9 (3 * i) (nI (lv_T T x m 6 i))) 0 30 (fX5_nextSeed (fX5_nextSeed (lv_s x i)))) 9 (3 * i + 1) (nI (lv_u (fX5_nextSeed (fX5_nextSeed (lv_s x i))) % T 0 0))) = _ from g3, Option.bind_some, q_lit 2, nI_add, q_wa (by omega) (by omega), Option.bind_some]
      simp (disch := omega) only [q_wr_ne, q_wr_n2, a11, nI_1, q_pf, Option.bind_some]
      exact e1
    · rw [e2 q a b]
      simp (disch := omega) only [q_wr_ne]
    · rw [e3 j a b]
      simp (disch := omega) only [q_wr_ne, q_wr_n2]
    · rw [e5 j (by omega)]
      simp (disch := omega) only [q_wr_ne, q_wr_n2]
    · by_cases c : j = i
      · subst c
        rw [e5 (3 * j) (by omega), e5 (3 * j + 1) (by omega), e5 (3 * j + 2) (by omega)]
        simp (disch := omega) only [q_wr_ne, q_wr_n2, q_wr_eq, and_self]
      · exact e6 j (by omega) b
theorem rr_T_mt {S T : md_T} {N N3 : mm_M} (ho : st_o S) (hT : T 0 0 = pa_T S 0 0 ∧ T 0 3 = pa_T S 0 3 ∧ ∀ o, 1 ≤ o → o ≤ 5 → T o = pa_T S o) (h : rr_T T N) (c2 : ∀ q, q ≠ 0 → q ≠ 9 → N3 q = N q) (c3 : ∀ j, j ≠ 11 → N3 0 j = N 0 j) (c4 : N3 0 11 = nI (pa_n S 2)) (c5 : ∀ j, j / 4 < pa_n S 2 → j % 4 < 3 → N3 9 (3 * (j / 4) + j % 4) = nI (pa_x S 2 j)) (h16 : N3 0 16 = -1) : rr_T (pa_T S) N3 := by
  obtain ⟨t0, t3, to⟩ := hT
  obtain ⟨a, b, c, d, -⟩ := h
  refine ⟨by rw [c3 7 (by omega), ← t0]; exact a, by rw [c3 9 (by omega), ← t3]; exact b, fun k hk => ?_, fun w hw => ?_, pa_n S 2, pa_n2_le ho, c4, fun i hi => ?_, Or.inl ⟨rfl, h16⟩⟩
  · rw [c2 7 (by omega) (by omega), ← to 1 (by omega) (by omega), ← to 2 (by omega) (by omega)]
    exact c k (by rw [t0]; exact hk)
  · rw [c2 8 (by omega) (by omega), ← to 3 (by omega) (by omega), ← to 4 (by omega) (by omega), ← to 5 (by omega) (by omega)]
    exact d w (by rw [t3]; exact hw)
  · have g1 := c5 (4 * i) (by omega) (by omega)
    have g2 := c5 (4 * i + 1) (by omega) (by omega)
    have g3 := c5 (4 * i + 2) (by omega) (by omega)
    rw [show 3 * (4 * i / 4) + 4 * i % 4 = 3 * i by omega] at g1
    rw [show 3 * ((4 * i + 1) / 4) + (4 * i + 1) % 4 = 3 * i + 1 by omega] at g2
    rw [show 3 * ((4 * i + 2) / 4) + (4 * i + 2) % 4 = 3 * i + 2 by omega] at g3
    exact ⟨g1, g2, g3⟩
theorem rq_lives {S : md_T} {N : mm_M} (ho : st_o S) (h : RQ S N) (x : Int32) {m z : Nat} (hm : m < 13) (hz : z < 2) : ∃ N', fX7_livesOf x (nI m) (nI z) N = some (mq_lives S x m z, N') ∧ RW N N' ∧ RQ S N' := by
  have ok := st_ok ho
  have o1 := ok.1
  obtain ⟨hn, hT⟩ := h
  obtain ⟨n1, n2⟩ := lv_n_ok (S := S) (show m ≤ 12 by omega)
  have draw : ∃ N1, fX7_livesOf x (nI m) (nI z) N = fX7_livesOf_J95 (nI z) N1 ∧ (∀ q, q ≠ 0 → q ≠ 9 → N1 q = N q) ∧ (∀ j, j ≠ 30 → j ≠ 11 → N1 0 j = N 0 j) ∧ rr_T (lv_T (pa_T S) x (lv_n S m)) N1 := by
    unfold fX7_livesOf lv_n
    rw [q_pf, Option.bind_some, q_pf, Option.bind_some, q_lit 0]
    by_cases c : pa_T S 0 0 = 0
    · refine ⟨mm_wr (mm_wr N 0 30 x) 0 11 (nI 0), ?_, fun q a b => by rw [q_wr_ne a, q_wr_ne a], fun j a b => by rw [q_wr_n2 b, q_wr_n2 a], ?_⟩
      · rw [fX7_livesOf_L13, q_wr_n2 (by decide), q_wr_n2 (by decide), hT.1, c]
        by_cases c1 : nI m ≤ nI 0
        · rw [if_pos c1]
        · rw [if_neg c1, if_pos (by decide)]
      · rw [if_pos c]
        refine ⟨by rw [q_wr_n2 (by decide), q_wr_n2 (by decide)]; exact hT.1, by rw [q_wr_n2 (by decide), q_wr_n2 (by decide)]; exact hT.2.1, fun k hk => ?_, fun w hw => ?_, 0, by omega, q_wr_eq, fun i hi => by omega, Or.inl ⟨rfl, by rw [q_wr_n2 (by decide), q_wr_n2 (by decide)]; exact hn.2.2.2.2⟩⟩
        · simp (disch := omega) only [q_wr_ne]; exact hT.2.2.1 k hk
        · simp (disch := omega) only [q_wr_ne]; exact hT.2.2.2.1 w hw
    · obtain ⟨N', e1, e2, e3, e4, e5, e6⟩ := ln_L (x := x) (x3 := nI z) (T := pa_T S) (fun M12 => fX7_livesOf_J95 (nI z) M12) (show m ≤ 12 by omega) o1 (by omega) m 0 1000 (mm_wr (mm_wr N 0 30 x) 0 11 (nI 0)) (by omega) (by omega) (by rw [q_wr_n2 (by decide), q_wr_n2 (by decide)]; exact hT.1) (by rw [q_wr_n2 (by decide), q_wr_eq]; rfl) q_wr_eq
      refine ⟨N', e1, fun q a b => by rw [e2 q a b, q_wr_ne a, q_wr_ne a], fun j a b => by rw [e3 j a b, q_wr_n2 b, q_wr_n2 a], ?_⟩
      rw [if_neg c]
      refine ⟨by rw [e3 7 (by decide) (by decide), q_wr_n2 (by decide), q_wr_n2 (by decide)]; exact hT.1, by rw [e3 9 (by decide) (by decide), q_wr_n2 (by decide), q_wr_n2 (by decide)]; exact hT.2.1, fun k hk => ?_, fun w hw => ?_, m, by omega, e4, fun i hi => e6 i (by omega) hi, Or.inl ⟨rfl, by rw [e3 16 (by decide) (by decide), q_wr_n2 (by decide), q_wr_n2 (by decide)]; exact hn.2.2.2.2⟩⟩
      · rw [e2 7 (by decide) (by decide)]; simp (disch := omega) only [q_wr_ne]; exact hT.2.2.1 k hk
      · rw [e2 8 (by decide) (by decide)]; simp (disch := omega) only [q_wr_ne]; exact hT.2.2.2.1 w hw
  obtain ⟨N1, d1, d2, d3, d4⟩ := draw
  have ne : NE S N1 := NE.k (N := N) (d3 13 (by omega) (by omega)) (d2 10 (by omega) (by omega)) hn.2.1
  obtain ⟨N2, e1, e2, e3⟩ := rx_runs ho (lv_ok ok n1 n2) d4 ne
  have w2 : RW N N2 := ⟨fun q hq => by rw [e2 q (by omega), d2 q (by omega) (by omega)], fun j hj => by rw [e2 0 (by omega), d3 j (by omega) (by omega)]⟩
  have eA : st_E S (fun i => !(bt (N1 0 15) i)) = st_A S := by rw [d3 15 (by omega) (by omega)]; exact ni_A hn
  rw [eA] at e3
  have hn2 := hn.keep w2
  obtain ⟨N3, c1, c2, c3, c4, c5⟩ := pr_Meetings (st_tx ho hn2)
  have w3 : RW N2 N3 := ⟨fun q hq => c2 q (by omega) (by omega), fun j hj => c3 j (by omega)⟩
  have hn3 := hn2.keep w3
  have s3 : rr_s (lv_T (pa_T S) x (lv_n S m)) (md_tr (lv_T (pa_T S) x (lv_n S m)) (st_A S) 24) N3 := by
    have := e3.2.2.1
    unfold rr_s at this ⊢
    rw [c2 11 (by omega) (by omega), c2 12 (by omega) (by omega), c2 13 (by omega) (by omega), c2 14 (by omega) (by omega)]
    exact this
  refine ⟨N3, ?_, w2.tr w3, hn3, rr_T_mt (T := lv_T (pa_T S) x (lv_n S m)) ho ⟨rfl, rfl, fun o a b => ?_⟩ e3.2.1 c2 c3 c4 c5 hn3.2.2.2.2⟩
  · rw [d1]
    unfold fX7_livesOf_J95 mq_lives
    have n9 : N3 0 9 = nI (lv_T (pa_T S) x (lv_n S m) 0 3) := by rw [c3 9 (by omega)]; exact e3.2.1.2.1
    rw [e1, Option.bind_some, c1, Option.bind_some, q_lit 1, q_lit 3, rq_many e3.1 n9 s3 (by omega), rq_many e3.1 n9 s3 (by omega)]
    simp only [Option.bind_some]
    rcases q_lt2 hz with e | e <;> subst e
    · rw [if_pos (show nI 0 = 0 from rfl)]
    · rw [if_neg (show ¬ nI 1 = 0 by decide)]
  · funext j
    unfold lv_T
    rw [if_neg (by omega), if_neg (by omega), if_neg (by omega), if_neg (by omega)]
theorem op_lives {M N : mm_M} (h : Rel M N) (x y z : Int32) : AG (fX6_lives x y z M) (fX7_lives x y z N) := by
  obtain ⟨S, ho, hc, hn, hk, hx⟩ := h
  obtain ⟨N1, f1, f2, f3⟩ := rl_find ho hn
  have bad : AG (some ((-2 : Int32), M)) (some (-2, N1)) := ag_of ho hn hx (cr_rf hc hk) (nr_of f2)
  by_cases c : (0 ≤ y.toInt ∧ y.toInt < ((13 : Nat) : Int)) ∧ (0 ≤ z.toInt ∧ z.toInt < ((2 : Nat) : Int))
  · obtain ⟨c1, c2⟩ := c
    obtain ⟨m, hm, rfl⟩ := q_of c1.1 c1.2 (by omega)
    obtain ⟨v, hv, rfl⟩ := q_of c2.1 c2.2 (by omega)
    obtain ⟨N2, g1, g2, g3⟩ := rq_lives ho f3.1 x hm hv
    refine ag_of ho hn hx (cr_lives ho hc hk x hm hv) ⟨N2, ?_, f2.tr g2⟩
    unfold fX7_lives
    rw [f1, Option.bind_some, q_inb 13 (by decide), q_isTwo]
    simp only [Option.bind_some, q_if10, if_pos c1, if_pos c2, if_neg q_10, g1]
  · unfold fX6_lives fX7_lives
    rw [f1, Option.bind_some, q_inb 13 (by decide), q_isTwo, q_lit 13, q_lit 2, q_isOutside (by omega), q_isOutside (by omega)]
    simp only [Option.bind_some, q_if10, q_if01]
    exact ag_if (fun c1 => ag_if (fun c2 => absurd ⟨c1, c2⟩ c) (fun _ => bad)) (fun _ => bad)
