theorem rq_meet {S : md_T} {N : mm_M} (ho : st_o S) (h : RQ S N) {d z : Nat} (hd : d < 24) (hz : z < 3) : ∃ N', fX7_meetOf (nI d) (nI z) N = some (mq_meet S d z, N') ∧ RW N N' ∧ RQ S N' := by
  have o1 := (st_ok ho).1
  obtain ⟨hn, hT⟩ := h
  have h16 : N 0 16 = -1 := hn.2.2.2.2
  have i0 : on_I S d N (mm_wr N 0 16 (nI d)) := by
    refine ⟨?_, q_wr_eq, fun q hq => q_wr_ne (by omega), fun j a b c => q_wr_n2 a⟩
    have := hT
    unfold rr_T at this ⊢
    simp (disch := omega) only [q_wr_ne, q_wr_n2, q_wr_eq]
    rw [h16] at this
    simp only [eq_self] at this
    exact this
  have key := q_loopB (fun n (s : Int32 × Int32) N i => fX7_meetOf_L15 (nI z) (fun z11 z12 M13 => (mm_pf M13 0 16 (-1)).bind fun M14 => if z11 = (-1) then some ((-1), M14) else if nI z = 0 then some (z11 / (8), M14) else if nI z = (1) then some (z11 - z11 / (8) * (8), M14) else some (z12, M14)) n s.1 s.2 i N) (me_R S d) (fun s M13 => if s.1 = (-1) then some ((-1 : Int32), mm_wr M13 0 16 (-1)) else if nI z = 0 then some (s.1 / (8), mm_wr M13 0 16 (-1)) else if nI z = (1) then some (s.1 - s.1 / (8) * (8), mm_wr M13 0 16 (-1)) else some (s.2, mm_wr M13 0 16 (-1))) (fun _ N' => on_I S d N N') 0 64 (fun n s N1 h => ?_) (fun n i s N1 hl hi h => ?_) 64 0 1000 (-1, 999) (mm_wr N 0 16 (nI d)) (by omega) (by omega) (by omega) i0
  · obtain ⟨N', e1, e2⟩ := key
    have w : RW N (mm_wr N' 0 16 (-1)) := ⟨fun q hq => by rw [q_wr_ne (by omega)]; exact e2.2.2.1 q (by omega), fun j hj => by
      by_cases c : j = 16
      · rw [c, q_wr_eq, h16]
      · rw [q_wr_n2 c]; exact e2.2.2.2 j c (by omega) (by omega)⟩
    refine ⟨mm_wr N' 0 16 (-1), ?_, w, hn.keep w, e2.1⟩
    unfold fX7_meetOf
    rw [q_pf, Option.bind_some]
    refine Eq.trans e1 ?_
    have me := me_all ho hd
    unfold me_rs at me
    unfold mq_meet
    rcases me with ⟨r1, r2⟩ | ⟨k, v, hk, hv, r1, r2⟩
    · rw [r1, r2, if_pos rfl]
      rcases q_lt3 hz with e | e | e <;> subst e <;> rfl
    · rw [r1, r2, if_neg (show ¬ nI k = -1 from q_m1 (by omega))]
      rcases q_lt3 hz with e | e | e <;> subst e
      · rw [if_pos (show nI 0 = 0 from rfl), if_pos rfl]
        show some (nI k / 8, _) = some (nI (k / 8), _)
        rw [q_lit 8, pk_div (by omega) (by omega) (by omega)]
      · rw [if_neg (show ¬ nI 1 = 0 by decide), if_pos (show nI 1 = 1 from rfl), if_neg (show ¬ (1 : Nat) = 0 by decide), if_pos rfl]
        show some (nI k - nI k / 8 * 8, _) = some (nI (k % 8), _)
        rw [q_lit 8, pk_rem (by omega) (by omega) (by omega)]
      · rw [if_neg (show ¬ nI 2 = 0 by decide), if_neg (show ¬ nI 2 = 1 by decide), if_neg (show ¬ (2 : Nat) = 0 by decide), if_neg (show ¬ (2 : Nat) = 1 by decide)]
  · show fX7_meetOf_L15 (nI z) _ (n + 1) s.1 s.2 (nI 64) N1 = _
    rw [fX7_meetOf_L15, if_pos (by decide), q_pf, Option.bind_some]
  · have hw := on_w (x := nI (i / 8)) (y := nI (i % 8)) ho h
    have un := fun kk => show fX7_meetOf_L15 (nI z) kk (n + 1) s.1 s.2 (nI i) N1 = if nI (i % 8) ≤ nI (i / 8) then fX7_meetOf_L15 (nI z) kk n s.1 s.2 (nI (i + 1)) (mm_wr (mm_wr N1 0 17 (nI (i / 8))) 0 18 (nI (i % 8))) else if i % 8 < pa_T S 0 0 then (fX7_runs (mm_wr (mm_wr N1 0 17 (nI (i / 8))) 0 18 (nI (i % 8)))).bind fun M8 => (fX7_owedYet M8).bind fun b9 => fX7_meetOf_L15 (nI z) kk n (if s.2 ≤ b9 then s.1 else nI i) (fX7_lesser b9 s.2) (nI (i + 1)) M8 else fX7_meetOf_L15 (nI z) kk n s.1 s.2 (nI (i + 1)) (mm_wr (mm_wr N1 0 17 (nI (i / 8))) 0 18 (nI (i % 8))) by
      rw [fX7_meetOf_L15, if_neg (by rw [q_lit 64, nI_leI (by omega) (by omega)]; omega), q_lit 8, pk_div (by omega) (by omega) (by omega), pk_mul]
      rw [show nI i - nI (i / 8 * 8) = nI (i % 8) by
        have := pk_rem (a := i) (d := 8) (by omega) (by omega) (by omega)
        rwa [pk_div (by omega) (by omega) (by omega), pk_mul] at this]
      simp only [q_pf, Option.bind_some]
      rw [q_wr_eq, q_wr_n2 (by decide), q_wr_eq, q_isPersonN (on_p hw) (by omega) (by omega)]
      simp only [Option.bind_some, q_if10, nI_1]
    by_cases c1 : i % 8 ≤ i / 8
    · refine ⟨_, ?_, hw⟩
      show fX7_meetOf_L15 (nI z) _ (n + 1) s.1 s.2 (nI i) N1 = fX7_meetOf_L15 (nI z) _ n (me_R S d i s).1 (me_R S d i s).2 (nI (i + 1)) _
      rw [un, if_pos (nI_le c1 (by omega))]
      unfold me_R
      rw [if_pos (Or.inl c1)]
    · by_cases c2 : i % 8 < pa_T S 0 0
      · obtain ⟨N2, e1, e2, e3⟩ := on_try ho hn h hd (show i / 8 < 8 by omega) (show i % 8 < 8 by omega)
        refine ⟨N2, ?_, e2⟩
        show fX7_meetOf_L15 (nI z) _ (n + 1) s.1 s.2 (nI i) N1 = fX7_meetOf_L15 (nI z) _ n (me_R S d i s).1 (me_R S d i s).2 (nI (i + 1)) N2
        rw [un, if_neg (nI_ge (by omega) (by omega)), if_pos c2, e1, Option.bind_some, rq_owed e3.1 e3.2.1.2.1 e3.2.2.1, Option.bind_some]
        unfold me_R me_v fX7_lesser
        rw [if_neg (show ¬ (i % 8 ≤ i / 8 ∨ pa_T S 0 0 ≤ i % 8) by omega)]
        by_cases c3 : s.2 ≤ mq_owed (om_T (pa_T S) d (i / 8) (i % 8)) (st_A S)
        · simp only [if_pos c3]
        · simp only [if_neg c3]
      · refine ⟨_, ?_, hw⟩
        show fX7_meetOf_L15 (nI z) _ (n + 1) s.1 s.2 (nI i) N1 = fX7_meetOf_L15 (nI z) _ n (me_R S d i s).1 (me_R S d i s).2 (nI (i + 1)) _
        rw [un, if_neg (nI_ge (by omega) (by omega)), if_neg c2]
        unfold me_R
        rw [if_pos (Or.inr (by omega))]
theorem op_meet {M N : mm_M} (h : Rel M N) (x y : Int32) : AG (fX6_meet x y M) (fX7_meet x y N) := by
  obtain ⟨S, ho, hc, hn, hk, hx⟩ := h
  obtain ⟨N1, f1, f2, f3⟩ := rl_find ho hn
  have bad : AG (some ((-2 : Int32), M)) (some (-2, N1)) := ag_of ho hn hx (cr_rf hc hk) (nr_of f2)
  by_cases c : (0 ≤ x.toInt ∧ x.toInt < ((24 : Nat) : Int)) ∧ (0 ≤ y.toInt ∧ y.toInt < ((3 : Nat) : Int))
  · obtain ⟨c1, c2⟩ := c
    obtain ⟨d, hd, rfl⟩ := q_of c1.1 c1.2 (by omega)
    obtain ⟨v, hv, rfl⟩ := q_of c2.1 c2.2 (by omega)
    obtain ⟨N2, g1, g2, g3⟩ := rq_meet ho f3.1 hd hv
    refine ag_of ho hn hx (cr_meet ho hc hk hd hv) ⟨N2, ?_, f2.tr g2⟩
    unfold fX7_meet
    rw [f1, Option.bind_some, q_isDay, q_inb 3 (by decide)]
    simp only [Option.bind_some, q_if10, if_pos c1, if_pos c2, if_neg q_10, g1]
  · unfold fX6_meet fX7_meet
    rw [f1, Option.bind_some, q_isDay, q_inb 3 (by decide), q_lit 24, q_lit 3, q_isOutside (by omega), q_isOutside (by omega)]
    simp only [Option.bind_some, q_if10, q_if01]
    exact ag_if (fun c1 => ag_if (fun c2 => absurd ⟨c1, c2⟩ c) (fun _ => bad)) (fun _ => bad)
