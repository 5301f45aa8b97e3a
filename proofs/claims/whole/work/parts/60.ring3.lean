def rg_g (O : Nat → Int32) (k : Nat) (s : Int32 × Int32) : Int32 × Int32 := if s.2 ≤ nI (rg_r O k + 1) then s else (nI k, nI (rg_r O k + 1))
def rg_a (z : Nat) (s : Int32 × Int32) : Int32 := if s.1 = -1 then -1 else if z = 0 then s.2 else s.1
theorem rg_r_le (O : Nat → Int32) (k : Nat) : rg_r O k ≤ 8 := by
  have := (md_fst_spec (fun n => bt (rg_X O k n) k) 8 0).2.1
  unfold rg_r
  omega
theorem cg_L {O : Nat → Int32} {M : mm_M} {p z : Nat} (h : ∀ k, k < 8 → M 54 k = O k) (hp : M 24 0 = nI p) (h8 : p ≤ 8) (hz : z < 2) : ∀ f i n a v, i + f = p → f < n → v ≤ 9 → fX6_ring_L45 (nI z) M n a (nI v) (nI i) = some (rg_a z (md_fold (rg_g O) f i (a, nI v)), M)
  | 0, i, n + 1, a, v, hi, hn, hv => by
    rw [fX6_ring_L45, hp, if_pos (by rw [nI_leI (by omega) (by omega)]; omega), md_fold]
    unfold rg_a
    by_cases c : a = -1
    · rw [if_pos c, if_pos c, c]
    · rw [if_neg c, if_neg (show ¬ (a, nI v).1 = -1 from c)]
      rcases q_lt2 hz with e | e <;> subst e <;> rfl
  | f + 1, i, n + 1, a, v, hi, hn, hv => by
    have rl := rg_r_le O i
    rw [fX6_ring_L45, hp, if_neg (by rw [nI_leI (by omega) (by omega)]; omega), co_st h (by omega), Option.bind_some, nI_1, md_fold]
    unfold rg_g
    by_cases c : rg_r O i < 8
    · rw [if_pos c]
      simp only [if_neg (q_m1 (a := rg_r O i + 1) (by omega))]
      by_cases c2 : nI v ≤ nI (rg_r O i + 1)
      · simp only [if_pos c2]
        exact cg_L h hp h8 hz f (i + 1) n a v (by omega) (by omega) hv
      · simp only [if_neg c2]
        exact cg_L h hp h8 hz f (i + 1) n _ (rg_r O i + 1) (by omega) (by omega) (by omega)
    · rw [if_neg c]
      simp only [if_true, if_pos (show nI v ≤ nI (rg_r O i + 1) by rw [nI_leI (by omega) (by omega)]; omega)]
      exact cg_L h hp h8 hz f (i + 1) n a v (by omega) (by omega) hv
theorem ng_L {O : Nat → Int32} {N : mm_M} {p z : Nat} (h : ∀ k, k < 8 → N 18 k = O k) (hp : N 0 7 = nI p) (h8 : p ≤ 8) (hz : z < 2) : ∀ f i n (s : Int32 × Int32), i + f = p → f < n → fX7_ringOf_L14 (nI z) N n s.1 s.2 (nI i) = some (rg_a z (md_fold (rg_g O) f i s), N)
  | 0, i, n + 1, s, hi, hn => by
    rw [fX7_ringOf_L14, hp, if_pos (by rw [nI_leI (by omega) (by omega)]; omega), md_fold]
    unfold rg_a
    by_cases c : s.1 = -1
    · rw [if_pos c, if_pos c]
    · rw [if_neg c, if_neg c]
      rcases q_lt2 hz with e | e <;> subst e <;> rfl
  | f + 1, i, n + 1, s, hi, hn => by
    rw [fX7_ringOf_L14, hp, if_neg (by rw [nI_leI (by omega) (by omega)]; omega), ro_st h (by omega), Option.bind_some, nI_1, md_fold]
    unfold rg_g fX7_lesser
    by_cases c2 : s.2 ≤ nI (rg_r O i + 1)
    · simp only [if_pos c2]
      exact ng_L h hp h8 hz f (i + 1) n s (by omega) (by omega)
    · simp only [if_neg c2]
      exact ng_L h hp h8 hz f (i + 1) n (nI i, nI (rg_r O i + 1)) (by omega) (by omega)
def mq_ring (S : md_T) (d z : Nat) : Int32 := rg_a z (md_fold (rg_g (ow_f (pa_T S) (st_A S) d (pa_T S 0 3))) (pa_T S 0 0) 0 (-1, nI 9))
theorem cr_ring {S : md_T} {M : mm_M} (ho : st_o S) (hc : RC S M) (hk : KC S M) {d z : Nat} (hd : d < 24) (hz : z < 2) : CR S M (fX6_ring (nI d) (nI z) M) (mq_ring S d z) := by
  have o1 := (st_ok ho).1
  obtain ⟨M1, e1, e2, e3, e4, e5⟩ := cq_learn ho hc hk
  obtain ⟨M2, g1, g2, g3⟩ := co_owes e5 e3.2.1 hd
  have q : CQ M M2 := ⟨fun q a b => by rw [g2 q (by omega)]; exact e2.1 q a b, fun j a b => by rw [g2 0 (by omega)]; exact e2.2 j a b⟩
  unfold fX6_ring mq_ring
  rw [q_lit 24, q_lit 2, q_outN (by omega) (by omega), q_outN (by omega) (by omega), if_pos hd, if_pos hz, if_pos rfl, if_pos rfl, e1, Option.bind_some, g1, Option.bind_some, q_lit 9, q_lit 0, cg_L g3 (by rw [g2 24 (by omega)]; exact e3.2.1.1) o1 hz (pa_T S 0 0) 0 1000 (-1) 9 (by omega) (by omega) (by omega)]
  exact ⟨M2, rfl, q, hc.keep q.1, e4.o g2⟩
theorem rq_ring {S : md_T} {N : mm_M} (ho : st_o S) (h : RD S N) {d z : Nat} (hd : d < 24) (hz : z < 2) : ∃ N', fX7_ringOf (nI d) (nI z) N = some (mq_ring S d z, N') ∧ (∀ q, q ≠ 18 → N' q = N q) := by
  have o1 := (st_ok ho).1
  obtain ⟨N1, g1, g2, g3⟩ := ro_owes (h.at ho) hd
  unfold fX7_ringOf mq_ring
  rw [g1, Option.bind_some, q_lit 9, q_lit 0]
  have := ng_L g3 (by rw [g2 0 (by omega)]; exact h.1.2.1) o1 hz (pa_T S 0 0) 0 1000 (-1, nI 9) (by omega) (by omega)
  exact ⟨N1, this, g2⟩
theorem op_ring {M N : mm_M} (h : Rel M N) (x y : Int32) : AG (fX6_ring x y M) (fX7_ring x y N) := by
  obtain ⟨S, ho, hc, hn, hk, hx⟩ := h
  obtain ⟨N1, f1, f2, f3⟩ := rl_find ho hn
  have bad : AG (some ((-2 : Int32), M)) (some (-2, N1)) := ag_of ho hn hx (cr_rf hc hk) (nr_of f2)
  by_cases c : (0 ≤ x.toInt ∧ x.toInt < ((24 : Nat) : Int)) ∧ (0 ≤ y.toInt ∧ y.toInt < ((2 : Nat) : Int))
  · obtain ⟨c1, c2⟩ := c
    obtain ⟨d, hd, rfl⟩ := q_of c1.1 c1.2 (by omega)
    obtain ⟨v, hv, rfl⟩ := q_of c2.1 c2.2 (by omega)
    obtain ⟨N2, g1, g2⟩ := rq_ring ho f3 hd hv
    have w : RW N1 N2 := ⟨fun q hq => g2 q (by omega), fun j hj => by rw [g2 0 (by omega)]⟩
    refine ag_of ho hn hx (cr_ring ho hc hk hd hv) ⟨N2, ?_, f2.tr w⟩
    unfold fX7_ring
    rw [f1, Option.bind_some, q_isDay, q_isTwo]
    simp only [Option.bind_some, q_if10, if_pos c1, if_pos c2, if_neg q_10, g1]
  · unfold fX6_ring fX7_ring
    rw [f1, Option.bind_some, q_isDay, q_isTwo, q_lit 24, q_lit 2, q_isOutside (by omega), q_isOutside (by omega)]
    simp only [Option.bind_some, q_if10, q_if01]
    exact ag_if (fun c1 => ag_if (fun c2 => absurd ⟨c1, c2⟩ c) (fun _ => bad)) (fun _ => bad)
