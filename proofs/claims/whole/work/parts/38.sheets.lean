/-! SHEETS -/
theorem q_raS {s : Nat} (h : s < 4) : mm_ra [9, 11, 13, 15] (nI s) = some (9 + 2 * s) := by
  rcases (show s = 0 ∨ s = 1 ∨ s = 2 ∨ s = 3 by omega) with e | e | e | e <;> subst e <;> rfl
theorem q_raT {s : Nat} (h : s < 3) : mm_ra [2, 4, 6] (nI s) = some (2 + 2 * s) := by
  rcases (show s = 0 ∨ s = 1 ∨ s = 2 by omega) with e | e | e <;> subst e <;> rfl
theorem rel_sh {S : md_T} {M M' N N' : mm_M} (ho : st_o S) (hc : RC S M) (hn : RN S N) (hk : KC S M) (f : ∀ q, (1 ≤ q ∧ q < 9) ∨ 16 < q → M' q = M q) (f0 : ∀ j, j ≠ 12 → M' 0 j = M 0 j) (g : ∀ q, q = 5 ∨ q = 6 ∨ q = 10 ∨ q = 19 → N' q = N q) (g0 : ∀ j, j = 13 ∨ j = 15 ∨ j = 16 ∨ j = 27 → N' 0 j = N 0 j) (hx : SX M' N') : Rel M' N' := by
  refine ⟨S, ho, hc.keep2 (fun q hq => f q (by omega)), ?_, hk.w (f0 10 (by decide)) (f0 11 (by decide)) (fun q hq => f q (by omega)), hx⟩
  unfold RN at hn ⊢
  rw [g 5 (by omega), g 6 (by omega), g 10 (by omega), g 19 (by omega), g0 13 (by omega), g0 27 (by omega), g0 15 (by omega), g0 16 (by omega)]
  exact hn
theorem ag_find {M N : mm_M} (h : Rel M N) (x r : Int32) : AG (some (r, mm_wr M 0 12 x)) (some (r, mm_wr N 0 4 x)) := by
  obtain ⟨S, ho, hc, hn, hk, hx⟩ := h
  refine ⟨r, _, _, rfl, rfl, rel_sh (M := M) (N := N) ho hc hn hk (fun q hq => q_wr_ne (by omega)) (fun j hj => q_wr_n2 hj) (fun q hq => q_wr_ne (by omega)) (fun j hj => q_wr_n2 (by omega)) ⟨by rw [q_wr_eq, q_wr_eq], fun s hs => ?_⟩⟩
  rw [q_wr_ne (by omega), q_wr_ne (by omega), q_wr_ne (by omega), q_wr_ne (by omega), q_wr_ne (by omega)]
  exact hx.2 s hs
theorem ag_fd {M N : mm_M} (h : Rel M N) (x : Int32) : AG ((fX6_finding x M).bind fun b => some (b.1, b.2)) ((fX7_finds x N).bind fun b => some (b.1, b.2)) := ag_find h x _
def SH (M N : mm_M) (s : Nat) : Prop := M (9 + 2 * s) 1 = N 1 s ∧ (N 1 s = -1 ∨ ∃ f z, f < 3 ∧ z ≤ 60 ∧ N 1 s = nI f ∧ M (9 + 2 * s) 2 = nI z ∧ N 2 s = nI z ∧ ∀ i, i < z → M (9 + 2 * s + 1) i = N 3 (60 * s + i))
theorem SX.put {M M' N N' : mm_M} {s0 : Nat} (hx : SX M N) (h0 : M' 0 12 = N' 0 4) (f : ∀ s, s < 4 → s ≠ s0 → M' (9 + 2 * s) = M (9 + 2 * s) ∧ M' (9 + 2 * s + 1) = M (9 + 2 * s + 1)) (g : ∀ s, s < 4 → s ≠ s0 → N' 1 s = N 1 s ∧ N' 2 s = N 2 s ∧ ∀ i, i < 60 → N' 3 (60 * s + i) = N 3 (60 * s + i)) (n : SH M' N' s0) : SX M' N' := by
  refine ⟨h0, fun s hs => ?_⟩
  by_cases c : s = s0
  · rw [c]; exact n
  · obtain ⟨k1, k2⟩ := hx.2 s hs
    obtain ⟨g1, g2, g3⟩ := g s hs c
    obtain ⟨f1, f2⟩ := f s hs c
    rw [f1, f2, g1, g2]
    refine ⟨k1, ?_⟩
    rcases k2 with k | ⟨ff, z, a, b, c, d, e, ff'⟩
    · exact Or.inl k
    · exact Or.inr ⟨ff, z, a, b, c, d, e, fun i hi => by rw [g3 i (by omega)]; exact ff' i hi⟩
theorem sh_zero_L {r : Nat} : ∀ f i n (M : mm_M), i + f = 60 → f < n → ∃ M', fX3_begin_L12 r n (nI i) M = some M' ∧ (∀ q, q ≠ r + 1 → M' q = M q) ∧ (∀ j, j < i → M' (r + 1) j = M (r + 1) j) ∧ ∀ j, i ≤ j → j < 60 → M' (r + 1) j = nI 0
  | 0, i, n + 1, M, hi, hn => ⟨M, by rw [fX3_begin_L12, q_lit 60, if_pos (by rw [nI_leI (by omega) (by omega)]; omega)], fun _ _ => rfl, fun _ _ => rfl, fun j a b => by omega⟩
  | f + 1, i, n + 1, M, hi, hn => by
    obtain ⟨M', e1, e2, e3, e4⟩ := sh_zero_L (r := r) f (i + 1) n (mm_wr M (r + 1) i (nI 0)) (by omega) (by omega)
    refine ⟨M', ?_, fun q hq => by rw [e2 q hq, q_wr_ne hq], fun j hj => by rw [e3 j (by omega), q_wr_n2 (by omega)], fun j a b => ?_⟩
    · rw [fX3_begin_L12, q_lit 60, if_neg (by rw [nI_leI (by omega) (by omega)]; omega), q_wa (by omega) (by omega), Option.bind_some, q_lit 1, nI_add]
      exact e1
    · by_cases c : j = i
      · rw [c, e3 i (by omega), q_wr_eq]
      · exact e4 j (by omega) b
theorem sh_begin {r : Nat} {x y : Int32} {M : mm_M} : ∃ M', fX3_begin r x y M = some M' ∧ (∀ q, q ≠ r → q ≠ r + 1 → M' q = M q) ∧ M' r 1 = x ∧ M' r 2 = y ∧ ∀ i, i < 60 → M' (r + 1) i = nI 0 := by
  obtain ⟨M', e1, e2, e3, e4⟩ := sh_zero_L (r := r) 60 0 1000 (mm_wr (mm_wr M r 1 x) r 2 y) (by omega) (by omega)
  refine ⟨M', ?_, fun q a b => by rw [e2 q b, q_wr_ne a, q_wr_ne a], by rw [e2 r (by omega), q_wr_n2 (by decide), q_wr_eq], by rw [e2 r (by omega), q_wr_eq], fun i hi => e4 i (by omega) hi⟩
  unfold fX3_begin
  rw [q_pf, Option.bind_some, q_pf, Option.bind_some]
  exact e1
theorem sn_zero_L {s z : Nat} (hs : s < 4) (hz : z ≤ 60) : ∀ f i n (N : mm_M), i + f = z → f < n → ∃ N', fX7_sheet_L55 (nI s) (nI z) n (nI i) N = some (nI z, N') ∧ (∀ q, q ≠ 3 → N' q = N q) ∧ (∀ j, j < 60 * s + i ∨ 60 * s + z ≤ j → N' 3 j = N 3 j) ∧ ∀ j, i ≤ j → j < z → N' 3 (60 * s + j) = nI 0
  | 0, i, n + 1, N, hi, hn => ⟨N, by rw [fX7_sheet_L55, if_pos (by rw [nI_leI (by omega) (by omega)]; omega)], fun _ _ => rfl, fun _ _ => rfl, fun j a b => by omega⟩
  | f + 1, i, n + 1, N, hi, hn => by
    obtain ⟨N', e1, e2, e3, e4⟩ := sn_zero_L hs hz f (i + 1) n (mm_wr N 3 (60 * s + i) (nI 0)) (by omega) (by omega)
    refine ⟨N', ?_, fun q hq => by rw [e2 q hq, q_wr_ne hq], fun j hj => by rw [e3 j (by omega), q_wr_n2 (by omega)], fun j a b => ?_⟩
    · rw [fX7_sheet_L55, if_neg (by rw [nI_leI (by omega) (by omega)]; omega), q_lit 60, pk_mul, nI_add, q_wa (by omega) (by omega), Option.bind_some, q_lit 1, nI_add]
      exact e1
    · by_cases c : j = i
      · rw [c, e3 _ (by omega), q_wr_eq]
      · exact e4 j (by omega) b
theorem op_sheet {M N : mm_M} (h : Rel M N) (x y z : Int32) : AG (fX6_sheet x y z M) (fX7_sheet x y z N) := by
  obtain ⟨S, ho, hc, hn, hk, hx⟩ := id h
  have bad : ∀ r : Int32, AG (some (r, M)) (some (r, N)) := fun r => ⟨r, M, N, rfl, rfl, h⟩
  unfold fX6_sheet fX7_sheet
  rw [q_isSheet, q_inb 3 (by decide), q_lit 4, q_lit 3, q_isOutside (by omega), q_isOutside (by omega)]
  simp only [Option.bind_some, q_if10, q_if01]
  refine ag_if (fun c1 => ag_if (fun c2 => ag_if (fun c3 => ag_if (fun c4 => ?_) (fun _ => ag_fd h _)) (fun _ => bad _)) (fun _ => bad _)) (fun _ => bad _)
  obtain ⟨s, hs, rfl⟩ := q_of c1.1 c1.2 (by omega)
  obtain ⟨f, hf, rfl⟩ := q_of c2.1 c2.2 (by omega)
  have e0 : (0 : Int32).toInt = 0 := by decide
  have e60 : (60 : Int32).toInt = 60 := by decide
  rw [Int32.le_iff_toInt_le] at c3 c4
  obtain ⟨v, hv, rfl⟩ := q_of (x := z) (n := 61) (by omega) (by omega) (by omega)
  obtain ⟨M', a1, a2, a3, a4, a5⟩ := sh_begin (r := 9 + 2 * s) (x := nI f) (y := nI v) (M := M)
  obtain ⟨N', b1, b2, b3, b4⟩ := sn_zero_L hs (show v ≤ 60 by omega) v 0 1000 (mm_wr (mm_wr N 1 s (nI f)) 2 s (nI v)) (by omega) (by omega)
  rw [q_raS hs, Option.bind_some, a1, Option.bind_some, q_wa (by omega) (by omega), Option.bind_some, q_wa (by omega) (by omega), Option.bind_some, q_lit 0, b1]
  refine ⟨_, M', N', rfl, rfl, rel_sh (M := M) (N := N) ho hc hn hk (fun q hq => a2 q (by omega) (by omega)) (fun j hj => by rw [a2 0 (by omega) (by omega)]) (fun q hq => by rw [b2 q (by omega), q_wr_ne (by omega), q_wr_ne (by omega)]) (fun j hj => by rw [b2 0 (by omega), q_wr_ne (by omega), q_wr_ne (by omega)]) (hx.put (s0 := s) ?_ (fun t ht hts => ⟨a2 _ (by omega) (by omega), a2 _ (by omega) (by omega)⟩) (fun t ht hts => ⟨?_, ?_, fun i hi => ?_⟩) ⟨?_, Or.inr ⟨f, v, by omega, by omega, ?_, a4, ?_, fun i hi => ?_⟩⟩)⟩
  · rw [a2 0 (by omega) (by omega), b2 0 (by omega), q_wr_ne (by omega), q_wr_ne (by omega)]; exact hx.1
  · rw [b2 1 (by omega), q_wr_ne (by omega), q_wr_n2 hts]
  · rw [b2 2 (by omega), q_wr_n2 hts, q_wr_ne (by omega)]
  · rw [b3 _ (by omega), q_wr_ne (by omega), q_wr_ne (by omega)]
  · rw [a3, b2 1 (by omega), q_wr_ne (by omega), q_wr_eq]
  · rw [b2 1 (by omega), q_wr_ne (by omega), q_wr_eq]
  · rw [b2 2 (by omega), q_wr_eq]
  · rw [a5 i (by omega), b4 i (by omega) hi]
theorem op_lose {M N : mm_M} (h : Rel M N) (x : Int32) : AG (fX6_lose x M) (fX7_lose x N) := by
  obtain ⟨S, ho, hc, hn, hk, hx⟩ := id h
  have bad : ∀ r : Int32, AG (some (r, M)) (some (r, N)) := fun r => ⟨r, M, N, rfl, rfl, h⟩
  unfold fX6_lose fX7_lose
  rw [q_isSheet, q_lit 4, q_isOutside (by omega)]
  simp only [Option.bind_some, q_if10, q_if01]
  refine ag_if (fun c1 => ?_) (fun _ => bad _)
  obtain ⟨s, hs, rfl⟩ := q_of c1.1 c1.2 (by omega)
  obtain ⟨k1, k2⟩ := hx.2 s hs
  rw [q_raS hs, q_rd (by omega) (by omega)]
  simp only [Option.bind_some]
  unfold fX3_isLost
  rw [k1]
  rcases k2 with k | ⟨f, z, hf, hz, e1, e2, e3, e4⟩
  · rw [k, if_pos rfl, if_neg q_10, if_neg (show ¬ (0 : Int32) ≤ -1 by decide)]
    exact ag_fd h _
  · obtain ⟨M', a1, a2, a3, a4, a5⟩ := sh_begin (r := 9 + 2 * s) (x := -1) (y := 0) (M := M)
    rw [e1, if_neg (q_m1 (by omega)), if_pos rfl, if_pos (nI_pos' (n := f) (by omega)), a1, Option.bind_some, q_wa (by omega) (by omega), Option.bind_some, q_rd (by omega) (by omega), Option.bind_some, q_wr_ne (by decide), e2, e3]
    refine ⟨_, M', _, rfl, rfl, rel_sh (M := M) (N := N) ho hc hn hk (fun q hq => a2 q (by omega) (by omega)) (fun j hj => by rw [a2 0 (by omega) (by omega)]) (fun q hq => q_wr_ne (by omega)) (fun j hj => by rw [q_wr_ne (by omega)]) (hx.put (s0 := s) ?_ (fun t ht hts => ⟨a2 _ (by omega) (by omega), a2 _ (by omega) (by omega)⟩) (fun t ht hts => ⟨q_wr_n2 hts, by rw [q_wr_ne (by omega)], fun i hi => by rw [q_wr_ne (by omega)]⟩) ⟨by rw [a3, q_wr_eq], Or.inl q_wr_eq⟩)⟩
    rw [a2 0 (by omega) (by omega), q_wr_ne (by omega)]; exact hx.1
/-! lay, get -/
def sh_am (f z : Nat) (y x : Int32) : Nat := if nI f = y then (if 0 ≤ x.toInt ∧ x.toInt < (z : Int) then 0 else 2) else 3
theorem sh_am_3 (f z : Nat) (y x : Int32) : sh_am f z y x = 0 ∨ sh_am f z y x = 2 ∨ sh_am f z y x = 3 := by
  unfold sh_am
  by_cases c1 : nI f = y
  · rw [if_pos c1]
    by_cases c2 : 0 ≤ x.toInt ∧ x.toInt < (z : Int)
    · rw [if_pos c2]; exact Or.inl rfl
    · rw [if_neg c2]; exact Or.inr (Or.inl rfl)
  · rw [if_neg c1]; exact Or.inr (Or.inr rfl)
theorem q_amiss {M N : mm_M} {s : Nat} {y x : Int32} (k : SH M N s) : (fX6_whatIsAmiss (9 + 2 * s) y x M = 1 ∧ N 1 s = -1) ∨ ∃ f z, f < 3 ∧ z ≤ 60 ∧ N 1 s = nI f ∧ M (9 + 2 * s) 1 = nI f ∧ M (9 + 2 * s) 2 = nI z ∧ N 2 s = nI z ∧ (∀ i, i < z → M (9 + 2 * s + 1) i = N 3 (60 * s + i)) ∧ fX6_whatIsAmiss (9 + 2 * s) y x M = nI (sh_am f z y x) := by
  obtain ⟨k1, k2⟩ := k
  unfold fX6_whatIsAmiss fX3_isLost
  rcases k2 with k | ⟨f, z, hf, hz, e1, e2, e3, e4⟩
  · refine Or.inl ⟨?_, k⟩
    rw [k1, k, if_pos rfl, if_neg q_10]
  · refine Or.inr ⟨f, z, hf, hz, e1, by rw [k1, e1], e2, e3, e4, ?_⟩
    rw [k1, e1, if_neg (q_m1 (a := f) (by omega)), if_pos rfl, e2, q_isOutside (by omega), q_if01]
    unfold sh_am
    by_cases c1 : nI f = y
    · rw [if_pos c1, if_pos c1]
      by_cases c2 : 0 ≤ x.toInt ∧ x.toInt < (z : Int)
      · rw [if_pos c2, if_pos c2]; rfl
      · rw [if_neg c2, if_neg c2]; rfl
    · rw [if_neg c1, if_neg c1]; rfl
theorem q_lacks1 {N : mm_M} {s : Nat} {y x : Int32} (hs : s < 4) (h : N 1 s = -1) : fX7_lacks (nI s) y x N = some (-10 - 1, mm_wr N 0 4 1) := by
  unfold fX7_lacks
  rw [q_rd (by omega) (by omega), Option.bind_some, h, if_neg (show ¬ (0 : Int32) ≤ -1 by decide)]
  rfl
theorem q_lacks {N : mm_M} {s f z : Nat} {y x : Int32} (hs : s < 4) (hf : f < 3) (hz : z ≤ 60) (h1 : N 1 s = nI f) (h2 : N 2 s = nI z) : fX7_lacks (nI s) y x N = if sh_am f z y x = 0 then some (0, N) else some (-10 - nI (sh_am f z y x), mm_wr N 0 4 (nI (sh_am f z y x))) := by
  unfold fX7_lacks sh_am
  rw [q_rd (by omega) (by omega), q_rd (by omega) (by omega)]
  simp only [Option.bind_some]
  rw [h1, h2, if_pos (nI_pos' (n := f) (by omega)), q_in, q_pm1 (by omega), q_if10]
  have e0 : (0 : Int64).toInt = 0 := by decide
  by_cases c1 : nI f = y
  · rw [if_pos c1, if_pos c1]
    by_cases c2 : 0 ≤ x.toInt ∧ x.toInt < (z : Int)
    · rw [if_pos (show (0 : Int64).toInt ≤ x.toInt ∧ x.toInt ≤ (z : Int) - 1 by omega), if_pos c2, if_pos rfl]
    · rw [if_neg (show ¬ ((0 : Int64).toInt ≤ x.toInt ∧ x.toInt ≤ (z : Int) - 1) by omega), if_neg c2, if_neg (by decide)]; rfl
  · rw [if_neg c1, if_neg c1, if_neg (by decide)]; rfl
theorem q_put {M : mm_M} {r f z i : Nat} {x : Int32} (h1 : M r 1 = nI f) (h2 : M r 2 = nI z) (hf : f < 3) (hz : z ≤ 60) (hi : i < z) : fX3_put r (nI i) x M = some (mm_wr M (r + 1) i (fX7_cut (nI f) x)) := by
  unfold fX3_put fX7_cut
  rw [h1, h2, q_outN (by omega) (by omega), if_pos hi, if_pos rfl, q_wa (by omega) (by omega), q_wa (by omega) (by omega), q_wa (by omega) (by omega)]
  simp only [Option.bind_some]
  rcases (show f = 0 ∨ f = 1 ∨ f = 2 by omega) with e | e | e <;> subst e
  · rw [if_pos (show nI 0 = 0 from rfl), if_pos (show nI 0 = 0 from rfl)]
  · rw [if_neg (show ¬ nI 1 = 0 by decide), if_neg (show ¬ nI 1 = 0 by decide), if_pos (show nI 1 = 1 from rfl), if_pos (show nI 1 = 1 from rfl)]
  · rw [if_neg (show ¬ nI 2 = 0 by decide), if_neg (show ¬ nI 2 = 0 by decide), if_neg (show ¬ nI 2 = 1 by decide), if_neg (show ¬ nI 2 = 1 by decide)]
/-- one item set on both sides -/
theorem rel_put {S : md_T} {M N : mm_M} (ho : st_o S) (hc : RC S M) (hn : RN S N) (hk : KC S M) (hx : SX M N) {s f z i : Nat} {v : Int32} (hs : s < 4) (hf : f < 3) (hz : z ≤ 60) (hi : i < z) (h1 : N 1 s = nI f) (h2 : M (9 + 2 * s) 2 = nI z) (h3 : N 2 s = nI z) (h4 : ∀ i, i < z → M (9 + 2 * s + 1) i = N 3 (60 * s + i)) : Rel (mm_wr M (9 + 2 * s + 1) i v) (mm_wr N 3 (60 * s + i) v) := by
  refine rel_sh (M := M) (N := N) ho hc hn hk (fun q hq => q_wr_ne (by omega)) (fun j hj => by rw [q_wr_ne (by omega)]) (fun q hq => q_wr_ne (by omega)) (fun j hj => by rw [q_wr_ne (by omega)]) (hx.put (s0 := s) ?_ (fun t ht hts => ⟨q_wr_ne (by omega), q_wr_ne (by omega)⟩) (fun t ht hts => ⟨by rw [q_wr_ne (by omega)], by rw [q_wr_ne (by omega)], fun j hj => q_wr_n2 (by omega)⟩) ⟨?_, Or.inr ⟨f, z, hf, hz, ?_, ?_, ?_, fun j hj => ?_⟩⟩)
  · rw [q_wr_ne (by omega), q_wr_ne (by omega)]; exact hx.1
  · rw [q_wr_ne (by omega), q_wr_ne (by omega)]; exact (hx.2 s hs).1
  · rw [q_wr_ne (by omega)]; exact h1
  · rw [q_wr_ne (by omega)]; exact h2
  · rw [q_wr_ne (by omega)]; exact h3
  · by_cases c : j = i
    · rw [c, q_wr_eq, q_wr_eq]
    · rw [q_wr_n2 c, q_wr_n2 (by omega)]; exact h4 j hj
theorem op_lay {M N : mm_M} (h : Rel M N) (x y i v : Int32) : AG (fX6_lay x y i v M) (fX7_lay x y i v N) := by
  obtain ⟨S, ho, hc, hn, hk, hx⟩ := id h
  have bad : ∀ r : Int32, AG (some (r, M)) (some (r, N)) := fun r => ⟨r, M, N, rfl, rfl, h⟩
  unfold fX6_lay fX7_lay
  rw [q_isSheet, q_inb 3 (by decide), q_lit 4, q_lit 3, q_isOutside (by omega), q_isOutside (by omega)]
  simp only [Option.bind_some, q_if10, q_if01]
  refine ag_if (fun c1 => ag_if (fun c2 => ?_) (fun _ => bad _)) (fun _ => bad _)
  obtain ⟨s, hs, rfl⟩ := q_of c1.1 c1.2 (by omega)
  rw [q_raS hs]
  simp only [Option.bind_some]
  rcases q_amiss (y := y) (x := i) (hx.2 s hs) with ⟨k1, k2⟩ | ⟨f, z, hf, hz, e1, e2, e3, e4, e5, e6⟩
  · rw [k1, if_neg q_10, q_lacks1 hs k2, Option.bind_some]
    exact ag_find h 1 _
  · rw [q_lacks hs hf hz e1 e4, e6]
    by_cases c : sh_am f z y i = 0
    · rw [c, if_pos (show nI 0 = 0 from rfl), if_pos rfl, Option.bind_some, if_pos rfl]
      unfold sh_am at c
      by_cases d1 : nI f = y
      · rw [if_pos d1] at c
        by_cases d2 : 0 ≤ i.toInt ∧ i.toInt < (z : Int)
        · obtain ⟨j, hj, rfl⟩ := q_of d2.1 d2.2 (by omega)
          rw [q_put e2 e3 hf hz hj, Option.bind_some, q_lit 60, pk_mul, nI_add, q_wa (by omega) (by omega), Option.bind_some, ← d1]
          exact ⟨1, _, _, rfl, rfl, rel_put ho hc hn hk hx hs hf hz hj e1 e3 e4 e5⟩
        · rw [if_neg d2] at c; omega
      · rw [if_neg d1] at c; omega
    · have this := (sh_am_3 f z y i).resolve_left c
      have hne : ¬ nI (sh_am f z y i) = 0 := by rcases this with e | e <;> rw [e] <;> decide
      have hne2 : ¬ (-10 - nI (sh_am f z y i) : Int32) = 0 := by rcases this with e | e <;> rw [e] <;> decide
      rw [if_neg hne, if_neg c, Option.bind_some, if_neg hne2]
      exact ag_find h _ _
theorem op_get {M N : mm_M} (h : Rel M N) (x y i : Int32) : AG (fX6_get x y i M) (fX7_get x y i N) := by
  obtain ⟨S, ho, hc, hn, hk, hx⟩ := id h
  have bad : ∀ r : Int32, AG (some (r, M)) (some (r, N)) := fun r => ⟨r, M, N, rfl, rfl, h⟩
  unfold fX6_get fX7_get
  rw [q_isSheet, q_inb 3 (by decide), q_lit 4, q_lit 3, q_isOutside (by omega), q_isOutside (by omega)]
  simp only [Option.bind_some, q_if10, q_if01]
  refine ag_if (fun c1 => ag_if (fun c2 => ?_) (fun _ => bad _)) (fun _ => bad _)
  obtain ⟨s, hs, rfl⟩ := q_of c1.1 c1.2 (by omega)
  rw [q_raS hs]
  simp only [Option.bind_some]
  rcases q_amiss (y := y) (x := i) (hx.2 s hs) with ⟨k1, k2⟩ | ⟨f, z, hf, hz, e1, e2, e3, e4, e5, e6⟩
  · rw [k1, if_neg q_10, q_lacks1 hs k2, Option.bind_some]
    exact ag_find h 1 _
  · rw [q_lacks hs hf hz e1 e4, e6]
    by_cases c : sh_am f z y i = 0
    · rw [c, if_pos (show nI 0 = 0 from rfl), if_pos rfl, Option.bind_some, if_pos rfl]
      unfold sh_am at c
      by_cases d1 : nI f = y
      · rw [if_pos d1] at c
        by_cases d2 : 0 ≤ i.toInt ∧ i.toInt < (z : Int)
        · obtain ⟨j, hj, rfl⟩ := q_of d2.1 d2.2 (by omega)
          rw [q_rd (by omega) (by omega), Option.bind_some, q_lit 60, pk_mul, nI_add, q_rd (by omega) (by omega), Option.bind_some, e5 j hj]
          exact bad _
        · rw [if_neg d2] at c; omega
      · rw [if_neg d1] at c; omega
    · have this := (sh_am_3 f z y i).resolve_left c
      have hne : ¬ nI (sh_am f z y i) = 0 := by rcases this with e | e <;> rw [e] <;> decide
      have hne2 : ¬ (-10 - nI (sh_am f z y i) : Int32) = 0 := by rcases this with e | e <;> rw [e] <;> decide
      rw [if_neg hne, if_neg c, Option.bind_some, if_neg hne2]
      exact ag_find h _ _
