def sp_a1 (x : Int32) (i : Nat) : Int32 := if x = -1 then 1 else if x = 0 then nI i else -1
def sp_a2 (x : Int32) (i j : Nat) : Int32 := if x = -1 then 2 else if x = 0 then nI i else nI j
def mq_spare (S : md_T) (x : Int32) : Int32 := if sp_b S 0 = true then (if x = -1 then 0 else -1) else if md_fst (sp_1 S) (S 4 0) 0 < S 4 0 then sp_a1 x (md_fst (sp_1 S) (S 4 0) 0) else if md_fst (sp_q S) (S 4 0) 0 < S 4 0 then sp_a2 x (md_fst (sp_q S) (S 4 0) 0) (sp_j S (md_fst (sp_q S) (S 4 0) 0)) else -1
theorem cr_spare {S : md_T} {M : mm_M} (ho : st_o S) (hc : RC S M) (hk : KC S M) {x : Int32} (hx : x = -1 ∨ x = 0 ∨ x = 1) : CR S M (fX6_spare x M) (mq_spare S x) := by
  have o4 := ho.2.1
  obtain ⟨M1, e1, e2⟩ := cs_all ho hc
  have un : ∀ m a b, fX6_lowestBit m = some a → fX6_lowestBit (m &&& (m - 1)) = some b → sp_m S = m → ¬ m = -1 → fX6_spare x M = some (if x = -1 then fJ6_bitCount_0f7a4 m else if x = 0 then a else b, M1) := by
    intro m a b h1 h2 h3 h4
    unfold fX6_spare
    rw [if_neg (by rcases hx with e | e | e <;> subst e <;> decide), if_pos (by rcases hx with e | e | e <;> subst e <;> decide), e2, Option.bind_some, h3, if_neg h4, h1, h2]
    simp only [Option.bind_some]
    rcases hx with e | e | e <;> subst e <;> rfl
  have eS := sp_m.eq_1 S
  unfold mq_spare
  by_cases c0 : sp_b S 0 = true
  · rw [if_pos c0] at eS ⊢
    rw [un 0 (-1) (-1) sp_f0.2.1 sp_f0.2.2 eS (by decide), sp_f0.1]
    have : (if x = -1 then (0 : Int32) else if x = 0 then -1 else -1) = if x = -1 then 0 else -1 := by rcases hx with e | e | e <;> subst e <;> rfl
    rw [this]
    exact e1.cr hc hk
  · rw [if_neg c0] at eS ⊢
    by_cases c1 : md_fst (sp_1 S) (S 4 0) 0 < S 4 0
    · rw [if_pos c1] at eS ⊢
      obtain ⟨a, b, c, d⟩ := sp_f1 (md_fst (sp_1 S) (S 4 0) 0) (by omega)
      rw [un _ _ _ c d eS a, b]
      exact e1.cr hc hk
    · rw [if_neg c1] at eS ⊢
      by_cases c2 : md_fst (sp_q S) (S 4 0) 0 < S 4 0
      · rw [if_pos c2] at eS ⊢
        have q := (md_fst_spec (sp_q S) (S 4 0) 0).2.2.2 (by omega)
        have q1 : sp_j S (md_fst (sp_q S) (S 4 0) 0) < S 4 0 := by unfold sp_q at q ⊢; simpa using q
        have q2 : md_fst (sp_q S) (S 4 0) 0 + 1 ≤ sp_j S (md_fst (sp_q S) (S 4 0) 0) := (md_fst_spec _ _ _).1
        obtain ⟨a, b, c, d⟩ := sp_f2 (md_fst (sp_q S) (S 4 0) 0) (by omega) (sp_j S (md_fst (sp_q S) (S 4 0) 0)) (by omega) (by omega)
        rw [un _ _ _ c d eS a, b]
        exact e1.cr hc hk
      · rw [if_neg c2] at eS ⊢
        have : fX6_spare x M = some (-1, M1) := by
          unfold fX6_spare
          rw [if_neg (by rcases hx with e | e | e <;> subst e <;> decide), if_pos (by rcases hx with e | e | e <;> subst e <;> decide), e2, Option.bind_some, eS, if_pos rfl]
        rw [this]
        exact e1.cr hc hk
theorem rs_one {S : md_T} {N0 : mm_M} (ho : st_o S) (hn : RN S N0) (x : Int32) (k : mm_M → Option (Int32 × mm_M)) : ∀ f i n (N : mm_M), i + f = S 4 0 → f < n → NS S N0 N → ∃ N', NS S N0 N' ∧ fX7_spareBy_L21 x k n (nI i) N = if md_fst (sp_1 S) f i < S 4 0 then some (sp_a1 x (md_fst (sp_1 S) f i), N') else k N'
  | 0, i, n + 1, N, hi, hn1, h => by
    have o4 := ho.2.1
    refine ⟨N, h, ?_⟩
    rw [fX7_spareBy_L21, h.2.2 13, hn.2.1.1, if_pos (by rw [nI_leI (by omega) (by omega)]; omega), md_fst, if_neg (by omega)]
  | f + 1, i, n + 1, N, hi, hn1, h => by
    have o4 := ho.2.1
    obtain ⟨N1, e1, e2⟩ := rx_spared ho hn h ((1 : Int32) <<< (nI i &&& 31))
    obtain ⟨N2, g1, g2⟩ := rs_one ho hn x k f (i + 1) n N1 (by omega) (by omega) e2
    rw [fX7_spareBy_L21, h.2.2 13, hn.2.1.1, if_neg (by rw [nI_leI (by omega) (by omega)]; omega), e1, Option.bind_some, nI_1, md_fst]
    by_cases c : sp_1 S i = true
    · rw [if_pos c]
      refine ⟨N1, e2, ?_⟩
      rw [if_pos (show i < S 4 0 by omega), show sp_b S ((1 : Int32) <<< (nI i &&& 31)) = true from c]
      unfold sp_a1
      rw [if_pos rfl, if_neg q_10]
      by_cases c1 : x = -1
      · rw [if_pos c1, if_pos c1]
      · rw [if_neg c1, if_neg c1]
        by_cases c2 : x = 0
        · rw [if_pos c2, if_pos c2]
        · rw [if_neg c2, if_neg c2]
    · rw [if_neg c]
      refine ⟨N2, g1, ?_⟩
      rw [show sp_b S ((1 : Int32) <<< (nI i &&& 31)) = false from Bool.eq_false_iff.mpr c, ← g2]
      rfl
theorem rs_two1 {S : md_T} {N0 : mm_M} (ho : st_o S) (hn : RN S N0) (x : Int32) (k : mm_M → Option (Int32 × mm_M)) {a : Nat} : ∀ f i n (N : mm_M), i + f = S 4 0 → f < n → NS S N0 N → ∃ N', NS S N0 N' ∧ fX7_spareBy_L78 x (nI a) k n (nI i) N = if md_fst (sp_2 S a) f i < S 4 0 then some (sp_a2 x a (md_fst (sp_2 S a) f i), N') else k N'
  | 0, i, n + 1, N, hi, hn1, h => by
    have o4 := ho.2.1
    refine ⟨N, h, ?_⟩
    rw [fX7_spareBy_L78, h.2.2 13, hn.2.1.1, if_pos (by rw [nI_leI (by omega) (by omega)]; omega), md_fst, if_neg (by omega)]
  | f + 1, i, n + 1, N, hi, hn1, h => by
    have o4 := ho.2.1
    obtain ⟨N1, e1, e2⟩ := rx_spared ho hn h (((1 : Int32) <<< (nI a &&& 31)) ||| ((1 : Int32) <<< (nI i &&& 31)))
    obtain ⟨N2, g1, g2⟩ := rs_two1 ho hn x k (a := a) f (i + 1) n N1 (by omega) (by omega) e2
    rw [fX7_spareBy_L78, h.2.2 13, hn.2.1.1, if_neg (by rw [nI_leI (by omega) (by omega)]; omega), e1, Option.bind_some, nI_1, md_fst]
    by_cases c : sp_2 S a i = true
    · rw [if_pos c]
      refine ⟨N1, e2, ?_⟩
      rw [if_pos (show i < S 4 0 by omega), show sp_b S (((1 : Int32) <<< (nI a &&& 31)) ||| ((1 : Int32) <<< (nI i &&& 31))) = true from c]
      unfold sp_a2
      rw [if_pos rfl, if_neg q_10]
      by_cases c1 : x = -1
      · rw [if_pos c1, if_pos c1]
      · rw [if_neg c1, if_neg c1]
        by_cases c2 : x = 0
        · rw [if_pos c2, if_pos c2]
        · rw [if_neg c2, if_neg c2]
    · rw [if_neg c]
      refine ⟨N2, g1, ?_⟩
      rw [show sp_b S (((1 : Int32) <<< (nI a &&& 31)) ||| ((1 : Int32) <<< (nI i &&& 31))) = false from Bool.eq_false_iff.mpr c, ← g2]
      rfl
theorem rs_two {S : md_T} {N0 : mm_M} (ho : st_o S) (hn : RN S N0) (x : Int32) : ∀ f i n (N : mm_M), i + f = S 4 0 → f < n → NS S N0 N → ∃ N', NS S N0 N' ∧ fX7_spareBy_L66 x n (nI i) N = some (if md_fst (sp_q S) f i < S 4 0 then sp_a2 x (md_fst (sp_q S) f i) (sp_j S (md_fst (sp_q S) f i)) else -1, N')
  | 0, i, n + 1, N, hi, hn1, h => by
    have o4 := ho.2.1
    refine ⟨N, h, ?_⟩
    rw [fX7_spareBy_L66, h.2.2 13, hn.2.1.1, if_pos (by rw [nI_leI (by omega) (by omega)]; omega), md_fst, if_neg (by omega)]
  | f + 1, i, n + 1, N, hi, hn1, h => by
    have o4 := ho.2.1
    obtain ⟨N1, e1, e2⟩ := rs_two1 ho hn x (fun M15 => fX7_spareBy_L66 x n (nI (i + 1)) M15) (a := i) (S 4 0 - (i + 1)) (i + 1) 1000 N (by omega) (by omega) h
    obtain ⟨N2, g1, g2⟩ := rs_two ho hn x f (i + 1) n N1 (by omega) (by omega) e1
    rw [fX7_spareBy_L66, h.2.2 13, hn.2.1.1, if_neg (by rw [nI_leI (by omega) (by omega)]; omega), nI_1, e2, md_fst]
    by_cases c : sp_q S i = true
    · have c' : md_fst (sp_2 S i) (S 4 0 - (i + 1)) (i + 1) < S 4 0 := by
        have := c
        unfold sp_q sp_j at this
        simpa using this
      rw [if_pos c, if_pos c']
      refine ⟨N1, e1, ?_⟩
      rw [if_pos (show i < S 4 0 by omega)]
      rfl
    · have c' : ¬ md_fst (sp_2 S i) (S 4 0 - (i + 1)) (i + 1) < S 4 0 := by
        have := c
        unfold sp_q sp_j at this
        simpa using this
      rw [if_neg c, if_neg c']
      exact ⟨N2, g1, g2⟩
theorem NS.w {S : md_T} {N N' : mm_M} (hn : RN S N) (h : NS S N N') : RW N N' ∧ RQ S N' := by
  have w : RW N N' := ⟨fun q hq => h.2.1 q (by omega), fun j _ => h.2.2 j⟩
  exact ⟨w, hn.keep w, h.1⟩
theorem rq_spare {S : md_T} {N : mm_M} (ho : st_o S) (h : RQ S N) (x : Int32) : ∃ N', fX7_spareBy x N = some (mq_spare S x, N') ∧ RW N N' ∧ RQ S N' := by
  have o4 := ho.2.1
  have ns0 : NS S N N := ⟨h.2, fun _ _ => rfl, fun _ => rfl⟩
  obtain ⟨N1, e1, e2⟩ := rx_spared ho h.1 ns0 0
  unfold fX7_spareBy mq_spare
  rw [e1, Option.bind_some]
  by_cases c : sp_b S 0 = true
  · refine ⟨N1, ?_, e2.w h.1⟩
    rw [if_pos c, if_pos c]
    by_cases c1 : x = -1
    · rw [if_neg q_10, if_pos c1, if_pos c1]
    · rw [if_neg q_10, if_neg c1, if_neg c1]
  · rw [if_neg c, if_neg c, if_pos rfl, q_lit 0]
    obtain ⟨N2, g1, g2⟩ := rs_one ho h.1 x (fun M8 => fX7_spareBy_L66 x 1000 (nI 0) M8) (S 4 0) 0 1000 N1 (by omega) (by omega) e2
    rw [g2]
    by_cases c1 : md_fst (sp_1 S) (S 4 0) 0 < S 4 0
    · rw [if_pos c1, if_pos c1]; exact ⟨N2, rfl, g1.w h.1⟩
    · rw [if_neg c1, if_neg c1]
      obtain ⟨N3, k1, k2⟩ := rs_two ho h.1 x (S 4 0) 0 1000 N2 (by omega) (by omega) g1
      exact ⟨N3, k2, k1.w h.1⟩
theorem op_spare {M N : mm_M} (h : Rel M N) (x : Int32) : AG (fX6_spare x M) (fX7_spare x N) := by
  obtain ⟨S, ho, hc, hn, hk, hx⟩ := h
  obtain ⟨N1, f1, f2, f3⟩ := rl_find ho hn
  have m1 : (-1 : Int64).toInt = -1 := by decide
  have p1 : (1 : Int64).toInt = 1 := by decide
  have m1' : (-1 : Int32).toInt = -1 := by decide
  have p1' : (1 : Int32).toInt = 1 := by decide
  have p0' : (0 : Int32).toInt = 0 := by decide
  by_cases c : (-1 : Int64).toInt ≤ x.toInt ∧ x.toInt ≤ (1 : Int64).toInt
  · have hx3 : x = -1 ∨ x = 0 ∨ x = 1 := by
      rcases (show x.toInt = -1 ∨ x.toInt = 0 ∨ x.toInt = 1 by omega) with e | e | e
      · exact Or.inl (Int32.toInt_inj.mp (by rw [e, m1']))
      · exact Or.inr (Or.inl (Int32.toInt_inj.mp (by rw [e, p0'])))
      · exact Or.inr (Or.inr (Int32.toInt_inj.mp (by rw [e, p1'])))
    obtain ⟨N2, g1, g2, g3⟩ := rq_spare ho f3.1 x
    refine ag_of ho hn hx (cr_spare ho hc hk hx3) ⟨N2, ?_, f2.tr g2⟩
    unfold fX7_spare
    rw [f1, Option.bind_some, q_in, if_pos c, if_neg q_10, g1]
    rfl
  · unfold fX6_spare fX7_spare
    rw [f1, Option.bind_some, q_in, if_neg c, if_pos rfl]
    by_cases c1 : x < -1
    · rw [if_pos c1]
      exact ag_of ho hn hx (cr_rf hc hk) (nr_of f2)
    · rw [if_neg c1, if_neg (by rw [Int32.lt_iff_toInt_lt] at c1; rw [Int32.le_iff_toInt_le]; omega)]
      exact ag_of ho hn hx (cr_rf hc hk) (nr_of f2)
