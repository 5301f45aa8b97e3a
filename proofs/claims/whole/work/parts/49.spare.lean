/-! spare -/
def sp_b (S : md_T) (x : Int32) : Bool := decide (mq_many (pa_T S) (st_E S (fun j => !(bt x j))) 3 = 0)
def sp_1 (S : md_T) (i : Nat) : Bool := sp_b S ((1 : Int32) <<< (nI i &&& 31))
def sp_2 (S : md_T) (i j : Nat) : Bool := sp_b S (((1 : Int32) <<< (nI i &&& 31)) ||| ((1 : Int32) <<< (nI j &&& 31)))
def sp_j (S : md_T) (i : Nat) : Nat := md_fst (sp_2 S i) (S 4 0 - (i + 1)) (i + 1)
def sp_q (S : md_T) (i : Nat) : Bool := decide (sp_j S i < S 4 0)
theorem cx_spared {S : md_T} {M0 M : mm_M} (ho : st_o S) (hc : RC S M0) (h : CT M0 M) (x : Int32) : ∃ M', fX6_losesNothingWithout x M = some (if sp_b S x = true then 1 else 0, M') ∧ CT M0 M' := by
  have o4 := ho.2.1
  have ce := h.ce (show CE S M0 from hc.2.2.1)
  have t24 : cc_T (pa_T S) 24 M := hc.2.1.keep (fun q a b => h q (by omega))
  obtain ⟨M2, e1, e2, e3⟩ := cx_run (st_ok ho) (Or.inl rfl) ho ce t24 ((fX2_all M) &&& (x ^^^ (-1)))
  have eE : st_E S (fun j => bt ((fX2_all M) &&& (x ^^^ (-1))) j) = st_E S (fun j => !(bt x j)) := by
    refine st_E_congr (fun j hj => ?_)
    unfold fX2_all
    rw [ce.1, b_and, q_all (S 4 0) (by omega) j (by omega), q_not (by omega)]
    simp [hj]
  rw [eE] at e3
  refine ⟨M2, ?_, h.tr (fun q hq => e2 q (by omega))⟩
  unfold fX6_losesNothingWithout sp_b
  rw [e1, Option.bind_some, q_lit 3, cq_many e3 (by omega), Option.bind_some]
  by_cases c : mq_many (pa_T S) (st_E S (fun j => !(bt x j))) 3 = 0
  · rw [if_pos c, if_pos (by simpa using c)]
  · rw [if_neg c, if_neg (by simpa using c)]
def NS (S : md_T) (N0 N : mm_M) : Prop := rr_T (pa_T S) N ∧ (∀ q, (1 ≤ q ∧ q ≤ 6) ∨ q = 10 ∨ 17 < q → N q = N0 q) ∧ ∀ j, N 0 j = N0 0 j
theorem rx_spared {S : md_T} {N0 N : mm_M} (ho : st_o S) (hn : RN S N0) (h : NS S N0 N) (x : Int32) : ∃ N', fX7_isSpared x N = some (if sp_b S x = true then 1 else 0, N') ∧ NS S N0 N' := by
  obtain ⟨h1, h2, h3⟩ := h
  have ne : NE S (mm_wr N 0 15 x) := NE.k (N := N0) (by rw [q_wr_n2 (by decide), h3 13]) (by rw [q_wr_ne (by decide), h2 10 (by omega)]) hn.2.1
  obtain ⟨N2, e1, e2, e3⟩ := rx_runs ho (st_ok ho) h1.g ne
  have eE : st_E S (fun j => !(bt (mm_wr N 0 15 x 0 15) j)) = st_E S (fun j => !(bt x j)) := st_E_congr (fun j hj => by rw [q_wr_eq])
  rw [eE] at e3
  have s1 : rr_s (pa_T S) (md_tr (pa_T S) (st_E S (fun j => !(bt x j))) 24) (mm_wr N2 0 15 0) := by
    have := e3.2.2.1
    unfold rr_s at this ⊢
    simp (disch := omega) only [q_wr_ne]
    exact this
  refine ⟨mm_wr N2 0 15 0, ?_, e3.2.1.g, fun q hq => by rw [q_wr_ne (by omega), e2 q (by omega), q_wr_ne (by omega)]; exact h2 q hq, fun j => ?_⟩
  · unfold fX7_isSpared sp_b
    rw [q_pf, Option.bind_some, e1, Option.bind_some, q_pf, Option.bind_some, q_lit 3, rq_many (st_ok ho) (by rw [q_wr_n2 (by decide)]; exact e3.2.1.2.1) s1 (by omega), Option.bind_some]
    by_cases c : mq_many (pa_T S) (st_E S (fun j => !(bt x j))) 3 = 0
    · rw [if_pos c, if_pos (by simpa using c)]
    · rw [if_neg c, if_neg (by simpa using c)]
  · by_cases c : j = 15
    · rw [c, q_wr_eq, hn.2.2.2.1]; rfl
    · rw [q_wr_n2 c, e2 0 (by omega), q_wr_n2 c]; exact h3 j
theorem cs_one {S : md_T} {M0 : mm_M} (ho : st_o S) (hc : RC S M0) (k : mm_M → Option (Int32 × mm_M)) : ∀ f i n (M : mm_M), i + f = S 4 0 → f < n → CT M0 M → ∃ M', CT M0 M' ∧ fX6_sparedEchoes_L12 k n (nI i) M = if md_fst (sp_1 S) f i < S 4 0 then some ((1 : Int32) <<< (nI (md_fst (sp_1 S) f i) &&& 31), M') else k M'
  | 0, i, n + 1, M, hi, hn, h => by
    have o4 := ho.2.1
    refine ⟨M, h, ?_⟩
    rw [fX6_sparedEchoes_L12, (h.ce (show CE S M0 from hc.2.2.1)).1, if_pos (by rw [nI_leI (by omega) (by omega)]; omega), md_fst, if_neg (by omega)]
  | f + 1, i, n + 1, M, hi, hn, h => by
    have o4 := ho.2.1
    obtain ⟨M1, e1, e2⟩ := cx_spared ho hc h ((1 : Int32) <<< (nI i &&& 31))
    obtain ⟨M2, g1, g2⟩ := cs_one ho hc k f (i + 1) n M1 (by omega) (by omega) e2
    rw [fX6_sparedEchoes_L12, (h.ce (show CE S M0 from hc.2.2.1)).1, if_neg (by rw [nI_leI (by omega) (by omega)]; omega), e1, Option.bind_some, nI_1, md_fst]
    by_cases c : sp_1 S i = true
    · rw [if_pos c]
      refine ⟨M1, e2, ?_⟩
      rw [if_pos (show i < S 4 0 by omega), show sp_b S ((1 : Int32) <<< (nI i &&& 31)) = true from c]
      rfl
    · rw [if_neg c]
      refine ⟨M2, g1, ?_⟩
      rw [show sp_b S ((1 : Int32) <<< (nI i &&& 31)) = false from Bool.eq_false_iff.mpr c, ← g2]
      rfl
theorem cs_two1 {S : md_T} {M0 : mm_M} (ho : st_o S) (hc : RC S M0) (k : mm_M → Option (Int32 × mm_M)) {a : Nat} : ∀ f i n (M : mm_M), i + f = S 4 0 → f < n → CT M0 M → ∃ M', CT M0 M' ∧ fX6_sparedEchoes_L60 (nI a) k n (nI i) M = if md_fst (sp_2 S a) f i < S 4 0 then some (((1 : Int32) <<< (nI a &&& 31)) ||| ((1 : Int32) <<< (nI (md_fst (sp_2 S a) f i) &&& 31)), M') else k M'
  | 0, i, n + 1, M, hi, hn, h => by
    have o4 := ho.2.1
    refine ⟨M, h, ?_⟩
    rw [fX6_sparedEchoes_L60, (h.ce (show CE S M0 from hc.2.2.1)).1, if_pos (by rw [nI_leI (by omega) (by omega)]; omega), md_fst, if_neg (by omega)]
  | f + 1, i, n + 1, M, hi, hn, h => by
    have o4 := ho.2.1
    obtain ⟨M1, e1, e2⟩ := cx_spared ho hc h (((1 : Int32) <<< (nI a &&& 31)) ||| ((1 : Int32) <<< (nI i &&& 31)))
    obtain ⟨M2, g1, g2⟩ := cs_two1 ho hc k (a := a) f (i + 1) n M1 (by omega) (by omega) e2
    rw [fX6_sparedEchoes_L60, (h.ce (show CE S M0 from hc.2.2.1)).1, if_neg (by rw [nI_leI (by omega) (by omega)]; omega), e1, Option.bind_some, nI_1, md_fst]
    by_cases c : sp_2 S a i = true
    · rw [if_pos c]
      refine ⟨M1, e2, ?_⟩
      rw [if_pos (show i < S 4 0 by omega), show sp_b S (((1 : Int32) <<< (nI a &&& 31)) ||| ((1 : Int32) <<< (nI i &&& 31))) = true from c]
      rfl
    · rw [if_neg c]
      refine ⟨M2, g1, ?_⟩
      rw [show sp_b S (((1 : Int32) <<< (nI a &&& 31)) ||| ((1 : Int32) <<< (nI i &&& 31))) = false from Bool.eq_false_iff.mpr c, ← g2]
      rfl
theorem cs_two {S : md_T} {M0 : mm_M} (ho : st_o S) (hc : RC S M0) : ∀ f i n (M : mm_M), i + f = S 4 0 → f < n → CT M0 M → ∃ M', CT M0 M' ∧ fX6_sparedEchoes_L45 n (nI i) M = some (if md_fst (sp_q S) f i < S 4 0 then ((1 : Int32) <<< (nI (md_fst (sp_q S) f i) &&& 31)) ||| ((1 : Int32) <<< (nI (sp_j S (md_fst (sp_q S) f i)) &&& 31)) else -1, M')
  | 0, i, n + 1, M, hi, hn, h => by
    have o4 := ho.2.1
    refine ⟨M, h, ?_⟩
    rw [fX6_sparedEchoes_L45, (h.ce (show CE S M0 from hc.2.2.1)).1, if_pos (by rw [nI_leI (by omega) (by omega)]; omega), md_fst, if_neg (by omega)]
  | f + 1, i, n + 1, M, hi, hn, h => by
    have o4 := ho.2.1
    obtain ⟨M1, e1, e2⟩ := cs_two1 ho hc (fun M11 => fX6_sparedEchoes_L45 n (nI (i + 1)) M11) (a := i) (S 4 0 - (i + 1)) (i + 1) 1000 M (by omega) (by omega) h
    obtain ⟨M2, g1, g2⟩ := cs_two ho hc f (i + 1) n M1 (by omega) (by omega) e1
    rw [fX6_sparedEchoes_L45, (h.ce (show CE S M0 from hc.2.2.1)).1, if_neg (by rw [nI_leI (by omega) (by omega)]; omega), nI_1, e2, md_fst]
    by_cases c : sp_q S i = true
    · have c' : md_fst (sp_2 S i) (S 4 0 - (i + 1)) (i + 1) < S 4 0 := by
        have := c
        unfold sp_q sp_j at this
        simpa using this
      rw [if_pos c, if_pos c']
      refine ⟨M1, e1, ?_⟩
      rw [if_pos (show i < S 4 0 by omega)]
      rfl
    · have c' : ¬ md_fst (sp_2 S i) (S 4 0 - (i + 1)) (i + 1) < S 4 0 := by
        have := c
        unfold sp_q sp_j at this
        simpa using this
      rw [if_neg c, if_neg c']
      exact ⟨M2, g1, g2⟩
def sp_m (S : md_T) : Int32 := if sp_b S 0 = true then 0 else if md_fst (sp_1 S) (S 4 0) 0 < S 4 0 then (1 : Int32) <<< (nI (md_fst (sp_1 S) (S 4 0) 0) &&& 31) else if md_fst (sp_q S) (S 4 0) 0 < S 4 0 then ((1 : Int32) <<< (nI (md_fst (sp_q S) (S 4 0) 0) &&& 31)) ||| ((1 : Int32) <<< (nI (sp_j S (md_fst (sp_q S) (S 4 0) 0)) &&& 31)) else -1
theorem cs_all {S : md_T} {M : mm_M} (ho : st_o S) (hc : RC S M) : ∃ M', CT M M' ∧ fX6_sparedEchoes M = some (sp_m S, M') := by
  have o4 := ho.2.1
  obtain ⟨M1, e1, e2⟩ := cx_spared ho hc CT.rf 0
  unfold fX6_sparedEchoes sp_m
  rw [e1, Option.bind_some]
  by_cases c : sp_b S 0 = true
  · rw [if_pos c, if_pos c]
    exact ⟨M1, e2, by rw [if_neg q_10]⟩
  · rw [if_neg c, if_neg c, if_pos rfl, q_lit 0]
    obtain ⟨M2, g1, g2⟩ := cs_one ho hc (fun M6 => fX6_sparedEchoes_L45 1000 (nI 0) M6) (S 4 0) 0 1000 M1 (by omega) (by omega) e2
    rw [g2]
    by_cases c1 : md_fst (sp_1 S) (S 4 0) 0 < S 4 0
    · rw [if_pos c1, if_pos c1]; exact ⟨M2, g1, rfl⟩
    · rw [if_neg c1, if_neg c1]
      exact cs_two ho hc (S 4 0) 0 1000 M2 (by omega) (by omega) g1
theorem sp_f1 : ∀ i, i < 8 → ¬ ((1 : Int32) <<< (nI i &&& 31)) = -1 ∧ fJ6_bitCount_0f7a4 ((1 : Int32) <<< (nI i &&& 31)) = 1 ∧ fX6_lowestBit ((1 : Int32) <<< (nI i &&& 31)) = some (nI i) ∧ fX6_lowestBit (((1 : Int32) <<< (nI i &&& 31)) &&& (((1 : Int32) <<< (nI i &&& 31)) - 1)) = some (-1) := by decide +kernel
theorem sp_f2 : ∀ i, i < 8 → ∀ j, j < 8 → i < j → ¬ (((1 : Int32) <<< (nI i &&& 31)) ||| ((1 : Int32) <<< (nI j &&& 31))) = -1 ∧ fJ6_bitCount_0f7a4 (((1 : Int32) <<< (nI i &&& 31)) ||| ((1 : Int32) <<< (nI j &&& 31))) = 2 ∧ fX6_lowestBit (((1 : Int32) <<< (nI i &&& 31)) ||| ((1 : Int32) <<< (nI j &&& 31))) = some (nI i) ∧ fX6_lowestBit ((((1 : Int32) <<< (nI i &&& 31)) ||| ((1 : Int32) <<< (nI j &&& 31))) &&& ((((1 : Int32) <<< (nI i &&& 31)) ||| ((1 : Int32) <<< (nI j &&& 31))) - 1)) = some (nI j) := by decide +kernel
theorem sp_f0 : fJ6_bitCount_0f7a4 0 = 0 ∧ fX6_lowestBit 0 = some (-1) ∧ fX6_lowestBit ((0 : Int32) &&& (0 - 1)) = some (-1) := by decide +kernel
