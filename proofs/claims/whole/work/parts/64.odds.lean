/-! chance: the class's half -/
theorem lo_zero (k : mm_M → Option mm_M) : ∀ f i n (M : mm_M), i + f = 108 → f < n → ∃ M', fX6_learnOdds_L10 k n (nI i) M = k M' ∧ (∀ q, q ≠ 69 → M' q = M q) ∧ (∀ j, j < i → M' 69 j = M 69 j) ∧ ∀ j, i ≤ j → j < 108 → M' 69 j = nI 0
  | 0, i, n + 1, M, hi, hn => ⟨M, by rw [fX6_learnOdds_L10, if_pos (by rw [q_lit 108, nI_leI (by omega) (by omega)]; omega)], fun _ _ => rfl, fun _ _ => rfl, fun j a b => by omega⟩
  | f + 1, i, n + 1, M, hi, hn => by
    obtain ⟨M', e1, e2, e3, e4⟩ := lo_zero k f (i + 1) n (mm_wr M 69 i 0) (by omega) (by omega)
    refine ⟨M', ?_, fun q hq => by rw [e2 q hq, q_wr_ne hq], fun j hj => by rw [e3 j (by omega), q_wr_n2 (by omega)], fun j a b => ?_⟩
    · rw [fX6_learnOdds_L10, if_neg (by rw [q_lit 108, nI_leI (by omega) (by omega)]; omega), q_wa (by omega) (by omega), Option.bind_some, nI_1]
      exact e1
    · by_cases c : j = i
      · rw [c, e3 i (by omega), q_wr_eq]; rfl
      · exact e4 j (by omega) b
def OT (S : md_T) (m : Nat) (M : mm_M) : Prop := ∀ w, w < pa_T S 0 3 → ∀ z, z < 9 → M 69 (w * 9 + z) = nI (od_n S w z m)
theorem lo_fill {S : md_T} (ho : st_o S) {m z0 : Nat} (hm : m < 256) (hz : z0 < 9) (hb : fJ6_bitCount_0f7a4 (nI m) = nI z0) (k : mm_M → Option mm_M) : ∀ f w n (M : mm_M), w + f = pa_T S 0 3 → f < n → M 24 3 = nI (pa_T S 0 3) → cq_at 55 (pa_T S) (st_E S (fun i => bt (nI m) i)) M → (∀ v, v < pa_T S 0 3 → ∀ z, z < 9 → M 69 (v * 9 + z) = nI (od_n S v z (if v < w then m + 1 else m))) → ∃ M', fX6_learnOdds_L68 (nI m) (nI z0) k n (nI w) M = k M' ∧ (∀ q, q ≠ 69 → M' q = M q) ∧ OT S (m + 1) M'
  | 0, w, n + 1, M, hw, hn, h3, hq, ht => by
    have o1 := (st_ok ho).2.1
    exact ⟨M, by rw [fX6_learnOdds_L68, h3, if_pos (by rw [nI_leI (by omega) (by omega)]; omega)], fun _ _ => rfl, fun v hv z hz => by rw [ht v hv z hz, if_pos (by omega)]⟩
  | f + 1, w, n + 1, M, hw, hn, h3, hq, ht => by
    have o1 := (st_ok ho).2.1
    have es : fX1_stateBehind 55 (23 : Int32) (nI w) M = some (nI (md_tr (pa_T S) (st_E S (fun i => bt (nI m) i)) 24 1 w)) := cq_state hq (show 23 < 24 by omega) (show w < pa_T S 0 3 by omega)
    have b4 := ((md_tr_ok (E := st_E S (fun i => bt (nI m) i)) (st_ok ho) 24).1 w (by omega)).1
    have un : fX6_learnOdds_L68 (nI m) (nI z0) k (n + 1) (nI w) M = if md_tr (pa_T S) (st_E S (fun i => bt (nI m) i)) 24 1 w = 1 then fX6_learnOdds_L68 (nI m) (nI z0) k n (nI (w + 1)) (mm_wr M 69 (w * 9 + z0) (nI (od_n S w z0 m + 1))) else fX6_learnOdds_L68 (nI m) (nI z0) k n (nI (w + 1)) M := by
      have er := ht w (by omega) z0 hz
      rw [if_neg (by omega)] at er
      rw [fX6_learnOdds_L68, h3, if_neg (by rw [nI_leI (by omega) (by omega)]; omega), es, Option.bind_some, q_lit 9, pk_mul, nI_add, q_rd (by omega) (by omega), Option.bind_some, q_wa (by omega) (by omega), Option.bind_some, er, nI_1, nI_1]
      exact q_ifc (nI_eq (b := 1) (by omega) (by decide))
    rw [un]
    by_cases c : md_tr (pa_T S) (st_E S (fun i => bt (nI m) i)) 24 1 w = 1
    · rw [if_pos c]
      obtain ⟨M', e1, e2, e3⟩ := lo_fill ho hm hz hb k f (w + 1) n (mm_wr M 69 (w * 9 + z0) (nI (od_n S w z0 m + 1))) (by omega) (by omega) (by rw [q_wr_ne (by decide)]; exact h3) (hq.k (fun q a b => q_wr_ne (by omega))) (fun v hv z hz' => by
        rw [q_wr]
        by_cases c2 : v = w ∧ z = z0
        · rw [if_pos ⟨rfl, by rw [c2.1, c2.2]⟩, if_pos (by omega), c2.1, c2.2, od_n, if_pos ⟨hb, c⟩]
        · rw [if_neg (fun q => c2 ⟨by omega, by omega⟩), ht v hv z hz']
          by_cases c3 : v = w
          · subst c3
            rw [if_neg (by omega), if_pos (by omega), od_n, if_neg (fun q => c2 ⟨rfl, by
              have q1 := q.1
              rw [hb, nI_eq (by omega) (by omega)] at q1
              exact q1.symm⟩)]
            rfl
          · by_cases c4 : v < w
            · rw [if_pos c4, if_pos (by omega)]
            · rw [if_neg c4, if_neg (by omega)])
      exact ⟨M', e1, fun q hq => by rw [e2 q hq, q_wr_ne hq], e3⟩
    · rw [if_neg c]
      exact lo_fill ho hm hz hb k f (w + 1) n M (by omega) (by omega) h3 hq (fun v hv z hz' => by
        rw [ht v hv z hz']
        by_cases c3 : v = w
        · subst c3
          rw [if_neg (by omega), if_pos (by omega), od_n, if_neg (fun q => c q.2)]
          rfl
        · by_cases c4 : v < w
          · rw [if_pos c4, if_pos (by omega)]
          · rw [if_neg c4, if_neg (by omega)])
theorem lo_all {S : md_T} {M : mm_M} (ho : st_o S) (h : M 17 2 = nI (S 4 0)) : fX2_all M = nI (2 ^ S 4 0 - 1) := by
  have o4 := ho.2.1
  have p := pc_2 (show S 4 0 < 9 by omega)
  unfold fX2_all
  rw [h, pc_all _ (by omega)]
  exact pk_sub (b := 1) (by omega)
theorem lo_L {S : md_T} {M0 : mm_M} (ho : st_o S) (hc : RC S M0) (k : mm_M → Option mm_M) : ∀ f m n (M : mm_M), m + f = 2 ^ S 4 0 → f < n → (∀ q, q < 55 ∨ q = 68 → M q = M0 q) → OT S m M → ∃ M', fX6_learnOdds_L34 k n (nI m) M = k M' ∧ (∀ q, q < 55 ∨ q = 68 → M' q = M0 q) ∧ OT S (2 ^ S 4 0) M'
  | 0, m, n + 1, M, hm, hn, hM, ht => by
    have o4 := ho.2.1
    have p := pc_2 (show S 4 0 < 9 by omega)
    have e17 : M 17 2 = nI (S 4 0) := by rw [hM 17 (by omega)]; exact hc.2.2.1.1
    exact ⟨M, by rw [fX6_learnOdds_L34, lo_all ho e17, if_pos (by rw [nI_ltI (by omega) (by omega)]; omega)], hM, by rw [show 2 ^ S 4 0 = m by omega]; exact ht⟩
  | f + 1, m, n + 1, M, hm, hn, hM, ht => by
    have o4 := ho.2.1
    have p := pc_2 (show S 4 0 < 9 by omega)
    have ce : CE S M := by
      have := hc.2.2.1
      unfold CE
      rw [hM 17 (by omega), hM 18 (by omega), hM 19 (by omega)]
      exact this
    have t24 : cc_T (pa_T S) 24 M := hc.2.1.keep (fun q a b => hM q (by omega))
    obtain ⟨M1, e1, e2, e3⟩ := cx_run (st_ok ho) (Or.inl rfl) ho ce t24 (nI m)
    have hp := pc_le m (S 4 0)
    obtain ⟨M2, g1, g2, g3⟩ := lo_fill ho (show m < 256 by omega) (show pc_n m (S 4 0) < 9 by omega) (pc_bc (S 4 0) (by omega) m (by omega)) (fun M12 => fX6_learnOdds_L34 k n (nI m + 1) M12) (pa_T S 0 3) 0 1000 M1 (by omega) (by have := (st_ok ho).2.1; omega) (by rw [e2 24 (by omega)]; exact t24.2.1) e3 (fun v hv z hz => by rw [e2 69 (by omega), if_neg (by omega)]; exact ht v hv z hz)
    obtain ⟨M3, k1, k2, k3⟩ := lo_L ho hc k f (m + 1) n M2 (by omega) (by omega) (fun q hq => by rw [g2 q (by omega), e2 q (by omega)]; exact hM q hq) g3
    refine ⟨M3, ?_, k2, k3⟩
    rw [fX6_learnOdds_L34, lo_all ho ce.1, if_neg (by rw [nI_ltI (by omega) (by omega)]; omega), e1, Option.bind_some, pc_bc (S 4 0) (by omega) m (by omega), q_lit 0, g1, nI_1]
    exact k1
theorem cl_odds {S : md_T} {M : mm_M} (ho : st_o S) (hc : RC S M) (hk : KC S M) : ∃ M', fX6_learnOdds M = some M' ∧ CQ M M' ∧ RC S M' ∧ KC S M' ∧ ∀ w, w < pa_T S 0 3 → ∀ z, z ≤ S 4 0 → M' 69 (w * 9 + z) = nI (od_n S w z (2 ^ S 4 0)) := by
  have o4 := ho.2.1
  have p := pc_2 (show S 4 0 < 9 by omega)
  have o1 := (st_ok ho).2.1
  rcases hk.2 with h0 | ⟨h1, h2⟩
  · obtain ⟨M1, e1, e2, -, e4⟩ := lo_zero (fun M4 => fX6_learnOdds_L34 (fun M13 => (mm_pf M13 0 11 (1 : Int32)).bind fun M14 => some M14) 1000 (0 : Int32) M4) 108 0 1000 M (by omega) (by omega)
    obtain ⟨M2, g1, g2, g3⟩ := lo_L ho hc (fun M13 => (mm_pf M13 0 11 (1 : Int32)).bind fun M14 => some M14) (2 ^ S 4 0) 0 1000 M1 (by omega) (by omega) (fun q hq => e2 q (by omega)) (fun w hw z hz => by rw [e4 _ (by omega) (by omega)]; rfl)
    have q : CQ M (mm_wr M2 0 11 1) := ⟨fun q a b => by rw [q_wr_ne (by omega), g2 q (by omega)], fun j a b => by rw [q_wr_n2 b, g2 0 (by omega)]⟩
    have t : ∀ w, w < pa_T S 0 3 → ∀ z, z ≤ S 4 0 → mm_wr M2 0 11 1 69 (w * 9 + z) = nI (od_n S w z (2 ^ S 4 0)) := fun w hw z hz => by rw [q_wr_ne (by decide)]; exact g3 w hw z (by omega)
    refine ⟨mm_wr M2 0 11 1, ?_, q, hc.keep q.1, ⟨?_, Or.inr ⟨q_wr_eq, t⟩⟩, t⟩
    · unfold fX6_learnOdds
      rw [h0, if_pos (show nI 0 = 0 from rfl)]
      exact e1.trans g1
    · have k1 := hk.1
      unfold KC1 cc_tr at k1 ⊢
      rw [q_wr_n2 (by decide), q_wr_ne (by decide), q_wr_ne (by decide), q_wr_ne (by decide), q_wr_ne (by decide), g2 0 (by omega), g2 42 (by omega), g2 (42 + 9) (by omega), g2 (42 + 10) (by omega), g2 (42 + 11) (by omega)]
      exact k1
  · unfold fX6_learnOdds
    rw [h1, if_neg (by decide)]
    exact ⟨M, rfl, CQ.rf, hc, hk, h2⟩
theorem ch_L {S : md_T} {M : mm_M} {c w : Nat} {x3 x4 : Int32} (ho : st_o S) (hc : c ≤ 16) (hw : w < 12) (h17 : M 17 2 = nI (S 4 0)) (ht : ∀ z, z ≤ S 4 0 → M 69 (w * 9 + z) = nI (od_n S w z (2 ^ S 4 0))) (k : Int64 → Option (Int64 × mm_M)) : ∀ f z n, z + f = S 4 0 + 1 → f < n → fX6_chance_L56 (nI c) (nI w) x3 x4 M k n (lN (sm_s (fun z => od_n S w z (2 ^ S 4 0) * ch_g c (S 4 0) z) z)) (nI z) = k (lN (sm_s (fun z => od_n S w z (2 ^ S 4 0) * ch_g c (S 4 0) z) (S 4 0 + 1)))
  | 0, z, n + 1, hz, hn => by
    have o4 := ho.2.1
    rw [fX6_chance_L56, h17, if_pos (by rw [nI_ltI (by omega) (by omega)]; omega), show z = S 4 0 + 1 by omega]
  | f + 1, z, n + 1, hz, hn => by
    have o4 := ho.2.1
    have p := pc_2 (show S 4 0 < 9 by omega)
    have hle := od_le S w z (2 ^ S 4 0)
    have ih := ch_L (x3 := x3) (x4 := x4) ho hc hw h17 ht k f (z + 1) n (by omega) (by omega)
    rw [fX6_chance_L56, h17, if_neg (by rw [nI_ltI (by omega) (by omega)]; omega), q_lit 9, pk_mul, nI_add, q_rd (by omega) (by omega), Option.bind_some, ht z (by omega), q_lit 16, pk_sub (by omega), pk_sub (by omega), nI_l (by omega), nI_l (by omega), nI_l (by omega), pw_p (by omega), Option.bind_some, pw_p (by omega), Option.bind_some, lN_mul, lN_mul, lN_add, nI_1, Nat.mul_assoc]
    exact ih
theorem cr_chance {S : md_T} {M : mm_M} (ho : st_o S) (hc : RC S M) (hk : KC S M) {c w z : Nat} (hc16 : c ≤ 16) (hw : w < pa_T S 0 3) (hz : z < 2) : CR S M (fX6_chance (nI c) (nI w) (nI z) M) (lN (ch_r (sm_s (ch_h S w c) (2 ^ S 4 0)) (2 ^ (4 * S 4 0)) z)) := by
  have o4 := ho.2.1
  have o1 := (st_ok ho).2.1
  obtain ⟨M1, e1, e2, e3, e4, e5⟩ := cl_odds ho hc hk
  have e17 : M1 17 2 = nI (S 4 0) := e3.2.2.1.1
  unfold fX6_chance
  rw [hc.2.1.2.1, q_lit 17, q_lit 2, q_outN (by omega) (by omega), q_outN (by omega) (by omega), q_outN (by omega) (by omega), if_pos (show c < 17 by omega), if_pos hw, if_pos hz, if_pos rfl, if_pos rfl, if_pos rfl, e1, Option.bind_some, e17, q_lit 4, pk_mul, pc_long _ (by omega)]
  have l := ch_L (x3 := nI z) (x4 := nI (4 * S 4 0)) ho hc16 (show w < 12 by omega) e17 (e5 w hw) (fun z9 => fX6_chance_L132 (nI z) (nI (4 * S 4 0)) M1 1000 z9 (lN (2 ^ (4 * S 4 0))) (0 : Int32)) (S 4 0 + 1) 0 1000 (by omega) (by omega)
  rw [od_sum ho (2 ^ S 4 0) (Nat.le_refl _)] at l
  have l : fX6_chance_L56 (nI c) (nI w) (nI z) (nI (4 * S 4 0)) M1 (fun z9 => fX6_chance_L132 (nI z) (nI (4 * S 4 0)) M1 1000 z9 (lN (2 ^ (4 * S 4 0))) (0 : Int32)) 1000 0 0 = _ := l
  rw [l, q_lit 0, hv_L hz (by omega) (4 * S 4 0) 0 1000 _ (by omega) (by omega) (ch_le ho hc16)]
  exact ⟨M1, rfl, e2, e3, e4⟩
