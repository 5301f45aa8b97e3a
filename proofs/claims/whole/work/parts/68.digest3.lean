/-! digest: the reference's half -/
theorem rl_three {S : md_T} {N : mm_M} (ho : st_o S) (h : RN S N) : ∃ N1 N2 N3, fX7_readsPeople N = some (pa_e (-1) (pa_f S 0), N1) ∧ fX7_readsWords N1 = some (pa_e (-1) (pa_f S 1), N2) ∧ fX7_readsMeetings N2 = some (pa_e (-1) (pa_f S 2), N3) ∧ RW N N3 ∧ RQ S N3 := by
  obtain ⟨b1, b2, b3, e1, e2, e3, w, q⟩ := rl_reads ho h
  obtain ⟨N1, a1, a2, a3, -⟩ := pr_People (st_tx ho h)
  have w1 : RW N N1 := ⟨fun q hq => a2 q (by omega) (by omega), fun j hj => a3 j (by omega)⟩
  have h1 : b1 = (_, N1) := Option.some.inj (e1.symm.trans a1)
  subst h1
  obtain ⟨N2, c1, c2, c3, -⟩ := pr_Words (st_tx ho (h.keep w1))
  have w2 : RW N1 N2 := ⟨fun q hq => c2 q (by omega) (by omega), fun j hj => c3 j (by omega)⟩
  have h2 : b2 = (_, N2) := Option.some.inj (e2.symm.trans c1)
  subst h2
  obtain ⟨N3, d1, d2, d3, -⟩ := pr_Meetings (st_tx ho ((h.keep w1).keep w2))
  have h3 : b3 = (_, N3) := Option.some.inj (e3.symm.trans d1)
  subst h3
  exact ⟨N1, N2, N3, a1, c1, d1, w, q⟩
theorem dn_1 {S : md_T} {N : mm_M} (ho : st_o S) (hn : RN S N) (kk : Int64 → mm_M → Option (Int64 × mm_M)) (x : Int64) {P : Option (Int64 × mm_M) → Prop} (hP : ∀ N', RW N N' → P (kk (dg_C S x) N')) : P (fX7_digest_L6 kk 1000 x 0 N) := by
  have key := q_loopM (fun n s M i => fX7_digest_L6 kk n s i M) (fun z s => dg_1 s (mq_ct S z)) kk (fun N' => RW N N') 8 (fun n s M1 h => ?_) (fun n i s M1 hi h => ?_) 8 0 1000 x N (by omega) (by omega) RW.rf
  · obtain ⟨M', e1, e2⟩ := key
    have e1 : fX7_digest_L6 kk 1000 x 0 N = _ := e1
    rw [e1]
    exact hP M' e2
  · show fX7_digest_L6 kk (n + 1) s (nI 8) M1 = _
    rw [fX7_digest_L6, if_pos (by decide)]
  · obtain ⟨M2, e1, e2⟩ := rq_count ho (hn.keep h) hi
    refine ⟨M2, ?_, h.tr e2⟩
    show fX7_digest_L6 kk (n + 1) s (nI i) M1 = fX7_digest_L6 kk n _ (nI (i + 1)) M2
    rw [fX7_digest_L6, if_neg (by rw [q_lit 8, nI_leI (by omega) (by omega)]; omega)]
    simp only [Option.bind_some, e1, nI_1]
    rfl
theorem dn_2 {S : md_T} {N : mm_M} (ho : st_o S) (hn : RN S N) (kk : Int64 → mm_M → Option (Int64 × mm_M)) (x : Int64) : ∃ N', fX7_digest_L33 kk 1000 x 0 N = kk (dg_F S x) N' ∧ NDs S N N' := by
  obtain ⟨N1, N2, N3, a1, a2, a3, w, q⟩ := rl_three ho hn
  refine ⟨N3, ?_, w, q⟩
  have t0 : fX7_readsText 0 N = some (pa_e (-1) (pa_f S 0), N1) := by
    unfold fX7_readsText
    rw [if_pos rfl, a1]; rfl
  have t1 : fX7_readsText (nI 1) N1 = some (pa_e (-1) (pa_f S 1), N2) := by
    unfold fX7_readsText
    rw [if_neg (by decide), if_pos (by decide), a2]; rfl
  have t2 : fX7_readsText (nI 2) N2 = some (pa_e (-1) (pa_f S 2), N3) := by
    unfold fX7_readsText
    rw [if_neg (by decide), if_neg (by decide), a3]; rfl
  have s0 : ∀ n s, fX7_digest_L33 kk (n + 1) s 0 N = fX7_digest_L33 kk n (dg_1 s (pa_e (-1) (pa_f S 0))) (nI 1) N1 := by
    intro n s
    rw [fX7_digest_L33, if_neg (by decide), t0, Option.bind_some]
    rfl
  have s1 : ∀ n s, fX7_digest_L33 kk (n + 1) s (nI 1) N1 = fX7_digest_L33 kk n (dg_1 s (pa_e (-1) (pa_f S 1))) (nI 2) N2 := by
    intro n s
    rw [fX7_digest_L33, if_neg (by decide), t1, Option.bind_some, nI_1]
    rfl
  have s2 : ∀ n s, fX7_digest_L33 kk (n + 1) s (nI 2) N2 = fX7_digest_L33 kk n (dg_1 s (pa_e (-1) (pa_f S 2))) (nI 3) N3 := by
    intro n s
    rw [fX7_digest_L33, if_neg (by decide), t2, Option.bind_some, nI_1]
    rfl
  have s3 : ∀ n s, fX7_digest_L33 kk (n + 1) s (nI 3) N3 = kk s N3 := by
    intro n s
    rw [fX7_digest_L33, if_pos (by decide)]
  show fX7_digest_L33 kk (996 + 1 + 1 + 1 + 1) x 0 N = _
  rw [s0, s1, s2, s3]
  rfl
theorem dn_mt {S : md_T} {N : mm_M} (ho : st_o S) (h : RQ S N) {k z : Nat} (hk : k < 12) (hz : z < 3) : fX7_meetingBy (nI k) (nI z) N = some (mq_mt S k z) := by
  have e11 := h.m ho
  obtain ⟨m, a, b, c, d⟩ := h.2.2.2.2.2
  have o1 := pa_n2_le ho
  have em : m = pa_n S 2 := by
    rw [b] at e11
    exact (nI_eq (by omega) (by omega)).mp e11
  refine rq_meeting ho e11 (fun j h1 h2 => ?_) hk hz
  obtain ⟨g1, g2, g3⟩ := c (j / 4) (by omega)
  rcases q_lt3 h2 with e | e | e
  · rw [e, Nat.add_zero, g1]
    show nI (pa_x S 2 (4 * (j / 4))) = _
    congr 2; omega
  · rw [e, g2]
    show nI (pa_x S 2 (4 * (j / 4) + 1)) = _
    congr 2; omega
  · rw [e, g3]
    show nI (pa_x S 2 (4 * (j / 4) + 2)) = _
    congr 2; omega
theorem dn_3 {S : md_T} {N : mm_M} (ho : st_o S) (h : RQ S N) {i : Nat} (hi : i < 12) (kk : Int64 → Option (Int64 × mm_M)) (x : Int64) : fX7_digest_L68 (nI i) N kk 1000 x 0 = kk (dg_M1 S i x) := by
  have key := q_loop (fun n s j => fX7_digest_L68 (nI i) N kk n s j) (fun z s => dg_1 s (mq_mt S i z)) kk 3 (fun n s => ?_) (fun n j s hj => ?_) 3 0 1000 x (by omega) (by omega)
  · exact key
  · show fX7_digest_L68 (nI i) N kk (n + 1) s (nI 3) = _
    rw [fX7_digest_L68, if_pos (by decide)]
  · show fX7_digest_L68 (nI i) N kk (n + 1) s (nI j) = fX7_digest_L68 (nI i) N kk n _ (nI (j + 1))
    rw [fX7_digest_L68, if_neg (by rw [q_lit 3, nI_leI (by omega) (by omega)]; omega), dn_mt ho h hi hj, Option.bind_some, nI_1]
    rfl
theorem dn_4 {S : md_T} {N : mm_M} (ho : st_o S) (h : RQ S N) (kk : Int64 → Option (Int64 × mm_M)) (x : Int64) : fX7_digest_L59 N kk 1000 x 0 = kk (dg_M S x) := by
  have key := q_loop (fun n s i => fX7_digest_L59 N kk n s i) (fun i s => dg_M1 S i s) kk 12 (fun n s => ?_) (fun n i s hi => ?_) 12 0 1000 x (by omega) (by omega)
  · exact key
  · show fX7_digest_L59 N kk (n + 1) s (nI 12) = _
    rw [fX7_digest_L59, if_pos (by decide)]
  · show fX7_digest_L59 N kk (n + 1) s (nI i) = fX7_digest_L59 N kk n _ (nI (i + 1))
    rw [fX7_digest_L59, if_neg (by rw [q_lit 12, nI_leI (by omega) (by omega)]; omega), dn_3 ho h hi, nI_1]
theorem dn_5 {S : md_T} {N0 N : mm_M} (ho : st_o S) (kk : Int64 → mm_M → Option (Int64 × mm_M)) (x : Int64) {P : Option (Int64 × mm_M) → Prop} (h : NDs S N0 N) (hP : ∀ N', NDs S N0 N' → P (kk (dg_Ws S x) N')) : P (fX7_digest_L103 kk 1000 x 0 N) := by
  have o1 := (st_ok ho).2.1
  have key := q_loopM (fun n s M i => fX7_digest_L103 kk n s i M) (fun k s => dg_W S k s) kk (fun M' => NDs S N0 M') (pa_T S 0 3) (fun n s M1 h => ?_) (fun n i s M1 hi h => ?_) (pa_T S 0 3) 0 1000 x N (by omega) (by omega) h
  · obtain ⟨M', e1, e2⟩ := key
    have e1 : fX7_digest_L103 kk 1000 x 0 N = _ := e1
    rw [e1]
    exact hP M' e2
  · show fX7_digest_L103 kk (n + 1) s (nI (pa_T S 0 3)) M1 = _
    rw [fX7_digest_L103, h.2.2.2.1, if_pos (by rw [nI_leI (by omega) (by omega)]; omega)]
  · obtain ⟨M2, e1, e2⟩ := ns_of h (rq_dword ho h.2 hi s)
    refine ⟨M2, ?_, e2⟩
    show fX7_digest_L103 kk (n + 1) s (nI i) M1 = fX7_digest_L103 kk n _ (nI (i + 1)) M2
    rw [fX7_digest_L103, h.2.2.2.1, if_neg (by rw [nI_leI (by omega) (by omega)]; omega)]
    simp only [Option.bind_some, e1, nI_1]
theorem dn_6 {S : md_T} {N0 N : mm_M} (ho : st_o S) (kk : Int64 → mm_M → Option (Int64 × mm_M)) (x : Int64) {P : Option (Int64 × mm_M) → Prop} (h : NDs S N0 N) (hP : ∀ N', NDs S N0 N' → P (kk (dg_Ps S x) N')) : P (fX7_digest_L126 kk 1000 x 0 N) := by
  have o1 := (st_ok ho).1
  have key := q_loopM (fun n s M i => fX7_digest_L126 kk n s i M) (fun k s => dg_P S k s) kk (fun M' => NDs S N0 M') (pa_T S 0 0) (fun n s M1 h => ?_) (fun n i s M1 hi h => ?_) (pa_T S 0 0) 0 1000 x N (by omega) (by omega) h
  · obtain ⟨M', e1, e2⟩ := key
    have e1 : fX7_digest_L126 kk 1000 x 0 N = _ := e1
    rw [e1]
    exact hP M' e2
  · show fX7_digest_L126 kk (n + 1) s (nI (pa_T S 0 0)) M1 = _
    rw [fX7_digest_L126, h.2.2.1, if_pos (by rw [nI_leI (by omega) (by omega)]; omega)]
  · obtain ⟨M2, e1, e2⟩ := ns_of h (rq_dperson ho h.2 hi s)
    refine ⟨M2, ?_, e2⟩
    show fX7_digest_L126 kk (n + 1) s (nI i) M1 = fX7_digest_L126 kk n _ (nI (i + 1)) M2
    rw [fX7_digest_L126, h.2.2.1, if_neg (by rw [nI_leI (by omega) (by omega)]; omega)]
    simp only [Option.bind_some, e1, nI_1]
theorem rd_18 {S : md_T} {N N' : mm_M} (h : RD S N) (g : ∀ q, q ≠ 18 → N' q = N q) : RW N N' ∧ RD S N' := by
  have w : RW N N' := ⟨fun q hq => g q (by omega), fun j hj => by rw [g 0 (by omega)]⟩
  obtain ⟨⟨h1, h2⟩, h3, h4⟩ := h
  refine ⟨w, ⟨h1.keep w, ?_⟩, ?_, ?_⟩
  · unfold rr_T at h2 ⊢
    rw [g 0 (by omega), g 7 (by omega), g 8 (by omega), g 9 (by omega)]
    exact h2
  · unfold rr_s at h3 ⊢
    rw [g 11 (by omega), g 12 (by omega), g 13 (by omega), g 14 (by omega)]
    exact h3
  · unfold rr_tr at h4 ⊢
    rw [g 15 (by omega), g 16 (by omega), g 17 (by omega)]
    exact h4
theorem dn_7 {S : md_T} {N0 N : mm_M} (ho : st_o S) (kk : Int64 → mm_M → Option (Int64 × mm_M)) (x : Int64) {P : Option (Int64 × mm_M) → Prop} (h : RW N0 N ∧ RD S N) (hP : ∀ N', RW N0 N' ∧ RD S N' → P (kk (dg_Ds S x) N')) : P (fX7_digest_L153 kk 1000 x 0 N) := by
  have key := q_loopM (fun n s M i => fX7_digest_L153 kk n s i M) (fun d s => dg_1 (dg_1 (dg_1 s (mq_bank (pa_T S) (st_A S) d).1) (mq_ring S d 0)) (mq_ring S d 1)) kk (fun M' => RW N0 M' ∧ RD S M') 24 (fun n s M1 h => ?_) (fun n i s M1 hi h => ?_) 24 0 1000 x N (by omega) (by omega) h
  · obtain ⟨M', e1, e2⟩ := key
    have e1 : fX7_digest_L153 kk 1000 x 0 N = _ := e1
    rw [e1]
    exact hP M' e2
  · show fX7_digest_L153 kk (n + 1) s (nI 24) M1 = _
    rw [fX7_digest_L153, if_pos (by decide)]
  · have e1 := rq_bank (h.2.at ho) hi
    obtain ⟨M3, g1, g2⟩ := rq_ring ho h.2 hi (show 0 < 2 by decide)
    obtain ⟨w3, r3⟩ := rd_18 h.2 g2
    obtain ⟨M4, k1, k2⟩ := rq_ring ho r3 hi (show 1 < 2 by decide)
    obtain ⟨w4, r4⟩ := rd_18 r3 k2
    have g1 : fX7_ringOf (nI i) 0 M1 = some (mq_ring S i 0, M3) := g1
    have k1 : fX7_ringOf (nI i) 1 M3 = some (mq_ring S i 1, M4) := k1
    refine ⟨M4, ?_, (h.1.tr w3).tr w4, r4⟩
    show fX7_digest_L153 kk (n + 1) s (nI i) M1 = fX7_digest_L153 kk n _ (nI (i + 1)) M4
    rw [fX7_digest_L153, if_neg (by rw [q_lit 24, nI_leI (by omega) (by omega)]; omega)]
    simp only [Option.bind_some, e1, g1, k1, nI_1]
    rfl
theorem dn_8 {S : md_T} {N0 N : mm_M} (ho : st_o S) (kk : Int64 → mm_M → Option (Int64 × mm_M)) (x : Int64) {P : Option (Int64 × mm_M) → Prop} (h : NDs S N0 N) (hP : ∀ N', NDs S N0 N' → P (kk (dg_T S x) N')) : P (fX7_digest_L220 kk 1000 x 0 N) := by
  have key := q_loopM (fun n s M i => fX7_digest_L220 kk n s i M) (fun z s => dg_1 s (mq_meet S 8 z)) kk (fun M' => NDs S N0 M') 3 (fun n s M1 h => ?_) (fun n i s M1 hi h => ?_) 3 0 1000 x N (by omega) (by omega) h
  · obtain ⟨M', e1, e2⟩ := key
    have e1 : fX7_digest_L220 kk 1000 x 0 N = _ := e1
    rw [e1]
    exact hP M' e2
  · show fX7_digest_L220 kk (n + 1) s (nI 3) M1 = _
    rw [fX7_digest_L220, if_pos (by decide)]
  · obtain ⟨M2, e1, e2⟩ := ns_of h (rq_meet ho h.2 (show 8 < 24 by decide) hi)
    have e1 : fX7_meetOf 8 (nI i) M1 = _ := e1
    refine ⟨M2, ?_, e2⟩
    show fX7_digest_L220 kk (n + 1) s (nI i) M1 = fX7_digest_L220 kk n _ (nI (i + 1)) M2
    rw [fX7_digest_L220, if_neg (by rw [q_lit 3, nI_leI (by omega) (by omega)]; omega)]
    simp only [Option.bind_some, e1, nI_1]
    rfl
theorem rq_digest {S : md_T} {N : mm_M} (ho : st_o S) (hn : RN S N) : NR N (fX7_digest N) (dg_A S) := by
  unfold fX7_digest
  refine dn_1 (P := fun o => NR N o (dg_A S)) ho hn _ _ (fun N1 w1 => ?_)
  obtain ⟨N2, e2, h2⟩ := dn_2 ho (hn.keep w1) _ _
  refine e2 ▸ ?_
  have h2 : NDs S N N2 := ⟨w1.tr h2.1, h2.2⟩
  rw [dn_4 ho h2.2]
  refine dn_5 (P := fun o => NR N o (dg_A S)) ho _ _ h2 (fun N3 h3 => ?_)
  refine dn_6 (P := fun o => NR N o (dg_A S)) ho _ _ h3 (fun N4 h4 => ?_)
  obtain ⟨N5, r1, r2, r3⟩ := rl_runs ho h4.2
  rw [r1, Option.bind_some]
  refine dn_7 (P := fun o => NR N o (dg_A S)) (N0 := N) ho _ _ ⟨h4.1.tr r2.w, r3⟩ (fun N6 h6 => ?_)
  rw [rq_sil (h6.2.at ho), Option.bind_some]
  refine dn_8 (P := fun o => NR N o (dg_A S)) (N0 := N) ho _ _ ⟨h6.1, h6.2.1⟩ (fun N7 h7 => ?_)
  obtain ⟨N8, e8, h8⟩ := ns_of h7 (rq_voice ho h7.2 (show 0 < 2 by decide))
  obtain ⟨N9, e9, h9⟩ := ns_of h8 (rq_voice ho h8.2 (show 1 < 2 by decide))
  obtain ⟨N10, e10, h10⟩ := ns_of h9 (rq_spare ho h9.2 (-1))
  obtain ⟨N11, e11, h11⟩ := ns_of h10 (rq_spare ho h10.2 0)
  obtain ⟨N12, e12, h12⟩ := ns_of h11 (rq_never ho h11.2)
  obtain ⟨N13, e13, h13⟩ := ns_of h12 (rq_lives ho h12.2 7 (show 9 < 13 by decide) (show 0 < 2 by decide))
  obtain ⟨N14, e14, h14⟩ := ns_of h13 (rq_lives ho h13.2 7 (show 9 < 13 by decide) (show 1 < 2 by decide))
  have e8 : fX7_voiceBy 0 N7 = some (mq_voice S 0, N8) := e8
  have e9 : fX7_voiceBy 1 N8 = some (mq_voice S 1, N9) := e9
  have e13 : fX7_livesOf 7 9 0 N12 = some (mq_lives S 7 9 0, N13) := e13
  have e14 : fX7_livesOf 7 9 1 N13 = some (mq_lives S 7 9 1, N14) := e14
  simp only [Option.bind_some, e8, e9, e10, e11, e12, e13, e14, dg_f]
  unfold dg_A dg_E
  exact ⟨N14, rfl, h14.1⟩
theorem op_digest {M N : mm_M} (h : Rel M N) : AG (fX6_digest M) (fX7_digest N) := by
  obtain ⟨S, ho, hc, hn, hk, hx⟩ := h
  exact ag_of ho hn hx (cr_digest ho hc hk) (rq_digest ho hn)
