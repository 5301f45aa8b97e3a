/-! digest: the whole -/
def mq_ct (S : md_T) (z : Nat) : Int32 := if z = 0 then nI (pa_T S 0 0) else if z = 1 then nI (pa_T S 0 3) else if z = 2 then nI (pa_n S 2) else if z = 3 then nI (S 0 0) else if z = 4 then nI (S 0 1) else if z = 5 then nI (S 0 2) else if z = 6 then nI (S 4 0) else nI (S 4 1)
theorem q_lt8 {k : Nat} (h : k < 8) : k = 0 ∨ k = 1 ∨ k = 2 ∨ k = 3 ∨ k = 4 ∨ k = 5 ∨ k = 6 ∨ k = 7 := by omega
theorem cr_count {S : md_T} {M : mm_M} (hc : RC S M) {k : Nat} (hk : k < 8) : fX6_count (nI k) M = some (mq_ct S k) := by
  rcases q_lt8 hk with e | e | e | e | e | e | e | e <;> subst e
  · show some (M 24 0) = _
    rw [hc.2.1.1]; rfl
  · show some (M 24 3) = _
    rw [hc.2.1.2.1]; rfl
  · show some (M 24 7) = _
    rw [show M 24 7 = nI (pa_n S 2) from hc.2.1.2.2.1]; rfl
  · show some (M 2 3) = _
    rw [show M 2 3 = nI (S 0 0) from (hc.1 0 (by omega)).2.2.1]; rfl
  · show some (M 4 3) = _
    rw [show M 4 3 = nI (S 0 1) from (hc.1 1 (by omega)).2.2.1]; rfl
  · show some (M 6 3) = _
    rw [show M 6 3 = nI (S 0 2) from (hc.1 2 (by omega)).2.2.1]; rfl
  · show some (M 17 2) = _
    rw [hc.2.2.1.1]; rfl
  · show some (M 20 3) = _
    rw [hc.2.2.2.1]; rfl
theorem rq_count {S : md_T} {N : mm_M} (ho : st_o S) (hn : RN S N) {k : Nat} (hk : k < 8) : ∃ N', fX7_count (nI k) N = some (mq_ct S k, N') ∧ RW N N' := by
  obtain ⟨N1, f1, f2, f3⟩ := rl_find ho hn
  have hn1 := hn.keep f2
  refine ⟨N1, ?_, f2⟩
  unfold fX7_count
  rw [f1, Option.bind_some]
  rcases q_lt8 hk with e | e | e | e | e | e | e | e <;> subst e
  · show some (N1 0 7, N1) = _
    rw [f3.1.2.1]; rfl
  · show some (N1 0 9, N1) = _
    rw [f3.1.2.2.1]; rfl
  · show some (N1 0 11, N1) = _
    rw [f3.1.m ho]; rfl
  · show some (N1 6 0, N1) = _
    rw [(hn1.1 0 (by omega)).1]; rfl
  · show some (N1 6 1, N1) = _
    rw [(hn1.1 1 (by omega)).1]; rfl
  · show some (N1 6 2, N1) = _
    rw [(hn1.1 2 (by omega)).1]; rfl
  · show some (N1 0 13, N1) = _
    rw [hn1.2.1.1]; rfl
  · show some (N1 0 27, N1) = _
    rw [hn1.2.2.1.1]; rfl
def dg_C (S : md_T) (x : Int64) : Int64 := md_fold (fun z s => dg_1 s (mq_ct S z)) 8 0 x
def dg_F (S : md_T) (x : Int64) : Int64 := md_fold (fun t s => dg_1 s (pa_e (-1) (pa_f S t))) 3 0 x
def dg_M1 (S : md_T) (i : Nat) (x : Int64) : Int64 := md_fold (fun z s => dg_1 s (mq_mt S i z)) 3 0 x
def dg_M (S : md_T) (x : Int64) : Int64 := md_fold (fun i s => dg_M1 S i s) 12 0 x
def dg_Ws (S : md_T) (x : Int64) : Int64 := md_fold (fun k s => dg_W S k s) (pa_T S 0 3) 0 x
def dg_Ps (S : md_T) (x : Int64) : Int64 := md_fold (fun k s => dg_P S k s) (pa_T S 0 0) 0 x
def dg_Ds (S : md_T) (x : Int64) : Int64 := md_fold (fun d s => dg_1 (dg_1 (dg_1 s (mq_bank (pa_T S) (st_A S) d).1) (mq_ring S d 0)) (mq_ring S d 1)) 24 0 x
def dg_T (S : md_T) (x : Int64) : Int64 := md_fold (fun z s => dg_1 s (mq_meet S 8 z)) 3 0 x
def dg_E (S : md_T) (x : Int64) : Int64 := dg_1 (dg_1 (dg_1 (dg_1 (dg_1 (dg_1 (dg_1 x (mq_voice S 0)) (mq_voice S 1)) (mq_spare S (-1))) (mq_spare S 0)) (mq_never S (pa_T S))) (mq_lives S 7 9 0)) (mq_lives S 7 9 1)
def dg_A (S : md_T) : Int64 := dg_E S (dg_T S (dg_1 (dg_Ds S (dg_Ps S (dg_Ws S (dg_M S (dg_F S (dg_C S 17)))))) (mq_sil (pa_T S) (st_A S))))
/-! the class's loops -/
theorem dc_1 {S : md_T} {M : mm_M} (hc : RC S M) (kk : Int64 → Option (Int64 × mm_M)) (x : Int64) : fX6_digest_L6 M kk 1000 x 0 = kk (dg_C S x) := by
  have key := q_loop (fun n s i => fX6_digest_L6 M kk n s i) (fun z s => dg_1 s (mq_ct S z)) kk 8 (fun n s => ?_) (fun n i s hi => ?_) 8 0 1000 x (by omega) (by omega)
  · exact key
  · show fX6_digest_L6 M kk (n + 1) s (nI 8) = _
    rw [fX6_digest_L6, if_pos (by decide)]
  · show fX6_digest_L6 M kk (n + 1) s (nI i) = fX6_digest_L6 M kk n _ (nI (i + 1))
    rw [fX6_digest_L6, if_neg (by rw [q_lit 8, nI_leI (by omega) (by omega)]; omega), cr_count hc hi, Option.bind_some, nI_1]
    rfl
theorem dc_2 {S : md_T} {M : mm_M} (ho : st_o S) (hc : RC S M) (kk : Int64 → Option (Int64 × mm_M)) (x : Int64) : fX6_digest_L33 M kk 1000 x 0 = kk (dg_F S x) := by
  have key := q_loop (fun n s i => fX6_digest_L33 M kk n s i) (fun t s => dg_1 s (pa_e (-1) (pa_f S t))) kk 3 (fun n s => ?_) (fun n i s hi => ?_) 3 0 1000 x (by omega) (by omega)
  · exact key
  · show fX6_digest_L33 M kk (n + 1) s (nI 3) = _
    rw [fX6_digest_L33, if_pos (by decide)]
  · show fX6_digest_L33 M kk (n + 1) s (nI i) = fX6_digest_L33 M kk n _ (nI (i + 1))
    rw [fX6_digest_L33, if_neg (by rw [q_lit 3, nI_leI (by omega) (by omega)]; omega), cr_fault ho hc hi, Option.bind_some, nI_1]
    rfl
theorem dc_3 {S : md_T} {M : mm_M} (ho : st_o S) (hc : RC S M) {i : Nat} (hi : i < 12) (kk : Int64 → Option (Int64 × mm_M)) (x : Int64) : fX6_digest_L68 (nI i) M kk 1000 x 0 = kk (dg_M1 S i x) := by
  have key := q_loop (fun n s j => fX6_digest_L68 (nI i) M kk n s j) (fun z s => dg_1 s (mq_mt S i z)) kk 3 (fun n s => ?_) (fun n j s hj => ?_) 3 0 1000 x (by omega) (by omega)
  · exact key
  · show fX6_digest_L68 (nI i) M kk (n + 1) s (nI 3) = _
    rw [fX6_digest_L68, if_pos (by decide)]
  · show fX6_digest_L68 (nI i) M kk (n + 1) s (nI j) = fX6_digest_L68 (nI i) M kk n _ (nI (j + 1))
    rw [fX6_digest_L68, if_neg (by rw [q_lit 3, nI_leI (by omega) (by omega)]; omega), cr_meeting ho hc hi hj, Option.bind_some, nI_1]
    rfl
theorem dc_4 {S : md_T} {M : mm_M} (ho : st_o S) (hc : RC S M) (kk : Int64 → Option (Int64 × mm_M)) (x : Int64) : fX6_digest_L59 M kk 1000 x 0 = kk (dg_M S x) := by
  have key := q_loop (fun n s i => fX6_digest_L59 M kk n s i) (fun i s => dg_M1 S i s) kk 12 (fun n s => ?_) (fun n i s hi => ?_) 12 0 1000 x (by omega) (by omega)
  · exact key
  · show fX6_digest_L59 M kk (n + 1) s (nI 12) = _
    rw [fX6_digest_L59, if_pos (by decide)]
  · show fX6_digest_L59 M kk (n + 1) s (nI i) = fX6_digest_L59 M kk n _ (nI (i + 1))
    rw [fX6_digest_L59, if_neg (by rw [q_lit 12, nI_leI (by omega) (by omega)]; omega), dc_3 ho hc hi, nI_1]
theorem dc_5 {S : md_T} {M0 M : mm_M} (ho : st_o S) (kk : Int64 → mm_M → Option (Int64 × mm_M)) (x : Int64) {P : Option (Int64 × mm_M) → Prop} (h : CS S M0 M) (hP : ∀ M', CS S M0 M' → P (kk (dg_Ws S x) M')) : P (fX6_digest_L103 kk 1000 x 0 M) := by
  have o1 := (st_ok ho).2.1
  have key := q_loopM (fun n s M i => fX6_digest_L103 kk n s i M) (fun k s => dg_W S k s) kk (fun M' => CS S M0 M') (pa_T S 0 3) (fun n s M1 h => ?_) (fun n i s M1 hi h => ?_) (pa_T S 0 3) 0 1000 x M (by omega) (by omega) h
  · obtain ⟨M', e1, e2⟩ := key
    have e1 : fX6_digest_L103 kk 1000 x 0 M = _ := e1
    rw [e1]
    exact hP M' e2
  · show fX6_digest_L103 kk (n + 1) s (nI (pa_T S 0 3)) M1 = _
    rw [fX6_digest_L103, h.2.1.2.1.2.1, if_pos (by rw [nI_leI (by omega) (by omega)]; omega)]
  · obtain ⟨M2, e1, e2⟩ := cs_of h (cr_dword ho h.2.1 h.2.2 hi s)
    refine ⟨M2, ?_, e2⟩
    show fX6_digest_L103 kk (n + 1) s (nI i) M1 = fX6_digest_L103 kk n _ (nI (i + 1)) M2
    rw [fX6_digest_L103, h.2.1.2.1.2.1, if_neg (by rw [nI_leI (by omega) (by omega)]; omega)]
    simp only [Option.bind_some, e1, nI_1]
theorem dc_6 {S : md_T} {M0 M : mm_M} (ho : st_o S) (kk : Int64 → mm_M → Option (Int64 × mm_M)) (x : Int64) {P : Option (Int64 × mm_M) → Prop} (h : CS S M0 M) (hP : ∀ M', CS S M0 M' → P (kk (dg_Ps S x) M')) : P (fX6_digest_L129 kk 1000 x 0 M) := by
  have o1 := (st_ok ho).1
  have key := q_loopM (fun n s M i => fX6_digest_L129 kk n s i M) (fun k s => dg_P S k s) kk (fun M' => CS S M0 M') (pa_T S 0 0) (fun n s M1 h => ?_) (fun n i s M1 hi h => ?_) (pa_T S 0 0) 0 1000 x M (by omega) (by omega) h
  · obtain ⟨M', e1, e2⟩ := key
    have e1 : fX6_digest_L129 kk 1000 x 0 M = _ := e1
    rw [e1]
    exact hP M' e2
  · show fX6_digest_L129 kk (n + 1) s (nI (pa_T S 0 0)) M1 = _
    rw [fX6_digest_L129, h.2.1.2.1.1, if_pos (by rw [nI_leI (by omega) (by omega)]; omega)]
  · obtain ⟨M2, e1, e2⟩ := cs_of h (cr_dperson ho h.2.1 h.2.2 hi s)
    refine ⟨M2, ?_, e2⟩
    show fX6_digest_L129 kk (n + 1) s (nI i) M1 = fX6_digest_L129 kk n _ (nI (i + 1)) M2
    rw [fX6_digest_L129, h.2.1.2.1.1, if_neg (by rw [nI_leI (by omega) (by omega)]; omega)]
    simp only [Option.bind_some, e1, nI_1]
theorem dc_7 {S : md_T} {M0 M : mm_M} (ho : st_o S) (kk : Int64 → mm_M → Option (Int64 × mm_M)) (x : Int64) {P : Option (Int64 × mm_M) → Prop} (h : CS S M0 M) (hP : ∀ M', CS S M0 M' → P (kk (dg_Ds S x) M')) : P (fX6_digest_L155 kk 1000 x 0 M) := by
  have key := q_loopM (fun n s M i => fX6_digest_L155 kk n s i M) (fun d s => dg_1 (dg_1 (dg_1 s (mq_bank (pa_T S) (st_A S) d).1) (mq_ring S d 0)) (mq_ring S d 1)) kk (fun M' => CS S M0 M') 24 (fun n s M1 h => ?_) (fun n i s M1 hi h => ?_) 24 0 1000 x M (by omega) (by omega) h
  · obtain ⟨M', e1, e2⟩ := key
    have e1 : fX6_digest_L155 kk 1000 x 0 M = _ := e1
    rw [e1]
    exact hP M' e2
  · show fX6_digest_L155 kk (n + 1) s (nI 24) M1 = _
    rw [fX6_digest_L155, if_pos (by decide)]
  · obtain ⟨M2, e1, e2⟩ := cs_of h (cr_bank ho h.2.1 h.2.2 hi)
    obtain ⟨M3, g1, g2⟩ := cs_of e2 (cr_ring ho e2.2.1 e2.2.2 hi (show 0 < 2 by decide))
    obtain ⟨M4, k1, k2⟩ := cs_of g2 (cr_ring ho g2.2.1 g2.2.2 hi (show 1 < 2 by decide))
    have g1 : fX6_ring (nI i) 0 M2 = some (mq_ring S i 0, M3) := g1
    have k1 : fX6_ring (nI i) 1 M3 = some (mq_ring S i 1, M4) := k1
    refine ⟨M4, ?_, k2⟩
    show fX6_digest_L155 kk (n + 1) s (nI i) M1 = fX6_digest_L155 kk n _ (nI (i + 1)) M4
    rw [fX6_digest_L155, if_neg (by rw [q_lit 24, nI_leI (by omega) (by omega)]; omega)]
    simp only [Option.bind_some, e1, g1, k1, nI_1]
    rfl
theorem dc_8 {S : md_T} {M0 M : mm_M} (ho : st_o S) (kk : Int64 → mm_M → Option (Int64 × mm_M)) (x : Int64) {P : Option (Int64 × mm_M) → Prop} (h : CS S M0 M) (hP : ∀ M', CS S M0 M' → P (kk (dg_T S x) M')) : P (fX6_digest_L222 kk 1000 x 0 M) := by
  have key := q_loopM (fun n s M i => fX6_digest_L222 kk n s i M) (fun z s => dg_1 s (mq_meet S 8 z)) kk (fun M' => CS S M0 M') 3 (fun n s M1 h => ?_) (fun n i s M1 hi h => ?_) 3 0 1000 x M (by omega) (by omega) h
  · obtain ⟨M', e1, e2⟩ := key
    have e1 : fX6_digest_L222 kk 1000 x 0 M = _ := e1
    rw [e1]
    exact hP M' e2
  · show fX6_digest_L222 kk (n + 1) s (nI 3) M1 = _
    rw [fX6_digest_L222, if_pos (by decide)]
  · obtain ⟨M2, e1, e2⟩ := cs_of h (cr_meet ho h.2.1 h.2.2 (show 8 < 24 by decide) hi)
    have e1 : fX6_meet 8 (nI i) M1 = _ := e1
    refine ⟨M2, ?_, e2⟩
    show fX6_digest_L222 kk (n + 1) s (nI i) M1 = fX6_digest_L222 kk n _ (nI (i + 1)) M2
    rw [fX6_digest_L222, if_neg (by rw [q_lit 3, nI_leI (by omega) (by omega)]; omega)]
    simp only [Option.bind_some, e1, nI_1]
    rfl
theorem dg_f (s : Int64) (v : Int32) : (31 : Int64) * s + v.toInt64 = dg_1 s v := rfl
theorem cr_digest {S : md_T} {M : mm_M} (ho : st_o S) (hc : RC S M) (hk : KC S M) : CR S M (fX6_digest M) (dg_A S) := by
  unfold fX6_digest
  rw [dc_1 hc, dc_2 ho hc, dc_4 ho hc]
  refine dc_5 (P := fun o => CR S M o (dg_A S)) ho _ _ (M0 := M) ⟨CQ.rf, hc, hk⟩ (fun M1 h1 => ?_)
  refine dc_6 (P := fun o => CR S M o (dg_A S)) ho _ _ h1 (fun M2 h2 => ?_)
  refine dc_7 (P := fun o => CR S M o (dg_A S)) ho _ _ h2 (fun M3 h3 => ?_)
  obtain ⟨M4, e4, h4⟩ := cs_of h3 (cr_silent ho h3.2.1 h3.2.2)
  rw [e4, Option.bind_some]
  refine dc_8 (M := M4) (P := fun o => CR S M o (dg_A S)) ho _ _ h4 (fun M5 h5 => ?_)
  obtain ⟨M6, e6, h6⟩ := cs_of h5 (cr_voice ho h5.2.1 h5.2.2 (show 0 < 2 by decide))
  obtain ⟨M7, e7, h7⟩ := cs_of h6 (cr_voice ho h6.2.1 h6.2.2 (show 1 < 2 by decide))
  obtain ⟨M8, e8, h8⟩ := cs_of h7 (cr_spare ho h7.2.1 h7.2.2 (x := -1) (Or.inl rfl))
  obtain ⟨M9, e9, h9⟩ := cs_of h8 (cr_spare ho h8.2.1 h8.2.2 (x := 0) (Or.inr (Or.inl rfl)))
  obtain ⟨M10, e10, h10⟩ := cs_of h9 (cr_never ho h9.2.1 h9.2.2)
  obtain ⟨M11, e11, h11⟩ := cs_of h10 (cr_lives ho h10.2.1 h10.2.2 7 (show 9 < 13 by decide) (show 0 < 2 by decide))
  obtain ⟨M12, e12, h12⟩ := cs_of h11 (cr_lives ho h11.2.1 h11.2.2 7 (show 9 < 13 by decide) (show 1 < 2 by decide))
  have e6 : fX6_voice 0 M5 = some (mq_voice S 0, M6) := e6
  have e7 : fX6_voice 1 M6 = some (mq_voice S 1, M7) := e7
  have e11 : fX6_lives 7 9 0 M10 = some (mq_lives S 7 9 0, M11) := e11
  have e12 : fX6_lives 7 9 1 M11 = some (mq_lives S 7 9 1, M12) := e12
  simp only [Option.bind_some, e6, e7, e8, e9, e10, e11, e12, dg_f]
  unfold dg_A dg_E
  exact ⟨M12, rfl, h12⟩
