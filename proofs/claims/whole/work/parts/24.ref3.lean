theorem rr_dies_L {T s : md_T} {E : Nat → Nat → Bool} {B d : Nat} (hd : d < 24) (hs : md_sok T s B) : ∀ (f i n : Nat) (N : mm_M), i + f = T 0 3 → f < n → rr_C T E N → (∀ w, i ≤ w → w < T 0 3 → N 11 w = nI (s 1 w)) →
    ∃ N', fX7_dies_L2 (nI d) n (nI i) N = some N' ∧ (∀ q, q ≠ 11 → N' q = N q) ∧ (∀ w, w < i → N' 11 w = N 11 w) ∧ ∀ w, i ≤ w → w < T 0 3 → N' 11 w = nI (md_die T d s 1 w)
  | 0, i, n + 1, N, hi, hn, hC, h11 => by
    obtain ⟨ho, hT, -⟩ := hC
    have h9 := hT.2.1
    have := ho.2.1
    refine ⟨N, ?_, fun _ _ => rfl, fun _ _ => rfl, fun w h1 h2 => by omega⟩
    rw [fX7_dies_L2, h9, if_pos (by rw [nI_leI (by omega) (by omega)]; omega)]
  | f + 1, i, n + 1, N, hi, hn, hC, h11 => by
    have hC0 := hC
    obtain ⟨ho, hT, -⟩ := hC
    obtain ⟨h7, h9, hp, hw, -⟩ := hT
    obtain ⟨o1, o2, o3, o4, o5, o6⟩ := ho
    have hi' : i < T 0 3 := by omega
    have a11 := h11 i (Nat.le_refl _) hi'
    obtain ⟨w1, w2, w3⟩ := hw i hi'
    obtain ⟨t3, t4, t5⟩ := o5 i hi'
    obtain ⟨s1, s2, s3⟩ := hs.1 i hi'
    rw [fX7_dies_L2, h9, if_neg (by rw [nI_leI (by omega) (by omega)]; omega)]
    simp (disch := omega) only [q_lit, q_rd, q_wa, Option.bind_some, pk_mul, nI_add, nI_eq, a11, w2]
    by_cases h0 : s 1 i = 0
    · have hl := s3 h0
      have p1 := (hp (T 3 i) hl.1).2
      have p2 := (o4 (T 3 i) hl.1).2
      have p3 := (hp (T 4 i) hl.2.1).2
      have p4 := (o4 (T 4 i) hl.2.1).2
      rw [if_pos h0]
      have key : ∀ v, v = md_die T d s 1 i → ∃ N', fX7_dies_L2 (nI d) n (nI (i + 1)) (mm_wr N 11 i (nI v)) = some N' ∧ (∀ q, q ≠ 11 → N' q = N q) ∧ (∀ w, w < i → N' 11 w = N 11 w) ∧ ∀ w, i ≤ w → w < T 0 3 → N' 11 w = nI (md_die T d s 1 w) := by
        intro v hv
        obtain ⟨N', e1, e2, e3, e4⟩ := rr_dies_L (E := E) hd hs f (i + 1) n (mm_wr N 11 i (nI v)) (by omega) (by omega) (hC0.keep (rr_f_wr (by omega))) (fun w h1 h2 => by rw [q_wr, if_neg (by omega)]; exact h11 w (by omega) h2)
        refine ⟨N', e1, fun q hq => by rw [e2 q hq, q_wr_ne hq], fun w hw => by rw [e3 w (by omega), q_wr, if_neg (by omega)], fun w h1 h2 => ?_⟩
        by_cases e : w = i
        · subst e
          rw [e3 w (by omega), q_wr, if_pos ⟨rfl, rfl⟩, hv]
        · exact e4 w (by omega) h2
      simp (disch := omega) only [p3, nI_eq, fX7_dies_J47, fX7_dies_J74, q_lit, q_rd, q_wa, Option.bind_some, pk_mul, nI_add, w1, p1]
      by_cases c1 : T 2 (T 4 i) = d
      · simp only [if_pos c1]
        rw [if_neg (by decide)]
        exact key 3 (by simp [md_die, h0, c1, hi'])
      · simp only [if_neg c1, if_true]
        by_cases c2 : T 2 (T 3 i) = d
        · simp only [if_pos c2]
          rw [if_neg (by decide)]
          exact key 2 (by simp [md_die, h0, c1, c2, hi'])
        · simp only [if_neg c2, if_true]
          exact key 0 (by simp [md_die, h0, c1, c2, hi'])
    · rw [if_neg h0]
      obtain ⟨N', e1, e2, e3, e4⟩ := rr_dies_L (E := E) hd hs f (i + 1) n N (by omega) (by omega) hC0 (fun w h1 h2 => h11 w (by omega) h2)
      refine ⟨N', e1, e2, fun w hw => e3 w (by omega), fun w h1 h2 => ?_⟩
      by_cases e : w = i
      · subst e
        rw [e3 w (by omega), a11]
        simp [md_die, h0]
      · exact e4 w (by omega) h2
theorem rr_dies {T s : md_T} {E : Nat → Nat → Bool} {B d : Nat} {N : mm_M} (hd : d < 24) (hC : rr_C T E N) (hs : md_sok T s B) (hr : rr_s T s N) : ∃ N', fX7_dies (nI d) N = some N' ∧ rr_f N N' ∧ rr_s T (md_die T d s) N' := by
  have hb := hC.1.2.1
  obtain ⟨N', e1, e2, e3, e4⟩ := rr_dies_L (E := E) hd hs (T 0 3) 0 1000 N (by omega) (by omega) hC (fun w _ hw => (hr.1 w hw).1)
  refine ⟨N', e1, rr_f_of (by omega) e2, fun w hw => ⟨e4 w (by omega) hw, ?_⟩, fun k hk => ?_⟩
  · rw [e2 12 (by decide), (hr.1 w hw).2]; simp [md_die]
  · rw [e2 13 (by decide), e2 14 (by decide), (hr.2 k hk).1, (hr.2 k hk).2]; simp [md_die]
theorem rr_meets_L {T s : md_T} {E : Nat → Nat → Bool} {B d m : Nat} (hd : d < 24) (hs : md_sok T s B) (hB : B < 8000) (hm : m ≤ 12) (k : mm_M → Option mm_M) : ∀ (f i n : Nat) (N : mm_M), i + f = m → f < n → rr_C T E N → N 0 11 = nI m → (∀ i, i < m → N 9 (3 * i) = nI (T 6 i) ∧ N 9 (3 * i + 1) = nI (T 7 i) ∧ N 9 (3 * i + 2) = nI (T 8 i)) → m ≤ T 0 7 → rr_s T (md_ms T E d s i) N →
    ∃ N', fX7_passes_L15 (nI d) k n (nI i) N = k N' ∧ rr_f N N' ∧ rr_s T (md_ms T E d s m) N'
  | 0, i, n + 1, N, hi, hn, hC, h11, h9, hmT, hr => by
    refine ⟨N, ?_, rr_f.rf, ?_⟩
    · rw [fX7_passes_L15, h11, if_pos (by rw [nI_leI (by omega) (by omega)]; omega)]
    · rw [show m = i by omega]; exact hr
  | f + 1, i, n + 1, N, hi, hn, hC, h11, h9, hmT, hr => by
    obtain ⟨m1, m2, m3⟩ := h9 i (by omega)
    obtain ⟨t6, t7, t8⟩ := hC.1.2.2.2.2.2 i (by omega)
    rw [fX7_passes_L15, h11, if_neg (by rw [nI_leI (by omega) (by omega)]; omega)]
    simp (disch := omega) only [q_lit, q_rd, Option.bind_some, pk_mul, nI_add, nI_eq, m1, m2, m3]
    by_cases c : T 6 i = d
    · rw [if_pos c]
      obtain ⟨N1, e1, e2, e3⟩ := rr_talk hC (md_ms_ok hs i) (by omega) hr t7 t8 hd
      rw [e1, Option.bind_some]
      have e0 : N1 0 = N 0 := e2 0 (by omega)
      have e9 : N1 9 = N 9 := e2 9 (by omega)
      obtain ⟨N2, g1, g2, g3⟩ := rr_meets_L hd hs hB hm k f (i + 1) n N1 (by omega) (by omega) (hC.keep e2) (by rw [e0]; exact h11) (by rw [e9]; exact h9) hmT (by rw [md_ms, if_pos c]; exact e3)
      exact ⟨N2, g1, e2.tr g2, g3⟩
    · rw [if_neg c]
      exact rr_meets_L hd hs hB hm k f (i + 1) n N (by omega) (by omega) hC h11 h9 hmT (by rw [md_ms, if_neg c]; exact hr)
theorem rr_keepW_L {nw d : Nat} (hw : nw ≤ 12) (hd : d < 24) (k : mm_M → Option mm_M) : ∀ (f i n : Nat) (N : mm_M), i + f = nw → f < n → N 0 9 = nI nw →
    ∃ N', fX7_passes_L94 (nI d) k n (nI i) N = k N' ∧ (∀ q, q ≠ 15 → q ≠ 16 → N' q = N q) ∧ (∀ j, (j < 12 * d + i ∨ 12 * d + nw ≤ j) → N' 15 j = N 15 j ∧ N' 16 j = N 16 j) ∧ ∀ w, i ≤ w → w < nw → N' 15 (12 * d + w) = N 11 w ∧ N' 16 (12 * d + w) = N 12 w
  | 0, i, n + 1, N, hi, hn, h9 => by
    refine ⟨N, ?_, fun _ _ _ => rfl, fun _ _ => ⟨rfl, rfl⟩, fun w h1 h2 => by omega⟩
    rw [fX7_passes_L94, h9, if_pos (by rw [nI_leI (by omega) (by omega)]; omega)]
  | f + 1, i, n + 1, N, hi, hn, h9 => by
    rw [fX7_passes_L94, h9, if_neg (by rw [nI_leI (by omega) (by omega)]; omega)]
    simp (disch := omega) only [q_lit, q_rd, q_wa, Option.bind_some, pk_mul, nI_add, q_wr_ne]
    obtain ⟨N', e1, e2, e3, e4⟩ := rr_keepW_L hw hd k f (i + 1) n (mm_wr (mm_wr N 15 (12 * d + i) (N 11 i)) 16 (12 * d + i) (N 12 i)) (by omega) (by omega) (by rw [q_wr_ne (by decide), q_wr_ne (by decide)]; exact h9)
    refine ⟨N', e1, fun q h1 h2 => by rw [e2 q h1 h2, q_wr_ne h2, q_wr_ne h1], fun j hj => ?_, fun w h1 h2 => ?_⟩
    · obtain ⟨a, b⟩ := e3 j (by omega)
      rw [a, b]
      constructor
      · rw [q_wr_ne (by decide), q_wr_n2 (by omega)]
      · rw [q_wr_n2 (by omega), q_wr_ne (by decide)]
    · by_cases e : w = i
      · subst e
        obtain ⟨a, b⟩ := e3 (12 * d + w) (by omega)
        rw [a, b]
        exact ⟨by rw [q_wr_ne (by decide), q_wr_eq], by rw [q_wr_eq]⟩
      · obtain ⟨a, b⟩ := e4 w (by omega) h2
        rw [a, b]
        exact ⟨by rw [q_wr_ne (by decide), q_wr_ne (by decide)], by rw [q_wr_ne (by decide), q_wr_ne (by decide)]⟩
theorem rr_keepP_L {np d : Nat} (hw : np ≤ 8) (hd : d < 24) : ∀ (f i n : Nat) (N : mm_M), i + f = np → f < n → N 0 7 = nI np →
    ∃ N', fX7_passes_L144 (nI d) n (nI i) N = some N' ∧ (∀ q, q ≠ 17 → N' q = N q) ∧ (∀ j, (j < 8 * d + i ∨ 8 * d + np ≤ j) → N' 17 j = N 17 j) ∧ ∀ w, i ≤ w → w < np → N' 17 (8 * d + w) = N 13 w
  | 0, i, n + 1, N, hi, hn, h9 => by
    refine ⟨N, ?_, fun _ _ => rfl, fun _ _ => rfl, fun w h1 h2 => by omega⟩
    rw [fX7_passes_L144, h9, if_pos (by rw [nI_leI (by omega) (by omega)]; omega)]
  | f + 1, i, n + 1, N, hi, hn, h9 => by
    rw [fX7_passes_L144, h9, if_neg (by rw [nI_leI (by omega) (by omega)]; omega)]
    simp (disch := omega) only [q_lit, q_rd, q_wa, Option.bind_some, pk_mul, nI_add, q_wr_ne]
    obtain ⟨N', e1, e2, e3, e4⟩ := rr_keepP_L hw hd f (i + 1) n (mm_wr N 17 (8 * d + i) (N 13 i)) (by omega) (by omega) (by rw [q_wr_ne (by decide)]; exact h9)
    refine ⟨N', e1, fun q h1 => by rw [e2 q h1, q_wr_ne h1], fun j hj => ?_, fun w h1 h2 => ?_⟩
    · rw [e3 j (by omega), q_wr_n2 (by omega)]
    · by_cases e : w = i
      · subst e
        rw [e3 (8 * d + w) (by omega), q_wr_eq]
      · rw [e4 w (by omega) h2, q_wr_ne (by decide)]
/-- the evenings of days 0 to D - 1 -/
def rr_tr (T : md_T) (E : Nat → Nat → Bool) (D : Nat) (N : mm_M) : Prop := ∀ d, d < D → (∀ w, w < T 0 3 → N 15 (12 * d + w) = nI (md_tr T E (d + 1) 1 w) ∧ N 16 (12 * d + w) = nI (md_tr T E (d + 1) 2 w)) ∧ ∀ k, k < T 0 0 → N 17 (8 * d + k) = nI (md_tr T E (d + 1) 3 k)
theorem rr_passes {T : md_T} {E : Nat → Nat → Bool} {d : Nat} {N : mm_M} (hd : d < 24) (hC : rr_C T E N) (hr : rr_s T (md_tr T E d) N) (ht : rr_tr T E d N) : ∃ N', fX7_passes (nI d) N = some N' ∧ rr_F N N' ∧ rr_s T (md_tr T E (d + 1)) N' ∧ rr_tr T E (d + 1) N' := by
  have hs := md_tr_ok (E := E) hC.1 d
  obtain ⟨ho, hT, hE⟩ := id hC
  obtain ⟨m, hm, h11, h9, hodd⟩ := hT.2.2.2.2
  have hmT : m ≤ T 0 7 := by rcases hodd with ⟨h, -⟩ | ⟨h, -⟩ <;> omega
  have ho7 := ho.2.2.1
  -- behind the meetings: the odd one, the deaths, what is kept
  have key : ∀ (N1 : mm_M) (s0 : md_T) (B : Nat), B < 7000 → md_sok T s0 B → rr_f N N1 → rr_s T (md_ms T E d s0 m) N1 → md_die T d (md_ms T E d s0 (T 0 7)) = md_tr T E (d + 1) → ∃ N', (if N1 0 16 = nI d then (fX7_talk (nI d) (N1 0 17) (N1 0 18) N1).bind fun M11 => (fX7_dies (nI d) M11).bind fun M12 => fX7_passes_L94 (nI d) (fun M18 => fX7_passes_L144 (nI d) 1000 (nI 0) M18) 1000 (nI 0) M12 else (fX7_dies (nI d) N1).bind fun M22 => fX7_passes_L94 (nI d) (fun M23 => fX7_passes_L144 (nI d) 1000 (nI 0) M23) 1000 (nI 0) M22) = some N' ∧ rr_F N N' ∧ rr_s T (md_tr T E (d + 1)) N' ∧ rr_tr T E (d + 1) N' := by
    intro N1 s0 B hB hs0 hf hr1 hend
    have hC1 := hC.keep hf
    have e0 : N1 0 = N 0 := hf 0 (by omega)
    -- the deaths and what is kept
    have fin : ∀ (N2 : mm_M), rr_f N N2 → rr_s T (md_ms T E d s0 (T 0 7)) N2 → ∃ N', ((fX7_dies (nI d) N2).bind fun M12 => fX7_passes_L94 (nI d) (fun M18 => fX7_passes_L144 (nI d) 1000 (nI 0) M18) 1000 (nI 0) M12) = some N' ∧ rr_F N N' ∧ rr_s T (md_tr T E (d + 1)) N' ∧ rr_tr T E (d + 1) N' := by
      intro N2 hf2 hr2
      obtain ⟨N3, a1, a2, a3⟩ := rr_dies hd (hC.keep hf2) (md_ms_ok hs0 (T 0 7)) hr2
      rw [a1, Option.bind_some]
      have hf3 := hf2.tr a2
      have e3 : N3 0 = N 0 := hf3 0 (by omega)
      obtain ⟨N4, b1, b2, b3, b4⟩ := rr_keepW_L (nw := T 0 3) ho.2.1 hd (fun M18 => fX7_passes_L144 (nI d) 1000 (nI 0) M18) (T 0 3) 0 1000 N3 (by omega) (by have := ho.2.1; omega) (by rw [e3]; exact hT.2.1)
      obtain ⟨N5, c1, c2, c3, c4⟩ := rr_keepP_L (np := T 0 0) ho.1 hd (T 0 0) 0 1000 N4 (by omega) (by have := ho.1; omega) (by rw [b2 0 (by decide) (by decide), e3]; exact hT.1)
      rw [b1, c1]
      rw [hend] at a3
      refine ⟨N5, rfl, fun q hq => ?_, ⟨fun w hw => ?_, fun k hk => ?_⟩, fun x hx => ⟨fun w hw => ?_, fun k hk => ?_⟩⟩
      · rw [c2 q (by omega), b2 q (by omega) (by omega), hf3 q (by omega)]
      · rw [c2 11 (by decide), c2 12 (by decide), b2 11 (by decide) (by decide), b2 12 (by decide) (by decide)]; exact a3.1 w hw
      · rw [c2 13 (by decide), c2 14 (by decide), b2 13 (by decide) (by decide), b2 14 (by decide) (by decide)]; exact a3.2 k hk
      · rw [c2 15 (by decide), c2 16 (by decide)]
        by_cases e : x = d
        · subst e
          obtain ⟨g1, g2⟩ := b4 w (by omega) hw
          rw [g1, g2]
          exact a3.1 w hw
        · have w12 := ho.2.1
          obtain ⟨g1, g2⟩ := b3 (12 * x + w) (by omega)
          rw [g1, g2, hf3 15 (by omega), hf3 16 (by omega)]
          exact (ht x (by omega)).1 w hw
      · by_cases e : x = d
        · subst e
          rw [c4 k (by omega) hk, b2 13 (by decide) (by decide)]
          exact (a3.2 k hk).1
        · have w8 := ho.1
          rw [c3 (8 * x + k) (by omega), b2 17 (by decide) (by decide), hf3 17 (by omega)]
          exact (ht x (by omega)).2 k hk
    rw [e0]
    rcases hodd with ⟨q1, q2⟩ | ⟨q1, q2, q3, q4⟩
    · rw [q2, if_neg (q_m1' (by omega))]
      exact fin N1 hf (by rw [q1]; exact hr1)
    · obtain ⟨t6, t7, t8⟩ := ho.2.2.2.2.2 m (by omega)
      rw [q2, q3, q4]
      simp (disch := omega) only [nI_eq]
      by_cases c : T 6 m = d
      · rw [if_pos c]
        obtain ⟨N2, a1, a2, a3⟩ := rr_talk hC1 (md_ms_ok hs0 m) (by omega) hr1 t7 t8 hd
        rw [a1, Option.bind_some]
        exact fin N2 (hf.tr a2) (by rw [q1, md_ms, if_pos c]; exact a3)
      · rw [if_neg c]
        exact fin N1 hf (by rw [q1, md_ms, if_neg c]; exact hr1)
  unfold fX7_passes
  simp (disch := omega) only [q_lit, pk_rem, nI_eq]
  by_cases c : d % 7 = 6
  · rw [if_pos c]
    obtain ⟨N1, a1, a2, a3⟩ := rr_grows hC hs hr
    rw [a1, Option.bind_some]
    have e0 : N1 0 = N 0 := a2 0 (by omega)
    have e9 : N1 9 = N 9 := a2 9 (by omega)
    obtain ⟨N2, b1, b2, b3⟩ := rr_meets_L hd (md_gr_ok hs) (by omega) hm _ m 0 1000 N1 (by omega) (by omega) (hC.keep a2) (by rw [e0]; exact h11) (by rw [e9]; exact h9) hmT a3
    rw [b1]
    exact key N2 (md_gr T (md_tr T E d)) (26 * d) (by omega) (md_gr_ok hs) (a2.tr b2) b3 (by rw [md_tr, md_day, if_pos c])
  · rw [if_neg c]
    obtain ⟨N2, b1, b2, b3⟩ := rr_meets_L hd hs (by omega) hm _ m 0 1000 N (by omega) (by omega) hC h11 h9 hmT hr
    rw [b1]
    exact key N2 (md_tr T E d) (26 * d) (by omega) hs b2 b3 (by rw [md_tr, md_day, if_neg c])
