theorem rr_ini_L {T : md_T} {E : Nat → Nat → Bool} (k : mm_M → Option mm_M) : ∀ (f i n : Nat) (N : mm_M), i + f = T 0 3 → f < n → rr_C T E N →
    ∃ N', fX7_runs_L2 k n (nI i) N = k N' ∧ (∀ q, q ≠ 11 → q ≠ 12 → N' q = N q) ∧ (∀ w, w < i → N' 11 w = N 11 w ∧ N' 12 w = N 12 w) ∧ ∀ w, i ≤ w → w < T 0 3 → N' 11 w = nI (md_ini T 1 w) ∧ N' 12 w = nI (md_ini T 2 w)
  | 0, i, n + 1, N, hi, hn, hC => by
    obtain ⟨ho, hT, -⟩ := hC
    have h9 := hT.2.1
    have := ho.2.1
    refine ⟨N, ?_, fun _ _ _ => rfl, fun _ _ => ⟨rfl, rfl⟩, fun w h1 h2 => by omega⟩
    rw [fX7_runs_L2, h9, if_pos (by rw [nI_leI (by omega) (by omega)]; omega)]
  | f + 1, i, n + 1, N, hi, hn, hC => by
    have hC0 := hC
    obtain ⟨ho, hT, -⟩ := hC
    obtain ⟨h7, h9, hp, hw, -⟩ := hT
    obtain ⟨o1, o2, o3, o4, o5, o6⟩ := ho
    have hi' : i < T 0 3 := by omega
    obtain ⟨w1, w2, w3⟩ := hw i hi'
    obtain ⟨t3, t4, t5, t6⟩ := o5 i hi'
    have key : ∀ v, v = md_ini T 1 i → ∃ N', fX7_runs_L2 k n (nI (i + 1)) (mm_wr (mm_wr N 11 i (nI v)) 12 i (nI (T 5 i))) = k N' ∧ (∀ q, q ≠ 11 → q ≠ 12 → N' q = N q) ∧ (∀ w, w < i → N' 11 w = N 11 w ∧ N' 12 w = N 12 w) ∧ ∀ w, i ≤ w → w < T 0 3 → N' 11 w = nI (md_ini T 1 w) ∧ N' 12 w = nI (md_ini T 2 w) := by
      intro v hv
      obtain ⟨N', e1, e2, e3, e4⟩ := rr_ini_L (T := T) (E := E) k f (i + 1) n (mm_wr (mm_wr N 11 i (nI v)) 12 i (nI (T 5 i))) (by omega) (by omega) (hC0.keep ((rr_f_wr (by omega)).tr (rr_f_wr (by omega))))
      refine ⟨N', e1, fun q h1 h2 => by rw [e2 q h1 h2, q_wr_ne h2, q_wr_ne h1], fun w hw => ?_, fun w h1 h2 => ?_⟩
      · obtain ⟨a, b⟩ := e3 w (by omega)
        rw [a, b]
        exact ⟨by rw [q_wr_ne (by decide), q_wr_n2 (by omega)], by rw [q_wr_n2 (by omega), q_wr_ne (by decide)]⟩
      · by_cases e : w = i
        · subst e
          obtain ⟨a, b⟩ := e3 w (by omega)
          rw [a, b, hv]
          exact ⟨by rw [q_wr_ne (by decide), q_wr_eq], by rw [q_wr_eq]; simp [md_ini]⟩
        · exact e4 w (by omega) h2
    rw [fX7_runs_L2, h9, if_neg (by rw [nI_leI (by omega) (by omega)]; omega)]
    simp (disch := omega) only [q_lit, q_rd, q_wa, Option.bind_some, pk_mul, nI_add, nI_eq, w1, w2, w3, q_isPersonN h7]
    have j0 : ∀ c : Nat, c < 2 → fX7_runs_J68 (nI i) (nI c) (fX7_runs_L2 k n) N = fX7_runs_L2 k n (nI (i + 1)) (mm_wr (mm_wr N 11 i (nI (if c = 0 then 4 else 0))) 12 i (nI (T 5 i))) := by
      intro c hc
      unfold fX7_runs_J68 fX7_runs_J83
      simp (disch := omega) only [q_lit, q_rd, q_wa, Option.bind_some, pk_mul, nI_add, nI_eq, w3, q_wr_ne]
      by_cases e : c = 0
      · simp only [if_pos e]
      · simp only [if_neg e]
    have jz : fX7_runs_J67 (nI i) (fX7_runs_L2 k n) N = fX7_runs_L2 k n (nI (i + 1)) (mm_wr (mm_wr N 11 i (nI 4)) 12 i (nI (T 5 i))) := by
      unfold fX7_runs_J67
      simp only [q_lit]
      exact j0 0 (by omega)
    rw [jz]
    simp only [← q_lit 1, ← q_lit 0, q_if10]
    by_cases c1 : T 3 i < T 0 0
    · rw [if_pos c1]
      by_cases c2 : T 4 i < T 0 0
      · rw [if_pos c2]
        by_cases c3 : T 3 i = T 4 i
        · rw [if_pos c3]
          exact key 4 (by simp [md_ini, md_two, c3])
        · rw [if_neg c3]
          have := j0 1 (by omega)
          rw [q_lit, this]
          exact key 0 (by simp [md_ini, md_two, c3, c1, c2])
      · rw [if_neg c2]
        exact key 4 (by simp [md_ini, md_two, c2])
    · rw [if_neg c1]
      exact key 4 (by simp [md_ini, md_two, c1])
theorem rr_zero_L (k : mm_M → Option mm_M) : ∀ (f i n : Nat) (N : mm_M), i + f = 8 → f < n →
    ∃ N', fX7_runs_L108 k n (nI i) N = k N' ∧ (∀ q, q ≠ 13 → q ≠ 14 → N' q = N q) ∧ (∀ w, w < i → N' 13 w = N 13 w ∧ N' 14 w = N 14 w) ∧ ∀ w, i ≤ w → w < 8 → N' 13 w = nI 0 ∧ N' 14 w = nI 0
  | 0, i, n + 1, N, hi, hn => by
    refine ⟨N, ?_, fun _ _ _ => rfl, fun _ _ => ⟨rfl, rfl⟩, fun w h1 h2 => by omega⟩
    rw [fX7_runs_L108, q_lit 8, if_pos (by rw [nI_leI (by omega) (by omega)]; omega)]
  | f + 1, i, n + 1, N, hi, hn => by
    rw [fX7_runs_L108, q_lit 8, if_neg (by rw [nI_leI (by omega) (by omega)]; omega)]
    simp (disch := omega) only [q_lit, q_wa, Option.bind_some, nI_add]
    obtain ⟨N', e1, e2, e3, e4⟩ := rr_zero_L k f (i + 1) n (mm_wr (mm_wr N 13 i (nI 0)) 14 i (nI 0)) (by omega) (by omega)
    refine ⟨N', e1, fun q h1 h2 => by rw [e2 q h1 h2, q_wr_ne h2, q_wr_ne h1], fun w hw => ?_, fun w h1 h2 => ?_⟩
    · obtain ⟨a, b⟩ := e3 w (by omega)
      rw [a, b]
      exact ⟨by rw [q_wr_ne (by decide), q_wr_n2 (by omega)], by rw [q_wr_n2 (by omega), q_wr_ne (by decide)]⟩
    · by_cases e : w = i
      · subst e
        obtain ⟨a, b⟩ := e3 w (by omega)
        rw [a, b]
        exact ⟨by rw [q_wr_ne (by decide), q_wr_eq], by rw [q_wr_eq]⟩
      · exact e4 w (by omega) h2
theorem rr_days_L {T : md_T} {E : Nat → Nat → Bool} : ∀ (f d n : Nat) (N : mm_M), d + f = 24 → f < n → rr_C T E N → rr_s T (md_tr T E d) N → rr_tr T E d N →
    ∃ N', fX7_runs_L136 n (nI d) N = some N' ∧ rr_F N N' ∧ rr_s T (md_tr T E 24) N' ∧ rr_tr T E 24 N'
  | 0, d, n + 1, N, hi, hn, hC, hr, ht => by
    refine ⟨N, ?_, rr_F.rf, by rw [show 24 = d by omega]; exact hr, by rw [show 24 = d by omega]; exact ht⟩
    rw [fX7_runs_L136, q_lit 24, if_pos (by rw [nI_leI (by omega) (by omega)]; omega)]
  | f + 1, d, n + 1, N, hi, hn, hC, hr, ht => by
    rw [fX7_runs_L136, q_lit 24, if_neg (by rw [nI_leI (by omega) (by omega)]; omega)]
    obtain ⟨N1, a1, a2, a3, a4⟩ := rr_passes (show d < 24 by omega) hC hr ht
    rw [a1, Option.bind_some, q_lit, nI_add]
    obtain ⟨N2, b1, b2, b3, b4⟩ := rr_days_L f (d + 1) n N1 (by omega) (by omega) (hC.Keep a2) a3 a4
    exact ⟨N2, b1, a2.tr b2, b3, b4⟩
/-- the reference's runs(): all days -/
theorem rr_runs {T : md_T} {E : Nat → Nat → Bool} {N : mm_M} (hC : rr_C T E N) : ∃ N', fX7_runs N = some N' ∧ rr_F N N' ∧ rr_s T (md_tr T E 24) N' ∧ rr_tr T E 24 N' := by
  have o1 := hC.1.1
  have o2 := hC.1.2.1
  unfold fX7_runs
  simp only [q_lit]
  obtain ⟨N1, a1, a2, a3, a4⟩ := rr_ini_L (T := T) (E := E) (fun M15 => fX7_runs_L108 (fun M19 => fX7_runs_L136 1000 (nI 0) M19) 1000 (nI 0) M15) (T 0 3) 0 1000 N (by omega) (by omega) hC
  obtain ⟨N2, b1, b2, b3, b4⟩ := rr_zero_L (fun M19 => fX7_runs_L136 1000 (nI 0) M19) 8 0 1000 N1 (by omega) (by omega)
  have f2 : rr_F N N2 := fun q hq => by rw [b2 q (by omega) (by omega), a2 q (by omega) (by omega)]
  obtain ⟨N3, c1, c2, c3, c4⟩ := rr_days_L 24 0 1000 N2 (by omega) (by omega) (hC.Keep f2) ⟨fun w hw => by rw [b2 11 (by decide) (by decide), b2 12 (by decide) (by decide)]; exact a4 w (by omega) hw, fun k hk => by
      obtain ⟨g1, g2⟩ := b4 k (by omega) (by omega)
      rw [g1, g2]; simp [md_tr, md_ini]⟩ (fun d hd => by omega)
  rw [a1, b1, c1]
  exact ⟨N3, rfl, f2.tr c2, c3, c4⟩
