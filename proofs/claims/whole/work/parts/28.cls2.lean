/-- the next meeting of day d, from j on -/
def cc_nx (T : md_T) (d j : Nat) : Nat := md_fst (fun i => T 6 i == d) (T 0 7 - j) j
def cc_n (r : Nat) (T : md_T) (M : mm_M) : Prop := (∀ d, d < 24 → M (r + 7) d = rr_enc (T 0 7) (cc_nx T d 0)) ∧ ∀ i, i < T 0 7 → M (r + 8) i = rr_enc (T 0 7) (cc_nx T (T 6 i) (i + 1))
def cc_d (r : Nat) (T : md_T) (d : Nat) (M : mm_M) : Prop := ∀ k, k < T 0 0 → bt (M r 5) k = decide (T 2 k < d)
def cc_y (r : Nat) (T : md_T) (M : mm_M) : Prop := ∀ d, d < 24 → (∀ k, k < T 0 0 → bt (M (r + 6) d) k = decide (T 2 k = d)) ∧ (M (r + 6) d = nI 0 ↔ ∀ k, k < T 0 0 → T 2 k ≠ d)
/-- all that stays through the days -/
def cc_Y (r t : Nat) (T : md_T) (E : Nat → Nat → Bool) (M : mm_M) : Prop := cc_C T r t M ∧ cc_e r E M ∧ cc_n r T M ∧ cc_y r T M
theorem cc_Y.keep {r t : Nat} {T : md_T} {E : Nat → Nat → Bool} {M M' : mm_M} (ha : cc_ad r t) (h0 : M' r 0 = M r 0) (hf : ∀ q, q < r ∨ (r + 5 ≤ q ∧ q ≤ r + 8) → M' q = M q) (h : cc_Y r t T E M) : cc_Y r t T E M' := by
  obtain ⟨a1, a2, a3⟩ := ha
  obtain ⟨⟨h1, h2, h3⟩, h4, h5, h6⟩ := h
  refine ⟨⟨h1, h2.keep (fun q x1 x2 => hf q (by omega)), by rw [h0]; exact h3⟩, ?_, ?_, ?_⟩
  · unfold cc_e at h4 ⊢; rw [hf (r + 5) (by omega)]; exact h4
  · unfold cc_n at h5 ⊢; rw [hf (r + 7) (by omega), hf (r + 8) (by omega)]; exact h5
  · unfold cc_y at h6 ⊢; rw [hf (r + 6) (by omega)]; exact h6
theorem cc_Y.f {r t : Nat} {T : md_T} {E : Nat → Nat → Bool} {M M' : mm_M} (ha : cc_ad r t) (hf : cc_f r M M') (h : cc_Y r t T E M) : cc_Y r t T E M' := h.keep ha (by rw [hf r (by omega)]) (fun q hq => hf q (by omega))
theorem cc_two {T : md_T} {t : Nat} {M : mm_M} (h : M t 0 = nI (T 0 0)) (ho : T 0 0 ≤ 8) {a b : Nat} (ha : a < 2 ^ 31) (hb : b < 2 ^ 31) : fX5_areTwo t (nI a) (nI b) M = if md_two T a b = true then 1 else 0 := by
  unfold fX5_areTwo
  rw [h]
  simp (disch := omega) only [nI_eq, nI_leI]
  rw [if_neg (nI_pos ha), if_neg (nI_pos hb)]
  by_cases c1 : a = b
  · rw [if_pos c1, if_neg (by rw [md_two_iff]; omega)]
  · rw [if_neg c1]
    by_cases c2 : T 0 0 ≤ a
    · rw [if_pos c2, if_neg (by rw [md_two_iff]; omega)]
    · rw [if_neg c2]
      by_cases c3 : T 0 0 ≤ b
      · rw [if_pos c3, if_neg (by rw [md_two_iff]; omega)]
      · rw [if_neg c3, if_pos (by rw [md_two_iff]; omega)]
theorem md_ms_skip {T s : md_T} {E : Nat → Nat → Bool} {d j : Nat} : ∀ g, (∀ i, j ≤ i → i < j + g → T 6 i ≠ d) → md_ms T E d s (j + g) = md_ms T E d s j
  | 0, _ => rfl
  | g + 1, h => by
    rw [show j + (g + 1) = (j + g) + 1 by omega, md_ms, if_neg (h (j + g) (by omega) (by omega))]
    exact md_ms_skip g (fun i h1 h2 => h i h1 (by omega))
theorem cc_hold_L {T s : md_T} {E : Nat → Nat → Bool} {r t B d : Nat} (ha : cc_ad r t) (hs : md_sok T s B) (hB : B < 8000) (hd : d < 24) : ∀ (f j held n : Nat) (M : mm_M), T 0 7 - j ≤ f → f < n → held ≤ j → j ≤ T 0 7 → cc_Y r t T E M → cc_d r T d M → cc_s r T (md_ms T E d s j) M →
    ∃ M', fX1_holdMeetings_L10 r t (nI d) n (rr_enc (T 0 7) (cc_nx T d j)) (nI held) M = some M' ∧ cc_f r M M' ∧ cc_s r T (md_ms T E d s (T 0 7)) M' := by
  intro f
  induction f with
  | zero =>
    intro j held n M hf hn hh hj hY hdd hr
    cases n with
    | zero => omega
    | succ n =>
      have e : cc_nx T d j = T 0 7 := by unfold cc_nx; rw [show T 0 7 - j = 0 by omega, md_fst]; omega
      rw [e, rr_enc, if_neg (by omega)]
      refine ⟨M, ?_, cc_f.rf, by rw [show T 0 7 = j by omega]; exact hr⟩
      rw [fX1_holdMeetings_L10]
      split
      · rfl
      · simp
  | succ f ih =>
    intro j held n M hf hn hh hj hY hdd hr
    cases n with
    | zero => omega
    | succ n =>
    obtain ⟨i1, i2, i3, i4⟩ := md_fst_spec (fun i => T 6 i == d) (T 0 7 - j) j
    change j ≤ cc_nx T d j at i1
    change cc_nx T d j ≤ _ at i2
    change ∀ i, j ≤ i → i < cc_nx T d j → _ at i3
    change cc_nx T d j < _ → (T 6 (cc_nx T d j) == d) = true at i4
    have hsk : md_ms T E d s (cc_nx T d j) = md_ms T E d s j := by
      have := md_ms_skip (T := T) (s := s) (E := E) (d := d) (j := j) (cc_nx T d j - j) (fun i h1 h2 => by have := i3 i h1 (by omega); simpa using this)
      rw [show j + (cc_nx T d j - j) = cc_nx T d j by omega] at this
      exact this
    rw [fX1_holdMeetings_L10]
    by_cases hlast : cc_nx T d j = T 0 7
    · have e9 : rr_enc (T 0 7) (T 0 7) = -1 := by rw [rr_enc, if_neg (by omega)]
      rw [hlast, e9]
      refine ⟨M, ?_, cc_f.rf, by rw [← hlast, hsk]; exact hr⟩
      split
      · rfl
      · simp
    · have hlt : cc_nx T d j < T 0 7 := by omega
      have hday : T 6 (cc_nx T d j) = d := by have := i4 (by omega); simpa using this
      generalize cc_nx T d j = i at *
      obtain ⟨⟨⟨o1, o2, o3, o4, o5, o6⟩, ⟨g1, g2, g3, hp, hw, hm⟩, h9⟩, he, ⟨hn1, hn2⟩, hy⟩ := id hY
      have hC := hY.1
      obtain ⟨t6, t7, t8⟩ := o6 i hlt
      obtain ⟨m6, m7, m8⟩ := hm i hlt
      have hnx := hn2 i hlt
      rw [hday] at hnx
      rw [rr_enc, if_pos hlt, g3, if_neg (by rw [nI_leI (by omega) (by omega)]; omega), if_neg (q_m1 (by omega))]
      have go : ∀ M1, cc_f r M M1 → cc_s r T (md_ms T E d s (i + 1)) M1 → ∃ M', fX1_holdMeetings_L10 r t (nI d) n (M1 (r + 8) i) (nI (held + 1)) M1 = some M' ∧ cc_f r M M' ∧ cc_s r T (md_ms T E d s (T 0 7)) M' := by
        intro M1 hf1 hr1
        rw [hf1 (r + 8) (by omega), hnx]
        obtain ⟨M', e1, e2, e3⟩ := ih (i + 1) (held + 1) n M1 (by omega) (by omega) (by omega) (by omega) (hY.f ha hf1) (by unfold cc_d at hdd ⊢; rw [hf1 r (by omega)]; exact hdd) hr1
        exact ⟨M', e1, hf1.tr e2, e3⟩
      have hstay : md_talk T E d (T 7 i) (T 8 i) (md_ms T E d s j) = md_ms T E d s j → ∃ M', fX1_holdMeetings_L10 r t (nI d) n (M (r + 8) i) (nI (held + 1)) M = some M' ∧ cc_f r M M' ∧ cc_s r T (md_ms T E d s (T 0 7)) M' := by
        intro h
        refine go M cc_f.rf ?_
        rw [md_ms, if_pos hday, hsk, h]; exact hr
      simp (disch := omega) only [q_lit, q_rd, Option.bind_some, m7, m8, nI_add]
      rw [cc_two g1 o1 (by omega) (by omega)]
      by_cases c1 : md_two T (T 7 i) (T 8 i) = true
      · rw [if_pos c1, if_neg (by decide)]
        obtain ⟨tw1, tw2, tw3⟩ := md_two_iff.mp c1
        simp (disch := omega) only [q_btN, hdd _ tw2, hdd _ tw3, decide_eq_false_iff_not]
        by_cases c2 : T 2 (T 7 i) < d
        · rw [if_neg (fun q => q c2)]
          exact hstay (by rw [md_talk, if_neg (by omega)])
        · rw [if_pos c2]
          by_cases c3 : T 2 (T 8 i) < d
          · rw [if_neg (fun q => q c3)]
            exact hstay (by rw [md_talk, if_neg (by omega)])
          · rw [if_pos c3]
            have hso := md_ms_ok (E := E) (d := d) hs j
            have p7 := (hp _ tw2).1
            have p8 := (hp _ tw3).1
            simp (disch := omega) only [q_rd, Option.bind_some, p7]
            rw [cc_least hC hr hso t7 t8, Option.bind_some]
            obtain ⟨M1, e1, e2, e3⟩ := cc_speak hC he hso (by omega) hr (b := T 8 i) tw2 t8 hd
            rw [e1, Option.bind_some]
            have hY1 := hY.f ha e2
            have q1 : M1 (t + 1) = M (t + 1) := e2 (t + 1) (by obtain ⟨a1, a2, a3⟩ := ha; omega)
            simp (disch := omega) only [q_rd, Option.bind_some, q1, p8]
            have hso1 := md_say_ok (E := E) (d := d) (a := T 7 i) (b := T 8 i) hso
            rw [cc_least hY1.1 e3 hso1 t8 t7, Option.bind_some]
            obtain ⟨M2, k1, k2, k3⟩ := cc_speak hY1.1 hY1.2.1 hso1 (by omega) e3 (b := T 7 i) tw3 t7 hd
            rw [k1, Option.bind_some]
            refine go M2 (e2.tr k2) ?_
            rw [md_ms, if_pos hday, hsk, md_talk, if_pos ⟨c1, by omega, by omega⟩]
            exact k3
      · rw [if_neg c1, if_pos (show (0 : Int32) = nI 0 from rfl)]
        exact hstay (by rw [md_talk, if_neg (fun q => c1 q.1)])
theorem cc_hold {T s : md_T} {E : Nat → Nat → Bool} {r t B d : Nat} {M : mm_M} (ha : cc_ad r t) (hs : md_sok T s B) (hB : B < 8000) (hd : d < 24) (hY : cc_Y r t T E M) (hdd : cc_d r T d M) (hr : cc_s r T s M) : ∃ M', fX1_holdMeetings r t (nI d) M = some M' ∧ cc_f r M M' ∧ cc_s r T (md_ms T E d s (T 0 7)) M' := by
  have := hY.1.1.2.2.1
  obtain ⟨M', e1, e2, e3⟩ := cc_hold_L ha hs hB hd (T 0 7) 0 0 1000 M (by omega) (by omega) (by omega) (by omega) hY hdd hr
  unfold fX1_holdMeetings
  simp (disch := omega) only [q_lit, q_rd, Option.bind_some, hY.2.2.1.1 d hd]
  exact ⟨M', e1, e2, e3⟩
theorem cc_bury_L {T s : md_T} {E : Nat → Nat → Bool} {r t B d : Nat} (ha : cc_ad r t) (hd : d < 24) (hs : md_sok T s B) (k : mm_M → Option mm_M) : ∀ (f i n : Nat) (M : mm_M), i + f = T 0 3 → f < n → cc_Y r t T E M → (∀ w, i ≤ w → w < T 0 3 → M (r + 1) w = nI (s 1 w)) →
    ∃ M', fX1_bury_L2 r t (nI d) k n (nI i) M = k M' ∧ (∀ q, q ≠ r + 1 → M' q = M q) ∧ (∀ w, w < i → M' (r + 1) w = M (r + 1) w) ∧ ∀ w, i ≤ w → w < T 0 3 → M' (r + 1) w = nI (md_die T d s 1 w)
  | 0, i, n + 1, M, hi, hn, hY, h11 => by
    have := hY.1.1.2.1
    refine ⟨M, ?_, fun _ _ => rfl, fun _ _ => rfl, fun w h1 h2 => by omega⟩
    rw [fX1_bury_L2, hY.1.2.2, if_pos (by rw [nI_leI (by omega) (by omega)]; omega)]
  | f + 1, i, n + 1, M, hi, hn, hY, h11 => by
    obtain ⟨a1, a2, a3⟩ := id ha
    obtain ⟨⟨⟨o1, o2, o3, o4, o5, o6⟩, ⟨g1, g2, g3, hp, hw, hm⟩, h9⟩, he, ⟨hn1, hn2⟩, hy⟩ := id hY
    have hi' : i < T 0 3 := by omega
    have b11 := h11 i (Nat.le_refl _) hi'
    obtain ⟨w1, w2, w3⟩ := hw i hi'
    obtain ⟨t3, t4, t5⟩ := o5 i hi'
    obtain ⟨s1, s2, s3⟩ := hs.1 i hi'
    have key : ∀ v, v = md_die T d s 1 i → ∃ M', fX1_bury_L2 r t (nI d) k n (nI (i + 1)) (mm_wr M (r + 1) i (nI v)) = k M' ∧ (∀ q, q ≠ r + 1 → M' q = M q) ∧ (∀ w, w < i → M' (r + 1) w = M (r + 1) w) ∧ ∀ w, i ≤ w → w < T 0 3 → M' (r + 1) w = nI (md_die T d s 1 w) := by
      intro v hv
      obtain ⟨M', e1, e2, e3, e4⟩ := cc_bury_L (E := E) ha hd hs k f (i + 1) n (mm_wr M (r + 1) i (nI v)) (by omega) (by omega) (hY.f ha (cc_f_wr (by omega))) (fun w h1 h2 => by rw [q_wr_n2 (by omega)]; exact h11 w (by omega) h2)
      refine ⟨M', e1, fun q hq => by rw [e2 q hq, q_wr_ne hq], fun w hw => by rw [e3 w (by omega), q_wr_n2 (by omega)], fun w h1 h2 => ?_⟩
      by_cases e : w = i
      · subst e
        rw [e3 w (by omega), q_wr_eq, hv]
      · exact e4 w (by omega) h2
    have stay : md_die T d s 1 i = s 1 i → ∃ M', fX1_bury_L2 r t (nI d) k n (nI (i + 1)) M = k M' ∧ (∀ q, q ≠ r + 1 → M' q = M q) ∧ (∀ w, w < i → M' (r + 1) w = M (r + 1) w) ∧ ∀ w, i ≤ w → w < T 0 3 → M' (r + 1) w = nI (md_die T d s 1 w) := by
      intro hv
      obtain ⟨M', e1, e2, e3, e4⟩ := cc_bury_L (E := E) ha hd hs k f (i + 1) n M (by omega) (by omega) hY (fun w h1 h2 => h11 w (by omega) h2)
      refine ⟨M', e1, e2, fun w hw => e3 w (by omega), fun w h1 h2 => ?_⟩
      by_cases e : w = i
      · subst e
        rw [e3 w (by omega), b11, hv]
      · exact e4 w (by omega) h2
    rw [fX1_bury_L2, h9, if_neg (by rw [nI_leI (by omega) (by omega)]; omega)]
    simp (disch := omega) only [q_lit, q_rd, q_wa, Option.bind_some, nI_add, nI_eq, b11, w1, w2]
    by_cases h0 : s 1 i = 0
    · have hl := s3 h0
      have y3 := (hy d hd).1 _ hl.1
      have y4 := (hy d hd).1 _ hl.2.1
      rw [if_pos h0]
      simp (disch := omega) only [q_btN, y3, y4, decide_eq_false_iff_not]
      by_cases c1 : T 2 (T 4 i) = d
      · rw [if_neg (fun q => q c1)]
        exact key 3 (by simp [md_die, h0, c1, hi'])
      · rw [if_pos c1]
        by_cases c2 : T 2 (T 3 i) = d
        · rw [if_neg (fun q => q c2)]
          exact key 2 (by simp [md_die, h0, c1, c2, hi'])
        · rw [if_pos c2]
          exact stay (by simp [md_die, h0, c1, c2])
    · rw [if_neg h0]
      exact stay (by simp [md_die, h0])
theorem cc_bury {T s : md_T} {E : Nat → Nat → Bool} {r t B d : Nat} {M : mm_M} (ha : cc_ad r t) (hd : d < 24) (hs : md_sok T s B) (hY : cc_Y r t T E M) (hdd : cc_d r T d M) (hr : cc_s r T s M) : ∃ M', fX1_bury r t (nI d) M = some M' ∧ (∀ q, q ≠ r → q ≠ r + 1 → M' q = M q) ∧ M' r 0 = M r 0 ∧ cc_d r T (d + 1) M' ∧ cc_s r T (md_die T d s) M' := by
  have hb := hY.1.1.2.1
  have hb0 := hY.1.1.1
  unfold fX1_bury
  simp only [q_lit]
  obtain ⟨M1, e1, e2, e3, e4⟩ := cc_bury_L (E := E) ha hd hs (fun M12 => (mm_rd M12 (r + 6) 24 (nI d)).bind fun b13 => (mm_pf M12 r 5 ((M12 r 5) ||| b13)).bind fun M14 => some M14) (T 0 3) 0 1000 M (by omega) (by omega) hY (fun w _ hw => (hr.1 w hw).1)
  rw [e1]
  simp (disch := omega) only [q_rd, q_pf, Option.bind_some]
  refine ⟨_, rfl, fun q h1 h2 => by rw [q_wr_ne h1, e2 q h2], ?_, fun k hk => ?_, ⟨fun w hw => ⟨?_, ?_⟩, fun k hk => ?_⟩⟩
  · rw [q_wr_n2 (by decide), e2 r (by omega)]
  · rw [q_wr_eq, b_or, e2 r (by omega), e2 (r + 6) (by omega), hdd k hk, (hY.2.2.2 d hd).1 k hk]
    by_cases c1 : T 2 k < d
    · simp [c1, show T 2 k < d + 1 by omega]
    · by_cases c2 : T 2 k = d
      · simp [c2]
      · simp [c1, c2, show ¬ T 2 k < d + 1 by omega]
  · rw [q_wr_ne (by omega)]; exact e4 w (by omega) hw
  · rw [q_wr_ne (by omega), e2 (r + 2) (by omega), (hr.1 w hw).2]; simp [md_die]
  · rw [q_wr_ne (by omega), q_wr_ne (by omega), e2 (r + 3) (by omega), e2 (r + 4) (by omega), (hr.2 k hk).1, (hr.2 k hk).2]; simp [md_die]
