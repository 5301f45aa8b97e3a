theorem md_fst_from {P : Nat → Bool} : ∀ (i f : Nat), (∀ j, j < i → P j = false) → md_fst P (i + f) 0 = md_fst P f i := by
  have key : ∀ (i f a : Nat), (∀ j, a ≤ j → j < a + i → P j = false) → md_fst P (i + f) a = md_fst P f (a + i) := by
    intro i
    induction i with
    | zero => intro f a _; simp
    | succ i ih =>
      intro f a h
      rw [show i + 1 + f = (i + f) + 1 by omega, md_fst, if_neg (by rw [h a (by omega) (by omega)]; decide), ih f (a + 1) (fun j h1 h2 => h j (by omega) (by omega))]
      congr 1; omega
  intro i f h
  have := key i f 0 (fun j _ h2 => h j (by omega))
  simpa using this
theorem q_m9 {a : Nat} (h : a < 2 ^ 31) : ¬ nI a = (-9 : Int32) := by
  intro e
  have h1 := congrArg Int32.toInt e
  rw [nI_toInt h] at h1
  have : ((-9 : Int32)).toInt = -9 := by decide
  omega
def tx_R (S : md_T) (N : mm_M) : Prop := ∀ t, t < 3 → S 0 t ≤ pa_cap t ∧ N 6 t = nI (S 0 t) ∧ ∀ i, i < S 0 t → S (1 + t) i < 256 ∧ N 5 (48 * t + i) = nI (S (1 + t) i)
theorem pa_x_of {S : md_T} {t i v : Nat} (h : pa_at S t i = some v) : pa_x S t i = v := by unfold pa_x; rw [h]; rfl
theorem pa_well {S : md_T} {t : Nat} (h : pa_f S t = none) : (∀ i, i < S 0 t → ∃ v, pa_at S t i = some v) ∧ (S 0 t = 0 ∨ S 0 t % pa_sp t = pa_sp t - 1) := by
  unfold pa_f at h
  split at h
  · cases h
  · rename_i hw
    split at h
    · rename_i hz
      refine ⟨fun i hi => ?_, hz⟩
      obtain ⟨f1, f2, f3, f4⟩ := md_fst_spec (pa_bad S t) (S 0 t) 0
      have := f3 i (by omega) (by change i < pa_w S t; omega)
      unfold pa_bad at this
      cases h2 : pa_at S t i with
      | none => rw [h2] at this; cases this
      | some v => exact ⟨v, rfl⟩
    · cases h
theorem pa_ok {S : md_T} {N : mm_M} (h : tx_R S N) : md_ok (pa_T S) := by
  have b0 := (h 0 (by omega)).1
  have b1 := (h 1 (by omega)).1
  have b2 := (h 2 (by omega)).1
  simp only [pa_cap] at b0 b1 b2
  simp at b0 b1 b2
  have n0 : pa_n S 0 ≤ 8 := by unfold pa_n pa_sp; split <;> simp <;> omega
  have n1 : pa_n S 1 ≤ 12 := by unfold pa_n pa_sp; split <;> simp <;> omega
  have n2 : pa_n S 2 ≤ 12 := by unfold pa_n pa_sp; split <;> simp <;> omega
  have at0 : ∀ k c, k < pa_n S 0 → c < 2 → ∃ v, pa_v 0 c (S 1 (3 * k + c)) = some v ∧ pa_x S 0 (3 * k + c) = v := by
    intro k c hk hc
    unfold pa_n at hk
    split at hk
    · rename_i hf
      obtain ⟨h1, h2⟩ := pa_well hf
      have e : pa_sp 0 = 3 := rfl
      rw [e] at hk h2
      obtain ⟨v, hv⟩ := h1 (3 * k + c) (by omega)
      refine ⟨v, ?_, pa_x_of hv⟩
      unfold pa_at at hv
      rw [e, show (3 * k + c) % 3 = c by omega] at hv
      exact hv
    · omega
  have at1 : ∀ t k c, (t = 1 ∨ t = 2) → k < pa_n S t → c < 3 → ∃ v, pa_v t c (S (1 + t) (4 * k + c)) = some v ∧ pa_x S t (4 * k + c) = v := by
    intro t k c ht hk hc
    unfold pa_n at hk
    split at hk
    · rename_i hf
      obtain ⟨h1, h2⟩ := pa_well hf
      have e : pa_sp t = 4 := by unfold pa_sp; rw [if_neg (by omega)]
      rw [e] at hk h2
      obtain ⟨v, hv⟩ := h1 (4 * k + c) (by omega)
      refine ⟨v, ?_, pa_x_of hv⟩
      unfold pa_at at hv
      rw [e, show (4 * k + c) % 4 = c by omega] at hv
      exact hv
    · omega
  have n3 : pa_n S 2 ≤ 13 := by omega
  refine ⟨by simpa [pa_T] using n0, by simpa [pa_T] using n1, by simpa [pa_T] using n3, fun k hk => ?_, fun w hw => ?_, fun i hi => ?_⟩
  · have hk : k < pa_n S 0 := by simpa [pa_T] using hk
    obtain ⟨v, h1, h2⟩ := at0 k 0 hk (by omega)
    obtain ⟨u, h3, h4⟩ := at0 k 1 hk (by omega)
    simp only [pa_T]
    simp
    rw [Nat.add_zero] at h2
    rw [h2, h4]
    refine ⟨?_, pa_v_lt h3⟩
    unfold pa_v at h1
    simp at h1
    repeat' (split at h1)
    all_goals first | (cases h1; omega) | cases h1
  · have hw : w < pa_n S 1 := by simpa [pa_T] using hw
    obtain ⟨v, h1, h2⟩ := at1 1 w 0 (by omega) hw (by omega)
    obtain ⟨u, h3, h4⟩ := at1 1 w 1 (by omega) hw (by omega)
    obtain ⟨z, h5, h6⟩ := at1 1 w 2 (by omega) hw (by omega)
    simp only [pa_T]
    simp
    rw [Nat.add_zero] at h2
    rw [h2, h4, h6]
    unfold pa_v at h1 h3 h5
    simp at h1 h3 h5
    omega
  · have hi : i < pa_n S 2 := by simpa [pa_T] using hi
    obtain ⟨v, h1, h2⟩ := at1 2 i 0 (by omega) hi (by omega)
    obtain ⟨u, h3, h4⟩ := at1 2 i 1 (by omega) hi (by omega)
    obtain ⟨z, h5, h6⟩ := at1 2 i 2 (by omega) hi (by omega)
    simp only [pa_T]
    simp
    rw [Nat.add_zero] at h2
    rw [h2, h4, h6]
    unfold pa_v at h1 h3 h5
    simp at h1 h3 h5
    omega
theorem pr_People_step {S : md_T} (hcap : S 0 0 ≤ pa_cap 0) {i n : Nat} {N : mm_M} (hi : i < S 0 0) (h5 : ∀ i, i < S 0 0 → S 1 i < 256 ∧ N 5 (0 + i) = nI (S 1 i)) (hc : N 0 7 = nI ((i + 1) / 3)) :
    (pa_at S 0 i = none → ∀ kb kw, fX7_readsPeople_L14 (nI (S 0 0)) kb kw (n + 1) (nI i) N = kb (nI i) N) ∧ (∀ v, pa_at S 0 i = some v → ∃ N1, (∀ q, q ≠ 0 → q ≠ 7 → N1 q = N q) ∧ (∀ j, j ≠ 7 → N1 0 j = N 0 j) ∧ N1 0 7 = nI ((i + 1 + 1) / 3) ∧ (∀ j, j ≠ 2 * (i / 3) + i % 3 → N1 7 j = N 7 j) ∧ (i % 3 < 2 → N1 7 (2 * (i / 3) + i % 3) = nI v) ∧ (¬ i % 3 < 2 → N1 7 = N 7) ∧ ∀ kb kw, fX7_readsPeople_L14 (nI (S 0 0)) kb kw (n + 1) (nI i) N = fX7_readsPeople_L14 (nI (S 0 0)) kb kw n (nI (i + 1)) N1) := by
  have hcap' : S 0 0 ≤ 23 := by unfold pa_cap at hcap; simpa using hcap
  obtain ⟨b1, b2⟩ := h5 i (by omega)
  have hp := pa_person (i % 3) (Nat.mod_lt _ (by omega)) (S 1 i) b1
  have hpa : pa_at S 0 i = pa_v 0 (i % 3) (S 1 i) := by unfold pa_at pa_sp; simp
  rw [Nat.zero_add] at b2
  rw [hpa]
  have un : ∀ kb kw, fX7_readsPeople_L14 (nI (S 0 0)) kb kw (n + 1) (nI i) N = if pa_e (-9) (pa_v 0 (i % 3) (S 1 i)) = (-9) then kb (nI i) N else if 2 ≤ i % 3 then fX7_readsPeople_J68 (nI (S 0 0)) (nI i) (nI (i % 3)) (fX7_readsPeople_L14 (nI (S 0 0)) kb kw n) N else fX7_readsPeople_J68 (nI (S 0 0)) (nI i) (nI (i % 3)) (fX7_readsPeople_L14 (nI (S 0 0)) kb kw n) (mm_wr N 7 (2 * (i / 3) + i % 3) (pa_e (-9) (pa_v 0 (i % 3) (S 1 i)))) := by
    intro kb kw
    rw [fX7_readsPeople_L14, if_neg (by rw [nI_leI (by omega) (by omega)]; omega)]
    simp (disch := omega) only [q_lit 0, q_lit 1, q_lit 2, q_lit 3, q_lit 4, q_lit 48, q_lit 96, pk_rem]
    simp (disch := omega) only [pk_div, pk_mul, nI_add, q_rd, Option.bind_some, nI_leI, b2, hp]
    split
    · rfl
    · split
      · rfl
      · rw [q_wa (by omega) (by omega), Option.bind_some]
  have j2 : ∀ (N1 : mm_M) kb kw, N1 0 7 = nI ((i + 1) / 3) → fX7_readsPeople_J68 (nI (S 0 0)) (nI i) (nI (i % 3)) (fX7_readsPeople_L14 (nI (S 0 0)) kb kw n) N1 = fX7_readsPeople_L14 (nI (S 0 0)) kb kw n (nI (i + 1)) (mm_wr N1 0 7 (nI ((i + 1 + 1) / 3))) := by
    intro N1 kb kw h0
    unfold fX7_readsPeople_J68
    simp (disch := omega) only [q_lit 0, q_lit 1, q_lit 2, nI_eq, q_pf, Option.bind_some, nI_add, h0]
    split
    · congr 2; congr 1; omega
    · congr 2; congr 1; omega
  refine ⟨fun h kb kw => ?_, fun v h => ?_⟩
  · rw [un, h, if_pos (show pa_e (-9) none = -9 from rfl)]
  · have hv24 : v < 24 := pa_v_lt h
    by_cases c2 : 2 ≤ i % 3
    · refine ⟨mm_wr N 0 7 (nI ((i + 1 + 1) / 3)), fun q h1 h2 => q_wr_ne h1, fun j hj => q_wr_n2 hj, q_wr_eq, fun j hj => by rw [q_wr_ne (by decide)], fun h => by omega, fun _ => q_wr_ne (by decide), fun kb kw => ?_⟩
      rw [un, h, show pa_e (-9) (some v) = nI v from rfl, if_neg (q_m9 (a := v) (by omega)), if_pos c2, j2 N kb kw hc]
    · refine ⟨mm_wr (mm_wr N 7 (2 * (i / 3) + i % 3) (nI v)) 0 7 (nI ((i + 1 + 1) / 3)), fun q h1 h2 => by rw [q_wr_ne h1, q_wr_ne h2], fun j hj => by rw [q_wr_n2 hj, q_wr_ne (by decide)], q_wr_eq, fun j hj => by rw [q_wr_ne (by decide), q_wr_n2 hj], fun _ => by rw [q_wr_ne (by decide), q_wr_eq], fun h => by omega, fun kb kw => ?_⟩
      rw [un, h, show pa_e (-9) (some v) = nI v from rfl, if_neg (q_m9 (a := v) (by omega)), if_neg c2, j2 _ kb kw (by rw [q_wr_ne (by decide)]; exact hc)]
theorem pr_People_L {S : md_T} (hcap : S 0 0 ≤ pa_cap 0) : ∀ (f i n : Nat) (N : mm_M), i + f = S 0 0 → f < n → (∀ i, i < S 0 0 → S 1 i < 256 ∧ N 5 (0 + i) = nI (S 1 i)) → (∀ j, j < i → pa_bad S 0 j = false) → N 0 7 = nI ((i + 1) / 3) → (∀ j, j < i → j % 3 < 2 → N 7 (2 * (j / 3) + j % 3) = nI (pa_x S 0 j)) →
    ∃ N', (∀ q, q ≠ 0 → q ≠ 7 → N' q = N q) ∧ (∀ j, j ≠ 7 → N' 0 j = N 0 j) ∧ ((pa_w S 0 < S 0 0 ∧ ∀ kb kw, fX7_readsPeople_L14 (nI (S 0 0)) kb kw n (nI i) N = kb (nI (pa_w S 0)) N') ∨ (pa_w S 0 = S 0 0 ∧ (∀ kb kw, fX7_readsPeople_L14 (nI (S 0 0)) kb kw n (nI i) N = kw N') ∧ N' 0 7 = nI ((S 0 0 + 1) / 3) ∧ ∀ j, j < S 0 0 → j % 3 < 2 → N' 7 (2 * (j / 3) + j % 3) = nI (pa_x S 0 j)))
  | 0, i, n + 1, N, hi, hn, h5, hb, hc, hv => by
    have hcap' : S 0 0 ≤ 23 := by unfold pa_cap at hcap; simpa using hcap
    refine ⟨N, fun _ _ _ => rfl, fun _ _ => rfl, Or.inr ⟨?_, fun kb kw => ?_, ?_, ?_⟩⟩
    · have := md_fst_from (P := pa_bad S 0) i 0 hb
      unfold pa_w
      rw [show S 0 0 = i + 0 by omega, this, md_fst]; omega
    · rw [fX7_readsPeople_L14, if_pos (by rw [nI_leI (by omega) (by omega)]; omega)]
    · rw [show S 0 0 = i by omega]; exact hc
    · intro j hj hm; exact hv j (by omega) hm
  | f + 1, i, n + 1, N, hi, hn, h5, hb, hc, hv => by
    have hcap' : S 0 0 ≤ 23 := by unfold pa_cap at hcap; simpa using hcap
    obtain ⟨st1, st2⟩ := pr_People_step (n := n) hcap (show i < S 0 0 by omega) h5 hc
    cases hat : pa_at S 0 i with
    | none =>
      refine ⟨N, fun _ _ _ => rfl, fun _ _ => rfl, Or.inl ?_⟩
      have hw : pa_w S 0 = i := by
        unfold pa_w
        rw [show S 0 0 = i + (f + 1) by omega, md_fst_from i (f + 1) hb, md_fst, if_pos]
        unfold pa_bad; rw [hat]; rfl
      rw [hw]
      exact ⟨by omega, st1 hat⟩
    | some v =>
      obtain ⟨N1, k1, k2, k3, k4, k5, k6, k7⟩ := st2 v hat
      have hx : pa_x S 0 i = v := pa_x_of hat
      have hb' : ∀ j, j < i + 1 → pa_bad S 0 j = false := by
        intro j hj
        by_cases e : j = i
        · subst e; unfold pa_bad; rw [hat]; rfl
        · exact hb j (by omega)
      obtain ⟨N', e1, e2, e3⟩ := pr_People_L hcap f (i + 1) n N1 (by omega) (by omega) (by rw [k1 5 (by decide) (by decide)]; exact h5) hb' k3 (fun j hj hm => by
        by_cases e : j = i
        · subst e; rw [k5 hm, hx]
        · rw [k4 _ (by omega)]; exact hv j (by omega) hm)
      refine ⟨N', fun q h1 h2 => by rw [e1 q h1 h2, k1 q h1 h2], fun j hj => by rw [e2 j hj, k2 j hj], ?_⟩
      rcases e3 with ⟨g1, g2⟩ | ⟨g1, g2, g3⟩
      · exact Or.inl ⟨g1, fun kb kw => by rw [k7 kb kw]; exact g2 kb kw⟩
      · exact Or.inr ⟨g1, fun kb kw => by rw [k7 kb kw]; exact g2 kb kw, g3⟩
theorem pr_People {S : md_T} {N : mm_M} (h : tx_R S N) : ∃ N', fX7_readsPeople N = some (pa_e (-1) (pa_f S 0), N') ∧ (∀ q, q ≠ 0 → q ≠ 7 → N' q = N q) ∧ (∀ j, j ≠ 7 → N' 0 j = N 0 j) ∧ N' 0 7 = nI (pa_n S 0) ∧ ∀ j, j / 3 < pa_n S 0 → j % 3 < 2 → N' 7 (2 * (j / 3) + j % 3) = nI (pa_x S 0 j) := by
  obtain ⟨hcap, h6, h5⟩ := h 0 (by omega)
  have hcap' : S 0 0 ≤ 23 := by unfold pa_cap at hcap; simpa using hcap
  have esp : pa_sp 0 = 3 := rfl
  unfold fX7_readsPeople
  simp (disch := omega) only [q_lit 0, q_lit 1, q_lit 2, q_lit 3, q_lit 4, q_pf, Option.bind_some, q_rd, q_wr_ne, h6]
  obtain ⟨N1, e1, e2, e3⟩ := pr_People_L hcap (S 0 0) 0 1000 (mm_wr N 0 7 (nI 0)) (by omega) (by omega) (by rw [q_wr_ne (by decide)]; exact h5) (fun j hj => by omega) (by rw [q_wr_eq]) (fun j hj => by omega)
  have fr1 : ∀ q, q ≠ 0 → q ≠ 7 → N1 q = N q := fun q h1 h2 => by rw [e1 q h1 h2, q_wr_ne h1]
  have fr2 : ∀ j, j ≠ 7 → N1 0 j = N 0 j := fun j hj => by rw [e2 j hj, q_wr_n2 hj]
  have bad : pa_f S 0 ≠ none → pa_n S 0 = 0 := fun h => by unfold pa_n; rw [if_neg h]
  have fin : ∀ p, pa_f S 0 = some p → ∃ N', some (nI p, mm_wr N1 0 7 (nI 0)) = some (pa_e (-1) (pa_f S 0), N') ∧ (∀ q, q ≠ 0 → q ≠ 7 → N' q = N q) ∧ (∀ j, j ≠ 7 → N' 0 j = N 0 j) ∧ N' 0 7 = nI (pa_n S 0) ∧ ∀ j, j / 3 < pa_n S 0 → j % 3 < 2 → N' 7 (2 * (j / 3) + j % 3) = nI (pa_x S 0 j) := by
    intro p hp
    have z := bad (by rw [hp]; exact fun h => by cases h)
    refine ⟨mm_wr N1 0 7 (nI 0), by rw [hp]; rfl, fun q h1 h2 => by rw [q_wr_ne h1, fr1 q h1 h2], fun j hj => by rw [q_wr_n2 hj, fr2 j hj], by rw [q_wr_eq, z], fun j hj => by omega⟩
  rcases e3 with ⟨g1, g2⟩ | ⟨g1, g2, g3, g4⟩
  · rw [g2]
    exact fin _ (by unfold pa_f; rw [if_pos g1])
  · rw [g2]
    simp (disch := omega) only [nI_leI, pk_rem, nI_eq]
    have hf : pa_f S 0 = if S 0 0 = 0 ∨ S 0 0 % 3 = 2 then none else some (S 0 0) := by
      unfold pa_f; rw [if_neg (by omega), esp]
    have good : pa_f S 0 = none → ∃ N', some ((-1 : Int32), N1) = some (pa_e (-1) (pa_f S 0), N') ∧ (∀ q, q ≠ 0 → q ≠ 7 → N' q = N q) ∧ (∀ j, j ≠ 7 → N' 0 j = N 0 j) ∧ N' 0 7 = nI (pa_n S 0) ∧ ∀ j, j / 3 < pa_n S 0 → j % 3 < 2 → N' 7 (2 * (j / 3) + j % 3) = nI (pa_x S 0 j) := by
      intro hn
      have hz := (pa_well hn).2
      rw [esp] at hz
      have hn2 : pa_n S 0 = (S 0 0 + 1) / 3 := by unfold pa_n; rw [if_pos hn, esp]
      refine ⟨N1, by rw [hn]; rfl, fr1, fr2, by rw [g3, hn2], fun j hj hm => g4 j (by rw [hn2] at hj; omega) hm⟩
    by_cases c1 : S 0 0 ≤ 0
    · rw [if_pos c1]
      exact good (by rw [hf, if_pos (by omega)])
    · rw [if_neg c1]
      by_cases c2 : S 0 0 % 3 = 2
      · rw [if_pos c2]
        exact good (by rw [hf, if_pos (Or.inr c2)])
      · rw [if_neg c2]
        exact fin _ (by rw [hf, if_neg (by omega)])
theorem pr_Words_step {S : md_T} (hcap : S 0 1 ≤ pa_cap 1) {i n : Nat} {N : mm_M} (hi : i < S 0 1) (h5 : ∀ i, i < S 0 1 → S 2 i < 256 ∧ N 5 (48 + i) = nI (S 2 i)) (hc : N 0 9 = nI ((i + 1) / 4)) :
    (pa_at S 1 i = none → ∀ kb kw, fX7_readsWords_L14 (nI (S 0 1)) kb kw (n + 1) (nI i) N = kb (nI i) N) ∧ (∀ v, pa_at S 1 i = some v → ∃ N1, (∀ q, q ≠ 0 → q ≠ 8 → N1 q = N q) ∧ (∀ j, j ≠ 9 → N1 0 j = N 0 j) ∧ N1 0 9 = nI ((i + 1 + 1) / 4) ∧ (∀ j, j ≠ 3 * (i / 4) + i % 4 → N1 8 j = N 8 j) ∧ (i % 4 < 3 → N1 8 (3 * (i / 4) + i % 4) = nI v) ∧ (¬ i % 4 < 3 → N1 8 = N 8) ∧ ∀ kb kw, fX7_readsWords_L14 (nI (S 0 1)) kb kw (n + 1) (nI i) N = fX7_readsWords_L14 (nI (S 0 1)) kb kw n (nI (i + 1)) N1) := by
  have hcap' : S 0 1 ≤ 47 := by unfold pa_cap at hcap; simpa using hcap
  obtain ⟨b1, b2⟩ := h5 i (by omega)
  have hp := pa_word (i % 4) (Nat.mod_lt _ (by omega)) (S 2 i) b1
  have hpa : pa_at S 1 i = pa_v 1 (i % 4) (S 2 i) := by unfold pa_at pa_sp; simp
  skip
  rw [hpa]
  have un : ∀ kb kw, fX7_readsWords_L14 (nI (S 0 1)) kb kw (n + 1) (nI i) N = if pa_e (-9) (pa_v 1 (i % 4) (S 2 i)) = (-9) then kb (nI i) N else if 3 ≤ i % 4 then fX7_readsWords_J71 (nI (S 0 1)) (nI i) (nI (i % 4)) (fX7_readsWords_L14 (nI (S 0 1)) kb kw n) N else fX7_readsWords_J71 (nI (S 0 1)) (nI i) (nI (i % 4)) (fX7_readsWords_L14 (nI (S 0 1)) kb kw n) (mm_wr N 8 (3 * (i / 4) + i % 4) (pa_e (-9) (pa_v 1 (i % 4) (S 2 i)))) := by
    intro kb kw
    rw [fX7_readsWords_L14, if_neg (by rw [nI_leI (by omega) (by omega)]; omega)]
    simp (disch := omega) only [q_lit 0, q_lit 1, q_lit 2, q_lit 3, q_lit 4, q_lit 48, q_lit 96, pk_rem]
    simp (disch := omega) only [pk_div, pk_mul, nI_add, q_rd, Option.bind_some, nI_leI, b2, hp]
    split
    · rfl
    · split
      · rfl
      · rw [q_wa (by omega) (by omega), Option.bind_some]
  have j2 : ∀ (N1 : mm_M) kb kw, N1 0 9 = nI ((i + 1) / 4) → fX7_readsWords_J71 (nI (S 0 1)) (nI i) (nI (i % 4)) (fX7_readsWords_L14 (nI (S 0 1)) kb kw n) N1 = fX7_readsWords_L14 (nI (S 0 1)) kb kw n (nI (i + 1)) (mm_wr N1 0 9 (nI ((i + 1 + 1) / 4))) := by
    intro N1 kb kw h0
    unfold fX7_readsWords_J71
    simp (disch := omega) only [q_lit 0, q_lit 1, q_lit 2, nI_eq, q_pf, Option.bind_some, nI_add, h0]
    split
    · congr 2; congr 1; omega
    · congr 2; congr 1; omega
  refine ⟨fun h kb kw => ?_, fun v h => ?_⟩
  · rw [un, h, if_pos (show pa_e (-9) none = -9 from rfl)]
  · have hv24 : v < 24 := pa_v_lt h
    by_cases c2 : 3 ≤ i % 4
    · refine ⟨mm_wr N 0 9 (nI ((i + 1 + 1) / 4)), fun q h1 h2 => q_wr_ne h1, fun j hj => q_wr_n2 hj, q_wr_eq, fun j hj => by rw [q_wr_ne (by decide)], fun h => by omega, fun _ => q_wr_ne (by decide), fun kb kw => ?_⟩
      rw [un, h, show pa_e (-9) (some v) = nI v from rfl, if_neg (q_m9 (a := v) (by omega)), if_pos c2, j2 N kb kw hc]
    · refine ⟨mm_wr (mm_wr N 8 (3 * (i / 4) + i % 4) (nI v)) 0 9 (nI ((i + 1 + 1) / 4)), fun q h1 h2 => by rw [q_wr_ne h1, q_wr_ne h2], fun j hj => by rw [q_wr_n2 hj, q_wr_ne (by decide)], q_wr_eq, fun j hj => by rw [q_wr_ne (by decide), q_wr_n2 hj], fun _ => by rw [q_wr_ne (by decide), q_wr_eq], fun h => by omega, fun kb kw => ?_⟩
      rw [un, h, show pa_e (-9) (some v) = nI v from rfl, if_neg (q_m9 (a := v) (by omega)), if_neg c2, j2 _ kb kw (by rw [q_wr_ne (by decide)]; exact hc)]
theorem pr_Words_L {S : md_T} (hcap : S 0 1 ≤ pa_cap 1) : ∀ (f i n : Nat) (N : mm_M), i + f = S 0 1 → f < n → (∀ i, i < S 0 1 → S 2 i < 256 ∧ N 5 (48 + i) = nI (S 2 i)) → (∀ j, j < i → pa_bad S 1 j = false) → N 0 9 = nI ((i + 1) / 4) → (∀ j, j < i → j % 4 < 3 → N 8 (3 * (j / 4) + j % 4) = nI (pa_x S 1 j)) →
    ∃ N', (∀ q, q ≠ 0 → q ≠ 8 → N' q = N q) ∧ (∀ j, j ≠ 9 → N' 0 j = N 0 j) ∧ ((pa_w S 1 < S 0 1 ∧ ∀ kb kw, fX7_readsWords_L14 (nI (S 0 1)) kb kw n (nI i) N = kb (nI (pa_w S 1)) N') ∨ (pa_w S 1 = S 0 1 ∧ (∀ kb kw, fX7_readsWords_L14 (nI (S 0 1)) kb kw n (nI i) N = kw N') ∧ N' 0 9 = nI ((S 0 1 + 1) / 4) ∧ ∀ j, j < S 0 1 → j % 4 < 3 → N' 8 (3 * (j / 4) + j % 4) = nI (pa_x S 1 j)))
  | 0, i, n + 1, N, hi, hn, h5, hb, hc, hv => by
    have hcap' : S 0 1 ≤ 47 := by unfold pa_cap at hcap; simpa using hcap
    refine ⟨N, fun _ _ _ => rfl, fun _ _ => rfl, Or.inr ⟨?_, fun kb kw => ?_, ?_, ?_⟩⟩
    · have := md_fst_from (P := pa_bad S 1) i 0 hb
      unfold pa_w
      rw [show S 0 1 = i + 0 by omega, this, md_fst]; omega
    · rw [fX7_readsWords_L14, if_pos (by rw [nI_leI (by omega) (by omega)]; omega)]
    · rw [show S 0 1 = i by omega]; exact hc
    · intro j hj hm; exact hv j (by omega) hm
  | f + 1, i, n + 1, N, hi, hn, h5, hb, hc, hv => by
    have hcap' : S 0 1 ≤ 47 := by unfold pa_cap at hcap; simpa using hcap
    obtain ⟨st1, st2⟩ := pr_Words_step (n := n) hcap (show i < S 0 1 by omega) h5 hc
    cases hat : pa_at S 1 i with
    | none =>
      refine ⟨N, fun _ _ _ => rfl, fun _ _ => rfl, Or.inl ?_⟩
      have hw : pa_w S 1 = i := by
        unfold pa_w
        rw [show S 0 1 = i + (f + 1) by omega, md_fst_from i (f + 1) hb, md_fst, if_pos]
        unfold pa_bad; rw [hat]; rfl
      rw [hw]
      exact ⟨by omega, st1 hat⟩
    | some v =>
      obtain ⟨N1, k1, k2, k3, k4, k5, k6, k7⟩ := st2 v hat
      have hx : pa_x S 1 i = v := pa_x_of hat
      have hb' : ∀ j, j < i + 1 → pa_bad S 1 j = false := by
        intro j hj
        by_cases e : j = i
        · subst e; unfold pa_bad; rw [hat]; rfl
        · exact hb j (by omega)
      obtain ⟨N', e1, e2, e3⟩ := pr_Words_L hcap f (i + 1) n N1 (by omega) (by omega) (by rw [k1 5 (by decide) (by decide)]; exact h5) hb' k3 (fun j hj hm => by
        by_cases e : j = i
        · subst e; rw [k5 hm, hx]
        · rw [k4 _ (by omega)]; exact hv j (by omega) hm)
      refine ⟨N', fun q h1 h2 => by rw [e1 q h1 h2, k1 q h1 h2], fun j hj => by rw [e2 j hj, k2 j hj], ?_⟩
      rcases e3 with ⟨g1, g2⟩ | ⟨g1, g2, g3⟩
      · exact Or.inl ⟨g1, fun kb kw => by rw [k7 kb kw]; exact g2 kb kw⟩
      · exact Or.inr ⟨g1, fun kb kw => by rw [k7 kb kw]; exact g2 kb kw, g3⟩
theorem pr_Words {S : md_T} {N : mm_M} (h : tx_R S N) : ∃ N', fX7_readsWords N = some (pa_e (-1) (pa_f S 1), N') ∧ (∀ q, q ≠ 0 → q ≠ 8 → N' q = N q) ∧ (∀ j, j ≠ 9 → N' 0 j = N 0 j) ∧ N' 0 9 = nI (pa_n S 1) ∧ ∀ j, j / 4 < pa_n S 1 → j % 4 < 3 → N' 8 (3 * (j / 4) + j % 4) = nI (pa_x S 1 j) := by
  obtain ⟨hcap, h6, h5⟩ := h 1 (by omega)
  have hcap' : S 0 1 ≤ 47 := by unfold pa_cap at hcap; simpa using hcap
  have esp : pa_sp 1 = 4 := rfl
  unfold fX7_readsWords
  simp (disch := omega) only [q_lit 0, q_lit 1, q_lit 2, q_lit 3, q_lit 4, q_pf, Option.bind_some, q_rd, q_wr_ne, h6]
  obtain ⟨N1, e1, e2, e3⟩ := pr_Words_L hcap (S 0 1) 0 1000 (mm_wr N 0 9 (nI 0)) (by omega) (by omega) (by rw [q_wr_ne (by decide)]; exact h5) (fun j hj => by omega) (by rw [q_wr_eq]) (fun j hj => by omega)
  have fr1 : ∀ q, q ≠ 0 → q ≠ 8 → N1 q = N q := fun q h1 h2 => by rw [e1 q h1 h2, q_wr_ne h1]
  have fr2 : ∀ j, j ≠ 9 → N1 0 j = N 0 j := fun j hj => by rw [e2 j hj, q_wr_n2 hj]
  have bad : pa_f S 1 ≠ none → pa_n S 1 = 0 := fun h => by unfold pa_n; rw [if_neg h]
  have fin : ∀ p, pa_f S 1 = some p → ∃ N', some (nI p, mm_wr N1 0 9 (nI 0)) = some (pa_e (-1) (pa_f S 1), N') ∧ (∀ q, q ≠ 0 → q ≠ 8 → N' q = N q) ∧ (∀ j, j ≠ 9 → N' 0 j = N 0 j) ∧ N' 0 9 = nI (pa_n S 1) ∧ ∀ j, j / 4 < pa_n S 1 → j % 4 < 3 → N' 8 (3 * (j / 4) + j % 4) = nI (pa_x S 1 j) := by
    intro p hp
    have z := bad (by rw [hp]; exact fun h => by cases h)
    refine ⟨mm_wr N1 0 9 (nI 0), by rw [hp]; rfl, fun q h1 h2 => by rw [q_wr_ne h1, fr1 q h1 h2], fun j hj => by rw [q_wr_n2 hj, fr2 j hj], by rw [q_wr_eq, z], fun j hj => by omega⟩
  rcases e3 with ⟨g1, g2⟩ | ⟨g1, g2, g3, g4⟩
  · rw [g2]
    exact fin _ (by unfold pa_f; rw [if_pos g1])
  · rw [g2]
    simp (disch := omega) only [nI_leI, pk_rem, nI_eq]
    have hf : pa_f S 1 = if S 0 1 = 0 ∨ S 0 1 % 4 = 3 then none else some (S 0 1) := by
      unfold pa_f; rw [if_neg (by omega), esp]
    have good : pa_f S 1 = none → ∃ N', some ((-1 : Int32), N1) = some (pa_e (-1) (pa_f S 1), N') ∧ (∀ q, q ≠ 0 → q ≠ 8 → N' q = N q) ∧ (∀ j, j ≠ 9 → N' 0 j = N 0 j) ∧ N' 0 9 = nI (pa_n S 1) ∧ ∀ j, j / 4 < pa_n S 1 → j % 4 < 3 → N' 8 (3 * (j / 4) + j % 4) = nI (pa_x S 1 j) := by
      intro hn
      have hz := (pa_well hn).2
      rw [esp] at hz
      have hn2 : pa_n S 1 = (S 0 1 + 1) / 4 := by unfold pa_n; rw [if_pos hn, esp]
      refine ⟨N1, by rw [hn]; rfl, fr1, fr2, by rw [g3, hn2], fun j hj hm => g4 j (by rw [hn2] at hj; omega) hm⟩
    by_cases c1 : S 0 1 ≤ 0
    · rw [if_pos c1]
      exact good (by rw [hf, if_pos (by omega)])
    · rw [if_neg c1]
      by_cases c2 : S 0 1 % 4 = 3
      · rw [if_pos c2]
        exact good (by rw [hf, if_pos (Or.inr c2)])
      · rw [if_neg c2]
        exact fin _ (by rw [hf, if_neg (by omega)])
theorem pr_Meetings_step {S : md_T} (hcap : S 0 2 ≤ pa_cap 2) {i n : Nat} {N : mm_M} (hi : i < S 0 2) (h5 : ∀ i, i < S 0 2 → S 3 i < 256 ∧ N 5 (96 + i) = nI (S 3 i)) (hc : N 0 11 = nI ((i + 1) / 4)) :
    (pa_at S 2 i = none → ∀ kb kw, fX7_readsMeetings_L14 (nI (S 0 2)) kb kw (n + 1) (nI i) N = kb (nI i) N) ∧ (∀ v, pa_at S 2 i = some v → ∃ N1, (∀ q, q ≠ 0 → q ≠ 9 → N1 q = N q) ∧ (∀ j, j ≠ 11 → N1 0 j = N 0 j) ∧ N1 0 11 = nI ((i + 1 + 1) / 4) ∧ (∀ j, j ≠ 3 * (i / 4) + i % 4 → N1 9 j = N 9 j) ∧ (i % 4 < 3 → N1 9 (3 * (i / 4) + i % 4) = nI v) ∧ (¬ i % 4 < 3 → N1 9 = N 9) ∧ ∀ kb kw, fX7_readsMeetings_L14 (nI (S 0 2)) kb kw (n + 1) (nI i) N = fX7_readsMeetings_L14 (nI (S 0 2)) kb kw n (nI (i + 1)) N1) := by
  have hcap' : S 0 2 ≤ 47 := by unfold pa_cap at hcap; simpa using hcap
  obtain ⟨b1, b2⟩ := h5 i (by omega)
  have hp := pa_meeting (i % 4) (Nat.mod_lt _ (by omega)) (S 3 i) b1
  have hpa : pa_at S 2 i = pa_v 2 (i % 4) (S 3 i) := by unfold pa_at pa_sp; simp
  skip
  rw [hpa]
  have un : ∀ kb kw, fX7_readsMeetings_L14 (nI (S 0 2)) kb kw (n + 1) (nI i) N = if pa_e (-9) (pa_v 2 (i % 4) (S 3 i)) = (-9) then kb (nI i) N else if 3 ≤ i % 4 then fX7_readsMeetings_J71 (nI (S 0 2)) (nI i) (nI (i % 4)) (fX7_readsMeetings_L14 (nI (S 0 2)) kb kw n) N else fX7_readsMeetings_J71 (nI (S 0 2)) (nI i) (nI (i % 4)) (fX7_readsMeetings_L14 (nI (S 0 2)) kb kw n) (mm_wr N 9 (3 * (i / 4) + i % 4) (pa_e (-9) (pa_v 2 (i % 4) (S 3 i)))) := by
    intro kb kw
    rw [fX7_readsMeetings_L14, if_neg (by rw [nI_leI (by omega) (by omega)]; omega)]
    simp (disch := omega) only [q_lit 0, q_lit 1, q_lit 2, q_lit 3, q_lit 4, q_lit 48, q_lit 96, pk_rem]
    simp (disch := omega) only [pk_div, pk_mul, nI_add, q_rd, Option.bind_some, nI_leI, b2, hp]
    split
    · rfl
    · split
      · rfl
      · rw [q_wa (by omega) (by omega), Option.bind_some]
  have j2 : ∀ (N1 : mm_M) kb kw, N1 0 11 = nI ((i + 1) / 4) → fX7_readsMeetings_J71 (nI (S 0 2)) (nI i) (nI (i % 4)) (fX7_readsMeetings_L14 (nI (S 0 2)) kb kw n) N1 = fX7_readsMeetings_L14 (nI (S 0 2)) kb kw n (nI (i + 1)) (mm_wr N1 0 11 (nI ((i + 1 + 1) / 4))) := by
    intro N1 kb kw h0
    unfold fX7_readsMeetings_J71
    simp (disch := omega) only [q_lit 0, q_lit 1, q_lit 2, nI_eq, q_pf, Option.bind_some, nI_add, h0]
    split
    · congr 2; congr 1; omega
    · congr 2; congr 1; omega
  refine ⟨fun h kb kw => ?_, fun v h => ?_⟩
  · rw [un, h, if_pos (show pa_e (-9) none = -9 from rfl)]
  · have hv24 : v < 24 := pa_v_lt h
    by_cases c2 : 3 ≤ i % 4
    · refine ⟨mm_wr N 0 11 (nI ((i + 1 + 1) / 4)), fun q h1 h2 => q_wr_ne h1, fun j hj => q_wr_n2 hj, q_wr_eq, fun j hj => by rw [q_wr_ne (by decide)], fun h => by omega, fun _ => q_wr_ne (by decide), fun kb kw => ?_⟩
      rw [un, h, show pa_e (-9) (some v) = nI v from rfl, if_neg (q_m9 (a := v) (by omega)), if_pos c2, j2 N kb kw hc]
    · refine ⟨mm_wr (mm_wr N 9 (3 * (i / 4) + i % 4) (nI v)) 0 11 (nI ((i + 1 + 1) / 4)), fun q h1 h2 => by rw [q_wr_ne h1, q_wr_ne h2], fun j hj => by rw [q_wr_n2 hj, q_wr_ne (by decide)], q_wr_eq, fun j hj => by rw [q_wr_ne (by decide), q_wr_n2 hj], fun _ => by rw [q_wr_ne (by decide), q_wr_eq], fun h => by omega, fun kb kw => ?_⟩
      rw [un, h, show pa_e (-9) (some v) = nI v from rfl, if_neg (q_m9 (a := v) (by omega)), if_neg c2, j2 _ kb kw (by rw [q_wr_ne (by decide)]; exact hc)]
theorem pr_Meetings_L {S : md_T} (hcap : S 0 2 ≤ pa_cap 2) : ∀ (f i n : Nat) (N : mm_M), i + f = S 0 2 → f < n → (∀ i, i < S 0 2 → S 3 i < 256 ∧ N 5 (96 + i) = nI (S 3 i)) → (∀ j, j < i → pa_bad S 2 j = false) → N 0 11 = nI ((i + 1) / 4) → (∀ j, j < i → j % 4 < 3 → N 9 (3 * (j / 4) + j % 4) = nI (pa_x S 2 j)) →
    ∃ N', (∀ q, q ≠ 0 → q ≠ 9 → N' q = N q) ∧ (∀ j, j ≠ 11 → N' 0 j = N 0 j) ∧ ((pa_w S 2 < S 0 2 ∧ ∀ kb kw, fX7_readsMeetings_L14 (nI (S 0 2)) kb kw n (nI i) N = kb (nI (pa_w S 2)) N') ∨ (pa_w S 2 = S 0 2 ∧ (∀ kb kw, fX7_readsMeetings_L14 (nI (S 0 2)) kb kw n (nI i) N = kw N') ∧ N' 0 11 = nI ((S 0 2 + 1) / 4) ∧ ∀ j, j < S 0 2 → j % 4 < 3 → N' 9 (3 * (j / 4) + j % 4) = nI (pa_x S 2 j)))
  | 0, i, n + 1, N, hi, hn, h5, hb, hc, hv => by
    have hcap' : S 0 2 ≤ 47 := by unfold pa_cap at hcap; simpa using hcap
    refine ⟨N, fun _ _ _ => rfl, fun _ _ => rfl, Or.inr ⟨?_, fun kb kw => ?_, ?_, ?_⟩⟩
    · have := md_fst_from (P := pa_bad S 2) i 0 hb
      unfold pa_w
      rw [show S 0 2 = i + 0 by omega, this, md_fst]; omega
    · rw [fX7_readsMeetings_L14, if_pos (by rw [nI_leI (by omega) (by omega)]; omega)]
    · rw [show S 0 2 = i by omega]; exact hc
    · intro j hj hm; exact hv j (by omega) hm
  | f + 1, i, n + 1, N, hi, hn, h5, hb, hc, hv => by
    have hcap' : S 0 2 ≤ 47 := by unfold pa_cap at hcap; simpa using hcap
    obtain ⟨st1, st2⟩ := pr_Meetings_step (n := n) hcap (show i < S 0 2 by omega) h5 hc
    cases hat : pa_at S 2 i with
    | none =>
      refine ⟨N, fun _ _ _ => rfl, fun _ _ => rfl, Or.inl ?_⟩
      have hw : pa_w S 2 = i := by
        unfold pa_w
        rw [show S 0 2 = i + (f + 1) by omega, md_fst_from i (f + 1) hb, md_fst, if_pos]
        unfold pa_bad; rw [hat]; rfl
      rw [hw]
      exact ⟨by omega, st1 hat⟩
    | some v =>
      obtain ⟨N1, k1, k2, k3, k4, k5, k6, k7⟩ := st2 v hat
      have hx : pa_x S 2 i = v := pa_x_of hat
      have hb' : ∀ j, j < i + 1 → pa_bad S 2 j = false := by
        intro j hj
        by_cases e : j = i
        · subst e; unfold pa_bad; rw [hat]; rfl
        · exact hb j (by omega)
      obtain ⟨N', e1, e2, e3⟩ := pr_Meetings_L hcap f (i + 1) n N1 (by omega) (by omega) (by rw [k1 5 (by decide) (by decide)]; exact h5) hb' k3 (fun j hj hm => by
        by_cases e : j = i
        · subst e; rw [k5 hm, hx]
        · rw [k4 _ (by omega)]; exact hv j (by omega) hm)
      refine ⟨N', fun q h1 h2 => by rw [e1 q h1 h2, k1 q h1 h2], fun j hj => by rw [e2 j hj, k2 j hj], ?_⟩
      rcases e3 with ⟨g1, g2⟩ | ⟨g1, g2, g3⟩
      · exact Or.inl ⟨g1, fun kb kw => by rw [k7 kb kw]; exact g2 kb kw⟩
      · exact Or.inr ⟨g1, fun kb kw => by rw [k7 kb kw]; exact g2 kb kw, g3⟩
theorem pr_Meetings {S : md_T} {N : mm_M} (h : tx_R S N) : ∃ N', fX7_readsMeetings N = some (pa_e (-1) (pa_f S 2), N') ∧ (∀ q, q ≠ 0 → q ≠ 9 → N' q = N q) ∧ (∀ j, j ≠ 11 → N' 0 j = N 0 j) ∧ N' 0 11 = nI (pa_n S 2) ∧ ∀ j, j / 4 < pa_n S 2 → j % 4 < 3 → N' 9 (3 * (j / 4) + j % 4) = nI (pa_x S 2 j) := by
  obtain ⟨hcap, h6, h5⟩ := h 2 (by omega)
  have hcap' : S 0 2 ≤ 47 := by unfold pa_cap at hcap; simpa using hcap
  have esp : pa_sp 2 = 4 := rfl
  unfold fX7_readsMeetings
  simp (disch := omega) only [q_lit 0, q_lit 1, q_lit 2, q_lit 3, q_lit 4, q_pf, Option.bind_some, q_rd, q_wr_ne, h6]
  obtain ⟨N1, e1, e2, e3⟩ := pr_Meetings_L hcap (S 0 2) 0 1000 (mm_wr N 0 11 (nI 0)) (by omega) (by omega) (by rw [q_wr_ne (by decide)]; exact h5) (fun j hj => by omega) (by rw [q_wr_eq]) (fun j hj => by omega)
  have fr1 : ∀ q, q ≠ 0 → q ≠ 9 → N1 q = N q := fun q h1 h2 => by rw [e1 q h1 h2, q_wr_ne h1]
  have fr2 : ∀ j, j ≠ 11 → N1 0 j = N 0 j := fun j hj => by rw [e2 j hj, q_wr_n2 hj]
  have bad : pa_f S 2 ≠ none → pa_n S 2 = 0 := fun h => by unfold pa_n; rw [if_neg h]
  have fin : ∀ p, pa_f S 2 = some p → ∃ N', some (nI p, mm_wr N1 0 11 (nI 0)) = some (pa_e (-1) (pa_f S 2), N') ∧ (∀ q, q ≠ 0 → q ≠ 9 → N' q = N q) ∧ (∀ j, j ≠ 11 → N' 0 j = N 0 j) ∧ N' 0 11 = nI (pa_n S 2) ∧ ∀ j, j / 4 < pa_n S 2 → j % 4 < 3 → N' 9 (3 * (j / 4) + j % 4) = nI (pa_x S 2 j) := by
    intro p hp
    have z := bad (by rw [hp]; exact fun h => by cases h)
    refine ⟨mm_wr N1 0 11 (nI 0), by rw [hp]; rfl, fun q h1 h2 => by rw [q_wr_ne h1, fr1 q h1 h2], fun j hj => by rw [q_wr_n2 hj, fr2 j hj], by rw [q_wr_eq, z], fun j hj => by omega⟩
  rcases e3 with ⟨g1, g2⟩ | ⟨g1, g2, g3, g4⟩
  · rw [g2]
    exact fin _ (by unfold pa_f; rw [if_pos g1])
  · rw [g2]
    simp (disch := omega) only [nI_leI, pk_rem, nI_eq]
    have hf : pa_f S 2 = if S 0 2 = 0 ∨ S 0 2 % 4 = 3 then none else some (S 0 2) := by
      unfold pa_f; rw [if_neg (by omega), esp]
    have good : pa_f S 2 = none → ∃ N', some ((-1 : Int32), N1) = some (pa_e (-1) (pa_f S 2), N') ∧ (∀ q, q ≠ 0 → q ≠ 9 → N' q = N q) ∧ (∀ j, j ≠ 11 → N' 0 j = N 0 j) ∧ N' 0 11 = nI (pa_n S 2) ∧ ∀ j, j / 4 < pa_n S 2 → j % 4 < 3 → N' 9 (3 * (j / 4) + j % 4) = nI (pa_x S 2 j) := by
      intro hn
      have hz := (pa_well hn).2
      rw [esp] at hz
      have hn2 : pa_n S 2 = (S 0 2 + 1) / 4 := by unfold pa_n; rw [if_pos hn, esp]
      refine ⟨N1, by rw [hn]; rfl, fr1, fr2, by rw [g3, hn2], fun j hj hm => g4 j (by rw [hn2] at hj; omega) hm⟩
    by_cases c1 : S 0 2 ≤ 0
    · rw [if_pos c1]
      exact good (by rw [hf, if_pos (by omega)])
    · rw [if_neg c1]
      by_cases c2 : S 0 2 % 4 = 3
      · rw [if_pos c2]
        exact good (by rw [hf, if_pos (Or.inr c2)])
      · rw [if_neg c2]
        exact fin _ (by rw [hf, if_neg (by omega)])
