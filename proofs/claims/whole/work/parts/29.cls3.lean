theorem q_cp {M : mm_M} {k n0 k1 n1 sp dp n : Nat} (h1 : sp + n ≤ n0) (h2 : dp + n ≤ n1) (h3 : n0 < 2 ^ 31) (h4 : n1 < 2 ^ 31) : mm_cp M k n0 (nI sp) k1 n1 (nI dp) (nI n) = some (mm_up M k1 (va_cpy (M k) (M k1) sp dp n)) := by
  unfold mm_cp
  rw [nI_clamp (by omega), nI_clamp (by omega), nI_clamp (by omega)]
  rw [if_neg]
  have a1 := nI_pos (n := sp) (by omega)
  have a2 := nI_pos (n := dp) (by omega)
  have a3 := nI_pos (n := n) (by omega)
  rintro (h | h | h | h | h)
  · exact a1 h
  · exact a2 h
  · exact a3 h
  · omega
  · omega
theorem cc_iniW_L {T : md_T} {r t : Nat} (ha : cc_ad r t) : ∀ (f i n : Nat) (M : mm_M), i + f = T 0 3 → f < n → cc_C T r t M →
    ∃ M', fX1_beginWords_L10 r t n (nI i) M = some M' ∧ (∀ q, q ≠ r + 1 → q ≠ r + 2 → M' q = M q) ∧ (∀ w, w < i → M' (r + 1) w = M (r + 1) w ∧ M' (r + 2) w = M (r + 2) w) ∧ ∀ w, i ≤ w → w < T 0 3 → M' (r + 1) w = nI (md_ini T 1 w) ∧ M' (r + 2) w = nI (md_ini T 2 w)
  | 0, i, n + 1, M, hi, hn, hC => by
    have := hC.1.2.1
    refine ⟨M, ?_, fun _ _ _ => rfl, fun _ _ => ⟨rfl, rfl⟩, fun w h1 h2 => by omega⟩
    rw [fX1_beginWords_L10, hC.2.2, if_pos (by rw [nI_leI (by omega) (by omega)]; omega)]
  | f + 1, i, n + 1, M, hi, hn, hC => by
    obtain ⟨a1, a2, a3⟩ := id ha
    obtain ⟨⟨o1, o2, o3, o4, o5, o6⟩, ⟨g1, g2, g3, hp, hw, hm⟩, h9⟩ := id hC
    have hi' : i < T 0 3 := by omega
    obtain ⟨w1, w2, w3⟩ := hw i hi'
    obtain ⟨t3, t4, t5, t6⟩ := o5 i hi'
    have key : ∀ v, v = md_ini T 1 i → ∃ M', fX1_beginWords_J47 r t (nI i) (nI v) (nI i) (fX1_beginWords_L10 r t n) M = some M' ∧ (∀ q, q ≠ r + 1 → q ≠ r + 2 → M' q = M q) ∧ (∀ w, w < i → M' (r + 1) w = M (r + 1) w ∧ M' (r + 2) w = M (r + 2) w) ∧ ∀ w, i ≤ w → w < T 0 3 → M' (r + 1) w = nI (md_ini T 1 w) ∧ M' (r + 2) w = nI (md_ini T 2 w) := by
      intro v hv
      unfold fX1_beginWords_J47
      simp (disch := omega) only [q_lit, q_rd, q_wa, Option.bind_some, nI_add, q_wr_ne, w3]
      obtain ⟨M', e1, e2, e3, e4⟩ := cc_iniW_L ha f (i + 1) n (mm_wr (mm_wr M (r + 1) i (nI v)) (r + 2) i (nI (T 5 i))) (by omega) (by omega) (hC.keep ha ((cc_f_wr (by omega)).tr (cc_f_wr (by omega))))
      refine ⟨M', e1, fun q h1 h2 => by rw [e2 q h1 h2, q_wr_ne h2, q_wr_ne h1], fun w hw => ?_, fun w h1 h2 => ?_⟩
      · obtain ⟨a, b⟩ := e3 w (by omega)
        rw [a, b]
        exact ⟨by rw [q_wr_ne (by omega), q_wr_n2 (by omega)], by rw [q_wr_n2 (by omega), q_wr_ne (by omega)]⟩
      · by_cases e : w = i
        · subst e
          obtain ⟨a, b⟩ := e3 w (by omega)
          rw [a, b, hv]
          exact ⟨by rw [q_wr_ne (by omega), q_wr_eq], by rw [q_wr_eq]; simp [md_ini]⟩
        · exact e4 w (by omega) h2
    rw [fX1_beginWords_L10, h9, if_neg (by rw [nI_leI (by omega) (by omega)]; omega)]
    simp (disch := omega) only [q_rd, Option.bind_some, w1, w2]
    rw [cc_two g1 o1 (by omega) (by omega)]
    by_cases c : md_two T (T 3 i) (T 4 i) = true
    · rw [if_pos c, if_neg (by decide)]
      exact key 0 (by simp [md_ini, c])
    · rw [if_neg c, if_pos rfl]
      exact key 4 (by simp [md_ini, c])
theorem cc_iniP_L {np r t : Nat} (ha : cc_ad r t) (h8 : np ≤ 8) : ∀ (f i n : Nat) (M : mm_M), i + f = np → f < n → M t 0 = nI np →
    ∃ M', fX1_beginPeople_L7 r t n (nI i) M = some M' ∧ (∀ q, q ≠ r + 3 → q ≠ r + 4 → M' q = M q) ∧ (∀ w, w < i → M' (r + 3) w = M (r + 3) w ∧ M' (r + 4) w = M (r + 4) w) ∧ ∀ w, i ≤ w → w < np → M' (r + 3) w = nI 0 ∧ M' (r + 4) w = nI 0
  | 0, i, n + 1, M, hi, hn, h0 => by
    refine ⟨M, ?_, fun _ _ _ => rfl, fun _ _ => ⟨rfl, rfl⟩, fun w h1 h2 => by omega⟩
    rw [fX1_beginPeople_L7, h0, if_pos (by rw [nI_leI (by omega) (by omega)]; omega)]
  | f + 1, i, n + 1, M, hi, hn, h0 => by
    obtain ⟨a1, a2, a3⟩ := id ha
    rw [fX1_beginPeople_L7, h0, if_neg (by rw [nI_leI (by omega) (by omega)]; omega)]
    simp (disch := omega) only [q_lit, q_wa, Option.bind_some, nI_add]
    obtain ⟨M', e1, e2, e3, e4⟩ := cc_iniP_L ha h8 f (i + 1) n (mm_wr (mm_wr M (r + 3) i (nI 0)) (r + 4) i (nI 0)) (by omega) (by omega) (by rw [q_wr_ne (by omega), q_wr_ne (by omega)]; exact h0)
    refine ⟨M', e1, fun q h1 h2 => by rw [e2 q h1 h2, q_wr_ne h2, q_wr_ne h1], fun w hw => ?_, fun w h1 h2 => ?_⟩
    · obtain ⟨a, b⟩ := e3 w (by omega)
      rw [a, b]
      exact ⟨by rw [q_wr_ne (by omega), q_wr_n2 (by omega)], by rw [q_wr_n2 (by omega), q_wr_ne (by omega)]⟩
    · by_cases e : w = i
      · subst e
        obtain ⟨a, b⟩ := e3 w (by omega)
        rw [a, b]
        exact ⟨by rw [q_wr_ne (by omega), q_wr_eq], by rw [q_wr_eq]⟩
      · exact e4 w (by omega) h2
theorem cc_day0_L {r t : Nat} {x : Int32} (k : mm_M → Option mm_M) : ∀ (f i n : Nat) (M : mm_M), i + f = 24 → f < n →
    ∃ M', fX1_beginDays_L3 r t x k n (nI i) M = k M' ∧ (∀ q, q ≠ r + 5 → q ≠ r + 6 → q ≠ r + 7 → M' q = M q) ∧ (∀ w, w < i → M' (r + 5) w = M (r + 5) w ∧ M' (r + 6) w = M (r + 6) w ∧ M' (r + 7) w = M (r + 7) w) ∧ ∀ w, i ≤ w → w < 24 → M' (r + 5) w = nI 0 ∧ M' (r + 6) w = nI 0 ∧ M' (r + 7) w = -1
  | 0, i, n + 1, M, hi, hn => by
    refine ⟨M, ?_, fun _ _ _ _ => rfl, fun _ _ => ⟨rfl, rfl, rfl⟩, fun w h1 h2 => by omega⟩
    rw [fX1_beginDays_L3, q_lit 24, if_pos (by rw [nI_leI (by omega) (by omega)]; omega)]
  | f + 1, i, n + 1, M, hi, hn => by
    rw [fX1_beginDays_L3, q_lit 24, if_neg (by rw [nI_leI (by omega) (by omega)]; omega)]
    simp (disch := omega) only [q_wa, Option.bind_some, q_lit 0, q_lit 1, nI_add]
    obtain ⟨M', e1, e2, e3, e4⟩ := cc_day0_L (r := r) (t := t) (x := x) k f (i + 1) n (mm_wr (mm_wr (mm_wr M (r + 5) i (nI 0)) (r + 6) i (nI 0)) (r + 7) i (-1)) (by omega) (by omega)
    refine ⟨M', e1, fun q h1 h2 h3 => by rw [e2 q h1 h2 h3, q_wr_ne h3, q_wr_ne h2, q_wr_ne h1], fun w hw => ?_, fun w h1 h2 => ?_⟩
    · obtain ⟨a, b, c⟩ := e3 w (by omega)
      rw [a, b, c]
      exact ⟨by rw [q_wr_ne (by omega), q_wr_ne (by omega), q_wr_n2 (by omega)], by rw [q_wr_ne (by omega), q_wr_n2 (by omega), q_wr_ne (by omega)], by rw [q_wr_n2 (by omega), q_wr_ne (by omega), q_wr_ne (by omega)]⟩
    · by_cases e : w = i
      · subst e
        obtain ⟨a, b, c⟩ := e3 w (by omega)
        rw [a, b, c]
        exact ⟨by rw [q_wr_ne (by omega), q_wr_ne (by omega), q_wr_eq], by rw [q_wr_ne (by omega), q_wr_eq], by rw [q_wr_eq]; rfl⟩
      · exact e4 w (by omega) h2
def cc_hit (M : mm_M) (x : Int32) (d k j : Nat) : Bool := decide (M 18 j = nI d) && (decide (M 19 j = nI k) && bt x j)
theorem cc_day1_L {r t ne : Nat} {x : Int32} (ha : cc_ad r t) (h8 : ne ≤ 8) (k : mm_M → Option mm_M) : ∀ (f i n : Nat) (M : mm_M), i + f = ne → f < n → M 17 2 = nI ne → (∀ i, i < ne → ∃ d k, d < 24 ∧ k < 8 ∧ M 18 i = nI d ∧ M 19 i = nI k) →
    ∃ M', fX1_beginDays_L43 r t x k n (nI i) M = k M' ∧ (∀ q, q ≠ r + 5 → M' q = M q) ∧ ∀ d, d < 24 → ∀ p, p < 8 → bt (M' (r + 5) d) p = (bt (M (r + 5) d) p || md_any (cc_hit M x d p) f i)
  | 0, i, n + 1, M, hi, hn, h0, hb => by
    refine ⟨M, ?_, fun _ _ => rfl, fun d hd p hp => by simp [md_any]⟩
    rw [fX1_beginDays_L43, h0, if_pos (by rw [nI_leI (by omega) (by omega)]; omega)]
  | f + 1, i, n + 1, M, hi, hn, h0, hb => by
    obtain ⟨a1, a2, a3⟩ := id ha
    obtain ⟨d0, k0, hd0, hk0, m18, m19⟩ := hb i (by omega)
    rw [fX1_beginDays_L43, h0, if_neg (by rw [nI_leI (by omega) (by omega)]; omega)]
    simp (disch := omega) only [q_lit, q_rd, q_wa, Option.bind_some, nI_add, m18, m19, q_btN]
    cases hb2 : bt x i with
    | false =>
      rw [if_pos rfl]
      obtain ⟨M', e1, e2, e3⟩ := cc_day1_L (x := x) ha h8 k f (i + 1) n M (by omega) (by omega) h0 hb
      refine ⟨M', e1, e2, fun d hd p hp => ?_⟩
      rw [e3 d hd p hp, md_any]
      simp [cc_hit, hb2]
    | true =>
      rw [if_neg (by decide)]
      have c18 : (mm_wr M (r + 5) d0 (M (r + 5) d0 ||| nI 1 <<< (nI k0 &&& nI 31))) 18 = M 18 := q_wr_ne (by omega)
      have c19 : (mm_wr M (r + 5) d0 (M (r + 5) d0 ||| nI 1 <<< (nI k0 &&& nI 31))) 19 = M 19 := q_wr_ne (by omega)
      obtain ⟨M', e1, e2, e3⟩ := cc_day1_L (x := x) ha h8 k f (i + 1) n (mm_wr M (r + 5) d0 (M (r + 5) d0 ||| nI 1 <<< (nI k0 &&& nI 31))) (by omega) (by omega) (by rw [q_wr_ne (by omega)]; exact h0) (by rw [c18, c19]; exact hb)
      refine ⟨M', e1, fun q hq => by rw [e2 q hq, q_wr_ne hq], fun d hd p hp => ?_⟩
      have eh : cc_hit (mm_wr M (r + 5) d0 (M (r + 5) d0 ||| nI 1 <<< (nI k0 &&& nI 31))) x d p = cc_hit M x d p := by
        funext j; unfold cc_hit; rw [c18, c19]
      rw [e3 d hd p hp, md_any, eh]
      have eh2 : cc_hit M x d p i = (decide (d = d0) && decide (p = k0)) := by
        unfold cc_hit
        rw [m18, m19, hb2]
        simp (disch := omega) only [nI_eq]
        simp only [Bool.and_true]
        congr 1
        · exact decide_eq_decide.mpr ⟨Eq.symm, Eq.symm⟩
        · exact decide_eq_decide.mpr ⟨Eq.symm, Eq.symm⟩
      rw [eh2]
      by_cases e : d = d0
      · subst e
        rw [q_wr_eq, q_setN (by omega) (by omega)]
        simp [Bool.or_assoc]
      · rw [q_wr_n2 e]
        simp [e]
theorem cc_day2_L {T : md_T} {r t : Nat} (ha : cc_ad r t) (ho : md_ok T) (k : mm_M → Option mm_M) : ∀ (f i n : Nat) (M : mm_M), i + f = T 0 0 → f < n → cc_T T t M →
    ∃ M', fX1_beginDays_L94 r t k n (nI i) M = k M' ∧ (∀ q, q ≠ r + 6 → M' q = M q) ∧ ∀ d, d < 24 → (∀ p, p < 8 → bt (M' (r + 6) d) p = (bt (M (r + 6) d) p || (decide (i ≤ p ∧ p < T 0 0) && decide (T 2 p = d)))) ∧ (M' (r + 6) d = nI 0 ↔ M (r + 6) d = nI 0 ∧ ∀ p, i ≤ p → p < T 0 0 → T 2 p ≠ d)
  | 0, i, n + 1, M, hi, hn, hT => by
    have := ho.1
    refine ⟨M, ?_, fun _ _ => rfl, fun d hd => ⟨fun p hp => ?_, ⟨fun h => ⟨h, fun p h1 h2 => by omega⟩, fun h => h.1⟩⟩⟩
    · rw [fX1_beginDays_L94, hT.1, if_pos (by rw [nI_leI (by omega) (by omega)]; omega)]
    · rw [decide_eq_false (by omega)]; simp
  | f + 1, i, n + 1, M, hi, hn, hT => by
    have o1 := ho.1
    obtain ⟨a1, a2, a3⟩ := id ha
    have p2 := (hT.2.2.2.1 i (by omega)).2
    have o2 := (ho.2.2.2.1 i (by omega)).2
    rw [fX1_beginDays_L94, hT.1, if_neg (by rw [nI_leI (by omega) (by omega)]; omega)]
    simp (disch := omega) only [q_lit, q_rd, q_wa, Option.bind_some, nI_add, p2]
    obtain ⟨M', e1, e2, e3⟩ := cc_day2_L ha ho k f (i + 1) n (mm_wr M (r + 6) (T 2 i) (M (r + 6) (T 2 i) ||| nI 1 <<< (nI i &&& nI 31))) (by omega) (by omega) (hT.keep (fun q h1 h2 => q_wr_ne (by omega)))
    refine ⟨M', e1, fun q hq => by rw [e2 q hq, q_wr_ne hq], fun d hd => ?_⟩
    obtain ⟨g1, g2⟩ := e3 d hd
    by_cases e : d = T 2 i
    · subst e
      rw [q_wr_eq] at g1 g2
      refine ⟨fun p hp => ?_, ?_⟩
      · rw [g1 p hp, q_setN (by omega) (by omega), Bool.or_assoc]
        congr 1
        by_cases e : p = i
        · subst e
          simp [show p < T 0 0 by omega]
        · have : (i + 1 ≤ p ∧ p < T 0 0) ↔ (i ≤ p ∧ p < T 0 0) := by omega
          simp only [this, e, decide_false, Bool.false_or]
      · rw [g2]
        constructor
        · intro h; exact absurd h.1 (q_setneN (by omega))
        · intro h; exact absurd rfl (h.2 i (Nat.le_refl _) (by omega))
    · rw [q_wr_n2 e] at g1 g2
      refine ⟨fun p hp => ?_, ?_⟩
      · rw [g1 p hp]
        congr 1
        by_cases e2 : p = i
        · subst e2
          simp [show ¬ T 2 p = d from fun q => e q.symm]
        · have : (i + 1 ≤ p ∧ p < T 0 0) ↔ (i ≤ p ∧ p < T 0 0) := by omega
          simp only [this]
      · rw [g2]
        constructor
        · rintro ⟨h1, h2⟩
          refine ⟨h1, fun p q1 q2 => ?_⟩
          by_cases e2 : p = i
          · subst e2; exact fun q => e q.symm
          · exact h2 p (by omega) q2
        · rintro ⟨h1, h2⟩
          exact ⟨h1, fun p q1 q2 => h2 p (by omega) q2⟩
theorem cc_nx_step {T : md_T} {d j : Nat} (h : j < T 0 7) : cc_nx T d j = if T 6 j = d then j else cc_nx T d (j + 1) := by
  unfold cc_nx
  rw [show T 0 7 - j = (T 0 7 - (j + 1)) + 1 by omega, md_fst]
  by_cases e : T 6 j = d
  · rw [if_pos (by simpa using e), if_pos e]
  · rw [if_neg (by simpa using e), if_neg e]
theorem cc_day3_L {T : md_T} {r t : Nat} (ha : cc_ad r t) (ho : md_ok T) : ∀ (j n : Nat) (M : mm_M), j ≤ T 0 7 → j < n → cc_T T t M → (∀ d, d < 24 → M (r + 7) d = rr_enc (T 0 7) (cc_nx T d j)) → (∀ i, j ≤ i → i < T 0 7 → M (r + 8) i = rr_enc (T 0 7) (cc_nx T (T 6 i) (i + 1))) →
    ∃ M', fX1_beginDays_L136 r t n (nI j + (-1)) M = some M' ∧ (∀ q, q ≠ r + 7 → q ≠ r + 8 → M' q = M q) ∧ cc_n r T M'
  | 0, n + 1, M, hj, hn, hT, h7, h8 => by
    refine ⟨M, ?_, fun _ _ _ => rfl, h7, fun i hi => h8 i (by omega) hi⟩
    rw [fX1_beginDays_L136, if_pos (by decide)]
  | j + 1, n + 1, M, hj, hn, hT, h7, h8 => by
    have o7 := ho.2.2.1
    obtain ⟨a1, a2, a3⟩ := id ha
    have m6 := (hT.2.2.2.2.2 j (by omega)).1
    have o6 := (ho.2.2.2.2.2 j (by omega)).1
    rw [fX1_beginDays_L136, pk_m1, if_neg (nI_pos (by omega))]
    simp (disch := omega) only [q_rd, q_wa, Option.bind_some, m6, q_wr_ne]
    rw [h7 (T 6 j) o6]
    refine (fun (h : ∃ M', _) => ?_) (cc_day3_L ha ho j n (mm_wr (mm_wr M (r + 8) j (rr_enc (T 0 7) (cc_nx T (T 6 j) (j + 1)))) (r + 7) (T 6 j) (nI j)) (by omega) (by omega) (hT.keep (fun q h1 h2 => by rw [q_wr_ne (by omega), q_wr_ne (by omega)])) (fun d hd => ?_) (fun i h1 h2 => ?_))
    · obtain ⟨M', e1, e2, e3⟩ := h
      exact ⟨M', e1, fun q h1 h2 => by rw [e2 q h1 h2, q_wr_ne h1, q_wr_ne h2], e3⟩
    · rw [cc_nx_step (d := d) (j := j) (by omega)]
      by_cases e : T 6 j = d
      · subst e
        rw [q_wr_eq, if_pos rfl, rr_enc, if_pos (by omega)]
      · rw [q_wr_n2 (fun q => e q.symm), q_wr_ne (by omega), if_neg e]
        exact h7 d hd
    · rw [q_wr_ne (by omega)]
      by_cases e : i = j
      · subst e; rw [q_wr_eq]
      · rw [q_wr_n2 e]; exact h8 i (by omega) h2
def cc_E (E : Nat → Nat → Bool) (x : Int32) (M : mm_M) : Prop := ∃ ne, ne ≤ 8 ∧ M 17 2 = nI ne ∧ (∀ i, i < ne → ∃ d k, d < 24 ∧ k < 8 ∧ M 18 i = nI d ∧ M 19 i = nI k) ∧ ∀ d k, d < 24 → k < 8 → (E d k = true ↔ ∃ i, i < ne ∧ M 18 i = nI d ∧ M 19 i = nI k ∧ bt x i = true)
theorem cc_days {T : md_T} {E : Nat → Nat → Bool} {r t : Nat} {x : Int32} {M : mm_M} (ha : cc_ad r t) (ho : md_ok T) (hT : cc_T T t M) (hE : cc_E E x M) : ∃ M', fX1_beginDays r t x M = some M' ∧ (∀ q, q < r + 5 ∨ r + 8 < q → M' q = M q) ∧ cc_e r E M' ∧ cc_n r T M' ∧ cc_y r T M' := by
  obtain ⟨a1, a2, a3⟩ := id ha
  obtain ⟨ne, h8, h17, hb, hE⟩ := hE
  have o1 := ho.1
  have o7 := ho.2.2.1
  unfold fX1_beginDays
  simp only [q_lit 0]
  obtain ⟨M1, e1, e2, e3, e4⟩ := cc_day0_L (r := r) (t := t) (x := x) (fun M5 => fX1_beginDays_L43 r t x (fun M12 => fX1_beginDays_L94 r t (fun M17 => fX1_beginDays_L136 r t 1000 ((M17 t 7) - (1 : Int32)) M17) 1000 (nI 0) M12) 1000 (nI 0) M5) 24 0 1000 M (by omega) (by omega)
  have c18 : M1 18 = M 18 := e2 18 (by omega) (by omega) (by omega)
  have c19 : M1 19 = M 19 := e2 19 (by omega) (by omega) (by omega)
  obtain ⟨M2, f1, f2, f3⟩ := cc_day1_L (r := r) (t := t) (x := x) ha h8 (fun M12 => fX1_beginDays_L94 r t (fun M17 => fX1_beginDays_L136 r t 1000 ((M17 t 7) - (1 : Int32)) M17) 1000 (nI 0) M12) ne 0 1000 M1 (by omega) (by omega) (by rw [e2 17 (by omega) (by omega) (by omega)]; exact h17) (by rw [c18, c19]; exact hb)
  have hT2 : cc_T T t M2 := hT.keep (fun q h1 h2 => by rw [f2 q (by omega), e2 q (by omega) (by omega) (by omega)])
  obtain ⟨M3, g1, g2, g3⟩ := cc_day2_L ha ho (fun M17 => fX1_beginDays_L136 r t 1000 ((M17 t 7) - (1 : Int32)) M17) (T 0 0) 0 1000 M2 (by omega) (by omega) hT2
  have hT3 : cc_T T t M3 := hT2.keep (fun q h1 h2 => g2 q (by omega))
  obtain ⟨M4, k1, k2, k3⟩ := cc_day3_L ha ho (T 0 7) 1000 M3 (Nat.le_refl _) (by omega) hT3 (fun d hd => by
      rw [g2 (r + 7) (by omega), f2 (r + 7) (by omega), (e4 d (by omega) hd).2.2]
      unfold cc_nx; rw [Nat.sub_self, md_fst, rr_enc, if_neg (by omega)]) (fun i h1 h2 => by omega)
  rw [e1, f1, g1, hT3.2.2.1, q_sub1, k1]
  refine ⟨M4, rfl, fun q hq => ?_, fun d hd k hk => ?_, k3, fun d hd => ?_⟩
  · rw [k2 q (by omega) (by omega), g2 q (by omega), f2 q (by omega), e2 q (by omega) (by omega) (by omega)]
  · rw [k2 (r + 5) (by omega) (by omega), g2 (r + 5) (by omega), f3 d hd k hk, (e4 d (by omega) hd).1]
    have z : bt (nI 0) k = false := b_0 k
    rw [z, Bool.false_or]
    have := hE d k hd hk
    have h2 : md_any (cc_hit M1 x d k) ne 0 = true ↔ E d k = true := by
      rw [this, md_any_iff]
      simp only [cc_hit, Bool.and_eq_true, decide_eq_true_eq, Nat.zero_add, c18, c19]
      constructor
      · rintro ⟨j, h1, h2, h3⟩; exact ⟨j, h2, h3⟩
      · rintro ⟨j, h2, h3⟩; exact ⟨j, Nat.zero_le _, h2, h3⟩
    cases h3 : E d k
    · cases h4 : md_any (cc_hit M1 x d k) ne 0
      · rfl
      · rw [h2.mp h4] at h3; cases h3
    · exact h2.mpr h3
  · obtain ⟨y1, y2⟩ := g3 d hd
    rw [f2 (r + 6) (by omega), (e4 d (by omega) hd).2.1] at y1 y2
    rw [k2 (r + 6) (by omega) (by omega)]
    refine ⟨fun p hp => ?_, ?_⟩
    · have z : bt (nI 0) p = false := b_0 p
      rw [y1 p (by omega), z]
      simp [hp]
    · rw [y2]
      constructor
      · rintro ⟨-, h⟩ p hp; exact h p (by omega) hp
      · intro h; exact ⟨rfl, fun p _ hp => h p hp⟩
def cc_tr (r : Nat) (T : md_T) (E : Nat → Nat → Bool) (D : Nat) (M : mm_M) : Prop := ∀ d, d < D → (∀ w, w < T 0 3 → M (r + 9) (12 * d + w) = nI (md_tr T E (d + 1) 1 w) ∧ M (r + 10) (12 * d + w) = nI (md_tr T E (d + 1) 2 w)) ∧ ∀ k, k < T 0 0 → M (r + 11) (8 * d + k) = nI (md_tr T E (d + 1) 3 k)
theorem cc_keep {T : md_T} {E : Nat → Nat → Bool} {r t d n : Nat} {M : mm_M} (ha : cc_ad r t) (hd : d < 24) (hY : cc_Y r t T E M) (hdd : cc_d r T (d + 1) M) (hr : cc_s r T (md_tr T E (d + 1)) M) (ht : cc_tr r T E d M) (kr : Int32 → mm_M → Option mm_M) :
    ∃ M', fX1_run_J77 r t (nI d) kr M = kr (nI (d + 1)) M' ∧ (∀ q, q < r + 9 ∨ r + 11 < q → M' q = M q) ∧ cc_tr r T E (d + 1) M' := by
  obtain ⟨a1, a2, a3⟩ := id ha
  obtain ⟨⟨⟨o1, o2, o3, o4, o5, o6⟩, ⟨g1, g2, g3, hp, hw, hm⟩, h9⟩, -⟩ := id hY
  unfold fX1_run_J77
  simp (disch := omega) only [q_lit, h9, pk_mul, q_cp, Option.bind_some, q_up_ne, g1, nI_add]
  refine ⟨_, rfl, fun q hq => by rw [q_up_ne (by omega), q_up_ne (by omega), q_up_ne (by omega)], fun x hx => ⟨fun w hw => ?_, fun k hk => ?_⟩⟩
  · rw [q_up_ne (by omega), q_up_ne (by omega), q_up_eq, q_up_ne (by omega), q_up_eq]
    unfold va_cpy
    by_cases e : x = d
    · subst e
      rw [if_pos (by omega), if_pos (by omega), show 0 + (12 * x + w - x * 12) = w by omega]
      exact hr.1 w hw
    · rw [if_neg (by omega), if_neg (by omega)]
      exact (ht x (by omega)).1 w hw
  · rw [q_up_eq]
    unfold va_cpy
    by_cases e : x = d
    · subst e
      rw [if_pos (by omega), show 0 + (8 * x + k - x * 8) = k by omega]
      exact (hr.2 k hk).1
    · rw [if_neg (by omega)]
      exact (ht x (by omega)).2 k hk
theorem cc_die_no {T s : md_T} {B d : Nat} (hs : md_sok T s B) (h : ∀ k, k < T 0 0 → T 2 k ≠ d) : ∀ o j, (o = 1 → j < T 0 3) → md_die T d s o j = s o j := by
  intro o j hj
  unfold md_die
  split
  · rename_i h1
    obtain ⟨h1, h2, h3⟩ := h1
    have := (hs.1 j h2).2.2 h3
    rw [if_neg (h _ this.2.1), if_neg (h _ this.1), h1, h3]
  · rfl
theorem cc_days_L {T : md_T} {E : Nat → Nat → Bool} {r t : Nat} (ha : cc_ad r t) : ∀ (f d n : Nat) (M : mm_M), d + f = 24 → f < n → cc_Y r t T E M → cc_d r T d M → cc_s r T (md_tr T E d) M → cc_tr r T E d M →
    ∃ M', fX1_run_L20 r t n (nI d) M = some M' ∧ (∀ q, q < r ∨ r + 12 < q → M' q = M q) ∧ M' r 0 = M r 0 ∧ cc_tr r T E 24 M'
  | 0, d, n + 1, M, hi, hn, hY, hdd, hr, ht => by
    refine ⟨M, ?_, fun _ _ => rfl, rfl, by rw [show 24 = d by omega]; exact ht⟩
    rw [fX1_run_L20, q_lit 24, if_pos (by rw [nI_leI (by omega) (by omega)]; omega)]
  | f + 1, d, n + 1, M, hi, hn, hY, hdd, hr, ht => by
    have hd : d < 24 := by omega
    have hs := md_tr_ok (E := E) hY.1.1 d
    -- what is kept, and the days behind
    have fin : ∀ M3, cc_Y r t T E M3 → cc_d r T (d + 1) M3 → cc_s r T (md_tr T E (d + 1)) M3 → cc_tr r T E d M3 → (∀ q, q < r ∨ r + 12 < q → M3 q = M q) → M3 r 0 = M r 0 → ∃ M', fX1_run_J77 r t (nI d) (fX1_run_L20 r t n) M3 = some M' ∧ (∀ q, q < r ∨ r + 12 < q → M' q = M q) ∧ M' r 0 = M r 0 ∧ cc_tr r T E 24 M' := by
      intro M3 hY3 hd3 hr3 ht3 hf3 h03
      obtain ⟨M4, e1, e2, e3⟩ := cc_keep (n := n) ha hd hY3 hd3 hr3 ht3 (fX1_run_L20 r t n)
      rw [e1]
      obtain ⟨M5, k1, k2, k3, k4⟩ := cc_days_L ha f (d + 1) n M4 (by omega) (by omega) (hY3.keep ha (by rw [e2 r (by omega)]) (fun q hq => e2 q (by omega))) (by unfold cc_d at hd3 ⊢; rw [e2 r (by omega)]; exact hd3) ⟨fun w hw => by rw [e2 (r + 1) (by omega), e2 (r + 2) (by omega)]; exact hr3.1 w hw, fun k hk => by rw [e2 (r + 3) (by omega), e2 (r + 4) (by omega)]; exact hr3.2 k hk⟩ e3
      exact ⟨M5, k1, fun q hq => by rw [k2 q hq, e2 q (by omega), hf3 q hq], by rw [k3, e2 r (by omega), h03], k4⟩
    have mid : ∀ M1 s1 B, B < 7000 → md_sok T s1 B → cc_f r M M1 → cc_s r T s1 M1 → md_die T d (md_ms T E d s1 (T 0 7)) = md_tr T E (d + 1) → ∃ M', fX1_run_J53 r t (nI d) (fX1_run_L20 r t n) M1 = some M' ∧ (∀ q, q < r ∨ r + 12 < q → M' q = M q) ∧ M' r 0 = M r 0 ∧ cc_tr r T E 24 M' := by
      intro M1 s1 B hB hs1 hf1 hr1 hend
      unfold fX1_run_J53
      have hY1 := hY.f ha hf1
      obtain ⟨M2, e1, e2, e3⟩ := cc_hold ha hs1 (by omega) hd hY1 (by unfold cc_d at hdd ⊢; rw [hf1 r (by omega)]; exact hdd) hr1
      rw [e1, Option.bind_some]
      have hf2 := hf1.tr e2
      have hY2 := hY.f ha hf2
      have hso := md_ms_ok (E := E) (d := d) hs1 (T 0 7)
      have ht2 : cc_tr r T E d M2 := by unfold cc_tr at ht ⊢; rw [hf2 (r + 9) (by omega), hf2 (r + 10) (by omega), hf2 (r + 11) (by omega)]; exact ht
      have hd2 : cc_d r T d M2 := by unfold cc_d at hdd ⊢; rw [hf2 r (by omega)]; exact hdd
      simp (disch := omega) only [q_lit, q_rd, Option.bind_some]
      by_cases c : M2 (r + 6) d = nI 0
      · rw [if_pos c]
        have hno := ((hY2.2.2.2 d hd).2.mp c)
        refine fin M2 hY2 (fun k hk => ?_) ?_ ht2 (fun q hq => hf2 q (by omega)) (by rw [hf2 r (by omega)])
        · rw [hd2 k hk]
          have := hno k hk
          apply decide_eq_decide.mpr; omega
        · rw [← hend]
          refine ⟨fun w hw => ?_, fun k hk => ?_⟩
          · rw [cc_die_no hso hno 1 w (fun _ => hw), cc_die_no hso hno 2 w (fun h => by cases h)]; exact e3.1 w hw
          · rw [cc_die_no hso hno 3 k (fun h => by cases h), cc_die_no hso hno 4 k (fun h => by cases h)]; exact e3.2 k hk
      · rw [if_neg c]
        obtain ⟨M3, k1, k2, k3, k4, k5⟩ := cc_bury ha hd hso hY2 hd2 e3
        rw [k1, Option.bind_some]
        rw [hend] at k5
        refine fin M3 (hY2.keep ha k3 (fun q hq => k2 q (by omega) (by omega))) k4 k5 ?_ (fun q hq => by rw [k2 q (by omega) (by omega), hf2 q (by omega)]) (by rw [k3, hf2 r (by omega)])
        unfold cc_tr at ht2 ⊢; rw [k2 (r + 9) (by omega) (by omega), k2 (r + 10) (by omega) (by omega), k2 (r + 11) (by omega) (by omega)]; exact ht2
    rw [fX1_run_L20, q_lit 24, if_neg (by rw [nI_leI (by omega) (by omega)]; omega)]
    simp (disch := omega) only [q_lit, nI_eq]
    have yes : d % 7 = 6 → ∃ M', fX1_run_J48 r t (nI d) (fX1_run_L20 r t n) M = some M' ∧ (∀ q, q < r ∨ r + 12 < q → M' q = M q) ∧ M' r 0 = M r 0 ∧ cc_tr r T E 24 M' := by
      intro c
      unfold fX1_run_J48
      obtain ⟨M1, e1, e2, e3⟩ := cc_grow ha hY.1 hs hr
      rw [e1, Option.bind_some]
      exact mid M1 (md_gr T (md_tr T E d)) (26 * d) (by omega) (md_gr_ok hs) e2 e3 (by rw [md_tr, md_day, if_pos c])
    by_cases c1 : d = 6
    · rw [if_pos c1]; exact yes (by omega)
    · rw [if_neg c1]
      by_cases c2 : d = 13
      · rw [if_pos c2]; exact yes (by omega)
      · rw [if_neg c2]
        by_cases c3 : d = 20
        · rw [if_pos c3]; exact yes (by omega)
        · rw [if_neg c3]
          exact mid M (md_tr T E d) (26 * d) (by omega) hs cc_f.rf hr (by rw [md_tr, md_day, if_neg (by omega)])
/-- Course.run: all days, whatever stood in the Course -/
theorem cc_run {T : md_T} {E : Nat → Nat → Bool} {r t : Nat} {x : Int32} {M : mm_M} (ha : cc_ad r t) (ho : md_ok T) (hT : cc_T T t M) (hE : cc_E E x M) : ∃ M', fX1_run r t x M = some M' ∧ (∀ q, q < r ∨ r + 12 < q → M' q = M q) ∧ M' r 0 = nI (T 0 3) ∧ cc_tr r T E 24 M' := by
  obtain ⟨a1, a2, a3⟩ := id ha
  have o1 := ho.1
  have o2 := ho.2.1
  unfold fX1_run fX1_beginWords fX1_beginPeople
  simp only [q_pf, Option.bind_some, q_lit 0, hT.2.1]
  have hT1 : cc_T T t (mm_wr M r 0 (nI (T 0 3))) := hT.keep (fun q h1 h2 => q_wr_ne (by omega))
  obtain ⟨M1, e1, e2, e3, e4⟩ := cc_iniW_L ha (T 0 3) 0 1000 (mm_wr M r 0 (nI (T 0 3))) (by omega) (by omega) ⟨ho, hT1, by rw [q_wr_eq]⟩
  rw [e1]
  simp only [Option.bind_some]
  have hT2 : cc_T T t (mm_wr M1 r 5 (nI 0)) := hT1.keep (fun q h1 h2 => by rw [q_wr_ne (by omega), e2 q (by omega) (by omega)])
  obtain ⟨M2, f1, f2, f3, f4⟩ := cc_iniP_L (np := T 0 0) ha o1 (T 0 0) 0 1000 (mm_wr M1 r 5 (nI 0)) (by omega) (by omega) hT2.1
  rw [f1]
  simp only [Option.bind_some]
  have hT3 : cc_T T t M2 := hT2.keep (fun q h1 h2 => f2 q (by omega) (by omega))
  have low : ∀ q, q < r → M2 q = M q := fun q hq => by rw [f2 q (by omega) (by omega), q_wr_ne (by omega), e2 q (by omega) (by omega), q_wr_ne (by omega)]
  obtain ⟨M3, g1, g2, g3, g4, g5⟩ := cc_days (E := E) (x := x) ha ho hT3 (by
    unfold cc_E at hE ⊢
    rw [low 17 (by omega), low 18 (by omega), low 19 (by omega)]; exact hE)
  rw [g1]
  simp only [Option.bind_some]
  have r0 : M3 r 0 = nI (T 0 3) := by rw [g2 r (by omega), f2 r (by omega) (by omega), q_wr_n2 (by decide), e2 r (by omega) (by omega), q_wr_eq]
  have hY : cc_Y r t T E M3 := ⟨⟨ho, hT3.keep (fun q h1 h2 => g2 q (by omega)), r0⟩, g3, g4, g5⟩
  obtain ⟨M4, k1, k2, k3, k4⟩ := cc_days_L ha 24 0 1000 M3 (by omega) (by omega) hY (fun k hk => by
      rw [g2 r (by omega), f2 r (by omega) (by omega), q_wr_eq]
      have z : bt (nI 0) k = false := b_0 k
      rw [z]; simp) ⟨fun w hw => by
      rw [g2 (r + 1) (by omega), g2 (r + 2) (by omega), f2 (r + 1) (by omega) (by omega), f2 (r + 2) (by omega) (by omega), q_wr_ne (by omega), q_wr_ne (by omega)]
      exact e4 w (by omega) hw, fun k hk => by
      rw [g2 (r + 3) (by omega), g2 (r + 4) (by omega), (f4 k (by omega) hk).1, (f4 k (by omega) hk).2]
      simp [md_tr, md_ini]⟩ (fun d hd => by omega)
  refine ⟨M4, k1, fun q hq => ?_, by rw [k3, r0], k4⟩
  rw [k2 q hq, g2 q (by omega), f2 q (by omega) (by omega), q_wr_ne (by omega), e2 q (by omega) (by omega), q_wr_ne (by omega)]
