/-! THE REFERENCE's run over the model -/
def rr_T (T : md_T) (N : mm_M) : Prop :=
  N 0 7 = nI (T 0 0) ∧ N 0 9 = nI (T 0 3) ∧ (∀ k, k < T 0 0 → N 7 (2 * k) = nI (T 1 k) ∧ N 7 (2 * k + 1) = nI (T 2 k)) ∧ (∀ w, w < T 0 3 → N 8 (3 * w) = nI (T 3 w) ∧ N 8 (3 * w + 1) = nI (T 4 w) ∧ N 8 (3 * w + 2) = nI (T 5 w)) ∧
  ∃ m, m ≤ 12 ∧ N 0 11 = nI m ∧ (∀ i, i < m → N 9 (3 * i) = nI (T 6 i) ∧ N 9 (3 * i + 1) = nI (T 7 i) ∧ N 9 (3 * i + 2) = nI (T 8 i)) ∧ ((T 0 7 = m ∧ N 0 16 = -1) ∨ (T 0 7 = m + 1 ∧ N 0 16 = nI (T 6 m) ∧ N 0 17 = nI (T 7 m) ∧ N 0 18 = nI (T 8 m)))
def rr_E (E : Nat → Nat → Bool) (N : mm_M) : Prop := ∃ ne, ne ≤ 8 ∧ N 0 13 = nI ne ∧ ∀ d k, d < 24 → k < 8 → (E d k = true ↔ ∃ i, i < ne ∧ N 10 (2 * i) = nI d ∧ N 10 (2 * i + 1) = nI k ∧ fX7_isIn (N 0 15) (nI i) = 0)
def rr_C (T : md_T) (E : Nat → Nat → Bool) (N : mm_M) : Prop := md_ok T ∧ rr_T T N ∧ rr_E E N
def rr_f (N N' : mm_M) : Prop := ∀ q, q < 11 ∨ 14 < q → N' q = N q
def rr_F (N N' : mm_M) : Prop := ∀ q, q < 11 ∨ 17 < q → N' q = N q
theorem rr_f.F {N N' : mm_M} (h : rr_f N N') : rr_F N N' := fun q hq => h q (by omega)
theorem rr_F.rf {N : mm_M} : rr_F N N := fun _ _ => rfl
theorem rr_F.tr {A B C : mm_M} (h : rr_F A B) (g : rr_F B C) : rr_F A C := fun q hq => (g q hq).trans (h q hq)
theorem rr_f.rf {N : mm_M} : rr_f N N := fun _ _ => rfl
theorem rr_f.tr {A B C : mm_M} (h : rr_f A B) (g : rr_f B C) : rr_f A C := fun q hq => (g q hq).trans (h q hq)
theorem rr_C.Keep {T : md_T} {E : Nat → Nat → Bool} {N N' : mm_M} (hf : rr_F N N') (h : rr_C T E N) : rr_C T E N' := by
  obtain ⟨h1, h2, h3⟩ := h
  have e0 := hf 0 (by omega)
  have e7 := hf 7 (by omega)
  have e8 := hf 8 (by omega)
  have e9 := hf 9 (by omega)
  have e10 := hf 10 (by omega)
  refine ⟨h1, ?_, ?_⟩
  · unfold rr_T at h2 ⊢; rw [e0, e7, e8, e9]; exact h2
  · unfold rr_E at h3 ⊢; rw [e0, e10]; exact h3
theorem rr_C.keep {T : md_T} {E : Nat → Nat → Bool} {N N' : mm_M} (hf : rr_f N N') (h : rr_C T E N) : rr_C T E N' := h.Keep hf.F
theorem rr_f_wr {N : mm_M} {k i : Nat} {x : Int32} (h : 11 ≤ k ∧ k ≤ 14) : rr_f N (mm_wr N k i x) := fun q hq => q_wr_ne (by omega)
theorem rr_f_of {N N' : mm_M} {k : Nat} (h : 11 ≤ k ∧ k ≤ 14) (e : ∀ q, q ≠ k → N' q = N q) : rr_f N N' := fun q hq => e q (by omega)
def rr_s (T s : md_T) (N : mm_M) : Prop := (∀ w, w < T 0 3 → N 11 w = nI (s 1 w) ∧ N 12 w = nI (s 2 w)) ∧ ∀ k, k < T 0 0 → N 13 k = nI (s 3 k) ∧ N 14 k = nI (s 4 k)
theorem rr_grows_L {T s : md_T} {E : Nat → Nat → Bool} {B : Nat} (hs : md_sok T s B) : ∀ (f i n : Nat) (N : mm_M), i + f = T 0 3 → f < n → rr_C T E N → (∀ w, w < T 0 3 → N 11 w = nI (s 1 w)) → (∀ w, i ≤ w → w < T 0 3 → N 12 w = nI (s 2 w)) →
    ∃ N', fX7_grows_L2 n (nI i) N = some N' ∧ (∀ q, q ≠ 12 → N' q = N q) ∧ (∀ w, w < i → N' 12 w = N 12 w) ∧ ∀ w, i ≤ w → w < T 0 3 → N' 12 w = nI (md_gr T s 2 w)
  | 0, i, n + 1, N, hi, hn, hC, h11, h12 => by
    obtain ⟨ho, hT, -⟩ := hC
    have h9 := hT.2.1
    have := ho.2.1
    refine ⟨N, ?_, fun _ _ => rfl, fun _ _ => rfl, fun w h1 h2 => by omega⟩
    rw [fX7_grows_L2, h9, if_pos (by rw [nI_leI (by omega) (by omega)]; omega)]
  | f + 1, i, n + 1, N, hi, hn, hC, h11, h12 => by
    have hC0 := hC
    obtain ⟨ho, hT, -⟩ := hC
    obtain ⟨h7, h9, hp, hw, -⟩ := hT
    obtain ⟨o1, o2, o3, o4, o5, o6⟩ := ho
    have hi' : i < T 0 3 := by omega
    have a11 := h11 i hi'
    have a12 := h12 i (Nat.le_refl _) hi'
    obtain ⟨w1, w2, w3⟩ := hw i hi'
    obtain ⟨t3, t4, t5⟩ := o5 i hi'
    obtain ⟨s1, s2, s3⟩ := hs.1 i hi'
    rw [fX7_grows_L2, h9, if_neg (by rw [nI_leI (by omega) (by omega)]; omega)]
    simp (disch := omega) only [q_lit, q_rd, q_wa, Option.bind_some, pk_mul, nI_add, nI_eq, a11, a12, w1]
    by_cases h0 : s 1 i = 0
    · have hl := s3 h0
      have p1 := (hp (T 3 i) hl.1).1
      have p2 := (o4 (T 3 i) hl.1).1
      rw [if_pos h0]
      simp (disch := omega) only [p1, nI_eq, q_lesser]
      have key : ∀ v, v = md_gr T s 2 i → ∃ N', fX7_grows_L2 n (nI (i + 1)) (mm_wr N 12 i (nI v)) = some N' ∧ (∀ q, q ≠ 12 → N' q = N q) ∧ (∀ w, w < i → N' 12 w = N 12 w) ∧ ∀ w, i ≤ w → w < T 0 3 → N' 12 w = nI (md_gr T s 2 w) := by
        intro v hv
        obtain ⟨N', e1, e2, e3, e4⟩ := rr_grows_L (E := E) hs f (i + 1) n (mm_wr N 12 i (nI v)) (by omega) (by omega) (hC0.keep (rr_f_wr (by omega))) (fun w hw => by rw [q_wr_ne (by decide)]; exact h11 w hw) (fun w h1 h2 => by rw [q_wr, if_neg (by omega)]; exact h12 w (by omega) h2)
        refine ⟨N', e1, fun q hq => by rw [e2 q hq, q_wr_ne hq], fun w hw => by rw [e3 w (by omega), q_wr, if_neg (by omega)], fun w h1 h2 => ?_⟩
        by_cases e : w = i
        · subst e
          rw [e3 w (by omega), q_wr, if_pos ⟨rfl, rfl⟩, hv]
        · exact e4 w (by omega) h2
      split
      · rename_i h3
        exact key _ (by simp [md_gr, h0, h3, hi'])
      · rename_i h3
        exact key _ (by simp [md_gr, h0, h3, hi'])
    · rw [if_neg h0]
      obtain ⟨N', e1, e2, e3, e4⟩ := rr_grows_L hs f (i + 1) n N (by omega) (by omega) hC0 h11 (fun w h1 h2 => h12 w (by omega) h2)
      refine ⟨N', e1, e2, fun w hw => e3 w (by omega), fun w h1 h2 => ?_⟩
      by_cases e : w = i
      · subst e
        rw [e3 w (by omega), a12]
        simp [md_gr, h0]
      · exact e4 w (by omega) h2
theorem rr_grows {T s : md_T} {E : Nat → Nat → Bool} {B : Nat} {N : mm_M} (hC : rr_C T E N) (hs : md_sok T s B) (hr : rr_s T s N) : ∃ N', fX7_grows N = some N' ∧ rr_f N N' ∧ rr_s T (md_gr T s) N' := by
  have hb := hC.1.2.1
  obtain ⟨N', e1, e2, e3, e4⟩ := rr_grows_L (E := E) hs (T 0 3) 0 1000 N (by omega) (by omega) hC (fun w hw => (hr.1 w hw).1) (fun w _ hw => (hr.1 w hw).2)
  refine ⟨N', e1, rr_f_of (by omega) e2, fun w hw => ⟨?_, e4 w (by omega) hw⟩, fun k hk => ?_⟩
  · rw [e2 11 (by decide), (hr.1 w hw).1]; simp [md_gr]
  · rw [e2 13 (by decide), e2 14 (by decide), (hr.2 k hk).1, (hr.2 k hk).2]; simp [md_gr]
theorem rr_dead {T : md_T} {E : Nat → Nat → Bool} {N : mm_M} (hC : rr_C T E N) {d k : Nat} (hd : d ≤ 24) (hk : k < T 0 0) : fX7_isDead (nI d) (nI k) N = some (if d ≤ T 2 k then 0 else 1) := by
  obtain ⟨⟨o1, o2, o3, o4, o5, o6⟩, ⟨h7, h9, hp, hw, -⟩, -⟩ := hC
  have a := o4 k hk
  have b := (hp k hk).2
  unfold fX7_isDead
  simp (disch := omega) only [q_lit, q_rd, Option.bind_some, pk_mul, nI_add, b, nI_leI]
  split <;> rfl
def md_any (P : Nat → Bool) : Nat → Nat → Bool
  | 0, _ => false
  | f + 1, i => P i || md_any P f (i + 1)
theorem md_any_iff (P : Nat → Bool) : ∀ f i, md_any P f i = true ↔ ∃ j, i ≤ j ∧ j < i + f ∧ P j = true
  | 0, i => by
    simp only [md_any, Bool.false_eq_true, false_iff]
    rintro ⟨j, h1, h2, -⟩; omega
  | f + 1, i => by
    simp only [md_any, Bool.or_eq_true, md_any_iff P f (i + 1)]
    constructor
    · rintro (h | ⟨j, h1, h2, h3⟩)
      · exact ⟨i, Nat.le_refl _, by omega, h⟩
      · exact ⟨j, by omega, by omega, h3⟩
    · rintro ⟨j, h1, h2, h3⟩
      by_cases e : j = i
      · subst e; exact Or.inl h3
      · exact Or.inr ⟨j, by omega, by omega, h3⟩
def rr_hit (N : mm_M) (d k j : Nat) : Bool := decide (N 10 (2 * j) = nI d) && (decide (N 10 (2 * j + 1) = nI k) && decide (fX7_isIn (N 0 15) (nI j) = 0))
theorem rr_echo_L {N : mm_M} {ne d k : Nat} (h8 : ne ≤ 8) (h13 : N 0 13 = nI ne) : ∀ (f i n : Nat) (b : Bool), i + f = ne → f < n → fX7_isEcho_L5 (nI d) (nI k) N n (if b = true then 1 else 0) (nI i) = some (if (b || md_any (rr_hit N d k) f i) = true then 1 else 0)
  | 0, i, n + 1, b, hi, hn => by
    rw [fX7_isEcho_L5, h13, if_pos (by rw [nI_leI (by omega) (by omega)]; omega), q_zb]
    simp only [Option.bind_some, md_any, Bool.or_false]
  | f + 1, i, n + 1, b, hi, hn => by
    rw [fX7_isEcho_L5, h13, if_neg (by rw [nI_leI (by omega) (by omega)]; omega)]
    simp (disch := omega) only [q_lit, q_rd, Option.bind_some, pk_mul, nI_add]
    have ih := fun b => rr_echo_L (d := d) (k := k) h8 h13 f (i + 1) n b (by omega) (by omega)
    simp only [q_lit] at ih
    cases b with
    | true =>
      simp only [if_true]
      rw [if_neg (by decide)]
      have := ih true
      simp only [if_true, Bool.true_or] at this
      rw [this]
      simp
    | false =>
      simp only [Bool.false_eq_true, if_false, Bool.false_or, md_any, rr_hit, if_true]
      by_cases c1 : N 10 (2 * i) = nI d
      · rw [if_pos c1]
        by_cases c2 : N 10 (2 * i + 1) = nI k
        · simp only [if_pos c2]
          by_cases c3 : fX7_isIn (N 0 15) (nI i) = nI 0
          · have := ih true
            simp only [if_true, Bool.true_or] at this
            rw [if_pos c3, this]
            simp [c1, c2, show fX7_isIn (N 0 15) (nI i) = 0 from c3]
          · have := ih false
            simp only [if_false, Bool.false_or, Bool.false_eq_true] at this
            rw [if_neg c3, this]
            simp [show ¬ fX7_isIn (N 0 15) (nI i) = 0 from c3]
        · have := ih false
          simp only [if_false, Bool.false_or, Bool.false_eq_true] at this
          simp only [if_neg c2, this]
          simp [c2]
      · have := ih false
        simp only [if_false, Bool.false_or, Bool.false_eq_true] at this
        rw [if_neg c1, this]
        simp [c1]
theorem rr_echo {E : Nat → Nat → Bool} {N : mm_M} (h : rr_E E N) {d k : Nat} (hd : d < 24) (hk : k < 8) : fX7_isEcho (nI d) (nI k) N = some (if E d k = true then 1 else 0) := by
  obtain ⟨ne, h8, h13, hE⟩ := h
  have := rr_echo_L (d := d) (k := k) h8 h13 ne 0 1000 false (by omega) (by omega)
  unfold fX7_isEcho
  simp only [Bool.false_eq_true, if_false, Bool.false_or] at this
  rw [show (0 : Int32) = nI 0 from rfl] at this ⊢
  rw [this]
  congr 1
  apply q_ifc
  rw [hE d k hd hk, md_any_iff]
  simp only [rr_hit, Bool.and_eq_true, decide_eq_true_eq, Nat.zero_add]
  constructor
  · rintro ⟨j, h1, h2, h3⟩; exact ⟨j, h2, h3⟩
  · rintro ⟨j, h2, h3⟩; exact ⟨j, Nat.zero_le _, h2, h3⟩
def rr_enc (n r : Nat) : Int32 := if r < n then nI r else -1
theorem rr_least_L {T s : md_T} {E : Nat → Nat → Bool} {N : mm_M} (hC : rr_C T E N) (hr : rr_s T s N) {x1 : Int32} {a b : Nat} (ha : a < 8) (hb : b < 8) {B : Nat} (hs : md_sok T s B) (k : Int32 → Option mm_M) : ∀ (j n : Nat), j ≤ T 0 3 → j < n → fX7_says_L11 x1 (nI a) (nI b) N k n (rr_enc (T 0 3) (md_fst (md_isw T s a b) (T 0 3 - j) j)) (nI j + (-1)) = k (rr_enc (T 0 3) (md_least T s a b))
  | 0, n + 1, hj, hn => by
    rw [fX7_says_L11, if_pos (by decide)]
    rfl
  | j + 1, n + 1, hj, hn => by
    obtain ⟨⟨o1, o2, o3, o4, o5, o6⟩, ⟨h7, h9, hp, hw, -⟩, -⟩ := id hC
    have ih := rr_least_L hC hr (x1 := x1) ha hb hs k j n (by omega) (by omega)
    obtain ⟨w1, w2, w3⟩ := hw j (by omega)
    obtain ⟨t3, t4, t5⟩ := o5 j (by omega)
    obtain ⟨s1, s2, s3⟩ := hs.1 j (by omega)
    have r1 := (hr.1 j (by omega)).1
    rw [fX7_says_L11, pk_m1, if_neg (nI_pos (by omega))]
    simp (disch := omega) only [q_lit, q_rd, Option.bind_some, pk_mul, nI_add, r1, w1, w2, nI_eq]
    have hstep : md_fst (md_isw T s a b) (T 0 3 - j) j = if md_isw T s a b j = true then j else md_fst (md_isw T s a b) (T 0 3 - (j + 1)) (j + 1) := by
      rw [show T 0 3 - j = (T 0 3 - (j + 1)) + 1 by omega]; rfl
    rw [hstep] at ih
    by_cases c1 : s 1 j = 0
    · rw [if_pos c1]
      by_cases c2 : T 3 j = b
      · rw [if_pos c2]
        by_cases c3 : T 4 j = a
        · simp only [if_pos c3]
          rw [if_pos (by simp [md_isw, c1, c2, c3]), rr_enc, if_pos (by omega)] at ih
          exact ih
        · simp only [if_neg c3]
          rw [if_neg (by simp [md_isw, c3])] at ih
          exact ih
      · rw [if_neg c2]
        rw [if_neg (by simp [md_isw, c2])] at ih
        exact ih
    · rw [if_neg c1]
      rw [if_neg (by simp [md_isw, c1])] at ih
      exact ih
