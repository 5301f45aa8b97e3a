/-! THE MODEL: what is told (T, by Told's offsets: 0 the numbers 0 people, 3 words, 7 meetings; 1 sorts, 2 dies, 3 lenders, 4 debtors, 5 uses, 6 days, 7 firsts, 8 others); a state by day (offsets 1 state, 2 left, 3 said, 4 occasions); E d k: an echo on day d of person k -/
abbrev md_T : Type := Nat → Nat → Nat
def md_up (s : md_T) (o j v : Nat) : md_T := fun a b => if a = o ∧ b = j then v else s a b
def md_two (T : md_T) (a b : Nat) : Bool := a != b && (decide (a < T 0 0) && decide (b < T 0 0))
theorem md_two_iff {T : md_T} {a b : Nat} : md_two T a b = true ↔ a ≠ b ∧ a < T 0 0 ∧ b < T 0 0 := by
  simp [md_two]
def md_ini (T : md_T) : md_T := fun o j => if o = 1 then (if md_two T (T 3 j) (T 4 j) = true then 0 else 4) else if o = 2 then T 5 j else 0
def md_gr (T s : md_T) : md_T := fun o j => if o = 2 ∧ j < T 0 3 ∧ s 1 j = 0 then min (s 2 j + (if T 1 (T 3 j) = 3 then 2 else 1)) 9 else s o j
def md_fst (P : Nat → Bool) : Nat → Nat → Nat
  | 0, i => i
  | f + 1, i => if P i = true then i else md_fst P f (i + 1)
theorem md_fst_spec (P : Nat → Bool) : ∀ f i, i ≤ md_fst P f i ∧ md_fst P f i ≤ i + f ∧ (∀ j, i ≤ j → j < md_fst P f i → P j = false) ∧ (md_fst P f i < i + f → P (md_fst P f i) = true)
  | 0, i => ⟨Nat.le_refl _, Nat.le_refl _, fun j h1 h2 => by simp only [md_fst] at h2; omega, fun h => by simp only [md_fst] at h; omega⟩
  | f + 1, i => by
    obtain ⟨h1, h2, h3, h4⟩ := md_fst_spec P f (i + 1)
    simp only [md_fst]
    split
    · rename_i h
      exact ⟨Nat.le_refl _, by omega, fun j a b => by omega, fun _ => h⟩
    · rename_i h
      refine ⟨by omega, by omega, fun j a b => ?_, fun a => h4 (by omega)⟩
      by_cases hj : j = i
      · subst hj; simpa using h
      · exact h3 j (by omega) b
/-- the least open word that b lent to a -/
def md_isw (T s : md_T) (a b : Nat) : Nat → Bool := fun w => s 1 w == 0 && (T 3 w == b && T 4 w == a)
def md_least (T s : md_T) (a b : Nat) : Nat := md_fst (md_isw T s a b) (T 0 3) 0
def md_pay (T s : md_T) (a w : Nat) : md_T := md_up (md_up s 2 w (s 2 w - (if T 1 a = 3 then 2 else 1))) 1 w (if s 2 w - (if T 1 a = 3 then 2 else 1) = 0 then 1 else 0)
/-- a says a word to b on day d -/
def md_say (T : md_T) (E : Nat → Nat → Bool) (d a b : Nat) (s : md_T) : md_T :=
  if md_least T s a b < T 0 3 ∧ T 1 a ≠ 2 then
    if T 1 a = 1 ∧ (s 4 a + 1) % 2 = 1 then md_up s 4 a (s 4 a + 1)
    else if E d a = true then md_up (md_up s 4 a (s 4 a + 1)) 3 a (s 3 a + 1)
    else md_pay T (md_up (md_up s 4 a (s 4 a + 1)) 3 a (s 3 a + 1)) a (md_least T s a b)
  else s
def md_talk (T : md_T) (E : Nat → Nat → Bool) (d a b : Nat) (s : md_T) : md_T :=
  if md_two T a b = true ∧ d ≤ T 2 a ∧ d ≤ T 2 b then md_say T E d b a (md_say T E d a b s) else s
def md_ms (T : md_T) (E : Nat → Nat → Bool) (d : Nat) (s : md_T) : Nat → md_T
  | 0 => s
  | n + 1 => if T 6 n = d then md_talk T E d (T 7 n) (T 8 n) (md_ms T E d s n) else md_ms T E d s n
def md_die (T : md_T) (d : Nat) (s : md_T) : md_T := fun o j => if o = 1 ∧ j < T 0 3 ∧ s 1 j = 0 then (if T 2 (T 4 j) = d then 3 else if T 2 (T 3 j) = d then 2 else 0) else s o j
def md_day (T : md_T) (E : Nat → Nat → Bool) (d : Nat) (s : md_T) : md_T := md_die T d (md_ms T E d (if d % 7 = 6 then md_gr T s else s) (T 0 7))
/-- behind day d - 1 -/
def md_tr (T : md_T) (E : Nat → Nat → Bool) : Nat → md_T
  | 0 => md_ini T
  | d + 1 => md_day T E d (md_tr T E d)
/-- the numbers of what is told -/
def md_ok (T : md_T) : Prop := T 0 0 ≤ 8 ∧ T 0 3 ≤ 12 ∧ T 0 7 ≤ 13 ∧ (∀ k, k < T 0 0 → T 1 k < 4 ∧ T 2 k < 24) ∧ (∀ w, w < T 0 3 → T 3 w < 8 ∧ T 4 w < 8 ∧ 1 ≤ T 5 w ∧ T 5 w ≤ 9) ∧ ∀ i, i < T 0 7 → T 6 i < 24 ∧ T 7 i < 8 ∧ T 8 i < 8
/-- the numbers of a state: B is above what anybody had occasion to say -/
def md_sok (T s : md_T) (B : Nat) : Prop := (∀ w, w < T 0 3 → s 1 w ≤ 4 ∧ s 2 w ≤ 9 ∧ (s 1 w = 0 → T 3 w < T 0 0 ∧ T 4 w < T 0 0 ∧ T 3 w ≠ T 4 w)) ∧ ∀ k, k < T 0 0 → s 4 k ≤ B ∧ s 3 k ≤ B
theorem md_sok.mono {T s : md_T} {B C : Nat} (h : md_sok T s B) (hc : B ≤ C) : md_sok T s C := ⟨h.1, fun k hk => ⟨Nat.le_trans (h.2 k hk).1 hc, Nat.le_trans (h.2 k hk).2 hc⟩⟩
theorem md_ini_ok {T : md_T} (h : md_ok T) : md_sok T (md_ini T) 0 := by
  refine ⟨fun w hw => ?_, fun k hk => by simp [md_ini]⟩
  have h5 := (h.2.2.2.2.1 w hw)
  refine ⟨?_, by simp [md_ini]; exact h5.2.2.2, ?_⟩
  · simp only [md_ini, if_true]; split <;> omega
  · intro h0
    simp only [md_ini, if_true] at h0
    split at h0
    · rename_i h2
      have := md_two_iff.mp h2
      exact ⟨this.2.1, this.2.2, this.1⟩
    · omega
theorem md_gr_ok {T s : md_T} {B : Nat} (h : md_sok T s B) : md_sok T (md_gr T s) B := by
  refine ⟨fun w hw => ?_, fun k hk => by simp [md_gr]; exact h.2 k hk⟩
  obtain ⟨a, b, c⟩ := h.1 w hw
  refine ⟨by simp [md_gr]; exact a, ?_, by simp [md_gr]; exact c⟩
  simp only [md_gr]
  split <;> omega
theorem md_say_ok {T s : md_T} {E : Nat → Nat → Bool} {d a b B : Nat} (h : md_sok T s B) : md_sok T (md_say T E d a b s) (B + 1) := by
  unfold md_say
  split
  · rename_i hc
    have hw := hc.1
    obtain ⟨f1, f2, f3, f4⟩ := md_fst_spec (md_isw T s a b) (T 0 3) 0
    have f4 := f4 (by rw [Nat.zero_add]; exact hw)
    simp only [md_isw, Bool.and_eq_true, beq_iff_eq] at f4
    change s 1 (md_least T s a b) = 0 ∧ _ at f4
    have hk : ∀ k, k < T 0 0 → ∀ v1 v2 : Nat, v1 ≤ B + 1 → v2 ≤ B + 1 → True := fun _ _ _ _ _ _ => trivial
    split
    · refine ⟨fun w hw => by simp [md_up]; exact h.1 w hw, fun k hk => ?_⟩
      have := h.2 k hk
      simp only [md_up]
      constructor
      · split
        · rename_i e; rw [e.2] at this; omega
        · omega
      · split <;> omega
    · split
      · refine ⟨fun w hw => by simp [md_up]; exact h.1 w hw, fun k hk => ?_⟩
        have := h.2 k hk
        simp only [md_up]
        constructor
        · simp
          split
          · rename_i e; rw [e] at this; omega
          · omega
        · simp
          split
          · rename_i e; rw [e] at this; omega
          · omega
      · refine ⟨fun w hw => ?_, fun k hk => ?_⟩
        · have hh := h.1 w hw
          simp only [md_pay, md_up]
          refine ⟨?_, ?_, ?_⟩
          · simp; split
            · split <;> split <;> omega
            · exact hh.1
          · simp; split
            · rename_i e; rw [e] at hh; omega
            · exact hh.2.1
          · simp
            intro h0
            by_cases e : w = md_least T s a b
            · rw [e]; exact (h.1 _ hc.1).2.2 f4.1
            · rw [if_neg e] at h0; exact hh.2.2 h0
        · have := h.2 k hk
          simp only [md_pay, md_up]
          constructor
          · simp
            split
            · rename_i e; rw [e] at this; omega
            · omega
          · simp
            split
            · rename_i e; rw [e] at this; omega
            · omega
  · exact h.mono (by omega)
theorem md_talk_ok {T s : md_T} {E : Nat → Nat → Bool} {d a b B : Nat} (h : md_sok T s B) : md_sok T (md_talk T E d a b s) (B + 2) := by
  unfold md_talk
  split
  · exact md_say_ok (md_say_ok h)
  · exact h.mono (by omega)
theorem md_ms_ok {T s : md_T} {E : Nat → Nat → Bool} {d B : Nat} (h : md_sok T s B) : ∀ n, md_sok T (md_ms T E d s n) (B + 2 * n)
  | 0 => h
  | n + 1 => by
    simp only [md_ms]
    split
    · exact (md_talk_ok (md_ms_ok h n)).mono (by omega)
    · exact (md_ms_ok h n).mono (by omega)
theorem md_die_ok {T s : md_T} {d B : Nat} (h : md_sok T s B) : md_sok T (md_die T d s) B := by
  refine ⟨fun w hw => ?_, fun k hk => by simp [md_die]; exact h.2 k hk⟩
  have hh := h.1 w hw
  refine ⟨?_, by simp [md_die]; exact hh.2.1, ?_⟩
  · simp only [md_die]
    split
    · split
      · omega
      · split <;> omega
    · exact hh.1
  · intro h0
    by_cases e : s 1 w = 0
    · exact hh.2.2 e
    · simp [md_die, e] at h0
theorem md_tr_ok {T : md_T} {E : Nat → Nat → Bool} (h : md_ok T) : ∀ d, md_sok T (md_tr T E d) (26 * d)
  | 0 => md_ini_ok h
  | d + 1 => by
    have h1 := md_tr_ok (E := E) h d
    have h2 : md_sok T (if d % 7 = 6 then md_gr T (md_tr T E d) else md_tr T E d) (26 * d) := by
      split
      · exact md_gr_ok h1
      · exact h1
    exact md_die_ok ((md_ms_ok h2 (T 0 7)).mono (by have := h.2.2.1; omega))
