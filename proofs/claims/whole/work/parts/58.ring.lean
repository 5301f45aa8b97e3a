/-! ring: sets of persons, step by step -/
def rg_o (O : Nat → Int32) (x : Int32) : Nat → Int32 → Int32
  | 0, s => s
  | f + 1, s => rg_o O x f (if bt x (7 - f) = true then s ||| O (7 - f) else s)
theorem rg_o_bt (O : Nat → Int32) (x : Int32) (j : Nat) : ∀ f s, f ≤ 8 → (bt (rg_o O x f s) j = true ↔ bt s j = true ∨ ∃ i, 8 - f ≤ i ∧ i < 8 ∧ bt x i = true ∧ bt (O i) j = true)
  | 0, s, _ => by
    rw [rg_o]
    constructor
    · intro h; exact Or.inl h
    · rintro (h | ⟨i, a, b, -⟩)
      · exact h
      · omega
  | f + 1, s, hf => by
    rw [rg_o, rg_o_bt O x j f _ (by omega)]
    by_cases c : bt x (7 - f) = true
    · rw [if_pos c, b_or, Bool.or_eq_true]
      constructor
      · rintro ((h | h) | ⟨i, a, b, p, q⟩)
        · exact Or.inl h
        · exact Or.inr ⟨7 - f, by omega, by omega, c, h⟩
        · exact Or.inr ⟨i, by omega, b, p, q⟩
      · rintro (h | ⟨i, a, b, p, q⟩)
        · exact Or.inl (Or.inl h)
        · by_cases e : i = 7 - f
          · rw [e] at q; exact Or.inl (Or.inr q)
          · exact Or.inr ⟨i, by omega, b, p, q⟩
    · rw [if_neg c]
      constructor
      · rintro (h | ⟨i, a, b, p, q⟩)
        · exact Or.inl h
        · exact Or.inr ⟨i, by omega, b, p, q⟩
      · rintro (h | ⟨i, a, b, p, q⟩)
        · exact Or.inl h
        · by_cases e : i = 7 - f
          · rw [e] at p; exact absurd p c
          · exact Or.inr ⟨i, by omega, b, p, q⟩
/-- reached from k in exactly n + 1 steps; in at most n + 1 -/
def rg_X (O : Nat → Int32) (k : Nat) : Nat → Int32
  | 0 => O k
  | n + 1 => rg_o O (rg_X O k n) 8 0
def rg_U (O : Nat → Int32) (k : Nat) : Nat → Int32
  | 0 => O k
  | n + 1 => rg_o O (rg_U O k n) 8 (rg_U O k n)
theorem rg_UX (O : Nat → Int32) (k j : Nat) : ∀ n, bt (rg_U O k n) j = true ↔ ∃ m, m ≤ n ∧ bt (rg_X O k m) j = true := by
  intro n
  induction n generalizing j with
  | zero =>
    constructor
    · intro h; exact ⟨0, by omega, h⟩
    · rintro ⟨m, hm, h⟩
      rw [show m = 0 by omega] at h
      exact h
  | succ n ih =>
    rw [rg_U, rg_o_bt O _ j 8 _ (by omega)]
    constructor
    · rintro (h | ⟨i, a, b, p, q⟩)
      · obtain ⟨m, hm, e⟩ := (ih j).mp h
        exact ⟨m, by omega, e⟩
      · obtain ⟨m, hm, e⟩ := (ih i).mp p
        refine ⟨m + 1, by omega, ?_⟩
        rw [rg_X, rg_o_bt O _ j 8 _ (by omega)]
        exact Or.inr ⟨i, a, b, e, q⟩
    · rintro ⟨m, hm, h⟩
      by_cases c : m ≤ n
      · exact Or.inl ((ih j).mpr ⟨m, c, h⟩)
      · rw [show m = n + 1 by omega, rg_X, rg_o_bt O _ j 8 _ (by omega)] at h
        rcases h with h | ⟨i, a, b, p, q⟩
        · rw [b_0] at h; cases h
        · exact Or.inr ⟨i, a, b, (ih i).mpr ⟨n, by omega, p⟩, q⟩
/-- the least number of steps is the same -/
theorem rg_fst (O : Nat → Int32) (k : Nat) (f : Nat) : md_fst (fun n => bt (rg_U O k n) k) f 0 = md_fst (fun n => bt (rg_X O k n) k) f 0 := by
  obtain ⟨a1, a2, a3, a4⟩ := md_fst_spec (fun n => bt (rg_X O k n) k) f 0
  refine md_fst_uniq a1 a2 (fun j hj hl => ?_) (fun h => ?_)
  · cases e : bt (rg_U O k j) k with
    | false => rfl
    | true =>
      obtain ⟨m, hm, h⟩ := (rg_UX O k k j).mp e
      have := a3 m (by omega) (by omega)
      rw [h] at this
      cases this
  · exact (rg_UX O k k _).mpr ⟨_, Nat.le_refl _, a4 h⟩
