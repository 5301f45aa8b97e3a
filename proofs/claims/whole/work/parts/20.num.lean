/-! numbers: ints that are nI of a natural; reads and writes at such places -/
theorem q_lit (m : Nat) : (OfNat.ofNat m : Int32) = nI m := rfl
theorem q_0 : (0 : Int32) = nI 0 := rfl
theorem q_rd {M : mm_M} {k n i : Nat} (h : i < n) (hn : n < 2 ^ 31) : mm_rd M k n (nI i) = some (M k i) := by
  unfold mm_rd
  rw [if_neg (nI_in h hn), nI_clamp (by omega)]
theorem q_wa {M : mm_M} {k n i : Nat} {x : Int32} (h : i < n) (hn : n < 2 ^ 31) : mm_wa M k n (nI i) x = some (mm_wr M k i x) := by
  unfold mm_wa
  rw [if_neg (nI_in h hn), nI_clamp (by omega)]
theorem q_pf {M : mm_M} {k j : Nat} {x : Int32} : mm_pf M k j x = some (mm_wr M k j x) := rfl
theorem q_wr {M : mm_M} {k i q j : Nat} {x : Int32} : mm_wr M k i x q j = if q = k ∧ j = i then x else M q j := by
  unfold mm_wr mm_up
  by_cases h : q = k
  · subst h
    by_cases h2 : j = i
    · subst h2; simp [upd]
    · simp [upd, h2]
  · simp [h]
theorem q_wr_ne {M : mm_M} {k i q : Nat} {x : Int32} (h : q ≠ k) : mm_wr M k i x q = M q := by
  unfold mm_wr mm_up
  rw [if_neg h]
theorem q_up_ne {M : mm_M} {k q : Nat} {f : Nat → Int32} (h : q ≠ k) : mm_up M k f q = M q := by
  unfold mm_up
  rw [if_neg h]
theorem q_up_eq {M : mm_M} {k : Nat} {f : Nat → Int32} : mm_up M k f k = f := by
  unfold mm_up
  rw [if_pos rfl]
theorem q_m1 {a : Nat} (h : a < 2 ^ 31) : ¬ nI a = (-1 : Int32) := by
  intro e
  have h1 := congrArg Int32.toInt e
  rw [nI_toInt h] at h1
  have : ((-1 : Int32)).toInt = -1 := by decide
  omega
theorem q_m1' {a : Nat} (h : a < 2 ^ 31) : ¬ (-1 : Int32) = nI a := fun e => q_m1 h e.symm
theorem q_probe (x : Int32) (i : Nat) (h : i < 12) : (if nI 12 ≤ nI i then x else 0) = nI 0 := by
  simp (disch := omega) only [q_lit, nI_leI]
  rw [if_neg (by omega)]
