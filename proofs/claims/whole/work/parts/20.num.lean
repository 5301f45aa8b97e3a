/-! numbers: ints that are nI of a natural; reads and writes at such places -/
theorem q_lit (m : Nat) : (OfNat.ofNat m : Int32) = nI m := id rfl
theorem q_ifc {α : Type} {c d : Prop} [Decidable c] [Decidable d] {a b : α} (h : c ↔ d) : (if c then a else b) = if d then a else b := by
  by_cases e : c
  · rw [if_pos e, if_pos (h.mp e)]
  · rw [if_neg e, if_neg (fun q => e (h.mpr q))]
theorem q_rd {M : mm_M} {k n i : Nat} (h : i < n) (hn : n < 2 ^ 31) : mm_rd M k n (nI i) = some (M k i) := by
  unfold mm_rd
  rw [if_neg (nI_in h hn), nI_clamp (by omega)]
theorem q_wa {M : mm_M} {k n i : Nat} {x : Int32} (h : i < n) (hn : n < 2 ^ 31) : mm_wa M k n (nI i) x = some (mm_wr M k i x) := by
  unfold mm_wa
  rw [if_neg (nI_in h hn), nI_clamp (by omega)]
theorem q_pf {M : mm_M} {k j : Nat} {x : Int32} : mm_pf M k j x = some (mm_wr M k j x) := rfl
theorem q_wr {M : mm_M} {k i q j : Nat} {x : Int32} : mm_wr M k i x q j = if q = k ∧ j = i then x else M q j := by
  unfold mm_wr mm_up
  by_cases h : q = k
  · subst h
    by_cases h2 : j = i
    · subst h2; simp [upd]
    · simp [upd, h2]
  · simp [h]
theorem q_wr_ne {M : mm_M} {k i q : Nat} {x : Int32} (h : q ≠ k) : mm_wr M k i x q = M q := by
  unfold mm_wr mm_up
  rw [if_neg h]
theorem q_wr_eq {M : mm_M} {k i : Nat} {x : Int32} : mm_wr M k i x k i = x := by rw [q_wr, if_pos ⟨rfl, rfl⟩]
theorem q_wr_n2 {M : mm_M} {k i j : Nat} {x : Int32} (h : j ≠ i) : mm_wr M k i x k j = M k j := by rw [q_wr, if_neg (fun q => h q.2)]
theorem q_up_ne {M : mm_M} {k q : Nat} {f : Nat → Int32} (h : q ≠ k) : mm_up M k f q = M q := by
  unfold mm_up
  rw [if_neg h]
theorem q_up_eq {M : mm_M} {k : Nat} {f : Nat → Int32} : mm_up M k f k = f := by
  unfold mm_up
  rw [if_pos rfl]
theorem q_m1 {a : Nat} (h : a < 2 ^ 31) : ¬ nI a = (-1 : Int32) := by
  intro e
  have h1 := congrArg Int32.toInt e
  rw [nI_toInt h] at h1
  have : ((-1 : Int32)).toInt = -1 := by decide
  omega
theorem q_m1' {a : Nat} (h : a < 2 ^ 31) : ¬ (-1 : Int32) = nI a := fun e => q_m1 h e.symm
theorem q_of {x : Int32} {n : Nat} (h0 : 0 ≤ x.toInt) (h1 : x.toInt < n) (hn : n < 2 ^ 31) : ∃ j, j < n ∧ x = nI j := by
  obtain ⟨j, h2, h3⟩ := nI_of (x := x) (by rw [Int32.lt_iff_toInt_lt]; have : (0 : Int32).toInt = 0 := by decide
                                           omega)
  subst h3
  rw [nI_toInt h2] at h1
  exact ⟨j, by omega, rfl⟩
theorem q_lesser {a b : Nat} (ha : a < 2 ^ 31) (hb : b < 2 ^ 31) : fX7_lesser (nI a) (nI b) = nI (min a b) := by
  unfold fX7_lesser
  simp only [nI_leI hb ha]
  split
  · congr 1; omega
  · congr 1; omega
theorem q_greater {a b : Nat} (ha : a < 2 ^ 31) (hb : b < 2 ^ 31) : fX7_greater (nI a) (nI b) = nI (max a b) := by
  unfold fX7_greater
  simp only [nI_leI ha hb]
  split
  · congr 1; omega
  · congr 1; omega
theorem q_i64 (x : Int32) : x.toInt64.toInt = x.toInt := by simp
theorem q_cmp_lt (x y : Int64) : lg_cmp x y < 0 ↔ x.toInt < y.toInt := by
  unfold lg_cmp
  by_cases h : x > y
  · have h2 : y.toInt < x.toInt := Int64.lt_iff_toInt_lt.mp h
    rw [if_pos h]
    constructor
    · intro h3; exact absurd h3 (by decide)
    · intro h3; omega
  · rw [if_neg h]
    by_cases e : x = y
    · subst e
      rw [if_pos rfl]
      constructor
      · intro h3; exact absurd h3 (by decide)
      · intro h3; omega
    · rw [if_neg e]
      constructor
      · intro _
        have h2 : ¬ y.toInt < x.toInt := fun q => h (Int64.lt_iff_toInt_lt.mpr q)
        have h3 : x.toInt ≠ y.toInt := fun q => e (Int64.toInt_inj.mp q)
        omega
      · intro _; decide
theorem q_cmp_gt (x y : Int64) : 0 < lg_cmp x y ↔ y.toInt < x.toInt := by
  unfold lg_cmp
  by_cases h : x > y
  · have h2 : y.toInt < x.toInt := Int64.lt_iff_toInt_lt.mp h
    rw [if_pos h]
    exact ⟨fun _ => h2, fun _ => by decide⟩
  · rw [if_neg h]
    have h2 : ¬ y.toInt < x.toInt := fun q => h (Int64.lt_iff_toInt_lt.mpr q)
    by_cases e : x = y
    · rw [if_pos e]
      exact ⟨fun q => absurd q (by decide), fun q => absurd q h2⟩
    · rw [if_neg e]
      exact ⟨fun q => absurd q (by decide), fun q => absurd q h2⟩
theorem q_cmp_le (x y : Int64) : lg_cmp x y ≤ 0 ↔ x.toInt ≤ y.toInt := by
  have h := q_cmp_gt x y
  rw [← Int32.not_lt, h]
  omega
theorem q_cmp_eq (x y : Int64) : lg_cmp x y = 0 ↔ x = y := by
  unfold lg_cmp
  by_cases h : x > y
  · rw [if_pos h]
    have h2 : y.toInt < x.toInt := Int64.lt_iff_toInt_lt.mp h
    constructor
    · intro q; exact absurd q (by decide)
    · intro q; subst q; omega
  · rw [if_neg h]
    by_cases e : x = y
    · rw [if_pos e]; exact ⟨fun _ => e, fun _ => rfl⟩
    · rw [if_neg e]; exact ⟨fun q => absurd q (by decide), fun q => absurd q e⟩
theorem q_in (x : Int32) (lo hi : Int64) : fX7_in x.toInt64 lo hi = if lo.toInt ≤ x.toInt ∧ x.toInt ≤ hi.toInt then 1 else 0 := by
  unfold fX7_in
  simp only [q_cmp_lt, q_cmp_gt, q_i64]
  by_cases h1 : x.toInt < lo.toInt
  · rw [if_pos h1, if_neg (by omega)]
  · rw [if_neg h1]
    by_cases h2 : hi.toInt < x.toInt
    · rw [if_pos h2, if_neg (by omega)]
    · rw [if_neg h2, if_pos (by omega)]
theorem q_pm1 {p : Nat} (h : p < 2 ^ 31) : ((nI p - 1).toInt64).toInt = (p : Int) - 1 := by
  rw [q_i64]
  cases p with
  | zero => decide
  | succ p => rw [nI_pred, nI_toInt (by omega)]; omega
theorem q_zb {c : Prop} [Decidable c] : mm_zb (if c then 1 else 0) = some (if c then 1 else 0) := by
  unfold mm_zb
  split <;> simp
theorem q_isPerson {N : mm_M} {p : Nat} {x : Int32} (h : N 0 7 = nI p) (hp : p < 2 ^ 31) : fX7_isPerson x N = some (if 0 ≤ x.toInt ∧ x.toInt < p then 1 else 0) := by
  unfold fX7_isPerson
  rw [h, q_in, q_pm1 hp, q_zb]
  simp only [Option.bind_some]
  rw [show ((0 : Int64).toInt) = 0 by decide]
  congr 1
  by_cases c : 0 ≤ x.toInt ∧ x.toInt < p
  · rw [if_pos c, if_pos (by omega)]
  · rw [if_neg c, if_neg (by omega)]
theorem q_isWord {N : mm_M} {p : Nat} {x : Int32} (h : N 0 9 = nI p) (hp : p < 2 ^ 31) : fX7_isWord x N = some (if 0 ≤ x.toInt ∧ x.toInt < p then 1 else 0) := by
  unfold fX7_isWord
  rw [h, q_in, q_pm1 hp, q_zb]
  simp only [Option.bind_some]
  rw [show ((0 : Int64).toInt) = 0 by decide]
  congr 1
  by_cases c : 0 ≤ x.toInt ∧ x.toInt < p
  · rw [if_pos c, if_pos (by omega)]
  · rw [if_neg c, if_neg (by omega)]
theorem q_isPersonN {N : mm_M} {p a : Nat} (h : N 0 7 = nI p) (hp : p < 2 ^ 31) (ha : a < 2 ^ 31) : fX7_isPerson (nI a) N = some (if a < p then 1 else 0) := by
  rw [q_isPerson h hp, nI_toInt ha]
  congr 1
  by_cases c : a < p
  · rw [if_pos c, if_pos (by omega)]
  · rw [if_neg c, if_neg (by omega)]
theorem q_isOutside {x : Int32} {b : Nat} (hb : b < 2 ^ 31) : fX6_isOutside x (nI b) = if 0 ≤ x.toInt ∧ x.toInt < b then 0 else 1 := by
  unfold fX6_isOutside
  have e0 : (0 : Int32).toInt = 0 := by decide
  simp only [Int32.lt_iff_toInt_lt, e0, nI_toInt hb]
  by_cases h1 : x.toInt < 0
  · rw [if_pos h1, if_neg (by omega)]
  · rw [if_neg h1]
    by_cases h2 : x.toInt < b
    · rw [if_pos h2, if_pos (by omega)]
    · rw [if_neg h2, if_neg (by omega)]
theorem q_outN {a b : Nat} (ha : a < 2 ^ 31) (hb : b < 2 ^ 31) : fX6_isOutside (nI a) (nI b) = if a < b then 0 else 1 := by
  rw [q_isOutside hb, nI_toInt ha]
  by_cases c : a < b
  · rw [if_pos c, if_pos (by omega)]
  · rw [if_neg c, if_neg (by omega)]
theorem q_10 : ¬ (1 : Int32) = 0 := by decide
theorem q_if10 {α : Type} {c : Prop} [Decidable c] {a b : α} : (if (if c then (1 : Int32) else 0) = 0 then a else b) = if c then b else a := by
  by_cases h : c
  · rw [if_pos h, if_pos h, if_neg q_10]
  · rw [if_neg h, if_neg h, if_pos rfl]
theorem q_if01 {α : Type} {c : Prop} [Decidable c] {a b : α} : (if (if c then (0 : Int32) else 1) = 0 then a else b) = if c then a else b := by
  by_cases h : c
  · rw [if_pos h, if_pos h, if_pos rfl]
  · rw [if_neg h, if_neg h, if_neg q_10]
theorem q_sub1 (x : Int32) : x - 1 = x + (-1) := by rw [Int32.sub_eq_add_neg]
