theorem co_one_L {O : Nat → Int32} {M : mm_M} (h : ∀ k, k < 8 → M 54 k = O k) (x : Int32) : ∀ f i n s, i + f = 8 → f < n → fX1_oneDebtOn_L4 42 x M n s (nI i) = some (rg_o O x f s)
  | 0, i, n + 1, s, hi, hn => by rw [fX1_oneDebtOn_L4, if_pos (by rw [q_lit 8, nI_leI (by omega) (by omega)]; omega)]; rfl
  | f + 1, i, n + 1, s, hi, hn => by
    have e : 7 - f = i := by omega
    rw [fX1_oneDebtOn_L4, if_neg (by rw [q_lit 8, nI_leI (by omega) (by omega)]; omega), q_rd (by omega) (by omega), Option.bind_some, nI_1, co_one_L h x f (i + 1) n _ (by omega) (by omega), co_one_L h x f (i + 1) n _ (by omega) (by omega), rg_o, e, show M (42 + 12) i = O i from h i (by omega)]
    cases c : bt x i with
    | false => rw [if_pos ((q_bt (by omega)).mpr c), if_neg (by decide)]
    | true => rw [if_neg (fun q => by rw [(q_bt (by omega)).mp q] at c; cases c), if_pos rfl]
theorem co_one {O : Nat → Int32} {M : mm_M} (h : ∀ k, k < 8 → M 54 k = O k) (x : Int32) : fX1_oneDebtOn 42 x M = some (rg_o O x 8 0) := co_one_L h x 8 0 1000 0 (by omega) (by omega)
theorem rg_one (O : Nat → Int32) {k : Nat} (hk : k < 8) : rg_o O ((1 : Int32) <<< (nI k &&& 31)) 8 0 = O k := by
  apply b_ext
  intro j hj
  rw [Bool.eq_iff_iff, rg_o_bt O _ j 8 _ (by omega)]
  constructor
  · rintro (h | ⟨i, -, b, p, q⟩)
    · rw [b_0] at h; cases h
    · rw [q_one (by omega) (by omega)] at p
      have : i = k := by simpa using p
      rw [this] at q; exact q
  · intro h
    exact Or.inr ⟨k, by omega, hk, by rw [q_one (by omega) (by omega)]; simp, h⟩
def rg_r (O : Nat → Int32) (k : Nat) : Nat := md_fst (fun n => bt (rg_X O k n) k) 8 0
theorem co_st_L {O : Nat → Int32} {M : mm_M} (h : ∀ k, k < 8 → M 54 k = O k) {k : Nat} (hk : k < 8) : ∀ f i n x, i + f = 8 → f < n → rg_o O x 8 0 = rg_X O k i → fX1_stepsAround_L6 42 (nI k) M n x (nI (i + 1)) = some (if md_fst (fun n => bt (rg_X O k n) k) f i < 8 then nI (md_fst (fun n => bt (rg_X O k n) k) f i + 1) else -1)
  | 0, i, n + 1, x, hi, hn, e => by
    rw [fX1_stepsAround_L6, if_pos (by rw [q_lit 8, nI_ltI (by omega) (by omega)]; omega), md_fst, if_neg (by omega)]
  | f + 1, i, n + 1, x, hi, hn, e => by
    rw [fX1_stepsAround_L6, if_neg (by rw [q_lit 8, nI_ltI (by omega) (by omega)]; omega), co_one h, Option.bind_some, e, nI_1, co_st_L h hk f (i + 1) n (rg_X O k i) (by omega) (by omega) rfl, md_fst]
    cases c : bt (rg_X O k i) k with
    | false =>
      rw [if_pos ((q_bt (by omega)).mpr c)]
      rfl
    | true => rw [if_neg (fun q => by rw [(q_bt (by omega)).mp q] at c; cases c), if_pos rfl, if_pos (by omega)]
theorem co_st {O : Nat → Int32} {M : mm_M} (h : ∀ k, k < 8 → M 54 k = O k) {k : Nat} (hk : k < 8) : fX1_stepsAround 42 (nI k) M = some (if rg_r O k < 8 then nI (rg_r O k + 1) else -1) := co_st_L h hk 8 0 1000 _ (by omega) (by omega) (rg_one O hk)
theorem ro_one_L {O : Nat → Int32} {N : mm_M} (h : ∀ k, k < 8 → N 18 k = O k) (x x1 x3 : Int32) (k : Int32 → Option Int32) : ∀ f i n s, i + f = 8 → f < n → fX7_ringWith_L29 x1 x x3 N k n s (nI i) = k (rg_o O x f s)
  | 0, i, n + 1, s, hi, hn => by rw [fX7_ringWith_L29, if_pos (by rw [q_lit 8, nI_leI (by omega) (by omega)]; omega)]; rfl
  | f + 1, i, n + 1, s, hi, hn => by
    have e : 7 - f = i := by omega
    rw [fX7_ringWith_L29, if_neg (by rw [q_lit 8, nI_leI (by omega) (by omega)]; omega), q_rd (by omega) (by omega), Option.bind_some, nI_1, ro_one_L h x x1 x3 k f (i + 1) n _ (by omega) (by omega), ro_one_L h x x1 x3 k f (i + 1) n _ (by omega) (by omega), rg_o, e, h i (by omega), q_isIn (by omega), q_if10, q_or0']
    by_cases c : bt x i = true
    · rw [if_pos c, if_pos c]
    · rw [if_neg c, if_neg c]
theorem ro_st_L {O : Nat → Int32} {N : mm_M} (h : ∀ k, k < 8 → N 18 k = O k) {k : Nat} (hk : k < 8) : ∀ f i n, i + f = 8 → f < n → fX7_ringWith_L9 (nI k) N n (rg_U O k i) (nI (i + 1)) = some (nI (md_fst (fun n => bt (rg_U O k n) k) f i + 1))
  | 0, i, n + 1, hi, hn => by
    rw [fX7_ringWith_L9, q_isIn (by omega), q_if10, if_pos (show (9 : Int32) ≤ nI (i + 1) by rw [q_lit 9, nI_leI (by omega) (by omega)]; omega), md_fst]
    split <;> rfl
  | f + 1, i, n + 1, hi, hn => by
    rw [fX7_ringWith_L9, q_isIn (by omega), q_if10, if_neg (show ¬ (9 : Int32) ≤ nI (i + 1) by rw [q_lit 9, nI_leI (by omega) (by omega)]; omega), q_lit 0, ro_one_L h _ _ _ _ 8 0 1000 _ (by omega) (by omega), nI_1, md_fst]
    have ih := ro_st_L h hk f (i + 1) n (by omega) (by omega)
    rw [rg_U] at ih
    by_cases c : bt (rg_U O k i) k = true
    · rw [if_pos c, if_pos c]
    · rw [if_neg c, if_neg c]; exact ih
theorem ro_st {O : Nat → Int32} {N : mm_M} (h : ∀ k, k < 8 → N 18 k = O k) {k : Nat} (hk : k < 8) : fX7_ringWith (nI k) N = some (nI (rg_r O k + 1)) := by
  unfold fX7_ringWith rg_r
  rw [q_rd (by omega) (by omega), Option.bind_some, h k hk, ← rg_fst]
  exact ro_st_L h hk 8 0 1000 (by omega) (by omega)
