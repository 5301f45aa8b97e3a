/-! copy -/
theorem q_has {M : mm_M} {r z : Nat} (h : M r 2 = nI z) (hz : z ≤ 60) (x n : Int32) : fX3_hasItems r x n M = if 0 ≤ x.toInt ∧ 0 ≤ n.toInt ∧ x.toInt + n.toInt ≤ (z : Int) then 1 else 0 := by
  unfold fX3_hasItems
  rw [h]
  have e0 : (0 : Int32).toInt = 0 := by decide
  have ez := nI_toInt (n := z) (by omega)
  by_cases c1 : x < 0
  · rw [if_pos c1, if_neg]
    rw [Int32.lt_iff_toInt_lt] at c1
    omega
  · rw [if_neg c1]
    by_cases c2 : n < 0
    · rw [if_pos c2, if_neg]
      rw [Int32.lt_iff_toInt_lt] at c2
      omega
    · rw [if_neg c2]
      rw [Int32.lt_iff_toInt_lt] at c1 c2
      by_cases c3 : nI z < x
      · rw [if_pos c3, if_neg]
        rw [Int32.lt_iff_toInt_lt] at c3
        omega
      · rw [if_neg c3]
        rw [Int32.lt_iff_toInt_lt] at c3
        obtain ⟨a, ha, rfl⟩ := q_of (x := x) (n := 61) (by omega) (by omega) (by omega)
        have ea := nI_toInt (n := a) (by omega)
        have es : nI z - nI a = nI (z - a) := by
          rw [show nI z = nI ((z - a) + a) by rw [show z - a + a = z by omega], ← nI_add]
          exact Int32.add_sub_cancel _ _
        have ed := nI_toInt (n := z - a) (by omega)
        rw [es]
        by_cases c4 : nI (z - a) < n
        · rw [if_pos c4, if_neg]
          rw [Int32.lt_iff_toInt_lt] at c4
          omega
        · rw [if_neg c4, if_pos]
          rw [Int32.lt_iff_toInt_lt] at c4
          omega
theorem q_l64 (x y : Int32) : (x.toInt64 + y.toInt64).toInt = x.toInt + y.toInt := by
  have hx := x.toInt_lt
  have hx' := x.le_toInt
  have hy := y.toInt_lt
  have hy' := y.le_toInt
  rw [Int64.toInt_add, q_i64, q_i64]
  apply Int.bmod_eq_of_le <;> omega
theorem cn1_L {s1 a n : Nat} {x3 x4 : Int32} (k : mm_M → Option (Int32 × mm_M)) (hs : s1 < 4) (ha : a + n ≤ 60) : ∀ f i m (N : mm_M), i + f = n → f < m → ∃ N', fX7_copy_L120 (nI s1) (nI a) x3 x4 (nI n) k m (nI i) N = k N' ∧ (∀ q, q ≠ 4 → N' q = N q) ∧ (∀ j, j < i → N' 4 j = N 4 j) ∧ ∀ j, i ≤ j → j < n → N' 4 j = N 3 (60 * s1 + a + j)
  | 0, i, m + 1, N, hi, hm => ⟨N, by rw [fX7_copy_L120, if_pos (by rw [nI_leI (by omega) (by omega)]; omega)], fun _ _ => rfl, fun _ _ => rfl, fun j a b => by omega⟩
  | f + 1, i, m + 1, N, hi, hm => by
    obtain ⟨N', e1, e2, e3, e4⟩ := cn1_L (x3 := x3) (x4 := x4) k hs ha f (i + 1) m (mm_wr N 4 i (N 3 (60 * s1 + a + i))) (by omega) (by omega)
    refine ⟨N', ?_, fun q hq => by rw [e2 q hq, q_wr_ne hq], fun j hj => by rw [e3 j (by omega), q_wr_n2 (by omega)], fun j u v => ?_⟩
    · rw [fX7_copy_L120, if_neg (by rw [nI_leI (by omega) (by omega)]; omega), q_lit 60, pk_mul, nI_add, nI_add, q_rd (by omega) (by omega), Option.bind_some, q_wa (by omega) (by omega), Option.bind_some, q_lit 1, nI_add]
      exact e1
    · by_cases c : j = i
      · rw [c, e3 i (by omega), q_wr_eq]
      · rw [e4 j (by omega) v, q_wr_ne (by decide)]
theorem cn2_L {s3 b n : Nat} (hs : s3 < 4) (hb : b + n ≤ 60) : ∀ f i m (N : mm_M), i + f = n → f < m → ∃ N', fX7_copy_L157 (nI s3) (nI b) (nI n) m (nI i) N = some (1, N') ∧ (∀ q, q ≠ 3 → N' q = N q) ∧ (∀ j, j < 60 * s3 + b + i ∨ 60 * s3 + b + n ≤ j → N' 3 j = N 3 j) ∧ ∀ j, i ≤ j → j < n → N' 3 (60 * s3 + b + j) = N 4 j
  | 0, i, m + 1, N, hi, hm => ⟨N, by rw [fX7_copy_L157, if_pos (by rw [nI_leI (by omega) (by omega)]; omega)], fun _ _ => rfl, fun _ _ => rfl, fun j a b => by omega⟩
  | f + 1, i, m + 1, N, hi, hm => by
    obtain ⟨N', e1, e2, e3, e4⟩ := cn2_L hs hb f (i + 1) m (mm_wr N 3 (60 * s3 + b + i) (N 4 i)) (by omega) (by omega)
    refine ⟨N', ?_, fun q hq => by rw [e2 q hq, q_wr_ne hq], fun j hj => by rw [e3 j (by omega), q_wr_n2 (by omega)], fun j u v => ?_⟩
    · rw [fX7_copy_L157, if_neg (by rw [nI_leI (by omega) (by omega)]; omega), q_rd (by omega) (by omega), Option.bind_some, q_lit 60, pk_mul, nI_add, nI_add, q_wa (by omega) (by omega), Option.bind_some, q_lit 1, nI_add]
      exact e1
    · by_cases c : j = i
      · rw [c, e3 _ (by omega), q_wr_eq]
      · rw [e4 j (by omega) v, q_wr_ne (by decide)]
theorem op_copy {M N : mm_M} (h : Rel M N) (x1 x2 x3 x4 x5 : Int32) : AG (fX6_copy x1 x2 x3 x4 x5 M) (fX7_copy x1 x2 x3 x4 x5 N) := by
  obtain ⟨S, ho, hc, hn, hk, hx⟩ := id h
  have bad : ∀ r : Int32, AG (some (r, M)) (some (r, N)) := fun r => ⟨r, M, N, rfl, rfl, h⟩
  unfold fX6_copy fX7_copy
  rw [q_isSheet, q_isSheet, q_lit 4, q_isOutside (by omega), q_isOutside (by omega)]
  simp only [Option.bind_some, q_if10, q_if01]
  refine ag_if (fun c1 => ag_if (fun c2 => ?_) (fun _ => bad _)) (fun _ => bad _)
  obtain ⟨s, hs, rfl⟩ := q_of c1.1 c1.2 (by omega)
  obtain ⟨t, ht, rfl⟩ := q_of c2.1 c2.2 (by omega)
  rw [q_raS hs, q_raS ht, q_rd (by omega) (by omega), q_rd (by omega) (by omega), q_rd (by omega) (by omega), q_rd (by omega) (by omega)]
  simp only [Option.bind_some]
  obtain ⟨k1, k2⟩ := hx.2 s hs
  obtain ⟨l1, l2⟩ := hx.2 t ht
  unfold fX3_isLost
  rw [k1, l1]
  have e0 : (0 : Int32).toInt = 0 := by decide
  rcases k2 with k | ⟨f, z, hf, hz, e1, e2, e3, e4⟩
  · rw [k, if_pos rfl, if_neg q_10, if_pos (show (-1 : Int32) < 0 by decide)]
    exact ag_fd h _
  · rw [e1, if_neg (q_m1 (a := f) (by omega)), if_pos rfl, if_neg (nI_pos (n := f) (by omega))]
    rcases l2 with k | ⟨g, y, hg, hy, g1, g2, g3, g4⟩
    · rw [k, if_pos rfl, if_neg q_10, if_neg (show ¬ (0 : Int32) ≤ -1 by decide)]
      exact ag_fd h _
    · rw [g1, if_neg (q_m1 (a := g) (by omega)), if_pos rfl, if_pos (nI_pos' (n := g) (by omega))]
      refine ag_if (fun cf => ?_) (fun _ => ag_fd h _)
      rw [q_has e2 hz, q_has g2 hy, e3, g3, q_if10, q_if10]
      by_cases d1 : x2 < 0
      · rw [if_pos d1, if_neg (by rw [Int32.lt_iff_toInt_lt] at d1; omega)]; exact ag_fd h _
      · rw [if_neg d1]
        by_cases d2 : x4 < 0
        · rw [if_pos d2]
          by_cases u : 0 ≤ x2.toInt ∧ 0 ≤ x5.toInt ∧ x2.toInt + x5.toInt ≤ (z : Int)
          · rw [if_pos u, if_neg (by rw [Int32.lt_iff_toInt_lt] at d2; omega)]; exact ag_fd h _
          · rw [if_neg u]; exact ag_fd h _
        · rw [if_neg d2]
          by_cases d3 : x5 < 0
          · rw [if_pos d3, if_neg (by rw [Int32.lt_iff_toInt_lt] at d3; omega)]; exact ag_fd h _
          · rw [if_neg d3]
            rw [Int32.lt_iff_toInt_lt] at d1 d2 d3
            have ez := nI_toInt (n := z) (by omega)
            have ey := nI_toInt (n := y) (by omega)
            by_cases d4 : x2.toInt + x5.toInt ≤ (z : Int)
            · rw [if_pos (show 0 ≤ x2.toInt ∧ 0 ≤ x5.toInt ∧ x2.toInt + x5.toInt ≤ (z : Int) by omega), if_neg (show ¬ 0 < lg_cmp (x2.toInt64 + x5.toInt64) (nI z).toInt64 by rw [q_cmp_gt, q_l64, q_i64]; omega)]
              by_cases d5 : x4.toInt + x5.toInt ≤ (y : Int)
              · rw [if_pos (show 0 ≤ x4.toInt ∧ 0 ≤ x5.toInt ∧ x4.toInt + x5.toInt ≤ (y : Int) by omega), if_pos (show lg_cmp (x4.toInt64 + x5.toInt64) (nI y).toInt64 ≤ 0 by rw [q_cmp_le, q_l64, q_i64]; omega)]
                obtain ⟨a, ha, rfl⟩ := q_of (x := x2) (n := 61) (by omega) (by omega) (by omega)
                obtain ⟨b, hb, rfl⟩ := q_of (x := x4) (n := 61) (by omega) (by omega) (by omega)
                obtain ⟨n, hn5, rfl⟩ := q_of (x := x5) (n := 61) (by omega) (by omega) (by omega)
                rw [nI_toInt (by omega), nI_toInt (by omega)] at d4 d5
                obtain ⟨N1, a1, a2, a3, a4⟩ := cn1_L (x3 := nI t) (x4 := nI b) (fun M27 => fX7_copy_L157 (nI t) (nI b) (nI n) 1000 0 M27) hs (show a + n ≤ 60 by omega) n 0 1000 N (by omega) (by omega)
                obtain ⟨N2, b1, b2, b3, b4⟩ := cn2_L ht (show b + n ≤ 60 by omega) n 0 1000 N1 (by omega) (by omega)
                rw [q_cp (by omega) (by omega) (by omega) (by omega), Option.bind_some]
                refine ⟨1, _, N2, rfl, a1.trans b1, rel_sh (M := M) (N := N) ho hc hn hk (fun q hq => q_up_ne (by omega)) (fun j hj => by rw [q_up_ne (by omega)]) (fun q hq => by rw [b2 q (by omega), a2 q (by omega)]) (fun j hj => by rw [b2 0 (by omega), a2 0 (by omega)]) (hx.put (s0 := t) ?_ (fun u hu hut => ⟨q_up_ne (by omega), q_up_ne (by omega)⟩) (fun u hu hut => ⟨by rw [b2 1 (by omega), a2 1 (by omega)], by rw [b2 2 (by omega), a2 2 (by omega)], fun i hi => by rw [b3 _ (by omega), a2 3 (by omega)]⟩) ⟨?_, Or.inr ⟨g, y, hg, hy, ?_, ?_, ?_, fun i hi => ?_⟩⟩)⟩
                · rw [q_up_ne (by omega), b2 0 (by omega), a2 0 (by omega)]; exact hx.1
                · rw [q_up_ne (by omega), b2 1 (by omega), a2 1 (by omega)]; exact l1
                · rw [b2 1 (by omega), a2 1 (by omega)]; exact g1
                · rw [q_up_ne (by omega)]; exact g2
                · rw [b2 2 (by omega), a2 2 (by omega)]; exact g3
                · rw [q_up_eq]
                  unfold va_cpy
                  by_cases u : b ≤ i ∧ i < b + n
                  · rw [if_pos u, show 60 * t + i = 60 * t + b + (i - b) by omega, b4 (i - b) (by omega) (by omega), a4 (i - b) (by omega) (by omega), e4 _ (by omega), show 60 * s + a + (i - b) = 60 * s + (a + (i - b)) by omega]
                  · rw [if_neg u, b3 _ (by omega), a2 3 (by omega)]; exact g4 i hi
              · rw [if_neg (show ¬ (0 ≤ x4.toInt ∧ 0 ≤ x5.toInt ∧ x4.toInt + x5.toInt ≤ (y : Int)) from fun q => d5 q.2.2), if_neg (show ¬ lg_cmp (x4.toInt64 + x5.toInt64) (nI y).toInt64 ≤ 0 by rw [q_cmp_le, q_l64, q_i64]; omega)]
                exact ag_fd h _
            · rw [if_neg (show ¬ (0 ≤ x2.toInt ∧ 0 ≤ x5.toInt ∧ x2.toInt + x5.toInt ≤ (z : Int)) from fun q => d4 q.2.2), if_pos (show 0 < lg_cmp (x2.toInt64 + x5.toInt64) (nI z).toInt64 by rw [q_cmp_gt, q_l64, q_i64]; omega)]
              exact ag_fd h _
