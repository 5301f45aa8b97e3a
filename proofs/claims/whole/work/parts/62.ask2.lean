/-! ask: the reference's half -/
theorem ak_bits (C : Nat → Bool) : ∀ f i s j, i + f ≤ 32 → j < 32 → bt (md_fold (fun v s => if C v = true then s ||| ((1 : Int32) <<< (nI v &&& 31)) else s) f i s) j = (bt s j || (decide (i ≤ j ∧ j < i + f) && C j))
  | 0, i, s, j, hi, hj => by
    rw [md_fold]
    have : decide (i ≤ j ∧ j < i + 0) = false := decide_eq_false (by omega)
    rw [this, Bool.false_and, Bool.or_false]
  | f + 1, i, s, j, hi, hj => by
    rw [md_fold, ak_bits C f (i + 1) _ j (by omega) hj]
    have e : bt (if C i = true then s ||| ((1 : Int32) <<< (nI i &&& 31)) else s) j = (bt s j || (decide (j = i) && C i)) := by
      by_cases c : C i = true
      · rw [if_pos c, q_set (by omega) hj, c, Bool.and_true]
      · rw [if_neg c]
        simp [c]
    rw [e]
    by_cases c : j = i
    · subst c
      have a1 : ¬ (j + 1 ≤ j ∧ j < j + 1 + f) := by omega
      have a2 : j ≤ j ∧ j < j + (f + 1) := by omega
      simp [a1, a2]
    · have a : (i + 1 ≤ j ∧ j < i + 1 + f) ↔ (i ≤ j ∧ j < i + (f + 1)) := by omega
      simp [c, a]
theorem ak_lent {S : md_T} {w v : Nat} (h1 : 1 ≤ v) (h2 : v ≤ 9) : bt (mq_lent S w) v = ak_C S w v := by
  have e := ak_bits (fun v => mq_co S (md_up (pa_T S) 5 w v) (st_A S)) 9 1 0 v (by omega) (by omega)
  unfold mq_lent ak_C
  rw [e, b_0]
  have a : 1 ≤ v ∧ v < 1 + 9 := by omega
  simp [a]
def ak_P (S : md_T) (w d a : Nat) : Nat → Bool := fun b => ak_C S w a && (ak_C S w b && (ak_L S w a d == ak_L S w b d))
theorem ak_in_L {S : md_T} (ho : st_o S) {w d a : Nat} {N : mm_M} {x3 : Int32} (hw : w < pa_T S 0 3) (ht : NT S w 10 N) (hd : d < 24) (h1 : 1 ≤ a) (h2 : a ≤ 9) (k : Int32 → Option Int32) : ∀ f m n, m + f = 9 → f < n → fX7_alike_L18 (mq_lent S w) (nI d) x3 (nI a) N k n (nI (ak_c (ak_P S w d a) m)) (nI (m + 1)) = k (nI (ak_c (ak_P S w d a) 9))
  | 0, m, n + 1, hm, hn => by rw [fX7_alike_L18, if_pos (by rw [q_lit 10, nI_leI (by omega) (by omega)]; omega), show m = 9 by omega]
  | f + 1, m, n + 1, hm, hn => by
    have ih := ak_in_L (x3 := x3) ho hw ht hd h1 h2 k f (m + 1) n (by omega) (by omega)
    have la := ak_L9 ho hw h1 h2 d
    have lb := ak_L9 ho hw (show 1 ≤ m + 1 by omega) (by omega) d
    have ea : N 20 (24 * a + d) = nI (ak_L S w a d) := ht a h1 (by omega) d hd
    have eb : N 20 (24 * (m + 1) + d) = nI (ak_L S w (m + 1) d) := ht (m + 1) (by omega) (by omega) d hd
    rw [fX7_alike_L18, if_neg (by rw [q_lit 10, nI_leI (by omega) (by omega)]; omega), q_isIn (by omega), q_isIn (by omega), ak_lent h1 h2, ak_lent (show 1 ≤ m + 1 by omega) (by omega), q_if10, q_if10, q_add0', nI_1, nI_1, q_lit 24, pk_mul, pk_mul, nI_add, nI_add, q_rd (by omega) (by omega), Option.bind_some, q_rd (by omega) (by omega), Option.bind_some, ea, eb]
    rw [ak_c] at ih
    by_cases c1 : ak_C S w a = true
    · by_cases c2 : ak_C S w (m + 1) = true
      · rw [if_pos c1, if_pos c2]
        by_cases c3 : ak_L S w a d = ak_L S w (m + 1) d
        · rw [if_pos (by rw [c3])]
          rw [if_pos (by simp [ak_P, c1, c2, c3])] at ih
          exact ih
        · rw [if_neg (by rw [nI_eq (by omega) (by omega)]; exact c3)]
          rw [if_neg (by simp [ak_P, c3])] at ih
          exact ih
      · rw [if_pos c1, if_neg c2]
        rw [if_neg (by simp [ak_P, c2])] at ih
        exact ih
    · rw [if_neg c1]
      rw [if_neg (by simp [ak_P, c1])] at ih
      exact ih
theorem ak_out_L {S : md_T} (ho : st_o S) {w d : Nat} {N : mm_M} (hw : w < pa_T S 0 3) (ht : NT S w 10 N) (hd : d < 24) : ∀ f a n s, a + f = 10 → f < n → 1 ≤ a → s ≤ 9 → fX7_alike_L5 (mq_lent S w) (nI d) N n (nI s) (nI a) = some (nI (ak_x (fun a => ak_c (ak_P S w d a) 9) f a s))
  | 0, a, n + 1, s, ha, hn, h1, hs => by rw [fX7_alike_L5, if_pos (by rw [q_lit 10, nI_leI (by omega) (by omega)]; omega)]; rfl
  | f + 1, a, n + 1, s, ha, hn, h1, hs => by
    have hle := ak_le (ak_P S w d a) 9
    rw [fX7_alike_L5, if_neg (by rw [q_lit 10, nI_leI (by omega) (by omega)]; omega)]
    have e := ak_in_L (x3 := nI s) ho hw ht hd h1 (by omega) (fun z8 => fX7_alike_L5 (mq_lent S w) (nI d) N n (fX7_greater z8 (nI s)) (nI a + 1)) 9 0 1000 (by omega) (by omega)
    have e : fX7_alike_L18 (mq_lent S w) (nI d) (nI s) (nI a) N (fun z8 => fX7_alike_L5 (mq_lent S w) (nI d) N n (fX7_greater z8 (nI s)) (nI a + 1)) 1000 0 1 = _ := e
    rw [e, q_greater (by omega) (by omega), nI_1, ak_out_L ho hw ht hd f (a + 1) n _ (by omega) (by omega) (by omega) (by omega)]
    congr 2
    show _ = ak_x (fun a => ak_c (ak_P S w d a) 9) f (a + 1) (max s (ak_c (ak_P S w d a) 9))
    congr 1
    omega
theorem ak_same {S : md_T} (ho : st_o S) {w d : Nat} (hw : w < pa_T S 0 3) : ak_x (fun a => ak_c (ak_P S w d a) 9) 9 1 0 = ak_K S w d := by
  obtain ⟨a1, a2, a3⟩ := ak_x_spec (fun a => ak_c (ak_P S w d a) 9) 9 1 0
  obtain ⟨b1, b2, b3⟩ := ak_x_spec (fun l => ak_n S w d l 9) 10 0 0
  have key : ∀ a, ak_C S w a = true → ak_c (ak_P S w d a) 9 = ak_n S w d (ak_L S w a d) 9 := by
    intro a ha
    unfold ak_n
    refine ak_congr 9 (fun v _ _ => ?_)
    unfold ak_P
    rw [ha, Bool.true_and]
    congr 1
    exact Bool.beq_comm
  unfold ak_K
  apply Nat.le_antisymm
  · rcases a3 with h | ⟨a, p, q, h⟩
    · omega
    · rw [h]
      by_cases c : ak_C S w a = true
      · show ak_c (ak_P S w d a) 9 ≤ _
        rw [key a c]
        have l9 := ak_L9 ho hw p (show a ≤ 9 by omega) d
        exact b2 (ak_L S w a d) (by omega) (by omega)
      · show ak_c (ak_P S w d a) 9 ≤ _
        rw [ak_none 9 (fun v _ _ => by simp [ak_P, c])]
        omega
  · rcases b3 with h | ⟨l, p, q, h⟩
    · omega
    · rw [h]
      by_cases c : 0 < ak_n S w d l 9
      · obtain ⟨v, v1, v2, v3⟩ := ak_pos _ 9 c
        simp only [Bool.and_eq_true, beq_iff_eq] at v3
        have := a2 v v1 (by omega)
        have e := key v v3.1
        rw [v3.2] at e
        show ak_n S w d l 9 ≤ _
        rw [← e]
        exact this
      · omega
theorem ak_alike {S : md_T} (ho : st_o S) {w d : Nat} {N : mm_M} (hw : w < pa_T S 0 3) (ht : NT S w 10 N) (hd : d < 24) : fX7_alike (mq_lent S w) (nI d) N = some (nI (ak_K S w d)) := by
  unfold fX7_alike
  rw [q_lit 0, q_lit 1, ak_out_L ho hw ht hd 9 1 1000 0 (by omega) (by omega) (by omega) (by omega), ak_same ho hw]
theorem ak_askOf_L {S : md_T} (ho : st_o S) {w : Nat} {N : mm_M} (hw : w < pa_T S 0 3) (ht : NT S w 10 N) : ∀ f d n b, d + f = 24 → f < n → b < 24 → fX7_askOf_L11 (mq_lent S w) N n (nI b) (nI d) = some (nI (mq_ask S w f d b), N)
  | 0, d, n + 1, b, hd, hn, hb => by rw [fX7_askOf_L11, if_pos (by rw [q_lit 24, nI_leI (by omega) (by omega)]; omega)]; rfl
  | f + 1, d, n + 1, b, hd, hn, hb => by
    have k1 := ak_K9 S w b
    have k2 := ak_K9 S w d
    rw [fX7_askOf_L11, if_neg (by rw [q_lit 24, nI_leI (by omega) (by omega)]; omega), ak_alike ho hw ht (by omega), Option.bind_some, ak_alike ho hw ht hb, Option.bind_some, nI_1]
    have e : mq_ask S w (f + 1) d b = mq_ask S w f (d + 1) (if ak_K S w b ≤ ak_K S w d then b else d) := rfl
    rw [e]
    by_cases c : ak_K S w b ≤ ak_K S w d
    · have c' : nI (ak_K S w b) ≤ nI (ak_K S w d) := (nI_leI (by omega) (by omega)).mpr c
      simp only [if_pos c', if_pos c]
      exact ak_askOf_L ho hw ht f (d + 1) n b (by omega) (by omega) hb
    · have c' : ¬ nI (ak_K S w b) ≤ nI (ak_K S w d) := fun h => c ((nI_leI (by omega) (by omega)).mp h)
      simp only [if_neg c', if_neg c]
      exact ak_askOf_L ho hw ht f (d + 1) n d (by omega) (by omega) (by omega)
theorem rq_ask {S : md_T} {N : mm_M} (ho : st_o S) (h : RQ S N) {k : Nat} (hw : k < pa_T S 0 3) : ∃ N', fX7_askOf (nI k) N = some (nI (mq_ask S k 23 1 0), N') ∧ RW N N' ∧ RQ S N' := by
  obtain ⟨N1, e1, e2, e3, e4⟩ := rq_lent ho h hw
  refine ⟨N1, ?_, e2, e3⟩
  unfold fX7_askOf
  rw [e1, Option.bind_some, q_lit 0, q_lit 1]
  exact ak_askOf_L ho hw e4 23 1 1000 0 (by omega) (by omega) (by omega)
theorem op_ask {M N : mm_M} (h : Rel M N) (x : Int32) : AG (fX6_ask x M) (fX7_ask x N) := by
  obtain ⟨S, ho, hc, hn, hk, hx⟩ := h
  obtain ⟨N1, f1, f2, f3⟩ := rl_find ho hn
  have o1 := (st_ok ho).2.1
  by_cases c : 0 ≤ x.toInt ∧ x.toInt < ((pa_T S 0 3 : Nat) : Int)
  · obtain ⟨k, hw, rfl⟩ := q_of c.1 c.2 (by omega)
    obtain ⟨N2, g1, g2, g3⟩ := rq_ask ho f3.1 hw
    refine ag_of ho hn hx (cr_ask ho hc hk hw) ⟨N2, ?_, f2.tr g2⟩
    unfold fX7_ask
    rw [f1, Option.bind_some, q_isWord f3.1.2.2.1 (by omega)]
    simp only [Option.bind_some, q_if10, if_pos c, if_neg q_10, g1]
  · unfold fX6_ask fX7_ask
    rw [f1, Option.bind_some, q_isWord f3.1.2.2.1 (by omega), hc.2.1.2.1, q_isOutside (by omega)]
    simp only [Option.bind_some, q_if10, q_if01, if_neg c]
    exact ag_of ho hn hx (cr_rf hc hk) (nr_of f2)
