/-! ask: counts by what is left, the class's table -/
def ak_c (P : Nat → Bool) : Nat → Nat
  | 0 => 0
  | m + 1 => ak_c P m + (if P (m + 1) = true then 1 else 0)
theorem ak_le (P : Nat → Bool) : ∀ m, ak_c P m ≤ m
  | 0 => Nat.le_refl _
  | m + 1 => by
    have := ak_le P m
    rw [ak_c]
    split <;> omega
theorem ak_pos (P : Nat → Bool) : ∀ m, 0 < ak_c P m → ∃ v, 1 ≤ v ∧ v ≤ m ∧ P v = true
  | 0, h => absurd h (Nat.lt_irrefl _)
  | m + 1, h => by
    by_cases c : P (m + 1) = true
    · exact ⟨m + 1, by omega, by omega, c⟩
    · rw [ak_c, if_neg c] at h
      obtain ⟨v, a, b, e⟩ := ak_pos P m h
      exact ⟨v, a, by omega, e⟩
theorem ak_congr {P Q : Nat → Bool} : ∀ m, (∀ v, 1 ≤ v → v ≤ m → P v = Q v) → ak_c P m = ak_c Q m
  | 0, _ => rfl
  | m + 1, h => by
    rw [ak_c, ak_c, ak_congr m (fun v a b => h v a (by omega)), h (m + 1) (by omega) (by omega)]
theorem ak_none {P : Nat → Bool} : ∀ m, (∀ v, 1 ≤ v → v ≤ m → P v = false) → ak_c P m = 0
  | 0, _ => rfl
  | m + 1, h => by
    rw [ak_c, ak_none m (fun v a b => h v a (by omega)), h (m + 1) (by omega) (by omega)]; rfl
def ak_C (S : md_T) (w v : Nat) : Bool := mq_co S (md_up (pa_T S) 5 w v) (st_A S)
def ak_L (S : md_T) (w v d : Nat) : Nat := md_tr (md_up (pa_T S) 5 w v) (st_A S) (d + 1) 2 w
def ak_n (S : md_T) (w d l m : Nat) : Nat := ak_c (fun v => ak_C S w v && (ak_L S w v d == l)) m
theorem ak_L9 {S : md_T} (ho : st_o S) {w v : Nat} (hw : w < pa_T S 0 3) (h1 : 1 ≤ v) (h2 : v ≤ 9) (d : Nat) : ak_L S w v d ≤ 9 := by
  have hT := md_ok_up (o := 5) (j := w) (v := v) (st_ok ho) (Or.inr (Or.inr ⟨rfl, h1, h2⟩))
  exact ((md_tr_ok (E := st_A S) hT (d + 1)).1 w (by rw [md_up_ne (by omega)]; exact hw)).2.1
/-- the greatest -/
def ak_x (f : Nat → Nat) : Nat → Nat → Nat → Nat := md_fold (fun i s => max s (f i))
theorem ak_x_spec (f : Nat → Nat) : ∀ n i s, s ≤ ak_x f n i s ∧ (∀ j, i ≤ j → j < i + n → f j ≤ ak_x f n i s) ∧ (ak_x f n i s = s ∨ ∃ j, i ≤ j ∧ j < i + n ∧ ak_x f n i s = f j)
  | 0, i, s => ⟨Nat.le_refl _, fun j a b => by omega, Or.inl rfl⟩
  | n + 1, i, s => by
    obtain ⟨h1, h2, h3⟩ := ak_x_spec f n (i + 1) (max s (f i))
    have e : ak_x f (n + 1) i s = ak_x f n (i + 1) (max s (f i)) := rfl
    rw [e]
    refine ⟨by omega, fun j a b => ?_, ?_⟩
    · by_cases c : j = i
      · subst c; omega
      · exact h2 j (by omega) (by omega)
    · rcases h3 with h | ⟨j, a, b, c⟩
      · by_cases q : f i ≤ s
        · left; omega
        · right; exact ⟨i, by omega, by omega, by omega⟩
      · right; exact ⟨j, by omega, by omega, c⟩
def ak_K (S : md_T) (w d : Nat) : Nat := ak_x (fun l => ak_n S w d l 9) 10 0 0
theorem ak_K9 (S : md_T) (w d : Nat) : ak_K S w d ≤ 9 := by
  rcases (ak_x_spec (fun l => ak_n S w d l 9) 10 0 0).2.2 with h | ⟨j, a, b, h⟩
  · unfold ak_K; omega
  · unfold ak_K; rw [h]; exact ak_le _ 9
theorem ak_max {a b : Nat} (ha : a < 2 ^ 31) (hb : b < 2 ^ 31) : mm_max (nI a) (nI b) = nI (max a b) := by
  unfold mm_max
  by_cases c : a < b
  · rw [if_pos ((nI_ltI ha hb).mpr c)]; congr 1; omega
  · rw [if_neg (fun h => c ((nI_ltI ha hb).mp h))]; congr 1; omega
/-- the table behind m of the uses -/
def AT (S : md_T) (w m : Nat) (M : mm_M) : Prop := ∀ d, d < 24 → ∀ l, l < 10 → M 68 (10 * d + l) = nI (ak_n S w d l m)
theorem ak_zero {x1 : Int32} (k : mm_M → Option mm_M) : ∀ f i n (M : mm_M), i + f = 240 → f < n → ∃ M', fX6_sortByWhatIsLeft_L2 x1 k n (nI i) M = k M' ∧ (∀ q, q ≠ 68 → M' q = M q) ∧ (∀ j, j < i → M' 68 j = M 68 j) ∧ ∀ j, i ≤ j → j < 240 → M' 68 j = nI 0
  | 0, i, n + 1, M, hi, hn => ⟨M, by rw [fX6_sortByWhatIsLeft_L2, if_pos (by rw [q_lit 240, nI_leI (by omega) (by omega)]; omega)], fun _ _ => rfl, fun _ _ => rfl, fun j a b => by omega⟩
  | f + 1, i, n + 1, M, hi, hn => by
    obtain ⟨M', e1, e2, e3, e4⟩ := ak_zero (x1 := x1) k f (i + 1) n (mm_wr M 68 i 0) (by omega) (by omega)
    refine ⟨M', ?_, fun q hq => by rw [e2 q hq, q_wr_ne hq], fun j hj => by rw [e3 j (by omega), q_wr_n2 (by omega)], fun j a b => ?_⟩
    · rw [fX6_sortByWhatIsLeft_L2, if_neg (by rw [q_lit 240, nI_leI (by omega) (by omega)]; omega), q_wa (by omega) (by omega), Option.bind_some, nI_1]
      exact e1
    · by_cases c : j = i
      · rw [c, e3 i (by omega), q_wr_eq]; rfl
      · exact e4 j (by omega) b
theorem cq_at.k {r : Nat} {T : md_T} {E : Nat → Nat → Bool} {M M' : mm_M} (hf : ∀ q, r ≤ q → q ≤ r + 11 → M' q = M q) (h : cq_at r T E M) : cq_at r T E M' := by
  unfold cq_at cc_tr at h ⊢
  rw [hf r (by omega) (by omega), hf (r + 9) (by omega) (by omega), hf (r + 10) (by omega) (by omega), hf (r + 11) (by omega) (by omega)]
  exact h
theorem ak_fill {S : md_T} (ho : st_o S) {w v : Nat} (hw : w < pa_T S 0 3) (hv : v < 9) (hC : ak_C S w (v + 1) = true) (k : mm_M → Option mm_M) : ∀ f d n (M : mm_M), d + f = 24 → f < n → cq_at 55 (md_up (pa_T S) 5 w (v + 1)) (st_A S) M → (∀ e, e < 24 → ∀ l, l < 10 → M 68 (10 * e + l) = nI (ak_n S w e l (if e < d then v + 1 else v))) → ∃ M', fX6_sortByWhatIsLeft_L91 (nI w) (nI (v + 1)) k n (nI d) M = k M' ∧ (∀ q, q ≠ 68 → M' q = M q) ∧ AT S w (v + 1) M'
  | 0, d, n + 1, M, hd, hn, hq, ht => ⟨M, by rw [fX6_sortByWhatIsLeft_L91, if_pos (by rw [q_lit 24, nI_leI (by omega) (by omega)]; omega)], fun _ _ => rfl, fun e he l hl => by rw [ht e he l hl, if_pos (by omega)]⟩
  | f + 1, d, n + 1, M, hd, hn, hq, ht => by
    have o1 := (st_ok ho).2.1
    have l9 := ak_L9 ho hw (show 1 ≤ v + 1 by omega) (by omega) d
    have hle := ak_le (fun v => ak_C S w v && (ak_L S w v d == ak_L S w (v + 1) d)) v
    have hw' : w < md_up (pa_T S) 5 w (v + 1) 0 3 := by rw [md_up_ne (by omega)]; exact hw
    have el : fX1_leftBehind 55 (nI d) (nI w) M = some (nI (ak_L S w (v + 1) d)) := by
      rw [cq_left hq (by omega) (by omega), if_pos hw']; rfl
    have er := ht d (by omega) (ak_L S w (v + 1) d) (by omega)
    rw [if_neg (by omega)] at er
    have key := ak_fill ho hw hv hC k f (d + 1) n (mm_wr M 68 (10 * d + ak_L S w (v + 1) d) (nI (ak_n S w d (ak_L S w (v + 1) d) v + 1))) (by omega) (by omega) (hq.k (fun q a b => q_wr_ne (by omega))) (fun e he l hl => ?_)
    · obtain ⟨M', e1, e2, e3⟩ := key
      refine ⟨M', ?_, fun q hq => by rw [e2 q hq, q_wr_ne hq], e3⟩
      rw [fX6_sortByWhatIsLeft_L91, if_neg (by rw [q_lit 24, nI_leI (by omega) (by omega)]; omega), el, Option.bind_some, q_lit 10, q_outN (by omega) (by omega), if_pos (show ak_L S w (v + 1) d < 10 by omega), if_pos rfl, pk_mul, nI_add, show d * 10 + ak_L S w (v + 1) d = 10 * d + ak_L S w (v + 1) d by omega, q_rd (by omega) (by omega), Option.bind_some, q_wa (by omega) (by omega), Option.bind_some, er, nI_1, nI_1]
      exact e1
    · rw [q_wr]
      by_cases c : e = d ∧ l = ak_L S w (v + 1) d
      · rw [if_pos ⟨rfl, by rw [c.1, c.2]⟩, if_pos (by omega), c.1, c.2]
        unfold ak_n
        rw [ak_c]
        simp [hC]
      · rw [if_neg (fun q => c ⟨by omega, by omega⟩), ht e he l hl]
        by_cases ce : e = d
        · subst ce
          rw [if_neg (by omega), if_pos (by omega)]
          unfold ak_n
          rw [ak_c, if_neg]
          · rfl
          · simp only [Bool.and_eq_true, beq_iff_eq]
            exact fun q => c ⟨rfl, q.2.symm⟩
        · by_cases c2 : e < d
          · rw [if_pos c2, if_pos (by omega)]
          · rw [if_neg c2, if_neg (by omega)]
theorem ak_sort_L {S : md_T} {M0 : mm_M} (ho : st_o S) (hc : RC S M0) {w : Nat} (hw : w < pa_T S 0 3) : ∀ f v n (M : mm_M), v + f = 9 → f < n → CI S 5 w M0 M → AT S w v M → ∃ M', fX6_sortByWhatIsLeft_L37 (nI w) n (nI (v + 1)) M = some M' ∧ CT M0 M' ∧ AT S w 9 M'
  | 0, v, n + 1, M, hv, hn, h, ht => ⟨M, by rw [fX6_sortByWhatIsLeft_L37, if_pos (by rw [q_lit 9, nI_ltI (by omega) (by omega)]; omega)], h.1, by rw [show (9 : Nat) = v by omega]; exact ht⟩
  | f + 1, v, n + 1, M, hv, hn, h, ht => by
    have o1 := (st_ok ho).2.1
    have cl : CL S M0 := hc.2.2.2
    obtain ⟨M2, e1, e2, e3, e4⟩ := ci_try ho hc (v := v + 1) (Or.inr (Or.inr ⟨rfl, by omega, by omega⟩)) h
    have k68 : M2 68 = M 68 := by
      have ce := (show CT M0 (mm_wr M (33 + 5) w (nI (v + 1))) from h.1.tr (fun q hq => q_wr_ne (by omega))).ce (show CE S M0 from hc.2.2.1)
      obtain ⟨u, hu⟩ := h.2
      have t1 : cc_T (md_up (pa_T S) 5 w (v + 1)) 33 (mm_wr M (33 + 5) w (nI (v + 1))) := by
        have := cc_T_up (j := w) (v := v + 1) (Or.inr (Or.inr rfl)) hu
        rwa [md_up_up] at this
      obtain ⟨M3, g1, g2, -⟩ := cx_run (md_ok_up (st_ok ho) (Or.inr (Or.inr ⟨rfl, by omega, by omega⟩))) (Or.inr rfl) ho ce t1 (fX2_all (mm_wr M (33 + 5) w (nI (v + 1))))
      have e : M3 = M2 := Option.some.inj (g1.symm.trans e1)
      rw [← e, g2 68 (by omega), q_wr_ne (by decide)]
    have un : fX6_sortByWhatIsLeft_L37 (nI w) (n + 1) (nI (v + 1)) M = if ak_C S w (v + 1) = true then fX6_sortByWhatIsLeft_L91 (nI w) (nI (v + 1)) (fun M15 => fX6_sortByWhatIsLeft_L37 (nI w) n (nI (v + 1 + 1)) M15) 1000 (nI 0) M2 else fX6_sortByWhatIsLeft_L37 (nI w) n (nI (v + 1 + 1)) M2 := by
      rw [fX6_sortByWhatIsLeft_L37, if_neg (by rw [q_lit 9, nI_ltI (by omega) (by omega)]; omega), q_wa (by omega) (by omega), Option.bind_some, show (38 : Nat) = 33 + 5 from rfl, e1, Option.bind_some, cx_co ho e4 (e2.1.cl cl), Option.bind_some, q_if10, nI_1]
      rfl
    rw [un]
    by_cases c : ak_C S w (v + 1) = true
    · rw [if_pos c]
      obtain ⟨M3, g1, g2, g3⟩ := ak_fill ho hw (show v < 9 by omega) c (fun M15 => fX6_sortByWhatIsLeft_L37 (nI w) n (nI (v + 1 + 1)) M15) 24 0 1000 M2 (by omega) (by omega) e4 (fun e he l hl => by rw [k68, if_neg (by omega)]; exact ht e he l hl)
      rw [g1]
      exact ak_sort_L ho hc hw f (v + 1) n M3 (by omega) (by omega) ⟨e2.1.tr (fun q hq => g2 q (by omega)), v + 1, e3.keep (fun q a b => g2 q (by omega))⟩ g3
    · rw [if_neg c]
      refine ak_sort_L ho hc hw f (v + 1) n M2 (by omega) (by omega) e2 (fun e he l hl => ?_)
      rw [k68, ht e he l hl]
      unfold ak_n
      rw [ak_c, if_neg]
      · rfl
      · simp only [Bool.and_eq_true]
        exact fun q => c q.1
theorem ak_sort {S : md_T} {M : mm_M} (ho : st_o S) (hc : RC S M) {w : Nat} (hw : w < pa_T S 0 3) : ∃ M', fX6_sortByWhatIsLeft (nI w) M = some M' ∧ CT M M' ∧ AT S w 9 M' := by
  unfold fX6_sortByWhatIsLeft
  obtain ⟨M1, e1, e2, -, e4⟩ := ak_zero (x1 := nI w) (fun M3 => (fX5_becomeLike 33 24 M3).bind fun M4 => fX6_sortByWhatIsLeft_L37 (nI w) 1000 (1 : Int32) M4) 240 0 1000 M (by omega) (by omega)
  have c1 : CT M M1 := fun q hq => e2 q (by omega)
  have r1 : RC S M1 := hc.keep (fun q a b => e2 q (by omega))
  obtain ⟨M2, b1, b2, b3⟩ := cl_like (st_ok ho) r1.2.1
  have ci : CI S 5 w M M2 := ⟨c1.tr (fun q hq => b2 q (by omega)), pa_T S 5 w, by rw [md_up_self]; exact b3⟩
  obtain ⟨M3, g1, g2, g3⟩ := ak_sort_L ho hc hw 9 0 1000 M2 (by omega) (by omega) ci (fun d hd l hl => by rw [b2 68 (by omega), e4 _ (by omega) (by omega)]; rfl)
  refine ⟨M3, ?_, g2, g3⟩
  rw [q_lit 0, e1, b1, Option.bind_some]
  exact g1
theorem ak_most_L {S : md_T} {w d : Nat} {M : mm_M} (ht : AT S w 9 M) (hd : d < 24) : ∀ f l n s, l + f = 10 → f < n → s ≤ 9 → fX6_mostAlike_L4 (nI d) M n (nI s) (nI l) = some (nI (ak_x (fun l => ak_n S w d l 9) f l s))
  | 0, l, n + 1, s, hl, hn, hs => by rw [fX6_mostAlike_L4, if_pos (by rw [q_lit 9, nI_ltI (by omega) (by omega)]; omega)]; rfl
  | f + 1, l, n + 1, s, hl, hn, hs => by
    have hle : ak_n S w d l 9 ≤ 9 := ak_le _ 9
    rw [fX6_mostAlike_L4, if_neg (by rw [q_lit 9, nI_ltI (by omega) (by omega)]; omega), q_lit 10, pk_mul, nI_add, show d * 10 + l = 10 * d + l by omega, q_rd (by omega) (by omega), Option.bind_some, ht d hd l (by omega), ak_max (by omega) (by omega), nI_1, ak_most_L ht hd f (l + 1) n (max s (ak_n S w d l 9)) (by omega) (by omega) (by omega)]
    rfl
theorem ak_most {S : md_T} {w d : Nat} {M : mm_M} (ht : AT S w 9 M) (hd : d < 24) : fX6_mostAlike (nI d) M = some (nI (ak_K S w d)) := by
  unfold fX6_mostAlike
  rw [q_lit 0, ak_most_L ht hd 10 0 1000 0 (by omega) (by omega) (by omega)]
  rfl
def mq_ask (S : md_T) (w : Nat) : Nat → Nat → Nat → Nat := md_fold (fun d b => if ak_K S w b ≤ ak_K S w d then b else d)
theorem ak_ask_L {S : md_T} {w : Nat} {M : mm_M} (ht : AT S w 9 M) : ∀ f d n b, d + f = 24 → f < n → b < 24 → fX6_ask_L33 M n (nI b) (nI (ak_K S w b)) (nI d) = some (nI (mq_ask S w f d b), M)
  | 0, d, n + 1, b, hd, hn, hb => by rw [fX6_ask_L33, if_pos (by rw [q_lit 24, nI_leI (by omega) (by omega)]; omega)]; rfl
  | f + 1, d, n + 1, b, hd, hn, hb => by
    have k1 := ak_K9 S w b
    have k2 := ak_K9 S w d
    rw [fX6_ask_L33, if_neg (by rw [q_lit 24, nI_leI (by omega) (by omega)]; omega), ak_most ht (by omega), Option.bind_some, nI_1]
    have e : mq_ask S w (f + 1) d b = mq_ask S w f (d + 1) (if ak_K S w b ≤ ak_K S w d then b else d) := rfl
    rw [e]
    by_cases c : ak_K S w b ≤ ak_K S w d
    · have c' : nI (ak_K S w b) ≤ nI (ak_K S w d) := (nI_leI (by omega) (by omega)).mpr c
      simp only [if_pos c', if_pos c]
      exact ak_ask_L ht f (d + 1) n b (by omega) (by omega) hb
    · have c' : ¬ nI (ak_K S w b) ≤ nI (ak_K S w d) := fun h => c ((nI_leI (by omega) (by omega)).mp h)
      simp only [if_neg c', if_neg c]
      exact ak_ask_L ht f (d + 1) n d (by omega) (by omega) (by omega)
theorem cr_ask {S : md_T} {M : mm_M} (ho : st_o S) (hc : RC S M) (hk : KC S M) {w : Nat} (hw : w < pa_T S 0 3) : CR S M (fX6_ask (nI w) M) (nI (mq_ask S w 23 1 0)) := by
  have o1 := (st_ok ho).2.1
  obtain ⟨M1, e1, e2, e3⟩ := ak_sort ho hc hw
  unfold fX6_ask
  rw [hc.2.1.2.1, q_outN (by omega) (by omega), if_pos hw, if_pos rfl, e1, Option.bind_some, q_lit 0, ak_most e3 (by omega), Option.bind_some, q_lit 1, ak_ask_L e3 23 1 1000 0 (by omega) (by omega) (by omega)]
  exact e2.cr hc hk
