/-! QUESTIONS over the evenings: the reference -/
def rq_at (T : md_T) (E : Nat → Nat → Bool) (N : mm_M) : Prop := md_ok T ∧ rr_T T N ∧ rr_s T (md_tr T E 24) N ∧ rr_tr T E 24 N
theorem RD.at {S : md_T} {N : mm_M} (ho : st_o S) (h : RD S N) : rq_at (pa_T S) (st_A S) N := ⟨st_ok ho, h.1.2, h.2.1, h.2.2⟩
theorem rq_open {T : md_T} {E : Nat → Nat → Bool} {N : mm_M} (h : rq_at T E N) {d k who : Nat} (hd : d < 24) (hk : k < 8) (hw : who < 2) : fX7_openOf (nI d) (nI k) (nI who) N = some (mq_open T E d k (3 + who)) := by
  obtain ⟨ho, ⟨h7, h9, hp, hT, -⟩, hs, ht⟩ := h
  have o2 := ho.2.1
  have ok := md_tr_ok (E := E) ho (d + 1)
  unfold fX7_openOf
  rw [q_lit 0]
  refine q_loop (fun n s i => fX7_openOf_L6 (nI d) (nI k) (nI who) N n s i) _ (fun s => some s) (T 0 3) (fun n s => ?_) (fun n i s hi => ?_) (T 0 3) 0 1000 (nI 0) (by omega) (by omega)
  · show fX7_openOf_L6 (nI d) (nI k) (nI who) N (n + 1) s (nI (T 0 3)) = _
    rw [fX7_openOf_L6, h9, if_pos (by rw [nI_leI (by omega) (by omega)]; omega)]
  · show fX7_openOf_L6 (nI d) (nI k) (nI who) N (n + 1) s (nI i) = fX7_openOf_L6 (nI d) (nI k) (nI who) N n _ (nI (i + 1))
    have b := (ok.1 i hi).1
    obtain ⟨e1, e2⟩ := (ht d hd).1 i hi
    obtain ⟨t3, t4, -⟩ := hT i hi
    obtain ⟨u3, u4, -⟩ := ho.2.2.2.2.1 i hi
    have e8 : N 8 (3 * i + who) = nI (T (3 + who) i) ∧ T (3 + who) i < 8 := by
      rcases (show who = 0 ∨ who = 1 by omega) with e | e
      · subst e; exact ⟨t3, u3⟩
      · subst e; exact ⟨t4, u4⟩
    rw [fX7_openOf_L6, h9, if_neg (by rw [nI_leI (by omega) (by omega)]; omega)]
    simp (disch := omega) only [q_lit 0, q_lit 1, q_lit 3, q_lit 12, q_rd, Option.bind_some, e1, e2, e8.1, nI_eq, nI_add, pk_mul, q_add0]
    by_cases c2 : md_tr T E (d + 1) 1 i = 0
    · rw [if_pos c2]
      by_cases c1 : T (3 + who) i = k
      · rw [if_pos c1, if_pos ⟨c2, c1⟩]
      · rw [if_neg c1, if_neg (fun q => c1 q.2)]
    · rw [if_neg c2, if_neg (fun q => c2 q.1)]
theorem rq_lost_L {T : md_T} {E : Nat → Nat → Bool} {N : mm_M} (h : rq_at T E N) {d k : Nat} (hd : d < 24) (hk : k < 8) : ∀ f i n (b : Bool), i + f = T 0 3 → f < n → fX7_isLost_L5 (nI d) (nI k) N n (if b = true then 1 else 0) (nI i) = some (if (b || md_any (fun w => md_tr T E (d + 1) 1 w == 3 && T 4 w == k) f i) = true then 1 else 0)
  | 0, i, n + 1, b, hi, hn => by
    obtain ⟨ho, ⟨h7, h9, hp, hT, -⟩, hs, ht⟩ := h
    have o2 := ho.2.1
    rw [fX7_isLost_L5, h9, if_pos (by rw [nI_leI (by omega) (by omega)]; omega), q_zb]
    simp only [Option.bind_some, md_any, Bool.or_false]
  | f + 1, i, n + 1, b, hi, hn => by
    have h0 := h
    obtain ⟨ho, ⟨h7, h9, hp, hT, -⟩, hs, ht⟩ := h
    have o2 := ho.2.1
    obtain ⟨u3, u4, -⟩ := ho.2.2.2.2.1 i (by omega)
    obtain ⟨e1, e2⟩ := (ht d hd).1 i (by omega)
    obtain ⟨t3, t4, -⟩ := hT i (by omega)
    have ok := ((md_tr_ok (E := E) ho (d + 1)).1 i (by omega)).1
    have ih := fun b => rq_lost_L h0 hd hk f (i + 1) n b (by omega) (by omega)
    rw [fX7_isLost_L5, h9, if_neg (by rw [nI_leI (by omega) (by omega)]; omega)]
    simp (disch := omega) only [q_lit 3, q_lit 1, q_lit 12, q_rd, Option.bind_some, e1, t4, nI_eq, nI_add, pk_mul]
    simp only [q_lit 1] at ih
    cases b with
    | true =>
      rw [if_pos rfl, if_neg (by decide)]
      have := ih true
      simp only [if_true, Bool.true_or] at this ⊢
      rw [this]
    | false =>
      rw [if_pos (by decide)]
      have i0 := ih false
      have i1 := ih true
      simp only [if_true, Bool.false_eq_true, if_false, Bool.true_or, Bool.false_or] at i0 i1 ⊢
      by_cases c1 : md_tr T E (d + 1) 1 i = 3
      · rw [if_pos c1]
        by_cases c2 : T 4 i = k
        · simp only [if_pos c2]
          rw [i1]
          simp [md_any, c1, c2]
        · simp only [if_neg c2]
          rw [i0]
          simp [md_any, c2]
      · rw [if_neg c1, i0]
        simp [md_any, c1]
theorem rq_lost {T : md_T} {E : Nat → Nat → Bool} {N : mm_M} (h : rq_at T E N) {d k : Nat} (hd : d < 24) (hk : k < 8) : fX7_isLost (nI d) (nI k) N = some (if mq_lost T E d k = true then 1 else 0) := by
  have o2 := h.1.2.1
  have := rq_lost_L h hd hk (T 0 3) 0 1000 false (by omega) (by omega)
  simp only [Bool.false_eq_true, if_false, Bool.false_or] at this
  exact this
theorem rq_many {T : md_T} {E : Nat → Nat → Bool} {N : mm_M} (hTk : md_ok T) (h9 : N 0 9 = nI (T 0 3)) (hs : rr_s T (md_tr T E 24) N) {z : Nat} (hz : z < 8) : fX7_many (nI z) N = some (mq_many T E z) := by
  have o2 := hTk.2.1
  unfold fX7_many
  rw [q_lit 0]
  refine q_loop (fun n s i => fX7_many_L4 (nI z) N n s i) _ (fun s => some s) (T 0 3) (fun n s => ?_) (fun n i s hi => ?_) (T 0 3) 0 1000 (nI 0) (by omega) (by omega)
  · show fX7_many_L4 (nI z) N (n + 1) s (nI (T 0 3)) = _
    rw [fX7_many_L4, h9, if_pos (by rw [nI_leI (by omega) (by omega)]; omega)]
  · show fX7_many_L4 (nI z) N (n + 1) s (nI i) = fX7_many_L4 (nI z) N n _ (nI (i + 1))
    have b := ((md_tr_ok (E := E) hTk 24).1 i hi).1
    have e := (hs.1 i hi).1
    rw [fX7_many_L4, h9, if_neg (by rw [nI_leI (by omega) (by omega)]; omega)]
    simp (disch := omega) only [q_lit 0, q_lit 1, q_rd, Option.bind_some, e, nI_eq, nI_add, q_add0]
theorem rq_owed {T : md_T} {E : Nat → Nat → Bool} {N : mm_M} (hTk : md_ok T) (h9 : N 0 9 = nI (T 0 3)) (hs : rr_s T (md_tr T E 24) N) : fX7_owedYet N = some (mq_owed T E) := by
  have o2 := hTk.2.1
  unfold fX7_owedYet
  rw [q_lit 0]
  refine q_loop (fun n s i => fX7_owedYet_L4 N n s i) _ (fun s => some s) (T 0 3) (fun n s => ?_) (fun n i s hi => ?_) (T 0 3) 0 1000 (nI 0) (by omega) (by omega)
  · show fX7_owedYet_L4 N (n + 1) s (nI (T 0 3)) = _
    rw [fX7_owedYet_L4, h9, if_pos (by rw [nI_leI (by omega) (by omega)]; omega)]
  · show fX7_owedYet_L4 N (n + 1) s (nI i) = fX7_owedYet_L4 N n _ (nI (i + 1))
    have b := ((md_tr_ok (E := E) hTk 24).1 i hi).1
    obtain ⟨e1, e2⟩ := hs.1 i hi
    rw [fX7_owedYet_L4, h9, if_neg (by rw [nI_leI (by omega) (by omega)]; omega)]
    simp (disch := omega) only [q_lit 0, q_lit 1, q_lit 3, q_rd, Option.bind_some, e1, e2, nI_eq, nI_add, q_add0]
    by_cases c1 : md_tr T E 24 1 i = 0
    · rw [if_pos c1, if_pos (Or.inl c1)]
    · rw [if_neg c1]
      by_cases c2 : md_tr T E 24 1 i = 3
      · rw [if_pos c2, if_pos (Or.inr c2)]
      · rw [if_neg c2, if_neg (fun q => q.elim c1 c2)]
def mq_clr (T : md_T) (E : Nat → Nat → Bool) (k d : Nat) : Bool := decide (mq_open T E d k 4 = nI 0) && !(mq_lost T E d k)
theorem q_23 : (23 : Int32) = nI 24 + (-1) := by decide
theorem rq_clear {T : md_T} {E : Nat → Nat → Bool} {N : mm_M} (h : rq_at T E N) {k : Nat} (hk : k < 8) : fX7_clearOf (nI k) N = some (rr_enc 24 (md_fst (mq_clr T E k) 24 0)) := by
  unfold fX7_clearOf
  rw [q_23]
  have := q_loopD (fun n s i => fX7_clearOf_L5 (nI k) N n s i) (fun d (s : Int32) => if mq_clr T E k d = true then nI d else s) (fun s => some s) (fun n s => ?_) 24 (fun n j s hj => ?_) 24 1000 (-1) (by omega) (by omega)
  · rw [← md_foldD_fst0]; exact this
  · show fX7_clearOf_L5 (nI k) N (n + 1) s (nI 0 + (-1)) = _
    rw [fX7_clearOf_L5, if_pos (by decide)]
  · show fX7_clearOf_L5 (nI k) N (n + 1) s (nI (j + 1) + (-1)) = fX7_clearOf_L5 (nI k) N n _ (nI j + (-1))
    rw [fX7_clearOf_L5, pk_m1, if_neg (nI_pos (by omega)), q_lit 1, rq_open h hj hk (by omega), Option.bind_some, rq_lost h hj hk]
    simp only [Option.bind_some]
    by_cases c1 : mq_open T E j k (3 + 1) = 0
    · rw [if_pos c1]
      cases c2 : mq_lost T E j k
      · rw [if_pos (by decide), if_pos]
        simp [mq_clr, c2, show mq_open T E j k 4 = nI 0 from c1]
      · rw [if_pos rfl, if_neg q_10, if_neg]
        simp [mq_clr, c2]
    · rw [if_neg c1, if_neg]
      simp [mq_clr, show ¬ mq_open T E j k 4 = nI 0 from c1]
def mq_bank (T : md_T) (E : Nat → Nat → Bool) (d : Nat) : Int32 × Int32 := md_fold (fun k (s : Int32 × Int32) => if mq_open T E d k 3 ≤ s.2 then s else (nI k, mq_open T E d k 3)) (T 0 0) 0 (-1, nI 0)
theorem rq_bank {T : md_T} {E : Nat → Nat → Bool} {N : mm_M} (h : rq_at T E N) {d : Nat} (hd : d < 24) : fX7_bankOf (nI d) N = some (mq_bank T E d).1 := by
  have o1 := h.1.1
  unfold fX7_bankOf
  rw [q_lit 0]
  refine q_loop (fun n (s : Int32 × Int32) i => fX7_bankOf_L7 (nI d) N n s.1 s.2 i) _ (fun s => some s.1) (T 0 0) (fun n s => ?_) (fun n i s hi => ?_) (T 0 0) 0 1000 (-1, nI 0) (by omega) (by omega)
  · show fX7_bankOf_L7 (nI d) N (n + 1) s.1 s.2 (nI (T 0 0)) = _
    rw [fX7_bankOf_L7, h.2.1.1, if_pos (by rw [nI_leI (by omega) (by omega)]; omega)]
  · show fX7_bankOf_L7 (nI d) N (n + 1) s.1 s.2 (nI i) = fX7_bankOf_L7 (nI d) N n _ _ (nI (i + 1))
    rw [fX7_bankOf_L7, h.2.1.1, if_neg (by rw [nI_leI (by omega) (by omega)]; omega), q_lit 0, rq_open h hd (by omega) (by omega), Option.bind_some, q_lit 1, nI_add]
    unfold fX7_greater
    by_cases c : mq_open T E d i (3 + 0) ≤ s.2
    · simp only [if_pos c]
    · simp only [if_neg c]
def mq_sil (T : md_T) (E : Nat → Nat → Bool) : Int32 := md_fold (fun k s => if nI (md_tr T E 24 3 k) = nI 0 then s ||| (nI 1 <<< (nI k &&& 31)) else s) (T 0 0) 0 (nI 0)
theorem rq_sil {T : md_T} {E : Nat → Nat → Bool} {N : mm_M} (h : rq_at T E N) : fX7_silentNow N = some (mq_sil T E) := by
  have o1 := h.1.1
  unfold fX7_silentNow
  rw [q_lit 0]
  refine q_loop (fun n s i => fX7_silentNow_L4 N n s i) _ (fun s => some s) (T 0 0) (fun n s => ?_) (fun n i s hi => ?_) (T 0 0) 0 1000 (nI 0) (by omega) (by omega)
  · show fX7_silentNow_L4 N (n + 1) s (nI (T 0 0)) = _
    rw [fX7_silentNow_L4, h.2.1.1, if_pos (by rw [nI_leI (by omega) (by omega)]; omega)]
  · show fX7_silentNow_L4 N (n + 1) s (nI i) = fX7_silentNow_L4 N n _ (nI (i + 1))
    have e := (h.2.2.1.2 i hi).1
    rw [fX7_silentNow_L4, h.2.1.1, if_neg (by rw [nI_leI (by omega) (by omega)]; omega)]
    simp (disch := omega) only [q_lit 0, q_lit 1, q_rd, Option.bind_some, e, nI_add, q_or0]
