/-! digest: one number behind the other; words and persons -/
def dg_1 (s : Int64) (v : Int32) : Int64 := (31 : Int64) * s + v.toInt64
def dg_d (T : md_T) (E : Nat → Nat → Bool) (w d : Nat) (x : Int64) : Int64 := dg_1 (dg_1 x (nI (md_tr T E (d + 1) 1 w))) (nI (md_tr T E (d + 1) 2 w))
def dg_dd (j : Nat) : Nat := if j = 0 then 0 else if j = 1 then 6 else if j = 2 then 13 else 23
theorem dg_dr {j : Nat} (h : j < 4) : mm_dr (nI j) = some (nI (dg_dd j)) := by
  rcases (show j = 0 ∨ j = 1 ∨ j = 2 ∨ j = 3 by omega) with e | e | e | e <;> subst e <;> decide
theorem dg_dl (j : Nat) : dg_dd j < 24 := by
  unfold dg_dd
  split
  · omega
  · split
    · omega
    · split <;> omega
def CS (S : md_T) (M0 M : mm_M) : Prop := CQ M0 M ∧ RC S M ∧ KC S M
theorem cs_of {α : Type} {S : md_T} {M0 M : mm_M} {a : Option (α × mm_M)} {r : α} (h : CS S M0 M) (c : CR S M a r) : ∃ M', a = some (r, M') ∧ CS S M0 M' := by
  obtain ⟨M', e1, e2, e3, e4⟩ := c
  exact ⟨M', e1, h.1.tr e2, e3, e4⟩
def NDs (S : md_T) (N0 N : mm_M) : Prop := RW N0 N ∧ RQ S N
theorem ns_of {α : Type} {S : md_T} {N0 N : mm_M} {a : Option (α × mm_M)} {r : α} (h : NDs S N0 N) (c : ∃ N', a = some (r, N') ∧ RW N N' ∧ RQ S N') : ∃ N', a = some (r, N') ∧ NDs S N0 N' := by
  obtain ⟨N', e1, e2, e3⟩ := c
  exact ⟨N', e1, h.1.tr e2, e3⟩
theorem dw_1 {S : md_T} {M : mm_M} (ho : st_o S) (hc : RC S M) {k : Nat} (hw : k < pa_T S 0 3) (kk : Int64 → Option (Int64 × mm_M)) (x : Int64) : fX6_digestWord_L6 (nI k) M kk 1000 x 0 = kk (md_fold (fun z s => dg_1 s (nI (pa_T S (3 + z) k))) 3 0 x) := by
  have key := q_loop (fun n s i => fX6_digestWord_L6 (nI k) M kk n s i) (fun z s => dg_1 s (nI (pa_T S (3 + z) k))) kk 3 (fun n s => ?_) (fun n i s hi => ?_) 3 0 1000 x (by omega) (by omega)
  · exact key
  · show fX6_digestWord_L6 (nI k) M kk (n + 1) s (nI 3) = _
    rw [fX6_digestWord_L6, if_pos (by decide)]
  · show fX6_digestWord_L6 (nI k) M kk (n + 1) s (nI i) = fX6_digestWord_L6 (nI k) M kk n _ (nI (i + 1))
    rw [fX6_digestWord_L6, if_neg (by rw [q_lit 3, nI_leI (by omega) (by omega)]; omega), cr_word ho hc hw hi, Option.bind_some, nI_1]
    rfl
theorem dw_2 {S : md_T} {M0 M : mm_M} (ho : st_o S) {k : Nat} (hw : k < pa_T S 0 3) (kk : Int64 → mm_M → Option (Int64 × mm_M)) (x : Int64) {P : Option (Int64 × mm_M) → Prop} (h : CS S M0 M) (hP : ∀ M', CS S M0 M' → P (kk (md_fold (fun j s => dg_d (pa_T S) (st_A S) k (dg_dd j) s) 4 0 x) M')) : P (fX6_digestWord_L48 (nI k) 4 kk 1000 x 0 M) := by
  have key := q_loopM (fun n s M i => fX6_digestWord_L48 (nI k) 4 kk n s i M) (fun j s => dg_d (pa_T S) (st_A S) k (dg_dd j) s) kk (fun M' => CS S M0 M') 4 (fun n s M1 h => ?_) (fun n i s M1 hi h => ?_) 4 0 1000 x M (by omega) (by omega) h
  · obtain ⟨M', e1, e2⟩ := key
    have e1 : fX6_digestWord_L48 (nI k) 4 kk 1000 x 0 M = _ := e1
    rw [e1]
    exact hP M' e2
  · show fX6_digestWord_L48 (nI k) 4 kk (n + 1) s (nI 4) M1 = _
    rw [fX6_digestWord_L48, if_pos (by decide)]
  · obtain ⟨M2, e1, e2⟩ := cs_of h (cr_stands ho h.2.1 h.2.2 (dg_dl i) hw (show 0 < 2 by decide))
    obtain ⟨M3, g1, g2⟩ := cs_of e2 (cr_stands ho e2.2.1 e2.2.2 (dg_dl i) hw (show 1 < 2 by decide))
    have e1 : fX6_stands (nI (dg_dd i)) (nI k) 0 M1 = some (nI (md_tr (pa_T S) (st_A S) (dg_dd i + 1) 1 k), M2) := e1
    have g1 : fX6_stands (nI (dg_dd i)) (nI k) 1 M2 = some (nI (md_tr (pa_T S) (st_A S) (dg_dd i + 1) 2 k), M3) := g1
    refine ⟨M3, ?_, g2⟩
    show fX6_digestWord_L48 (nI k) 4 kk (n + 1) s (nI i) M1 = fX6_digestWord_L48 (nI k) 4 kk n _ (nI (i + 1)) M3
    rw [fX6_digestWord_L48, if_neg (by rw [q_lit 4, nI_leI (by omega) (by omega)]; omega), dg_dr hi]
    simp only [Option.bind_some, e1, g1, nI_1]
    rfl
def dg_c (S : md_T) (k z : Nat) : Int64 := lN (ch_r (sm_s (ch_h S k 5) (2 ^ S 4 0)) (2 ^ (4 * S 4 0)) z)
def dg_W (S : md_T) (k : Nat) (x : Int64) : Int64 := (31 : Int64) * ((31 : Int64) * dg_1 (dg_1 (md_fold (fun j s => dg_d (pa_T S) (st_A S) k (dg_dd j) s) 4 0 (md_fold (fun z s => dg_1 s (nI (pa_T S (3 + z) k))) 3 0 x)) (mq_lent S k)) (nI (mq_ask S k 23 1 0)) + dg_c S k 0) + dg_c S k 1
theorem cr_dword {S : md_T} {M : mm_M} (ho : st_o S) (hc : RC S M) (hk : KC S M) {k : Nat} (hw : k < pa_T S 0 3) (x : Int64) : CR S M (fX6_digestWord x (nI k) M) (dg_W S k x) := by
  unfold fX6_digestWord
  rw [dw_1 ho hc hw]
  refine dw_2 (P := fun o => CR S M o (dg_W S k x)) ho hw _ _ (M0 := M) ⟨CQ.rf, hc, hk⟩ (fun M1 h1 => ?_)
  obtain ⟨M2, e2, h2⟩ := cs_of h1 (cr_lent ho h1.2.1 h1.2.2 hw)
  obtain ⟨M3, e3, h3⟩ := cs_of h2 (cr_ask ho h2.2.1 h2.2.2 hw)
  obtain ⟨M4, e4, h4⟩ := cs_of h3 (cr_chance ho h3.2.1 h3.2.2 (show 5 ≤ 16 by decide) hw (show 0 < 2 by decide))
  obtain ⟨M5, e5, h5⟩ := cs_of h4 (cr_chance ho h4.2.1 h4.2.2 (show 5 ≤ 16 by decide) hw (show 1 < 2 by decide))
  have e4 : fX6_chance 5 (nI k) 0 M3 = some (dg_c S k 0, M4) := e4
  have e5 : fX6_chance 5 (nI k) 1 M4 = some (dg_c S k 1, M5) := e5
  simp only [Option.bind_some, e2, e3, e4, e5]
  exact ⟨M5, rfl, h5⟩
theorem rq_day {T : md_T} {E : Nat → Nat → Bool} {N : mm_M} (h : rq_at T E N) {d w : Nat} (hd : d < 24) (hw : w < T 0 3) (x : Int64) : fX7_tellsDay x (nI d) (nI w) N = some (dg_d T E w d x) := by
  obtain ⟨ho, -, -, ht⟩ := h
  have o2 := ho.2.1
  obtain ⟨e1, e2⟩ := (ht d hd).1 w hw
  unfold fX7_tellsDay
  rw [q_lit 12, pk_mul, nI_add, q_rd (by omega) (by omega), Option.bind_some, q_rd (by omega) (by omega), Option.bind_some, e1, e2]
  rfl
theorem nw_1 {S : md_T} {N : mm_M} (ho : st_o S) (h : RQ S N) {k : Nat} (hw : k < pa_T S 0 3) (kk : Int64 → Option (Int64 × mm_M)) (x : Int64) : fX7_tellsWord_L10 (nI k) N kk 1000 x 0 = kk (md_fold (fun z s => dg_1 s (nI (pa_T S (3 + z) k))) 3 0 x) := by
  have o1 := (st_ok ho).2.1
  have key := q_loop (fun n s i => fX7_tellsWord_L10 (nI k) N kk n s i) (fun z s => dg_1 s (nI (pa_T S (3 + z) k))) kk 3 (fun n s => ?_) (fun n i s hi => ?_) 3 0 1000 x (by omega) (by omega)
  · exact key
  · show fX7_tellsWord_L10 (nI k) N kk (n + 1) s (nI 3) = _
    rw [fX7_tellsWord_L10, if_pos (by decide)]
  · show fX7_tellsWord_L10 (nI k) N kk (n + 1) s (nI i) = fX7_tellsWord_L10 (nI k) N kk n _ (nI (i + 1))
    obtain ⟨t3, t4, t5⟩ := h.2.2.2.2.1 k hw
    have e : N 8 (3 * k + i) = nI (pa_T S (3 + i) k) := by
      rcases q_lt3 hi with e | e | e <;> subst e
      · exact t3
      · exact t4
      · exact t5
    rw [fX7_tellsWord_L10, if_neg (by rw [q_lit 3, nI_leI (by omega) (by omega)]; omega), q_lit 3, pk_mul, nI_add, q_rd (by omega) (by omega), Option.bind_some, e, nI_1]
    rfl
theorem rq_dword {S : md_T} {N : mm_M} (ho : st_o S) (h : RQ S N) {k : Nat} (hw : k < pa_T S 0 3) (x : Int64) : ∃ N', fX7_tellsWord x (nI k) N = some (dg_W S k x, N') ∧ RW N N' ∧ RQ S N' := by
  obtain ⟨N1, r1, r2, r3⟩ := rl_runs ho h
  have a := r3.at ho
  have d0 : ∀ y, fX7_tellsDay y 0 (nI k) N1 = some (dg_d (pa_T S) (st_A S) k 0 y) := fun y => rq_day a (show 0 < 24 by decide) hw y
  have d6 : ∀ y, fX7_tellsDay y 6 (nI k) N1 = some (dg_d (pa_T S) (st_A S) k 6 y) := fun y => rq_day a (show 6 < 24 by decide) hw y
  have d13 : ∀ y, fX7_tellsDay y 13 (nI k) N1 = some (dg_d (pa_T S) (st_A S) k 13 y) := fun y => rq_day a (show 13 < 24 by decide) hw y
  have d23 : ∀ y, fX7_tellsDay y 23 (nI k) N1 = some (dg_d (pa_T S) (st_A S) k 23 y) := fun y => rq_day a (show 23 < 24 by decide) hw y
  have h1 : NDs S N N1 := ⟨r2.w, r3.1⟩
  obtain ⟨N2, e2, w2, q2, -⟩ := rq_lent ho r3.1 hw
  have h2 : NDs S N N2 := ⟨h1.1.tr w2, q2⟩
  obtain ⟨N3, e3, h3⟩ := ns_of h2 (rq_ask ho h2.2 hw)
  obtain ⟨N4, e4, h4⟩ := ns_of h3 (rq_chance ho h3.2 (show 5 ≤ 16 by decide) hw (show 0 < 2 by decide))
  obtain ⟨N5, e5, h5⟩ := ns_of h4 (rq_chance ho h4.2 (show 5 ≤ 16 by decide) hw (show 1 < 2 by decide))
  have e4 : fX7_chanceOf 5 (nI k) 0 N3 = some (dg_c S k 0, N4) := e4
  have e5 : fX7_chanceOf 5 (nI k) 1 N4 = some (dg_c S k 1, N5) := e5
  refine ⟨N5, ?_, h5⟩
  unfold fX7_tellsWord
  rw [r1, Option.bind_some, nw_1 ho r3.1 hw]
  simp only [Option.bind_some, d0, d6, d13, d23, e2, e3, e4, e5]
  rfl
theorem dp_1 {S : md_T} {M0 M : mm_M} (ho : st_o S) {k : Nat} (hw : k < pa_T S 0 0) (kk : Int64 → mm_M → Option (Int64 × mm_M)) (x : Int64) {P : Option (Int64 × mm_M) → Prop} (h : CS S M0 M) (hP : ∀ M', CS S M0 M' → P (kk (md_fold (fun z s => dg_1 s (mq_at (pa_T S) (st_A S) 6 k z)) 4 0 x) M')) : P (fX6_digestPerson_L34 (nI k) kk 1000 x 0 M) := by
  have key := q_loopM (fun n s M i => fX6_digestPerson_L34 (nI k) kk n s i M) (fun z s => dg_1 s (mq_at (pa_T S) (st_A S) 6 k z)) kk (fun M' => CS S M0 M') 4 (fun n s M1 h => ?_) (fun n i s M1 hi h => ?_) 4 0 1000 x M (by omega) (by omega) h
  · obtain ⟨M', e1, e2⟩ := key
    have e1 : fX6_digestPerson_L34 (nI k) kk 1000 x 0 M = _ := e1
    rw [e1]
    exact hP M' e2
  · show fX6_digestPerson_L34 (nI k) kk (n + 1) s (nI 4) M1 = _
    rw [fX6_digestPerson_L34, if_pos (by decide)]
  · obtain ⟨M2, e1, e2⟩ := cs_of h (cr_at ho h.2.1 h.2.2 (show 6 < 24 by decide) hw hi)
    have e1 : fX6_at 6 (nI k) (nI i) M1 = _ := e1
    refine ⟨M2, ?_, e2⟩
    show fX6_digestPerson_L34 (nI k) kk (n + 1) s (nI i) M1 = fX6_digestPerson_L34 (nI k) kk n _ (nI (i + 1)) M2
    rw [fX6_digestPerson_L34, if_neg (by rw [q_lit 4, nI_leI (by omega) (by omega)]; omega)]
    simp only [Option.bind_some, e1, nI_1]
    rfl
theorem dp_2 {S : md_T} {M0 M : mm_M} (ho : st_o S) {k : Nat} (hw : k < pa_T S 0 0) (kk : Int64 → mm_M → Option (Int64 × mm_M)) (x : Int64) {P : Option (Int64 × mm_M) → Prop} (h : CS S M0 M) (hP : ∀ M', CS S M0 M' → P (kk (md_fold (fun z s => dg_1 s (mq_at (pa_T S) (st_A S) 23 k z)) 4 0 x) M')) : P (fX6_digestPerson_L68 (nI k) kk 1000 x 0 M) := by
  have key := q_loopM (fun n s M i => fX6_digestPerson_L68 (nI k) kk n s i M) (fun z s => dg_1 s (mq_at (pa_T S) (st_A S) 23 k z)) kk (fun M' => CS S M0 M') 4 (fun n s M1 h => ?_) (fun n i s M1 hi h => ?_) 4 0 1000 x M (by omega) (by omega) h
  · obtain ⟨M', e1, e2⟩ := key
    have e1 : fX6_digestPerson_L68 (nI k) kk 1000 x 0 M = _ := e1
    rw [e1]
    exact hP M' e2
  · show fX6_digestPerson_L68 (nI k) kk (n + 1) s (nI 4) M1 = _
    rw [fX6_digestPerson_L68, if_pos (by decide)]
  · obtain ⟨M2, e1, e2⟩ := cs_of h (cr_at ho h.2.1 h.2.2 (show 23 < 24 by decide) hw hi)
    have e1 : fX6_at 23 (nI k) (nI i) M1 = _ := e1
    refine ⟨M2, ?_, e2⟩
    show fX6_digestPerson_L68 (nI k) kk (n + 1) s (nI i) M1 = fX6_digestPerson_L68 (nI k) kk n _ (nI (i + 1)) M2
    rw [fX6_digestPerson_L68, if_neg (by rw [q_lit 4, nI_leI (by omega) (by omega)]; omega)]
    simp only [Option.bind_some, e1, nI_1]
    rfl
def dg_P (S : md_T) (k : Nat) (x : Int64) : Int64 := dg_1 (dg_1 (dg_1 (md_fold (fun z s => dg_1 s (mq_at (pa_T S) (st_A S) 23 k z)) 4 0 (md_fold (fun z s => dg_1 s (mq_at (pa_T S) (st_A S) 6 k z)) 4 0 (dg_1 (dg_1 x (nI (pa_T S 1 k))) (nI (pa_T S 2 k))))) (rr_enc 24 (md_fst (mq_clr (pa_T S) (st_A S) k) 24 0))) (rr_enc 24 (md_fst (mq_liv S k) 24 0))) (mq_sort S k)
theorem cr_dperson {S : md_T} {M : mm_M} (ho : st_o S) (hc : RC S M) (hk : KC S M) {k : Nat} (hw : k < pa_T S 0 0) (x : Int64) : CR S M (fX6_digestPerson x (nI k) M) (dg_P S k x) := by
  have p0 : fX6_person (nI k) 0 M = some (nI (pa_T S 1 k)) := cr_person ho hc hw (show 0 < 2 by decide)
  have p1 : fX6_person (nI k) 1 M = some (nI (pa_T S 2 k)) := cr_person ho hc hw (show 1 < 2 by decide)
  unfold fX6_digestPerson
  simp only [Option.bind_some, p0, p1]
  refine dp_1 (P := fun o => CR S M o (dg_P S k x)) ho hw _ _ (M0 := M) ⟨CQ.rf, hc, hk⟩ (fun M1 h1 => ?_)
  refine dp_2 (P := fun o => CR S M o (dg_P S k x)) ho hw _ _ h1 (fun M2 h2 => ?_)
  obtain ⟨M3, e3, h3⟩ := cs_of h2 (cr_clear ho h2.2.1 h2.2.2 hw)
  obtain ⟨M4, e4, h4⟩ := cs_of h3 (cr_live ho h3.2.1 h3.2.2 hw)
  obtain ⟨M5, e5, h5⟩ := cs_of h4 (cr_sort ho h4.2.1 h4.2.2 hw)
  simp only [Option.bind_some, e3, e4, e5]
  exact ⟨M5, rfl, h5⟩
theorem np_1 {S : md_T} {N : mm_M} (ho : st_o S) (h : RD S N) {k : Nat} (hw : k < pa_T S 0 0) (kk : Int64 → Option (Int64 × mm_M)) (x : Int64) : fX7_tellsPerson_L44 (nI k) N kk 1000 x 0 = kk (md_fold (fun z s => dg_1 s (mq_at (pa_T S) (st_A S) 6 k z)) 4 0 x) := by
  have key := q_loop (fun n s i => fX7_tellsPerson_L44 (nI k) N kk n s i) (fun z s => dg_1 s (mq_at (pa_T S) (st_A S) 6 k z)) kk 4 (fun n s => ?_) (fun n i s hi => ?_) 4 0 1000 x (by omega) (by omega)
  · exact key
  · show fX7_tellsPerson_L44 (nI k) N kk (n + 1) s (nI 4) = _
    rw [fX7_tellsPerson_L44, if_pos (by decide)]
  · show fX7_tellsPerson_L44 (nI k) N kk (n + 1) s (nI i) = fX7_tellsPerson_L44 (nI k) N kk n _ (nI (i + 1))
    have e : fX7_atOf 6 (nI k) (nI i) N = _ := rq_at1 (h.at ho) (show 6 < 24 by decide) hw hi
    rw [fX7_tellsPerson_L44, if_neg (by rw [q_lit 4, nI_leI (by omega) (by omega)]; omega), e, Option.bind_some, nI_1]
    rfl
theorem np_2 {S : md_T} {N : mm_M} (ho : st_o S) (h : RD S N) {k : Nat} (hw : k < pa_T S 0 0) (kk : Int64 → Option (Int64 × mm_M)) (x : Int64) : fX7_tellsPerson_L78 (nI k) N kk 1000 x 0 = kk (md_fold (fun z s => dg_1 s (mq_at (pa_T S) (st_A S) 23 k z)) 4 0 x) := by
  have key := q_loop (fun n s i => fX7_tellsPerson_L78 (nI k) N kk n s i) (fun z s => dg_1 s (mq_at (pa_T S) (st_A S) 23 k z)) kk 4 (fun n s => ?_) (fun n i s hi => ?_) 4 0 1000 x (by omega) (by omega)
  · exact key
  · show fX7_tellsPerson_L78 (nI k) N kk (n + 1) s (nI 4) = _
    rw [fX7_tellsPerson_L78, if_pos (by decide)]
  · show fX7_tellsPerson_L78 (nI k) N kk (n + 1) s (nI i) = fX7_tellsPerson_L78 (nI k) N kk n _ (nI (i + 1))
    have e : fX7_atOf 23 (nI k) (nI i) N = _ := rq_at1 (h.at ho) (show 23 < 24 by decide) hw hi
    rw [fX7_tellsPerson_L78, if_neg (by rw [q_lit 4, nI_leI (by omega) (by omega)]; omega), e, Option.bind_some, nI_1]
    rfl
theorem rq_dperson {S : md_T} {N : mm_M} (ho : st_o S) (h : RQ S N) {k : Nat} (hw : k < pa_T S 0 0) (x : Int64) : ∃ N', fX7_tellsPerson x (nI k) N = some (dg_P S k x, N') ∧ RW N N' ∧ RQ S N' := by
  have o1 := (st_ok ho).1
  obtain ⟨N1, r1, r2, r3⟩ := rl_runs ho h
  obtain ⟨t1, t2⟩ := r3.1.2.2.2.1 k hw
  have h1 : NDs S N N1 := ⟨r2.w, r3.1⟩
  have e0 : fX7_clearOf (nI k) N1 = _ := rq_clear (r3.at ho) (show k < 8 by omega)
  obtain ⟨N2, e2, h2⟩ := ns_of h1 (rq_live ho r3.1 hw)
  obtain ⟨N3, e3, h3⟩ := ns_of h2 (rq_sort ho h2.2 hw)
  have p0 : mm_rd N1 7 16 (2 * nI k) = some (nI (pa_T S 1 k)) := by rw [q_lit 2, pk_mul, q_rd (by omega) (by omega), t1]
  have p1 : mm_rd N1 7 16 (2 * nI k + 1) = some (nI (pa_T S 2 k)) := by rw [q_lit 2, pk_mul, nI_1, q_rd (by omega) (by omega), t2]
  refine ⟨N3, ?_, h3⟩
  unfold fX7_tellsPerson
  rw [r1, Option.bind_some, p0, Option.bind_some, p1, Option.bind_some, np_1 ho r3 hw, np_2 ho r3 hw]
  simp only [Option.bind_some, e0, e2, e3]
  rfl
