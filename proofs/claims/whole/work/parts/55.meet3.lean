theorem om_p {S : md_T} {M0 M : mm_M} (h : om_I S M0 M) : M 33 0 = nI (pa_T S 0 0) := by
  have := h.2.1
  rwa [q_wr_n2 (by decide)] at this
theorem cm_in {S : md_T} {M0 : mm_M} (ho : st_o S) (hc : RC S M0) {d a : Nat} (hd : d < 24) (ha : a < pa_T S 0 0) (x2 : Int32) (k : Int32 → Int32 → Int32 → mm_M → Option (Int32 × mm_M)) (s : Int32 × Int32 × Int32) (M : mm_M) (h : om_I S M0 M) : ∃ M', fX6_meet_L60 (nI d) x2 (nI a) k 1000 s.1 s.2.1 s.2.2 (nI (a + 1)) M = k (md_fold (me_C S d a) (pa_T S 0 0 - (a + 1)) (a + 1) s).1 (md_fold (me_C S d a) (pa_T S 0 0 - (a + 1)) (a + 1) s).2.1 (md_fold (me_C S d a) (pa_T S 0 0 - (a + 1)) (a + 1) s).2.2 M' ∧ om_I S M0 M' := by
  have o1 := (st_ok ho).1
  refine q_loopB (fun n (s : Int32 × Int32 × Int32) M i => fX6_meet_L60 (nI d) x2 (nI a) k n s.1 s.2.1 s.2.2 i M) (me_C S d a) (fun s M => k s.1 s.2.1 s.2.2 M) (fun _ M' => om_I S M0 M') (a + 1) (pa_T S 0 0) (fun n s M1 h => ?_) (fun n i s M1 hl hi h => ?_) (pa_T S 0 0 - (a + 1)) (a + 1) 1000 s M (by omega) (by omega) (by omega) h
  · show fX6_meet_L60 (nI d) x2 (nI a) k (n + 1) s.1 s.2.1 s.2.2 (nI (pa_T S 0 0)) M1 = _
    rw [fX6_meet_L60, om_p h, if_pos (by rw [nI_leI (by omega) (by omega)]; omega)]
  · obtain ⟨M2, M3, e1, e2, e3, e4⟩ := om_try ho hc h hd (show a < 8 by omega) (show i < 8 by omega)
    refine ⟨M3, ?_, e3⟩
    show fX6_meet_L60 (nI d) x2 (nI a) k (n + 1) s.1 s.2.1 s.2.2 (nI i) M1 = fX6_meet_L60 (nI d) x2 (nI a) k n (me_C S d a i s).1 (me_C S d a i s).2.1 (me_C S d a i s).2.2 (nI (i + 1)) M3
    rw [fX6_meet_L60, om_p h, if_neg (by rw [nI_leI (by omega) (by omega)]; omega), q_pf, Option.bind_some, e1, Option.bind_some, e2, Option.bind_some, cq_owed e4, Option.bind_some, nI_1]
    unfold me_C me_v
    by_cases c1 : s.2.2 = -1
    · simp only [if_pos c1]
    · simp only [if_neg c1]
      by_cases c2 : s.2.2 ≤ mq_owed (om_T (pa_T S) d a i) (st_A S)
      · simp only [if_pos c2]
      · simp only [if_neg c2]
def mq_meet (S : md_T) (d z : Nat) : Int32 := if z = 0 then (me_cs S d).1 else if z = 1 then (me_cs S d).2.1 else (me_cs S d).2.2
theorem cr_meet {S : md_T} {M : mm_M} (ho : st_o S) (hc : RC S M) (hk : KC S M) {d z : Nat} (hd : d < 24) (hz : z < 3) : CR S M (fX6_meet (nI d) (nI z) M) (mq_meet S d z) := by
  have o1 := (st_ok ho).1
  obtain ⟨M1, b1, b2, b3⟩ := cl_like (st_ok ho) hc.2.1
  have i0 : om_I S M M1 := by
    refine ⟨fun q hq => b2 q (by omega), ?_⟩
    have := b3
    unfold cc_T at this ⊢
    simp (disch := omega) only [q_wr_ne, q_wr_n2, q_wr_eq]
    exact ⟨this.1, this.2.1, trivial, this.2.2.2⟩
  have key := q_loopB (fun n (s : Int32 × Int32 × Int32) M i => fX6_meet_L42 (nI d) (nI z) n s.1 s.2.1 s.2.2 i M) (fun a s => md_fold (me_C S d a) (pa_T S 0 0 - (a + 1)) (a + 1) s) (fun s M => if nI z = 0 then some (s.1, M) else if nI z = 1 then some (s.2.1, M) else some (s.2.2, M)) (fun _ M' => om_I S M M') 0 (pa_T S 0 0) (fun n s M1 h => ?_) (fun n i s M1 hl hi h => ?_) (pa_T S 0 0) 0 1000 (-1, -1, -1) M1 (by omega) (by omega) (by omega) i0
  · obtain ⟨M', e1, e2⟩ := key
    have e1 : fX6_meet_L42 (nI d) (nI z) 1000 (-1) (-1) (-1) (nI 0) M1 = _ := e1
    unfold fX6_meet mq_meet
    rw [q_lit 24, q_lit 3, q_outN (by omega) (by omega), q_outN (by omega) (by omega), if_pos hd, if_pos hz, if_pos rfl, if_pos rfl, b1, Option.bind_some, show fX6_meet_L42 (nI d) (nI z) 1000 (-1) (-1) (-1) 0 M1 = fX6_meet_L42 (nI d) (nI z) 1000 (-1) (-1) (-1) (nI 0) M1 from rfl, e1]
    rcases q_lt3 hz with e | e | e <;> subst e
    · exact e2.1.cr hc hk
    · exact e2.1.cr hc hk
    · exact e2.1.cr hc hk
  · show fX6_meet_L42 (nI d) (nI z) (n + 1) s.1 s.2.1 s.2.2 (nI (pa_T S 0 0)) M1 = _
    rw [fX6_meet_L42, om_p h, if_pos (by rw [nI_leI (by omega) (by omega)]; omega)]
  · obtain ⟨M2, e1, e2⟩ := cm_in ho hc hd hi (nI z) (fun z14 z15 z16 M17 => fX6_meet_L42 (nI d) (nI z) n z14 z15 z16 (nI (i + 1)) M17) s M1 h
    refine ⟨M2, ?_, e2⟩
    show fX6_meet_L42 (nI d) (nI z) (n + 1) s.1 s.2.1 s.2.2 (nI i) M1 = _
    rw [fX6_meet_L42, om_p h, if_neg (by rw [nI_leI (by omega) (by omega)]; omega), nI_1]
    exact e1
theorem on_w {S : md_T} {d : Nat} {N0 N : mm_M} {x y : Int32} (ho : st_o S) (h : on_I S d N0 N) : on_I S d N0 (mm_wr (mm_wr N 0 17 x) 0 18 y) := by
  obtain ⟨h1, h2, h3, h4⟩ := h
  have ok := st_ok ho
  obtain ⟨t1, t2, t3, t4, m, t5, t6, t7, t8⟩ := h1
  have em : pa_T S 0 7 = m := by
    rcases t8 with ⟨e, -⟩ | ⟨e, f, -⟩
    · exact e
    · have := (ok.2.2.2.2.2 m (by omega)).1
      rw [q_wr_eq] at f
      exact absurd f (q_m1' (by omega))
  refine ⟨⟨?_, ?_, fun k hk => ?_, fun w hw => ?_, m, t5, ?_, fun i hi => ?_, Or.inl ⟨em, q_wr_eq⟩⟩, ?_, fun q hq => by rw [q_wr_ne (by omega), q_wr_ne (by omega)]; exact h3 q hq, fun j a b c => by rw [q_wr_n2 c, q_wr_n2 b]; exact h4 j a b c⟩
  · simp (disch := omega) only [q_wr_n2] at t1 ⊢; exact t1
  · simp (disch := omega) only [q_wr_n2] at t2 ⊢; exact t2
  · have := t3 k hk
    simp (disch := omega) only [q_wr_ne] at this ⊢; exact this
  · have := t4 w hw
    simp (disch := omega) only [q_wr_ne] at this ⊢; exact this
  · simp (disch := omega) only [q_wr_n2] at t6 ⊢; exact t6
  · have := t7 i hi
    simp (disch := omega) only [q_wr_ne] at this ⊢; exact this
  · simp (disch := omega) only [q_wr_n2]; exact h2
theorem on_p {S : md_T} {d : Nat} {N0 N : mm_M} (h : on_I S d N0 N) : N 0 7 = nI (pa_T S 0 0) := by
  have := h.1.1
  rwa [q_wr_n2 (by decide)] at this
