/-! meet: one meeting more -/
def om_T (T : md_T) (d a b : Nat) : md_T := fun o j => if o = 6 ∧ j = T 0 7 then d else if o = 7 ∧ j = T 0 7 then a else if o = 8 ∧ j = T 0 7 then b else if o = 0 ∧ j = 7 then T 0 7 + 1 else T o j
theorem om_row {T : md_T} {d a b o j : Nat} (h : o = 0 ∧ j ≠ 7 ∨ (1 ≤ o ∧ o ≤ 5) ∨ (6 ≤ o ∧ j ≠ T 0 7)) : om_T T d a b o j = T o j := by
  unfold om_T
  rw [if_neg (by omega), if_neg (by omega), if_neg (by omega), if_neg (by omega)]
theorem om_7 {T : md_T} {d a b : Nat} : om_T T d a b 0 7 = T 0 7 + 1 := rfl
theorem om_n {T : md_T} {d a b : Nat} : om_T T d a b 6 (T 0 7) = d ∧ om_T T d a b 7 (T 0 7) = a ∧ om_T T d a b 8 (T 0 7) = b := by
  unfold om_T
  refine ⟨?_, ?_, ?_⟩
  · rw [if_pos ⟨rfl, rfl⟩]
  · rw [if_neg (by omega), if_pos ⟨rfl, rfl⟩]
  · rw [if_neg (by omega), if_neg (by omega), if_pos ⟨rfl, rfl⟩]
theorem om_ok {T : md_T} (h : md_ok T) {d a b : Nat} (h12 : T 0 7 ≤ 12) (hd : d < 24) (ha : a < 8) (hb : b < 8) : md_ok (om_T T d a b) := by
  obtain ⟨h1, h2, h3, h4, h5, h6⟩ := h
  refine ⟨h1, h2, by rw [om_7]; omega, fun k hk => ?_, fun w hw => ?_, fun i hi => ?_⟩
  · rw [om_row (by omega), om_row (by omega)]; exact h4 k hk
  · rw [om_row (by omega), om_row (by omega), om_row (by omega)]; exact h5 w hw
  · rw [om_7] at hi
    by_cases c : i = T 0 7
    · rw [c, om_n.1, om_n.2.1, om_n.2.2]; exact ⟨hd, ha, hb⟩
    · rw [om_row (by omega), om_row (by omega), om_row (by omega)]; exact h6 i (by omega)
def om_I (S : md_T) (M0 M : mm_M) : Prop := CT M0 M ∧ cc_T (pa_T S) 33 (mm_wr M 33 7 (nI (pa_T S 0 7)))
theorem om_try {S : md_T} {M0 M : mm_M} (ho : st_o S) (hc : RC S M0) (h : om_I S M0 M) {d a b : Nat} (hd : d < 24) (ha : a < 8) (hb : b < 8) : ∃ M2 M', fX5_addMeeting 33 (nI d) (nI a) (nI b) (mm_wr M 33 7 (M 24 7)) = some M2 ∧ fX1_run 55 33 (fX2_all M2) M2 = some M' ∧ om_I S M0 M' ∧ cq_at 55 (om_T (pa_T S) d a b) (st_A S) M' := by
  obtain ⟨h1, h2⟩ := h
  have h12 : pa_T S 0 7 ≤ 12 := pa_n2_le ho
  have e7 : M 24 7 = nI (pa_T S 0 7) := by rw [h1 24 (by omega)]; exact hc.2.1.2.2.1
  rw [e7, q_addM (n := pa_T S 0 7) q_wr_eq (by omega)]
  obtain ⟨t1, t2, t3, t4, t5, t6⟩ := h2
  have cT : cc_T (om_T (pa_T S) d a b) 33 (mm_wr (mm_wr (mm_wr (mm_wr (mm_wr M 33 7 (nI (pa_T S 0 7))) (33 + 6) (pa_T S 0 7) (nI d)) (33 + 7) (pa_T S 0 7) (nI a)) (33 + 8) (pa_T S 0 7) (nI b)) 33 7 (nI (pa_T S 0 7 + 1))) := by
    refine ⟨?_, ?_, q_wr_eq, fun k hk => ?_, fun w hw => ?_, fun i hi => ?_⟩
    · rw [q_wr_n2 (by decide)] at t1
      simp (disch := omega) only [q_wr_ne, q_wr_n2]; exact t1
    · rw [q_wr_n2 (by decide)] at t2
      simp (disch := omega) only [q_wr_ne, q_wr_n2]; exact t2
    · rw [om_row (by omega), om_row (by omega)]
      have := t4 k hk
      simp (disch := omega) only [q_wr_ne] at this ⊢; exact this
    · rw [om_row (by omega), om_row (by omega), om_row (by omega)]
      have := t5 w hw
      simp (disch := omega) only [q_wr_ne] at this ⊢; exact this
    · rw [om_7] at hi
      by_cases c : i = pa_T S 0 7
      · rw [c, om_n.1, om_n.2.1, om_n.2.2]
        simp (disch := omega) only [q_wr_ne, q_wr_eq, and_self]
      · rw [om_row (by omega), om_row (by omega), om_row (by omega)]
        have := t6 i (by omega)
        simp (disch := omega) only [q_wr_ne, q_wr_n2] at this ⊢; exact this
  have ct : CT M0 (mm_wr (mm_wr (mm_wr (mm_wr (mm_wr M 33 7 (nI (pa_T S 0 7))) (33 + 6) (pa_T S 0 7) (nI d)) (33 + 7) (pa_T S 0 7) (nI a)) (33 + 8) (pa_T S 0 7) (nI b)) 33 7 (nI (pa_T S 0 7 + 1))) := h1.tr (fun q hq => by simp (disch := omega) only [q_wr_ne])
  generalize hM2 : mm_wr (mm_wr (mm_wr (mm_wr (mm_wr M 33 7 (nI (pa_T S 0 7))) (33 + 6) (pa_T S 0 7) (nI d)) (33 + 7) (pa_T S 0 7) (nI a)) (33 + 8) (pa_T S 0 7) (nI b)) 33 7 (nI (pa_T S 0 7 + 1)) = M2 at cT ct ⊢
  have ce := ct.ce (show CE S M0 from hc.2.2.1)
  obtain ⟨M3, e1, e2, e3⟩ := cx_run (om_ok (st_ok ho) h12 hd ha hb) (Or.inr rfl) ho ce cT (fX2_all M2)
  have eA : st_E S (fun i => bt (fX2_all M2) i) = st_A S := by
    refine st_E_congr (fun i hi => ?_)
    have o4 := ho.2.1
    unfold fX2_all
    rw [ce.1, q_all (S 4 0) (by omega) i (by omega)]
    simp [hi]
  rw [eA] at e3
  obtain ⟨u1, u2, u3, u4, u5, u6⟩ := cT
  refine ⟨M2, M3, rfl, e1, ⟨ct.tr (fun q hq => e2 q (by omega)), ?_⟩, e3⟩
  refine ⟨by rw [q_wr_n2 (by decide), e2 33 (by omega)]; exact u1, by rw [q_wr_n2 (by decide), e2 33 (by omega)]; exact u2, q_wr_eq, fun k hk => ?_, fun w hw => ?_, fun i hi => ?_⟩
  · rw [q_wr_ne (by omega), q_wr_ne (by omega), e2 _ (by omega), e2 _ (by omega)]
    have := u4 k hk
    rw [om_row (by omega), om_row (by omega)] at this
    exact this
  · rw [q_wr_ne (by omega), q_wr_ne (by omega), q_wr_ne (by omega), e2 _ (by omega), e2 _ (by omega), e2 _ (by omega)]
    have := u5 w hw
    rw [om_row (by omega), om_row (by omega), om_row (by omega)] at this
    exact this
  · rw [q_wr_ne (by omega), q_wr_ne (by omega), q_wr_ne (by omega), e2 _ (by omega), e2 _ (by omega), e2 _ (by omega)]
    have := u6 i (by rw [om_7]; omega)
    rw [om_row (by omega), om_row (by omega), om_row (by omega)] at this
    exact this
def on_I (S : md_T) (d : Nat) (N0 N : mm_M) : Prop := rr_T (pa_T S) (mm_wr N 0 16 (-1)) ∧ N 0 16 = nI d ∧ (∀ q, (1 ≤ q ∧ q ≤ 6) ∨ q = 10 ∨ 17 < q → N q = N0 q) ∧ ∀ j, j ≠ 16 → j ≠ 17 → j ≠ 18 → N 0 j = N0 0 j
theorem on_try {S : md_T} {N0 N : mm_M} (ho : st_o S) (hn : RN S N0) {d a b : Nat} (h : on_I S d N0 N) (hd : d < 24) (ha : a < 8) (hb : b < 8) : ∃ N', fX7_runs (mm_wr (mm_wr N 0 17 (nI a)) 0 18 (nI b)) = some N' ∧ on_I S d N0 N' ∧ rq_at (om_T (pa_T S) d a b) (st_A S) N' := by
  obtain ⟨h1, h2, h3, h4⟩ := h
  have ok := st_ok ho
  have h12 : pa_T S 0 7 ≤ 12 := pa_n2_le ho
  obtain ⟨t1, t2, t3, t4, m, t5, t6, t7, t8⟩ := h1
  have em : pa_T S 0 7 = m := by
    rcases t8 with ⟨e, -⟩ | ⟨e, f, -⟩
    · exact e
    · have := (ok.2.2.2.2.2 m (by omega)).1
      rw [q_wr_eq] at f
      exact absurd f (q_m1' (by omega))
  have cT : rr_T (om_T (pa_T S) d a b) (mm_wr (mm_wr N 0 17 (nI a)) 0 18 (nI b)) := by
    refine ⟨?_, ?_, fun k hk => ?_, fun w hw => ?_, m, t5, ?_, fun i hi => ?_, Or.inr ⟨by rw [om_7, em], ?_, ?_, ?_⟩⟩
    · simp (disch := omega) only [q_wr_n2] at t1 ⊢; exact t1
    · simp (disch := omega) only [q_wr_n2] at t2 ⊢; exact t2
    · rw [om_row (by omega), om_row (by omega)]
      have := t3 k hk
      simp (disch := omega) only [q_wr_ne] at this ⊢; exact this
    · rw [om_row (by omega), om_row (by omega), om_row (by omega)]
      have := t4 w hw
      simp (disch := omega) only [q_wr_ne] at this ⊢; exact this
    · simp (disch := omega) only [q_wr_n2] at t6 ⊢; exact t6
    · rw [om_row (by omega), om_row (by omega), om_row (by omega)]
      have := t7 i hi
      simp (disch := omega) only [q_wr_ne] at this ⊢; exact this
    · simp (disch := omega) only [q_wr_n2]
      rw [h2, ← em, om_n.1]
    · rw [q_wr_n2 (by decide), q_wr_eq, ← em, om_n.2.1]
    · rw [q_wr_eq, ← em, om_n.2.2]
  have f0 : ∀ j, j ≠ 16 → j ≠ 17 → j ≠ 18 → mm_wr (mm_wr N 0 17 (nI a)) 0 18 (nI b) 0 j = N0 0 j := fun j x y z => by rw [q_wr_n2 z, q_wr_n2 y]; exact h4 j x y z
  have f1 : ∀ q, (1 ≤ q ∧ q ≤ 6) ∨ q = 10 ∨ 17 < q → mm_wr (mm_wr N 0 17 (nI a)) 0 18 (nI b) q = N0 q := fun q hq => by rw [q_wr_ne (by omega), q_wr_ne (by omega)]; exact h3 q hq
  have ne : NE S (mm_wr (mm_wr N 0 17 (nI a)) 0 18 (nI b)) := NE.k (N := N0) (f0 13 (by omega) (by omega) (by omega)) (f1 10 (by omega)) hn.2.1
  obtain ⟨N', e1, e2, e3⟩ := rx_runs ho (om_ok ok h12 hd ha hb) cT ne
  have eA : st_E S (fun i => !(bt (mm_wr (mm_wr N 0 17 (nI a)) 0 18 (nI b) 0 15) i)) = st_A S := by rw [f0 15 (by omega) (by omega) (by omega)]; exact ni_A hn
  rw [eA] at e3
  refine ⟨N', e1, ⟨⟨?_, ?_, fun k hk => ?_, fun w hw => ?_, m, t5, ?_, fun i hi => ?_, Or.inl ⟨em, q_wr_eq⟩⟩, ?_, fun q hq => by rw [e2 q (by omega)]; exact f1 q hq, fun j x y z => by rw [e2 0 (by omega)]; exact f0 j x y z⟩, e3⟩
  · rw [q_wr_n2 (by decide), e2 0 (by omega)]; simp (disch := omega) only [q_wr_n2] at t1 ⊢; exact t1
  · rw [q_wr_n2 (by decide), e2 0 (by omega)]; simp (disch := omega) only [q_wr_n2] at t2 ⊢; exact t2
  · have := t3 k hk
    rw [q_wr_ne (by decide), e2 7 (by omega)]; simp (disch := omega) only [q_wr_ne] at this ⊢; exact this
  · have := t4 w hw
    rw [q_wr_ne (by decide), e2 8 (by omega)]; simp (disch := omega) only [q_wr_ne] at this ⊢; exact this
  · rw [q_wr_n2 (by decide), e2 0 (by omega)]; simp (disch := omega) only [q_wr_n2] at t6 ⊢; exact t6
  · have := t7 i hi
    rw [q_wr_ne (by decide), e2 9 (by omega)]; simp (disch := omega) only [q_wr_ne] at this ⊢; exact this
  · rw [e2 0 (by omega)]; simp (disch := omega) only [q_wr_n2]; exact h2
/-- what is owed yet: a small number -/
theorem owed_L {T : md_T} {E : Nat → Nat → Bool} (h : md_ok T) : ∀ f i u, i + f = T 0 3 → u ≤ 9 * i → ∃ v, v ≤ 9 * (i + f) ∧ md_fold (fun w s => if md_tr T E 24 1 w = 0 ∨ md_tr T E 24 1 w = 3 then s + nI (md_tr T E 24 2 w) else s) f i (nI u) = nI v
  | 0, i, u, hi, hu => ⟨u, by omega, rfl⟩
  | f + 1, i, u, hi, hu => by
    have b := ((md_tr_ok (E := E) h 24).1 i (by omega)).2.1
    rw [md_fold]
    by_cases c : md_tr T E 24 1 i = 0 ∨ md_tr T E 24 1 i = 3
    · obtain ⟨v, v1, v2⟩ := owed_L (E := E) h f (i + 1) (u + md_tr T E 24 2 i) (by omega) (by omega)
      refine ⟨v, by omega, ?_⟩
      rw [if_pos c, nI_add]
      exact v2
    · obtain ⟨v, v1, v2⟩ := owed_L (E := E) h f (i + 1) u (by omega) (by omega)
      refine ⟨v, by omega, ?_⟩
      rw [if_neg c]
      exact v2
theorem owed_b {T : md_T} {E : Nat → Nat → Bool} (h : md_ok T) : ∃ v, v ≤ 108 ∧ mq_owed T E = nI v := by
  have o2 := h.2.1
  obtain ⟨v, v1, v2⟩ := owed_L (E := E) h (T 0 3) 0 0 (by omega) (by omega)
  exact ⟨v, by omega, v2⟩
