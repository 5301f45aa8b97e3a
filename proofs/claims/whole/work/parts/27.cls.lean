/-! THE CLASS's Course over the model: t a Told, r a Course -/
def cc_T (T : md_T) (t : Nat) (M : mm_M) : Prop :=
  M t 0 = nI (T 0 0) ∧ M t 3 = nI (T 0 3) ∧ M t 7 = nI (T 0 7) ∧ (∀ k, k < T 0 0 → M (t + 1) k = nI (T 1 k) ∧ M (t + 2) k = nI (T 2 k)) ∧ (∀ w, w < T 0 3 → M (t + 3) w = nI (T 3 w) ∧ M (t + 4) w = nI (T 4 w) ∧ M (t + 5) w = nI (T 5 w)) ∧ ∀ i, i < T 0 7 → M (t + 6) i = nI (T 6 i) ∧ M (t + 7) i = nI (T 7 i) ∧ M (t + 8) i = nI (T 8 i)
def cc_ad (r t : Nat) : Prop := 24 ≤ t ∧ t ≤ 33 ∧ 42 ≤ r
/-- what stays while days pass: what is told, how many words -/
def cc_C (T : md_T) (r t : Nat) (M : mm_M) : Prop := md_ok T ∧ cc_T T t M ∧ M r 0 = nI (T 0 3)
theorem cc_T.keep {T : md_T} {t : Nat} {M M' : mm_M} (hf : ∀ q, t ≤ q → q ≤ t + 8 → M' q = M q) (h : cc_T T t M) : cc_T T t M' := by
  unfold cc_T at h ⊢
  rw [hf t (by omega) (by omega), hf (t + 1) (by omega) (by omega), hf (t + 2) (by omega) (by omega), hf (t + 3) (by omega) (by omega), hf (t + 4) (by omega) (by omega), hf (t + 5) (by omega) (by omega), hf (t + 6) (by omega) (by omega), hf (t + 7) (by omega) (by omega), hf (t + 8) (by omega) (by omega)]
  exact h
/-- only the four rows of the state change -/
def cc_f (r : Nat) (M M' : mm_M) : Prop := ∀ q, q < r + 1 ∨ r + 4 < q → M' q = M q
theorem cc_f.rf {r : Nat} {M : mm_M} : cc_f r M M := fun _ _ => rfl
theorem cc_f.tr {r : Nat} {A B C : mm_M} (h : cc_f r A B) (g : cc_f r B C) : cc_f r A C := fun q hq => (g q hq).trans (h q hq)
theorem cc_f_wr {r k i : Nat} {M : mm_M} {x : Int32} (h : r + 1 ≤ k ∧ k ≤ r + 4) : cc_f r M (mm_wr M k i x) := fun q hq => q_wr_ne (by omega)
theorem cc_C.keep {T : md_T} {r t : Nat} {M M' : mm_M} (ha : cc_ad r t) (hf : cc_f r M M') (h : cc_C T r t M) : cc_C T r t M' := by
  obtain ⟨a1, a2, a3⟩ := ha
  exact ⟨h.1, h.2.1.keep (fun q h1 h2 => hf q (by omega)), by rw [hf r (by omega)]; exact h.2.2⟩
def cc_s (r : Nat) (T s : md_T) (M : mm_M) : Prop := (∀ w, w < T 0 3 → M (r + 1) w = nI (s 1 w) ∧ M (r + 2) w = nI (s 2 w)) ∧ ∀ k, k < T 0 0 → M (r + 3) k = nI (s 3 k) ∧ M (r + 4) k = nI (s 4 k)
theorem cc_s_up {r : Nat} {T s : md_T} {M : mm_M} (h : cc_s r T s M) {o j v : Nat} (ho : 1 ≤ o ∧ o ≤ 4) : cc_s r T (md_up s o j v) (mm_wr M (r + o) j (nI v)) := by
  refine ⟨fun w hw => ⟨?_, ?_⟩, fun k hk => ⟨?_, ?_⟩⟩
  · rw [q_wr, md_up]
    by_cases e : 1 = o ∧ w = j
    · rw [if_pos (by omega), if_pos e]
    · rw [if_neg (by omega), if_neg e]; exact (h.1 w hw).1
  · rw [q_wr, md_up]
    by_cases e : 2 = o ∧ w = j
    · rw [if_pos (by omega), if_pos e]
    · rw [if_neg (by omega), if_neg e]; exact (h.1 w hw).2
  · rw [q_wr, md_up]
    by_cases e : 3 = o ∧ k = j
    · rw [if_pos (by omega), if_pos e]
    · rw [if_neg (by omega), if_neg e]; exact (h.2 k hk).1
  · rw [q_wr, md_up]
    by_cases e : 4 = o ∧ k = j
    · rw [if_pos (by omega), if_pos e]
    · rw [if_neg (by omega), if_neg e]; exact (h.2 k hk).2
theorem q_min {a b : Nat} (ha : a < 2 ^ 31) (hb : b < 2 ^ 31) : mm_min (nI a) (nI b) = nI (min a b) := by
  unfold mm_min
  simp only [nI_ltI hb ha]
  split
  · congr 1; omega
  · congr 1; omega
theorem q_max {a b : Nat} (ha : a < 2 ^ 31) (hb : b < 2 ^ 31) : mm_max (nI a) (nI b) = nI (max a b) := by
  unfold mm_max
  simp only [nI_ltI ha hb]
  split
  · congr 1; omega
  · congr 1; omega
theorem cc_grow_L {T s : md_T} {r t B : Nat} (ha : cc_ad r t) (hs : md_sok T s B) : ∀ (f i n : Nat) (M : mm_M), i + f = T 0 3 → f < n → cc_C T r t M → (∀ w, w < T 0 3 → M (r + 1) w = nI (s 1 w)) → (∀ w, i ≤ w → w < T 0 3 → M (r + 2) w = nI (s 2 w)) →
    ∃ M', fX1_growDebts_L2 r t n (nI i) M = some M' ∧ (∀ q, q ≠ r + 2 → M' q = M q) ∧ (∀ w, w < i → M' (r + 2) w = M (r + 2) w) ∧ ∀ w, i ≤ w → w < T 0 3 → M' (r + 2) w = nI (md_gr T s 2 w)
  | 0, i, n + 1, M, hi, hn, hC, h11, h12 => by
    have := hC.1.2.1
    refine ⟨M, ?_, fun _ _ => rfl, fun _ _ => rfl, fun w h1 h2 => by omega⟩
    rw [fX1_growDebts_L2, hC.2.2, if_pos (by rw [nI_leI (by omega) (by omega)]; omega)]
  | f + 1, i, n + 1, M, hi, hn, hC, h11, h12 => by
    obtain ⟨a1, a2, a3⟩ := id ha
    obtain ⟨⟨o1, o2, o3, o4, o5, o6⟩, ⟨g1, g2, g3, hp, hw, -⟩, h9⟩ := id hC
    have hi' : i < T 0 3 := by omega
    have b11 := h11 i hi'
    have b12 := h12 i (Nat.le_refl _) hi'
    obtain ⟨w1, w2, w3⟩ := hw i hi'
    obtain ⟨t3, t4, t5⟩ := o5 i hi'
    obtain ⟨s1, s2, s3⟩ := hs.1 i hi'
    rw [fX1_growDebts_L2, h9, if_neg (by rw [nI_leI (by omega) (by omega)]; omega)]
    simp (disch := omega) only [q_lit, q_rd, q_wa, Option.bind_some, nI_add, nI_eq, b11, b12, w1]
    by_cases h0 : s 1 i = 0
    · have hl := s3 h0
      have p1 := (hp (T 3 i) hl.1).1
      have p2 := (o4 (T 3 i) hl.1).1
      rw [if_pos h0]
      have key : ∀ c, c = (if T 1 (T 3 i) = 3 then 2 else 1) → ∃ M', fX1_growDebts_J39 r t (nI i) (nI c) (fX1_growDebts_L2 r t n) M = some M' ∧ (∀ q, q ≠ r + 2 → M' q = M q) ∧ (∀ w, w < i → M' (r + 2) w = M (r + 2) w) ∧ ∀ w, i ≤ w → w < T 0 3 → M' (r + 2) w = nI (md_gr T s 2 w) := by
        intro c hc
        have c2 : c ≤ 2 := by rw [hc]; split <;> omega
        unfold fX1_growDebts_J39
        simp (disch := omega) only [q_lit, q_rd, q_wa, Option.bind_some, nI_add, b12, q_min]
        have hv : min (s 2 i + c) 9 = md_gr T s 2 i := by simp [md_gr, h0, hi', hc]
        rw [hv]
        obtain ⟨M', e1, e2, e3, e4⟩ := cc_grow_L ha hs f (i + 1) n (mm_wr M (r + 2) i (nI (md_gr T s 2 i))) (by omega) (by omega) (hC.keep ha (cc_f_wr (by omega))) (fun w hw => by rw [q_wr_ne (by omega)]; exact h11 w hw) (fun w h1 h2 => by rw [q_wr_n2 (by omega)]; exact h12 w (by omega) h2)
        refine ⟨M', e1, fun q hq => by rw [e2 q hq, q_wr_ne hq], fun w hw => by rw [e3 w (by omega), q_wr_n2 (by omega)], fun w h1 h2 => ?_⟩
        by_cases e : w = i
        · subst e
          rw [e3 w (by omega), q_wr_eq]
        · exact e4 w (by omega) h2
      simp (disch := omega) only [p1, nI_eq]
      by_cases c1 : T 1 (T 3 i) = 3
      · simp only [if_pos c1]; exact key 2 (by simp [c1])
      · simp only [if_neg c1]; exact key 1 (by simp [c1])
    · rw [if_neg h0]
      obtain ⟨M', e1, e2, e3, e4⟩ := cc_grow_L ha hs f (i + 1) n M (by omega) (by omega) hC h11 (fun w h1 h2 => h12 w (by omega) h2)
      refine ⟨M', e1, e2, fun w hw => e3 w (by omega), fun w h1 h2 => ?_⟩
      by_cases e : w = i
      · subst e
        rw [e3 w (by omega), b12]
        simp [md_gr, h0]
      · exact e4 w (by omega) h2
theorem cc_grow {T s : md_T} {r t B : Nat} {M : mm_M} (ha : cc_ad r t) (hC : cc_C T r t M) (hs : md_sok T s B) (hr : cc_s r T s M) : ∃ M', fX1_growDebts r t M = some M' ∧ cc_f r M M' ∧ cc_s r T (md_gr T s) M' := by
  have hb := hC.1.2.1
  obtain ⟨M', e1, e2, e3, e4⟩ := cc_grow_L ha hs (T 0 3) 0 1000 M (by omega) (by omega) hC (fun w hw => (hr.1 w hw).1) (fun w _ hw => (hr.1 w hw).2)
  refine ⟨M', e1, fun q hq => e2 q (by omega), fun w hw => ⟨?_, e4 w (by omega) hw⟩, fun k hk => ?_⟩
  · rw [e2 (r + 1) (by omega), (hr.1 w hw).1]; simp [md_gr]
  · rw [e2 (r + 3) (by omega), e2 (r + 4) (by omega), (hr.2 k hk).1, (hr.2 k hk).2]; simp [md_gr]
theorem cc_least_L {T s : md_T} {r t B : Nat} {M : mm_M} (hC : cc_C T r t M) (hr : cc_s r T s M) (hs : md_sok T s B) {a b : Nat} (ha : a < 8) (hb : b < 8) : ∀ (f i n : Nat), i + f = T 0 3 → f < n → fX1_leastOpen_L3 r t (nI b) (nI a) M n (nI i) = some (rr_enc (T 0 3) (md_fst (md_isw T s a b) f i))
  | 0, i, n + 1, hi, hn => by
    have := hC.1.2.1
    rw [fX1_leastOpen_L3, hC.2.2, if_pos (by rw [nI_leI (by omega) (by omega)]; omega)]
    rw [md_fst, rr_enc, if_neg (by omega)]
  | f + 1, i, n + 1, hi, hn => by
    obtain ⟨⟨o1, o2, o3, o4, o5, o6⟩, ⟨g1, g2, g3, hp, hw, -⟩, h9⟩ := id hC
    have ih := cc_least_L hC hr hs ha hb f (i + 1) n (by omega) (by omega)
    obtain ⟨w1, w2, w3⟩ := hw i (by omega)
    obtain ⟨t3, t4, t5⟩ := o5 i (by omega)
    obtain ⟨s1, s2, s3⟩ := hs.1 i (by omega)
    have r1 := (hr.1 i (by omega)).1
    rw [fX1_leastOpen_L3, h9, if_neg (by rw [nI_leI (by omega) (by omega)]; omega)]
    simp (disch := omega) only [q_lit, q_rd, Option.bind_some, nI_add, r1, w1, w2, nI_eq, ih, md_fst]
    by_cases c1 : s 1 i = 0
    · rw [if_pos c1]
      by_cases c2 : T 3 i = b
      · rw [if_pos c2]
        by_cases c3 : T 4 i = a
        · rw [if_pos c3, if_pos (by simp [md_isw, c1, c2, c3]), rr_enc, if_pos (by omega)]
        · rw [if_neg c3, if_neg (by simp [md_isw, c3])]
      · rw [if_neg c2, if_neg (by simp [md_isw, c2])]
    · rw [if_neg c1, if_neg (by simp [md_isw, c1])]
theorem cc_least {T s : md_T} {r t B : Nat} {M : mm_M} (hC : cc_C T r t M) (hr : cc_s r T s M) (hs : md_sok T s B) {a b : Nat} (ha : a < 8) (hb : b < 8) : fX1_leastOpen r t (nI b) (nI a) M = some (rr_enc (T 0 3) (md_least T s a b)) := by
  have := hC.1.2.1
  have h := cc_least_L hC hr hs ha hb (T 0 3) 0 1000 (by omega) (by omega)
  exact h
/-- the day's echoes as bits -/
def cc_e (r : Nat) (E : Nat → Nat → Bool) (M : mm_M) : Prop := ∀ d, d < 24 → ∀ k, k < 8 → bt (M (r + 5) d) k = E d k
theorem cc_J81 {r : Nat} {M : mm_M} {w u c : Nat} (hw : w < 12) (hu : u < 100) (hc : c < 100) : ∃ M', fX1_speak_J81 r (nI w) (nI c) (nI u) (nI w) M = some M' ∧ (∀ q, q ≠ r + 1 → q ≠ r + 2 → M' q = M q) ∧ (∀ j, j ≠ w → M' (r + 1) j = M (r + 1) j ∧ M' (r + 2) j = M (r + 2) j) ∧ M' (r + 2) w = nI (u - c) ∧ M' (r + 1) w = if u - c = 0 then nI 1 else M (r + 1) w := by
  unfold fX1_speak_J81
  simp (disch := omega) only [q_lit, q_wa, q_rd, Option.bind_some, q_wr_eq]
  by_cases h : u ≤ c
  · have hz : ¬ nI 0 < nI u - nI c := by
      by_cases e : u = c
      · subst e; rw [pk_sub (Nat.le_refl _), Nat.sub_self]; decide
      · have h1 : nI u - nI c < 0 := pk_sneg (by omega) (by omega)
        intro q
        rw [Int32.lt_iff_toInt_lt] at q h1
        have z0 : (nI 0).toInt = 0 := by decide
        have z1 : (0 : Int32).toInt = 0 := by decide
        omega
    rw [if_neg hz]
    refine ⟨_, rfl, fun q h1 h2 => by rw [q_wr_ne h1, q_wr_ne h2, q_wr_ne h2], fun j hj => ⟨?_, ?_⟩, ?_, ?_⟩
    · rw [q_wr_n2 hj, q_wr_ne (by omega), q_wr_ne (by omega)]
    · rw [q_wr_ne (by omega), q_wr_n2 hj, q_wr_n2 hj]
    · rw [q_wr_ne (by omega), q_wr_eq]; congr 1; omega
    · rw [q_wr_eq, if_pos (by omega)]
  · rw [pk_sub (by omega)]
    simp (disch := omega) only [nI_ltI]
    rw [if_pos (by omega)]
    refine ⟨_, rfl, fun q h1 h2 => by rw [q_wr_ne h2], fun j hj => ⟨?_, ?_⟩, ?_, ?_⟩
    · rw [q_wr_ne (by omega)]
    · rw [q_wr_n2 hj]
    · rw [q_wr_eq]
    · rw [q_wr_ne (by omega), if_neg (by omega)]
theorem cc_speak {T s : md_T} {E : Nat → Nat → Bool} {r t B : Nat} {M : mm_M} (hC : cc_C T r t M) (he : cc_e r E M) (hs : md_sok T s B) (hB : B < 10000) (hr : cc_s r T s M) {d a b : Nat} (ha : a < T 0 0) (hb : b < 8) (hd : d < 24) : ∃ M', fX1_speak r (nI (T 1 a)) (nI d) (nI a) (rr_enc (T 0 3) (md_least T s a b)) M = some M' ∧ cc_f r M M' ∧ cc_s r T (md_say T E d a b s) M' := by
  obtain ⟨⟨o1, o2, o3, o4, o5, o6⟩, ⟨g1, g2, g3, hp, hw, -⟩, h9⟩ := id hC
  have t1 := (o4 a ha).1
  unfold fX1_speak
  by_cases hl : md_least T s a b < T 0 3
  · obtain ⟨u1, u2, u3⟩ := hs.1 _ hl
    obtain ⟨v1, v2⟩ := hs.2 a ha
    obtain ⟨r3, r4⟩ := hr.2 a ha
    obtain ⟨r1, r2⟩ := hr.1 _ hl
    rw [rr_enc, if_pos hl, if_neg (q_m1 (by omega))]
    simp (disch := omega) only [q_lit, nI_eq, q_rd, q_wa, Option.bind_some, r4, nI_add, q_wr_eq, pk_rem]
    by_cases c2 : T 1 a = 2
    · rw [if_pos c2]
      refine ⟨M, rfl, cc_f.rf, ?_⟩
      rw [md_say, if_neg (by omega)]; exact hr
    · rw [if_neg c2]
      have hs1 := cc_s_up hr (o := 4) (j := a) (v := s 4 a + 1) (by omega)
      have hf1 : cc_f r M (mm_wr M (r + 4) a (nI (s 4 a + 1))) := cc_f_wr (by omega)
      have hJ : ∃ M', fX1_speak_J39 r (nI (T 1 a)) (nI d) (nI a) (nI (md_least T s a b)) (mm_wr M (r + 4) a (nI (s 4 a + 1))) = some M' ∧ cc_f r M M' ∧ cc_s r T (if E d a = true then md_up (md_up s 4 a (s 4 a + 1)) 3 a (s 3 a + 1) else md_pay T (md_up (md_up s 4 a (s 4 a + 1)) 3 a (s 3 a + 1)) a (md_least T s a b)) M' := by
        unfold fX1_speak_J39
        have hs2 := cc_s_up hs1 (o := 3) (j := a) (v := s 3 a + 1) (by omega)
        have hf2 : cc_f r M (mm_wr (mm_wr M (r + 4) a (nI (s 4 a + 1))) (r + 3) a (nI (s 3 a + 1))) := hf1.tr (cc_f_wr (by omega))
        have hbit := he d hd a (by omega)
        simp (disch := omega) only [q_lit, q_rd, q_wa, Option.bind_some, q_wr_ne, q_wr_eq, r3, r2, nI_add, nI_eq]
        simp only [q_btN (show a < 32 by omega), hbit]
        by_cases c5 : E d a = true
        · rw [if_neg (by rw [c5]; decide), if_pos c5]
          exact ⟨_, rfl, hf2, hs2⟩
        · rw [if_pos (by simpa using c5), if_neg c5]
          have key : ∀ c : Nat, c = (if T 1 a = 3 then 2 else 1) → ∃ M', fX1_speak_J81 r (nI (md_least T s a b)) (nI c) (nI (s 2 (md_least T s a b))) (nI (md_least T s a b)) (mm_wr (mm_wr M (r + 4) a (nI (s 4 a + 1))) (r + 3) a (nI (s 3 a + 1))) = some M' ∧ cc_f r M M' ∧ cc_s r T (md_pay T (md_up (md_up s 4 a (s 4 a + 1)) 3 a (s 3 a + 1)) a (md_least T s a b)) M' := by
            intro c hc
            have c9 : c < 100 := by rw [hc]; split <;> omega
            obtain ⟨M', k1, k2, k3, k4, k5⟩ := cc_J81 (r := r) (M := mm_wr (mm_wr M (r + 4) a (nI (s 4 a + 1))) (r + 3) a (nI (s 3 a + 1))) (w := md_least T s a b) (u := s 2 (md_least T s a b)) (c := c) (by omega) (by omega) c9
            have e2 : (md_up (md_up s 4 a (s 4 a + 1)) 3 a (s 3 a + 1)) 2 (md_least T s a b) = s 2 (md_least T s a b) := by simp [md_up]
            have f4 : s 1 (md_least T s a b) = 0 := by
              obtain ⟨f1, f2, f3, f4⟩ := md_fst_spec (md_isw T s a b) (T 0 3) 0
              have f4 := f4 (by rw [Nat.zero_add]; exact hl)
              simp only [md_isw, Bool.and_eq_true, beq_iff_eq] at f4
              exact f4.1
            refine ⟨M', k1, fun q hq => by rw [k2 q (by omega) (by omega)]; exact hf2 q hq, fun w hw => ?_, fun k hk => ?_⟩
            · unfold md_pay
              rw [e2, ← hc]
              by_cases e : w = md_least T s a b
              · subst e
                rw [k4, k5]
                refine ⟨?_, by simp [md_up]⟩
                rw [(hs2.1 _ hw).1]
                simp only [md_up, and_self, if_true]
                split
                · rfl
                · simp [f4]
              · obtain ⟨m1, m2⟩ := k3 w e
                rw [m1, m2, (hs2.1 w hw).1, (hs2.1 w hw).2]
                simp [md_up, e]
            · rw [k2 (r + 3) (by omega) (by omega), k2 (r + 4) (by omega) (by omega), (hs2.2 k hk).1, (hs2.2 k hk).2]
              simp [md_pay, md_up]
          by_cases c6 : T 1 a = 3
          · simp only [if_pos c6]; exact key 2 (by simp [c6])
          · simp only [if_neg c6]; exact key 1 (by simp [c6])
      by_cases c3 : T 1 a = 1
      · rw [if_pos c3]
        by_cases c4 : (s 4 a + 1) % 2 = 0
        · rw [if_pos c4, md_say, if_pos ⟨hl, c2⟩, if_neg (by omega)]
          exact hJ
        · rw [if_neg c4, md_say, if_pos ⟨hl, c2⟩, if_pos ⟨c3, by omega⟩]
          exact ⟨_, rfl, hf1, hs1⟩
      · rw [if_neg c3, md_say, if_pos ⟨hl, c2⟩, if_neg (fun q => c3 q.1)]
        exact hJ
  · rw [rr_enc, if_neg hl, if_pos rfl]
    refine ⟨M, rfl, cc_f.rf, ?_⟩
    rw [md_say, if_neg (by omega)]; exact hr
