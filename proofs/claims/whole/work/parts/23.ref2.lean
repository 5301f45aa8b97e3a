theorem q_gsub {u c : Nat} (hu : u < 2 ^ 30) (hc : c < 2 ^ 30) : fX7_greater (nI u - nI c) (nI 0) = nI (u - c) := by
  by_cases h : c ≤ u
  · rw [pk_sub h, q_greater (by omega) (by omega)]; congr 1; omega
  · unfold fX7_greater
    have h1 : nI u - nI c < 0 := pk_sneg hc (by omega)
    rw [if_pos (show nI u - nI c ≤ nI 0 from Int32.le_of_lt h1)]
    congr 1; omega
theorem rr_J172 {N : mm_M} {w u c : Nat} (hw : w < 12) (hu : u < 100) (hc : c < 100) : fX7_says_J172 (nI w) (nI c) (nI u) (nI w) N = some (mm_wr (mm_wr N 12 w (nI (u - c))) 11 w (if u - c = 0 then nI 1 else nI 0)) := by
  unfold fX7_says_J172
  simp (disch := omega) only [q_lit, q_gsub, q_wa, q_rd, Option.bind_some, q_wr, and_self, if_true, nI_eq]
  split <;> rfl
theorem rr_s_11 {T s : md_T} {N : mm_M} (h : rr_s T s N) {w : Nat} (hw : w < T 0 3) : N 11 w = nI (s 1 w) := (h.1 w hw).1
theorem rr_s_12 {T s : md_T} {N : mm_M} (h : rr_s T s N) {w : Nat} (hw : w < T 0 3) : N 12 w = nI (s 2 w) := (h.1 w hw).2
theorem rr_s_13 {T s : md_T} {N : mm_M} (h : rr_s T s N) {w : Nat} (hw : w < T 0 0) : N 13 w = nI (s 3 w) := (h.2 w hw).1
theorem rr_s_14 {T s : md_T} {N : mm_M} (h : rr_s T s N) {w : Nat} (hw : w < T 0 0) : N 14 w = nI (s 4 w) := (h.2 w hw).2
/-- one number of the state is written, on both sides -/
theorem rr_s_up {T s : md_T} {N : mm_M} (h : rr_s T s N) {o j v : Nat} (ho : 1 ≤ o ∧ o ≤ 4) : rr_s T (md_up s o j v) (mm_wr N (10 + o) j (nI v)) := by
  refine ⟨fun w hw => ⟨?_, ?_⟩, fun k hk => ⟨?_, ?_⟩⟩
  · rw [q_wr, md_up]
    by_cases e : 1 = o ∧ w = j
    · rw [if_pos (by omega), if_pos e]
    · rw [if_neg (by omega), if_neg e]; exact rr_s_11 h hw
  · rw [q_wr, md_up]
    by_cases e : 2 = o ∧ w = j
    · rw [if_pos (by omega), if_pos e]
    · rw [if_neg (by omega), if_neg e]; exact rr_s_12 h hw
  · rw [q_wr, md_up]
    by_cases e : 3 = o ∧ k = j
    · rw [if_pos (by omega), if_pos e]
    · rw [if_neg (by omega), if_neg e]; exact rr_s_13 h hk
  · rw [q_wr, md_up]
    by_cases e : 4 = o ∧ k = j
    · rw [if_pos (by omega), if_pos e]
    · rw [if_neg (by omega), if_neg e]; exact rr_s_14 h hk
theorem rr_says {T s : md_T} {E : Nat → Nat → Bool} {B : Nat} {N : mm_M} (hC : rr_C T E N) (hs : md_sok T s B) (hB : B < 10000) (hr : rr_s T s N) {d a b : Nat} (ha : a < T 0 0) (hb : b < 8) (hd : d < 24) : ∃ N', fX7_says (nI d) (nI a) (nI b) N = some N' ∧ rr_f N N' ∧ rr_s T (md_say T E d a b s) N' := by
  obtain ⟨⟨o1, o2, o3, o4, o5, o6⟩, ⟨h7, h9, hp, hw, -⟩, hE⟩ := id hC
  have ha8 : a < 8 := by omega
  have hL := rr_least_L hC hr (x1 := nI d) ha8 hb hs
  unfold fX7_says
  have e1 : (-1 : Int32) = rr_enc (T 0 3) (md_fst (md_isw T s a b) (T 0 3 - T 0 3) (T 0 3)) := by
    rw [Nat.sub_self]; simp [md_fst, rr_enc]
  have hk := fun k => hL k (T 0 3) 1000 (Nat.le_refl _) (by omega)
  rw [← e1] at hk
  rw [h9, q_sub1, hk]
  by_cases hl : md_least T s a b < T 0 3
  · obtain ⟨p1, p2⟩ := hp a ha
    obtain ⟨t1, t2⟩ := o4 a ha
    obtain ⟨u1, u2, u3⟩ := hs.1 _ hl
    obtain ⟨v1, v2⟩ := hs.2 a ha
    have r4 := rr_s_14 hr ha
    have r3 := rr_s_13 hr ha
    have r2 := rr_s_12 hr hl
    rw [rr_enc, if_pos hl]
    rw [if_neg (q_m1 (by omega))]
    simp (disch := omega) only [q_lit, q_rd, q_wa, Option.bind_some, pk_mul, nI_add, p1, r4, nI_eq]
    by_cases c2 : T 1 a = 2
    · rw [if_pos c2]
      refine ⟨N, rfl, rr_f.rf, ?_⟩
      rw [md_say, if_neg (by omega)]; exact hr
    · rw [if_neg c2]
      have hs1 := rr_s_up hr (o := 4) (j := a) (v := s 4 a + 1) (by omega)
      have hf1 : rr_f N (mm_wr N 14 a (nI (s 4 a + 1))) := rr_f_wr (by omega)
      have hJ : ∃ N', fX7_says_J123 (nI d) (nI a) (nI (md_least T s a b)) (mm_wr N 14 a (nI (s 4 a + 1))) = some N' ∧ rr_f N N' ∧ rr_s T (if E d a = true then md_up (md_up s 4 a (s 4 a + 1)) 3 a (s 3 a + 1) else md_pay T (md_up (md_up s 4 a (s 4 a + 1)) 3 a (s 3 a + 1)) a (md_least T s a b)) N' := by
        unfold fX7_says_J123
        have hs2 := rr_s_up hs1 (o := 3) (j := a) (v := s 3 a + 1) (by omega)
        have hf2 : rr_f N (mm_wr (mm_wr N 14 a (nI (s 4 a + 1))) 13 a (nI (s 3 a + 1))) := hf1.tr (rr_f_wr (by omega))
        simp (disch := omega) only [q_lit, q_rd, q_wa, Option.bind_some, q_wr_ne, q_wr_eq, r3, r2, p1, nI_add, pk_mul, rr_echo (hC.keep hf2).2.2 hd ha8]
        by_cases c5 : E d a = true
        · rw [if_pos c5, if_pos c5, if_neg (by decide)]
          exact ⟨_, rfl, hf2, hs2⟩
        · rw [if_neg c5, if_neg c5, if_pos rfl]
          have key : ∀ c : Nat, c = (if T 1 a = 3 then 2 else 1) → ∃ N', fX7_says_J172 (nI (md_least T s a b)) (nI c) (nI (s 2 (md_least T s a b))) (nI (md_least T s a b)) (mm_wr (mm_wr N 14 a (nI (s 4 a + 1))) 13 a (nI (s 3 a + 1))) = some N' ∧ rr_f N N' ∧ rr_s T (md_pay T (md_up (md_up s 4 a (s 4 a + 1)) 3 a (s 3 a + 1)) a (md_least T s a b)) N' := by
            intro c hc
            have c9 : c < 100 := by rw [hc]; split <;> omega
            rw [rr_J172 (by omega) (by omega) c9]
            refine ⟨_, rfl, (hf2.tr (rr_f_wr (by omega))).tr (rr_f_wr (by omega)), ?_⟩
            have e2 : (md_up (md_up s 4 a (s 4 a + 1)) 3 a (s 3 a + 1)) 2 (md_least T s a b) = s 2 (md_least T s a b) := by simp [md_up]
            have h3 := rr_s_up hs2 (o := 2) (j := md_least T s a b) (v := s 2 (md_least T s a b) - c) (by omega)
            have h4 := rr_s_up h3 (o := 1) (j := md_least T s a b) (v := if s 2 (md_least T s a b) - c = 0 then 1 else 0) (by omega)
            unfold md_pay
            rw [e2, ← hc]
            have e3 : (if s 2 (md_least T s a b) - c = 0 then nI 1 else nI 0) = nI (if s 2 (md_least T s a b) - c = 0 then 1 else 0) := by split <;> rfl
            rw [e3]
            exact h4
          simp (disch := omega) only [nI_eq]
          by_cases c6 : T 1 a = 3
          · simp only [if_pos c6]; exact key 2 (by simp [c6])
          · simp only [if_neg c6]; exact key 1 (by simp [c6])
      simp (disch := omega) only [q_wr_ne, q_wr_eq, p1, nI_eq, pk_rem]
      by_cases c3 : T 1 a = 1
      · rw [if_pos c3]
        by_cases c4 : (s 4 a + 1) % 2 = 1
        · rw [if_pos c4]
          refine ⟨_, rfl, hf1, ?_⟩
          rw [md_say, if_pos ⟨hl, c2⟩, if_pos ⟨c3, c4⟩]; exact hs1
        · rw [if_neg c4, md_say, if_pos ⟨hl, c2⟩, if_neg (fun q => c4 q.2)]
          exact hJ
      · rw [if_neg c3, md_say, if_pos ⟨hl, c2⟩, if_neg (fun q => c3 q.1)]
        exact hJ
  · rw [rr_enc, if_neg hl]
    simp only [if_true]
    refine ⟨N, rfl, rr_f.rf, ?_⟩
    rw [md_say, if_neg (by omega)]; exact hr
theorem rr_talk {T s : md_T} {E : Nat → Nat → Bool} {B : Nat} {N : mm_M} (hC : rr_C T E N) (hs : md_sok T s B) (hB : B < 9000) (hr : rr_s T s N) {d a b : Nat} (ha : a < 8) (hb : b < 8) (hd : d < 24) : ∃ N', fX7_talk (nI d) (nI a) (nI b) N = some N' ∧ rr_f N N' ∧ rr_s T (md_talk T E d a b s) N' := by
  obtain ⟨⟨o1, o2, o3, o4, o5, o6⟩, ⟨h7, h9, hp, hw, -⟩, hE⟩ := id hC
  unfold fX7_talk
  simp (disch := omega) only [q_isPersonN h7, Option.bind_some, q_if10, nI_eq]
  by_cases c1 : a < T 0 0
  · rw [if_pos c1]
    by_cases c2 : b < T 0 0
    · rw [if_pos c2]
      by_cases c3 : a = b
      · rw [if_pos c3]
        refine ⟨N, rfl, rr_f.rf, ?_⟩
        rw [md_talk, if_neg (by rw [md_two_iff]; omega)]; exact hr
      · rw [if_neg c3]
        simp only [rr_dead hC (show d ≤ 24 by omega) c1, rr_dead hC (show d ≤ 24 by omega) c2, Option.bind_some, q_if01]
        by_cases c4 : d ≤ T 2 a
        · rw [if_pos c4]
          by_cases c5 : d ≤ T 2 b
          · rw [if_pos c5]
            obtain ⟨N1, e1, e2, e3⟩ := rr_says hC hs (by omega) hr (b := b) c1 hb hd
            obtain ⟨N2, g1, g2, g3⟩ := rr_says (hC.keep e2) (md_say_ok hs) (by omega) e3 (b := a) c2 ha hd
            rw [e1, Option.bind_some, g1]
            refine ⟨N2, rfl, e2.tr g2, ?_⟩
            rw [md_talk, if_pos ⟨md_two_iff.mpr ⟨c3, c1, c2⟩, c4, c5⟩]; exact g3
          · rw [if_neg c5]
            refine ⟨N, rfl, rr_f.rf, ?_⟩
            rw [md_talk, if_neg (fun q => c5 q.2.2)]; exact hr
        · rw [if_neg c4]
          refine ⟨N, rfl, rr_f.rf, ?_⟩
          rw [md_talk, if_neg (fun q => c4 q.2.1)]; exact hr
    · rw [if_neg c2]
      refine ⟨N, rfl, rr_f.rf, ?_⟩
      rw [md_talk, if_neg (by rw [md_two_iff]; omega)]; exact hr
  · rw [if_neg c1]
    refine ⟨N, rfl, rr_f.rf, ?_⟩
    rw [md_talk, if_neg (by rw [md_two_iff]; omega)]; exact hr
