/-! THE RELATION of the class's memory M and the reference's N, by the numbers S -/
def st_E (S : md_T) (p : Nat → Bool) (d k : Nat) : Bool := md_any (fun i => (S 5 i == d) && ((S 6 i == k) && p i)) (S 4 0) 0
def st_o (S : md_T) : Prop := (∀ t, t < 3 → S 0 t ≤ pa_cap t ∧ ∀ i, i < S 0 t → S (1 + t) i < 256) ∧ S 4 0 ≤ 8 ∧ (∀ i, i < S 4 0 → S 5 i < 24 ∧ S 6 i < 8) ∧ S 4 1 ≤ 8 ∧ ∀ i, i < S 4 1 → S 7 i < 24 ∧ S 8 i < 12 ∧ S 9 i < 10
def RN (S : md_T) (N : mm_M) : Prop := (∀ t, t < 3 → N 6 t = nI (S 0 t) ∧ ∀ i, i < S 0 t → N 5 (48 * t + i) = nI (S (1 + t) i)) ∧ (N 0 13 = nI (S 4 0) ∧ ∀ i, i < S 4 0 → N 10 (2 * i) = nI (S 5 i) ∧ N 10 (2 * i + 1) = nI (S 6 i)) ∧ (N 0 27 = nI (S 4 1) ∧ ∀ i, i < S 4 1 → N 19 (3 * i) = nI (S 7 i) ∧ N 19 (3 * i + 1) = nI (S 8 i) ∧ N 19 (3 * i + 2) = nI (S 9 i)) ∧ N 0 15 = nI 0 ∧ N 0 16 = -1
theorem st_tx {S : md_T} {N : mm_M} (ho : st_o S) (h : RN S N) : tx_R S N := fun t ht => ⟨(ho.1 t ht).1, (h.1 t ht).1, fun i hi => ⟨(ho.1 t ht).2 i hi, (h.1 t ht).2 i hi⟩⟩
theorem st_ok {S : md_T} (ho : st_o S) : md_ok (pa_T S) := by
  refine pa_ok (S := S) (N := fun c j => if c = 6 then nI (S 0 j) else nI (S (1 + j / 48) (j % 48))) (fun t ht => ⟨(ho.1 t ht).1, rfl, fun i hi => ⟨(ho.1 t ht).2 i hi, ?_⟩⟩)
  have hc := (ho.1 t ht).1
  have : i < 48 := by unfold pa_cap at hc; split at hc <;> omega
  show nI (S (1 + (48 * t + i) / 48) ((48 * t + i) % 48)) = _
  rw [show (48 * t + i) / 48 = t by omega, show (48 * t + i) % 48 = i by omega]
/-- what the reference's calls leave as it was -/
def RW (N N' : mm_M) : Prop := (∀ q, (1 ≤ q ∧ q ≤ 3) ∨ q = 5 ∨ q = 6 ∨ q = 10 ∨ q = 19 → N' q = N q) ∧ ∀ j, j = 4 ∨ j = 13 ∨ j = 15 ∨ j = 16 ∨ j = 27 → N' 0 j = N 0 j
theorem RW.rf {N : mm_M} : RW N N := ⟨fun _ _ => rfl, fun _ _ => rfl⟩
theorem RW.tr {A B C : mm_M} (h : RW A B) (g : RW B C) : RW A C := ⟨fun q hq => (g.1 q hq).trans (h.1 q hq), fun j hj => (g.2 j hj).trans (h.2 j hj)⟩
theorem RN.keep {S : md_T} {N N' : mm_M} (hw : RW N N') (h : RN S N) : RN S N' := by
  unfold RN at h ⊢
  rw [hw.1 5 (by omega), hw.1 6 (by omega), hw.1 10 (by omega), hw.1 19 (by omega), hw.2 13 (by omega), hw.2 27 (by omega), hw.2 15 (by omega), hw.2 16 (by omega)]
  exact h
def tx_C (S : md_T) (M : mm_M) : Prop := ∀ t, t < 3 → M (2 + 2 * t) 0 = nI t ∧ M (2 + 2 * t) 1 = nI (pa_sp t) ∧ M (2 + 2 * t) 3 = nI (S 0 t) ∧ M (2 + 2 * t) 4 = rr_enc (S 0 t) (pa_w S t) ∧ ∀ i, i < S 0 t → M (2 + 2 * t + 1) i = pa_e (-1) (pa_at S t i)
def RC (S : md_T) (M : mm_M) : Prop := tx_C S M ∧ cc_T (pa_T S) 24 M ∧ (M 17 2 = nI (S 4 0) ∧ ∀ i, i < S 4 0 → M 18 i = nI (S 5 i) ∧ M 19 i = nI (S 6 i)) ∧ (M 20 3 = nI (S 4 1) ∧ ∀ i, i < S 4 1 → M 21 i = nI (S 7 i) ∧ M 22 i = nI (S 8 i) ∧ M 23 i = nI (S 9 i))
theorem RC.keep {S : md_T} {M M' : mm_M} (hf : ∀ q, 1 ≤ q → q < 33 → M' q = M q) (h : RC S M) : RC S M' := by
  obtain ⟨h1, h2, h3, h4⟩ := h
  refine ⟨fun t ht => ?_, h2.keep (fun q a b => hf q (by omega) (by omega)), ?_, ?_⟩
  · rw [hf (2 + 2 * t) (by omega) (by omega), hf (2 + 2 * t + 1) (by omega) (by omega)]; exact h1 t ht
  · rw [hf 17 (by omega) (by omega), hf 18 (by omega) (by omega), hf 19 (by omega) (by omega)]; exact h3
  · rw [hf 20 (by omega) (by omega), hf 21 (by omega) (by omega), hf 22 (by omega) (by omega), hf 23 (by omega) (by omega)]; exact h4
def od_n (S : md_T) (w z : Nat) : Nat → Nat
  | 0 => 0
  | m + 1 => od_n S w z m + (if fJ6_bitCount_0f7a4 (nI m) = nI z ∧ md_tr (pa_T S) (st_E S (fun i => bt (nI m) i)) 24 1 w = 1 then 1 else 0)
def st_A (S : md_T) : Nat → Nat → Bool := st_E S (fun _ => true)
def KC1 (S : md_T) (M : mm_M) : Prop := M 0 10 = nI 0 ∨ (M 0 10 = nI 1 ∧ M 42 0 = nI (pa_T S 0 3) ∧ cc_tr 42 (pa_T S) (st_A S) 24 M)
def KC2 (S : md_T) (M : mm_M) : Prop := M 0 11 = nI 0 ∨ (M 0 11 = nI 1 ∧ ∀ w, w < pa_T S 0 3 → ∀ z, z ≤ S 4 0 → M 69 (w * 9 + z) = nI (od_n S w z (2 ^ S 4 0)))
def KC (S : md_T) (M : mm_M) : Prop := KC1 S M ∧ KC2 S M
def SX (M N : mm_M) : Prop := M 0 12 = N 0 4 ∧ ∀ s, s < 4 → M (9 + 2 * s) 1 = N 1 s ∧ (N 1 s = -1 ∨ ∃ f z, f < 3 ∧ z ≤ 60 ∧ N 1 s = nI f ∧ M (9 + 2 * s) 2 = nI z ∧ N 2 s = nI z ∧ ∀ i, i < z → M (9 + 2 * s + 1) i = N 3 (60 * s + i))
def Rel (M N : mm_M) : Prop := ∃ S, st_o S ∧ RC S M ∧ RN S N ∧ KC S M ∧ SX M N
/-- a question of the class: only what it works with changes -/
def CQ (M M' : mm_M) : Prop := (∀ q, 1 ≤ q → q < 33 → M' q = M q) ∧ ∀ j, j ≠ 10 → j ≠ 11 → M' 0 j = M 0 j
theorem CQ.rf {M : mm_M} : CQ M M := ⟨fun _ _ _ => rfl, fun _ _ _ => rfl⟩
theorem CQ.tr {A B C : mm_M} (h : CQ A B) (g : CQ B C) : CQ A C := ⟨fun q a b => (g.1 q a b).trans (h.1 q a b), fun j a b => (g.2 j a b).trans (h.2 j a b)⟩
def CT (M M' : mm_M) : Prop := ∀ q, q < 33 ∨ (42 ≤ q ∧ q ≤ 54) ∨ q = 69 → M' q = M q
theorem CT.rf {M : mm_M} : CT M M := fun _ _ => rfl
theorem CT.tr {A B C : mm_M} (h : CT A B) (g : CT B C) : CT A C := fun q hq => (g q hq).trans (h q hq)
theorem CT.q {M M' : mm_M} (h : CT M M') : CQ M M' := ⟨fun q _ b => h q (by omega), fun j _ _ => by rw [h 0 (by omega)]⟩
theorem KC.ct {S : md_T} {M M' : mm_M} (h : CT M M') (k : KC S M) : KC S M' := by
  unfold KC KC1 KC2 cc_tr at k ⊢
  rw [h 0 (by omega), h 42 (by omega), h (42 + 9) (by omega), h (42 + 10) (by omega), h (42 + 11) (by omega), h 69 (by omega)]
  exact k
theorem SX.q {M M' N N' : mm_M} (h : CQ M M') (w : RW N N') (k : SX M N) : SX M' N' := by
  obtain ⟨k1, k2⟩ := k
  refine ⟨by rw [h.2 12 (by decide) (by decide), w.2 4 (by omega)]; exact k1, fun s hs => ?_⟩
  rw [h.1 (9 + 2 * s) (by omega) (by omega), h.1 (9 + 2 * s + 1) (by omega) (by omega), w.1 1 (by omega), w.1 2 (by omega), w.1 3 (by omega)]
  exact k2 s hs
theorem md_any_congr {P Q : Nat → Bool} : ∀ f i, (∀ j, i ≤ j → j < i + f → P j = Q j) → md_any P f i = md_any Q f i
  | 0, _, _ => rfl
  | f + 1, i, h => by
    rw [md_any, md_any, h i (by omega) (by omega), md_any_congr f (i + 1) (fun j a b => h j (by omega) (by omega))]
theorem st_E_congr {S : md_T} {p q : Nat → Bool} (h : ∀ i, i < S 4 0 → p i = q i) : st_E S p = st_E S q := by
  funext d k
  unfold st_E
  exact md_any_congr _ _ (fun j _ hj => by rw [h j (by omega)])
theorem st_E_iff {S : md_T} {p : Nat → Bool} {d k : Nat} : st_E S p d k = true ↔ ∃ i, i < S 4 0 ∧ S 5 i = d ∧ S 6 i = k ∧ p i = true := by
  unfold st_E
  rw [md_any_iff]
  simp only [Bool.and_eq_true, beq_iff_eq, Nat.zero_add]
  constructor
  · rintro ⟨j, -, h1, h2, h3, h4⟩; exact ⟨j, h1, h2, h3, h4⟩
  · rintro ⟨j, h1, h2, h3, h4⟩; exact ⟨j, Nat.zero_le _, h1, h2, h3, h4⟩
theorem RC.E {S : md_T} {M : mm_M} (ho : st_o S) (h : RC S M) (x : Int32) : cc_E (st_E S (fun i => bt x i)) x M := by
  obtain ⟨-, -, ⟨h1, h2⟩, -⟩ := h
  obtain ⟨-, o4, o5, -⟩ := ho
  refine ⟨S 4 0, o4, h1, fun i hi => ⟨S 5 i, S 6 i, (o5 i hi).1, (o5 i hi).2, (h2 i hi).1, (h2 i hi).2⟩, fun d k hd hk => ?_⟩
  rw [st_E_iff]
  constructor
  · rintro ⟨i, a, b, c, e⟩
    refine ⟨i, a, by rw [(h2 i a).1, b], by rw [(h2 i a).2, c], e⟩
  · rintro ⟨i, a, b, c, e⟩
    have u := o5 i a
    rw [(h2 i a).1, nI_eq (by omega) (by omega)] at b
    rw [(h2 i a).2, nI_eq (by omega) (by omega)] at c
    exact ⟨i, a, b, c, e⟩
theorem RC.all {S : md_T} {M : mm_M} (ho : st_o S) (h : RC S M) : st_E S (fun i => bt (fX2_all M) i) = st_A S := by
  refine st_E_congr (fun i hi => ?_)
  have o4 := ho.2.1
  unfold fX2_all
  rw [h.2.2.1.1, q_all (S 4 0) (by omega) i (by omega)]
  simp [hi]
theorem RC.allE {S : md_T} {M : mm_M} (ho : st_o S) (h : RC S M) : cc_E (st_A S) (fX2_all M) M := by
  have := h.E ho (fX2_all M)
  rwa [h.all ho] at this
/-- learnCourse: the Course of all that is told stands -/
theorem cl_learn {S : md_T} {M : mm_M} (ho : st_o S) (h : RC S M) (k : KC S M) : ∃ M', fX6_learnCourse M = some M' ∧ CQ M M' ∧ RC S M' ∧ KC S M' ∧ M' 42 0 = nI (pa_T S 0 3) ∧ cc_tr 42 (pa_T S) (st_A S) 24 M' := by
  unfold fX6_learnCourse
  rcases k.1 with k1 | ⟨k1, k2, k3⟩
  · obtain ⟨M1, e1, e2, e3, e4⟩ := cc_run (r := 42) (t := 24) ⟨by omega, by omega, by omega⟩ (st_ok ho) h.2.1 (h.allE ho)
    rw [k1, if_pos (show nI 0 = 0 from rfl), e1]
    simp only [Option.bind_some, q_pf, q_lit 1]
    have q : CQ M (mm_wr M1 0 10 (nI 1)) := ⟨fun q a b => by rw [q_wr_ne (by omega), e2 q (by omega)], fun j a b => by rw [q_wr_n2 a, e2 0 (by omega)]⟩
    refine ⟨_, rfl, q, h.keep q.1, ⟨Or.inr ⟨q_wr_eq, by rw [q_wr_ne (by decide)]; exact e3, ?_⟩, ?_⟩, by rw [q_wr_ne (by decide)]; exact e3, ?_⟩
    · unfold cc_tr at e4 ⊢; rw [q_wr_ne (by decide), q_wr_ne (by decide), q_wr_ne (by decide)]; exact e4
    · have k2 := k.2
      unfold KC2 at k2 ⊢
      rw [q_wr_n2 (by decide), q_wr_ne (by decide), e2 0 (by omega), e2 69 (by omega)]; exact k2
    · unfold cc_tr at e4 ⊢; rw [q_wr_ne (by decide), q_wr_ne (by decide), q_wr_ne (by decide)]; exact e4
  · rw [k1, if_neg (by decide)]
    exact ⟨M, rfl, CQ.rf, h, k, k2, k3⟩
/-- the reference behind its reading of the texts -/
def RQ (S : md_T) (N : mm_M) : Prop := RN S N ∧ rr_T (pa_T S) N
theorem RN.E {S : md_T} {N : mm_M} (ho : st_o S) (h : (N 0 13 = nI (S 4 0) ∧ ∀ i, i < S 4 0 → N 10 (2 * i) = nI (S 5 i) ∧ N 10 (2 * i + 1) = nI (S 6 i))) : rr_E (st_E S (fun i => !(bt (N 0 15) i))) N := by
  obtain ⟨h1, h2⟩ := h
  obtain ⟨-, o4, o5, -⟩ := ho
  refine ⟨S 4 0, o4, h1, fun d k hd hk => ?_⟩
  rw [st_E_iff]
  constructor
  · rintro ⟨i, a, b, c, e⟩
    refine ⟨i, a, by rw [(h2 i a).1, b], by rw [(h2 i a).2, c], ?_⟩
    rw [q_isIn (by omega), if_neg (by simpa using e)]
  · rintro ⟨i, a, b, c, e⟩
    have u := o5 i a
    rw [(h2 i a).1, nI_eq (by omega) (by omega)] at b
    rw [(h2 i a).2, nI_eq (by omega) (by omega)] at c
    refine ⟨i, a, b, c, ?_⟩
    rw [q_isIn (by omega)] at e
    cases hb : bt (N 0 15) i
    · rfl
    · rw [hb, if_pos rfl] at e; exact absurd e q_10
theorem RN.EA {S : md_T} {N : mm_M} (ho : st_o S) (h : RN S N) : rr_E (st_A S) N := by
  have := RN.E ho h.2.1
  have e : st_E S (fun i => !(bt (N 0 15) i)) = st_A S := by
    refine st_E_congr (fun i _ => ?_)
    have z : bt (nI 0) i = false := b_0 i
    rw [h.2.2.2.1, z]
    rfl
  rwa [e] at this
def RD (S : md_T) (N : mm_M) : Prop := RQ S N ∧ rr_s (pa_T S) (md_tr (pa_T S) (st_A S) 24) N ∧ rr_tr (pa_T S) (st_A S) 24 N
theorem rr_F.w {N N' : mm_M} (h : rr_F N N') : RW N N' := ⟨fun q hq => by
    by_cases e : q = 19
    · exact h q (by omega)
    · exact h q (by omega), fun j _ => by rw [h 0 (by omega)]⟩
theorem rr_T.F {T : md_T} {N N' : mm_M} (hf : rr_F N N') (h : rr_T T N) : rr_T T N' := by
  unfold rr_T at h ⊢; rw [hf 0 (by omega), hf 7 (by omega), hf 8 (by omega), hf 9 (by omega)]; exact h
theorem rl_runs {S : md_T} {N : mm_M} (ho : st_o S) (h : RQ S N) : ∃ N', fX7_runs N = some N' ∧ rr_F N N' ∧ RD S N' := by
  obtain ⟨N', e1, e2, e3, e4⟩ := rr_runs (E := st_A S) ⟨st_ok ho, h.2, h.1.EA ho⟩
  exact ⟨N', e1, e2, ⟨h.1.keep e2.w, h.2.F e2⟩, e3, e4⟩
theorem rl_reads {S : md_T} {N : mm_M} (ho : st_o S) (h : RN S N) : ∃ b1 b2 b3 : Int32 × mm_M, fX7_readsPeople N = some b1 ∧ fX7_readsWords b1.2 = some b2 ∧ fX7_readsMeetings b2.2 = some b3 ∧ RW N b3.2 ∧ RQ S b3.2 := by
  obtain ⟨N1, a1, a2, a3, a4, a5⟩ := pr_People (st_tx ho h)
  have w1 : RW N N1 := ⟨fun q hq => a2 q (by omega) (by omega), fun j hj => a3 j (by omega)⟩
  have h1 := h.keep w1
  obtain ⟨N2, b1, b2, b3, b4, b5⟩ := pr_Words (st_tx ho h1)
  have w2 : RW N1 N2 := ⟨fun q hq => b2 q (by omega) (by omega), fun j hj => b3 j (by omega)⟩
  have h2 := h1.keep w2
  obtain ⟨N3, c1, c2, c3, c4, c5⟩ := pr_Meetings (st_tx ho h2)
  have w3 : RW N2 N3 := ⟨fun q hq => c2 q (by omega) (by omega), fun j hj => c3 j (by omega)⟩
  have h3 := h2.keep w3
  refine ⟨_, _, _, a1, b1, c1, (w1.tr w2).tr w3, h3, ?_⟩
  have ok := st_ok ho
  have t0 : pa_T S 0 0 = pa_n S 0 := by simp [pa_T]
  have t3 : pa_T S 0 3 = pa_n S 1 := by simp [pa_T]
  have t7 : pa_T S 0 7 = pa_n S 2 := by simp [pa_T]
  have e7 : N3 7 = N1 7 := by rw [c2 7 (by decide) (by decide), b2 7 (by decide) (by decide)]
  have e8 : N3 8 = N2 8 := c2 8 (by decide) (by decide)
  have n12 : pa_n S 2 ≤ 12 := by
    have hc := (ho.1 2 (by omega)).1
    unfold pa_n pa_sp
    unfold pa_cap at hc
    simp at hc
    split <;> simp <;> omega
  refine ⟨?_, ?_, fun k hk => ?_, fun w hw => ?_, pa_n S 2, n12, c4, fun i hi => ?_, Or.inl ⟨t7, h3.2.2.2.2⟩⟩
  · show N3 0 7 = _
    rw [c3 7 (by decide), b3 7 (by decide), a4, t0]
  · show N3 0 9 = _
    rw [c3 9 (by decide), b4, t3]
  · show N3 7 _ = _ ∧ N3 7 _ = _
    rw [t0] at hk
    rw [e7]
    have g1 := a5 (3 * k) (by omega) (by omega)
    have g2 := a5 (3 * k + 1) (by omega) (by omega)
    rw [show 2 * (3 * k / 3) + 3 * k % 3 = 2 * k by omega] at g1
    rw [show 2 * ((3 * k + 1) / 3) + (3 * k + 1) % 3 = 2 * k + 1 by omega] at g2
    rw [g1, g2]; simp [pa_T]
  · show N3 8 _ = _ ∧ N3 8 _ = _ ∧ N3 8 _ = _
    rw [t3] at hw
    rw [e8]
    have g1 := b5 (4 * w) (by omega) (by omega)
    have g2 := b5 (4 * w + 1) (by omega) (by omega)
    have g3 := b5 (4 * w + 2) (by omega) (by omega)
    rw [show 3 * (4 * w / 4) + 4 * w % 4 = 3 * w by omega] at g1
    rw [show 3 * ((4 * w + 1) / 4) + (4 * w + 1) % 4 = 3 * w + 1 by omega] at g2
    rw [show 3 * ((4 * w + 2) / 4) + (4 * w + 2) % 4 = 3 * w + 2 by omega] at g3
    rw [g1, g2, g3]; simp [pa_T]
  · show N3 9 _ = _ ∧ N3 9 _ = _ ∧ N3 9 _ = _
    have g1 := c5 (4 * i) (by omega) (by omega)
    have g2 := c5 (4 * i + 1) (by omega) (by omega)
    have g3 := c5 (4 * i + 2) (by omega) (by omega)
    rw [show 3 * (4 * i / 4) + 4 * i % 4 = 3 * i by omega] at g1
    rw [show 3 * ((4 * i + 1) / 4) + (4 * i + 1) % 4 = 3 * i + 1 by omega] at g2
    rw [show 3 * ((4 * i + 2) / 4) + (4 * i + 2) % 4 = 3 * i + 2 by omega] at g3
    rw [g1, g2, g3]; simp [pa_T]
/-- find(): the texts read, all days run -/
theorem rl_find {S : md_T} {N : mm_M} (ho : st_o S) (h : RN S N) : ∃ N', fX7_find N = some N' ∧ RW N N' ∧ RD S N' := by
  obtain ⟨b1, b2, b3, e1, e2, e3, w, q⟩ := rl_reads ho h
  obtain ⟨N4, r1, r2, r3⟩ := rl_runs ho q
  refine ⟨N4, ?_, w.tr r2.w, r3⟩
  unfold fX7_find
  rw [e1, Option.bind_some, e2, Option.bind_some, e3, Option.bind_some, r1]
  rfl
