/-! THE CALLS: class and reference answer alike, and stand alike behind -/
def AG {α : Type} (a b : Option (α × mm_M)) : Prop := ∃ r M N, a = some (r, M) ∧ b = some (r, N) ∧ Rel M N
theorem ag_if {α : Type} {c : Prop} [Decidable c] {A A' B B' : Option (α × mm_M)} (h1 : c → AG A B) (h2 : ¬ c → AG A' B') : AG (if c then A else A') (if c then B else B') := by
  by_cases h : c
  · rw [if_pos h, if_pos h]; exact h1 h
  · rw [if_neg h, if_neg h]; exact h2 h
def CR {α : Type} (S : md_T) (M : mm_M) (a : Option (α × mm_M)) (r : α) : Prop := ∃ M', a = some (r, M') ∧ CQ M M' ∧ RC S M' ∧ KC S M'
def NR {α : Type} (N : mm_M) (b : Option (α × mm_M)) (r : α) : Prop := ∃ N', b = some (r, N') ∧ RW N N'
theorem ag_of {α : Type} {S : md_T} {M N : mm_M} {A B : Option (α × mm_M)} {r : α} (ho : st_o S) (hn : RN S N) (hx : SX M N) (a : CR S M A r) (b : NR N B r) : AG A B := by
  obtain ⟨M', a1, a2, a3, a4⟩ := a
  obtain ⟨N', b1, b2⟩ := b
  exact ⟨r, M', N', a1, b1, S, ho, a3, hn.keep b2, a4, hx.q a2 b2⟩
theorem cr_rf {α : Type} {S : md_T} {M : mm_M} {r : α} (hc : RC S M) (hk : KC S M) : CR S M (some (r, M)) r := ⟨M, rfl, CQ.rf, hc, hk⟩
theorem nr_of {α : Type} {N N' : mm_M} {r : α} (w : RW N N') : NR N (some (r, N')) r := ⟨N', rfl, w⟩
theorem q_inb {x : Int32} {hi : Int64} (b : Nat) (h : hi.toInt + 1 = (b : Int)) : fX7_in x.toInt64 0 hi = if 0 ≤ x.toInt ∧ x.toInt < (b : Int) then 1 else 0 := by
  rw [q_in]
  refine q_ifc ?_
  have : (0 : Int64).toInt = 0 := by decide
  omega
theorem q_isDay (x : Int32) : fX7_isDay x = some (if 0 ≤ x.toInt ∧ x.toInt < ((24 : Nat) : Int) then 1 else 0) := by
  unfold fX7_isDay
  rw [q_inb 24 (by decide), q_zb]
  rfl
theorem q_isTwo (x : Int32) : fX7_isTwo x = some (if 0 ≤ x.toInt ∧ x.toInt < ((2 : Nat) : Int) then 1 else 0) := by
  unfold fX7_isTwo
  rw [q_inb 2 (by decide), q_zb]
  rfl
theorem q_isSheet (x : Int32) : fX7_isSheet x = some (if 0 ≤ x.toInt ∧ x.toInt < ((4 : Nat) : Int) then 1 else 0) := by
  unfold fX7_isSheet
  rw [q_inb 4 (by decide), q_zb]
  rfl
theorem q_isText (x : Int32) : fX7_isText x = some (if 0 ≤ x.toInt ∧ x.toInt < ((3 : Nat) : Int) then 1 else 0) := by
  unfold fX7_isText
  rw [q_inb 3 (by decide), q_zb]
  rfl
theorem q_lt2 {z : Nat} (h : z < 2) : z = 0 ∨ z = 1 := by omega
theorem cq_learn {S : md_T} {M : mm_M} (ho : st_o S) (hc : RC S M) (hk : KC S M) : ∃ M', fX6_learnCourse M = some M' ∧ CQ M M' ∧ RC S M' ∧ KC S M' ∧ cq_at 42 (pa_T S) (st_A S) M' := by
  obtain ⟨M1, e1, e2, e3, e4, e5, e6⟩ := cl_learn ho hc hk
  exact ⟨M1, e1, e2, e3, e4, st_ok ho, e5, e6⟩
/-! stands -/
theorem cr_stands {S : md_T} {M : mm_M} (ho : st_o S) (hc : RC S M) (hk : KC S M) {d w z : Nat} (hd : d < 24) (hw : w < pa_T S 0 3) (hz : z < 2) : CR S M (fX6_stands (nI d) (nI w) (nI z) M) (nI (md_tr (pa_T S) (st_A S) (d + 1) (1 + z) w)) := by
  obtain ⟨M1, e1, e2, e3, e4, e5⟩ := cq_learn ho hc hk
  have o2 := (st_ok ho).2.1
  unfold fX6_stands
  rw [hc.2.1.2.1, q_lit 24, q_lit 2, q_outN (by omega) (by omega), q_outN (by omega) (by omega), q_outN (by omega) (by omega), if_pos hd, if_pos hw, if_pos hz, if_pos rfl, if_pos rfl, if_pos rfl, e1, Option.bind_some]
  rcases q_lt2 hz with e | e
  · subst e
    rw [if_pos (show nI 0 = 0 from rfl), cq_state e5 hd hw]
    exact ⟨M1, rfl, e2, e3, e4⟩
  · subst e
    rw [if_neg (by decide), cq_left e5 hd (by omega), if_pos hw]
    exact ⟨M1, rfl, e2, e3, e4⟩
theorem rq_stands {T : md_T} {E : Nat → Nat → Bool} {N : mm_M} (h : rq_at T E N) {d w z : Nat} (hd : d < 24) (hw : w < T 0 3) (hz : z < 2) : fX7_standsBy (nI d) (nI w) (nI z) N = some (nI (md_tr T E (d + 1) (1 + z) w)) := by
  obtain ⟨ho, -, -, ht⟩ := h
  have o2 := ho.2.1
  obtain ⟨e1, e2⟩ := (ht d hd).1 w hw
  unfold fX7_standsBy
  rw [q_lit 12, pk_mul, nI_add]
  rcases q_lt2 hz with e | e
  · subst e
    rw [if_pos (show nI 0 = 0 from rfl), q_rd (by omega) (by omega), e1]; rfl
  · subst e
    rw [if_neg (by decide), q_rd (by omega) (by omega), e2]; rfl
theorem op_stands {M N : mm_M} (h : Rel M N) (x y z : Int32) : AG (fX6_stands x y z M) (fX7_stands x y z N) := by
  obtain ⟨S, ho, hc, hn, hk, hx⟩ := h
  obtain ⟨N1, f1, f2, f3⟩ := rl_find ho hn
  have o2 := (st_ok ho).2.1
  have bad : AG (some ((-2 : Int32), M)) (some (-2, N1)) := ag_of ho hn hx (cr_rf hc hk) (nr_of f2)
  by_cases c : (0 ≤ x.toInt ∧ x.toInt < ((24 : Nat) : Int)) ∧ (0 ≤ y.toInt ∧ y.toInt < ((pa_T S 0 3 : Nat) : Int)) ∧ (0 ≤ z.toInt ∧ z.toInt < ((2 : Nat) : Int))
  · obtain ⟨c1, c2, c3⟩ := c
    obtain ⟨d, hd, rfl⟩ := q_of c1.1 c1.2 (by omega)
    obtain ⟨w, hw, rfl⟩ := q_of c2.1 c2.2 (by omega)
    obtain ⟨v, hv, rfl⟩ := q_of c3.1 c3.2 (by omega)
    refine ag_of ho hn hx (cr_stands ho hc hk hd hw hv) ⟨N1, ?_, f2⟩
    unfold fX7_stands
    rw [f1, Option.bind_some, q_isDay, q_isWord f3.1.2.2.1 (by omega), q_isTwo]
    simp only [Option.bind_some, q_if10, if_pos c1, if_pos c2, if_pos c3, if_neg q_10, rq_stands (f3.at ho) hd hw hv]
  · unfold fX6_stands fX7_stands
    rw [f1, Option.bind_some, q_isDay, q_isWord f3.1.2.2.1 (by omega), q_isTwo, hc.2.1.2.1, q_lit 24, q_lit 2, q_isOutside (by omega), q_isOutside (by omega), q_isOutside (by omega)]
    simp only [Option.bind_some, q_if10, q_if01]
    refine ag_if (fun c1 => ag_if (fun c2 => ag_if (fun c3 => absurd ⟨c1, c2, c3⟩ c) (fun _ => bad)) (fun _ => bad)) (fun _ => bad)
/-! at -/
def mq_at (T : md_T) (E : Nat → Nat → Bool) (d k z : Nat) : Int32 := if z = 0 then (if d < T 2 k then 0 else 1) else if z = 1 then mq_open T E d k 4 else if z = 2 then mq_open T E d k 3 else nI (md_tr T E (d + 1) 3 k)
theorem cr_at {S : md_T} {M : mm_M} (ho : st_o S) (hc : RC S M) (hk : KC S M) {d k z : Nat} (hd : d < 24) (hw : k < pa_T S 0 0) (hz : z < 4) : CR S M (fX6_at (nI d) (nI k) (nI z) M) (mq_at (pa_T S) (st_A S) d k z) := by
  obtain ⟨M1, e1, e2, e3, e4, e5⟩ := cq_learn ho hc hk
  have ok := st_ok ho
  have o1 := ok.1
  have o4 := ok.2.2.2.1 k hw
  have o5 := ok.2.2.2.2.1
  have g := e3.2.1.2.2.2.2.1
  have g2 := (e3.2.1.2.2.2.1 k hw).2
  unfold fX6_at
  rw [hc.2.1.1, q_lit 24, q_lit 4, q_outN (by omega) (by omega), q_outN (by omega) (by omega), q_outN (by omega) (by omega), if_pos hd, if_pos hw, if_pos hz, if_pos rfl, if_pos rfl, if_pos rfl, e1, Option.bind_some, q_lit 1, q_lit 2]
  simp (disch := omega) only [q_lit 0, nI_eq]
  unfold mq_at
  by_cases z0 : z = 0
  · rw [if_pos z0, if_pos z0, q_rd (by omega) (by omega), Option.bind_some, g2]
    simp (disch := omega) only [nI_ltI]
    by_cases c : d < pa_T S 2 k
    · rw [if_pos c, if_pos c]; exact ⟨M1, rfl, e2, e3, e4⟩
    · rw [if_neg c, if_neg c]; exact ⟨M1, rfl, e2, e3, e4⟩
  · rw [if_neg z0, if_neg z0]
    by_cases z1 : z = 1
    · rw [if_pos z1, if_pos z1, cq_open (o := 4) e5 hd (by omega) (fun w hw => ⟨(o5 w hw).2.1, (g w hw).2.1⟩)]
      exact ⟨M1, rfl, e2, e3, e4⟩
    · rw [if_neg z1, if_neg z1]
      by_cases z2 : z = 2
      · rw [if_pos z2, if_pos z2, cq_open (o := 3) e5 hd (by omega) (fun w hw => ⟨(o5 w hw).1, (g w hw).1⟩)]
        exact ⟨M1, rfl, e2, e3, e4⟩
      · rw [if_neg z2, if_neg z2, cq_said e5 hd hw]
        exact ⟨M1, rfl, e2, e3, e4⟩
theorem rq_at1 {T : md_T} {E : Nat → Nat → Bool} {N : mm_M} (h : rq_at T E N) {d k z : Nat} (hd : d < 24) (hk : k < T 0 0) (hz : z < 4) : fX7_atOf (nI d) (nI k) (nI z) N = some (mq_at T E d k z) := by
  have h0 := h
  obtain ⟨ho, hT, -, ht⟩ := h
  have o1 := ho.1
  have o4 := ho.2.2.2.1 k hk
  have e3 := (ht d hd).2 k hk
  have e7 := (hT.2.2.1 k hk).2
  unfold fX7_atOf fX7_isDead
  simp (disch := omega) only [q_lit 1, q_lit 2, q_lit 0, nI_eq, nI_add, pk_mul, q_rd, Option.bind_some, e7, nI_leI]
  unfold mq_at
  by_cases z0 : z = 0
  · rw [if_pos z0, if_pos z0]
    by_cases c : d < T 2 k
    · rw [if_pos c, if_pos (show d + 1 ≤ T 2 k by omega), Option.bind_some, if_pos rfl]; rfl
    · rw [if_neg c, if_neg (show ¬ d + 1 ≤ T 2 k by omega), Option.bind_some, if_neg (by decide)]; rfl
  · rw [if_neg z0, if_neg z0]
    by_cases z1 : z = 1
    · rw [if_pos z1, if_pos z1, rq_open h0 hd (by omega) (by omega)]; rfl
    · rw [if_neg z1, if_neg z1]
      by_cases z2 : z = 2
      · rw [if_pos z2, if_pos z2, rq_open h0 hd (by omega) (by omega)]; rfl
      · rw [if_neg z2, if_neg z2, q_lit 8, pk_mul, nI_add, q_rd (by omega) (by omega), e3]; rfl
theorem op_at {M N : mm_M} (h : Rel M N) (x y z : Int32) : AG (fX6_at x y z M) (fX7_at x y z N) := by
  obtain ⟨S, ho, hc, hn, hk, hx⟩ := h
  obtain ⟨N1, f1, f2, f3⟩ := rl_find ho hn
  have o1 := (st_ok ho).1
  have bad : AG (some ((-2 : Int32), M)) (some (-2, N1)) := ag_of ho hn hx (cr_rf hc hk) (nr_of f2)
  by_cases c : (0 ≤ x.toInt ∧ x.toInt < ((24 : Nat) : Int)) ∧ (0 ≤ y.toInt ∧ y.toInt < ((pa_T S 0 0 : Nat) : Int)) ∧ (0 ≤ z.toInt ∧ z.toInt < ((4 : Nat) : Int))
  · obtain ⟨c1, c2, c3⟩ := c
    obtain ⟨d, hd, rfl⟩ := q_of c1.1 c1.2 (by omega)
    obtain ⟨w, hw, rfl⟩ := q_of c2.1 c2.2 (by omega)
    obtain ⟨v, hv, rfl⟩ := q_of c3.1 c3.2 (by omega)
    refine ag_of ho hn hx (cr_at ho hc hk hd hw hv) ⟨N1, ?_, f2⟩
    unfold fX7_at
    rw [f1, Option.bind_some, q_isDay, q_isPerson f3.1.2.1 (by omega), q_inb 4 (by decide)]
    simp only [Option.bind_some, q_if10, if_pos c1, if_pos c2, if_pos c3, if_neg q_10, rq_at1 (f3.at ho) hd hw hv]
  · unfold fX6_at fX7_at
    rw [f1, Option.bind_some, q_isDay, q_isPerson f3.1.2.1 (by omega), q_inb 4 (by decide), hc.2.1.1, q_lit 24, q_lit 4, q_isOutside (by omega), q_isOutside (by omega), q_isOutside (by omega)]
    simp only [Option.bind_some, q_if10, q_if01]
    refine ag_if (fun c1 => ag_if (fun c2 => ag_if (fun c3 => absurd ⟨c1, c2, c3⟩ c) (fun _ => bad)) (fun _ => bad)) (fun _ => bad)
/-! clear -/
theorem cr_clear_L {T : md_T} {E : Nat → Nat → Bool} {M : mm_M} (h : cq_at 42 T E M) (hT : ∀ w, w < T 0 3 → M 28 w = nI (T 4 w)) {k : Nat} (hk : k < 8) : ∀ f d n, d + f = 24 → f < n → fX6_clear_L23 (nI k) M n (nI d) = some (rr_enc 24 (md_fst (mq_clr T E k) f d), M)
  | 0, d, n + 1, hd, hn => by
    rw [fX6_clear_L23, q_lit 24, if_pos (by rw [nI_leI (by omega) (by omega)]; omega), md_fst, rr_enc, if_neg (by omega)]
  | f + 1, d, n + 1, hd, hn => by
    have o5 := h.1.2.2.2.2.1
    rw [fX6_clear_L23, q_lit 24, if_neg (by rw [nI_leI (by omega) (by omega)]; omega)]
    unfold fX1_owesNothing
    rw [cq_open (o := 4) h (by omega) hk (fun w hw => ⟨(o5 w hw).2.1, hT w hw⟩), Option.bind_some, cq_lost h (by omega) hk hT, Option.bind_some, q_lit 1, nI_add, cr_clear_L h hT hk f (d + 1) n (by omega) (by omega), md_fst]
    by_cases c1 : mq_open T E d k 4 = 0
    · rw [if_pos c1]
      cases c2 : mq_lost T E d k
      · rw [if_pos (by decide), Option.bind_some, if_neg (by decide), if_pos, rr_enc, if_pos (by omega)]
        simp [mq_clr, c2, show mq_open T E d k 4 = nI 0 from c1]
      · rw [if_pos rfl, if_neg (by decide), Option.bind_some, if_pos rfl, if_neg]
        simp [mq_clr, c2]
    · rw [if_neg c1, Option.bind_some, if_pos rfl, if_neg]
      simp [mq_clr, show ¬ mq_open T E d k 4 = nI 0 from c1]
theorem cr_clear {S : md_T} {M : mm_M} (ho : st_o S) (hc : RC S M) (hk : KC S M) {k : Nat} (hw : k < pa_T S 0 0) : CR S M (fX6_clear (nI k) M) (rr_enc 24 (md_fst (mq_clr (pa_T S) (st_A S) k) 24 0)) := by
  obtain ⟨M1, e1, e2, e3, e4, e5⟩ := cq_learn ho hc hk
  have o1 := (st_ok ho).1
  unfold fX6_clear
  rw [hc.2.1.1, q_outN (by omega) (by omega), if_pos hw, if_pos rfl, e1, Option.bind_some, q_lit 0, cr_clear_L e5 (fun w hw => (e3.2.1.2.2.2.2.1 w hw).2.1) (by omega) 24 0 1000 (by omega) (by omega)]
  exact ⟨M1, rfl, e2, e3, e4⟩
theorem op_clear {M N : mm_M} (h : Rel M N) (x : Int32) : AG (fX6_clear x M) (fX7_clear x N) := by
  obtain ⟨S, ho, hc, hn, hk, hx⟩ := h
  obtain ⟨N1, f1, f2, f3⟩ := rl_find ho hn
  have o1 := (st_ok ho).1
  by_cases c : 0 ≤ x.toInt ∧ x.toInt < ((pa_T S 0 0 : Nat) : Int)
  · obtain ⟨k, hw, rfl⟩ := q_of c.1 c.2 (by omega)
    refine ag_of ho hn hx (cr_clear ho hc hk hw) ⟨N1, ?_, f2⟩
    unfold fX7_clear
    rw [f1, Option.bind_some, q_isPerson f3.1.2.1 (by omega)]
    simp only [Option.bind_some, q_if10, if_pos c, if_neg q_10, rq_clear (f3.at ho) (show k < 8 by omega)]
  · unfold fX6_clear fX7_clear
    rw [f1, Option.bind_some, q_isPerson f3.1.2.1 (by omega), hc.2.1.1, q_isOutside (by omega)]
    simp only [Option.bind_some, q_if10, q_if01, if_neg c]
    exact ag_of ho hn hx (cr_rf hc hk) (nr_of f2)
/-! bank, silent -/
theorem cr_bank {S : md_T} {M : mm_M} (ho : st_o S) (hc : RC S M) (hk : KC S M) {d : Nat} (hd : d < 24) : CR S M (fX6_bank (nI d) M) (mq_bank (pa_T S) (st_A S) d).1 := by
  obtain ⟨M1, e1, e2, e3, e4, e5⟩ := cq_learn ho hc hk
  have o1 := (st_ok ho).1
  have o5 := (st_ok ho).2.2.2.2.1
  have g := e3.2.1.2.2.2.2.1
  unfold fX6_bank
  rw [q_lit 24, q_outN (by omega) (by omega), if_pos hd, if_pos rfl, e1, Option.bind_some, q_lit 0]
  have := q_loop (fun n (s : Int32 × Int32) i => fX6_bank_L23 (nI d) M1 n s.1 s.2 i) (fun k (s : Int32 × Int32) => if mq_open (pa_T S) (st_A S) d k 3 ≤ s.2 then s else (nI k, mq_open (pa_T S) (st_A S) d k 3)) (fun s => some (s.1, M1)) (pa_T S 0 0) (fun n s => ?_) (fun n i s hi => ?_) (pa_T S 0 0) 0 1000 (-1, nI 0) (by omega) (by omega)
  · exact ⟨M1, this, e2, e3, e4⟩
  · show fX6_bank_L23 (nI d) M1 (n + 1) s.1 s.2 (nI (pa_T S 0 0)) = _
    rw [fX6_bank_L23, e3.2.1.1, if_pos (by rw [nI_leI (by omega) (by omega)]; omega)]
  · show fX6_bank_L23 (nI d) M1 (n + 1) s.1 s.2 (nI i) = fX6_bank_L23 (nI d) M1 n _ _ (nI (i + 1))
    rw [fX6_bank_L23, e3.2.1.1, if_neg (by rw [nI_leI (by omega) (by omega)]; omega), cq_open (o := 3) e5 hd (by omega) (fun w hw => ⟨(o5 w hw).1, (g w hw).1⟩), Option.bind_some, q_lit 1, nI_add]
    by_cases c : mq_open (pa_T S) (st_A S) d i 3 ≤ s.2
    · simp only [if_pos c]
    · simp only [if_neg c]
theorem op_bank {M N : mm_M} (h : Rel M N) (x : Int32) : AG (fX6_bank x M) (fX7_bank x N) := by
  obtain ⟨S, ho, hc, hn, hk, hx⟩ := h
  obtain ⟨N1, f1, f2, f3⟩ := rl_find ho hn
  by_cases c : 0 ≤ x.toInt ∧ x.toInt < ((24 : Nat) : Int)
  · obtain ⟨d, hd, rfl⟩ := q_of c.1 c.2 (by omega)
    refine ag_of ho hn hx (cr_bank ho hc hk hd) ⟨N1, ?_, f2⟩
    unfold fX7_bank
    rw [f1, Option.bind_some, q_isDay]
    simp only [Option.bind_some, q_if10, if_pos c, if_neg q_10, rq_bank (f3.at ho) hd]
  · unfold fX6_bank fX7_bank
    rw [f1, Option.bind_some, q_isDay, q_lit 24, q_isOutside (by omega)]
    simp only [Option.bind_some, q_if10, q_if01, if_neg c]
    exact ag_of ho hn hx (cr_rf hc hk) (nr_of f2)
theorem cr_silent {S : md_T} {M : mm_M} (ho : st_o S) (hc : RC S M) (hk : KC S M) : CR S M (fX6_silent M) (mq_sil (pa_T S) (st_A S)) := by
  obtain ⟨M1, e1, e2, e3, e4, e5⟩ := cq_learn ho hc hk
  have o1 := (st_ok ho).1
  unfold fX6_silent
  rw [e1, Option.bind_some, q_lit 0]
  have := q_loop (fun n s i => fX6_silent_L8 M1 n s i) (fun k s => if nI (md_tr (pa_T S) (st_A S) 24 3 k) = nI 0 then s ||| (nI 1 <<< (nI k &&& 31)) else s) (fun s => some (s, M1)) (pa_T S 0 0) (fun n s => ?_) (fun n i s hi => ?_) (pa_T S 0 0) 0 1000 (nI 0) (by omega) (by omega)
  · exact ⟨M1, this, e2, e3, e4⟩
  · show fX6_silent_L8 M1 (n + 1) s (nI (pa_T S 0 0)) = _
    rw [fX6_silent_L8, e3.2.1.1, if_pos (by rw [nI_leI (by omega) (by omega)]; omega)]
  · show fX6_silent_L8 M1 (n + 1) s (nI i) = fX6_silent_L8 M1 n _ (nI (i + 1))
    rw [fX6_silent_L8, e3.2.1.1, if_neg (by rw [nI_leI (by omega) (by omega)]; omega), q_lit 23, cq_said e5 (by omega) hi, Option.bind_some, q_lit 1, nI_add, q_lit 0]
theorem op_silent {M N : mm_M} (h : Rel M N) : AG (fX6_silent M) (fX7_silent N) := by
  obtain ⟨S, ho, hc, hn, hk, hx⟩ := h
  obtain ⟨N1, f1, f2, f3⟩ := rl_find ho hn
  refine ag_of ho hn hx (cr_silent ho hc hk) ⟨N1, ?_, f2⟩
  unfold fX7_silent
  rw [f1, Option.bind_some, rq_sil (f3.at ho)]
  rfl
