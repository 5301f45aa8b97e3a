/-! CALLS that only tell: fault, person, word, meeting, count -/
def AP {α : Type} (M : mm_M) (a : Option α) (b : Option (α × mm_M)) : Prop := ∃ r N, a = some r ∧ b = some (r, N) ∧ Rel M N
theorem ap_if {α : Type} {M : mm_M} {c : Prop} [Decidable c] {A A' : Option α} {B B' : Option (α × mm_M)} (h1 : c → AP M A B) (h2 : ¬ c → AP M A' B') : AP M (if c then A else A') (if c then B else B') := by
  by_cases h : c
  · rw [if_pos h, if_pos h]; exact h1 h
  · rw [if_neg h, if_neg h]; exact h2 h
theorem rel_w {M N N' : mm_M} (h : Rel M N) (w : RW N N') : Rel M N' := by
  obtain ⟨S, ho, hc, hn, hk, hx⟩ := h
  exact ⟨S, ho, hc, hn.keep w, hk, hx.q CQ.rf w⟩
theorem rl_txt {S : md_T} {N : mm_M} (ho : st_o S) (hn : RN S N) {t : Nat} (ht : t < 3) : ∃ N', fX7_readsText (nI t) N = some (pa_e (-1) (pa_f S t), N') ∧ RW N N' := by
  unfold fX7_readsText
  rcases q_lt3 ht with e | e | e <;> subst e
  · obtain ⟨N1, a1, a2, a3, a4, a5⟩ := pr_People (st_tx ho hn)
    rw [if_pos (show nI 0 = 0 from rfl), a1]
    exact ⟨N1, rfl, fun q hq => a2 q (by omega) (by omega), fun j hj => a3 j (by omega)⟩
  · obtain ⟨N1, a1, a2, a3, a4, a5⟩ := pr_Words (st_tx ho hn)
    rw [if_neg (show ¬ nI 1 = 0 by decide), if_pos (show nI 1 = 1 from rfl), a1]
    exact ⟨N1, rfl, fun q hq => a2 q (by omega) (by omega), fun j hj => a3 j (by omega)⟩
  · obtain ⟨N1, a1, a2, a3, a4, a5⟩ := pr_Meetings (st_tx ho hn)
    rw [if_neg (show ¬ nI 2 = 0 by decide), if_neg (show ¬ nI 2 = 1 by decide), a1]
    exact ⟨N1, rfl, fun q hq => a2 q (by omega) (by omega), fun j hj => a3 j (by omega)⟩
theorem cr_fault {S : md_T} {M : mm_M} (ho : st_o S) (hc : RC S M) {t : Nat} (ht : t < 3) : fX6_fault (nI t) M = some (pa_e (-1) (pa_f S t)) := by
  have hcap := pa_cap_le t
  have o1 := (ho.1 t ht).1
  unfold fX6_fault
  rw [q_lit 3, q_outN (by omega) (by omega), if_pos ht, if_pos rfl, q_raT ht, Option.bind_some, ct_fault (by omega) (show tx_c S t M from hc.1 t ht)]
  rfl
theorem op_fault {M N : mm_M} (h : Rel M N) (x : Int32) : AP M (fX6_fault x M) (fX7_fault x N) := by
  obtain ⟨S, ho, hc, hn, hk, hx⟩ := id h
  by_cases c : 0 ≤ x.toInt ∧ x.toInt < ((3 : Nat) : Int)
  · obtain ⟨t, ht, rfl⟩ := q_of c.1 c.2 (by omega)
    obtain ⟨N', a1, a2⟩ := rl_txt ho hn ht
    refine ⟨_, N', cr_fault ho hc ht, ?_, rel_w h a2⟩
    unfold fX7_fault
    rw [q_isText, Option.bind_some, if_pos c, if_neg q_10, a1]
    rfl
  · unfold fX6_fault fX7_fault
    rw [q_isText, Option.bind_some, if_neg c, if_pos rfl, q_lit 3, q_isOutside (by omega), if_neg c, if_neg q_10]
    exact ⟨_, N, rfl, rfl, h⟩
theorem cr_person {S : md_T} {M : mm_M} (ho : st_o S) (hc : RC S M) {k z : Nat} (hw : k < pa_T S 0 0) (hz : z < 2) : fX6_person (nI k) (nI z) M = some (nI (pa_T S (1 + z) k)) := by
  have o1 := (st_ok ho).1
  obtain ⟨g1, g2⟩ := hc.2.1.2.2.2.1 k hw
  unfold fX6_person
  rw [hc.2.1.1, q_lit 2, q_outN (by omega) (by omega), q_outN (by omega) (by omega), if_pos hw, if_pos hz, if_pos rfl, if_pos rfl]
  rcases q_lt2 hz with e | e <;> subst e
  · rw [if_pos (show nI 0 = 0 from rfl), q_rd (by omega) (by omega), g1]; rfl
  · rw [if_neg (show ¬ nI 1 = 0 by decide), q_rd (by omega) (by omega), g2]; rfl
theorem op_person {M N : mm_M} (h : Rel M N) (x y : Int32) : AP M (fX6_person x y M) (fX7_person x y N) := by
  obtain ⟨S, ho, hc, hn, hk, hx⟩ := id h
  have o1 := (st_ok ho).1
  obtain ⟨N1, a1, a2, a3, a4, a5⟩ := pr_People (st_tx ho hn)
  have w : RW N N1 := ⟨fun q hq => a2 q (by omega) (by omega), fun j hj => a3 j (by omega)⟩
  have bad : AP M (some (-2 : Int32)) (some (-2, N1)) := ⟨_, N1, rfl, rfl, rel_w h w⟩
  have a4' : N1 0 7 = nI (pa_T S 0 0) := a4
  by_cases c : (0 ≤ x.toInt ∧ x.toInt < ((pa_T S 0 0 : Nat) : Int)) ∧ (0 ≤ y.toInt ∧ y.toInt < ((2 : Nat) : Int))
  · obtain ⟨c1, c2⟩ := c
    obtain ⟨k, hk, rfl⟩ := q_of c1.1 c1.2 (by omega)
    obtain ⟨z, hz, rfl⟩ := q_of c2.1 c2.2 (by omega)
    refine ⟨_, N1, cr_person ho hc hk hz, ?_, rel_w h w⟩
    unfold fX7_person
    rw [a1, Option.bind_some, q_isPerson a4' (by omega), q_isTwo]
    simp only [Option.bind_some, q_if10, if_pos c1, if_pos c2, if_neg q_10]
    rw [q_lit 2, pk_mul, nI_add, q_rd (by omega) (by omega), Option.bind_some]
    have := a5 (3 * k + z) (by rw [show (3 * k + z) / 3 = k by omega]; exact hk) (by omega)
    rw [show 2 * ((3 * k + z) / 3) + (3 * k + z) % 3 = 2 * k + z by omega] at this
    rw [this]
    rcases q_lt2 hz with e | e <;> subst e <;> rfl
  · unfold fX6_person fX7_person
    rw [a1, Option.bind_some, q_isPerson a4' (by omega), q_isTwo, hc.2.1.1, q_lit 2, q_isOutside (by omega), q_isOutside (by omega)]
    simp only [Option.bind_some, q_if10, q_if01]
    exact ap_if (fun c1 => ap_if (fun c2 => absurd ⟨c1, c2⟩ c) (fun _ => bad)) (fun _ => bad)
theorem cr_word {S : md_T} {M : mm_M} (ho : st_o S) (hc : RC S M) {k z : Nat} (hw : k < pa_T S 0 3) (hz : z < 3) : fX6_word (nI k) (nI z) M = some (nI (pa_T S (3 + z) k)) := by
  have o1 := (st_ok ho).2.1
  obtain ⟨g1, g2, g3⟩ := hc.2.1.2.2.2.2.1 k hw
  unfold fX6_word
  rw [hc.2.1.2.1, q_lit 3, q_outN (by omega) (by omega), q_outN (by omega) (by omega), if_pos hw, if_pos hz, if_pos rfl, if_pos rfl]
  rcases q_lt3 hz with e | e | e <;> subst e
  · rw [if_pos (show nI 0 = 0 from rfl), q_rd (by omega) (by omega), g1]; rfl
  · rw [if_neg (show ¬ nI 1 = 0 by decide), if_pos (show nI 1 = 1 from rfl), q_rd (by omega) (by omega), g2]; rfl
  · rw [if_neg (show ¬ nI 2 = 0 by decide), if_neg (show ¬ nI 2 = 1 by decide), q_rd (by omega) (by omega), g3]; rfl
theorem op_word {M N : mm_M} (h : Rel M N) (x y : Int32) : AP M (fX6_word x y M) (fX7_word x y N) := by
  obtain ⟨S, ho, hc, hn, hk, hx⟩ := id h
  have o1 := (st_ok ho).2.1
  obtain ⟨N1, a1, a2, a3, a4, a5⟩ := pr_Words (st_tx ho hn)
  have w : RW N N1 := ⟨fun q hq => a2 q (by omega) (by omega), fun j hj => a3 j (by omega)⟩
  have bad : AP M (some (-2 : Int32)) (some (-2, N1)) := ⟨_, N1, rfl, rfl, rel_w h w⟩
  have a4' : N1 0 9 = nI (pa_T S 0 3) := a4
  by_cases c : (0 ≤ x.toInt ∧ x.toInt < ((pa_T S 0 3 : Nat) : Int)) ∧ (0 ≤ y.toInt ∧ y.toInt < ((3 : Nat) : Int))
  · obtain ⟨c1, c2⟩ := c
    obtain ⟨k, hk, rfl⟩ := q_of c1.1 c1.2 (by omega)
    obtain ⟨z, hz, rfl⟩ := q_of c2.1 c2.2 (by omega)
    refine ⟨_, N1, cr_word ho hc hk hz, ?_, rel_w h w⟩
    unfold fX7_word
    rw [a1, Option.bind_some, q_isWord a4' (by omega), q_inb 3 (by decide)]
    simp only [Option.bind_some, q_if10, if_pos c1, if_pos c2, if_neg q_10]
    rw [q_lit 3, pk_mul, nI_add, q_rd (by omega) (by omega), Option.bind_some]
    have := a5 (4 * k + z) (by rw [show (4 * k + z) / 4 = k by omega]; exact hk) (by omega)
    rw [show 3 * ((4 * k + z) / 4) + (4 * k + z) % 4 = 3 * k + z by omega] at this
    rw [this]
    rcases q_lt3 hz with e | e | e <;> subst e <;> rfl
  · unfold fX6_word fX7_word
    rw [a1, Option.bind_some, q_isWord a4' (by omega), q_inb 3 (by decide), hc.2.1.2.1, q_lit 3, q_isOutside (by omega), q_isOutside (by omega)]
    simp only [Option.bind_some, q_if10, q_if01]
    exact ap_if (fun c1 => ap_if (fun c2 => absurd ⟨c1, c2⟩ c) (fun _ => bad)) (fun _ => bad)
def mq_mt (S : md_T) (k z : Nat) : Int32 := if k < pa_n S 2 then nI (pa_x S 2 (4 * k + z)) else -1
theorem cr_meeting {S : md_T} {M : mm_M} (ho : st_o S) (hc : RC S M) {k z : Nat} (hk : k < 12) (hz : z < 3) : fX6_meeting (nI k) (nI z) M = some (mq_mt S k z) := by
  have o1 := pa_n2_le ho
  have t7 : M 24 7 = nI (pa_n S 2) := hc.2.1.2.2.1
  unfold fX6_meeting mq_mt
  rw [t7, q_lit 3, q_lit 12, q_outN (by omega) (by omega), q_outN (by omega) (by omega), if_pos hk, if_pos hz, if_pos rfl, if_pos rfl]
  by_cases c : k < pa_n S 2
  · rw [if_pos (nI_lt c (by omega)), if_pos c]
    obtain ⟨g1, g2, g3⟩ := hc.2.1.2.2.2.2.2 k c
    rcases q_lt3 hz with e | e | e <;> subst e
    · rw [if_pos (show nI 0 = 0 from rfl), q_rd (by omega) (by omega), g1]; rfl
    · rw [if_neg (show ¬ nI 1 = 0 by decide), if_pos (show nI 1 = 1 from rfl), q_rd (by omega) (by omega), g2]; rfl
    · rw [if_neg (show ¬ nI 2 = 0 by decide), if_neg (show ¬ nI 2 = 1 by decide), q_rd (by omega) (by omega), g3]; rfl
  · rw [if_neg (nI_nlt (by omega) (by omega)), if_neg c]
theorem rq_meeting {S : md_T} {N1 : mm_M} (ho : st_o S) (a4 : N1 0 11 = nI (pa_n S 2)) (a5 : ∀ j, j / 4 < pa_n S 2 → j % 4 < 3 → N1 9 (3 * (j / 4) + j % 4) = nI (pa_x S 2 j)) {k z : Nat} (hk : k < 12) (hz : z < 3) : fX7_meetingBy (nI k) (nI z) N1 = some (mq_mt S k z) := by
  have o1 := pa_n2_le ho
  unfold fX7_meetingBy mq_mt
  rw [a4]
  by_cases c : k < pa_n S 2
  · rw [if_neg (nI_ge c (by omega)), if_pos c, q_lit 3, pk_mul, nI_add, q_rd (by omega) (by omega), Option.bind_some]
    have := a5 (4 * k + z) (by rw [show (4 * k + z) / 4 = k by omega]; exact c) (by omega)
    rw [show 3 * ((4 * k + z) / 4) + (4 * k + z) % 4 = 3 * k + z by omega] at this
    rw [this]
  · rw [if_pos (nI_le (by omega) (by omega)), if_neg c]
theorem op_meeting {M N : mm_M} (h : Rel M N) (x y : Int32) : AP M (fX6_meeting x y M) (fX7_meeting x y N) := by
  obtain ⟨S, ho, hc, hn, hk, hx⟩ := id h
  obtain ⟨N1, a1, a2, a3, a4, a5⟩ := pr_Meetings (st_tx ho hn)
  have w : RW N N1 := ⟨fun q hq => a2 q (by omega) (by omega), fun j hj => a3 j (by omega)⟩
  have bad : AP M (some (-2 : Int32)) (some (-2, N1)) := ⟨_, N1, rfl, rfl, rel_w h w⟩
  by_cases c : (0 ≤ x.toInt ∧ x.toInt < ((12 : Nat) : Int)) ∧ (0 ≤ y.toInt ∧ y.toInt < ((3 : Nat) : Int))
  · obtain ⟨c1, c2⟩ := c
    obtain ⟨k, hk, rfl⟩ := q_of c1.1 c1.2 (by omega)
    obtain ⟨z, hz, rfl⟩ := q_of c2.1 c2.2 (by omega)
    refine ⟨_, N1, cr_meeting ho hc hk hz, ?_, rel_w h w⟩
    unfold fX7_meeting
    rw [a1, Option.bind_some, q_inb 12 (by decide), q_inb 3 (by decide)]
    simp only [q_if10, if_pos c1, if_pos c2, if_neg q_10]
    rw [rq_meeting ho a4 a5 hk hz]
    rfl
  · unfold fX6_meeting fX7_meeting
    rw [a1, Option.bind_some, q_inb 12 (by decide), q_inb 3 (by decide), q_lit 12, q_lit 3, q_isOutside (by omega), q_isOutside (by omega)]
    simp only [q_if10, q_if01]
    exact ap_if (fun c1 => ap_if (fun c2 => absurd ⟨c1, c2⟩ c) (fun _ => bad)) (fun _ => bad)
