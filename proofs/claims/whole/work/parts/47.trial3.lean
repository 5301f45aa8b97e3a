/-! live -/
def mq_liv (S : md_T) (k v : Nat) : Bool := !(mq_lost (md_up (pa_T S) 2 k v) (st_A S) 23 k)
theorem cr_live_L {S : md_T} {M : mm_M} (ho : st_o S) (hc : RC S M) {k : Nat} (hw : k < pa_T S 0 0) : ∀ f i n (M1 : mm_M), i + f = 24 → f < n → CI S 2 k M M1 → ∃ M', fX6_live_L30 (nI k) n (nI i) M1 = some (rr_enc 24 (md_fst (mq_liv S k) f i), M') ∧ CT M M'
  | 0, i, n + 1, M1, hi, hn, h => ⟨M1, by rw [fX6_live_L30, if_pos (by rw [q_lit 24, nI_leI (by omega) (by omega)]; omega), md_fst, rr_enc, if_neg (by omega)], h.1⟩
  | f + 1, i, n + 1, M1, hi, hn, h => by
    have o1 := (st_ok ho).1
    obtain ⟨M2, e1, e2, e3, e4⟩ := ci_try ho hc (v := i) (Or.inr (Or.inl ⟨rfl, by omega⟩)) h
    obtain ⟨M3, g1, g2⟩ := cr_live_L ho hc hw f (i + 1) n M2 (by omega) (by omega) e2
    have l := cq_lost (t := 33) e4 (show 23 < 24 by omega) (show k < 8 by omega) (fun w hw => (e3.2.2.2.2.1 w hw).2.1)
    have st : fX6_live_L30 (nI k) (n + 1) (nI i) M1 = if mq_liv S k i = true then some (nI i, M2) else fX6_live_L30 (nI k) n (nI (i + 1)) M2 := by
      rw [fX6_live_L30, if_neg (by rw [q_lit 24, nI_leI (by omega) (by omega)]; omega), q_wa (by omega) (by omega), Option.bind_some, show (35 : Nat) = 33 + 2 from rfl, e1, Option.bind_some, q_lit 23, l, Option.bind_some, nI_1]
      unfold mq_liv
      cases mq_lost (md_up (pa_T S) 2 k i) (st_A S) 23 k <;> rfl
    rw [st, md_fst]
    by_cases c : mq_liv S k i = true
    · rw [if_pos c, if_pos c, rr_enc, if_pos (by omega)]
      exact ⟨M2, rfl, e2.1⟩
    · rw [if_neg c, if_neg c]
      exact ⟨M3, g1, g2⟩
theorem cr_live {S : md_T} {M : mm_M} (ho : st_o S) (hc : RC S M) (hk : KC S M) {k : Nat} (hw : k < pa_T S 0 0) : CR S M (fX6_live (nI k) M) (rr_enc 24 (md_fst (mq_liv S k) 24 0)) := by
  have o1 := (st_ok ho).1
  obtain ⟨M1, b1, b2⟩ := ci_begin ho hc 2 k
  obtain ⟨M2, e1, e2⟩ := cr_live_L ho hc hw 24 0 1000 M1 (by omega) (by omega) b2
  unfold fX6_live
  rw [hc.2.1.1, q_outN (by omega) (by omega), if_pos hw, if_pos rfl, b1, Option.bind_some, q_lit 0, e1]
  exact e2.cr hc hk
theorem rq_live {S : md_T} {N : mm_M} (ho : st_o S) (h : RQ S N) {k : Nat} (hw : k < pa_T S 0 0) : ∃ N', fX7_liveOf (nI k) N = some (rr_enc 24 (md_fst (mq_liv S k) 24 0), N') ∧ RW N N' ∧ RQ S N' := by
  have o1 := (st_ok ho).1
  have hp : ((2 : Nat) = 1 ∧ (7 : Nat) = 7 ∧ 2 * k + 1 = 2 * k) ∨ ((2 : Nat) = 2 ∧ (7 : Nat) = 7 ∧ 2 * k + 1 = 2 * k + 1) ∨ ((2 : Nat) = 5 ∧ (7 : Nat) = 8 ∧ 2 * k + 1 = 3 * k + 2) := Or.inr (Or.inl ⟨rfl, rfl, rfl⟩)
  have old := (h.2.2.2.1 k hw).2
  have key := q_loopDM (fun n s N i => fX7_liveOf_L17 (nI k) (nI (pa_T S 2 k)) (fun z7 M8 => (mm_wa M8 7 16 (nI (2 * k + 1)) (nI (pa_T S 2 k))).bind fun M9 => some (z7, M9)) n s i N) (fun d (s : Int32) => if mq_liv S k d = true then nI d else s) (fun s M => some (s, mm_wr M 7 (2 * k + 1) (nI (pa_T S 2 k)))) (fun N' => NI S 2 k N N') (fun n s N1 h => ?_) 24 (fun n i s N1 hi h1 => ?_) 24 1000 (-1) N (by omega) (by omega) (ni_begin h 2 k)
  · obtain ⟨N', e1, e2⟩ := key
    obtain ⟨w, q⟩ := ni_end h hp e2
    refine ⟨_, ?_, w, q⟩
    unfold fX7_liveOf
    rw [q_lit 2, pk_mul, nI_1, q_rd (by omega) (by omega), Option.bind_some, old, ← md_foldD_fst0, q_23]
    exact e1
  · show fX7_liveOf_L17 (nI k) (nI (pa_T S 2 k)) _ (n + 1) s (nI 0 + (-1)) N1 = _
    rw [fX7_liveOf_L17, if_pos (by decide), q_wa (by omega) (by omega), Option.bind_some]
  · obtain ⟨⟨N2, e1, e2, e3, e4⟩, -⟩ := ni_try ho h.1 (v := i) (Or.inr (Or.inl ⟨rfl, hi⟩)) hp h1
    refine ⟨N2, ?_, e2⟩
    show fX7_liveOf_L17 (nI k) (nI (pa_T S 2 k)) _ (n + 1) s (nI (i + 1) + (-1)) N1 = fX7_liveOf_L17 (nI k) (nI (pa_T S 2 k)) _ n _ (nI i + (-1)) N2
    rw [fX7_liveOf_L17, pk_m1, if_neg (nI_pos (by omega)), show mm_wa N1 7 16 (2 * nI k + 1) (nI i) = some (mm_wr N1 7 (2 * k + 1) (nI i)) by rw [q_lit 2, pk_mul, nI_1, q_wa (by omega) (by omega)], Option.bind_some, e1, Option.bind_some, q_lit 23, rq_lost e4 (by omega) (by omega), Option.bind_some]
    unfold mq_liv
    cases mq_lost (md_up (pa_T S) 2 k i) (st_A S) 23 k <;> rfl
theorem op_live {M N : mm_M} (h : Rel M N) (x : Int32) : AG (fX6_live x M) (fX7_live x N) := by
  obtain ⟨S, ho, hc, hn, hk, hx⟩ := h
  obtain ⟨N1, f1, f2, f3⟩ := rl_find ho hn
  have o1 := (st_ok ho).1
  by_cases c : 0 ≤ x.toInt ∧ x.toInt < ((pa_T S 0 0 : Nat) : Int)
  · obtain ⟨k, hw, rfl⟩ := q_of c.1 c.2 (by omega)
    obtain ⟨N2, g1, g2, g3⟩ := rq_live ho f3.1 hw
    refine ag_of ho hn hx (cr_live ho hc hk hw) ⟨N2, ?_, f2.tr g2⟩
    unfold fX7_live
    rw [f1, Option.bind_some, q_isPerson f3.1.2.1 (by omega)]
    simp only [Option.bind_some, q_if10, if_pos c, if_neg q_10, g1]
  · unfold fX6_live fX7_live
    rw [f1, Option.bind_some, q_isPerson f3.1.2.1 (by omega), hc.2.1.1, q_isOutside (by omega)]
    simp only [Option.bind_some, q_if10, q_if01, if_neg c]
    exact ag_of ho hn hx (cr_rf hc hk) (nr_of f2)
/-! voice -/
def mq_vs (S : md_T) : Int32 × Int32 := md_fold (fun k (s : Int32 × Int32) => if mq_many (md_up (pa_T S) 1 k 3) (st_A S) 1 ≤ s.2 then s else (nI k, mq_many (md_up (pa_T S) 1 k 3) (st_A S) 1)) (pa_T S 0 0) 0 (-1, -1)
def mq_voice (S : md_T) (z : Nat) : Int32 := if z = 0 then (mq_vs S).1 else (mq_vs S).2
theorem cr_voice {S : md_T} {M : mm_M} (ho : st_o S) (hc : RC S M) (hk : KC S M) {z : Nat} (hz : z < 2) : CR S M (fX6_voice (nI z) M) (mq_voice S z) := by
  have o1 := (st_ok ho).1
  obtain ⟨M1, b1, b2, b3⟩ := cl_like (st_ok ho) hc.2.1
  have ct0 : CT M M1 := fun q hq => b2 q (by omega)
  have key := q_loopM (fun n (s : Int32 × Int32) M i => fX6_voice_L29 (nI z) n s.1 s.2 i M) (fun k (s : Int32 × Int32) => if mq_many (md_up (pa_T S) 1 k 3) (st_A S) 1 ≤ s.2 then s else (nI k, mq_many (md_up (pa_T S) 1 k 3) (st_A S) 1)) (fun s M => some (if z = 0 then s.1 else s.2, M)) (fun M' => CT M M' ∧ cc_T (pa_T S) 33 M') (pa_T S 0 0) (fun n s M1 h => ?_) (fun n i s M1 hi h => ?_) (pa_T S 0 0) 0 1000 (-1, -1) M1 (by omega) (by omega) ⟨ct0, b3⟩
  · obtain ⟨M', e1, e2, e3⟩ := key
    unfold fX6_voice
    have e1 : fX6_voice_L29 (nI z) 1000 (-1) (-1) (nI 0) M1 = _ := e1
    rw [show (2 : Int32) = nI 2 from rfl, q_outN (by omega) (by omega), if_pos hz, if_pos rfl, b1, Option.bind_some, show (fX6_voice_L29 (nI z) 1000 (-1) (-1) 0 M1) = fX6_voice_L29 (nI z) 1000 (-1) (-1) (nI 0) M1 from rfl, e1]
    exact e2.cr hc hk
  · show fX6_voice_L29 (nI z) (n + 1) s.1 s.2 (nI (pa_T S 0 0)) M1 = _
    rw [fX6_voice_L29, h.2.1, if_pos (by rw [nI_leI (by omega) (by omega)]; omega)]
    rcases q_lt2 hz with e | e <;> subst e
    · rw [if_pos (show nI 0 = 0 from rfl), if_pos rfl]
    · rw [if_neg (show ¬ nI 1 = 0 by decide), if_neg (by decide)]
  · obtain ⟨h1, h2⟩ := h
    obtain ⟨M2, e1, e2, e3, e4⟩ := ci_try ho hc (o := 1) (j := i) (v := 3) (Or.inl ⟨rfl, by omega⟩) ⟨h1, pa_T S 1 i, by rw [md_up_self]; exact h2⟩
    have t2 : cc_T (pa_T S) 33 (mm_wr M2 34 i (nI (pa_T S 1 i))) := by
      have := cc_T_up (j := i) (v := pa_T S 1 i) (Or.inl rfl) e3
      rwa [md_up_up, md_up_self] at this
    refine ⟨mm_wr M2 34 i (nI (pa_T S 1 i)), ?_, e2.1.tr (fun q hq => q_wr_ne (by omega)), t2⟩
    show fX6_voice_L29 (nI z) (n + 1) s.1 s.2 (nI i) M1 = fX6_voice_L29 (nI z) n _ _ (nI (i + 1)) _
    rw [fX6_voice_L29, h2.1, if_neg (by rw [nI_leI (by omega) (by omega)]; omega), show mm_wa M1 34 8 (nI i) 3 = some (mm_wr M1 (33 + 1) i (nI 3)) from q_wa (by omega) (by omega), Option.bind_some, e1, Option.bind_some, show (1 : Int32) = nI 1 from rfl, cq_many e4 (by omega), Option.bind_some]
    unfold fX6_voice_J96
    rw [q_rd (by omega) (by omega), Option.bind_some, e2.1 25 (by omega), (hc.2.1.2.2.2.1 i hi).1, q_wa (by omega) (by omega), Option.bind_some, nI_1]
    by_cases c : mq_many (md_up (pa_T S) 1 i 3) (st_A S) 1 ≤ s.2
    · simp only [if_pos c]
    · simp only [if_neg c]
theorem rq_voice {S : md_T} {N : mm_M} (ho : st_o S) (h : RQ S N) {z : Nat} (hz : z < 2) : ∃ N', fX7_voiceBy (nI z) N = some (mq_voice S z, N') ∧ RW N N' ∧ RQ S N' := by
  have o1 := (st_ok ho).1
  have key := q_loopM (fun n (s : Int32 × Int32) N i => fX7_voiceBy_L7 (nI z) n s.1 s.2 i N) (fun k (s : Int32 × Int32) => if mq_many (md_up (pa_T S) 1 k 3) (st_A S) 1 ≤ s.2 then s else (nI k, mq_many (md_up (pa_T S) 1 k 3) (st_A S) 1)) (fun s M => some (if z = 0 then s.1 else s.2, M)) (fun N' => (∀ q, q ≤ 6 ∨ q = 9 ∨ q = 10 ∨ q = 18 ∨ q = 19 → N' q = N q) ∧ rr_T (pa_T S) N') (pa_T S 0 0) (fun n s N1 h => ?_) (fun n i s N1 hi h1 => ?_) (pa_T S 0 0) 0 1000 (-1, -1) N (by omega) (by omega) ⟨fun _ _ => rfl, h.2⟩
  · obtain ⟨N', e1, e2, e3⟩ := key
    have w : RW N N' := ⟨fun q hq => e2 q (by omega), fun j hj => by rw [e2 0 (by omega)]⟩
    exact ⟨N', e1, w, h.1.keep w, e3⟩
  · show fX7_voiceBy_L7 (nI z) (n + 1) s.1 s.2 (nI (pa_T S 0 0)) N1 = _
    rw [fX7_voiceBy_L7, h.2.1, if_pos (by rw [nI_leI (by omega) (by omega)]; omega)]
    rcases q_lt2 hz with e | e <;> subst e
    · rw [if_pos (show nI 0 = 0 from rfl), if_pos rfl]
    · rw [if_neg (show ¬ nI 1 = 0 by decide), if_neg (by decide)]
  · obtain ⟨h1, h2⟩ := h1
    have hp : ((1 : Nat) = 1 ∧ (7 : Nat) = 7 ∧ 2 * i = 2 * i) ∨ ((1 : Nat) = 2 ∧ (7 : Nat) = 7 ∧ 2 * i = 2 * i + 1) ∨ ((1 : Nat) = 5 ∧ (7 : Nat) = 8 ∧ 2 * i = 3 * i + 2) := Or.inl ⟨rfl, rfl, rfl⟩
    obtain ⟨⟨N2, e1, e2, e3, e4⟩, -⟩ := ni_try ho h.1 (o := 1) (j := i) (v := 3) (Or.inl ⟨rfl, by omega⟩) hp ⟨h1, pa_T S 1 i, by rw [md_up_self]; exact h2⟩
    have t2 : rr_T (pa_T S) (mm_wr N2 7 (2 * i) (nI (pa_T S 1 i))) := by
      have := rr_T_up (v := pa_T S 1 i) hp e4.2.1
      rwa [md_up_up, md_up_self] at this
    refine ⟨mm_wr N2 7 (2 * i) (nI (pa_T S 1 i)), ?_, fun q hq => by rw [q_wr_ne (by omega)]; exact e2.1 q hq, t2⟩
    show fX7_voiceBy_L7 (nI z) (n + 1) s.1 s.2 (nI i) N1 = fX7_voiceBy_L7 (nI z) n _ _ (nI (i + 1)) _
    rw [fX7_voiceBy_L7, h2.1, if_neg (by rw [nI_leI (by omega) (by omega)]; omega), q_lit 2, pk_mul, q_rd (by omega) (by omega), Option.bind_some, (h2.2.2.1 i hi).1, show mm_wa N1 7 16 (nI (2 * i)) 3 = some (mm_wr N1 7 (2 * i) (nI 3)) from q_wa (by omega) (by omega), Option.bind_some, e1, Option.bind_some, show (1 : Int32) = nI 1 from rfl, rq_many e4.1 e4.2.1.2.1 e4.2.2.1 (by omega), Option.bind_some]
    unfold fX7_voiceBy_J60 fX7_greater
    rw [q_lit 2, pk_mul, q_wa (by omega) (by omega), Option.bind_some, nI_1]
    by_cases c : mq_many (md_up (pa_T S) 1 i 3) (st_A S) 1 ≤ s.2
    · simp only [if_pos c]
    · simp only [if_neg c]
theorem op_voice {M N : mm_M} (h : Rel M N) (x : Int32) : AG (fX6_voice x M) (fX7_voice x N) := by
  obtain ⟨S, ho, hc, hn, hk, hx⟩ := h
  obtain ⟨N1, f1, f2, f3⟩ := rl_find ho hn
  by_cases c : 0 ≤ x.toInt ∧ x.toInt < ((2 : Nat) : Int)
  · obtain ⟨z, hz, rfl⟩ := q_of c.1 c.2 (by omega)
    obtain ⟨N2, g1, g2, g3⟩ := rq_voice ho f3.1 hz
    refine ag_of ho hn hx (cr_voice ho hc hk hz) ⟨N2, ?_, f2.tr g2⟩
    unfold fX7_voice
    rw [f1, Option.bind_some, q_isTwo]
    simp only [Option.bind_some, q_if10, if_pos c, if_neg q_10, g1]
  · unfold fX6_voice fX7_voice
    rw [f1, Option.bind_some, q_isTwo, q_lit 2, q_isOutside (by omega)]
    simp only [Option.bind_some, q_if10, q_if01, if_neg c]
    exact ag_of ho hn hx (cr_rf hc hk) (nr_of f2)
