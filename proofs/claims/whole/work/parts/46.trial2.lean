/-! sort, live, lent: one told number tried over -/
theorem md_up_up {T : md_T} {o j u v : Nat} : md_up (md_up T o j u) o j v = md_up T o j v := by
  funext a b
  unfold md_up
  by_cases c : a = o ∧ b = j
  · rw [if_pos c, if_pos c]
  · rw [if_neg c, if_neg c, if_neg c]
theorem md_up_self {T : md_T} {o j : Nat} : md_up T o j (T o j) = T := by
  funext a b
  unfold md_up
  by_cases c : a = o ∧ b = j
  · rw [if_pos c, c.1, c.2]
  · rw [if_neg c]
/-- a number of what is told, another: o is 1 (sort), 2 (dies) or 5 (uses) -/
theorem md_ok_up {T : md_T} (h : md_ok T) {o j v : Nat} (hv : (o = 1 ∧ v < 4) ∨ (o = 2 ∧ v < 24) ∨ (o = 5 ∧ 1 ≤ v ∧ v ≤ 9)) : md_ok (md_up T o j v) := by
  obtain ⟨h1, h2, h3, h4, h5, h6⟩ := h
  refine ⟨by rw [md_up_ne (by omega)]; exact h1, by rw [md_up_ne (by omega)]; exact h2, by rw [md_up_ne (by omega)]; exact h3, fun k hk => ?_, fun w hw => ?_, fun i hi => ?_⟩
  · rw [md_up_ne (by omega)] at hk
    have := h4 k hk
    unfold md_up
    constructor <;> split <;> omega
  · rw [md_up_ne (by omega)] at hw
    have := h5 w hw
    rw [md_up_ne (by omega), md_up_ne (by omega)]
    refine ⟨this.1, this.2.1, ?_, ?_⟩ <;> unfold md_up <;> split <;> omega
  · rw [md_up_ne (by omega)] at hi
    have := h6 i hi
    rw [md_up_ne (by omega), md_up_ne (by omega), md_up_ne (by omega)]
    exact this
theorem cc_T_up {T : md_T} {t o j v : Nat} {M : mm_M} (ho : o = 1 ∨ o = 2 ∨ o = 5) (h : cc_T T t M) : cc_T (md_up T o j v) t (mm_wr M (t + o) j (nI v)) := by
  obtain ⟨h1, h2, h3, h4, h5, h6⟩ := h
  have key : ∀ a i, 1 ≤ a → M (t + a) i = nI (T a i) → mm_wr M (t + o) j (nI v) (t + a) i = nI (md_up T o j v a i) := by
    intro a i ha e
    rw [q_wr]
    unfold md_up
    by_cases c : a = o ∧ i = j
    · rw [if_pos ⟨by omega, c.2⟩, if_pos c]
    · rw [if_neg (fun q => c ⟨by omega, q.2⟩), if_neg c]; exact e
  refine ⟨by rw [q_wr_ne (by omega), md_up_ne (by omega)]; exact h1, by rw [q_wr_ne (by omega), md_up_ne (by omega)]; exact h2, by rw [q_wr_ne (by omega), md_up_ne (by omega)]; exact h3, fun k hk => ?_, fun w hw => ?_, fun i hi => ?_⟩
  · rw [md_up_ne (by omega)] at hk
    exact ⟨key 1 k (by omega) (h4 k hk).1, key 2 k (by omega) (h4 k hk).2⟩
  · rw [md_up_ne (by omega)] at hw
    exact ⟨key 3 w (by omega) (h5 w hw).1, key 4 w (by omega) (h5 w hw).2.1, key 5 w (by omega) (h5 w hw).2.2⟩
  · rw [md_up_ne (by omega)] at hi
    exact ⟨key 6 i (by omega) (h6 i hi).1, key 7 i (by omega) (h6 i hi).2.1, key 8 i (by omega) (h6 i hi).2.2⟩
theorem rr_T_up {T : md_T} {o j v c p : Nat} {N : mm_M} (ho : (o = 1 ∧ c = 7 ∧ p = 2 * j) ∨ (o = 2 ∧ c = 7 ∧ p = 2 * j + 1) ∨ (o = 5 ∧ c = 8 ∧ p = 3 * j + 2)) (h : rr_T T N) : rr_T (md_up T o j v) (mm_wr N c p (nI v)) := by
  obtain ⟨h1, h2, h3, h4, m, h5, h6, h7, h8⟩ := h
  refine ⟨by rw [q_wr_ne (by omega), md_up_ne (by omega)]; exact h1, by rw [q_wr_ne (by omega), md_up_ne (by omega)]; exact h2, fun k hk => ?_, fun w hw => ?_, m, h5, by rw [q_wr_ne (by omega)]; exact h6, fun i hi => ?_, ?_⟩
  · rw [md_up_ne (by omega)] at hk
    obtain ⟨a1, a2⟩ := h3 k hk
    rw [q_wr, q_wr]
    unfold md_up
    constructor
    · by_cases q : 1 = o ∧ k = j
      · rw [if_pos (by omega), if_pos q]
      · rw [if_neg (by omega), if_neg q]; exact a1
    · by_cases q : 2 = o ∧ k = j
      · rw [if_pos (by omega), if_pos q]
      · rw [if_neg (by omega), if_neg q]; exact a2
  · rw [md_up_ne (by omega)] at hw
    obtain ⟨a1, a2, a3⟩ := h4 w hw
    rw [q_wr, q_wr, q_wr, md_up_ne (show 3 ≠ o by omega), md_up_ne (show 4 ≠ o by omega)]
    refine ⟨by rw [if_neg (by omega)]; exact a1, by rw [if_neg (by omega)]; exact a2, ?_⟩
    unfold md_up
    by_cases q : 5 = o ∧ w = j
    · rw [if_pos (by omega), if_pos q]
    · rw [if_neg (by omega), if_neg q]; exact a3
  · rw [q_wr_ne (by omega), md_up_ne (by omega), md_up_ne (by omega), md_up_ne (by omega)]; exact h7 i hi
  · rw [q_wr_ne (show 0 ≠ c by omega), md_up_ne (by omega), md_up_ne (by omega), md_up_ne (by omega), md_up_ne (by omega)]; exact h8
/-- the class's trial: what stands while one number is tried -/
def CI (S : md_T) (o j : Nat) (M0 M : mm_M) : Prop := CT M0 M ∧ ∃ u, cc_T (md_up (pa_T S) o j u) 33 M
theorem ci_begin {S : md_T} {M : mm_M} (ho : st_o S) (hc : RC S M) (o j : Nat) : ∃ M', fX5_becomeLike 33 24 M = some M' ∧ CI S o j M M' := by
  obtain ⟨M', e1, e2, e3⟩ := cl_like (st_ok ho) hc.2.1
  exact ⟨M', e1, fun q hq => e2 q (by omega), _, by rw [md_up_self]; exact e3⟩
theorem ci_try {S : md_T} {M0 M : mm_M} (ho : st_o S) (hc : RC S M0) {o j v : Nat} (hv : (o = 1 ∧ v < 4) ∨ (o = 2 ∧ v < 24) ∨ (o = 5 ∧ 1 ≤ v ∧ v ≤ 9)) (h : CI S o j M0 M) : ∃ M', fX1_run 55 33 (fX2_all (mm_wr M (33 + o) j (nI v))) (mm_wr M (33 + o) j (nI v)) = some M' ∧ CI S o j M0 M' ∧ cc_T (md_up (pa_T S) o j v) 33 M' ∧ cq_at 55 (md_up (pa_T S) o j v) (st_A S) M' := by
  obtain ⟨h1, u, h2⟩ := h
  have ct : CT M0 (mm_wr M (33 + o) j (nI v)) := h1.tr (fun q hq => q_wr_ne (by omega))
  have t1 : cc_T (md_up (pa_T S) o j v) 33 (mm_wr M (33 + o) j (nI v)) := by
    have := cc_T_up (j := j) (v := v) (show o = 1 ∨ o = 2 ∨ o = 5 by omega) h2
    rwa [md_up_up] at this
  have ce := ct.ce (show CE S M0 from hc.2.2.1)
  obtain ⟨M2, e1, e2, e3⟩ := cx_run (md_ok_up (st_ok ho) hv) (Or.inr rfl) ho ce t1 (fX2_all (mm_wr M (33 + o) j (nI v)))
  have eA : st_E S (fun i => bt (fX2_all (mm_wr M (33 + o) j (nI v))) i) = st_A S := by
    refine st_E_congr (fun i hi => ?_)
    have o4 := ho.2.1
    unfold fX2_all
    rw [ce.1, q_all (S 4 0) (by omega) i (by omega)]
    simp [hi]
  rw [eA] at e3
  have t2 : cc_T (md_up (pa_T S) o j v) 33 M2 := t1.keep (fun q a b => e2 q (by omega))
  exact ⟨M2, e1, ⟨ct.tr (fun q hq => e2 q (by omega)), v, t2⟩, t2, e3⟩
/-- the reference's -/
def NI (S : md_T) (o j : Nat) (N0 N : mm_M) : Prop := (∀ q, q ≤ 6 ∨ q = 9 ∨ q = 10 ∨ q = 18 ∨ q = 19 → N q = N0 q) ∧ ∃ u, rr_T (md_up (pa_T S) o j u) N
theorem ni_begin {S : md_T} {N : mm_M} (h : RQ S N) (o j : Nat) : NI S o j N N := ⟨fun _ _ => rfl, _, by rw [md_up_self]; exact h.2⟩
theorem ni_A {S : md_T} {N : mm_M} (hn : RN S N) : st_E S (fun i => !(bt (N 0 15) i)) = st_A S := by
  refine st_E_congr (fun i _ => ?_)
  have z : bt (nI 0) i = false := b_0 i
  rw [hn.2.2.2.1, z]
  rfl
theorem ni_try {S : md_T} {N0 N : mm_M} (ho : st_o S) (hn : RN S N0) {o j v c p : Nat} (hv : (o = 1 ∧ v < 4) ∨ (o = 2 ∧ v < 24) ∨ (o = 5 ∧ 1 ≤ v ∧ v ≤ 9)) (hp : (o = 1 ∧ c = 7 ∧ p = 2 * j) ∨ (o = 2 ∧ c = 7 ∧ p = 2 * j + 1) ∨ (o = 5 ∧ c = 8 ∧ p = 3 * j + 2)) (h : NI S o j N0 N) : (∃ N', fX7_runs (mm_wr N c p (nI v)) = some N' ∧ NI S o j N0 N' ∧ rr_F (mm_wr N c p (nI v)) N' ∧ rq_at (md_up (pa_T S) o j v) (st_A S) N') ∧ ∃ N', fX7_isCounted (mm_wr N c p (nI v)) = some (if mq_co S (md_up (pa_T S) o j v) (st_A S) = true then 1 else 0, N') ∧ NI S o j N0 N' ∧ rr_F (mm_wr N c p (nI v)) N' ∧ rq_at (md_up (pa_T S) o j v) (st_A S) N' := by
  obtain ⟨h1, u, h2⟩ := h
  have t1 : rr_T (md_up (pa_T S) o j v) (mm_wr N c p (nI v)) := by
    have := rr_T_up (v := v) hp h2
    rwa [md_up_up] at this
  have f0 : ∀ q, q ≤ 6 ∨ q = 9 ∨ q = 10 ∨ q = 18 ∨ q = 19 → mm_wr N c p (nI v) q = N0 q := fun q hq => by rw [q_wr_ne (by omega)]; exact h1 q hq
  have ne : NE S (mm_wr N c p (nI v)) := NE.k (N := N0) (by rw [f0 0 (by omega)]) (f0 10 (by omega)) hn.2.1
  have nl : NL S (mm_wr N c p (nI v)) := NL.k (N := N0) (by rw [f0 0 (by omega)]) (f0 19 (by omega)) hn.2.2.1
  have eA : st_E S (fun i => !(bt (mm_wr N c p (nI v) 0 15) i)) = st_A S := by rw [f0 0 (by omega)]; exact ni_A hn
  have hT := md_ok_up (j := j) (st_ok ho) hv
  constructor
  · obtain ⟨N', e1, e2, e3⟩ := rx_runs ho hT t1 ne
    rw [eA] at e3
    exact ⟨N', e1, ⟨fun q hq => by rw [e2 q (by omega)]; exact f0 q hq, v, t1.F e2⟩, e2, e3⟩
  · obtain ⟨N', e1, e2, e3⟩ := rx_count ho hT t1 ne nl
    rw [eA] at e1 e3
    exact ⟨N', e1, ⟨fun q hq => by rw [e2 q (by omega)]; exact f0 q hq, v, t1.F e2⟩, e2, e3⟩
theorem ni_end {S : md_T} {N0 N : mm_M} (hn : RQ S N0) {o j c p : Nat} (hp : (o = 1 ∧ c = 7 ∧ p = 2 * j) ∨ (o = 2 ∧ c = 7 ∧ p = 2 * j + 1) ∨ (o = 5 ∧ c = 8 ∧ p = 3 * j + 2)) (h : NI S o j N0 N) : RW N0 (mm_wr N c p (nI (pa_T S o j))) ∧ RQ S (mm_wr N c p (nI (pa_T S o j))) := by
  obtain ⟨h1, u, h2⟩ := h
  have w : RW N0 (mm_wr N c p (nI (pa_T S o j))) := ⟨fun q hq => by rw [q_wr_ne (by omega)]; exact h1 q (by omega), fun j hj => by rw [q_wr_ne (by omega), h1 0 (by omega)]⟩
  refine ⟨w, hn.1.keep w, ?_⟩
  have := rr_T_up (v := pa_T S o j) hp h2
  rwa [md_up_up, md_up_self] at this
/-! sort -/
def mq_sort (S : md_T) (k : Nat) : Int32 := md_fold (fun v s => if mq_co S (md_up (pa_T S) 1 k v) (st_A S) = true then s ||| ((1 : Int32) <<< (nI v &&& 31)) else s) 4 0 0
theorem cr_sort {S : md_T} {M : mm_M} (ho : st_o S) (hc : RC S M) (hk : KC S M) {k : Nat} (hw : k < pa_T S 0 0) : CR S M (fX6_sort (nI k) M) (mq_sort S k) := by
  have o1 := (st_ok ho).1
  have cl : CL S M := hc.2.2.2
  obtain ⟨M1, b1, b2⟩ := ci_begin ho hc 1 k
  have key := q_loopM (fun n s M i => fX6_sort_L32 (nI k) n s i M) (fun v s => if mq_co S (md_up (pa_T S) 1 k v) (st_A S) = true then s ||| ((1 : Int32) <<< (nI v &&& 31)) else s) (fun s M => some (s, M)) (fun M' => CI S 1 k M M') 4 (fun n s M1 h => ?_) (fun n i s M1 hi h => ?_) 4 0 1000 0 M1 (by omega) (by omega) b2
  · obtain ⟨M', e1, e2⟩ := key
    unfold fX6_sort
    have e1 : fX6_sort_L32 (nI k) 1000 0 (nI 0) M1 = _ := e1
    rw [hc.2.1.1, q_outN (by omega) (by omega), if_pos hw, if_pos rfl, b1, Option.bind_some, show (fX6_sort_L32 (nI k) 1000 0 0 M1) = fX6_sort_L32 (nI k) 1000 0 (nI 0) M1 from rfl, e1]
    exact e2.1.cr hc hk
  · show fX6_sort_L32 (nI k) (n + 1) s (nI 4) M1 = _
    rw [fX6_sort_L32, if_pos (by decide)]
  · obtain ⟨M2, e1, e2, e3, e4⟩ := ci_try ho hc (v := i) (Or.inl ⟨rfl, hi⟩) h
    refine ⟨M2, ?_, e2⟩
    show fX6_sort_L32 (nI k) (n + 1) s (nI i) M1 = fX6_sort_L32 (nI k) n _ (nI (i + 1)) M2
    rw [fX6_sort_L32, if_neg (by rw [q_lit 4, nI_leI (by omega) (by omega)]; omega), q_wa (by omega) (by omega), Option.bind_some, show (34 : Nat) = 33 + 1 from rfl, e1, Option.bind_some, cx_co ho e4 (e2.1.cl cl), Option.bind_some, q_if10, nI_1]
theorem rq_sort {S : md_T} {N : mm_M} (ho : st_o S) (h : RQ S N) {k : Nat} (hw : k < pa_T S 0 0) : ∃ N', fX7_sortOf (nI k) N = some (mq_sort S k, N') ∧ RW N N' ∧ RQ S N' := by
  have o1 := (st_ok ho).1
  have hp : ((1 : Nat) = 1 ∧ (7 : Nat) = 7 ∧ 2 * k = 2 * k) ∨ ((1 : Nat) = 2 ∧ (7 : Nat) = 7 ∧ 2 * k = 2 * k + 1) ∨ ((1 : Nat) = 5 ∧ (7 : Nat) = 8 ∧ 2 * k = 3 * k + 2) := Or.inl ⟨rfl, rfl, rfl⟩
  have old := (h.2.2.2.1 k hw).1
  have key := q_loopM (fun n s N i => fX7_sortOf_L14 (nI k) (nI (pa_T S 1 k)) (fun z6 M7 => (mm_wa M7 7 16 (2 * nI k) (nI (pa_T S 1 k))).bind fun M8 => some (z6, M8)) n s i N) (fun v s => if mq_co S (md_up (pa_T S) 1 k v) (st_A S) = true then s ||| ((1 : Int32) <<< (nI v &&& 31)) else s) (fun s M => some (s, mm_wr M 7 (2 * k) (nI (pa_T S 1 k)))) (fun N' => NI S 1 k N N') 4 (fun n s N1 h => ?_) (fun n i s N1 hi h1 => ?_) 4 0 1000 0 N (by omega) (by omega) (ni_begin h 1 k)
  · obtain ⟨N', e1, e2⟩ := key
    obtain ⟨w, q⟩ := ni_end h hp e2
    refine ⟨_, ?_, w, q⟩
    unfold fX7_sortOf
    rw [q_lit 2, pk_mul, q_rd (by omega) (by omega), Option.bind_some, old]
    have e1 : fX7_sortOf_L14 (nI k) (nI (pa_T S 1 k)) (fun z6 M7 => (mm_wa M7 7 16 (2 * nI k) (nI (pa_T S 1 k))).bind fun M8 => some (z6, M8)) 1000 0 (nI 0) N = _ := e1
    rw [q_lit 2, pk_mul] at e1
    exact e1
  · show fX7_sortOf_L14 (nI k) (nI (pa_T S 1 k)) _ (n + 1) s (nI 4) N1 = _
    rw [fX7_sortOf_L14, if_pos (by decide), q_lit 2, pk_mul, q_wa (by omega) (by omega), Option.bind_some]
  · obtain ⟨-, N2, e1, e2, e3, e4⟩ := ni_try ho h.1 (v := i) (Or.inl ⟨rfl, hi⟩) hp h1
    refine ⟨N2, ?_, e2⟩
    show fX7_sortOf_L14 (nI k) (nI (pa_T S 1 k)) _ (n + 1) s (nI i) N1 = fX7_sortOf_L14 (nI k) (nI (pa_T S 1 k)) _ n _ (nI (i + 1)) N2
    rw [fX7_sortOf_L14, if_neg (by rw [q_lit 4, nI_leI (by omega) (by omega)]; omega), show mm_wa N1 7 16 (2 * nI k) (nI i) = some (mm_wr N1 7 (2 * k) (nI i)) by rw [q_lit 2, pk_mul, q_wa (by omega) (by omega)], Option.bind_some, e1, Option.bind_some, nI_1, q_or0']
    simp only [q_if10]
theorem op_sort {M N : mm_M} (h : Rel M N) (x : Int32) : AG (fX6_sort x M) (fX7_sort x N) := by
  obtain ⟨S, ho, hc, hn, hk, hx⟩ := h
  obtain ⟨N1, f1, f2, f3⟩ := rl_find ho hn
  have o1 := (st_ok ho).1
  by_cases c : 0 ≤ x.toInt ∧ x.toInt < ((pa_T S 0 0 : Nat) : Int)
  · obtain ⟨k, hw, rfl⟩ := q_of c.1 c.2 (by omega)
    obtain ⟨N2, g1, g2, g3⟩ := rq_sort ho f3.1 hw
    refine ag_of ho hn hx (cr_sort ho hc hk hw) ⟨N2, ?_, f2.tr g2⟩
    unfold fX7_sort
    rw [f1, Option.bind_some, q_isPerson f3.1.2.1 (by omega)]
    simp only [Option.bind_some, q_if10, if_pos c, if_neg q_10, g1]
  · unfold fX6_sort fX7_sort
    rw [f1, Option.bind_some, q_isPerson f3.1.2.1 (by omega), hc.2.1.1, q_isOutside (by omega)]
    simp only [Option.bind_some, q_if10, q_if01, if_neg c]
    exact ag_of ho hn hx (cr_rf hc hk) (nr_of f2)
