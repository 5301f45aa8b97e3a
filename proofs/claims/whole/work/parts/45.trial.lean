/-! TRIALS: another told, another run -/
theorem q_cp0 {M : mm_M} {k k1 n0 c : Nat} (h : c ≤ n0) (hn : n0 < 2 ^ 31) : mm_cp M k n0 0 k1 n0 0 (nI c) = some (mm_up M k1 (fun i => if i < c then M k i else M k1 i)) := by
  have e := q_cp (M := M) (k := k) (n0 := n0) (k1 := k1) (n1 := n0) (sp := 0) (dp := 0) (n := c) (by omega) (by omega) hn hn
  rw [show (0 : Int32) = nI 0 from rfl, e]
  congr 2
  funext i
  unfold va_cpy
  by_cases q : i < c
  · rw [if_pos (by omega), if_pos q]; congr 1; omega
  · rw [if_neg (by omega), if_neg q]
theorem cl_like {T : md_T} {M : mm_M} (ho : md_ok T) (h : cc_T T 24 M) : ∃ M', fX5_becomeLike 33 24 M = some M' ∧ (∀ q, q < 33 ∨ 41 < q → M' q = M q) ∧ cc_T T 33 M' := by
  obtain ⟨o1, o2, o3, -⟩ := ho
  obtain ⟨h0, h3, h7, hp, hw, hm⟩ := h
  unfold fX5_becomeLike
  simp (disch := omega) only [q_pf, Option.bind_some, q_wr_eq, q_wr_ne, q_up_ne, q_wr_n2, h0, h3, h7, q_cp0]
  refine ⟨_, rfl, fun q hq => ?_, ?_, ?_, ?_, fun k hk => ?_, fun w hw' => ?_, fun i hi => ?_⟩
  · simp (disch := omega) only [q_wr_ne, q_up_ne]
  · simp (disch := omega) only [q_wr_eq, q_wr_ne, q_up_ne, q_wr_n2]
  · simp (disch := omega) only [q_wr_eq, q_wr_ne, q_up_ne, q_wr_n2]
  · simp (disch := omega) only [q_wr_eq, q_wr_ne, q_up_ne, q_wr_n2]
  · simp (disch := omega) only [q_wr_ne, q_up_ne, q_up_eq, if_pos hk]
    exact hp k hk
  · simp (disch := omega) only [q_wr_ne, q_up_ne, q_up_eq, if_pos hw']
    exact hw w hw'
  · simp (disch := omega) only [q_wr_ne, q_up_ne, q_up_eq, if_pos hi]
    exact hm i hi
def mq_co (S T : md_T) (E : Nat → Nat → Bool) : Bool := !(md_any (fun i => !(decide (S 8 i < T 0 3) && (md_tr T E (S 7 i + 1) 2 (S 8 i) == S 9 i))) (S 4 1) 0)
theorem cx_run {S T : md_T} {t : Nat} {M : mm_M} (hT : md_ok T) (ht : t = 24 ∨ t = 33) (ho : st_o S) (ce : CE S M) (h : cc_T T t M) (x : Int32) : ∃ M', fX1_run 55 t x M = some M' ∧ (∀ q, q < 55 ∨ 67 < q → M' q = M q) ∧ cq_at 55 T (st_E S (fun i => bt x i)) M' := by
  have hE : cc_E (st_E S (fun i => bt x i)) x M := by
    obtain ⟨h1, h2⟩ := ce
    obtain ⟨-, o4, o5, -⟩ := ho
    refine ⟨S 4 0, o4, h1, fun i hi => ⟨S 5 i, S 6 i, (o5 i hi).1, (o5 i hi).2, (h2 i hi).1, (h2 i hi).2⟩, fun d k hd hk => ?_⟩
    rw [st_E_iff]
    constructor
    · rintro ⟨i, a, b, c, e⟩
      refine ⟨i, a, by rw [(h2 i a).1, b], by rw [(h2 i a).2, c], e⟩
    · rintro ⟨i, a, b, c, e⟩
      have u := o5 i a
      rw [(h2 i a).1, nI_eq (by omega) (by omega)] at b
      rw [(h2 i a).2, nI_eq (by omega) (by omega)] at c
      exact ⟨i, a, b, c, e⟩
  obtain ⟨M', e1, e2, e3, e4⟩ := cc_run (r := 55) (t := t) ⟨by omega, by omega, by omega⟩ hT h hE
  exact ⟨M', e1, fun q hq => e2 q (by omega), hT, e3, e4⟩
theorem cx_co_L {S T : md_T} {E : Nat → Nat → Bool} {M : mm_M} (ho : st_o S) (h : cq_at 55 T E M) (hl : CL S M) : ∀ f i n, i + f = S 4 1 → f < n → fX0_comesOut_L2 55 M n (nI i) = some (if md_any (fun i => !(decide (S 8 i < T 0 3) && (md_tr T E (S 7 i + 1) 2 (S 8 i) == S 9 i))) f i = true then 0 else 1)
  | 0, i, n + 1, hi, hn => by
    have o4 := ho.2.2.2.1
    rw [fX0_comesOut_L2, hl.1, if_pos (by rw [nI_leI (by omega) (by omega)]; omega)]; rfl
  | f + 1, i, n + 1, hi, hn => by
    have o4 := ho.2.2.2.1
    obtain ⟨o7, o8, o9⟩ := ho.2.2.2.2 i (by omega)
    obtain ⟨l1, l2, l3⟩ := hl.2 i (by omega)
    have ih := cx_co_L ho h hl f (i + 1) n (by omega) (by omega)
    have ok := (md_tr_ok (E := E) h.1 (S 7 i + 1)).1 (S 8 i)
    rw [fX0_comesOut_L2, hl.1, if_neg (by rw [nI_leI (by omega) (by omega)]; omega), q_rd (by omega) (by omega), q_rd (by omega) (by omega), q_rd (by omega) (by omega)]
    simp only [Option.bind_some]
    rw [l1, l2, l3, cq_left h o7 (by omega), Option.bind_some, nI_1, ih]
    by_cases c1 : S 8 i < T 0 3
    · have b := (ok c1).2.1
      rw [if_pos c1]
      by_cases c2 : md_tr T E (S 7 i + 1) 2 (S 8 i) = S 9 i
      · rw [if_pos (by rw [c2])]
        simp [md_any, c1, c2]
      · rw [if_neg (by rw [nI_eq (by omega) (by omega)]; exact c2)]
        simp [md_any, c1, c2]
    · rw [if_neg c1, if_neg (q_m1' (a := S 9 i) (by omega))]
      simp [md_any, c1]
theorem cx_co {S T : md_T} {E : Nat → Nat → Bool} {M : mm_M} (ho : st_o S) (h : cq_at 55 T E M) (hl : CL S M) : fX0_comesOut 55 M = some (if mq_co S T E = true then 1 else 0) := by
  have o4 := ho.2.2.2.1
  have e := cx_co_L ho h hl (S 4 1) 0 1000 (by omega) (by omega)
  unfold fX0_comesOut mq_co
  rw [q_lit 0, e]
  cases md_any (fun i => !(decide (S 8 i < T 0 3) && (md_tr T E (S 7 i + 1) 2 (S 8 i) == S 9 i))) (S 4 1) 0 <;> rfl
theorem rx_runs {S T : md_T} {N : mm_M} (ho : st_o S) (hT : md_ok T) (h : rr_T T N) (he : NE S N) : ∃ N', fX7_runs N = some N' ∧ rr_F N N' ∧ rq_at T (st_E S (fun i => !(bt (N 0 15) i))) N' := by
  obtain ⟨N', e1, e2, e3, e4⟩ := rr_runs (E := st_E S (fun i => !(bt (N 0 15) i))) ⟨hT, h, RN.E ho he⟩
  exact ⟨N', e1, e2, hT, h.F e2, e3, e4⟩
theorem rx_co_L {S T : md_T} {E : Nat → Nat → Bool} {N : mm_M} (ho : st_o S) (h : rq_at T E N) (hl : NL S N) : ∀ f i n (b : Bool), i + f = S 4 1 → f < n → fX7_isCounted_L8 N n (if b = true then 1 else 0) (nI i) = some (if (b && !(md_any (fun i => !(decide (S 8 i < T 0 3) && (md_tr T E (S 7 i + 1) 2 (S 8 i) == S 9 i))) f i)) = true then 1 else 0, N)
  | 0, i, n + 1, b, hi, hn => by
    have o4 := ho.2.2.2.1
    rw [fX7_isCounted_L8, hl.1, if_pos (by rw [nI_leI (by omega) (by omega)]; omega), q_zb, Option.bind_some]
    simp [md_any]
  | f + 1, i, n + 1, b, hi, hn => by
    have o4 := ho.2.2.2.1
    have o2 := h.1.2.1
    obtain ⟨o7, o8, o9⟩ := ho.2.2.2.2 i (by omega)
    obtain ⟨l1, l2, l3⟩ := hl.2 i (by omega)
    have ih := fun b => rx_co_L ho h hl f (i + 1) n b (by omega) (by omega)
    have ih0 := ih false
    have ih1 := ih true
    simp only [Bool.false_eq_true, if_false, Bool.false_and, if_true, Bool.true_and] at ih0 ih1
    have ok := (md_tr_ok (E := E) h.1 (S 7 i + 1)).1 (S 8 i)
    rw [fX7_isCounted_L8, hl.1, if_neg (by rw [nI_leI (by omega) (by omega)]; omega)]
    simp (disch := omega) only [q_lit 3, q_lit 2, q_lit 12, pk_mul, nI_add, nI_1, q_rd, Option.bind_some, l1, l2, l3]
    cases b with
    | false =>
      rw [if_pos (show (if false = true then (1 : Int32) else 0) = 0 from rfl), ih0]
      simp
    | true =>
      rw [if_neg (show ¬ (if true = true then (1 : Int32) else 0) = 0 by decide), q_isWord h.2.1.2.1 (by omega), Option.bind_some, nI_toInt (by omega), q_if10]
      by_cases c1 : S 8 i < T 0 3
      · obtain ⟨-, e2⟩ := (h.2.2.2 (S 7 i) o7).1 (S 8 i) c1
        have b := (ok c1).2.1
        rw [if_pos (by omega), e2]
        by_cases c2 : md_tr T E (S 7 i + 1) 2 (S 8 i) = S 9 i
        · rw [if_pos (by rw [c2]), ih1]
          simp [md_any, c1, c2]
        · rw [if_neg (by rw [nI_eq (by omega) (by omega)]; exact c2), ih0]
          simp [md_any, c1, c2]
      · rw [if_neg (by omega), ih0]
        simp [md_any, c1]
theorem rx_count {S T : md_T} {N : mm_M} (ho : st_o S) (hT : md_ok T) (h : rr_T T N) (he : NE S N) (hl : NL S N) : ∃ N', fX7_isCounted N = some (if mq_co S T (st_E S (fun i => !(bt (N 0 15) i))) = true then 1 else 0, N') ∧ rr_F N N' ∧ rq_at T (st_E S (fun i => !(bt (N 0 15) i))) N' := by
  have o4 := ho.2.2.2.1
  obtain ⟨N', e1, e2, e3⟩ := rx_runs ho hT h he
  have hl' : NL S N' := by
    unfold NL at hl ⊢
    rw [e2 0 (by omega), e2 19 (by omega)]; exact hl
  have e := rx_co_L ho e3 hl' (S 4 1) 0 1000 true (by omega) (by omega)
  simp only [if_true, Bool.true_and] at e
  refine ⟨N', ?_, e2, e3⟩
  unfold fX7_isCounted
  rw [e1, Option.bind_some, q_lit 0]
  exact e
/-- what stays through the class's trials -/
theorem CT.ce {S : md_T} {M M' : mm_M} (h : CT M M') (k : CE S M) : CE S M' := by
  unfold CE at k ⊢
  rw [h 17 (by omega), h 18 (by omega), h 19 (by omega)]; exact k
theorem CT.cl {S : md_T} {M M' : mm_M} (h : CT M M') (k : CL S M) : CL S M' := by
  unfold CL at k ⊢
  rw [h 20 (by omega), h 21 (by omega), h 22 (by omega), h 23 (by omega)]; exact k
theorem CT.cr {α : Type} {S : md_T} {M M' : mm_M} {r : α} (h : CT M M') (hc : RC S M) (hk : KC S M) : CR S M (some (r, M')) r := ⟨M', rfl, h.q, hc.keep h.q.1, hk.ct h⟩
/-! never -/
def mq_never (S T : md_T) : Int32 := md_fold (fun i s => if mq_co S T (st_E S (fun j => !(decide (j = i)))) = true then s ||| ((1 : Int32) <<< (nI i &&& 31)) else s) (S 4 0) 0 0
theorem q_but {S : md_T} {M : mm_M} (ho : st_o S) (hc : CE S M) {i : Nat} (hi : i < 8) : st_E S (fun j => bt ((fX2_all M) &&& (((1 : Int32) <<< (nI i &&& 31)) ^^^ (-1))) j) = st_E S (fun j => !(decide (j = i))) := by
  have o4 := ho.2.1
  refine st_E_congr (fun j hj => ?_)
  unfold fX2_all
  rw [hc.1, b_and, q_all (S 4 0) (by omega) j (by omega), q_not (by omega), q_one (by omega) (by omega)]
  simp [hj]
theorem cr_never {S : md_T} {M : mm_M} (ho : st_o S) (hc : RC S M) (hk : KC S M) : CR S M (fX6_never M) (mq_never S (pa_T S)) := by
  have o4 := ho.2.1
  have ce : CE S M := hc.2.2.1
  have cl : CL S M := hc.2.2.2
  have key := q_loopM (fun n s M i => fX6_never_L4 n s i M) (fun i s => if mq_co S (pa_T S) (st_E S (fun j => !(decide (j = i)))) = true then s ||| ((1 : Int32) <<< (nI i &&& 31)) else s) (fun s M => some (s, M)) (fun M' => CT M M') (S 4 0) (fun n s M1 h => ?_) (fun n i s M1 hi h => ?_) (S 4 0) 0 1000 0 M (by omega) (by omega) CT.rf
  · obtain ⟨M', e1, e2⟩ := key
    unfold fX6_never
    have e1 : fX6_never_L4 1000 0 (nI 0) M = _ := e1
    rw [show (fX6_never_L4 1000 0 0 M) = fX6_never_L4 1000 0 (nI 0) M from rfl, e1]
    exact e2.cr hc hk
  · show fX6_never_L4 (n + 1) s (nI (S 4 0)) M1 = _
    rw [fX6_never_L4, (h.ce ce).1, if_pos (by rw [nI_leI (by omega) (by omega)]; omega)]
  · have ce1 := h.ce ce
    have t24 : cc_T (pa_T S) 24 M1 := hc.2.1.keep (fun q a b => h q (by omega))
    obtain ⟨M2, e1, e2, e3⟩ := cx_run (st_ok ho) (Or.inl rfl) ho ce1 t24 ((fX2_all M1) &&& (((1 : Int32) <<< (nI i &&& 31)) ^^^ (-1)))
    rw [q_but ho ce1 (by omega)] at e3
    have ct2 : CT M M2 := h.tr (fun q hq => e2 q (by omega))
    refine ⟨M2, ?_, ct2⟩
    show fX6_never_L4 (n + 1) s (nI i) M1 = fX6_never_L4 n _ (nI (i + 1)) M2
    rw [fX6_never_L4, ce1.1, if_neg (by rw [nI_leI (by omega) (by omega)]; omega), e1, Option.bind_some, cx_co ho e3 (ct2.cl cl), Option.bind_some, q_if10, nI_1]
def RX (S T : md_T) (N0 N : mm_M) : Prop := rr_T T N ∧ (∀ q, (1 ≤ q ∧ q ≤ 6) ∨ q = 10 ∨ 17 < q → N q = N0 q) ∧ ∀ j, j ≠ 15 → N 0 j = N0 0 j
theorem NE.k {S : md_T} {N N' : mm_M} (h0 : N' 0 13 = N 0 13) (h : N' 10 = N 10) (k : NE S N) : NE S N' := by
  unfold NE at k ⊢
  rw [h0, h]; exact k
theorem NL.k {S : md_T} {N N' : mm_M} (h0 : N' 0 27 = N 0 27) (h : N' 19 = N 19) (k : NL S N) : NL S N' := by
  unfold NL at k ⊢
  rw [h0, h]; exact k
theorem rr_T.g {T : md_T} {N : mm_M} {x : Int32} (h : rr_T T N) : rr_T T (mm_wr N 0 15 x) := by
  unfold rr_T at h ⊢
  simp (disch := omega) only [q_wr_ne, q_wr_n2]
  exact h
theorem rq_never {S : md_T} {N : mm_M} (ho : st_o S) (h : RQ S N) : ∃ N', fX7_neverNow N = some (mq_never S (pa_T S), N') ∧ RW N N' ∧ RQ S N' := by
  have o4 := ho.2.1
  obtain ⟨hn, hT⟩ := h
  have key := q_loopM (fun n s N i => fX7_neverNow_L4 (fun z5 M6 => (mm_pf M6 0 15 0).bind fun M7 => some (z5, M7)) n s i N) (fun i s => if mq_co S (pa_T S) (st_E S (fun j => !(decide (j = i)))) = true then s ||| ((1 : Int32) <<< (nI i &&& 31)) else s) (fun s M => some (s, mm_wr M 0 15 0)) (fun N' => RX S (pa_T S) N N') (S 4 0) (fun n s N1 h => ?_) (fun n i s N1 hi h => ?_) (S 4 0) 0 1000 0 N (by omega) (by omega) ⟨hT, fun _ _ => rfl, fun _ _ => rfl⟩
  · obtain ⟨N', e1, e2, e3, e4⟩ := key
    have w : RW N (mm_wr N' 0 15 0) := ⟨fun q hq => by rw [q_wr_ne (by omega)]; exact e3 q (by omega), fun j hj => by
      by_cases c : j = 15
      · rw [c, q_wr_eq, hn.2.2.2.1]; rfl
      · rw [q_wr_n2 c]; exact e4 j c⟩
    exact ⟨_, e1, w, hn.keep w, e2.g⟩
  · show fX7_neverNow_L4 _ (n + 1) s (nI (S 4 0)) N1 = _
    rw [fX7_neverNow_L4, h.2.2 13 (by omega), hn.2.1.1, if_pos (by rw [nI_leI (by omega) (by omega)]; omega)]
    rfl
  · obtain ⟨h1, h2, h3⟩ := h
    have ne : NE S (mm_wr N1 0 15 ((1 : Int32) <<< (nI i &&& 31))) := NE.k (N := N) (by rw [q_wr_n2 (by decide), h3 13 (by omega)]) (by rw [q_wr_ne (by decide), h2 10 (by omega)]) hn.2.1
    have nl : NL S (mm_wr N1 0 15 ((1 : Int32) <<< (nI i &&& 31))) := NL.k (N := N) (by rw [q_wr_n2 (by decide), h3 27 (by omega)]) (by rw [q_wr_ne (by decide), h2 19 (by omega)]) hn.2.2.1
    obtain ⟨N2, e1, e2, e3⟩ := rx_count ho (st_ok ho) h1.g ne nl
    have eE : st_E S (fun j => !(bt (mm_wr N1 0 15 ((1 : Int32) <<< (nI i &&& 31)) 0 15) j)) = st_E S (fun j => !(decide (j = i))) := st_E_congr (fun j hj => by rw [q_wr_eq, q_one (by omega) (by omega)])
    rw [eE] at e1 e3
    refine ⟨N2, ?_, e3.2.1, fun q hq => by rw [e2 q (by omega), q_wr_ne (by omega)]; exact h2 q hq, fun j hj => by rw [e2 0 (by omega), q_wr_n2 hj]; exact h3 j hj⟩
    show fX7_neverNow_L4 _ (n + 1) s (nI i) N1 = fX7_neverNow_L4 _ n _ (nI (i + 1)) N2
    rw [fX7_neverNow_L4, h3 13 (by omega), hn.2.1.1, if_neg (by rw [nI_leI (by omega) (by omega)]; omega), q_pf, Option.bind_some, e1, Option.bind_some, nI_1, q_or0']
    simp only [q_if10]
theorem op_never {M N : mm_M} (h : Rel M N) : AG (fX6_never M) (fX7_never N) := by
  obtain ⟨S, ho, hc, hn, hk, hx⟩ := h
  obtain ⟨N1, f1, f2, f3⟩ := rl_find ho hn
  obtain ⟨N2, g1, g2, g3⟩ := rq_never ho f3.1
  refine ag_of ho hn hx (cr_never ho hc hk) ⟨N2, ?_, f2.tr g2⟩
  unfold fX7_never
  rw [f1, Option.bind_some, g1]
  rfl
