/-! lives: meetings drawn -/
def lv_u (y : Int32) : Nat := (y.toBitVec >>> 16).toNat
theorem lv_u_lt (y : Int32) : lv_u y < 65536 := by
  unfold lv_u
  rw [BitVec.toNat_ushiftRight, Nat.shiftRight_eq_div_pow]
  have := y.toBitVec.isLt
  omega
theorem lv_u_eq (y : Int32) : mm_ushr y 16 = nI (lv_u y) := by
  have h := lv_u_lt y
  have e : (mm_ushr y 16).toBitVec = y.toBitVec >>> 16 := rfl
  apply Int32.toBitVec_inj.mp
  rw [e]
  apply BitVec.eq_of_toNat_eq
  show lv_u y = (BitVec.ofNat 32 (lv_u y)).toNat
  rw [BitVec.toNat_ofNat]
  omega
def lv_s (x : Int32) : Nat → Int32
  | 0 => x
  | i + 1 => fX5_nextSeed (fX5_nextSeed (fX5_nextSeed (lv_s x i)))
def lv_T (T : md_T) (x : Int32) (n : Nat) : md_T := fun o j => if o = 6 then lv_u (fX5_nextSeed (lv_s x j)) % 24 else if o = 7 then lv_u (fX5_nextSeed (fX5_nextSeed (lv_s x j))) % T 0 0 else if o = 8 then lv_u (fX5_nextSeed (fX5_nextSeed (fX5_nextSeed (lv_s x j)))) % T 0 0 else if o = 0 ∧ j = 7 then n else T o j
theorem lv_ok {T : md_T} (h : md_ok T) {x : Int32} {n : Nat} (hn : n ≤ 12) (hp : 0 < n → 0 < T 0 0) : md_ok (lv_T T x n) := by
  obtain ⟨h1, h2, h3, h4, h5, h6⟩ := h
  refine ⟨h1, h2, (show n ≤ 13 by omega), h4, h5, fun i hi => ?_⟩
  have hi : i < n := hi
  have h0 := hp (by omega)
  refine ⟨Nat.mod_lt _ (by omega), ?_, ?_⟩
  · exact Nat.lt_of_lt_of_le (Nat.mod_lt _ h0) h1
  · exact Nat.lt_of_lt_of_le (Nat.mod_lt _ h0) h1
theorem dm_L {x : Int32} {T : md_T} {m : Nat} (hm : m ≤ 12) (h8 : T 0 0 ≤ 8) (h0 : 0 < T 0 0) : ∀ f i n (M : mm_M), i + f = m → f < n → M 33 0 = nI (T 0 0) → M 33 7 = nI i → ∃ M', fX5_drawMeetings_L10 33 (nI m) n (lv_s x i) (nI i) M = some M' ∧ (∀ q, q ≠ 33 → q ≠ 39 → q ≠ 40 → q ≠ 41 → M' q = M q) ∧ (∀ j, j ≠ 7 → M' 33 j = M 33 j) ∧ M' 33 7 = nI m ∧ (∀ j, j < i → M' 39 j = M 39 j ∧ M' 40 j = M 40 j ∧ M' 41 j = M 41 j) ∧ ∀ j, i ≤ j → j < m → M' 39 j = nI (lv_T T x m 6 j) ∧ M' 40 j = nI (lv_T T x m 7 j) ∧ M' 41 j = nI (lv_T T x m 8 j)
  | 0, i, n + 1, M, hi, hn, a0, a7 => ⟨M, by rw [fX5_drawMeetings_L10, if_pos (by rw [nI_leI (by omega) (by omega)]; omega)], fun _ _ _ _ _ => rfl, fun _ _ => rfl, by rw [a7, show i = m by omega], fun _ _ => ⟨rfl, rfl, rfl⟩, fun j a b => by omega⟩
  | f + 1, i, n + 1, M, hi, hn, a0, a7 => by
    have u1 := lv_u_lt (fX5_nextSeed (lv_s x i))
    have u2 := lv_u_lt (fX5_nextSeed (fX5_nextSeed (lv_s x i)))
    have u3 := lv_u_lt (fX5_nextSeed (fX5_nextSeed (fX5_nextSeed (lv_s x i))))
    have g := q_addM (r := 33) (x := nI (lv_T T x m 6 i)) (y := nI (lv_T T x m 7 i)) (z := nI (lv_T T x m 8 i)) a7 (by omega)
    obtain ⟨M', e1, e2, e3, e4, e5, e6⟩ := dm_L (x := x) hm h8 h0 f (i + 1) n (mm_wr (mm_wr (mm_wr (mm_wr M (33 + 6) i (nI (lv_T T x m 6 i))) (33 + 7) i (nI (lv_T T x m 7 i))) (33 + 8) i (nI (lv_T T x m 8 i))) 33 7 (nI (i + 1))) (by omega) (by omega) (by simp (disch := omega) only [q_wr_ne, q_wr_n2]; exact a0) q_wr_eq
    refine ⟨M', ?_, fun q a b c d => ?_, fun j hj => ?_, e4, fun j hj => ?_, fun j a b => ?_⟩
    · rw [fX5_drawMeetings_L10, if_neg (by rw [nI_leI (by omega) (by omega)]; omega), a0, if_neg (nI_nle h0 (by omega)), lv_u_eq, lv_u_eq, lv_u_eq, q_rm (by omega) (by omega) h0, Option.bind_some, q_rm (by omega) (by omega) h0, Option.bind_some, q_lit 24, pk_rem (by omega) (by omega) (by omega)]
      rw [show fX5_addMeeting 33 (nI (lv_u (fX5_nextSeed (lv_s x i)) % 24)) (nI (lv_u (fX5_nextSeed (fX5_nextSeed (lv_s x i))) % T 0 0)) (nI (lv_u (fX5_nextSeed (fX5_nextSeed (fX5_nextSeed (lv_s x i)))) % T 0 0)) M = _ from g, Option.bind_some, nI_1]
      exact e1
    · rw [e2 q a b c d]
      simp (disch := omega) only [q_wr_ne]
    · rw [e3 j hj]
      simp (disch := omega) only [q_wr_ne, q_wr_n2]
    · obtain ⟨b1, b2, b3⟩ := e5 j (by omega)
      rw [b1, b2, b3]
      simp (disch := omega) only [q_wr_ne, q_wr_n2, and_self]
    · by_cases c : j = i
      · obtain ⟨b1, b2, b3⟩ := e5 i (by omega)
        rw [c, b1, b2, b3]
        simp (disch := omega) only [q_wr_ne, q_wr_eq, and_self, Nat.reduceAdd]
      · exact e6 j (by omega) b
def lv_n (S : md_T) (m : Nat) : Nat := if pa_T S 0 0 = 0 then 0 else m
theorem cl_draw {S : md_T} {M : mm_M} (ho : st_o S) {m : Nat} (hm : m ≤ 12) (x : Int32) (h : cc_T (pa_T S) 33 M) : ∃ M', fX5_drawMeetings 33 x (nI m) M = some M' ∧ (∀ q, q < 33 ∨ 41 < q → M' q = M q) ∧ cc_T (lv_T (pa_T S) x (lv_n S m)) 33 M' := by
  have o1 := (st_ok ho).1
  obtain ⟨h1, h2, h3, h4, h5, h6⟩ := h
  unfold fX5_drawMeetings
  rw [q_pf, Option.bind_some, q_lit 0]
  by_cases c : pa_T S 0 0 = 0
  · refine ⟨mm_wr M 33 7 (nI 0), ?_, fun q hq => q_wr_ne (by omega), ?_⟩
    · rw [fX5_drawMeetings_L10, q_wr_n2 (by decide), h1, c]
      by_cases c1 : nI m ≤ nI 0
      · rw [if_pos c1]
      · rw [if_neg c1, if_pos (by decide)]
    · unfold lv_n
      rw [if_pos c]
      refine ⟨by rw [q_wr_n2 (by decide)]; exact h1, by rw [q_wr_n2 (by decide)]; exact h2, q_wr_eq, fun k hk => ?_, fun w hw => ?_, fun i hi => absurd (show i < 0 from hi) (by omega)⟩
      · simp (disch := omega) only [q_wr_ne]; exact h4 k hk
      · simp (disch := omega) only [q_wr_ne]; exact h5 w hw
  · obtain ⟨M', e1, e2, e3, e4, e5, e6⟩ := dm_L (x := x) (T := pa_T S) hm o1 (by omega) m 0 1000 (mm_wr M 33 7 (nI 0)) (by omega) (by omega) (by rw [q_wr_n2 (by decide)]; exact h1) q_wr_eq
    refine ⟨M', e1, fun q hq => by rw [e2 q (by omega) (by omega) (by omega) (by omega), q_wr_ne (by omega)], ?_⟩
    unfold lv_n
    rw [if_neg c]
    refine ⟨by rw [e3 0 (by decide), q_wr_n2 (by decide)]; exact h1, by rw [e3 3 (by decide), q_wr_n2 (by decide)]; exact h2, e4, fun k hk => ?_, fun w hw => ?_, fun i hi => e6 i (by omega) hi⟩
    · rw [e2 _ (by omega) (by omega) (by omega) (by omega), e2 _ (by omega) (by omega) (by omega) (by omega)]
      simp (disch := omega) only [q_wr_ne]; exact h4 k hk
    · rw [e2 _ (by omega) (by omega) (by omega) (by omega), e2 _ (by omega) (by omega) (by omega) (by omega), e2 _ (by omega) (by omega) (by omega) (by omega)]
      simp (disch := omega) only [q_wr_ne]; exact h5 w hw
def mq_lives (S : md_T) (x : Int32) (m z : Nat) : Int32 := mq_many (lv_T (pa_T S) x (lv_n S m)) (st_A S) (1 + 2 * z)
theorem lv_n_ok {S : md_T} {m : Nat} (hm : m ≤ 12) : lv_n S m ≤ 12 ∧ (0 < lv_n S m → 0 < pa_T S 0 0) := by
  unfold lv_n
  by_cases c : pa_T S 0 0 = 0
  · rw [if_pos c]; omega
  · rw [if_neg c]; omega
theorem cr_lives {S : md_T} {M : mm_M} (ho : st_o S) (hc : RC S M) (hk : KC S M) (x : Int32) {m z : Nat} (hm : m < 13) (hz : z < 2) : CR S M (fX6_lives x (nI m) (nI z) M) (mq_lives S x m z) := by
  obtain ⟨M1, b1, b2, b3⟩ := cl_like (st_ok ho) hc.2.1
  obtain ⟨M2, d1, d2, d3⟩ := cl_draw ho (show m ≤ 12 by omega) x b3
  have ct2 : CT M M2 := fun q hq => by rw [d2 q (by omega), b2 q (by omega)]
  have ce := ct2.ce (show CE S M from hc.2.2.1)
  obtain ⟨n1, n2⟩ := lv_n_ok (S := S) (show m ≤ 12 by omega)
  obtain ⟨M3, e1, e2, e3⟩ := cx_run (lv_ok (st_ok ho) n1 n2) (Or.inr rfl) ho ce d3 (fX2_all M2)
  have eA : st_E S (fun i => bt (fX2_all M2) i) = st_A S := by
    refine st_E_congr (fun i hi => ?_)
    have o4 := ho.2.1
    unfold fX2_all
    rw [ce.1, q_all (S 4 0) (by omega) i (by omega)]
    simp [hi]
  rw [eA] at e3
  have ct3 : CT M M3 := ct2.tr (fun q hq => e2 q (by omega))
  unfold fX6_lives mq_lives
  rw [q_lit 13, q_lit 2, q_outN (by omega) (by omega), q_outN (by omega) (by omega), if_pos hm, if_pos hz, if_pos rfl, if_pos rfl, b1, Option.bind_some, d1, Option.bind_some, e1, Option.bind_some, q_lit 1, q_lit 3, cq_many e3 (by omega), cq_many e3 (by omega)]
  simp only [Option.bind_some]
  rcases q_lt2 hz with e | e <;> subst e
  · rw [if_pos (show nI 0 = 0 from rfl)]; exact ct3.cr hc hk
  · rw [if_neg (show ¬ nI 1 = 0 by decide)]; exact ct3.cr hc hk
