/-! read, write -/
theorem rd_L {s z : Nat} (hs : s < 4) (hz : z ≤ 60) : ∀ (g n n' c : Nat) (S : md_T) (M N : mm_M), 8 - S 4 0 = g → g < n → g + 1 < n' → c ≤ 30 → st_o S → RC S M → RN S N → SX M N → M (9 + 2 * s) 2 = nI z → N 2 s = nI z → (∀ i, i < z → M (9 + 2 * s + 1) i = N 3 (60 * s + i)) → AG (fX6_read_L36 (9 + 2 * s) (fun z12 M13 => (fX6_courseChanged M13).bind fun M14 => some (z12, M14)) (fun z15 M16 => (fX6_courseChanged M16).bind fun M17 => some (z15, M17)) n (nI c) (nI (2 * c)) M) (fX7_read_L29 (nI s) n' (nI c) 1 N) := by
  intro g
  induction g using Nat.strongRecOn with
  | ind g ih =>
    intro n n' c S M N hg hn1 hn2 hc30 ho hc hn hx m2 n2 it
    obtain ⟨n, rfl⟩ : ∃ a, n = a + 1 := ⟨n - 1, by omega⟩
    obtain ⟨n', rfl⟩ : ∃ a, n' = a + 2 := ⟨n' - 2, by omega⟩
    have o4 := ho.2.1
    have stop : ∀ N', N' = N → AG ((fX6_courseChanged M).bind fun M14 => some (nI c, M14)) (some (nI c, N')) := fun N' e => by
      subst e
      rw [cc_changed]
      exact ⟨_, _, _, rfl, rfl, rel_changed ho hc hn hx⟩
    have stop2 : fX7_read_L29 (nI s) (n' + 1) (nI c + 0) 0 N = some (nI c, N) := by
      rw [fX7_read_L29, if_pos rfl, q_add0']
    have r0 : mm_rd N 2 4 (nI s) = some (nI z) := by rw [q_rd (by omega) (by omega), n2]
    rw [fX6_read_L36, fX7_read_L29, m2, if_neg q_10, r0, Option.bind_some]
    simp only [q_lit 1, q_lit 2, q_lit 60, pk_mul, nI_add]
    by_cases c0 : z ≤ 2 * c + 1
    · rw [if_pos (by rw [nI_leI (by omega) (by omega)]; exact c0), if_pos (by rw [nI_ltI (by omega) (by omega)]; omega)]
      exact stop N rfl
    · rw [if_neg (show ¬ nI z ≤ nI (2 * c + 1) by rw [nI_leI (by omega) (by omega)]; exact c0), if_neg (show ¬ nI z < nI (2 * c + 2) by rw [nI_ltI (by omega) (by omega)]; omega), q_full ho hc, q_if01, q_rd (by omega) (by omega), q_rd (by omega) (by omega), q_rd (by omega) (by omega), q_rd (by omega) (by omega)]
      simp only [Option.bind_some]
      rw [it (2 * c) (by omega), it (2 * c + 1) (by omega), show 60 * s + 2 * c + 1 = 60 * s + (2 * c + 1) by omega]
      generalize N 3 (60 * s + 2 * c) = a
      generalize N 3 (60 * s + (2 * c + 1)) = b
      rw [q_mayBe, q_if10]
      by_cases cm : (0 ≤ a.toInt ∧ a.toInt < ((24 : Nat) : Int)) ∧ (0 ≤ b.toInt ∧ b.toInt < ((8 : Nat) : Int))
      · by_cases c8 : S 4 0 < 8
        · obtain ⟨d, hd, rfl⟩ := q_of cm.1.1 cm.1.2 (by omega)
          obtain ⟨k, hk, rfl⟩ := q_of cm.2.1 cm.2.2 (by omega)
          obtain ⟨M', N', a1, a2, a3, a4, a5, a6, a7, a8, a9⟩ := e_app ho hc hn hx c8 hd hk
          rw [if_pos c8, if_pos cm, a1, Option.bind_some, a2, Option.bind_some]
          unfold fX7_read_J87
          simp only [if_neg (nI_pos (n := S 4 0 + 1) (by omega)), if_neg (show ¬ nI 1 = 0 by decide), q_lit 1, nI_add]
          have e : st_e S d k 4 0 = S 4 0 + 1 := rfl
          exact ih (g - 1) (by omega) n (n' + 1) (c + 1) (st_e S d k) M' N' (by rw [e]; omega) (by omega) (by omega) (by omega) a6 a7 a8 a9 (by rw [a3 _ (by omega)]; exact m2) (by rw [a4 2 (by omega) (by omega)]; exact n2) (fun i hi => by rw [a3 _ (by omega), a4 3 (by omega) (by omega)]; exact it i hi)
        · rw [if_neg c8, e_full ho hn c8 cm, Option.bind_some]
          unfold fX7_read_J87
          simp only [if_pos (show (-4 : Int32) < 0 by decide), eq_self, if_true]
          rw [stop2]
          exact stop N rfl
      · rw [e_no ho hn cm, Option.bind_some, if_neg cm]
        unfold fX7_read_J87
        simp only [if_pos (show (-2 : Int32) < 0 by decide), eq_self, if_true]
        rw [stop2]
        by_cases c8 : S 4 0 < 8
        · rw [if_pos c8]; exact stop N rfl
        · rw [if_neg c8]; exact stop N rfl
theorem op_read {M N : mm_M} (h : Rel M N) (x : Int32) : AG (fX6_read x M) (fX7_read x N) := by
  obtain ⟨S, ho, hc, hn, hk, hx⟩ := id h
  have bad : ∀ r : Int32, AG (some (r, M)) (some (r, N)) := fun r => ⟨r, M, N, rfl, rfl, h⟩
  have o4 := ho.2.1
  unfold fX6_read fX7_read
  rw [q_isSheet, q_lit 4, q_isOutside (by omega)]
  simp only [Option.bind_some, q_if10, q_if01]
  refine ag_if (fun c1 => ?_) (fun _ => bad _)
  obtain ⟨s, hs, rfl⟩ := q_of c1.1 c1.2 (by omega)
  obtain ⟨k1, k2⟩ := hx.2 s hs
  rw [q_raS hs, q_rd (by omega) (by omega)]
  simp only [Option.bind_some]
  unfold fX3_isLost
  rw [k1]
  rcases k2 with k | ⟨f, z, hf, hz, e1, e2, e3, e4⟩
  · rw [k, if_pos rfl, if_neg q_10, if_neg (show ¬ (0 : Int32) ≤ -1 by decide)]
    exact ag_fd h _
  · rw [e1, if_neg (q_m1 (a := f) (by omega)), if_pos rfl, if_pos (nI_pos' (n := f) (by omega)), q_lit 0]
    exact rd_L hs hz (8 - S 4 0) 1000 1000 0 S M N rfl (by omega) (by omega) (by omega) ho hc hn hx e2 e3 e4
theorem wr_L {T : md_T} {E : Nat → Nat → Bool} {s f z m w : Nat} (hs : s < 4) (hf : f < 3) (hz : z ≤ 60) (hm : m ≤ z) (hm24 : m ≤ 24) (hw : w < T 0 3) : ∀ g i n (M : mm_M), i + g = m → g < n → cq_at 42 T E M → M (9 + 2 * s) 1 = nI f → M (9 + 2 * s) 2 = nI z → ∃ M', fX6_write_L63 (nI w) (nI m) (9 + 2 * s) n (nI i) M = some (nI m, M') ∧ (∀ q, q ≠ 9 + 2 * s + 1 → M' q = M q) ∧ (∀ j, j < i ∨ m ≤ j → M' (9 + 2 * s + 1) j = M (9 + 2 * s + 1) j) ∧ ∀ j, i ≤ j → j < m → M' (9 + 2 * s + 1) j = fX7_cut (nI f) (nI (md_tr T E (j + 1) 2 w))
  | 0, i, n + 1, M, hi, hn, hq, h1, h2 => ⟨M, by rw [fX6_write_L63, if_pos (by rw [nI_leI (by omega) (by omega)]; omega)], fun _ _ => rfl, fun _ _ => rfl, fun j a b => by omega⟩
  | g + 1, i, n + 1, M, hi, hn, hq, h1, h2 => by
    have o2 := hq.1.2.1
    have q1 : ∀ q, q ≠ 9 + 2 * s + 1 → mm_wr M (9 + 2 * s + 1) i (fX7_cut (nI f) (nI (md_tr T E (i + 1) 2 w))) q = M q := fun q hq => q_wr_ne hq
    have hq' : cq_at 42 T E (mm_wr M (9 + 2 * s + 1) i (fX7_cut (nI f) (nI (md_tr T E (i + 1) 2 w)))) := by
      refine ⟨hq.1, by rw [q1 42 (by omega)]; exact hq.2.1, ?_⟩
      have := hq.2.2
      unfold cc_tr at this ⊢
      rw [q1 (42 + 9) (by omega), q1 (42 + 10) (by omega), q1 (42 + 11) (by omega)]
      exact this
    obtain ⟨M', e1, e2, e3, e4⟩ := wr_L hs hf hz hm hm24 hw g (i + 1) n _ (by omega) (by omega) hq' (by rw [q1 _ (by omega)]; exact h1) (by rw [q1 _ (by omega)]; exact h2)
    refine ⟨M', ?_, fun q hq => by rw [e2 q hq, q_wr_ne hq], fun j hj => by rw [e3 j (by omega), q_wr_n2 (by omega)], fun j a b => ?_⟩
    · rw [fX6_write_L63, if_neg (by rw [nI_leI (by omega) (by omega)]; omega), cq_left hq (by omega) (by omega), if_pos hw, Option.bind_some, q_put h1 h2 hf hz (by omega), Option.bind_some, q_lit 1, nI_add]
      exact e1
    · by_cases c : j = i
      · rw [c, e3 i (by omega), q_wr_eq]
      · exact e4 j (by omega) b
theorem wn_L {T : md_T} {E : Nat → Nat → Bool} {s f m w : Nat} (hs : s < 4) (hm : m ≤ 24) (hw : w < T 0 3) (hT : md_ok T) : ∀ g i n (N : mm_M), i + g = m → g < n → rr_tr T E 24 N → N 1 s = nI f → ∃ N', fX7_write_L52 (nI w) (nI s) (nI m) n (nI i) N = some (nI m, N') ∧ (∀ q, q ≠ 3 → N' q = N q) ∧ (∀ j, j < 60 * s + i ∨ 60 * s + m ≤ j → N' 3 j = N 3 j) ∧ ∀ j, i ≤ j → j < m → N' 3 (60 * s + j) = fX7_cut (nI f) (nI (md_tr T E (j + 1) 2 w))
  | 0, i, n + 1, N, hi, hn, hq, h1 => ⟨N, by rw [fX7_write_L52, if_pos (by rw [nI_leI (by omega) (by omega)]; omega)], fun _ _ => rfl, fun _ _ => rfl, fun j a b => by omega⟩
  | g + 1, i, n + 1, N, hi, hn, hq, h1 => by
    have o2 := hT.2.1
    have q1 : ∀ q, q ≠ 3 → mm_wr N 3 (60 * s + i) (fX7_cut (nI f) (nI (md_tr T E (i + 1) 2 w))) q = N q := fun q hq => q_wr_ne hq
    have hq' : rr_tr T E 24 (mm_wr N 3 (60 * s + i) (fX7_cut (nI f) (nI (md_tr T E (i + 1) 2 w)))) := by
      unfold rr_tr at hq ⊢
      rw [q1 15 (by omega), q1 16 (by omega), q1 17 (by omega)]
      exact hq
    obtain ⟨N', e1, e2, e3, e4⟩ := wn_L hs hm hw hT g (i + 1) n _ (by omega) (by omega) hq' (by rw [q1 _ (by omega)]; exact h1)
    refine ⟨N', ?_, fun q hq => by rw [e2 q hq, q_wr_ne hq], fun j hj => by rw [e3 j (by omega), q_wr_n2 (by omega)], fun j a b => ?_⟩
    · rw [fX7_write_L52, if_neg (by rw [nI_leI (by omega) (by omega)]; omega), q_rd (by omega) (by omega), Option.bind_some, q_lit 12, pk_mul, nI_add, q_rd (by omega) (by omega), Option.bind_some, ((hq i (by omega)).1 w hw).2, h1, q_lit 60, pk_mul, nI_add, q_wa (by omega) (by omega), Option.bind_some, q_lit 1, nI_add]
      exact e1
    · by_cases c : j = i
      · rw [c, e3 _ (by omega), q_wr_eq]
      · exact e4 j (by omega) b
theorem op_write {M N : mm_M} (h : Rel M N) (x y : Int32) : AG (fX6_write x y M) (fX7_write x y N) := by
  obtain ⟨S, ho, hc, hn, hk, hx⟩ := id h
  obtain ⟨N1, f1, f2, f3⟩ := rl_find ho hn
  have o2 := (st_ok ho).2.1
  have hx1 : SX M N1 := hx.q CQ.rf f2
  have hr1 : Rel M N1 := ⟨S, ho, hc, hn.keep f2, hk, hx1⟩
  have bad : ∀ r : Int32, AG (some (r, M)) (some (r, N1)) := fun r => ⟨r, M, N1, rfl, rfl, hr1⟩
  unfold fX6_write fX7_write
  rw [f1, Option.bind_some, q_isWord f3.1.2.2.1 (by omega), q_isSheet, hc.2.1.2.1, q_lit 4, q_isOutside (by omega), q_isOutside (by omega)]
  simp only [Option.bind_some, q_if10, q_if01]
  refine ag_if (fun c1 => ag_if (fun c2 => ?_) (fun _ => bad _)) (fun _ => bad _)
  obtain ⟨w, hw, rfl⟩ := q_of c1.1 c1.2 (by omega)
  obtain ⟨s, hs, rfl⟩ := q_of c2.1 c2.2 (by omega)
  obtain ⟨k1, k2⟩ := hx1.2 s hs
  rw [q_raS hs, q_rd (by omega) (by omega), q_rd (by omega) (by omega)]
  simp only [Option.bind_some]
  unfold fX3_isLost
  rw [k1]
  rcases k2 with k | ⟨f, z, hf, hz, e1, e2, e3, e4⟩
  · rw [k, if_pos rfl, if_neg q_10, if_neg (show ¬ (0 : Int32) ≤ -1 by decide)]
    exact ag_fd hr1 _
  · obtain ⟨M1, l1, l2, l3, l4, l5⟩ := cq_learn ho hc hk
    have m1 : M1 (9 + 2 * s) 1 = nI f := by rw [l2.1 _ (by omega) (by omega), k1, e1]
    have m2 : M1 (9 + 2 * s) 2 = nI z := by rw [l2.1 _ (by omega) (by omega), e2]
    have hx2 : SX M1 N1 := hx1.q l2 RW.rf
    rw [e1, if_neg (q_m1 (a := f) (by omega)), if_pos rfl, if_pos (nI_pos' (n := f) (by omega)), l1, Option.bind_some, m2, e3, q_lit 24, q_min (by omega) (by omega), q_lesser (by omega) (by omega), q_lit 0]
    obtain ⟨M', a1, a2, a3, a4⟩ := wr_L (E := st_A S) hs hf hz (show min z 24 ≤ z by omega) (by omega) hw (min z 24) 0 1000 M1 (by omega) (by omega) l5 m1 m2
    obtain ⟨N', b1, b2, b3, b4⟩ := wn_L (E := st_A S) hs (show min z 24 ≤ 24 by omega) hw (st_ok ho) (min z 24) 0 1000 N1 (by omega) (by omega) f3.2.2 e1
    refine ⟨_, M', N', a1, b1, rel_sh (M := M1) (N := N1) ho l3 (hn.keep f2) l4 (fun q hq => a2 q (by omega)) (fun j hj => by rw [a2 0 (by omega)]) (fun q hq => b2 q (by omega)) (fun j hj => by rw [b2 0 (by omega)]) (hx2.put (s0 := s) ?_ (fun t ht hts => ⟨a2 _ (by omega), a2 _ (by omega)⟩) (fun t ht hts => ⟨by rw [b2 1 (by omega)], by rw [b2 2 (by omega)], fun i hi => b3 _ (by omega)⟩) ⟨?_, Or.inr ⟨f, z, hf, hz, ?_, ?_, ?_, fun i hi => ?_⟩⟩)⟩
    · rw [a2 0 (by omega), b2 0 (by omega)]; exact hx2.1
    · rw [a2 _ (by omega), b2 1 (by omega), m1, e1]
    · rw [b2 1 (by omega), e1]
    · rw [a2 _ (by omega), m2]
    · rw [b2 2 (by omega), e3]
    · by_cases c : i < min z 24
      · rw [a4 i (by omega) c, b4 i (by omega) c]
      · rw [a3 i (by omega), b3 _ (by omega), l2.1 _ (by omega) (by omega)]; exact e4 i hi
