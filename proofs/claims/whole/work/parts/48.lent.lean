/-! count -/
theorem RQ.m {S : md_T} {N : mm_M} (ho : st_o S) (h : RQ S N) : N 0 11 = nI (pa_n S 2) := by
  have ok := st_ok ho
  obtain ⟨m, a, b, c, d⟩ := h.2.2.2.2.2
  rcases d with ⟨e, -⟩ | ⟨e, f, -⟩
  · rw [b, ← e]; rfl
  · have := (ok.2.2.2.2.2 m (by omega)).1
    rw [h.1.2.2.2.2] at f
    exact absurd f (q_m1' (by omega))
theorem op_count {M N : mm_M} (h : Rel M N) (x : Int32) : AP M (fX6_count x M) (fX7_count x N) := by
  obtain ⟨S, ho, hc, hn, hk, hx⟩ := id h
  obtain ⟨N1, f1, f2, f3⟩ := rl_find ho hn
  have hr := rel_w h f2
  have hn1 := hn.keep f2
  by_cases c : 0 ≤ x.toInt ∧ x.toInt < ((9 : Nat) : Int)
  · obtain ⟨k, hk9, rfl⟩ := q_of c.1 c.2 (by omega)
    unfold fX7_count
    rw [f1, Option.bind_some]
    rcases (show k = 0 ∨ k = 1 ∨ k = 2 ∨ k = 3 ∨ k = 4 ∨ k = 5 ∨ k = 6 ∨ k = 7 ∨ k = 8 by omega) with e | e | e | e | e | e | e | e | e <;> subst e
    · exact ⟨M 24 0, N1, rfl, by rw [hc.2.1.1, ← f3.1.2.1]; rfl, hr⟩
    · exact ⟨M 24 3, N1, rfl, by rw [hc.2.1.2.1, ← f3.1.2.2.1]; rfl, hr⟩
    · exact ⟨M 24 7, N1, rfl, by rw [show M 24 7 = nI (pa_n S 2) from hc.2.1.2.2.1, ← f3.1.m ho]; rfl, hr⟩
    · exact ⟨M 2 3, N1, rfl, by rw [show M 2 3 = nI (S 0 0) from (hc.1 0 (by omega)).2.2.1, ← (hn1.1 0 (by omega)).1]; rfl, hr⟩
    · exact ⟨M 4 3, N1, rfl, by rw [show M 4 3 = nI (S 0 1) from (hc.1 1 (by omega)).2.2.1, ← (hn1.1 1 (by omega)).1]; rfl, hr⟩
    · exact ⟨M 6 3, N1, rfl, by rw [show M 6 3 = nI (S 0 2) from (hc.1 2 (by omega)).2.2.1, ← (hn1.1 2 (by omega)).1]; rfl, hr⟩
    · exact ⟨M 17 2, N1, rfl, by rw [hc.2.2.1.1, ← hn1.2.1.1]; rfl, hr⟩
    · exact ⟨M 20 3, N1, rfl, by rw [hc.2.2.2.1, ← hn1.2.2.1.1]; rfl, hr⟩
    · exact ⟨M 0 12, N1, rfl, by rw [(hx.q CQ.rf f2).1]; rfl, hr⟩
  · unfold fX6_count fX7_count
    rw [f1, Option.bind_some, q_lit 9, q_isOutside (by omega), if_neg c, if_neg q_10, if_neg (fun e => c (by rw [e]; decide)), if_neg (fun e => c (by rw [e]; decide)), if_neg (fun e => c (by rw [e]; decide)), if_neg (fun e => c (by rw [e]; decide)), if_neg (fun e => c (by rw [e]; decide)), if_neg (fun e => c (by rw [e]; decide)), if_neg (fun e => c (by rw [e]; decide)), if_neg (fun e => c (by rw [e]; decide)), if_neg (fun e => c (by rw [e]; decide))]
    exact ⟨_, N1, rfl, rfl, hr⟩
/-! lent -/
def mq_lent (S : md_T) (w : Nat) : Int32 := md_fold (fun v s => if mq_co S (md_up (pa_T S) 5 w v) (st_A S) = true then s ||| ((1 : Int32) <<< (nI v &&& 31)) else s) 9 1 0
theorem q_loopB {σ ρ : Type} (L : Nat → σ → mm_M → Int32 → Option ρ) (g : Nat → σ → σ) (out : σ → mm_M → Option ρ) (I : Nat → mm_M → Prop) (lo m : Nat) (hx : ∀ n s M, I m M → L (n + 1) s M (nI m) = out s M) (hs : ∀ n i s M, lo ≤ i → i < m → I i M → ∃ M', L (n + 1) s M (nI i) = L n (g i s) M' (nI (i + 1)) ∧ I (i + 1) M') : ∀ f i n s M, lo ≤ i → i + f = m → f < n → I i M → ∃ M', L n s M (nI i) = out (md_fold g f i s) M' ∧ I m M'
  | 0, i, n + 1, s, M, hl, hi, hn, hI => by
    have e : i = m := by omega
    subst e
    exact ⟨M, by rw [hx n s M hI]; rfl, hI⟩
  | f + 1, i, n + 1, s, M, hl, hi, hn, hI => by
    obtain ⟨M1, e1, e2⟩ := hs n i s M hl (by omega) hI
    obtain ⟨M2, k1, k2⟩ := q_loopB L g out I lo m hx hs f (i + 1) n (g i s) M1 (by omega) (by omega) (by omega) e2
    exact ⟨M2, by rw [e1, k1]; rfl, k2⟩
theorem cr_lent {S : md_T} {M : mm_M} (ho : st_o S) (hc : RC S M) (hk : KC S M) {k : Nat} (hw : k < pa_T S 0 3) : CR S M (fX6_lent (nI k) M) (mq_lent S k) := by
  have o1 := (st_ok ho).2.1
  have cl : CL S M := hc.2.2.2
  obtain ⟨M1, b1, b2⟩ := ci_begin ho hc 5 k
  have key := q_loopB (fun n s M i => fX6_lent_L32 (nI k) n s i M) (fun v s => if mq_co S (md_up (pa_T S) 5 k v) (st_A S) = true then s ||| ((1 : Int32) <<< (nI v &&& 31)) else s) (fun s M => some (s, M)) (fun _ M' => CI S 5 k M M') 1 10 (fun n s M1 h => ?_) (fun n i s M1 hl hi h => ?_) 9 1 1000 0 M1 (by omega) (by omega) (by omega) b2
  · obtain ⟨M', e1, e2⟩ := key
    unfold fX6_lent
    have e1 : fX6_lent_L32 (nI k) 1000 0 (nI 1) M1 = _ := e1
    rw [hc.2.1.2.1, q_outN (by omega) (by omega), if_pos hw, if_pos rfl, b1, Option.bind_some, show (fX6_lent_L32 (nI k) 1000 0 1 M1) = fX6_lent_L32 (nI k) 1000 0 (nI 1) M1 from rfl, e1]
    exact e2.1.cr hc hk
  · show fX6_lent_L32 (nI k) (n + 1) s (nI 10) M1 = _
    rw [fX6_lent_L32, if_pos (by decide)]
  · obtain ⟨M2, e1, e2, e3, e4⟩ := ci_try ho hc (v := i) (Or.inr (Or.inr ⟨rfl, by omega, by omega⟩)) h
    refine ⟨M2, ?_, e2⟩
    show fX6_lent_L32 (nI k) (n + 1) s (nI i) M1 = fX6_lent_L32 (nI k) n _ (nI (i + 1)) M2
    rw [fX6_lent_L32, if_neg (by rw [q_lit 9, nI_ltI (by omega) (by omega)]; omega), q_wa (by omega) (by omega), Option.bind_some, show (38 : Nat) = 33 + 5 from rfl, e1, Option.bind_some, cx_co ho e4 (e2.1.cl cl), Option.bind_some, q_if10, nI_1]
theorem rl_fill {w v : Nat} {x2 x3 : Int32} (k : mm_M → Option (Int32 × mm_M)) (hw : w < 12) (hv : v < 10) : ∀ f d n (N : mm_M), d + f = 24 → f < n → ∃ N', fX7_lentOf_L56 (nI w) x2 x3 (nI v) k n (nI d) N = k N' ∧ (∀ q, q ≠ 20 → N' q = N q) ∧ (∀ j, j < 24 * v + d ∨ 24 * v + 24 ≤ j → N' 20 j = N 20 j) ∧ ∀ e, d ≤ e → e < 24 → N' 20 (24 * v + e) = N 16 (12 * e + w)
  | 0, d, n + 1, N, hd, hn => ⟨N, by rw [fX7_lentOf_L56, if_pos (by rw [q_lit 24, nI_leI (by omega) (by omega)]; omega)], fun _ _ => rfl, fun _ _ => rfl, fun e a b => by omega⟩
  | f + 1, d, n + 1, N, hd, hn => by
    obtain ⟨N', e1, e2, e3, e4⟩ := rl_fill (x2 := x2) (x3 := x3) k hw hv f (d + 1) n (mm_wr N 20 (24 * v + d) (N 16 (12 * d + w))) (by omega) (by omega)
    refine ⟨N', ?_, fun q hq => by rw [e2 q hq, q_wr_ne hq], fun j hj => by rw [e3 j (by omega), q_wr_n2 (by omega)], fun e a b => ?_⟩
    · rw [fX7_lentOf_L56, if_neg (by rw [q_lit 24, nI_leI (by omega) (by omega)]; omega), q_lit 12, q_lit 24, pk_mul, pk_mul, nI_add, nI_add, q_rd (by omega) (by omega), Option.bind_some, q_wa (by omega) (by omega), Option.bind_some, nI_1]
      exact e1
    · by_cases c : e = d
      · rw [c, e3 _ (by omega), q_wr_eq]
      · rw [e4 e (by omega) b, q_wr_ne (by decide)]
/-- the uses left by evening, for each number lent -/
def NT (S : md_T) (w m : Nat) (N : mm_M) : Prop := ∀ u, 1 ≤ u → u < m → ∀ d, d < 24 → N 20 (24 * u + d) = nI (md_tr (md_up (pa_T S) 5 w u) (st_A S) (d + 1) 2 w)
theorem rq_lent {S : md_T} {N : mm_M} (ho : st_o S) (h : RQ S N) {k : Nat} (hw : k < pa_T S 0 3) : ∃ N', fX7_lentOf (nI k) N = some (mq_lent S k, N') ∧ RW N N' ∧ RQ S N' ∧ NT S k 10 N' := by
  have o1 := (st_ok ho).2.1
  have hp : ((5 : Nat) = 1 ∧ (8 : Nat) = 7 ∧ 3 * k + 2 = 2 * k) ∨ ((5 : Nat) = 2 ∧ (8 : Nat) = 7 ∧ 3 * k + 2 = 2 * k + 1) ∨ ((5 : Nat) = 5 ∧ (8 : Nat) = 8 ∧ 3 * k + 2 = 3 * k + 2) := Or.inr (Or.inr ⟨rfl, rfl, rfl⟩)
  have old := (h.2.2.2.2.1 k hw).2.2
  have key := q_loopB (fun n s N i => fX7_lentOf_L16 (nI k) (nI (pa_T S 5 k)) (fun z11 M12 => (mm_wa M12 8 36 (nI (3 * k + 2)) (nI (pa_T S 5 k))).bind fun M13 => some (z11, M13)) n s i N) (fun v s => if mq_co S (md_up (pa_T S) 5 k v) (st_A S) = true then s ||| ((1 : Int32) <<< (nI v &&& 31)) else s) (fun s M => some (s, mm_wr M 8 (3 * k + 2) (nI (pa_T S 5 k)))) (fun m N' => NI S 5 k N N' ∧ NT S k m N') 1 10 (fun n s N1 h => ?_) (fun n i s N1 hl hi h1 => ?_) 9 1 1000 0 N (by omega) (by omega) (by omega) ⟨ni_begin h 5 k, fun u a b => by omega⟩
  · obtain ⟨N', e1, e2, e3⟩ := key
    obtain ⟨w, q⟩ := ni_end h hp e2
    refine ⟨_, ?_, w, q, ?_⟩
    · unfold fX7_lentOf
      rw [q_lit 3, q_lit 2, pk_mul, nI_add, q_rd (by omega) (by omega), Option.bind_some, old]
      exact e1
    · unfold NT at e3 ⊢
      rw [q_wr_ne (by decide)]
      exact e3
  · show fX7_lentOf_L16 (nI k) (nI (pa_T S 5 k)) _ (n + 1) s (nI 10) N1 = _
    rw [fX7_lentOf_L16, if_pos (by decide), q_wa (by omega) (by omega), Option.bind_some]
  · obtain ⟨h1, h2⟩ := h1
    obtain ⟨-, N2, e1, e2, e3, e4⟩ := ni_try ho h.1 (v := i) (Or.inr (Or.inr ⟨rfl, by omega, by omega⟩)) hp h1
    have hk' : k < md_up (pa_T S) 5 k i 0 3 := by rw [md_up_ne (by omega)]; exact hw
    have st : ∀ (y : Int32) (kk : mm_M → Option (Int32 × mm_M)), ∃ N3, fX7_lentOf_L56 (nI k) (nI (pa_T S 5 k)) y (nI i) kk 1000 (nI 0) N2 = kk N3 ∧ NI S 5 k N N3 ∧ NT S k (i + 1) N3 := by
      intro y kk
      obtain ⟨N3, g1, g2, g3, g4⟩ := rl_fill (w := k) (v := i) (x2 := nI (pa_T S 5 k)) (x3 := y) kk (by omega) (by omega) 24 0 1000 N2 (by omega) (by omega)
      refine ⟨N3, g1, ⟨fun q hq => by rw [g2 q (by omega)]; exact e2.1 q hq, ?_⟩, fun u a b d hd => ?_⟩
      · obtain ⟨u, hu⟩ := e2.2
        refine ⟨u, ?_⟩
        unfold rr_T at hu ⊢
        rw [g2 0 (by omega), g2 7 (by omega), g2 8 (by omega), g2 9 (by omega)]
        exact hu
      · by_cases c : u = i
        · rw [c, g4 d (by omega) hd]
          exact ((e4.2.2.2 d hd).1 k hk').2
        · rw [g3 _ (by omega), e3 20 (by omega), q_wr_ne (by decide)]
          exact h2 u a (by omega) d hd
    have wv : mm_wa N1 8 36 ((3 : Int32) * nI k + 2) (nI i) = some (mm_wr N1 8 (3 * k + 2) (nI i)) := by rw [q_lit 3, q_lit 2, pk_mul, nI_add, q_wa (by omega) (by omega)]
    have un := fun kk => show fX7_lentOf_L16 (nI k) (nI (pa_T S 5 k)) kk (n + 1) s (nI i) N1 = if mq_co S (md_up (pa_T S) 5 k i) (st_A S) = true then fX7_lentOf_L56 (nI k) (nI (pa_T S 5 k)) (s ||| ((1 : Int32) <<< (nI i &&& 31))) (nI i) (fun M10 => fX7_lentOf_L16 (nI k) (nI (pa_T S 5 k)) kk n (s ||| ((1 : Int32) <<< (nI i &&& 31))) (nI (i + 1)) M10) 1000 (nI 0) N2 else fX7_lentOf_L56 (nI k) (nI (pa_T S 5 k)) s (nI i) (fun M9 => fX7_lentOf_L16 (nI k) (nI (pa_T S 5 k)) kk n s (nI (i + 1)) M9) 1000 (nI 0) N2 by
      rw [fX7_lentOf_L16, if_neg (by rw [q_lit 10, nI_leI (by omega) (by omega)]; omega), wv, Option.bind_some, e1, Option.bind_some, nI_1, q_or0']
      simp only [q_if10]
      rfl
    by_cases c : mq_co S (md_up (pa_T S) 5 k i) (st_A S) = true
    · obtain ⟨N3, g1, g2, g3⟩ := st (s ||| ((1 : Int32) <<< (nI i &&& 31))) (fun M10 => fX7_lentOf_L16 (nI k) (nI (pa_T S 5 k)) (fun z11 M12 => (mm_wa M12 8 36 (nI (3 * k + 2)) (nI (pa_T S 5 k))).bind fun M13 => some (z11, M13)) n (s ||| ((1 : Int32) <<< (nI i &&& 31))) (nI (i + 1)) M10)
      refine ⟨N3, ?_, g2, g3⟩
      show fX7_lentOf_L16 (nI k) (nI (pa_T S 5 k)) _ (n + 1) s (nI i) N1 = fX7_lentOf_L16 (nI k) (nI (pa_T S 5 k)) _ n _ (nI (i + 1)) N3
      rw [un, if_pos c, if_pos c, g1]
    · obtain ⟨N3, g1, g2, g3⟩ := st s (fun M10 => fX7_lentOf_L16 (nI k) (nI (pa_T S 5 k)) (fun z11 M12 => (mm_wa M12 8 36 (nI (3 * k + 2)) (nI (pa_T S 5 k))).bind fun M13 => some (z11, M13)) n s (nI (i + 1)) M10)
      refine ⟨N3, ?_, g2, g3⟩
      show fX7_lentOf_L16 (nI k) (nI (pa_T S 5 k)) _ (n + 1) s (nI i) N1 = fX7_lentOf_L16 (nI k) (nI (pa_T S 5 k)) _ n _ (nI (i + 1)) N3
      rw [un, if_neg c, if_neg c, g1]
theorem op_lent {M N : mm_M} (h : Rel M N) (x : Int32) : AG (fX6_lent x M) (fX7_lent x N) := by
  obtain ⟨S, ho, hc, hn, hk, hx⟩ := h
  obtain ⟨N1, f1, f2, f3⟩ := rl_find ho hn
  have o1 := (st_ok ho).2.1
  by_cases c : 0 ≤ x.toInt ∧ x.toInt < ((pa_T S 0 3 : Nat) : Int)
  · obtain ⟨k, hw, rfl⟩ := q_of c.1 c.2 (by omega)
    obtain ⟨N2, g1, g2, g3, g4⟩ := rq_lent ho f3.1 hw
    refine ag_of ho hn hx (cr_lent ho hc hk hw) ⟨N2, ?_, f2.tr g2⟩
    unfold fX7_lent
    rw [f1, Option.bind_some, q_isWord f3.1.2.2.1 (by omega)]
    simp only [Option.bind_some, q_if10, if_pos c, if_neg q_10, g1]
  · unfold fX6_lent fX7_lent
    rw [f1, Option.bind_some, q_isWord f3.1.2.2.1 (by omega), hc.2.1.2.1, q_isOutside (by omega)]
    simp only [Option.bind_some, q_if10, q_if01, if_neg c]
    exact ag_of ho hn hx (cr_rf hc hk) (nr_of f2)
