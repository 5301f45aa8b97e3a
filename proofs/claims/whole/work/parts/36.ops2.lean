/-! CALLS that change what stands: echoes, tallies, sheets -/
theorem pa_T_congr {S S' : md_T} (h : ∀ t, t < 3 → S' 0 t = S 0 t ∧ ∀ i, S' (1 + t) i = S (1 + t) i) : pa_T S' = pa_T S := by
  have ha : ∀ t, t < 3 → ∀ i, pa_at S' t i = pa_at S t i := fun t ht i => by unfold pa_at; rw [(h t ht).2 i]
  have hb : ∀ t, t < 3 → pa_bad S' t = pa_bad S t := fun t ht => by funext i; unfold pa_bad; rw [ha t ht i]
  have hf : ∀ t, t < 3 → pa_f S' t = pa_f S t := fun t ht => by unfold pa_f pa_w; rw [hb t ht, (h t ht).1]
  have hn : ∀ t, t < 3 → pa_n S' t = pa_n S t := fun t ht => by unfold pa_n; rw [hf t ht, (h t ht).1]
  have hx : ∀ t, t < 3 → ∀ i, pa_x S' t i = pa_x S t i := fun t ht i => by unfold pa_x; rw [ha t ht i]
  funext o j
  unfold pa_T
  rw [hn 0 (by omega), hn 1 (by omega), hn 2 (by omega), hx 0 (by omega), hx 0 (by omega), hx 1 (by omega), hx 1 (by omega), hx 1 (by omega), hx 2 (by omega), hx 2 (by omega), hx 2 (by omega)]
theorem md_up_ne {S : md_T} {o j v a b : Nat} (h : a ≠ o) : md_up S o j v a b = S a b := by
  unfold md_up
  rw [if_neg (fun q => h q.1)]
theorem md_up_n2 {S : md_T} {o j v a b : Nat} (h : b ≠ j) : md_up S o j v a b = S a b := by
  unfold md_up
  rw [if_neg (fun q => h q.2)]
theorem md_up_eq {S : md_T} {o j v : Nat} : md_up S o j v o j = v := by
  unfold md_up
  rw [if_pos ⟨rfl, rfl⟩]
theorem md_up_row {S : md_T} {o j v a : Nat} (h : a ≠ o) : md_up S o j v a = S a := by
  funext b
  exact md_up_ne h
def st_t (S S' : md_T) : Prop := ∀ t, t < 3 → S' 0 t = S 0 t ∧ ∀ i, S' (1 + t) i = S (1 + t) i
theorem st_t_up {S S' : md_T} (h : st_t S S') {o j v : Nat} (ho : 4 ≤ o) : st_t S (md_up S' o j v) := fun t ht => ⟨by rw [md_up_ne (by omega)]; exact (h t ht).1, fun i => by rw [md_up_ne (by omega)]; exact (h t ht).2 i⟩
theorem st_t_rf {S : md_T} : st_t S S := fun _ _ => ⟨rfl, fun _ => rfl⟩
theorem st_E_S {S S' : md_T} (h4 : S' 4 0 = S 4 0) (h5 : S' 5 = S 5) (h6 : S' 6 = S 6) (p : Nat → Bool) : st_E S' p = st_E S p := by
  funext d k
  unfold st_E
  rw [h4, h5, h6]
theorem od_n_S {S S' : md_T} (hT : pa_T S' = pa_T S) (hE : ∀ p, st_E S' p = st_E S p) (w z : Nat) : ∀ m, od_n S' w z m = od_n S w z m
  | 0 => rfl
  | m + 1 => by rw [od_n, od_n, od_n_S hT hE w z m, hT, hE]
theorem KC.S {S S' : md_T} {M : mm_M} (hT : pa_T S' = pa_T S) (h4 : S' 4 0 = S 4 0) (h5 : S' 5 = S 5) (h6 : S' 6 = S 6) (k : KC S M) : KC S' M := by
  have hE := st_E_S h4 h5 h6
  obtain ⟨k1, k2⟩ := k
  refine ⟨?_, ?_⟩
  · unfold KC1 st_A at k1 ⊢
    rw [hT, hE]
    exact k1
  · unfold KC2 at k2 ⊢
    rw [hT, h4]
    simp only [od_n_S hT hE]
    exact k2
theorem RC.keep2 {S : md_T} {M M' : mm_M} (hf : ∀ q, (1 ≤ q ∧ q < 9) ∨ (16 < q ∧ q < 33) → M' q = M q) (h : RC S M) : RC S M' := by
  obtain ⟨h1, h2, h3, h4⟩ := h
  refine ⟨fun t ht => ?_, h2.keep (fun q a b => hf q (by omega)), ?_, ?_⟩
  · rw [hf (2 + 2 * t) (by omega), hf (2 + 2 * t + 1) (by omega)]; exact h1 t ht
  · rw [hf 17 (by omega), hf 18 (by omega), hf 19 (by omega)]; exact h3
  · rw [hf 20 (by omega), hf 21 (by omega), hf 22 (by omega), hf 23 (by omega)]; exact h4
def CE (S : md_T) (M : mm_M) : Prop := M 17 2 = nI (S 4 0) ∧ ∀ i, i < S 4 0 → M 18 i = nI (S 5 i) ∧ M 19 i = nI (S 6 i)
def CL (S : md_T) (M : mm_M) : Prop := M 20 3 = nI (S 4 1) ∧ ∀ i, i < S 4 1 → M 21 i = nI (S 7 i) ∧ M 22 i = nI (S 8 i) ∧ M 23 i = nI (S 9 i)
def NE (S : md_T) (N : mm_M) : Prop := N 0 13 = nI (S 4 0) ∧ ∀ i, i < S 4 0 → N 10 (2 * i) = nI (S 5 i) ∧ N 10 (2 * i + 1) = nI (S 6 i)
def NL (S : md_T) (N : mm_M) : Prop := N 0 27 = nI (S 4 1) ∧ ∀ i, i < S 4 1 → N 19 (3 * i) = nI (S 7 i) ∧ N 19 (3 * i + 1) = nI (S 8 i) ∧ N 19 (3 * i + 2) = nI (S 9 i)
theorem tx_C.keep {S : md_T} {M M' : mm_M} (hf : ∀ q, 2 ≤ q → q < 8 → M' q = M q) (h : tx_C S M) : tx_C S M' := fun t ht => by
  rw [hf (2 + 2 * t) (by omega) (by omega), hf (2 + 2 * t + 1) (by omega) (by omega)]; exact h t ht
theorem tx_C.S {S S' : md_T} {M : mm_M} (hs : st_t S S') (h : tx_C S M) : tx_C S' M := fun t ht => by
  have ha : ∀ i, pa_at S' t i = pa_at S t i := fun i => by unfold pa_at; rw [(hs t ht).2 i]
  have hb : pa_bad S' t = pa_bad S t := by funext i; unfold pa_bad; rw [ha i]
  have hw : pa_w S' t = pa_w S t := by unfold pa_w; rw [hb, (hs t ht).1]
  have := h t ht
  rw [hw, (hs t ht).1]
  simp only [ha]
  exact this
/-- echoes or tallies change, nothing else -/
theorem rel_el {S S' : md_T} {M M' N N' : mm_M} (hs : st_t S S') (ho : st_o S') (hc : RC S M) (hn : RN S N) (hx : SX M N) (k' : KC S' M') (f : ∀ q, (1 ≤ q ∧ q < 17) ∨ (24 ≤ q ∧ q < 33) → M' q = M q) (f0 : M' 0 12 = M 0 12) (ce : CE S' M') (cl : CL S' M') (g : ∀ q, (1 ≤ q ∧ q ≤ 3) ∨ q = 5 ∨ q = 6 → N' q = N q) (g0 : N' 0 4 = N 0 4) (g1 : N' 0 15 = N 0 15) (g2 : N' 0 16 = N 0 16) (ne : NE S' N') (nl : NL S' N') : Rel M' N' := by
  refine ⟨S', ho, ⟨(hc.1.S hs).keep (fun q a b => f q (by omega)), ?_, ce, cl⟩, ⟨fun t ht => ?_, ne, nl, by rw [g1]; exact hn.2.2.2.1, by rw [g2]; exact hn.2.2.2.2⟩, k', by rw [f0, g0]; exact hx.1, fun s hs => ?_⟩
  · rw [pa_T_congr hs]; exact hc.2.1.keep (fun q a b => f q (by omega))
  · rw [g 5 (by omega), g 6 (by omega), (hs t ht).1]
    simp only [(hs t ht).2]
    exact hn.1 t ht
  · rw [f (9 + 2 * s) (by omega), f (9 + 2 * s + 1) (by omega), g 1 (by omega), g 2 (by omega), g 3 (by omega)]
    exact hx.2 s hs
theorem cc_changed (M : mm_M) : fX6_courseChanged M = some (mm_wr (mm_wr M 0 10 (nI 0)) 0 11 (nI 0)) := rfl
theorem KC.z {S : md_T} (M : mm_M) : KC S (mm_wr (mm_wr M 0 10 (nI 0)) 0 11 (nI 0)) := ⟨Or.inl (by rw [q_wr_n2 (by decide), q_wr_eq]), Or.inl q_wr_eq⟩
theorem st_o_e {S : md_T} (ho : st_o S) {n : Nat} (h : n ≤ S 4 0) : st_o (md_up S 4 0 n) := by
  obtain ⟨o1, o2, o3, o4, o5⟩ := ho
  refine ⟨fun t ht => ?_, ?_, fun i hi => ?_, ?_, fun i hi => ?_⟩
  · rw [md_up_ne (by omega), md_up_row (by omega)]; exact o1 t ht
  · rw [md_up_eq]; omega
  · rw [md_up_eq] at hi
    rw [md_up_ne (by omega), md_up_ne (by omega)]; exact o3 i (by omega)
  · rw [md_up_n2 (by omega)]; exact o4
  · rw [md_up_n2 (by omega)] at hi
    rw [md_up_ne (by omega), md_up_ne (by omega), md_up_ne (by omega)]; exact o5 i hi
theorem op_back {M N : mm_M} (h : Rel M N) : AG (fX6_back M) (fX7_back N) := by
  obtain ⟨S, ho, hc, hn, hk, hx⟩ := id h
  have o4 := ho.2.1
  have c17 := hc.2.2.1
  have n13 := hn.2.1
  unfold fX6_back fX7_back
  rw [c17.1, n13.1]
  refine ag_if (fun _ => ⟨_, M, N, rfl, rfl, h⟩) (fun c => ?_)
  have c' : S 4 0 ≠ 0 := fun e => c (by rw [e]; rfl)
  obtain ⟨e, he⟩ : ∃ e, S 4 0 = e + 1 := ⟨S 4 0 - 1, by omega⟩
  rw [he, nI_pred, q_pf, Option.bind_some, cc_changed, Option.bind_some, q_pf, Option.bind_some]
  refine ⟨nI e, _, _, by rw [q_wr_ne (by decide), q_wr_ne (by decide), q_wr_eq], by rw [q_wr_eq], ?_⟩
  refine rel_el (S := S) (S' := md_up S 4 0 e) (M := M) (N := N) (st_t_up st_t_rf (by omega)) (st_o_e ho (by omega)) hc hn hx (KC.z _) (fun q hq => by rw [q_wr_ne (by omega), q_wr_ne (by omega), q_wr_ne (by omega)]) (by rw [q_wr_n2 (by decide), q_wr_n2 (by decide), q_wr_ne (by decide)]) ⟨?_, fun i hi => ?_⟩ ⟨?_, fun i hi => ?_⟩ (fun q hq => q_wr_ne (by omega)) (q_wr_n2 (by decide)) (q_wr_n2 (by decide)) (q_wr_n2 (by decide)) ⟨?_, fun i hi => ?_⟩ ⟨?_, fun i hi => ?_⟩
  · rw [q_wr_ne (by decide), q_wr_ne (by decide), q_wr_eq, md_up_eq]
  · rw [md_up_eq] at hi
    rw [q_wr_ne (by decide), q_wr_ne (by decide), q_wr_ne (by decide), q_wr_ne (by decide), q_wr_ne (by decide), q_wr_ne (by decide), md_up_ne (by omega), md_up_ne (by omega)]
    exact c17.2 i (by omega)
  · rw [q_wr_ne (by decide), q_wr_ne (by decide), q_wr_ne (by decide), md_up_n2 (by omega)]; exact hc.2.2.2.1
  · rw [md_up_n2 (by omega)] at hi
    rw [q_wr_ne (by decide), q_wr_ne (by decide), q_wr_ne (by decide), q_wr_ne (by decide), q_wr_ne (by decide), q_wr_ne (by decide), q_wr_ne (by decide), q_wr_ne (by decide), q_wr_ne (by decide), md_up_ne (by omega), md_up_ne (by omega), md_up_ne (by omega)]
    exact hc.2.2.2.2 i hi
  · rw [q_wr_eq, md_up_eq]
  · rw [md_up_eq] at hi
    rw [q_wr_ne (by decide), md_up_ne (by omega), md_up_ne (by omega)]
    exact n13.2 i (by omega)
  · rw [q_wr_n2 (by decide), md_up_n2 (by omega)]; exact hn.2.2.1.1
  · rw [md_up_n2 (by omega)] at hi
    rw [q_wr_ne (by decide), md_up_ne (by omega), md_up_ne (by omega), md_up_ne (by omega)]
    exact hn.2.2.1.2 i hi
/-! forget, tally -/
theorem st_o_l {S : md_T} (ho : st_o S) {n : Nat} (h : n ≤ S 4 1) : st_o (md_up S 4 1 n) := by
  obtain ⟨o1, o2, o3, o4, o5⟩ := ho
  refine ⟨fun t ht => ?_, ?_, fun i hi => ?_, ?_, fun i hi => ?_⟩
  · rw [md_up_ne (by omega), md_up_row (by omega)]; exact o1 t ht
  · rw [md_up_n2 (by omega)]; exact o2
  · rw [md_up_n2 (by omega)] at hi
    rw [md_up_ne (by omega), md_up_ne (by omega)]; exact o3 i hi
  · rw [md_up_eq]; omega
  · rw [md_up_eq] at hi
    rw [md_up_ne (by omega), md_up_ne (by omega), md_up_ne (by omega)]; exact o5 i (by omega)
theorem KC.w {S : md_T} {M M' : mm_M} (f0 : M' 0 10 = M 0 10) (f1 : M' 0 11 = M 0 11) (h : ∀ q, 42 ≤ q → M' q = M q) (k : KC S M) : KC S M' := by
  unfold KC KC1 KC2 cc_tr at k ⊢
  rw [f0, f1, h 42 (by omega), h (42 + 9) (by omega), h (42 + 10) (by omega), h (42 + 11) (by omega), h 69 (by omega)]
  exact k
theorem op_forget {M N : mm_M} (h : Rel M N) : AG (fX6_forget M) (fX7_forget N) := by
  obtain ⟨S, ho, hc, hn, hk, hx⟩ := id h
  unfold fX6_forget fX7_forget
  rw [q_pf, Option.bind_some, q_pf, Option.bind_some, q_lit 0, hc.2.2.2.1, hn.2.2.1.1]
  refine ⟨_, _, _, rfl, rfl, ?_⟩
  have hs : st_t S (md_up S 4 1 0) := st_t_up st_t_rf (by omega)
  refine rel_el (S := S) (S' := md_up S 4 1 0) (M := M) (N := N) hs (st_o_l ho (by omega)) hc hn hx ?_ (fun q hq => by rw [q_wr_ne (by omega)]) (by rw [q_wr_ne (by decide)]) ⟨?_, fun i hi => ?_⟩ ⟨?_, fun i hi => ?_⟩ (fun q hq => q_wr_ne (by omega)) (q_wr_n2 (by decide)) (q_wr_n2 (by decide)) (q_wr_n2 (by decide)) ⟨?_, fun i hi => ?_⟩ ⟨?_, fun i hi => ?_⟩
  · exact (hk.w (M' := mm_wr M 20 3 (nI 0)) (by rw [q_wr_ne (by decide)]) (by rw [q_wr_ne (by decide)]) (fun q hq => q_wr_ne (by omega))).S (pa_T_congr hs) (md_up_n2 (by omega)) (md_up_row (by omega)) (md_up_row (by omega))
  · rw [q_wr_ne (by decide), md_up_n2 (by omega)]; exact hc.2.2.1.1
  · rw [md_up_n2 (by omega)] at hi
    rw [q_wr_ne (by decide), q_wr_ne (by decide), md_up_ne (by omega), md_up_ne (by omega)]
    exact hc.2.2.1.2 i hi
  · rw [q_wr_eq, md_up_eq]
  · rw [md_up_eq] at hi; omega
  · rw [q_wr_n2 (by decide), md_up_n2 (by omega)]; exact hn.2.1.1
  · rw [md_up_n2 (by omega)] at hi
    rw [q_wr_ne (by decide), md_up_ne (by omega), md_up_ne (by omega)]
    exact hn.2.1.2 i hi
  · rw [q_wr_eq, md_up_eq]
  · rw [md_up_eq] at hi; omega
