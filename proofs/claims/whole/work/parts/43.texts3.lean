theorem pa_n2_le {S : md_T} (ho : st_o S) : pa_n S 2 ≤ 12 := by
  have hc := (ho.1 2 (by omega)).1
  unfold pa_n pa_sp
  unfold pa_cap at hc
  simp at hc
  split <;> simp <;> omega
theorem tp0.keep {S : md_T} {M M' : mm_M} (h0 : M' 24 0 = M 24 0) (h1 : M' 25 = M 25) (h2 : M' 26 = M 26) (h : tp0 S M) : tp0 S M' := by
  unfold tp0 at h ⊢
  rw [h0, h1, h2]
  exact h
theorem tp1.keep {S : md_T} {M M' : mm_M} (h0 : M' 24 3 = M 24 3) (h1 : M' 27 = M 27) (h2 : M' 28 = M 28) (h3 : M' 29 = M 29) (h : tp1 S M) : tp1 S M' := by
  unfold tp1 at h ⊢
  rw [h0, h1, h2, h3]
  exact h
theorem tp2.keep {S : md_T} {M M' : mm_M} (h0 : M' 24 7 = M 24 7) (h1 : M' 30 = M 30) (h2 : M' 31 = M 31) (h3 : M' 32 = M 32) (h : tp2 S M) : tp2 S M' := by
  unfold tp2 at h ⊢
  rw [h0, h1, h2, h3]
  exact h
theorem ct_tell {S : md_T} {t : Nat} {M : mm_M} (ht : t < 3) (ho : st_o S) (hx : tx_C S M) (h0 : t ≠ 0 → tp0 S M) (h1 : t ≠ 1 → tp1 S M) (h2 : t ≠ 2 → tp2 S M) : ∃ M', fX6_tellAgain (nI t) M = some M' ∧ (∀ q, 1 ≤ q → q < 24 → M' q = M q) ∧ M' 0 12 = M 0 12 ∧ cc_T (pa_T S) 24 M' ∧ KC S M' := by
  have ok := st_ok ho
  have b0 : pa_n S 0 ≤ 8 := ok.1
  have b1 : pa_n S 1 ≤ 12 := ok.2.1
  have b2 := pa_n2_le ho
  have lst : ∀ M1, (∀ q, q < 24 → M1 q = M q) → (tp0 S M1 ∧ tp1 S M1 ∧ tp2 S M1) → (∀ q, 1 ≤ q → q < 24 → mm_wr (mm_wr M1 0 10 (nI 0)) 0 11 (nI 0) q = M q) ∧ mm_wr (mm_wr M1 0 10 (nI 0)) 0 11 (nI 0) 0 12 = M 0 12 ∧ cc_T (pa_T S) 24 (mm_wr (mm_wr M1 0 10 (nI 0)) 0 11 (nI 0)) ∧ KC S (mm_wr (mm_wr M1 0 10 (nI 0)) 0 11 (nI 0)) := by
    intro M1 f tp
    refine ⟨fun q a b => by rw [q_wr_ne (by omega), q_wr_ne (by omega), f q b], by rw [q_wr_n2 (by decide), q_wr_n2 (by decide), f 0 (by omega)], (tp_T.mpr tp).keep (fun q a b => by rw [q_wr_ne (by omega), q_wr_ne (by omega)]), KC.z M1⟩
  unfold fX6_tellAgain
  rcases q_lt3 ht with e | e | e <;> subst e
  · obtain ⟨M1, e1, e2, e3, e4⟩ := rdP (ho.1 0 (by omega)).1 b0 (hx 0 (by omega))
    rw [if_pos (show nI 0 = 0 from rfl), q_lit 0, q_raT (by omega), Option.bind_some, e1, Option.bind_some, cc_changed, Option.bind_some]
    exact ⟨_, rfl, lst M1 (fun q a => e2 q (by omega)) ⟨e4, (h1 (by omega)).keep (e3 3 (by omega)) (e2 _ (by omega)) (e2 _ (by omega)) (e2 _ (by omega)), (h2 (by omega)).keep (e3 7 (by omega)) (e2 _ (by omega)) (e2 _ (by omega)) (e2 _ (by omega))⟩⟩
  · obtain ⟨M1, e1, e2, e3, e4⟩ := rdW (ho.1 1 (by omega)).1 b1 (hx 1 (by omega))
    rw [if_neg (show ¬ nI 1 = 0 by decide), if_pos (show nI 1 = 1 from rfl), q_lit 1, q_raT (by omega), Option.bind_some, e1, Option.bind_some, cc_changed, Option.bind_some]
    exact ⟨_, rfl, lst M1 (fun q a => e2 q (by omega)) ⟨(h0 (by omega)).keep (e3 0 (by omega)) (e2 _ (by omega)) (e2 _ (by omega)), e4, (h2 (by omega)).keep (e3 7 (by omega)) (e2 _ (by omega)) (e2 _ (by omega)) (e2 _ (by omega))⟩⟩
  · obtain ⟨M1, e1, e2, e3, e4⟩ := rdM (ho.1 2 (by omega)).1 b2 (hx 2 (by omega))
    rw [if_neg (show ¬ nI 2 = 0 by decide), if_neg (show ¬ nI 2 = 1 by decide), q_lit 2, q_raT (by omega), Option.bind_some, e1, Option.bind_some, cc_changed, Option.bind_some]
    exact ⟨_, rfl, lst M1 (fun q a => e2 q (by omega)) ⟨(h0 (by omega)).keep (e3 0 (by omega)) (e2 _ (by omega)) (e2 _ (by omega)), (h1 (by omega)).keep (e3 3 (by omega)) (e2 _ (by omega)) (e2 _ (by omega)) (e2 _ (by omega)), e4⟩⟩
/-- a text changes: all the rest stays -/
theorem rel_txt {S S' : md_T} {t : Nat} {M M1 N N' : mm_M} (ht : t < 3) (ho' : st_o S') (rows : ∀ o, 4 ≤ o → S' o = S o) (oth : ∀ u, u < 3 → u ≠ t → S' 0 u = S 0 u ∧ ∀ i, S' (1 + u) i = S (1 + u) i) (hc : RC S M) (hn : RN S N) (hx : SX M N) (f : ∀ q, q ≠ 2 + 2 * t → q ≠ 2 + 2 * t + 1 → M1 q = M q) (tx : tx_c S' t M1) (g : ∀ q, q ≠ 5 → q ≠ 6 → N' q = N q) (nt : ∀ u, u < 3 → N' 6 u = nI (S' 0 u) ∧ ∀ i, i < S' 0 u → N' 5 (48 * u + i) = nI (S' (1 + u) i)) : ∃ M', fX6_tellAgain (nI t) M1 = some M' ∧ (∀ q, 1 ≤ q → q < 24 → M' q = M1 q) ∧ Rel M' N' := by
  obtain ⟨c1, c2, c3, c4⟩ := hc
  have txC : tx_C S' M1 := fun u hu => by
    by_cases c : u = t
    · rw [c]; exact tx
    · obtain ⟨s0, s1⟩ := oth u hu c
      exact (show tx_c S u M from c1 u hu).keep (M' := M1) (f _ (by omega) (by omega)) (f _ (by omega) (by omega)) |>.S s0 s1
  obtain ⟨p0, p1, p2⟩ := tp_T.mp c2
  have k0 : t ≠ 0 → tp0 S' M1 := fun h => by
    obtain ⟨s0, s1⟩ := oth 0 (by omega) (Ne.symm h)
    obtain ⟨-, -, n, x⟩ := pa_cg s0 s1
    have := p0.keep (M' := M1) (by rw [f 24 (by omega) (by omega)]) (f 25 (by omega) (by omega)) (f 26 (by omega) (by omega))
    unfold tp0 at this ⊢
    rw [n]
    simp only [x]
    exact this
  have k1 : t ≠ 1 → tp1 S' M1 := fun h => by
    obtain ⟨s0, s1⟩ := oth 1 (by omega) (Ne.symm h)
    obtain ⟨-, -, n, x⟩ := pa_cg s0 s1
    have := p1.keep (M' := M1) (by rw [f 24 (by omega) (by omega)]) (f 27 (by omega) (by omega)) (f 28 (by omega) (by omega)) (f 29 (by omega) (by omega))
    unfold tp1 at this ⊢
    rw [n]
    simp only [x]
    exact this
  have k2 : t ≠ 2 → tp2 S' M1 := fun h => by
    obtain ⟨s0, s1⟩ := oth 2 (by omega) (Ne.symm h)
    obtain ⟨-, -, n, x⟩ := pa_cg s0 s1
    have := p2.keep (M' := M1) (by rw [f 24 (by omega) (by omega)]) (f 30 (by omega) (by omega)) (f 31 (by omega) (by omega)) (f 32 (by omega) (by omega))
    unfold tp2 at this ⊢
    rw [n]
    simp only [x]
    exact this
  obtain ⟨M', e1, e2, e3, e4, e5⟩ := ct_tell ht ho' txC k0 k1 k2
  have fr : ∀ q, 8 ≤ q → q < 24 → M' q = M q := fun q a b => by rw [e2 q (by omega) b, f q (by omega) (by omega)]
  refine ⟨M', e1, e2, S', ho', ⟨txC.keep (fun q a b => e2 q (by omega) (by omega)), e4, ?_, ?_⟩, ⟨nt, ?_, ?_, ?_, ?_⟩, e5, ?_, fun s hs => ?_⟩
  · rw [fr 17 (by omega) (by omega), fr 18 (by omega) (by omega), fr 19 (by omega) (by omega), rows 4 (by omega), rows 5 (by omega), rows 6 (by omega)]; exact c3
  · rw [fr 20 (by omega) (by omega), fr 21 (by omega) (by omega), fr 22 (by omega) (by omega), fr 23 (by omega) (by omega), rows 4 (by omega), rows 7 (by omega), rows 8 (by omega), rows 9 (by omega)]; exact c4
  · rw [g 0 (by omega) (by omega), g 10 (by omega) (by omega), rows 4 (by omega), rows 5 (by omega), rows 6 (by omega)]; exact hn.2.1
  · rw [g 0 (by omega) (by omega), g 19 (by omega) (by omega), rows 4 (by omega), rows 7 (by omega), rows 8 (by omega), rows 9 (by omega)]; exact hn.2.2.1
  · rw [g 0 (by omega) (by omega)]; exact hn.2.2.2.1
  · rw [g 0 (by omega) (by omega)]; exact hn.2.2.2.2
  · rw [e3, f 0 (by omega) (by omega), g 0 (by omega) (by omega)]; exact hx.1
  · rw [fr _ (by omega) (by omega), fr _ (by omega) (by omega), g 1 (by omega) (by omega), g 2 (by omega) (by omega), g 3 (by omega) (by omega)]
    exact hx.2 s hs
theorem op_type {M N : mm_M} (h : Rel M N) (x y : Int32) : AG (fX6_type x y M) (fX7_type x y N) := by
  obtain ⟨S, ho, hc, hn, hk, hx⟩ := id h
  have bad : ∀ r : Int32, AG (some (r, M)) (some (r, N)) := fun r => ⟨r, M, N, rfl, rfl, h⟩
  unfold fX6_type fX7_type
  rw [q_isText, q_inb 256 (by decide), q_lit 3, q_lit 256, q_isOutside (by omega), q_isOutside (by omega)]
  simp only [Option.bind_some, q_if10, q_if01]
  refine ag_if (fun c1 => ag_if (fun c2 => ?_) (fun _ => bad _)) (fun _ => bad _)
  obtain ⟨t, ht, rfl⟩ := q_of c1.1 c1.2 (by omega)
  obtain ⟨b, hb, rfl⟩ := q_of c2.1 c2.2 (by omega)
  have hcap := pa_cap_le t
  obtain ⟨o1, o2⟩ := ho.1 t ht
  obtain ⟨n1, n2⟩ := hn.1 t ht
  have txt : tx_c S t M := hc.1 t ht
  rw [q_raT ht, q_rd (by omega) (by omega)]
  simp only [Option.bind_some]
  have ecap : (if nI t = 0 then (23 : Int32) else 47) = nI (pa_cap t) := by
    rcases q_lt3 ht with e | e | e <;> subst e <;> rfl
  unfold fX7_type_J39
  rw [ecap, n1]
  by_cases cf : S 0 t < pa_cap t
  · have c48 : 48 * t + S 0 t < 144 := by omega
    obtain ⟨M1, a1, a2, a3⟩ := ct_append ht cf hb txt
    have fl : fX4_isFull (2 + 2 * t) M = 0 := by
      unfold fX4_isFull
      rw [txt.2.2.1, tl_cap, if_pos (show nI (S 0 t) < Int32.ofNat (pa_cap t) from nI_lt cf (by omega))]
    have hS0 : st_ty S t b 0 t = S 0 t + 1 := st_ty_0
    have key := rel_txt (S := S) (S' := st_ty S t b) (t := t) (M := M) (M1 := M1) (N := N) (N' := mm_wr (mm_wr N 5 (48 * t + S 0 t) (nI b)) 6 t (nI (S 0 t + 1))) ht ?_ (fun o q => ?_) (fun u hu hut => ⟨?_, fun i => ?_⟩) hc hn hx a2 a3 (fun q a c => ?_) (fun u hu => ⟨?_, fun i hi => ?_⟩)
    · obtain ⟨M', e1, e2, e3⟩ := key
      rw [fl, if_pos rfl, a1, Option.bind_some, e1, Option.bind_some, if_neg (by rw [nI_eq (by omega) (by omega)]; omega), q_rd (by omega) (by omega), Option.bind_some, n1, q_lit 48, pk_mul, nI_add, q_wa c48 (by omega), Option.bind_some, q_rd (by omega) (by omega), Option.bind_some, q_wr_ne (by decide), n1, nI_1, q_wa (by omega) (by omega), Option.bind_some, q_rd (by omega) (by omega), Option.bind_some, q_wr_eq]
      refine ⟨_, M', _, ?_, rfl, e3⟩
      unfold fX4_size
      rw [e2 _ (by omega) (by omega), a3.2.2.1, hS0]
    · refine ⟨fun u hu => ?_, ?_, ?_, ?_, ?_⟩
      · by_cases c : u = t
        · subst c
          rw [hS0]
          refine ⟨by omega, fun i hi => ?_⟩
          by_cases ci : i = S 0 u
          · rw [ci, st_ty_n]; exact hb
          · rw [st_ty_i ci]; exact o2 i (by omega)
        · unfold st_ty
          rw [md_up_n2 c, md_up_ne (by omega)]
          refine ⟨(ho.1 u hu).1, fun i hi => ?_⟩
          rw [md_up_ne (by omega), md_up_ne (by omega)]
          exact (ho.1 u hu).2 i hi
      · exact ho.2.1 |> fun z => by unfold st_ty; rw [md_up_ne (by omega), md_up_ne (by omega)]; exact z
      · unfold st_ty
        rw [md_up_row (by omega), md_up_row (by omega), md_up_row (by omega), md_up_row (by omega), md_up_row (by omega), md_up_row (by omega)]; exact ho.2.2.1
      · unfold st_ty
        rw [md_up_row (by omega), md_up_row (by omega)]; exact ho.2.2.2.1
      · unfold st_ty
        rw [md_up_row (by omega), md_up_row (by omega), md_up_row (by omega), md_up_row (by omega), md_up_row (by omega), md_up_row (by omega), md_up_row (by omega), md_up_row (by omega)]; exact ho.2.2.2.2
    · unfold st_ty; rw [md_up_row (by omega), md_up_row (by omega)]
    · unfold st_ty; rw [md_up_n2 hut, md_up_ne (by omega)]
    · unfold st_ty; rw [md_up_ne (by omega), md_up_ne (by omega)]
    · rw [q_wr_ne c, q_wr_ne a]
    · by_cases c : u = t
      · rw [c, q_wr_eq, hS0]
      · rw [q_wr_n2 c, q_wr_ne (by decide)]
        unfold st_ty
        rw [md_up_n2 c, md_up_ne (by omega)]
        exact (hn.1 u hu).1
    · rw [q_wr_ne (by decide)]
      by_cases c : u = t
      · subst c
        rw [hS0] at hi
        by_cases ci : i = S 0 u
        · rw [ci, q_wr_eq, st_ty_n]
        · rw [q_wr_n2 (by omega), st_ty_i ci]; exact n2 i (by omega)
      · have e : st_ty S t b 0 u = S 0 u := by unfold st_ty; rw [md_up_n2 c, md_up_ne (by omega)]
        rw [e] at hi
        have hu2 := (ho.1 u hu).1
        have hu3 := pa_cap_le u
        rw [q_wr_n2 (by omega)]
        unfold st_ty
        rw [md_up_ne (by omega), md_up_ne (by omega)]
        exact (hn.1 u hu).2 i hi
  · have fl : fX4_isFull (2 + 2 * t) M = 1 := by
      unfold fX4_isFull
      rw [txt.2.2.1, tl_cap, if_neg (show ¬ nI (S 0 t) < Int32.ofNat (pa_cap t) from nI_nlt (by omega) (by omega))]
    rw [fl, if_neg q_10, if_pos (by rw [show S 0 t = pa_cap t by omega])]
    exact bad _
theorem cut_all {M N : mm_M} {S : md_T} (ho : st_o S) (hc : RC S M) (hn : RN S N) (hx : SX M N) {t n : Nat} (ht : t < 3) (hn2 : n ≤ S 0 t) : ∃ M1 M', fX4_cutTo (2 + 2 * t) (nI n) M = some M1 ∧ fX6_tellAgain (nI t) M1 = some M' ∧ Rel M' (mm_wr N 6 t (nI n)) := by
  have hcap := pa_cap_le t
  obtain ⟨o1, o2⟩ := ho.1 t ht
  obtain ⟨M1, a1, a2, a3⟩ := ct_cut (by omega) hn2 (show tx_c S t M from hc.1 t ht)
  have key := rel_txt (S := S) (S' := md_up S 0 t n) (t := t) (M := M) (M1 := M1) (N := N) (N' := mm_wr N 6 t (nI n)) ht ?_ (fun o q => md_up_row (by omega)) (fun u hu hut => ⟨md_up_n2 hut, fun i => md_up_ne (by omega)⟩) hc hn hx (fun q a _ => a2 q a) a3 (fun q a c => q_wr_ne c) (fun u hu => ⟨?_, fun i hi => ?_⟩)
  · obtain ⟨M', e1, e2, e3⟩ := key
    exact ⟨M1, M', a1, e1, e3⟩
  · refine ⟨fun u hu => ?_, ?_, ?_, ?_, ?_⟩
    · by_cases c : u = t
      · subst c
        rw [md_up_eq]
        refine ⟨by omega, fun i hi => ?_⟩
        rw [md_up_ne (by omega)]
        exact o2 i (by omega)
      · rw [md_up_n2 c]
        refine ⟨(ho.1 u hu).1, fun i hi => ?_⟩
        rw [md_up_ne (by omega)]
        exact (ho.1 u hu).2 i hi
    · rw [md_up_row (by omega)]; exact ho.2.1
    · rw [md_up_row (by omega), md_up_row (by omega), md_up_row (by omega)]; exact ho.2.2.1
    · rw [md_up_row (by omega)]; exact ho.2.2.2.1
    · rw [md_up_row (by omega), md_up_row (by omega), md_up_row (by omega), md_up_row (by omega)]; exact ho.2.2.2.2
  · by_cases c : u = t
    · rw [c, q_wr_eq, md_up_eq]
    · rw [q_wr_n2 c, md_up_n2 c]; exact (hn.1 u hu).1
  · have e : i < S 0 u := by
      by_cases c : u = t
      · rw [c, md_up_eq] at hi; rw [c]; omega
      · rw [md_up_n2 c] at hi; exact hi
    rw [q_wr_ne (by decide), md_up_ne (by omega)]
    exact (hn.1 u hu).2 i e
theorem op_undo {M N : mm_M} (h : Rel M N) (x : Int32) : AG (fX6_undo x M) (fX7_undo x N) := by
  obtain ⟨S, ho, hc, hn, hk, hx⟩ := id h
  have bad : ∀ r : Int32, AG (some (r, M)) (some (r, N)) := fun r => ⟨r, M, N, rfl, rfl, h⟩
  unfold fX6_undo fX7_undo
  rw [q_isText, q_lit 3, q_isOutside (by omega)]
  simp only [Option.bind_some, q_if10, q_if01]
  refine ag_if (fun c1 => ?_) (fun _ => bad _)
  obtain ⟨t, ht, rfl⟩ := q_of c1.1 c1.2 (by omega)
  have hcap := pa_cap_le t
  have o1 := (ho.1 t ht).1
  rw [q_raT ht, q_rd (by omega) (by omega)]
  simp only [Option.bind_some]
  unfold fX4_size
  rw [(show tx_c S t M from hc.1 t ht).2.2.1, (hn.1 t ht).1]
  refine ag_if (fun _ => bad _) (fun c => ?_)
  have c' : S 0 t ≠ 0 := fun e => c (by rw [e]; rfl)
  obtain ⟨e, he⟩ : ∃ e, S 0 t = e + 1 := ⟨S 0 t - 1, by omega⟩
  obtain ⟨M1, M', a1, a2, a3⟩ := cut_all ho hc hn hx ht (show e ≤ S 0 t by omega)
  rw [he, nI_pred, a1, Option.bind_some, a2, Option.bind_some, q_wa (by omega) (by omega), Option.bind_some, q_rd (by omega) (by omega), Option.bind_some, q_wr_eq]
  exact ⟨_, M', _, rfl, rfl, a3⟩
theorem op_wipe {M N : mm_M} (h : Rel M N) (x : Int32) : AG (fX6_wipe x M) (fX7_wipe x N) := by
  obtain ⟨S, ho, hc, hn, hk, hx⟩ := id h
  have bad : ∀ r : Int32, AG (some (r, M)) (some (r, N)) := fun r => ⟨r, M, N, rfl, rfl, h⟩
  unfold fX6_wipe fX7_wipe
  rw [q_isText, q_lit 3, q_isOutside (by omega)]
  simp only [Option.bind_some, q_if10, q_if01]
  refine ag_if (fun c1 => ?_) (fun _ => bad _)
  obtain ⟨t, ht, rfl⟩ := q_of c1.1 c1.2 (by omega)
  rw [q_raT ht, q_rd (by omega) (by omega)]
  simp only [Option.bind_some]
  unfold fX4_size
  rw [(show tx_c S t M from hc.1 t ht).2.2.1, (hn.1 t ht).1, q_lit 0]
  obtain ⟨M1, M', a1, a2, a3⟩ := cut_all ho hc hn hx ht (show 0 ≤ S 0 t by omega)
  rw [a1, Option.bind_some, a2, Option.bind_some, q_wa (by omega) (by omega), Option.bind_some]
  exact ⟨_, M', _, rfl, rfl, a3⟩
