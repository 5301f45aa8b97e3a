/-! TEXTS: type, undo, wipe -/
theorem pa_cg {S S' : md_T} {t : Nat} (h0 : S' 0 t = S 0 t) (h1 : ∀ i, S' (1 + t) i = S (1 + t) i) : (∀ i, pa_at S' t i = pa_at S t i) ∧ pa_w S' t = pa_w S t ∧ pa_n S' t = pa_n S t ∧ ∀ i, pa_x S' t i = pa_x S t i := by
  have ha : ∀ i, pa_at S' t i = pa_at S t i := fun i => by unfold pa_at; rw [h1 i]
  have hb : pa_bad S' t = pa_bad S t := by funext i; unfold pa_bad; rw [ha i]
  have hw : pa_w S' t = pa_w S t := by unfold pa_w; rw [hb, h0]
  have hf : pa_f S' t = pa_f S t := by unfold pa_f; rw [hw, h0]
  exact ⟨ha, hw, by unfold pa_n; rw [hf, h0], fun i => by unfold pa_x; rw [ha i]⟩
theorem tx_c.S {S S' : md_T} {t : Nat} {M : mm_M} (h0 : S' 0 t = S 0 t) (h1 : ∀ i, S' (1 + t) i = S (1 + t) i) (h : tx_c S t M) : tx_c S' t M := by
  obtain ⟨a, b, -, -⟩ := pa_cg h0 h1
  unfold tx_c at h ⊢
  rw [h0, b]
  simp only [a]
  exact h
theorem ct_mean {t p b : Nat} {r : Nat} {M : mm_M} (ht : t < 3) (hp : p < pa_sp t) (hb : b < 256) (m0 : M r 0 = nI t) (m1 : M r 1 = nI (pa_sp t)) : fX4_meaning r (nI p) (nI b) M = pa_e (-1) (pa_v t p b) := by
  rcases q_lt3 ht with e | e | e <;> subst e
  · have q := pa_mean0 p hp b hb
    unfold fX4_meaning fX4_meaning_J72 at q ⊢
    rw [m0, m1]
    exact q
  · have q := pa_mean1 p hp b hb
    unfold fX4_meaning fX4_meaning_J72 at q ⊢
    rw [m0, m1]
    exact q
  · have q := pa_mean2 p hp b hb
    unfold fX4_meaning fX4_meaning_J72 at q ⊢
    rw [m0, m1]
    exact q
def st_ty (S : md_T) (t b : Nat) : md_T := md_up (md_up S (1 + t) (S 0 t) b) 0 t (S 0 t + 1)
theorem st_ty_0 {S : md_T} {t b : Nat} : st_ty S t b 0 t = S 0 t + 1 := md_up_eq
theorem st_ty_n {S : md_T} {t b : Nat} : st_ty S t b (1 + t) (S 0 t) = b := by unfold st_ty; rw [md_up_ne (by omega), md_up_eq]
theorem st_ty_i {S : md_T} {t b i : Nat} (h : i ≠ S 0 t) : st_ty S t b (1 + t) i = S (1 + t) i := by unfold st_ty; rw [md_up_ne (by omega), md_up_n2 h]
theorem ct_append {S : md_T} {t b : Nat} {M : mm_M} (ht : t < 3) (hS : S 0 t < pa_cap t) (hb : b < 256) (h : tx_c S t M) : ∃ M', fX4_append (2 + 2 * t) (nI b) M = some M' ∧ (∀ q, q ≠ 2 + 2 * t → q ≠ 2 + 2 * t + 1 → M' q = M q) ∧ tx_c (st_ty S t b) t M' := by
  obtain ⟨m0, m1, m3, m4, m5⟩ := h
  have hsp := pa_sp_v t
  have hcap := pa_cap_le t
  have hwl := pa_w_le S t
  have hm := Nat.mod_lt (S 0 t) (show 0 < pa_sp t by omega)
  have ev := ct_mean (r := 2 + 2 * t) ht hm hb m0 m1
  have atn : pa_at (st_ty S t b) t (S 0 t) = pa_v t (S 0 t % pa_sp t) b := by unfold pa_at; rw [st_ty_n]
  have ati : ∀ i, i ≠ S 0 t → pa_at (st_ty S t b) t i = pa_at S t i := fun i hi => by unfold pa_at; rw [st_ty_i hi]
  obtain ⟨f1, f2, f3, f4⟩ := md_fst_spec (pa_bad S t) (S 0 t) 0
  have bdi : ∀ i, i ≠ S 0 t → pa_bad (st_ty S t b) t i = pa_bad S t i := fun i hi => by unfold pa_bad; rw [ati i hi]
  have wlt : pa_w S t < S 0 t → pa_w (st_ty S t b) t = pa_w S t := fun c => by
    have e : pa_w (st_ty S t b) t = md_fst (pa_bad (st_ty S t b) t) (S 0 t + 1) 0 := by unfold pa_w; rw [st_ty_0]
    rw [e]
    refine md_fst_uniq (Nat.zero_le _) (by omega) (fun j a c' => ?_) (fun _ => ?_)
    · rw [bdi j (by omega)]; exact f3 j a c'
    · rw [bdi _ (by omega)]; exact f4 (by change pa_w S t < 0 + S 0 t; omega)
  have weq : ¬ pa_w S t < S 0 t → pa_w (st_ty S t b) t = if (pa_v t (S 0 t % pa_sp t) b).isNone = true then S 0 t else S 0 t + 1 := fun c => by
    have e : pa_w (st_ty S t b) t = md_fst (pa_bad (st_ty S t b) t) (S 0 t + 1) 0 := by unfold pa_w; rw [st_ty_0]
    have bn : pa_bad (st_ty S t b) t (S 0 t) = (pa_v t (S 0 t % pa_sp t) b).isNone := by unfold pa_bad; rw [atn]
    have lo : ∀ j, j < S 0 t → pa_bad (st_ty S t b) t j = false := fun j hj => by rw [bdi j (by omega)]; exact f3 j (by omega) (by change j < pa_w S t; omega)
    rw [e]
    by_cases cn : (pa_v t (S 0 t % pa_sp t) b).isNone = true
    · rw [if_pos cn]
      exact md_fst_uniq (Nat.zero_le _) (by omega) (fun j a c' => lo j c') (fun _ => by rw [bn]; exact cn)
    · rw [if_neg cn]
      refine md_fst_uniq (Nat.zero_le _) (by omega) (fun j a c' => ?_) (fun u => by omega)
      by_cases cj : j = S 0 t
      · rw [cj, bn]; exact Bool.eq_false_iff.mpr cn
      · exact lo j (by omega)
  unfold fX4_append fX4_isFull
  rw [m3, m1, if_pos (show nI (S 0 t) < Int32.ofNat (tl (2 + 2 * t)) by rw [tl_cap]; exact nI_lt hS (by omega)), if_pos rfl, q_rm (by omega) (by omega) (by omega), Option.bind_some, ev, tl_cap, q_wa (by omega) (by omega), Option.bind_some, q_wr_ne (show 2 + 2 * t ≠ 2 + 2 * t + 1 by omega), m3, m4, q_rd (by omega) (by omega), q_wr_eq]
  simp only [Option.bind_some, q_pf, nI_1]
  have fin : ∀ (M' : mm_M), (∀ q, q ≠ 2 + 2 * t → M' q = mm_wr M (2 + 2 * t + 1) (S 0 t) (pa_e (-1) (pa_v t (S 0 t % pa_sp t) b)) q) → (∀ j, j ≠ 3 → j ≠ 4 → M' (2 + 2 * t) j = M (2 + 2 * t) j) → M' (2 + 2 * t) 3 = nI (S 0 t + 1) → M' (2 + 2 * t) 4 = rr_enc (S 0 t + 1) (pa_w (st_ty S t b) t) → (∀ q, q ≠ 2 + 2 * t → q ≠ 2 + 2 * t + 1 → M' q = M q) ∧ tx_c (st_ty S t b) t M' := by
    intro M' g1 g2 g3 g4
    refine ⟨fun q a c => by rw [g1 q a, q_wr_ne c], by rw [g2 0 (by omega) (by omega)]; exact m0, by rw [g2 1 (by omega) (by omega)]; exact m1, by rw [st_ty_0]; exact g3, by rw [st_ty_0]; exact g4, fun i hi => ?_⟩
    rw [st_ty_0] at hi
    rw [g1 _ (by omega)]
    by_cases c : i = S 0 t
    · rw [c, q_wr_eq, atn]
    · rw [q_wr_n2 c, ati i c]; exact m5 i (by omega)
  by_cases c : pa_w S t < S 0 t
  · rw [rr_enc, if_pos c, if_neg (q_m1 (a := pa_w S t) (by omega))]
    refine ⟨_, rfl, fin _ (fun q hq => q_wr_ne hq) (fun j a b => by rw [q_wr_n2 a, q_wr_ne (by omega)]) q_wr_eq ?_⟩
    rw [q_wr_n2 (by decide), q_wr_ne (by omega), m4, wlt c, rr_enc, rr_enc, if_pos c, if_pos (by omega)]
  · rw [rr_enc, if_neg c, if_pos rfl]
    have we := weq c
    cases ev2 : pa_v t (S 0 t % pa_sp t) b with
    | none =>
      rw [ev2] at we fin
      rw [if_pos (show pa_e (-1) none = -1 from rfl)]
      refine ⟨_, rfl, fin _ (fun q hq => by rw [q_wr_ne hq, q_wr_ne hq]) (fun j a b => by rw [q_wr_n2 a, q_wr_n2 b, q_wr_ne (by omega)]) ?_ ?_⟩
      · simp (disch := omega) only [q_wr_n2, q_wr_ne, q_wr_eq, m3, nI_1]
      · rw [q_wr_n2 (by decide), q_wr_eq, we, if_pos (show (none : Option Nat).isNone = true from rfl), rr_enc, if_pos (by omega)]
    | some v =>
      rw [ev2] at we fin
      have := pa_v_lt ev2
      rw [if_neg (show ¬ pa_e (-1) (some v) = -1 from q_m1 (a := v) (by omega))]
      refine ⟨_, rfl, fin _ (fun q hq => q_wr_ne hq) (fun j a b => by rw [q_wr_n2 a, q_wr_ne (by omega)]) q_wr_eq ?_⟩
      rw [q_wr_n2 (by decide), q_wr_ne (by omega), m4, we, if_neg (show ¬ (some v).isNone = true by intro q; cases q), rr_enc, rr_enc, if_neg c, if_neg (by omega)]
theorem ct_cut {S : md_T} {t n : Nat} {M : mm_M} (hS : S 0 t ≤ 47) (hn : n ≤ S 0 t) (h : tx_c S t M) : ∃ M', fX4_cutTo (2 + 2 * t) (nI n) M = some M' ∧ (∀ q, q ≠ 2 + 2 * t → M' q = M q) ∧ tx_c (md_up S 0 t n) t M' := by
  obtain ⟨m0, m1, m3, m4, m5⟩ := h
  obtain ⟨f1, f2, f3, f4⟩ := md_fst_spec (pa_bad S t) (S 0 t) 0
  have s0 : md_up S 0 t n 0 t = n := md_up_eq
  have hat : ∀ i, pa_at (md_up S 0 t n) t i = pa_at S t i := fun i => by unfold pa_at; rw [md_up_ne (by omega)]
  have hbd : pa_bad (md_up S 0 t n) t = pa_bad S t := by funext i; unfold pa_bad; rw [hat i]
  have hw : pa_w (md_up S 0 t n) t = if pa_w S t < n then pa_w S t else n := by
    have e : pa_w (md_up S 0 t n) t = md_fst (pa_bad S t) n 0 := by unfold pa_w; rw [s0, hbd]
    rw [e]
    by_cases c : pa_w S t < n
    · rw [if_pos c]
      exact md_fst_uniq (Nat.zero_le _) (by omega) f3 (fun _ => f4 (by change pa_w S t < 0 + S 0 t; omega))
    · rw [if_neg c]
      exact md_fst_uniq (Nat.zero_le _) (by omega) (fun j a b => f3 j a (by change j < pa_w S t; omega)) (fun u => by omega)
  unfold fX4_cutTo
  rw [if_neg (nI_pos (n := n) (by omega)), m3, if_pos (nI_le hn (by omega)), q_pf, Option.bind_some, q_wr_eq, q_wr_n2 (by decide), m4, q_pf, Option.bind_some]
  have fin : ∀ (M' : mm_M), (∀ q, q ≠ 2 + 2 * t → M' q = M q) → (∀ j, j ≠ 3 → j ≠ 4 → M' (2 + 2 * t) j = M (2 + 2 * t) j) → M' (2 + 2 * t) 3 = nI n → M' (2 + 2 * t) 4 = rr_enc n (if pa_w S t < n then pa_w S t else n) → (∀ q, q ≠ 2 + 2 * t → M' q = M q) ∧ tx_c (md_up S 0 t n) t M' := by
    intro M' g1 g2 g3 g4
    refine ⟨g1, by rw [g2 0 (by omega) (by omega)]; exact m0, by rw [g2 1 (by omega) (by omega)]; exact m1, by rw [s0]; exact g3, by rw [s0, hw]; exact g4, fun i hi => ?_⟩
    rw [s0] at hi
    rw [g1 _ (by omega), hat]
    exact m5 i (by omega)
  by_cases c : pa_w S t < n
  · rw [rr_enc, if_pos (show pa_w S t < S 0 t by omega), if_pos (nI_lt c (by omega))]
    refine ⟨_, rfl, fin _ (fun q hq => q_wr_ne hq) (fun j a b => q_wr_n2 a) q_wr_eq ?_⟩
    rw [q_wr_n2 (by decide), m4, if_pos c, rr_enc, rr_enc, if_pos c, if_pos (show pa_w S t < S 0 t by omega)]
  · by_cases c2 : pa_w S t < S 0 t
    · rw [rr_enc, if_pos c2, if_neg (by rw [nI_ltI (by omega) (by omega)]; exact c)]
      refine ⟨_, rfl, fin _ (fun q hq => by rw [q_wr_ne hq, q_wr_ne hq]) (fun j a b => by rw [q_wr_n2 b, q_wr_n2 a]) (by rw [q_wr_n2 (by decide), q_wr_eq]) ?_⟩
      rw [q_wr_eq, if_neg c, rr_enc, if_neg (by omega)]
    · have e1 : (-1 : Int32).toInt = -1 := by decide
      rw [rr_enc, if_neg c2, if_pos (show (-1 : Int32) < nI n by rw [Int32.lt_iff_toInt_lt, nI_toInt (by omega), e1]; omega)]
      refine ⟨_, rfl, fin _ (fun q hq => q_wr_ne hq) (fun j a b => q_wr_n2 a) q_wr_eq ?_⟩
      rw [q_wr_n2 (by decide), m4, if_neg c, rr_enc, rr_enc, if_neg c2, if_neg (by omega)]
