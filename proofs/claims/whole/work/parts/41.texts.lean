/-! TEXTS of the class -/
theorem md_fst_uniq {P : Nat → Bool} {f i r : Nat} (h1 : i ≤ r) (h2 : r ≤ i + f) (h3 : ∀ j, i ≤ j → j < r → P j = false) (h4 : r < i + f → P r = true) : md_fst P f i = r := by
  obtain ⟨a1, a2, a3, a4⟩ := md_fst_spec P f i
  rcases Nat.lt_trichotomy (md_fst P f i) r with c | c | c
  · have := h3 _ a1 c
    rw [a4 (by omega)] at this
    cases this
  · exact c
  · have := a3 r h1 c
    rw [h4 (by omega)] at this
    cases this
theorem q_rm {a b : Nat} (ha : a < 2 ^ 31) (hb : b < 2 ^ 31) (h0 : 0 < b) : mm_rm (nI a) (nI b) = some (nI (a % b)) := by
  unfold mm_rm
  rw [if_neg (nI_ne0 h0 hb), pk_rem ha h0 hb]
theorem q_dv {a b : Nat} (ha : a < 2 ^ 31) (hb : b < 2 ^ 31) (h0 : 0 < b) : mm_dv (nI a) (nI b) = some (nI (a / b)) := by
  unfold mm_dv
  rw [if_neg (nI_ne0 h0 hb), pk_div ha h0 hb]
theorem pa_sp_v (t : Nat) : pa_sp t = 3 ∧ t = 0 ∨ pa_sp t = 4 ∧ t ≠ 0 := by
  unfold pa_sp
  by_cases c : t = 0
  · rw [if_pos c]; exact Or.inl ⟨rfl, c⟩
  · rw [if_neg c]; exact Or.inr ⟨rfl, c⟩
theorem pa_sp_m (t : Nat) : nI (pa_sp t) - 1 = nI (pa_sp t - 1) := by
  rcases pa_sp_v t with ⟨e, -⟩ | ⟨e, -⟩ <;> rw [e] <;> decide
theorem tl_cap (t : Nat) : tl (2 + 2 * t) = pa_cap t := by
  unfold tl pa_cap
  by_cases c : t = 0
  · rw [if_pos c, if_pos (by omega)]
  · rw [if_neg c, if_neg (by omega)]
theorem pa_cap_le (t : Nat) : pa_cap t ≤ 47 := by
  unfold pa_cap
  split <;> omega
theorem pa_w_le (S : md_T) (t : Nat) : pa_w S t ≤ S 0 t := by
  have := (md_fst_spec (pa_bad S t) (S 0 t) 0).2.1
  unfold pa_w
  omega
theorem pa_f_le {S : md_T} {t v : Nat} (h : pa_f S t = some v) : v ≤ S 0 t := by
  have := pa_w_le S t
  unfold pa_f at h
  split at h
  · cases h; exact this
  · split at h
    · cases h
    · cases h; exact Nat.le_refl _
def tx_c (S : md_T) (t : Nat) (M : mm_M) : Prop := M (2 + 2 * t) 0 = nI t ∧ M (2 + 2 * t) 1 = nI (pa_sp t) ∧ M (2 + 2 * t) 3 = nI (S 0 t) ∧ M (2 + 2 * t) 4 = rr_enc (S 0 t) (pa_w S t) ∧ ∀ i, i < S 0 t → M (2 + 2 * t + 1) i = pa_e (-1) (pa_at S t i)
theorem ct_fault {S : md_T} {t : Nat} {M : mm_M} (hS : S 0 t ≤ 47) (h : tx_c S t M) : fX4_faultPlace (2 + 2 * t) M = some (pa_e (-1) (pa_f S t)) := by
  obtain ⟨m0, m1, m3, m4, m5⟩ := h
  have hsp := pa_sp_v t
  unfold fX4_faultPlace
  rw [m4, m3, m1, pa_sp_m, q_rm (by omega) (by omega) (by omega), Option.bind_some]
  unfold pa_f rr_enc
  by_cases c : pa_w S t < S 0 t
  · rw [if_pos c, if_neg (q_m1 (a := pa_w S t) (by omega)), if_pos c]; rfl
  · rw [if_neg c, if_pos rfl, if_neg c]
    by_cases c0 : S 0 t = 0
    · rw [if_pos (by rw [c0]; rfl), if_pos (Or.inl c0)]; rfl
    · rw [if_neg (nI_ne0 (by omega) (by omega))]
      by_cases c1 : S 0 t % pa_sp t = pa_sp t - 1
      · rw [if_pos (by rw [c1]), if_pos (Or.inr c1)]; rfl
      · have hm := Nat.mod_lt (S 0 t) (show 0 < pa_sp t by omega)
        rw [if_neg (by rw [nI_eq (by omega) (by omega)]; exact c1), if_neg (fun q => q.elim c0 c1)]; rfl
theorem ct_things {S : md_T} {t : Nat} {M : mm_M} (hS : S 0 t ≤ 47) (h : tx_c S t M) : fX4_things (2 + 2 * t) M = some (nI (pa_n S t)) := by
  have hsp := pa_sp_v t
  unfold fX4_things
  rw [ct_fault hS h, Option.bind_some, h.2.1, h.2.2.1, nI_1, q_dv (by omega) (by omega) (by omega), Option.bind_some]
  unfold pa_n
  cases e : pa_f S t with
  | none => rw [if_pos rfl, if_pos (show pa_e (-1) none = -1 from rfl)]
  | some v =>
    have := pa_f_le e
    rw [if_neg (show ¬ pa_e (-1) (some v) = -1 from q_m1 (a := v) (by omega)), if_neg (show ¬ some v = none by intro q; cases q)]; rfl
theorem pa_n_lt {S : md_T} {t x : Nat} (h : x < pa_n S t) : pa_f S t = none ∧ x * pa_sp t + (pa_sp t - 1) ≤ S 0 t := by
  have hsp := pa_sp_v t
  unfold pa_n at h
  by_cases c : pa_f S t = none
  · rw [if_pos c] at h
    refine ⟨c, ?_⟩
    have h2 : (x + 1) * pa_sp t ≤ S 0 t + 1 := (Nat.le_div_iff_mul_le (by omega)).mp h
    rw [Nat.succ_mul] at h2
    omega
  · rw [if_neg c] at h; omega
theorem ct_value {S : md_T} {t x y : Nat} {M : mm_M} (hS : S 0 t ≤ pa_cap t) (h : tx_c S t M) (hx : x < pa_n S t) (hy : y < pa_sp t - 1) : fX4_valueOf (2 + 2 * t) (nI x) (nI y) M = some (nI (pa_x S t (x * pa_sp t + y))) := by
  obtain ⟨e, h2⟩ := pa_n_lt hx
  have hc := pa_cap_le t
  obtain ⟨v, hv⟩ := (pa_well e).1 (x * pa_sp t + y) (by omega)
  unfold fX4_valueOf
  rw [h.2.1, h.2.2.1, pk_mul, nI_add, q_outN (by omega) (by omega), if_pos (show x * pa_sp t + y < S 0 t by omega), if_pos rfl, tl_cap, q_rd (by omega) (by omega), Option.bind_some, h.2.2.2.2 _ (by omega), hv, pa_x_of hv]
  rfl
theorem tx_c.keep {S : md_T} {t : Nat} {M M' : mm_M} (h1 : M' (2 + 2 * t) = M (2 + 2 * t)) (h2 : M' (2 + 2 * t + 1) = M (2 + 2 * t + 1)) (h : tx_c S t M) : tx_c S t M' := by
  unfold tx_c at h ⊢
  rw [h1, h2]
  exact h
/-! what is told, text by text -/
def tp0 (S : md_T) (M : mm_M) : Prop := M 24 0 = nI (pa_n S 0) ∧ ∀ k, k < pa_n S 0 → M 25 k = nI (pa_x S 0 (3 * k)) ∧ M 26 k = nI (pa_x S 0 (3 * k + 1))
def tp1 (S : md_T) (M : mm_M) : Prop := M 24 3 = nI (pa_n S 1) ∧ ∀ k, k < pa_n S 1 → M 27 k = nI (pa_x S 1 (4 * k)) ∧ M 28 k = nI (pa_x S 1 (4 * k + 1)) ∧ M 29 k = nI (pa_x S 1 (4 * k + 2))
def tp2 (S : md_T) (M : mm_M) : Prop := M 24 7 = nI (pa_n S 2) ∧ ∀ k, k < pa_n S 2 → M 30 k = nI (pa_x S 2 (4 * k)) ∧ M 31 k = nI (pa_x S 2 (4 * k + 1)) ∧ M 32 k = nI (pa_x S 2 (4 * k + 2))
theorem tp_T {S : md_T} {M : mm_M} : cc_T (pa_T S) 24 M ↔ tp0 S M ∧ tp1 S M ∧ tp2 S M := by
  constructor
  · rintro ⟨a, b, c, d, e, f⟩
    exact ⟨⟨a, d⟩, ⟨b, e⟩, ⟨c, f⟩⟩
  · rintro ⟨⟨a, d⟩, ⟨b, e⟩, ⟨c, f⟩⟩
    exact ⟨a, b, c, d, e, f⟩
theorem rdP_L {S : md_T} (hS : S 0 0 ≤ pa_cap 0) (h8 : pa_n S 0 ≤ 8) : ∀ f i n (M : mm_M), i + f = pa_n S 0 → f < n → tx_c S 0 M → M 24 0 = nI (pa_n S 0) → ∃ M', fX5_readPeople_L15 24 2 n (nI i) M = some M' ∧ (∀ q, q ≠ 25 → q ≠ 26 → M' q = M q) ∧ (∀ j, j < i → M' 25 j = M 25 j ∧ M' 26 j = M 26 j) ∧ ∀ j, i ≤ j → j < pa_n S 0 → M' 25 j = nI (pa_x S 0 (3 * j)) ∧ M' 26 j = nI (pa_x S 0 (3 * j + 1))
  | 0, i, n + 1, M, hi, hn, ht, h0 => ⟨M, by rw [fX5_readPeople_L15, h0, if_pos (by rw [nI_leI (by omega) (by omega)]; omega)], fun _ _ _ => rfl, fun _ _ => ⟨rfl, rfl⟩, fun j a b => by omega⟩
  | f + 1, i, n + 1, M, hi, hn, ht, h0 => by
    have v0 := fun M (ht : tx_c S 0 M) => ct_value (y := 0) hS ht (show i < pa_n S 0 by omega) (by decide)
    have v1 := fun M (ht : tx_c S 0 M) => ct_value (y := 1) hS ht (show i < pa_n S 0 by omega) (by decide)
    have hp : pa_sp 0 = 3 := rfl
    rw [hp] at v0 v1
    have t1 : tx_c S 0 (mm_wr M 25 i (nI (pa_x S 0 (i * 3 + 0)))) := ht.keep (q_wr_ne (by decide)) (q_wr_ne (by decide))
    have t2 : tx_c S 0 (mm_wr (mm_wr M 25 i (nI (pa_x S 0 (i * 3 + 0)))) 26 i (nI (pa_x S 0 (i * 3 + 1)))) := t1.keep (q_wr_ne (by decide)) (q_wr_ne (by decide))
    obtain ⟨M', e1, e2, e3, e4⟩ := rdP_L hS h8 f (i + 1) n _ (by omega) (by omega) t2 (by rw [q_wr_ne (by decide), q_wr_ne (by decide)]; exact h0)
    refine ⟨M', ?_, fun q a b => by rw [e2 q a b, q_wr_ne b, q_wr_ne a], fun j hj => ?_, fun j a b => ?_⟩
    · rw [fX5_readPeople_L15, h0, if_neg (by rw [nI_leI (by omega) (by omega)]; omega), q_lit 0, q_lit 1, v0 M ht, Option.bind_some, q_wa (by omega) (by omega), Option.bind_some, v1 _ t1, Option.bind_some, q_wa (by omega) (by omega), Option.bind_some, nI_add]
      exact e1
    · obtain ⟨a1, a2⟩ := e3 j (by omega)
      rw [a1, a2]
      simp (disch := omega) only [q_wr_ne, q_wr_n2, and_self]
    · by_cases c : j = i
      · obtain ⟨a1, a2⟩ := e3 i (by omega)
        rw [c, a1, a2, q_wr_eq, q_wr_ne (by decide), q_wr_eq, Nat.mul_comm 3 i]
        exact ⟨rfl, rfl⟩
      · exact e4 j (by omega) b
theorem rdP {S : md_T} {M : mm_M} (hS : S 0 0 ≤ pa_cap 0) (h8 : pa_n S 0 ≤ 8) (ht : tx_c S 0 M) : ∃ M', fX5_readPeople 24 2 M = some M' ∧ (∀ q, q < 24 ∨ 26 < q → M' q = M q) ∧ (∀ j, j ≠ 0 → M' 24 j = M 24 j) ∧ tp0 S M' := by
  have hc := pa_cap_le 0
  obtain ⟨M', e1, e2, e3, e4⟩ := rdP_L hS h8 (pa_n S 0) 0 1000 (mm_wr M 24 0 (nI (pa_n S 0))) (by omega) (by omega) (ht.keep (q_wr_ne (by decide)) (q_wr_ne (by decide))) q_wr_eq
  refine ⟨M', ?_, fun q hq => by rw [e2 q (by omega) (by omega), q_wr_ne (by omega)], fun j hj => by rw [e2 24 (by decide) (by decide), q_wr_n2 hj], by rw [e2 24 (by decide) (by decide), q_wr_eq], fun k hk => e4 k (by omega) hk⟩
  have q := ct_things (by omega) ht
  unfold fX5_readPeople
  rw [show (2 : Nat) = 2 + 2 * 0 from rfl, q, Option.bind_some, q_lit 8, q_min (by omega) (by omega), Nat.min_eq_left h8, q_pf, Option.bind_some]
  exact e1
theorem rdW_L {S : md_T} (hS : S 0 1 ≤ pa_cap 1) (h8 : pa_n S 1 ≤ 12) : ∀ f i n (M : mm_M), i + f = pa_n S 1 → f < n → tx_c S 1 M → M 24 3 = nI (pa_n S 1) → ∃ M', fX5_readWords_L15 24 4 n (nI i) M = some M' ∧ (∀ q, q ≠ 27 → q ≠ 28 → q ≠ 29 → M' q = M q) ∧ (∀ j, j < i → M' 27 j = M 27 j ∧ M' 28 j = M 28 j ∧ M' 29 j = M 29 j) ∧ ∀ j, i ≤ j → j < pa_n S 1 → M' 27 j = nI (pa_x S 1 (4 * j)) ∧ M' 28 j = nI (pa_x S 1 (4 * j + 1)) ∧ M' 29 j = nI (pa_x S 1 (4 * j + 2))
  | 0, i, n + 1, M, hi, hn, ht, h0 => ⟨M, by rw [fX5_readWords_L15, h0, if_pos (by rw [nI_leI (by omega) (by omega)]; omega)], fun _ _ _ _ => rfl, fun _ _ => ⟨rfl, rfl, rfl⟩, fun j a b => by omega⟩
  | f + 1, i, n + 1, M, hi, hn, ht, h0 => by
    have v0 := fun M (ht : tx_c S 1 M) => ct_value (y := 0) hS ht (show i < pa_n S 1 by omega) (by decide)
    have v1 := fun M (ht : tx_c S 1 M) => ct_value (y := 1) hS ht (show i < pa_n S 1 by omega) (by decide)
    have v2 := fun M (ht : tx_c S 1 M) => ct_value (y := 2) hS ht (show i < pa_n S 1 by omega) (by decide)
    have hp : pa_sp 1 = 4 := rfl
    rw [hp] at v0 v1 v2
    have t1 : tx_c S 1 (mm_wr M 27 i (nI (pa_x S 1 (i * 4 + 0)))) := ht.keep (q_wr_ne (by decide)) (q_wr_ne (by decide))
    have t2 : tx_c S 1 (mm_wr (mm_wr M 27 i (nI (pa_x S 1 (i * 4 + 0)))) 28 i (nI (pa_x S 1 (i * 4 + 1)))) := t1.keep (q_wr_ne (by decide)) (q_wr_ne (by decide))
    have t3 : tx_c S 1 (mm_wr (mm_wr (mm_wr M 27 i (nI (pa_x S 1 (i * 4 + 0)))) 28 i (nI (pa_x S 1 (i * 4 + 1)))) 29 i (nI (pa_x S 1 (i * 4 + 2)))) := t2.keep (q_wr_ne (by decide)) (q_wr_ne (by decide))
    obtain ⟨M', e1, e2, e3, e4⟩ := rdW_L hS h8 f (i + 1) n _ (by omega) (by omega) t3 (by rw [q_wr_ne (by decide), q_wr_ne (by decide), q_wr_ne (by decide)]; exact h0)
    refine ⟨M', ?_, fun q a b c => by rw [e2 q a b c, q_wr_ne c, q_wr_ne b, q_wr_ne a], fun j hj => ?_, fun j a b => ?_⟩
    · rw [fX5_readWords_L15, h0, if_neg (by rw [nI_leI (by omega) (by omega)]; omega), q_lit 0, q_lit 1, q_lit 2, v0 M ht, Option.bind_some, q_wa (by omega) (by omega), Option.bind_some, v1 _ t1, Option.bind_some, q_wa (by omega) (by omega), Option.bind_some, v2 _ t2, Option.bind_some, q_wa (by omega) (by omega), Option.bind_some, nI_add]
      exact e1
    · obtain ⟨a1, a2, a3⟩ := e3 j (by omega)
      rw [a1, a2, a3]
      simp (disch := omega) only [q_wr_ne, q_wr_n2, and_self]
    · by_cases c : j = i
      · obtain ⟨a1, a2, a3⟩ := e3 i (by omega)
        rw [c, a1, a2, a3, Nat.mul_comm 4 i]
        simp (disch := omega) only [q_wr_ne, q_wr_eq, Nat.add_zero, and_self]
      · exact e4 j (by omega) b
theorem rdW {S : md_T} {M : mm_M} (hS : S 0 1 ≤ pa_cap 1) (h8 : pa_n S 1 ≤ 12) (ht : tx_c S 1 M) : ∃ M', fX5_readWords 24 4 M = some M' ∧ (∀ q, q < 24 ∨ (24 < q ∧ q < 27) ∨ 29 < q → M' q = M q) ∧ (∀ j, j ≠ 3 → M' 24 j = M 24 j) ∧ tp1 S M' := by
  have hc := pa_cap_le 1
  obtain ⟨M', e1, e2, e3, e4⟩ := rdW_L hS h8 (pa_n S 1) 0 1000 (mm_wr M 24 3 (nI (pa_n S 1))) (by omega) (by omega) (ht.keep (q_wr_ne (by decide)) (q_wr_ne (by decide))) q_wr_eq
  refine ⟨M', ?_, fun q hq => by rw [e2 q (by omega) (by omega) (by omega), q_wr_ne (by omega)], fun j hj => by rw [e2 24 (by decide) (by decide) (by decide), q_wr_n2 hj], by rw [e2 24 (by decide) (by decide) (by decide), q_wr_eq], fun k hk => e4 k (by omega) hk⟩
  have q := ct_things (by omega) ht
  unfold fX5_readWords
  rw [show (4 : Nat) = 2 + 2 * 1 from rfl, q, Option.bind_some, q_lit 12, q_min (by omega) (by omega), Nat.min_eq_left h8, q_pf, Option.bind_some]
  exact e1
theorem q_addM {r n : Nat} {M : mm_M} {x y z : Int32} (h : M r 7 = nI n) (hn : n < 13) : fX5_addMeeting r x y z M = some (mm_wr (mm_wr (mm_wr (mm_wr M (r + 6) n x) (r + 7) n y) (r + 8) n z) r 7 (nI (n + 1))) := by
  unfold fX5_addMeeting
  rw [h, if_neg (by rw [q_lit 13, nI_leI (by omega) (by omega)]; omega)]
  simp (disch := omega) only [q_wa, Option.bind_some, q_wr_ne, h, q_pf, q_lit 1, nI_add]
theorem rdM_L {S : md_T} (hS : S 0 2 ≤ pa_cap 2) (h8 : pa_n S 2 ≤ 12) : ∀ f i n (M : mm_M), i + f = pa_n S 2 → f < n → tx_c S 2 M → M 24 7 = nI i → ∃ M', fX5_readMeetings_L17 24 6 (nI (pa_n S 2)) n (nI i) M = some M' ∧ (∀ q, q ≠ 24 → q ≠ 30 → q ≠ 31 → q ≠ 32 → M' q = M q) ∧ (∀ j, j ≠ 7 → M' 24 j = M 24 j) ∧ M' 24 7 = nI (pa_n S 2) ∧ (∀ j, j < i → M' 30 j = M 30 j ∧ M' 31 j = M 31 j ∧ M' 32 j = M 32 j) ∧ ∀ j, i ≤ j → j < pa_n S 2 → M' 30 j = nI (pa_x S 2 (4 * j)) ∧ M' 31 j = nI (pa_x S 2 (4 * j + 1)) ∧ M' 32 j = nI (pa_x S 2 (4 * j + 2))
  | 0, i, n + 1, M, hi, hn, ht, h0 => ⟨M, by rw [fX5_readMeetings_L17, if_pos (by rw [nI_leI (by omega) (by omega)]; omega)], fun _ _ _ _ _ => rfl, fun _ _ => rfl, by rw [h0, show i = pa_n S 2 by omega], fun _ _ => ⟨rfl, rfl, rfl⟩, fun j a b => by omega⟩
  | f + 1, i, n + 1, M, hi, hn, ht, h0 => by
    have v0 := ct_value (y := 0) hS ht (show i < pa_n S 2 by omega) (by decide)
    have v1 := ct_value (y := 1) hS ht (show i < pa_n S 2 by omega) (by decide)
    have v2 := ct_value (y := 2) hS ht (show i < pa_n S 2 by omega) (by decide)
    have hp : pa_sp 2 = 4 := rfl
    rw [hp] at v0 v1 v2
    have g := q_addM (r := 24) (x := nI (pa_x S 2 (i * 4 + 0))) (y := nI (pa_x S 2 (i * 4 + 1))) (z := nI (pa_x S 2 (i * 4 + 2))) h0 (by omega)
    have t3 : tx_c S 2 (mm_wr (mm_wr (mm_wr (mm_wr M (24 + 6) i (nI (pa_x S 2 (i * 4 + 0)))) (24 + 7) i (nI (pa_x S 2 (i * 4 + 1)))) (24 + 8) i (nI (pa_x S 2 (i * 4 + 2)))) 24 7 (nI (i + 1))) := by
      refine ht.keep ?_ ?_ <;> simp (disch := omega) only [q_wr_ne]
    obtain ⟨M', e1, e2, e3, e4, e5, e6⟩ := rdM_L hS h8 f (i + 1) n _ (by omega) (by omega) t3 q_wr_eq
    refine ⟨M', ?_, fun q a b c d => ?_, fun j hj => ?_, e4, fun j hj => ?_, fun j a b => ?_⟩
    · rw [fX5_readMeetings_L17, if_neg (by rw [nI_leI (by omega) (by omega)]; omega), q_lit 0, q_lit 1, q_lit 2, v0, Option.bind_some, v1, Option.bind_some, v2, Option.bind_some, g, Option.bind_some, nI_add]
      exact e1
    · rw [e2 q a b c d]
      simp (disch := omega) only [q_wr_ne]
    · rw [e3 j hj]
      simp (disch := omega) only [q_wr_ne, q_wr_n2]
    · obtain ⟨a1, a2, a3⟩ := e5 j (by omega)
      rw [a1, a2, a3]
      simp (disch := omega) only [q_wr_ne, q_wr_n2, and_self]
    · by_cases c : j = i
      · obtain ⟨a1, a2, a3⟩ := e5 i (by omega)
        rw [c, a1, a2, a3, Nat.mul_comm 4 i]
        simp (disch := omega) only [q_wr_ne, q_wr_eq, Nat.add_zero, and_self, Nat.reduceAdd]
      · exact e6 j (by omega) b
theorem rdM {S : md_T} {M : mm_M} (hS : S 0 2 ≤ pa_cap 2) (h8 : pa_n S 2 ≤ 12) (ht : tx_c S 2 M) : ∃ M', fX5_readMeetings 24 6 M = some M' ∧ (∀ q, q < 24 ∨ (24 < q ∧ q < 30) ∨ 32 < q → M' q = M q) ∧ (∀ j, j ≠ 7 → M' 24 j = M 24 j) ∧ tp2 S M' := by
  have hc := pa_cap_le 2
  obtain ⟨M', e1, e2, e3, e4, e5, e6⟩ := rdM_L hS h8 (pa_n S 2) 0 1000 (mm_wr M 24 7 (nI 0)) (by omega) (by omega) (ht.keep (q_wr_ne (by decide)) (q_wr_ne (by decide))) q_wr_eq
  refine ⟨M', ?_, fun q hq => by rw [e2 q (by omega) (by omega) (by omega) (by omega), q_wr_ne (by omega)], fun j hj => by rw [e3 j hj, q_wr_n2 hj], e4, fun k hk => e6 k (by omega) hk⟩
  have q := ct_things (by omega) ht
  unfold fX5_readMeetings
  rw [show (6 : Nat) = 2 + 2 * 2 from rfl, q, Option.bind_some, q_lit 12, q_min (by omega) (by omega), Nat.min_eq_left h8, q_pf, Option.bind_some]
  exact e1
