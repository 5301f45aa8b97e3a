theorem md_fold_add {σ : Type} (g : Nat → σ → σ) : ∀ f1 f2 i s, md_fold g (f1 + f2) i s = md_fold g f2 (i + f1) (md_fold g f1 i s)
  | 0, f2, i, s => by rw [Nat.zero_add]; rfl
  | f1 + 1, f2, i, s => by
    rw [show f1 + 1 + f2 = (f1 + f2) + 1 by omega, md_fold, md_fold_add g f1 f2 (i + 1), md_fold, show i + 1 + f1 = i + (f1 + 1) by omega]
theorem md_fold_id {σ : Type} (g : Nat → σ → σ) : ∀ f i s, (∀ j s, i ≤ j → j < i + f → g j s = s) → md_fold g f i s = s
  | 0, _, _, _ => rfl
  | f + 1, i, s, h => by
    rw [md_fold, h i s (by omega) (by omega)]
    exact md_fold_id g f (i + 1) s (fun j s a b => h j s (by omega) (by omega))
def me_v (S : md_T) (d a b : Nat) : Int32 := mq_owed (om_T (pa_T S) d a b) (st_A S)
def me_R (S : md_T) (d : Nat) (c : Nat) (s : Int32 × Int32) : Int32 × Int32 := if c % 8 ≤ c / 8 ∨ pa_T S 0 0 ≤ c % 8 then s else if s.2 ≤ me_v S d (c / 8) (c % 8) then s else (nI c, me_v S d (c / 8) (c % 8))
def me_C (S : md_T) (d a b : Nat) (s : Int32 × Int32 × Int32) : Int32 × Int32 × Int32 := if s.2.2 = -1 then (nI a, nI b, me_v S d a b) else if s.2.2 ≤ me_v S d a b then s else (nI a, nI b, me_v S d a b)
def me_D (S : md_T) (d a b : Nat) (s : Int32 × Int32 × Int32) : Int32 × Int32 × Int32 := if b ≤ a ∨ pa_T S 0 0 ≤ b then s else me_C S d a b s
def me_r (r : Int32 × Int32) (c : Int32 × Int32 × Int32) : Prop := (r = (-1, 999) ∧ c = (-1, -1, -1)) ∨ ∃ k v, k < 64 ∧ v ≤ 108 ∧ r = (nI k, nI v) ∧ c = (nI (k / 8), nI (k % 8), nI v)
theorem me_vb {S : md_T} (ho : st_o S) {d a b : Nat} (hd : d < 24) (ha : a < 8) (hb : b < 8) : ∃ v, v ≤ 108 ∧ me_v S d a b = nI v := owed_b (om_ok (st_ok ho) (pa_n2_le ho) hd ha hb)
theorem me_step {S : md_T} (ho : st_o S) {d a b : Nat} (hd : d < 24) (ha : a < 8) (hb : b < 8) {r : Int32 × Int32} {c : Int32 × Int32 × Int32} (h : me_r r c) : me_r (me_R S d (8 * a + b) r) (me_D S d a b c) := by
  obtain ⟨v, v1, v2⟩ := me_vb ho hd ha hb
  unfold me_R me_D me_C
  rw [show (8 * a + b) % 8 = b by omega, show (8 * a + b) / 8 = a by omega, v2]
  by_cases q : b ≤ a ∨ pa_T S 0 0 ≤ b
  · rw [if_pos q, if_pos q]; exact h
  · rw [if_neg q, if_neg q]
    rcases h with ⟨rfl, rfl⟩ | ⟨k, u, hk, hu, rfl, rfl⟩
    · rw [if_pos rfl, if_neg (show ¬ (999 : Int32) ≤ nI v by rw [q_lit 999, nI_leI (by omega) (by omega)]; omega)]
      exact Or.inr ⟨8 * a + b, v, by omega, v1, rfl, by rw [show (8 * a + b) / 8 = a by omega, show (8 * a + b) % 8 = b by omega]⟩
    · rw [if_neg (show ¬ nI u = -1 from q_m1 (by omega))]
      by_cases e : nI u ≤ nI v
      · rw [if_pos (show (nI k, nI u).2 ≤ nI v from e), if_pos (show (nI (k / 8), nI (k % 8), nI u).2.2 ≤ nI v from e)]
        exact Or.inr ⟨k, u, hk, hu, rfl, rfl⟩
      · rw [if_neg (show ¬ (nI k, nI u).2 ≤ nI v from e), if_neg (show ¬ (nI (k / 8), nI (k % 8), nI u).2.2 ≤ nI v from e)]
        exact Or.inr ⟨8 * a + b, v, by omega, v1, rfl, by rw [show (8 * a + b) / 8 = a by omega, show (8 * a + b) % 8 = b by omega]⟩
theorem me_in {S : md_T} (ho : st_o S) {d a : Nat} (hd : d < 24) (ha : a < 8) : ∀ f b r c, b + f = 8 → me_r r c → me_r (md_fold (me_R S d) f (8 * a + b) r) (md_fold (me_D S d a) f b c)
  | 0, _, _, _, _, h => h
  | f + 1, b, r, c, hb, h => by
    rw [md_fold, md_fold, show 8 * a + b + 1 = 8 * a + (b + 1) by omega]
    exact me_in ho hd ha f (b + 1) _ _ (by omega) (me_step ho hd ha (by omega) h)
theorem me_out {S : md_T} (ho : st_o S) {d : Nat} (hd : d < 24) : ∀ k a r c, a + k = 8 → me_r r c → me_r (md_fold (me_R S d) (8 * k) (8 * a) r) (md_fold (fun a s => md_fold (me_D S d a) 8 0 s) k a c)
  | 0, _, _, _, _, h => h
  | k + 1, a, r, c, hk, h => by
    rw [show 8 * (k + 1) = 8 + 8 * k by omega, md_fold_add, md_fold, show 8 * a + 8 = 8 * (a + 1) by omega]
    exact me_out ho hd k (a + 1) _ _ (by omega) (me_in ho hd (by omega) 8 0 r c (by omega) h)
theorem me_row {S : md_T} (ho : st_o S) {d a : Nat} (ha : a < pa_T S 0 0) (s : Int32 × Int32 × Int32) : md_fold (me_D S d a) 8 0 s = md_fold (me_C S d a) (pa_T S 0 0 - (a + 1)) (a + 1) s := by
  have o1 := (st_ok ho).1
  rw [show (8 : Nat) = (a + 1) + ((pa_T S 0 0 - (a + 1)) + (8 - pa_T S 0 0)) by omega, md_fold_add, md_fold_add, md_fold_id (me_D S d a) (a + 1) 0 s (fun j s _ hj => by unfold me_D; rw [if_pos (by omega)]), md_fold_id (me_D S d a) (8 - pa_T S 0 0) _ _ (fun j s hj _ => by unfold me_D; rw [if_pos (by omega)]), Nat.zero_add]
  exact md_fold_congr _ _ _ (fun j s x y => by unfold me_D; rw [if_neg (by omega)])
def me_cs (S : md_T) (d : Nat) : Int32 × Int32 × Int32 := md_fold (fun a s => md_fold (me_C S d a) (pa_T S 0 0 - (a + 1)) (a + 1) s) (pa_T S 0 0) 0 (-1, -1, -1)
def me_rs (S : md_T) (d : Nat) : Int32 × Int32 := md_fold (me_R S d) 64 0 (-1, 999)
theorem me_all {S : md_T} (ho : st_o S) {d : Nat} (hd : d < 24) : me_r (me_rs S d) (me_cs S d) := by
  have o1 := (st_ok ho).1
  have h := me_out ho hd 8 0 (-1, 999) (-1, -1, -1) (by omega) (Or.inl ⟨rfl, rfl⟩)
  have e : md_fold (fun a s => md_fold (me_D S d a) 8 0 s) 8 0 (-1, -1, -1) = me_cs S d := by
    unfold me_cs
    have e8 : md_fold (fun a s => md_fold (me_D S d a) 8 0 s) (pa_T S 0 0 + (8 - pa_T S 0 0)) 0 (-1, -1, -1) = md_fold (fun a s => md_fold (me_C S d a) (pa_T S 0 0 - (a + 1)) (a + 1) s) (pa_T S 0 0) 0 (-1, -1, -1) := by
      rw [md_fold_add, md_fold_id (fun a s => md_fold (me_D S d a) 8 0 s) (8 - pa_T S 0 0) _ _ (fun j s hj _ => md_fold_id _ _ _ _ (fun b s _ hb => by unfold me_D; rw [if_pos (by omega)]))]
      exact md_fold_congr _ _ _ (fun j s _ hj => me_row ho (by omega) s)
    rw [show pa_T S 0 0 + (8 - pa_T S 0 0) = 8 by omega] at e8
    exact e8
  rw [e] at h
  exact h
