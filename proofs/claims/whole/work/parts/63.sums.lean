/-! chance: longs, sums, lowest terms (wb_ and pf_ rows began as kit/laws/BITS) -/
theorem wb_tb (n : Nat) : (lN n).toBitVec = BitVec.ofNat 64 n := rfl
theorem wb_inj {a b : Int64} (h : a.toBitVec = b.toBitVec) : a = b := Int64.toBitVec_inj.mp h
theorem wb_lt2 {a b : Nat} (h : a < b) : 2 ^ a < 2 ^ b := Nat.pow_lt_pow_right (by decide) h
theorem wb_and {a b : Nat} (ha : a < 2 ^ 64) (hb : b < 2 ^ 64) : lN a &&& lN b = lN (a &&& b) := by
  apply wb_inj
  rw [Int64.toBitVec_and, wb_tb, wb_tb, wb_tb]
  apply BitVec.eq_of_toNat_eq
  rw [BitVec.toNat_and, BitVec.toNat_ofNat, BitVec.toNat_ofNat, BitVec.toNat_ofNat, Nat.mod_eq_of_lt ha, Nat.mod_eq_of_lt hb, Nat.mod_eq_of_lt (Nat.and_lt_two_pow _ hb)]
theorem wb_mask {n k : Nat} (hn : n < 2 ^ 64) (hk : k < 64) : lN n &&& lN (2 ^ k - 1) = lN (n % 2 ^ k) := by
  rw [wb_and hn (by have := wb_lt2 hk; omega), Nat.and_two_pow_sub_one_eq_mod]
theorem wb_a1 {n : Nat} (hn : n < 2 ^ 64) : lN n &&& 1 = lN (n % 2) := wb_mask (k := 1) hn (by decide)
theorem pf_lI {a : Nat} (h : a < 2 ^ 63) : (lN a).toInt = (a : Int) := lg_ofNat_toInt h
theorem pf_shr {a d : Nat} {D : Int64} (hD : (D.toBitVec.smod 64).toNat = d) (h : a < 2 ^ 62) : lN a >>> D = lN (a / 2 ^ d) := by
  have hd : a / 2 ^ d ≤ a := Nat.div_le_self _ _
  apply Int64.toInt_inj.mp
  have e : (lN a >>> D).toInt = (lN a).toInt >>> d := by
    rw [← hD]
    exact BitVec.toInt_sshiftRight ..
  rw [e, Int.shiftRight_eq_div_pow, pf_lI (by omega), pf_lI (by omega)]
  rfl
def sm_s (f : Nat → Nat) : Nat → Nat
  | 0 => 0
  | n + 1 => sm_s f n + f n
theorem sm_congr {f g : Nat → Nat} : ∀ n, (∀ i, i < n → f i = g i) → sm_s f n = sm_s g n
  | 0, _ => rfl
  | n + 1, h => by rw [sm_s, sm_s, sm_congr n (fun i hi => h i (by omega)), h n (by omega)]
theorem sm_add (f g : Nat → Nat) : ∀ n, sm_s (fun i => f i + g i) n = sm_s f n + sm_s g n
  | 0 => rfl
  | n + 1 => by rw [sm_s, sm_s, sm_s, sm_add f g n]; omega
theorem sm_zero : ∀ n, sm_s (fun _ => 0) n = 0
  | 0 => rfl
  | n + 1 => by rw [sm_s, sm_zero n]
theorem sm_left (f : Nat → Nat) : ∀ n, sm_s f (n + 1) = f 0 + sm_s (fun i => f (i + 1)) n
  | 0 => by simp [sm_s]
  | n + 1 => by rw [sm_s, sm_left f n, sm_s]; omega
theorem sm_rev (f : Nat → Nat) : ∀ n, sm_s (fun i => f (n - 1 - i)) n = sm_s f n
  | 0 => rfl
  | n + 1 => by
    rw [sm_left, sm_s, ← sm_rev f n]
    have e : sm_s (fun i => f (n + 1 - 1 - (i + 1))) n = sm_s (fun i => f (n - 1 - i)) n := sm_congr n (fun i _ => by congr 1; omega)
    rw [e]
    have e2 : f (n + 1 - 1 - 0) = f n := by congr 1
    omega
theorem sm_ind (v : Nat → Nat) (p : Nat) : ∀ n, sm_s (fun z => if z = p then v z else 0) n = if p < n then v p else 0
  | 0 => by rw [if_neg (by omega)]; rfl
  | n + 1 => by
    rw [sm_s, sm_ind v p n]
    by_cases c : n = p
    · subst c
      rw [if_neg (by omega), if_pos rfl, if_pos (by omega)]; omega
    · rw [if_neg c]
      by_cases c2 : p < n
      · rw [if_pos c2, if_pos (by omega)]; omega
      · rw [if_neg c2, if_neg (by omega)]
theorem sm_le {f : Nat → Nat} {B : Nat} (h : ∀ i, f i ≤ B) : ∀ n, sm_s f n ≤ n * B
  | 0 => by simp [sm_s]
  | n + 1 => by
    have := sm_le h n
    have := h n
    rw [sm_s, Nat.succ_mul]; omega
/-- lowest terms by halving -/
def ch_r (a b z : Nat) : Nat := if z = 0 then a / Nat.gcd a b else b / Nat.gcd a b
theorem hv_odd {a : Nat} (h : a % 2 = 1) (r : Nat) : Nat.gcd a (2 ^ r) = 1 := by
  have e : Nat.Coprime a 2 := by
    show Nat.gcd a 2 = 1
    rw [Nat.gcd_comm, Nat.gcd_rec, h]
    exact Nat.gcd_one_left 2
  exact Nat.Coprime.pow_right r e
theorem hv_J {z : Nat} {M : mm_M} {a b : Nat} (hz : z < 2) (h : Nat.gcd a b = 1) : fX6_chance_J166 (nI z) (lN a) (lN b) M = some (lN (ch_r a b z), M) := by
  unfold fX6_chance_J166 ch_r
  rw [h, Nat.div_one, Nat.div_one]
  rcases q_lt2 hz with e | e <;> subst e
  · rw [if_pos (show nI 0 = 0 from rfl), if_pos rfl]
  · rw [if_neg (show ¬ nI 1 = 0 by decide), if_neg (by decide)]
theorem hv_L {z k : Nat} {M : mm_M} (hz : z < 2) (hk : k ≤ 32) : ∀ r i n a, i + r = k → r < n → a < 2 ^ 62 → fX6_chance_L132 (nI z) (nI k) M n (lN a) (lN (2 ^ r)) (nI i) = some (lN (ch_r a (2 ^ r) z), M)
  | 0, i, n + 1, a, hi, hn, ha => by
    rw [fX6_chance_L132, if_pos (by rw [nI_leI (by omega) (by omega)]; omega)]
    exact hv_J hz (Nat.gcd_one_right a)
  | r + 1, i, n + 1, a, hi, hn, ha => by
    rw [fX6_chance_L132, if_neg (by rw [nI_leI (by omega) (by omega)]; omega), wb_a1 (by omega)]
    have hp : 2 ^ (r + 1) ≤ 2 ^ 32 := Nat.pow_le_pow_right (by decide) (by omega)
    have hp2 : 2 ^ (r + 1) = 2 * 2 ^ r := by rw [Nat.pow_succ]; omega
    by_cases c : a % 2 = 0
    · rw [if_pos ((q_cmp_eq _ _).mpr (by rw [c]; rfl)), pf_shr (d := 1) (by decide) ha, pf_shr (d := 1) (by decide) (by omega), nI_1]
      have e1 : 2 ^ (r + 1) / 2 ^ 1 = 2 ^ r := by rw [hp2]; omega
      rw [e1, hv_L hz hk r (i + 1) n (a / 2 ^ 1) (by omega) (by omega) (by omega)]
      congr 3
      have ea : a = 2 * (a / 2 ^ 1) := by omega
      have eg : Nat.gcd a (2 ^ (r + 1)) = 2 * Nat.gcd (a / 2 ^ 1) (2 ^ r) := by
        rw [hp2, ← Nat.gcd_mul_left, ← ea]
      unfold ch_r
      rw [eg, hp2]
      split
      · conv => rhs; rw [ea]
        rw [Nat.mul_div_mul_left _ _ (by decide), ← ea]
      · rw [Nat.mul_div_mul_left _ _ (by decide)]
    · rw [if_neg (fun h => by
        have h := (q_cmp_eq _ _).mp h
        rw [show a % 2 = 1 by omega] at h
        exact absurd h (by decide))]
      exact hv_J hz (hv_odd (by omega) (r + 1))
/-- lowest terms by Euclid -/
theorem eu_0 {x0 x2 z : Nat} (hz : z < 2) (h0 : x0 < 2 ^ 63) (h2 : x2 < 2 ^ 63) {n a : Nat} (ha : a < 2 ^ 63) (hp : 0 < a) : fX7_part_L6 (lN x0) (lN x2) (nI z) (n + 1) (lN a) (lN 0) = some (lN ((if z = 0 then x0 else x2) / a)) := by
  have na : ¬ lN a = 0 := fun h => by
    have h : lN a = lN 0 := h
    rw [pk_lEQ ha (by decide)] at h
    omega
  rw [fX7_part_L6, if_pos ((q_cmp_eq (lN 0) 0).mpr rfl)]
  unfold mm_ldv
  rw [if_neg na, if_neg na, pk_lDiv h0 hp ha, pk_lDiv h2 hp ha]
  rcases q_lt2 hz with e | e <;> subst e
  · rw [if_pos (show nI 0 = 0 from rfl), if_pos rfl]; rfl
  · rw [if_neg (show ¬ nI 1 = 0 by decide), if_neg (by decide)]; rfl
theorem eu_step {x0 x2 z : Nat} {n a b : Nat} (ha : a < 2 ^ 63) (hb : b < 2 ^ 63) (hp : 0 < b) : fX7_part_L6 (lN x0) (lN x2) (nI z) (n + 1) (lN a) (lN b) = fX7_part_L6 (lN x0) (lN x2) (nI z) n (lN b) (lN (a % b)) := by
  have nb : ¬ lN b = 0 := fun h => by
    have h : lN b = lN 0 := h
    rw [pk_lEQ hb (by decide)] at h
    omega
  rw [fX7_part_L6, if_neg (fun h => nb ((q_cmp_eq _ _).mp h))]
  unfold mm_lrm
  rw [if_neg nb, pk_lRem ha hp hb, Option.bind_some]
theorem eu_g (a b : Nat) : Nat.gcd a b = Nat.gcd b (a % b) := by
  rw [Nat.gcd_comm a b, Nat.gcd_rec b a, Nat.gcd_comm]
theorem eu_L {x0 x2 z : Nat} (hz : z < 2) (h0 : x0 < 2 ^ 63) (h2 : x2 < 2 ^ 63) : ∀ f n a b, b < 2 ^ f → 2 * f < n → a < 2 ^ 63 → b < 2 ^ 63 → 0 < a ∨ 0 < b → fX7_part_L6 (lN x0) (lN x2) (nI z) n (lN a) (lN b) = some (lN ((if z = 0 then x0 else x2) / Nat.gcd a b))
  | 0, n + 1, a, b, hb, hn, ha, hb2, hp => by
    have e : b = 0 := by omega
    subst e
    rw [eu_0 hz h0 h2 ha (by omega), Nat.gcd_zero_right]
  | f + 1, n + 2, a, b, hb, hn, ha, hb2, hp => by
    by_cases c : b = 0
    · subst c
      rw [eu_0 hz h0 h2 ha (by omega), Nat.gcd_zero_right]
    · have m1 : a % b < b := Nat.mod_lt a (by omega)
      rw [eu_step ha hb2 (by omega), eu_g a b]
      by_cases c2 : a % b = 0
      · rw [c2, eu_0 hz h0 h2 hb2 (by omega), Nat.gcd_zero_right]
      · have m2 : b % (a % b) < a % b := Nat.mod_lt b (by omega)
        have m3 : b % (a % b) ≤ b - a % b := by
          rw [Nat.mod_eq_sub_mod (show b ≥ a % b by omega)]
          exact Nat.mod_le _ _
        have m4 : 2 ^ (f + 1) = 2 * 2 ^ f := by rw [Nat.pow_succ]; omega
        rw [eu_step hb2 (by omega) (by omega), eu_g b (a % b)]
        exact eu_L hz h0 h2 f n (a % b) (b % (a % b)) (by omega) (by omega) (by omega) (by omega) (by omega)
theorem eu_part {a b z : Nat} (hz : z < 2) (ha : a < 2 ^ 63) (hb : b < 2 ^ 62) (hp : 0 < b) : fX7_part (lN a) (lN b) (nI z) = some (lN (ch_r a b z)) := by
  unfold fX7_part ch_r
  rw [eu_L hz ha (by omega) 62 1000 a b hb (by omega) ha (by omega) (Or.inr hp)]
  congr 2
  split <;> rfl
/-- powers -/
theorem pw_L {x e : Nat} (he : e < 2 ^ 31) : ∀ f i n p, i + f = e → f < n → fX6_power_L5 (lN x) (nI e) n (lN p) (nI i) = some (lN (p * x ^ f))
  | 0, i, n + 1, p, hi, hn => by rw [fX6_power_L5, if_pos (by rw [nI_leI (by omega) (by omega)]; omega), Nat.pow_zero, Nat.mul_one]
  | f + 1, i, n + 1, p, hi, hn => by
    rw [fX6_power_L5, if_neg (by rw [nI_leI (by omega) (by omega)]; omega), lN_mul, nI_1, pw_L he f (i + 1) n (p * x) (by omega) (by omega), Nat.mul_assoc, Nat.pow_succ, Nat.mul_comm x]
theorem pw_p {x e : Nat} (he : e < 1000) : fX6_power (lN x) (nI e) = some (lN (x ^ e)) := by
  unfold fX6_power
  have := pw_L (x := x) (e := e) (by omega) e 0 1000 1 (by omega) (by omega)
  rw [Nat.one_mul] at this
  exact this
/-- ones among the first bits -/
def pc_n (s : Nat) : Nat → Nat
  | 0 => 0
  | i + 1 => pc_n s i + (if bt (nI s) i = true then 1 else 0)
theorem pc_le (s : Nat) : ∀ i, pc_n s i ≤ i
  | 0 => Nat.le_refl _
  | i + 1 => by
    have := pc_le s i
    rw [pc_n]
    split <;> omega
theorem pc_bc : ∀ ne, ne < 9 → ∀ s, s < 2 ^ ne → fJ6_bitCount_0f7a4 (nI s) = nI (pc_n s ne) := by decide +kernel
theorem pc_bt : ∀ ne, ne < 9 → ∀ s, s < 2 ^ ne → ∀ i, i < ne → bt (nI (2 ^ ne - 1 - s)) i = !(bt (nI s) i) := by decide +kernel
theorem pc_rev : ∀ ne, ne < 9 → ∀ s, s < 2 ^ ne → pc_n (2 ^ ne - 1 - s) ne = ne - pc_n s ne := by decide +kernel
theorem pc_all : ∀ ne, ne < 9 → ((1 : Int32) <<< (nI ne &&& 31)) = nI (2 ^ ne) := by decide +kernel
theorem pc_long : ∀ ne, ne < 9 → (1 : Int64) <<< ((nI (4 * ne)).toInt64 &&& 63) = lN (2 ^ (4 * ne)) := by decide +kernel
theorem pc_2 {ne : Nat} (h : ne < 9) : 0 < 2 ^ ne ∧ 2 ^ ne ≤ 256 := ⟨Nat.pow_pos (by decide), Nat.pow_le_pow_right (n := 2) (by decide) (show ne ≤ 8 by omega)⟩
/-- the weight of a set of p echoes out of ne -/
def ch_g (c ne p : Nat) : Nat := c ^ p * (16 - c) ^ (ne - p)
theorem ch_g_le {c ne p : Nat} (hc : c ≤ 16) (hn : ne ≤ 8) (hp : p ≤ ne) : ch_g c ne p ≤ 4294967296 := by
  have h1 : c ^ p ≤ 16 ^ p := Nat.pow_le_pow_left hc p
  have h2 : (16 - c) ^ (ne - p) ≤ 16 ^ (ne - p) := Nat.pow_le_pow_left (by omega) _
  have h3 : ch_g c ne p ≤ 16 ^ p * 16 ^ (ne - p) := Nat.mul_le_mul h1 h2
  rw [← Nat.pow_add, show p + (ne - p) = ne by omega] at h3
  have h4 : (16 : Nat) ^ ne ≤ 16 ^ 8 := Nat.pow_le_pow_right (by decide) hn
  exact Nat.le_trans h3 (Nat.le_trans h4 (by decide))
def ch_A (S : md_T) (w m : Nat) : Prop := md_tr (pa_T S) (st_E S (fun i => bt (nI m) i)) 24 1 w = 1
def ch_h (S : md_T) (w c m : Nat) : Nat := if md_tr (pa_T S) (st_E S (fun i => bt (nI m) i)) 24 1 w = 1 then ch_g c (S 4 0) (pc_n m (S 4 0)) else 0
theorem od_le (S : md_T) (w z : Nat) : ∀ m, od_n S w z m ≤ m
  | 0 => Nat.le_refl _
  | m + 1 => by
    have := od_le S w z m
    rw [od_n]
    split <;> omega
theorem od_sum {S : md_T} {w c : Nat} (ho : st_o S) : ∀ m, m ≤ 2 ^ S 4 0 → sm_s (fun z => od_n S w z m * ch_g c (S 4 0) z) (S 4 0 + 1) = sm_s (ch_h S w c) m
  | 0, _ => by
    rw [sm_congr (g := fun _ => 0) _ (fun i _ => by rw [od_n, Nat.zero_mul]), sm_zero]; rfl
  | m + 1, hm => by
    have o4 := ho.2.1
    have ih := od_sum (w := w) (c := c) ho m (by omega)
    have hb := pc_bc (S 4 0) (by omega) m (by omega)
    have hp := pc_le m (S 4 0)
    rw [show sm_s (ch_h S w c) (m + 1) = sm_s (ch_h S w c) m + ch_h S w c m from rfl, ← ih]
    have e : ∀ z, z < S 4 0 + 1 → od_n S w z (m + 1) * ch_g c (S 4 0) z = od_n S w z m * ch_g c (S 4 0) z + (if z = pc_n m (S 4 0) then ch_h S w c m else 0) := by
      intro z hz
      rw [od_n, hb, Nat.add_mul]
      congr 1
      by_cases c1 : z = pc_n m (S 4 0)
      · rw [if_pos c1]
        unfold ch_h
        by_cases c2 : md_tr (pa_T S) (st_E S (fun i => bt (nI m) i)) 24 1 w = 1
        · rw [if_pos ⟨by rw [c1], c2⟩, if_pos c2, Nat.one_mul, c1]
        · rw [if_neg (fun q => c2 q.2), if_neg c2, Nat.zero_mul]
      · rw [if_neg c1, if_neg (fun q => c1 ((nI_eq (by omega) (by omega)).mp q.1).symm), Nat.zero_mul]
    rw [sm_congr _ e, sm_add, sm_ind (fun _ => ch_h S w c m), if_pos (by omega)]
theorem ch_h_le {S : md_T} {w c : Nat} (ho : st_o S) (hc : c ≤ 16) (m : Nat) : ch_h S w c m ≤ 4294967296 := by
  unfold ch_h
  split
  · exact ch_g_le hc ho.2.1 (pc_le _ _)
  · omega
theorem ch_le {S : md_T} {w c : Nat} (ho : st_o S) (hc : c ≤ 16) : sm_s (ch_h S w c) (2 ^ S 4 0) < 2 ^ 62 := by
  have h1 := sm_le (ch_h_le (w := w) ho hc) (2 ^ S 4 0)
  have h2 := (pc_2 (show S 4 0 < 9 by have := ho.2.1; omega)).2
  have h3 : 2 ^ S 4 0 * 4294967296 ≤ 256 * 4294967296 := Nat.mul_le_mul_right _ h2
  omega
/-- the same by what is gone -/
def ch_h2 (S : md_T) (w c s : Nat) : Nat := if md_tr (pa_T S) (st_E S (fun i => !(bt (nI s) i))) 24 1 w = 1 then c ^ (S 4 0 - pc_n s (S 4 0)) * (16 - c) ^ pc_n s (S 4 0) else 0
theorem ch_rev {S : md_T} {w c : Nat} (ho : st_o S) : sm_s (ch_h2 S w c) (2 ^ S 4 0) = sm_s (ch_h S w c) (2 ^ S 4 0) := by
  have o4 := ho.2.1
  rw [← sm_rev (ch_h S w c)]
  refine sm_congr _ (fun s hs => ?_)
  have e1 := pc_rev (S 4 0) (by omega) s hs
  have e2 : st_E S (fun i => bt (nI (2 ^ S 4 0 - 1 - s)) i) = st_E S (fun i => !(bt (nI s) i)) := st_E_congr (fun i hi => pc_bt (S 4 0) (by omega) s hs i hi)
  have hp := pc_le s (S 4 0)
  unfold ch_h ch_h2 ch_g
  rw [e1, e2, show S 4 0 - (S 4 0 - pc_n s (S 4 0)) = pc_n s (S 4 0) by omega]
