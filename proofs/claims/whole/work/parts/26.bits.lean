/-! bits of an int (the family bt is of the kit's BITS.to-paste) -/
def bt (x : Int32) (i : Nat) : Bool := x.toBitVec.getLsbD i
theorem b_ext {x y : Int32} (h : ∀ i, i < 32 → bt x i = bt y i) : x = y := Int32.toBitVec_inj.mp (BitVec.eq_of_getLsbD_eq (fun i hi => h i hi))
theorem b_or (x y : Int32) (i : Nat) : bt (x ||| y) i = (bt x i || bt y i) := by unfold bt; rw [Int32.toBitVec_or, BitVec.getLsbD_or]
theorem b_and (x y : Int32) (i : Nat) : bt (x &&& y) i = (bt x i && bt y i) := by unfold bt; rw [Int32.toBitVec_and, BitVec.getLsbD_and]
theorem b_xor (x y : Int32) (i : Nat) : bt (x ^^^ y) i = (bt x i ^^ bt y i) := by unfold bt; rw [Int32.toBitVec_xor, BitVec.getLsbD_xor]
theorem b_big {x : Int32} {i : Nat} (h : 32 ≤ i) : bt x i = false := BitVec.getLsbD_of_ge _ _ h
theorem b_255 (i : Nat) : bt 255 i = decide (i < 8) := by
  rcases Nat.lt_or_ge i 32 with h | h
  · exact (by decide +kernel : ∀ i, i < 32 → bt 255 i = decide (i < 8)) i h
  · rw [b_big h, decide_eq_false (by omega)]
theorem b_65535 (i : Nat) : bt 65535 i = decide (i < 16) := by
  rcases Nat.lt_or_ge i 32 with h | h
  · exact (by decide +kernel : ∀ i, i < 32 → bt 65535 i = decide (i < 16)) i h
  · rw [b_big h, decide_eq_false (by omega)]
theorem b_m1 : ∀ i, i < 32 → bt (-1) i = true := by decide +kernel
theorem b_0 (i : Nat) : bt 0 i = false := BitVec.getLsbD_zero
theorem s_l : ∀ n, n < 32 → ((nI n &&& 31).toBitVec.smod 32).toNat = n := by decide +kernel
theorem s_u : ∀ n, n < 32 → (((nI n).toUInt32 &&& Int32.toUInt32 31).toBitVec % 32).toNat = n := by decide +kernel
theorem b_shl (n : Nat) (hn : n < 32) (x : Int32) {i : Nat} (hi : i < 32) : bt (x <<< (nI n &&& 31)) i = (decide (n ≤ i) && bt x (i - n)) := by
  unfold bt
  rw [Int32.toBitVec_shiftLeft]
  show (x.toBitVec <<< ((nI n &&& 31).toBitVec.smod 32).toNat).getLsbD i = _
  rw [s_l n hn, BitVec.getLsbD_shiftLeft]
  rcases Nat.lt_or_ge i n with h | h
  · simp [h, Nat.not_le.mpr h]
  · simp [hi, h, Nat.not_lt.mpr h]
theorem b_ushr (n : Nat) (hn : n < 32) (x : Int32) (i : Nat) : bt ((x.toUInt32 >>> ((nI n).toUInt32 &&& Int32.toUInt32 31)).toInt32) i = bt x (n + i) := by
  show (x.toUInt32 >>> ((nI n).toUInt32 &&& Int32.toUInt32 31)).toBitVec.getLsbD i = x.toUInt32.toBitVec.getLsbD (n + i)
  rw [UInt32.toBitVec_shiftRight]
  show (x.toUInt32.toBitVec >>> (((nI n).toUInt32 &&& Int32.toUInt32 31).toBitVec % 32).toNat).getLsbD i = _
  rw [s_u n hn, BitVec.getLsbD_ushiftRight]
theorem b_sshr (n : Nat) (hn : n < 32) (x : Int32) {i : Nat} (hi : i < 32) : bt (x >>> (nI n &&& 31)) i = if n + i < 32 then bt x (n + i) else bt x 31 := by
  unfold bt
  rw [Int32.toBitVec_shiftRight]
  show (x.toBitVec.sshiftRight ((nI n &&& 31).toBitVec.smod 32).toNat).getLsbD i = _
  rw [s_l n hn, BitVec.getLsbD_sshiftRight, BitVec.msb_eq_getLsbD_last]
  simp [hi]
theorem q_bt1 : ∀ i, i < 32 → bt 1 i = decide (i = 0) := by decide +kernel
theorem q_b1 (y : Int32) : (y &&& 1) = 0 ↔ bt y 0 = false := by
  constructor
  · intro h
    have := congrArg (fun z => bt z 0) h
    simp only [b_and, b_0, q_bt1 0 (by omega)] at this
    simpa using this
  · intro h
    apply b_ext
    intro i hi
    rw [b_and, b_0, q_bt1 i hi]
    by_cases e : i = 0
    · subst e; rw [h]; rfl
    · simp [e]
theorem q_b2 (y : Int32) : (y &&& 1) = 1 ↔ bt y 0 = true := by
  constructor
  · intro h
    have := congrArg (fun z => bt z 0) h
    simp only [b_and, q_bt1 0 (by omega)] at this
    simpa using this
  · intro h
    apply b_ext
    intro i hi
    rw [b_and, q_bt1 i hi]
    by_cases e : i = 0
    · subst e; rw [h]; rfl
    · simp [e]
theorem q_bt {x : Int32} {k : Nat} (hk : k < 32) : ((x >>> (nI k &&& 31)) &&& 1) = 0 ↔ bt x k = false := by
  rw [q_b1, b_sshr k hk x (by omega), if_pos (by omega), Nat.add_zero]
theorem q_btT {x : Int32} {k : Nat} (hk : k < 32) : ((x >>> (nI k &&& 31)) &&& 1) = 1 ↔ bt x k = true := by
  rw [q_b2, b_sshr k hk x (by omega), if_pos (by omega), Nat.add_zero]
theorem q_isIn {x : Int32} {k : Nat} (hk : k < 32) : fX7_isIn x (nI k) = if bt x k = true then 1 else 0 := by
  unfold fX7_isIn
  simp only [q_btT hk]
theorem q_one {j k : Nat} (hj : j < 32) (hk : k < 32) : bt ((1 : Int32) <<< (nI j &&& 31)) k = decide (k = j) := by
  rw [b_shl j hj 1 hk]
  by_cases h : j ≤ k
  · rw [q_bt1 (k - j) (by omega)]
    by_cases e : k = j
    · simp [e]
    · simp [e, show ¬ k - j = 0 by omega]
  · simp [h, show ¬ k = j by omega]
theorem q_set {x : Int32} {j k : Nat} (hj : j < 32) (hk : k < 32) : bt (x ||| ((1 : Int32) <<< (nI j &&& 31))) k = (bt x k || decide (k = j)) := by
  rw [b_or, q_one hj hk]
theorem q_setne {x : Int32} {j : Nat} (hj : j < 32) : ¬ (x ||| ((1 : Int32) <<< (nI j &&& 31))) = 0 := by
  intro h
  have := congrArg (fun z => bt z j) h
  simp only [q_set hj hj, b_0] at this
  simp at this
theorem q_all : ∀ ne, ne < 9 → ∀ k, k < 32 → bt (((1 : Int32) <<< (nI ne &&& 31)) - 1) k = decide (k < ne) := by decide +kernel
theorem q_not {x : Int32} {k : Nat} (hk : k < 32) : bt (x ^^^ (-1)) k = !(bt x k) := by
  rw [b_xor, b_m1 k hk]
  cases bt x k <;> rfl
theorem q_btN {x : Int32} {k : Nat} (hk : k < 32) : ((x >>> (nI k &&& nI 31)) &&& nI 1) = nI 0 ↔ bt x k = false := q_bt hk
theorem q_setN {x : Int32} {j k : Nat} (hj : j < 32) (hk : k < 32) : bt (x ||| (nI 1 <<< (nI j &&& nI 31))) k = (bt x k || decide (k = j)) := q_set hj hk
theorem q_setneN {x : Int32} {j : Nat} (hj : j < 32) : ¬ (x ||| (nI 1 <<< (nI j &&& nI 31))) = nI 0 := q_setne hj
