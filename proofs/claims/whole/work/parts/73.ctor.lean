/-! CONSTRUCTORS: walked by a program (wip/whole/gen/mk_ctor.py) -/
def nv_rec {α β : Type} (g : Nat → α → β) : Nat → List α → List β
  | _, [] => []
  | k, a :: l => g k a :: nv_rec g (k + 1) l
theorem nv_idx {α β : Type} (g : Nat → α → β) : ∀ (l : List α) (k : Nat), l.mapIdx (fun i a => g (i + k) a) = nv_rec g k l
  | [], _ => rfl
  | a :: l, k => by
    rw [List.mapIdx_cons, nv_rec, ← nv_idx g l (k + 1), Nat.zero_add]
    congr 2
    funext i a
    congr 1
    omega
def nv_cell (ad : Nat → Nat) (cA : Nat → ClassId) (f : Nat → Int32) (d : mm_Ds) : va_E := match d with
  | .inl n => .inl (cA 0, n, .inl f)
  | .inr (.inl r) => .inl (cA r.2, r.1.length, .inr (.inr (.inr (.inr (fun j => (r.1[j]?).map ad)))))
  | .inr (.inr o) => .inr (o.1, nv_rec (mm_fv ad f) 0 o.2)
theorem nv_c (ad : Nat → Nat) (cA : Nat → ClassId) (f : Nat → Int32) (d : mm_Ds) : mm_cell ad cA f d = nv_cell ad cA f d := by
  match d with
  | .inl n => rfl
  | .inr (.inl r) => rfl
  | .inr (.inr o) =>
    show (.inr (o.1, o.2.mapIdx (mm_fv ad f)) : va_E) = .inr (o.1, nv_rec (mm_fv ad f) 0 o.2)
    rw [← nv_idx]
    rfl
theorem nv_w (Λ : mm_Ly) (ad : Nat → Nat) (cA : Nat → ClassId) (M : mm_M) : mm_w Λ ad cA M = nv_rec (fun k d => (ad k, nv_cell ad cA (M k) d)) 0 Λ := by
  rw [← nv_idx]
  unfold mm_w
  congr 1
  funext k d
  rw [nv_c]
  rfl
def nw_ad (td : Nat) (xs : List Nat) : Nat → Nat := fun k => if k = 1000 then td else xs.getD k 0
theorem nf_X0 : ∀ j, j < 4 → defaultValue (tyX0 j) = vp_V [.null, .null, .null, .int 0] j := by
  intro j hj
  rcases (show j = 0 ∨ j = 1 ∨ j = 2 ∨ j = 3 by omega) with rfl | rfl | rfl | rfl <;> rfl
theorem pF_X0_0 : nw_pF RX0 0 0 (.array .int) := ⟨RX0, TX0, 4, tyX0, rfl, tyX0_ok, nmX0, rfl, rfl, rfl⟩
theorem pF_X0_1 : nw_pF RX0 0 1 (.array .int) := ⟨RX0, TX0, 4, tyX0, rfl, tyX0_ok, nmX0, rfl, rfl, rfl⟩
theorem pF_X0_2 : nw_pF RX0 0 2 (.array .int) := ⟨RX0, TX0, 4, tyX0, rfl, tyX0_ok, nmX0, rfl, rfl, rfl⟩
theorem nf_X1 : ∀ j, j < 14 → defaultValue (tyX1 j) = vp_V [.int 0, .null, .null, .null, .null, .int 0, .null, .null, .null, .null, .null, .null, .null, .null] j := by
  intro j hj
  rcases (show j = 0 ∨ j = 1 ∨ j = 2 ∨ j = 3 ∨ j = 4 ∨ j = 5 ∨ j = 6 ∨ j = 7 ∨ j = 8 ∨ j = 9 ∨ j = 10 ∨ j = 11 ∨ j = 12 ∨ j = 13 by omega) with rfl | rfl | rfl | rfl | rfl | rfl | rfl | rfl | rfl | rfl | rfl | rfl | rfl | rfl <;> rfl
theorem pF_X1_1 : nw_pF RX1 1 1 (.array .int) := ⟨RX1, TX1, 14, tyX1, rfl, tyX1_ok, nmX1, rfl, rfl, rfl⟩
theorem pF_X1_2 : nw_pF RX1 1 2 (.array .int) := ⟨RX1, TX1, 14, tyX1, rfl, tyX1_ok, nmX1, rfl, rfl, rfl⟩
theorem pF_X1_3 : nw_pF RX1 1 3 (.array .int) := ⟨RX1, TX1, 14, tyX1, rfl, tyX1_ok, nmX1, rfl, rfl, rfl⟩
theorem pF_X1_4 : nw_pF RX1 1 4 (.array .int) := ⟨RX1, TX1, 14, tyX1, rfl, tyX1_ok, nmX1, rfl, rfl, rfl⟩
theorem pF_X1_6 : nw_pF RX1 1 6 (.array .int) := ⟨RX1, TX1, 14, tyX1, rfl, tyX1_ok, nmX1, rfl, rfl, rfl⟩
theorem pF_X1_7 : nw_pF RX1 1 7 (.array .int) := ⟨RX1, TX1, 14, tyX1, rfl, tyX1_ok, nmX1, rfl, rfl, rfl⟩
theorem pF_X1_8 : nw_pF RX1 1 8 (.array .int) := ⟨RX1, TX1, 14, tyX1, rfl, tyX1_ok, nmX1, rfl, rfl, rfl⟩
theorem pF_X1_9 : nw_pF RX1 1 9 (.array .int) := ⟨RX1, TX1, 14, tyX1, rfl, tyX1_ok, nmX1, rfl, rfl, rfl⟩
theorem pF_X1_10 : nw_pF RX1 1 10 (.array .int) := ⟨RX1, TX1, 14, tyX1, rfl, tyX1_ok, nmX1, rfl, rfl, rfl⟩
theorem pF_X1_11 : nw_pF RX1 1 11 (.array .int) := ⟨RX1, TX1, 14, tyX1, rfl, tyX1_ok, nmX1, rfl, rfl, rfl⟩
theorem pF_X1_12 : nw_pF RX1 1 12 (.array .int) := ⟨RX1, TX1, 14, tyX1, rfl, tyX1_ok, nmX1, rfl, rfl, rfl⟩
theorem pF_X1_13 : nw_pF RX1 1 13 (.array .int) := ⟨RX1, TX1, 14, tyX1, rfl, tyX1_ok, nmX1, rfl, rfl, rfl⟩
theorem nf_X2 : ∀ j, j < 3 → defaultValue (tyX2 j) = vp_V [.null, .null, .int 0] j := by
  intro j hj
  rcases (show j = 0 ∨ j = 1 ∨ j = 2 by omega) with rfl | rfl | rfl <;> rfl
theorem pF_X2_0 : nw_pF RX2 2 0 (.array .int) := ⟨RX2, TX2, 3, tyX2, rfl, tyX2_ok, nmX2, rfl, rfl, rfl⟩
theorem pF_X2_1 : nw_pF RX2 2 1 (.array .int) := ⟨RX2, TX2, 3, tyX2, rfl, tyX2_ok, nmX2, rfl, rfl, rfl⟩
theorem nf_X3 : ∀ j, j < 3 → defaultValue (tyX3 j) = vp_V [.null, .int 0, .int 0] j := by
  intro j hj
  rcases (show j = 0 ∨ j = 1 ∨ j = 2 by omega) with rfl | rfl | rfl <;> rfl
theorem pF_X3_0 : nw_pF RX3 3 0 (.array .int) := ⟨RX3, TX3, 3, tyX3, rfl, tyX3_ok, nmX3, rfl, rfl, rfl⟩
theorem nf_X4 : ∀ j, j < 5 → defaultValue (tyX4 j) = vp_V [.int 0, .int 0, .null, .int 0, .int 0] j := by
  intro j hj
  rcases (show j = 0 ∨ j = 1 ∨ j = 2 ∨ j = 3 ∨ j = 4 by omega) with rfl | rfl | rfl | rfl | rfl <;> rfl
theorem pF_X4_0 : nw_pF RX4 4 0 .int := ⟨RX4, TX4, 5, tyX4, rfl, tyX4_ok, nmX4, rfl, rfl, rfl⟩
theorem pF_X4_1 : nw_pF RX4 4 1 .int := ⟨RX4, TX4, 5, tyX4, rfl, tyX4_ok, nmX4, rfl, rfl, rfl⟩
theorem pF_X4_2 : nw_pF RX4 4 2 (.array .int) := ⟨RX4, TX4, 5, tyX4, rfl, tyX4_ok, nmX4, rfl, rfl, rfl⟩
theorem nf_X5 : ∀ j, j < 11 → defaultValue (tyX5 j) = vp_V [.int 0, .null, .null, .int 0, .null, .null, .null, .int 0, .null, .null, .null] j := by
  intro j hj
  rcases (show j = 0 ∨ j = 1 ∨ j = 2 ∨ j = 3 ∨ j = 4 ∨ j = 5 ∨ j = 6 ∨ j = 7 ∨ j = 8 ∨ j = 9 ∨ j = 10 by omega) with rfl | rfl | rfl | rfl | rfl | rfl | rfl | rfl | rfl | rfl | rfl <;> rfl
theorem pF_X5_1 : nw_pF RX5 5 1 (.array .int) := ⟨RX5, TX5, 11, tyX5, rfl, tyX5_ok, nmX5, rfl, rfl, rfl⟩
theorem pF_X5_2 : nw_pF RX5 5 2 (.array .int) := ⟨RX5, TX5, 11, tyX5, rfl, tyX5_ok, nmX5, rfl, rfl, rfl⟩
theorem pF_X5_4 : nw_pF RX5 5 4 (.array .int) := ⟨RX5, TX5, 11, tyX5, rfl, tyX5_ok, nmX5, rfl, rfl, rfl⟩
theorem pF_X5_5 : nw_pF RX5 5 5 (.array .int) := ⟨RX5, TX5, 11, tyX5, rfl, tyX5_ok, nmX5, rfl, rfl, rfl⟩
theorem pF_X5_6 : nw_pF RX5 5 6 (.array .int) := ⟨RX5, TX5, 11, tyX5, rfl, tyX5_ok, nmX5, rfl, rfl, rfl⟩
theorem pF_X5_8 : nw_pF RX5 5 8 (.array .int) := ⟨RX5, TX5, 11, tyX5, rfl, tyX5_ok, nmX5, rfl, rfl, rfl⟩
theorem pF_X5_9 : nw_pF RX5 5 9 (.array .int) := ⟨RX5, TX5, 11, tyX5, rfl, tyX5_ok, nmX5, rfl, rfl, rfl⟩
theorem pF_X5_10 : nw_pF RX5 5 10 (.array .int) := ⟨RX5, TX5, 11, tyX5, rfl, tyX5_ok, nmX5, rfl, rfl, rfl⟩
theorem nf_X6 : ∀ j, j < 13 → defaultValue (tyX6 j) = vp_V [.null, .null, .null, .null, .null, .null, .null, .null, .null, .null, .int 0, .int 0, .int 0] j := by
  intro j hj
  rcases (show j = 0 ∨ j = 1 ∨ j = 2 ∨ j = 3 ∨ j = 4 ∨ j = 5 ∨ j = 6 ∨ j = 7 ∨ j = 8 ∨ j = 9 ∨ j = 10 ∨ j = 11 ∨ j = 12 by omega) with rfl | rfl | rfl | rfl | rfl | rfl | rfl | rfl | rfl | rfl | rfl | rfl | rfl <;> rfl
theorem pF_X6_0 : nw_pF RX6 6 0 (.array (.object "WordsLent$Text")) := ⟨RX6, TX6, 13, tyX6, rfl, tyX6_ok, nmX6, rfl, rfl, rfl⟩
theorem pF_X6_1 : nw_pF RX6 6 1 (.object "WordsLent$Echoes") := ⟨RX6, TX6, 13, tyX6, rfl, tyX6_ok, nmX6, rfl, rfl, rfl⟩
theorem pF_X6_2 : nw_pF RX6 6 2 (.object "WordsLent$Counted") := ⟨RX6, TX6, 13, tyX6, rfl, tyX6_ok, nmX6, rfl, rfl, rfl⟩
theorem pF_X6_3 : nw_pF RX6 6 3 (.array (.object "WordsLent$Sheet")) := ⟨RX6, TX6, 13, tyX6, rfl, tyX6_ok, nmX6, rfl, rfl, rfl⟩
theorem pF_X6_4 : nw_pF RX6 6 4 (.object "WordsLent$Told") := ⟨RX6, TX6, 13, tyX6, rfl, tyX6_ok, nmX6, rfl, rfl, rfl⟩
theorem pF_X6_5 : nw_pF RX6 6 5 (.object "WordsLent$Course") := ⟨RX6, TX6, 13, tyX6, rfl, tyX6_ok, nmX6, rfl, rfl, rfl⟩
theorem pF_X6_6 : nw_pF RX6 6 6 (.object "WordsLent$Told") := ⟨RX6, TX6, 13, tyX6, rfl, tyX6_ok, nmX6, rfl, rfl, rfl⟩
theorem pF_X6_7 : nw_pF RX6 6 7 (.object "WordsLent$Course") := ⟨RX6, TX6, 13, tyX6, rfl, tyX6_ok, nmX6, rfl, rfl, rfl⟩
theorem pF_X6_8 : nw_pF RX6 6 8 (.array .int) := ⟨RX6, TX6, 13, tyX6, rfl, tyX6_ok, nmX6, rfl, rfl, rfl⟩
theorem pF_X6_9 : nw_pF RX6 6 9 (.array .int) := ⟨RX6, TX6, 13, tyX6, rfl, tyX6_ok, nmX6, rfl, rfl, rfl⟩
theorem nf_X7 : ∀ j, j < 31 → defaultValue (tyX7 j) = vp_V [.null, .null, .null, .null, .int 0, .null, .null, .int 0, .null, .int 0, .null, .int 0, .null, .int 0, .null, .int 0, .int 0, .int 0, .int 0, .null, .null, .null, .null, .null, .null, .null, .null, .int 0, .null, .null, .int 0] j := by
  intro j hj
  rcases (show j = 0 ∨ j = 1 ∨ j = 2 ∨ j = 3 ∨ j = 4 ∨ j = 5 ∨ j = 6 ∨ j = 7 ∨ j = 8 ∨ j = 9 ∨ j = 10 ∨ j = 11 ∨ j = 12 ∨ j = 13 ∨ j = 14 ∨ j = 15 ∨ j = 16 ∨ j = 17 ∨ j = 18 ∨ j = 19 ∨ j = 20 ∨ j = 21 ∨ j = 22 ∨ j = 23 ∨ j = 24 ∨ j = 25 ∨ j = 26 ∨ j = 27 ∨ j = 28 ∨ j = 29 ∨ j = 30 by omega) with rfl | rfl | rfl | rfl | rfl | rfl | rfl | rfl | rfl | rfl | rfl | rfl | rfl | rfl | rfl | rfl | rfl | rfl | rfl | rfl | rfl | rfl | rfl | rfl | rfl | rfl | rfl | rfl | rfl | rfl | rfl <;> rfl
theorem pF_X7_0 : nw_pF RX7 7 0 (.array .int) := ⟨RX7, TX7, 31, tyX7, rfl, tyX7_ok, nmX7, rfl, rfl, rfl⟩
theorem pF_X7_1 : nw_pF RX7 7 1 (.array .int) := ⟨RX7, TX7, 31, tyX7, rfl, tyX7_ok, nmX7, rfl, rfl, rfl⟩
theorem pF_X7_2 : nw_pF RX7 7 2 (.array .int) := ⟨RX7, TX7, 31, tyX7, rfl, tyX7_ok, nmX7, rfl, rfl, rfl⟩
theorem pF_X7_3 : nw_pF RX7 7 3 (.array .int) := ⟨RX7, TX7, 31, tyX7, rfl, tyX7_ok, nmX7, rfl, rfl, rfl⟩
theorem pF_X7_5 : nw_pF RX7 7 5 (.array .int) := ⟨RX7, TX7, 31, tyX7, rfl, tyX7_ok, nmX7, rfl, rfl, rfl⟩
theorem pF_X7_6 : nw_pF RX7 7 6 (.array .int) := ⟨RX7, TX7, 31, tyX7, rfl, tyX7_ok, nmX7, rfl, rfl, rfl⟩
theorem pF_X7_8 : nw_pF RX7 7 8 (.array .int) := ⟨RX7, TX7, 31, tyX7, rfl, tyX7_ok, nmX7, rfl, rfl, rfl⟩
theorem pF_X7_10 : nw_pF RX7 7 10 (.array .int) := ⟨RX7, TX7, 31, tyX7, rfl, tyX7_ok, nmX7, rfl, rfl, rfl⟩
theorem pF_X7_12 : nw_pF RX7 7 12 (.array .int) := ⟨RX7, TX7, 31, tyX7, rfl, tyX7_ok, nmX7, rfl, rfl, rfl⟩
theorem pF_X7_14 : nw_pF RX7 7 14 (.array .int) := ⟨RX7, TX7, 31, tyX7, rfl, tyX7_ok, nmX7, rfl, rfl, rfl⟩
theorem pF_X7_19 : nw_pF RX7 7 19 (.array .int) := ⟨RX7, TX7, 31, tyX7, rfl, tyX7_ok, nmX7, rfl, rfl, rfl⟩
theorem pF_X7_20 : nw_pF RX7 7 20 (.array .int) := ⟨RX7, TX7, 31, tyX7, rfl, tyX7_ok, nmX7, rfl, rfl, rfl⟩
theorem pF_X7_21 : nw_pF RX7 7 21 (.array .int) := ⟨RX7, TX7, 31, tyX7, rfl, tyX7_ok, nmX7, rfl, rfl, rfl⟩
theorem pF_X7_22 : nw_pF RX7 7 22 (.array .int) := ⟨RX7, TX7, 31, tyX7, rfl, tyX7_ok, nmX7, rfl, rfl, rfl⟩
theorem pF_X7_23 : nw_pF RX7 7 23 (.array .int) := ⟨RX7, TX7, 31, tyX7, rfl, tyX7_ok, nmX7, rfl, rfl, rfl⟩
theorem pF_X7_24 : nw_pF RX7 7 24 (.array .int) := ⟨RX7, TX7, 31, tyX7, rfl, tyX7_ok, nmX7, rfl, rfl, rfl⟩
theorem pF_X7_25 : nw_pF RX7 7 25 (.array .int) := ⟨RX7, TX7, 31, tyX7, rfl, tyX7_ok, nmX7, rfl, rfl, rfl⟩
theorem pF_X7_26 : nw_pF RX7 7 26 (.array .int) := ⟨RX7, TX7, 31, tyX7, rfl, tyX7_ok, nmX7, rfl, rfl, rfl⟩
theorem pF_X7_28 : nw_pF RX7 7 28 (.array .int) := ⟨RX7, TX7, 31, tyX7, rfl, tyX7_ok, nmX7, rfl, rfl, rfl⟩
theorem pF_X7_29 : nw_pF RX7 7 29 (.array .int) := ⟨RX7, TX7, 31, tyX7, rfl, tyX7_ok, nmX7, rfl, rfl, rfl⟩
def LL_X0 : mm_Ly := [.inr (.inr (0, [some 1, some 2, some 3, none])), .inl 8, .inl 8, .inl 8]
def LM_X0 : mm_M := fun _ _ => 0
def LL_X1 : mm_Ly := [.inr (.inr (1, [none, some 1, some 2, some 3, some 4, none, some 5, some 6, some 7, some 8, some 9, some 10, some 11, some 12])), .inl 12, .inl 12, .inl 8, .inl 8, .inl 24, .inl 24, .inl 24, .inl 13, .inl 288, .inl 288, .inl 192, .inl 8]
def LM_X1 : mm_M := fun _ _ => 0
def LL_X2 : mm_Ly := [.inr (.inr (2, [some 1, some 2, none])), .inl 8, .inl 8]
def LM_X2 : mm_M := fun _ _ => 0
def LL_X5 : mm_Ly := [.inr (.inr (5, [none, some 1, some 2, none, some 3, some 4, some 5, none, some 6, some 7, some 8])), .inl 8, .inl 8, .inl 12, .inl 12, .inl 12, .inl 13, .inl 13, .inl 13]
def LM_X5 : mm_M := fun _ _ => 0
def LL_X3 : mm_Ly := [.inr (.inr (3, [some 1, none, none])), .inl 60]
def LM_X3 : mm_M := fun k => match k with
  | 0 => fun j => match j with
    | 1 => -1
    | _ => 0
  | _ => fun _ => 0
def LL_X4_0 : mm_Ly := [.inr (.inr (4, [none, none, some 1, none, none])), .inl 23]
def LM_X4_0 : mm_M := fun k => match k with
  | 0 => fun j => match j with
    | 0 => 0
    | 1 => 3
    | 4 => -1
    | _ => 0
  | _ => fun _ => 0
def LL_X4_1 : mm_Ly := [.inr (.inr (4, [none, none, some 1, none, none])), .inl 47]
def LM_X4_1 : mm_M := fun k => match k with
  | 0 => fun j => match j with
    | 0 => 1
    | 1 => 4
    | 4 => -1
    | _ => 0
  | _ => fun _ => 0
def LL_X4_2 : mm_Ly := [.inr (.inr (4, [none, none, some 1, none, none])), .inl 47]
def LM_X4_2 : mm_M := fun k => match k with
  | 0 => fun j => match j with
    | 0 => 2
    | 1 => 4
    | 4 => -1
    | _ => 0
  | _ => fun _ => 0
set_option maxRecDepth 100000 in
set_option maxHeartbeats 4000000 in
theorem c_X0 : nw_E yX0_init cX0_init 1 0 [.null, .null, .null, .int 0] [] LL_X0 LM_X0 1 3 24 := by
  refine nw_E.of (own := RX0) (lv0 := fun q => [(0, .ref q)]) (by decide) rfl rfl (fun _ => rfl) (fun _ => Nat.le_of_ble_eq_true rfl) ?_
  intro p l e s m below meth c D cA q td A X hname hr hlk
  refine nw_aload X (q := 1) (z := 0) dX0_init_0 rfl rfl rfl ?_
  refine nw_obj X (q := 4) dX0_init_1 rfl mt_116 mt_86 mt_87 (Nat.le_of_ble_eq_true rfl) (Nat.le_of_ble_eq_true rfl) ?_
  refine nw_aload X (q := 5) (z := 0) dX0_init_4 rfl rfl rfl ?_
  refine nw_bipush X (q := 7) (v := 8) dX0_init_5 rfl (by decide) ?_
  refine nw_newa X (q := 9) (N := 8) (ce' := 1) (sl' := 8) dX0_init_7 rfl mt_110 (by decide) (by decide) (Nat.le_of_ble_eq_true rfl) (Nat.le_of_ble_eq_true rfl) (Nat.le_of_ble_eq_true rfl) rfl rfl (fun q1 => ?_)
  refine nw_putF X hname (q := 12) (q0 := 0) (fs := [.null, .null, .null, .int 0]) (ws' := [(q, .inr (0, [.ref q1, .null, .null, .int 0])), (q1, .inl (cA 0, 8, .inl (fun _ => 0)))]) dX0_init_9 rfl fd_X0_9 pF_X0_0 rfl (Nat.le_of_ble_eq_true rfl) rfl rfl rfl ?_
  refine nw_aload X (q := 13) (z := 0) dX0_init_12 rfl rfl rfl ?_
  refine nw_bipush X (q := 15) (v := 8) dX0_init_13 rfl (by decide) ?_
  refine nw_newa X (q := 17) (N := 8) (ce' := 2) (sl' := 16) dX0_init_15 rfl mt_110 (by decide) (by decide) (Nat.le_of_ble_eq_true rfl) (Nat.le_of_ble_eq_true rfl) (Nat.le_of_ble_eq_true rfl) rfl rfl (fun q2 => ?_)
  refine nw_putF X hname (q := 20) (q0 := 0) (fs := [.ref q1, .null, .null, .int 0]) (ws' := [(q, .inr (0, [.ref q1, .ref q2, .null, .int 0])), (q1, .inl (cA 0, 8, .inl (fun _ => 0))), (q2, .inl (cA 0, 8, .inl (fun _ => 0)))]) dX0_init_17 rfl fd_X0_15 pF_X0_1 rfl (Nat.le_of_ble_eq_true rfl) rfl rfl rfl ?_
  refine nw_aload X (q := 21) (z := 0) dX0_init_20 rfl rfl rfl ?_
  refine nw_bipush X (q := 23) (v := 8) dX0_init_21 rfl (by decide) ?_
  refine nw_newa X (q := 25) (N := 8) (ce' := 3) (sl' := 24) dX0_init_23 rfl mt_110 (by decide) (by decide) (Nat.le_of_ble_eq_true rfl) (Nat.le_of_ble_eq_true rfl) (Nat.le_of_ble_eq_true rfl) rfl rfl (fun q3 => ?_)
  refine nw_putF X hname (q := 28) (q0 := 0) (fs := [.ref q1, .ref q2, .null, .int 0]) (ws' := [(q, .inr (0, [.ref q1, .ref q2, .ref q3, .int 0])), (q1, .inl (cA 0, 8, .inl (fun _ => 0))), (q2, .inl (cA 0, 8, .inl (fun _ => 0))), (q3, .inl (cA 0, 8, .inl (fun _ => 0)))]) dX0_init_25 rfl fd_X0_18 pF_X0_2 rfl (Nat.le_of_ble_eq_true rfl) rfl rfl rfl ?_
  exact nw_vret X hr hlk (ad := nw_ad td [q, q1, q2, q3]) ⟨rfl, rfl⟩ (by rw [nv_w]; rfl) dX0_init_28
set_option maxRecDepth 100000 in
set_option maxHeartbeats 4000000 in
theorem c_X1 : nw_E yX1_init cX1_init 1 1 [.int 0, .null, .null, .null, .null, .int 0, .null, .null, .null, .null, .null, .null, .null, .null] [] LL_X1 LM_X1 1 12 901 := by
  refine nw_E.of (own := RX1) (lv0 := fun q => [(0, .ref q)]) (by decide) rfl rfl (fun _ => rfl) (fun _ => Nat.le_of_ble_eq_true rfl) ?_
  intro p l e s m below meth c D cA q td A X hname hr hlk
  refine nw_aload X (q := 1) (z := 0) dX1_init_0 rfl rfl rfl ?_
  refine nw_obj X (q := 4) dX1_init_1 rfl mt_200 mt_86 mt_87 (Nat.le_of_ble_eq_true rfl) (Nat.le_of_ble_eq_true rfl) ?_
  refine nw_aload X (q := 5) (z := 0) dX1_init_4 rfl rfl rfl ?_
  refine nw_bipush X (q := 7) (v := 12) dX1_init_5 rfl (by decide) ?_
  refine nw_newa X (q := 9) (N := 12) (ce' := 1) (sl' := 12) dX1_init_7 rfl mt_110 (by decide) (by decide) (Nat.le_of_ble_eq_true rfl) (Nat.le_of_ble_eq_true rfl) (Nat.le_of_ble_eq_true rfl) rfl rfl (fun q1 => ?_)
  refine nw_putF X hname (q := 12) (q0 := 0) (fs := [.int 0, .null, .null, .null, .null, .int 0, .null, .null, .null, .null, .null, .null, .null, .null]) (ws' := [(q, .inr (1, [.int 0, .ref q1, .null, .null, .null, .int 0, .null, .null, .null, .null, .null, .null, .null, .null])), (q1, .inl (cA 0, 12, .inl (fun _ => 0)))]) dX1_init_9 rfl fd_X1_9 pF_X1_1 rfl (Nat.le_of_ble_eq_true rfl) rfl rfl rfl ?_
  refine nw_aload X (q := 13) (z := 0) dX1_init_12 rfl rfl rfl ?_
  refine nw_bipush X (q := 15) (v := 12) dX1_init_13 rfl (by decide) ?_
  refine nw_newa X (q := 17) (N := 12) (ce' := 2) (sl' := 24) dX1_init_15 rfl mt_110 (by decide) (by decide) (Nat.le_of_ble_eq_true rfl) (Nat.le_of_ble_eq_true rfl) (Nat.le_of_ble_eq_true rfl) rfl rfl (fun q2 => ?_)
  refine nw_putF X hname (q := 20) (q0 := 0) (fs := [.int 0, .ref q1, .null, .null, .null, .int 0, .null, .null, .null, .null, .null, .null, .null, .null]) (ws' := [(q, .inr (1, [.int 0, .ref q1, .ref q2, .null, .null, .int 0, .null, .null, .null, .null, .null, .null, .null, .null])), (q1, .inl (cA 0, 12, .inl (fun _ => 0))), (q2, .inl (cA 0, 12, .inl (fun _ => 0)))]) dX1_init_17 rfl fd_X1_15 pF_X1_2 rfl (Nat.le_of_ble_eq_true rfl) rfl rfl rfl ?_
  refine nw_aload X (q := 21) (z := 0) dX1_init_20 rfl rfl rfl ?_
  refine nw_bipush X (q := 23) (v := 8) dX1_init_21 rfl (by decide) ?_
  refine nw_newa X (q := 25) (N := 8) (ce' := 3) (sl' := 32) dX1_init_23 rfl mt_110 (by decide) (by decide) (Nat.le_of_ble_eq_true rfl) (Nat.le_of_ble_eq_true rfl) (Nat.le_of_ble_eq_true rfl) rfl rfl (fun q3 => ?_)
  refine nw_putF X hname (q := 28) (q0 := 0) (fs := [.int 0, .ref q1, .ref q2, .null, .null, .int 0, .null, .null, .null, .null, .null, .null, .null, .null]) (ws' := [(q, .inr (1, [.int 0, .ref q1, .ref q2, .ref q3, .null, .int 0, .null, .null, .null, .null, .null, .null, .null, .null])), (q1, .inl (cA 0, 12, .inl (fun _ => 0))), (q2, .inl (cA 0, 12, .inl (fun _ => 0))), (q3, .inl (cA 0, 8, .inl (fun _ => 0)))]) dX1_init_25 rfl fd_X1_18 pF_X1_3 rfl (Nat.le_of_ble_eq_true rfl) rfl rfl rfl ?_
  refine nw_aload X (q := 29) (z := 0) dX1_init_28 rfl rfl rfl ?_
  refine nw_bipush X (q := 31) (v := 8) dX1_init_29 rfl (by decide) ?_
  refine nw_newa X (q := 33) (N := 8) (ce' := 4) (sl' := 40) dX1_init_31 rfl mt_110 (by decide) (by decide) (Nat.le_of_ble_eq_true rfl) (Nat.le_of_ble_eq_true rfl) (Nat.le_of_ble_eq_true rfl) rfl rfl (fun q4 => ?_)
  refine nw_putF X hname (q := 36) (q0 := 0) (fs := [.int 0, .ref q1, .ref q2, .ref q3, .null, .int 0, .null, .null, .null, .null, .null, .null, .null, .null]) (ws' := [(q, .inr (1, [.int 0, .ref q1, .ref q2, .ref q3, .ref q4, .int 0, .null, .null, .null, .null, .null, .null, .null, .null])), (q1, .inl (cA 0, 12, .inl (fun _ => 0))), (q2, .inl (cA 0, 12, .inl (fun _ => 0))), (q3, .inl (cA 0, 8, .inl (fun _ => 0))), (q4, .inl (cA 0, 8, .inl (fun _ => 0)))]) dX1_init_33 rfl fd_X1_21 pF_X1_4 rfl (Nat.le_of_ble_eq_true rfl) rfl rfl rfl ?_
  refine nw_aload X (q := 37) (z := 0) dX1_init_36 rfl rfl rfl ?_
  refine nw_bipush X (q := 39) (v := 24) dX1_init_37 rfl (by decide) ?_
  refine nw_newa X (q := 41) (N := 24) (ce' := 5) (sl' := 64) dX1_init_39 rfl mt_110 (by decide) (by decide) (Nat.le_of_ble_eq_true rfl) (Nat.le_of_ble_eq_true rfl) (Nat.le_of_ble_eq_true rfl) rfl rfl (fun q5 => ?_)
  refine nw_putF X hname (q := 44) (q0 := 0) (fs := [.int 0, .ref q1, .ref q2, .ref q3, .ref q4, .int 0, .null, .null, .null, .null, .null, .null, .null, .null]) (ws' := [(q, .inr (1, [.int 0, .ref q1, .ref q2, .ref q3, .ref q4, .int 0, .ref q5, .null, .null, .null, .null, .null, .null, .null])), (q1, .inl (cA 0, 12, .inl (fun _ => 0))), (q2, .inl (cA 0, 12, .inl (fun _ => 0))), (q3, .inl (cA 0, 8, .inl (fun _ => 0))), (q4, .inl (cA 0, 8, .inl (fun _ => 0))), (q5, .inl (cA 0, 24, .inl (fun _ => 0)))]) dX1_init_41 rfl fd_X1_24 pF_X1_6 rfl (Nat.le_of_ble_eq_true rfl) rfl rfl rfl ?_
  refine nw_aload X (q := 45) (z := 0) dX1_init_44 rfl rfl rfl ?_
  refine nw_bipush X (q := 47) (v := 24) dX1_init_45 rfl (by decide) ?_
  refine nw_newa X (q := 49) (N := 24) (ce' := 6) (sl' := 88) dX1_init_47 rfl mt_110 (by decide) (by decide) (Nat.le_of_ble_eq_true rfl) (Nat.le_of_ble_eq_true rfl) (Nat.le_of_ble_eq_true rfl) rfl rfl (fun q6 => ?_)
  refine nw_putF X hname (q := 52) (q0 := 0) (fs := [.int 0, .ref q1, .ref q2, .ref q3, .ref q4, .int 0, .ref q5, .null, .null, .null, .null, .null, .null, .null]) (ws' := [(q, .inr (1, [.int 0, .ref q1, .ref q2, .ref q3, .ref q4, .int 0, .ref q5, .ref q6, .null, .null, .null, .null, .null, .null])), (q1, .inl (cA 0, 12, .inl (fun _ => 0))), (q2, .inl (cA 0, 12, .inl (fun _ => 0))), (q3, .inl (cA 0, 8, .inl (fun _ => 0))), (q4, .inl (cA 0, 8, .inl (fun _ => 0))), (q5, .inl (cA 0, 24, .inl (fun _ => 0))), (q6, .inl (cA 0, 24, .inl (fun _ => 0)))]) dX1_init_49 rfl fd_X1_27 pF_X1_7 rfl (Nat.le_of_ble_eq_true rfl) rfl rfl rfl ?_
  refine nw_aload X (q := 53) (z := 0) dX1_init_52 rfl rfl rfl ?_
  refine nw_bipush X (q := 55) (v := 24) dX1_init_53 rfl (by decide) ?_
  refine nw_newa X (q := 57) (N := 24) (ce' := 7) (sl' := 112) dX1_init_55 rfl mt_110 (by decide) (by decide) (Nat.le_of_ble_eq_true rfl) (Nat.le_of_ble_eq_true rfl) (Nat.le_of_ble_eq_true rfl) rfl rfl (fun q7 => ?_)
  refine nw_putF X hname (q := 60) (q0 := 0) (fs := [.int 0, .ref q1, .ref q2, .ref q3, .ref q4, .int 0, .ref q5, .ref q6, .null, .null, .null, .null, .null, .null]) (ws' := [(q, .inr (1, [.int 0, .ref q1, .ref q2, .ref q3, .ref q4, .int 0, .ref q5, .ref q6, .ref q7, .null, .null, .null, .null, .null])), (q1, .inl (cA 0, 12, .inl (fun _ => 0))), (q2, .inl (cA 0, 12, .inl (fun _ => 0))), (q3, .inl (cA 0, 8, .inl (fun _ => 0))), (q4, .inl (cA 0, 8, .inl (fun _ => 0))), (q5, .inl (cA 0, 24, .inl (fun _ => 0))), (q6, .inl (cA 0, 24, .inl (fun _ => 0))), (q7, .inl (cA 0, 24, .inl (fun _ => 0)))]) dX1_init_57 rfl fd_X1_30 pF_X1_8 rfl (Nat.le_of_ble_eq_true rfl) rfl rfl rfl ?_
  refine nw_aload X (q := 61) (z := 0) dX1_init_60 rfl rfl rfl ?_
  refine nw_bipush X (q := 63) (v := 13) dX1_init_61 rfl (by decide) ?_
  refine nw_newa X (q := 65) (N := 13) (ce' := 8) (sl' := 125) dX1_init_63 rfl mt_110 (by decide) (by decide) (Nat.le_of_ble_eq_true rfl) (Nat.le_of_ble_eq_true rfl) (Nat.le_of_ble_eq_true rfl) rfl rfl (fun q8 => ?_)
  refine nw_putF X hname (q := 68) (q0 := 0) (fs := [.int 0, .ref q1, .ref q2, .ref q3, .ref q4, .int 0, .ref q5, .ref q6, .ref q7, .null, .null, .null, .null, .null]) (ws' := [(q, .inr (1, [.int 0, .ref q1, .ref q2, .ref q3, .ref q4, .int 0, .ref q5, .ref q6, .ref q7, .ref q8, .null, .null, .null, .null])), (q1, .inl (cA 0, 12, .inl (fun _ => 0))), (q2, .inl (cA 0, 12, .inl (fun _ => 0))), (q3, .inl (cA 0, 8, .inl (fun _ => 0))), (q4, .inl (cA 0, 8, .inl (fun _ => 0))), (q5, .inl (cA 0, 24, .inl (fun _ => 0))), (q6, .inl (cA 0, 24, .inl (fun _ => 0))), (q7, .inl (cA 0, 24, .inl (fun _ => 0))), (q8, .inl (cA 0, 13, .inl (fun _ => 0)))]) dX1_init_65 rfl fd_X1_33 pF_X1_9 rfl (Nat.le_of_ble_eq_true rfl) rfl rfl rfl ?_
  refine nw_aload X (q := 69) (z := 0) dX1_init_68 rfl rfl rfl ?_
  refine nw_sipush X (q := 72) (v := 288) dX1_init_69 rfl (by decide) ?_
  refine nw_newa X (q := 74) (N := 288) (ce' := 9) (sl' := 413) dX1_init_72 rfl mt_110 (by decide) (by decide) (Nat.le_of_ble_eq_true rfl) (Nat.le_of_ble_eq_true rfl) (Nat.le_of_ble_eq_true rfl) rfl rfl (fun q9 => ?_)
  refine nw_putF X hname (q := 77) (q0 := 0) (fs := [.int 0, .ref q1, .ref q2, .ref q3, .ref q4, .int 0, .ref q5, .ref q6, .ref q7, .ref q8, .null, .null, .null, .null]) (ws' := [(q, .inr (1, [.int 0, .ref q1, .ref q2, .ref q3, .ref q4, .int 0, .ref q5, .ref q6, .ref q7, .ref q8, .ref q9, .null, .null, .null])), (q1, .inl (cA 0, 12, .inl (fun _ => 0))), (q2, .inl (cA 0, 12, .inl (fun _ => 0))), (q3, .inl (cA 0, 8, .inl (fun _ => 0))), (q4, .inl (cA 0, 8, .inl (fun _ => 0))), (q5, .inl (cA 0, 24, .inl (fun _ => 0))), (q6, .inl (cA 0, 24, .inl (fun _ => 0))), (q7, .inl (cA 0, 24, .inl (fun _ => 0))), (q8, .inl (cA 0, 13, .inl (fun _ => 0))), (q9, .inl (cA 0, 288, .inl (fun _ => 0)))]) dX1_init_74 rfl fd_X1_36 pF_X1_10 rfl (Nat.le_of_ble_eq_true rfl) rfl rfl rfl ?_
  refine nw_aload X (q := 78) (z := 0) dX1_init_77 rfl rfl rfl ?_
  refine nw_sipush X (q := 81) (v := 288) dX1_init_78 rfl (by decide) ?_
  refine nw_newa X (q := 83) (N := 288) (ce' := 10) (sl' := 701) dX1_init_81 rfl mt_110 (by decide) (by decide) (Nat.le_of_ble_eq_true rfl) (Nat.le_of_ble_eq_true rfl) (Nat.le_of_ble_eq_true rfl) rfl rfl (fun q10 => ?_)
  refine nw_putF X hname (q := 86) (q0 := 0) (fs := [.int 0, .ref q1, .ref q2, .ref q3, .ref q4, .int 0, .ref q5, .ref q6, .ref q7, .ref q8, .ref q9, .null, .null, .null]) (ws' := [(q, .inr (1, [.int 0, .ref q1, .ref q2, .ref q3, .ref q4, .int 0, .ref q5, .ref q6, .ref q7, .ref q8, .ref q9, .ref q10, .null, .null])), (q1, .inl (cA 0, 12, .inl (fun _ => 0))), (q2, .inl (cA 0, 12, .inl (fun _ => 0))), (q3, .inl (cA 0, 8, .inl (fun _ => 0))), (q4, .inl (cA 0, 8, .inl (fun _ => 0))), (q5, .inl (cA 0, 24, .inl (fun _ => 0))), (q6, .inl (cA 0, 24, .inl (fun _ => 0))), (q7, .inl (cA 0, 24, .inl (fun _ => 0))), (q8, .inl (cA 0, 13, .inl (fun _ => 0))), (q9, .inl (cA 0, 288, .inl (fun _ => 0))), (q10, .inl (cA 0, 288, .inl (fun _ => 0)))]) dX1_init_83 rfl fd_X1_39 pF_X1_11 rfl (Nat.le_of_ble_eq_true rfl) rfl rfl rfl ?_
  refine nw_aload X (q := 87) (z := 0) dX1_init_86 rfl rfl rfl ?_
  refine nw_sipush X (q := 90) (v := 192) dX1_init_87 rfl (by decide) ?_
  refine nw_newa X (q := 92) (N := 192) (ce' := 11) (sl' := 893) dX1_init_90 rfl mt_110 (by decide) (by decide) (Nat.le_of_ble_eq_true rfl) (Nat.le_of_ble_eq_true rfl) (Nat.le_of_ble_eq_true rfl) rfl rfl (fun q11 => ?_)
  refine nw_putF X hname (q := 95) (q0 := 0) (fs := [.int 0, .ref q1, .ref q2, .ref q3, .ref q4, .int 0, .ref q5, .ref q6, .ref q7, .ref q8, .ref q9, .ref q10, .null, .null]) (ws' := [(q, .inr (1, [.int 0, .ref q1, .ref q2, .ref q3, .ref q4, .int 0, .ref q5, .ref q6, .ref q7, .ref q8, .ref q9, .ref q10, .ref q11, .null])), (q1, .inl (cA 0, 12, .inl (fun _ => 0))), (q2, .inl (cA 0, 12, .inl (fun _ => 0))), (q3, .inl (cA 0, 8, .inl (fun _ => 0))), (q4, .inl (cA 0, 8, .inl (fun _ => 0))), (q5, .inl (cA 0, 24, .inl (fun _ => 0))), (q6, .inl (cA 0, 24, .inl (fun _ => 0))), (q7, .inl (cA 0, 24, .inl (fun _ => 0))), (q8, .inl (cA 0, 13, .inl (fun _ => 0))), (q9, .inl (cA 0, 288, .inl (fun _ => 0))), (q10, .inl (cA 0, 288, .inl (fun _ => 0))), (q11, .inl (cA 0, 192, .inl (fun _ => 0)))]) dX1_init_92 rfl fd_X1_42 pF_X1_12 rfl (Nat.le_of_ble_eq_true rfl) rfl rfl rfl ?_
  refine nw_aload X (q := 96) (z := 0) dX1_init_95 rfl rfl rfl ?_
  refine nw_bipush X (q := 98) (v := 8) dX1_init_96 rfl (by decide) ?_
  refine nw_newa X (q := 100) (N := 8) (ce' := 12) (sl' := 901) dX1_init_98 rfl mt_110 (by decide) (by decide) (Nat.le_of_ble_eq_true rfl) (Nat.le_of_ble_eq_true rfl) (Nat.le_of_ble_eq_true rfl) rfl rfl (fun q12 => ?_)
  refine nw_putF X hname (q := 103) (q0 := 0) (fs := [.int 0, .ref q1, .ref q2, .ref q3, .ref q4, .int 0, .ref q5, .ref q6, .ref q7, .ref q8, .ref q9, .ref q10, .ref q11, .null]) (ws' := [(q, .inr (1, [.int 0, .ref q1, .ref q2, .ref q3, .ref q4, .int 0, .ref q5, .ref q6, .ref q7, .ref q8, .ref q9, .ref q10, .ref q11, .ref q12])), (q1, .inl (cA 0, 12, .inl (fun _ => 0))), (q2, .inl (cA 0, 12, .inl (fun _ => 0))), (q3, .inl (cA 0, 8, .inl (fun _ => 0))), (q4, .inl (cA 0, 8, .inl (fun _ => 0))), (q5, .inl (cA 0, 24, .inl (fun _ => 0))), (q6, .inl (cA 0, 24, .inl (fun _ => 0))), (q7, .inl (cA 0, 24, .inl (fun _ => 0))), (q8, .inl (cA 0, 13, .inl (fun _ => 0))), (q9, .inl (cA 0, 288, .inl (fun _ => 0))), (q10, .inl (cA 0, 288, .inl (fun _ => 0))), (q11, .inl (cA 0, 192, .inl (fun _ => 0))), (q12, .inl (cA 0, 8, .inl (fun _ => 0)))]) dX1_init_100 rfl fd_X1_45 pF_X1_13 rfl (Nat.le_of_ble_eq_true rfl) rfl rfl rfl ?_
  exact nw_vret X hr hlk (ad := nw_ad td [q, q1, q2, q3, q4, q5, q6, q7, q8, q9, q10, q11, q12]) ⟨rfl, rfl⟩ (by rw [nv_w]; rfl) dX1_init_103
set_option maxRecDepth 100000 in
set_option maxHeartbeats 4000000 in
theorem c_X2 : nw_E yX2_init cX2_init 1 2 [.null, .null, .int 0] [] LL_X2 LM_X2 1 2 16 := by
  refine nw_E.of (own := RX2) (lv0 := fun q => [(0, .ref q)]) (by decide) rfl rfl (fun _ => rfl) (fun _ => Nat.le_of_ble_eq_true rfl) ?_
  intro p l e s m below meth c D cA q td A X hname hr hlk
  refine nw_aload X (q := 1) (z := 0) dX2_init_0 rfl rfl rfl ?_
  refine nw_obj X (q := 4) dX2_init_1 rfl mt_95 mt_86 mt_87 (Nat.le_of_ble_eq_true rfl) (Nat.le_of_ble_eq_true rfl) ?_
  refine nw_aload X (q := 5) (z := 0) dX2_init_4 rfl rfl rfl ?_
  refine nw_bipush X (q := 7) (v := 8) dX2_init_5 rfl (by decide) ?_
  refine nw_newa X (q := 9) (N := 8) (ce' := 1) (sl' := 8) dX2_init_7 rfl mt_110 (by decide) (by decide) (Nat.le_of_ble_eq_true rfl) (Nat.le_of_ble_eq_true rfl) (Nat.le_of_ble_eq_true rfl) rfl rfl (fun q1 => ?_)
  refine nw_putF X hname (q := 12) (q0 := 0) (fs := [.null, .null, .int 0]) (ws' := [(q, .inr (2, [.ref q1, .null, .int 0])), (q1, .inl (cA 0, 8, .inl (fun _ => 0)))]) dX2_init_9 rfl fd_X2_9 pF_X2_0 rfl (Nat.le_of_ble_eq_true rfl) rfl rfl rfl ?_
  refine nw_aload X (q := 13) (z := 0) dX2_init_12 rfl rfl rfl ?_
  refine nw_bipush X (q := 15) (v := 8) dX2_init_13 rfl (by decide) ?_
  refine nw_newa X (q := 17) (N := 8) (ce' := 2) (sl' := 16) dX2_init_15 rfl mt_110 (by decide) (by decide) (Nat.le_of_ble_eq_true rfl) (Nat.le_of_ble_eq_true rfl) (Nat.le_of_ble_eq_true rfl) rfl rfl (fun q2 => ?_)
  refine nw_putF X hname (q := 20) (q0 := 0) (fs := [.ref q1, .null, .int 0]) (ws' := [(q, .inr (2, [.ref q1, .ref q2, .int 0])), (q1, .inl (cA 0, 8, .inl (fun _ => 0))), (q2, .inl (cA 0, 8, .inl (fun _ => 0)))]) dX2_init_17 rfl fd_X2_15 pF_X2_1 rfl (Nat.le_of_ble_eq_true rfl) rfl rfl rfl ?_
  exact nw_vret X hr hlk (ad := nw_ad td [q, q1, q2]) ⟨rfl, rfl⟩ (by rw [nv_w]; rfl) dX2_init_20
set_option maxRecDepth 100000 in
set_option maxHeartbeats 4000000 in
theorem c_X3 : nw_E yX3_init cX3_init 1 3 [.null, .int 0, .int 0] [] LL_X3 LM_X3 1 1 60 := by
  refine nw_E.of (own := RX3) (lv0 := fun q => [(0, .ref q)]) (by decide) rfl rfl (fun _ => rfl) (fun _ => Nat.le_of_ble_eq_true rfl) ?_
  intro p l e s m below meth c D cA q td A X hname hr hlk
  refine nw_aload X (q := 1) (z := 0) dX3_init_0 rfl rfl rfl ?_
  refine nw_obj X (q := 4) dX3_init_1 rfl mt_269 mt_86 mt_87 (Nat.le_of_ble_eq_true rfl) (Nat.le_of_ble_eq_true rfl) ?_
  refine nw_aload X (q := 5) (z := 0) dX3_init_4 rfl rfl rfl ?_
  refine nw_bipush X (q := 7) (v := 60) dX3_init_5 rfl (by decide) ?_
  refine nw_newa X (q := 9) (N := 60) (ce' := 1) (sl' := 60) dX3_init_7 rfl mt_110 (by decide) (by decide) (Nat.le_of_ble_eq_true rfl) (Nat.le_of_ble_eq_true rfl) (Nat.le_of_ble_eq_true rfl) rfl rfl (fun q1 => ?_)
  refine nw_putF X hname (q := 12) (q0 := 0) (fs := [.null, .int 0, .int 0]) (ws' := [(q, .inr (3, [.ref q1, .int 0, .int 0])), (q1, .inl (cA 0, 60, .inl (fun _ => 0)))]) dX3_init_9 rfl fd_X3_9 pF_X3_0 rfl (Nat.le_of_ble_eq_true rfl) rfl rfl rfl ?_
  refine nw_aload X (q := 13) (z := 0) dX3_init_12 rfl rfl rfl ?_
  refine nw_iconst X (q := 14) (v := (-1)) dX3_init_13 rfl (by decide) ?_
  refine nw_put X (q := 17) (q0 := 0) (fs := [.ref q1, .int 0, .int 0]) (ws' := [(q, .inr (3, [.ref q1, .int (-1), .int 0])), (q1, .inl (cA 0, 60, .inl (fun _ => 0)))]) dX3_init_14 rfl fd_X3_15 ps_X3_1 rfl (Nat.le_of_ble_eq_true rfl) rfl rfl rfl ?_
  exact nw_vret X hr hlk (ad := nw_ad td [q, q1]) ⟨rfl, rfl⟩ (by rw [nv_w]; rfl) dX3_init_17
set_option maxRecDepth 100000 in
set_option maxHeartbeats 4000000 in
theorem c_X5 : nw_E yX5_init cX5_init 1 5 [.int 0, .null, .null, .int 0, .null, .null, .null, .int 0, .null, .null, .null] [] LL_X5 LM_X5 1 8 91 := by
  refine nw_E.of (own := RX5) (lv0 := fun q => [(0, .ref q)]) (by decide) rfl rfl (fun _ => rfl) (fun _ => Nat.le_of_ble_eq_true rfl) ?_
  intro p l e s m below meth c D cA q td A X hname hr hlk
  refine nw_aload X (q := 1) (z := 0) dX5_init_0 rfl rfl rfl ?_
  refine nw_obj X (q := 4) dX5_init_1 rfl mt_138 mt_86 mt_87 (Nat.le_of_ble_eq_true rfl) (Nat.le_of_ble_eq_true rfl) ?_
  refine nw_aload X (q := 5) (z := 0) dX5_init_4 rfl rfl rfl ?_
  refine nw_bipush X (q := 7) (v := 8) dX5_init_5 rfl (by decide) ?_
  refine nw_newa X (q := 9) (N := 8) (ce' := 1) (sl' := 8) dX5_init_7 rfl mt_110 (by decide) (by decide) (Nat.le_of_ble_eq_true rfl) (Nat.le_of_ble_eq_true rfl) (Nat.le_of_ble_eq_true rfl) rfl rfl (fun q1 => ?_)
  refine nw_putF X hname (q := 12) (q0 := 0) (fs := [.int 0, .null, .null, .int 0, .null, .null, .null, .int 0, .null, .null, .null]) (ws' := [(q, .inr (5, [.int 0, .ref q1, .null, .int 0, .null, .null, .null, .int 0, .null, .null, .null])), (q1, .inl (cA 0, 8, .inl (fun _ => 0)))]) dX5_init_9 rfl fd_X5_9 pF_X5_1 rfl (Nat.le_of_ble_eq_true rfl) rfl rfl rfl ?_
  refine nw_aload X (q := 13) (z := 0) dX5_init_12 rfl rfl rfl ?_
  refine nw_bipush X (q := 15) (v := 8) dX5_init_13 rfl (by decide) ?_
  refine nw_newa X (q := 17) (N := 8) (ce' := 2) (sl' := 16) dX5_init_15 rfl mt_110 (by decide) (by decide) (Nat.le_of_ble_eq_true rfl) (Nat.le_of_ble_eq_true rfl) (Nat.le_of_ble_eq_true rfl) rfl rfl (fun q2 => ?_)
  refine nw_putF X hname (q := 20) (q0 := 0) (fs := [.int 0, .ref q1, .null, .int 0, .null, .null, .null, .int 0, .null, .null, .null]) (ws' := [(q, .inr (5, [.int 0, .ref q1, .ref q2, .int 0, .null, .null, .null, .int 0, .null, .null, .null])), (q1, .inl (cA 0, 8, .inl (fun _ => 0))), (q2, .inl (cA 0, 8, .inl (fun _ => 0)))]) dX5_init_17 rfl fd_X5_15 pF_X5_2 rfl (Nat.le_of_ble_eq_true rfl) rfl rfl rfl ?_
  refine nw_aload X (q := 21) (z := 0) dX5_init_20 rfl rfl rfl ?_
  refine nw_bipush X (q := 23) (v := 12) dX5_init_21 rfl (by decide) ?_
  refine nw_newa X (q := 25) (N := 12) (ce' := 3) (sl' := 28) dX5_init_23 rfl mt_110 (by decide) (by decide) (Nat.le_of_ble_eq_true rfl) (Nat.le_of_ble_eq_true rfl) (Nat.le_of_ble_eq_true rfl) rfl rfl (fun q3 => ?_)
  refine nw_putF X hname (q := 28) (q0 := 0) (fs := [.int 0, .ref q1, .ref q2, .int 0, .null, .null, .null, .int 0, .null, .null, .null]) (ws' := [(q, .inr (5, [.int 0, .ref q1, .ref q2, .int 0, .ref q3, .null, .null, .int 0, .null, .null, .null])), (q1, .inl (cA 0, 8, .inl (fun _ => 0))), (q2, .inl (cA 0, 8, .inl (fun _ => 0))), (q3, .inl (cA 0, 12, .inl (fun _ => 0)))]) dX5_init_25 rfl fd_X5_18 pF_X5_4 rfl (Nat.le_of_ble_eq_true rfl) rfl rfl rfl ?_
  refine nw_aload X (q := 29) (z := 0) dX5_init_28 rfl rfl rfl ?_
  refine nw_bipush X (q := 31) (v := 12) dX5_init_29 rfl (by decide) ?_
  refine nw_newa X (q := 33) (N := 12) (ce' := 4) (sl' := 40) dX5_init_31 rfl mt_110 (by decide) (by decide) (Nat.le_of_ble_eq_true rfl) (Nat.le_of_ble_eq_true rfl) (Nat.le_of_ble_eq_true rfl) rfl rfl (fun q4 => ?_)
  refine nw_putF X hname (q := 36) (q0 := 0) (fs := [.int 0, .ref q1, .ref q2, .int 0, .ref q3, .null, .null, .int 0, .null, .null, .null]) (ws' := [(q, .inr (5, [.int 0, .ref q1, .ref q2, .int 0, .ref q3, .ref q4, .null, .int 0, .null, .null, .null])), (q1, .inl (cA 0, 8, .inl (fun _ => 0))), (q2, .inl (cA 0, 8, .inl (fun _ => 0))), (q3, .inl (cA 0, 12, .inl (fun _ => 0))), (q4, .inl (cA 0, 12, .inl (fun _ => 0)))]) dX5_init_33 rfl fd_X5_21 pF_X5_5 rfl (Nat.le_of_ble_eq_true rfl) rfl rfl rfl ?_
  refine nw_aload X (q := 37) (z := 0) dX5_init_36 rfl rfl rfl ?_
  refine nw_bipush X (q := 39) (v := 12) dX5_init_37 rfl (by decide) ?_
  refine nw_newa X (q := 41) (N := 12) (ce' := 5) (sl' := 52) dX5_init_39 rfl mt_110 (by decide) (by decide) (Nat.le_of_ble_eq_true rfl) (Nat.le_of_ble_eq_true rfl) (Nat.le_of_ble_eq_true rfl) rfl rfl (fun q5 => ?_)
  refine nw_putF X hname (q := 44) (q0 := 0) (fs := [.int 0, .ref q1, .ref q2, .int 0, .ref q3, .ref q4, .null, .int 0, .null, .null, .null]) (ws' := [(q, .inr (5, [.int 0, .ref q1, .ref q2, .int 0, .ref q3, .ref q4, .ref q5, .int 0, .null, .null, .null])), (q1, .inl (cA 0, 8, .inl (fun _ => 0))), (q2, .inl (cA 0, 8, .inl (fun _ => 0))), (q3, .inl (cA 0, 12, .inl (fun _ => 0))), (q4, .inl (cA 0, 12, .inl (fun _ => 0))), (q5, .inl (cA 0, 12, .inl (fun _ => 0)))]) dX5_init_41 rfl fd_X5_24 pF_X5_6 rfl (Nat.le_of_ble_eq_true rfl) rfl rfl rfl ?_
  refine nw_aload X (q := 45) (z := 0) dX5_init_44 rfl rfl rfl ?_
  refine nw_bipush X (q := 47) (v := 13) dX5_init_45 rfl (by decide) ?_
  refine nw_newa X (q := 49) (N := 13) (ce' := 6) (sl' := 65) dX5_init_47 rfl mt_110 (by decide) (by decide) (Nat.le_of_ble_eq_true rfl) (Nat.le_of_ble_eq_true rfl) (Nat.le_of_ble_eq_true rfl) rfl rfl (fun q6 => ?_)
  refine nw_putF X hname (q := 52) (q0 := 0) (fs := [.int 0, .ref q1, .ref q2, .int 0, .ref q3, .ref q4, .ref q5, .int 0, .null, .null, .null]) (ws' := [(q, .inr (5, [.int 0, .ref q1, .ref q2, .int 0, .ref q3, .ref q4, .ref q5, .int 0, .ref q6, .null, .null])), (q1, .inl (cA 0, 8, .inl (fun _ => 0))), (q2, .inl (cA 0, 8, .inl (fun _ => 0))), (q3, .inl (cA 0, 12, .inl (fun _ => 0))), (q4, .inl (cA 0, 12, .inl (fun _ => 0))), (q5, .inl (cA 0, 12, .inl (fun _ => 0))), (q6, .inl (cA 0, 13, .inl (fun _ => 0)))]) dX5_init_49 rfl fd_X5_27 pF_X5_8 rfl (Nat.le_of_ble_eq_true rfl) rfl rfl rfl ?_
  refine nw_aload X (q := 53) (z := 0) dX5_init_52 rfl rfl rfl ?_
  refine nw_bipush X (q := 55) (v := 13) dX5_init_53 rfl (by decide) ?_
  refine nw_newa X (q := 57) (N := 13) (ce' := 7) (sl' := 78) dX5_init_55 rfl mt_110 (by decide) (by decide) (Nat.le_of_ble_eq_true rfl) (Nat.le_of_ble_eq_true rfl) (Nat.le_of_ble_eq_true rfl) rfl rfl (fun q7 => ?_)
  refine nw_putF X hname (q := 60) (q0 := 0) (fs := [.int 0, .ref q1, .ref q2, .int 0, .ref q3, .ref q4, .ref q5, .int 0, .ref q6, .null, .null]) (ws' := [(q, .inr (5, [.int 0, .ref q1, .ref q2, .int 0, .ref q3, .ref q4, .ref q5, .int 0, .ref q6, .ref q7, .null])), (q1, .inl (cA 0, 8, .inl (fun _ => 0))), (q2, .inl (cA 0, 8, .inl (fun _ => 0))), (q3, .inl (cA 0, 12, .inl (fun _ => 0))), (q4, .inl (cA 0, 12, .inl (fun _ => 0))), (q5, .inl (cA 0, 12, .inl (fun _ => 0))), (q6, .inl (cA 0, 13, .inl (fun _ => 0))), (q7, .inl (cA 0, 13, .inl (fun _ => 0)))]) dX5_init_57 rfl fd_X5_30 pF_X5_9 rfl (Nat.le_of_ble_eq_true rfl) rfl rfl rfl ?_
  refine nw_aload X (q := 61) (z := 0) dX5_init_60 rfl rfl rfl ?_
  refine nw_bipush X (q := 63) (v := 13) dX5_init_61 rfl (by decide) ?_
  refine nw_newa X (q := 65) (N := 13) (ce' := 8) (sl' := 91) dX5_init_63 rfl mt_110 (by decide) (by decide) (Nat.le_of_ble_eq_true rfl) (Nat.le_of_ble_eq_true rfl) (Nat.le_of_ble_eq_true rfl) rfl rfl (fun q8 => ?_)
  refine nw_putF X hname (q := 68) (q0 := 0) (fs := [.int 0, .ref q1, .ref q2, .int 0, .ref q3, .ref q4, .ref q5, .int 0, .ref q6, .ref q7, .null]) (ws' := [(q, .inr (5, [.int 0, .ref q1, .ref q2, .int 0, .ref q3, .ref q4, .ref q5, .int 0, .ref q6, .ref q7, .ref q8])), (q1, .inl (cA 0, 8, .inl (fun _ => 0))), (q2, .inl (cA 0, 8, .inl (fun _ => 0))), (q3, .inl (cA 0, 12, .inl (fun _ => 0))), (q4, .inl (cA 0, 12, .inl (fun _ => 0))), (q5, .inl (cA 0, 12, .inl (fun _ => 0))), (q6, .inl (cA 0, 13, .inl (fun _ => 0))), (q7, .inl (cA 0, 13, .inl (fun _ => 0))), (q8, .inl (cA 0, 13, .inl (fun _ => 0)))]) dX5_init_65 rfl fd_X5_33 pF_X5_10 rfl (Nat.le_of_ble_eq_true rfl) rfl rfl rfl ?_
  exact nw_vret X hr hlk (ad := nw_ad td [q, q1, q2, q3, q4, q5, q6, q7, q8]) ⟨rfl, rfl⟩ (by rw [nv_w]; rfl) dX5_init_68
set_option maxRecDepth 100000 in
set_option maxHeartbeats 4000000 in
theorem c_X4_0 : nw_E yX4_init cX4_init 2 4 [.int 0, .int 0, .null, .int 0, .int 0] [.int 0] LL_X4_0 LM_X4_0 1 1 23 := by
  refine nw_E.of (own := RX4) (lv0 := fun q => [(0, .ref q), (1, .int 0)]) (by decide) rfl rfl (fun _ => rfl) (fun _ => Nat.le_of_ble_eq_true rfl) ?_
  intro p l e s m below meth c D cA q td A X hname hr hlk
  refine nw_aload X (q := 1) (z := 0) dX4_init_0 rfl rfl rfl ?_
  refine nw_obj X (q := 4) dX4_init_1 rfl mt_248 mt_86 mt_87 (Nat.le_of_ble_eq_true rfl) (Nat.le_of_ble_eq_true rfl) ?_
  refine nw_aload X (q := 5) (z := 0) dX4_init_4 rfl rfl rfl ?_
  refine nw_iconst X (q := 6) (v := (-1)) dX4_init_5 rfl (by decide) ?_
  refine nw_put X (q := 9) (q0 := 0) (fs := [.int 0, .int 0, .null, .int 0, .int 0]) (ws' := [(q, .inr (4, [.int 0, .int 0, .null, .int 0, .int (-1)]))]) dX4_init_6 rfl fd_X4_9 ps_X4_4 rfl (Nat.le_of_ble_eq_true rfl) rfl rfl rfl ?_
  refine nw_aload X (q := 10) (z := 0) dX4_init_9 rfl rfl rfl ?_
  refine nw_iload X (q := 11) (z := 1) dX4_init_10 rfl rfl rfl ?_
  refine nw_putF X hname (q := 14) (q0 := 0) (fs := [.int 0, .int 0, .null, .int 0, .int (-1)]) (ws' := [(q, .inr (4, [.int 0, .int 0, .null, .int 0, .int (-1)]))]) dX4_init_11 rfl fd_X4_15 pF_X4_0 rfl (Nat.le_of_ble_eq_true rfl) rfl rfl rfl ?_
  refine nw_aload X (q := 15) (z := 0) dX4_init_14 rfl rfl rfl ?_
  refine nw_iload X (q := 16) (z := 1) dX4_init_15 rfl rfl rfl ?_
  refine nw_ifne_t X (q := 19) (tgt := 23) (by decide) dX4_init_16 rfl rfl ?_
  refine nw_iconst X (q := 20) (v := 3) dX4_init_19 rfl (by decide) ?_
  refine nw_goto X (tgt := 24) dX4_init_20 rfl ?_
  refine nw_putF X hname (q := 27) (q0 := 0) (fs := [.int 0, .int 0, .null, .int 0, .int (-1)]) (ws' := [(q, .inr (4, [.int 0, .int 3, .null, .int 0, .int (-1)]))]) dX4_init_24 rfl fd_X4_18 pF_X4_1 rfl (Nat.le_of_ble_eq_true rfl) rfl rfl rfl ?_
  refine nw_aload X (q := 28) (z := 0) dX4_init_27 rfl rfl rfl ?_
  refine nw_iload X (q := 29) (z := 1) dX4_init_28 rfl rfl rfl ?_
  refine nw_ifne_t X (q := 32) (tgt := 37) (by decide) dX4_init_29 rfl rfl ?_
  refine nw_bipush X (q := 34) (v := 23) dX4_init_32 rfl (by decide) ?_
  refine nw_goto X (tgt := 39) dX4_init_34 rfl ?_
  refine nw_newa X (q := 41) (N := 23) (ce' := 1) (sl' := 23) dX4_init_39 rfl mt_110 (by decide) (by decide) (Nat.le_of_ble_eq_true rfl) (Nat.le_of_ble_eq_true rfl) (Nat.le_of_ble_eq_true rfl) rfl rfl (fun q1 => ?_)
  refine nw_putF X hname (q := 44) (q0 := 0) (fs := [.int 0, .int 3, .null, .int 0, .int (-1)]) (ws' := [(q, .inr (4, [.int 0, .int 3, .ref q1, .int 0, .int (-1)])), (q1, .inl (cA 0, 23, .inl (fun _ => 0)))]) dX4_init_41 rfl fd_X4_21 pF_X4_2 rfl (Nat.le_of_ble_eq_true rfl) rfl rfl rfl ?_
  exact nw_vret X hr hlk (ad := nw_ad td [q, q1]) ⟨rfl, rfl⟩ (by rw [nv_w]; rfl) dX4_init_44
set_option maxRecDepth 100000 in
set_option maxHeartbeats 4000000 in
theorem c_X4_1 : nw_E yX4_init cX4_init 2 4 [.int 0, .int 0, .null, .int 0, .int 0] [.int 1] LL_X4_1 LM_X4_1 1 1 47 := by
  refine nw_E.of (own := RX4) (lv0 := fun q => [(0, .ref q), (1, .int 1)]) (by decide) rfl rfl (fun _ => rfl) (fun _ => Nat.le_of_ble_eq_true rfl) ?_
  intro p l e s m below meth c D cA q td A X hname hr hlk
  refine nw_aload X (q := 1) (z := 0) dX4_init_0 rfl rfl rfl ?_
  refine nw_obj X (q := 4) dX4_init_1 rfl mt_248 mt_86 mt_87 (Nat.le_of_ble_eq_true rfl) (Nat.le_of_ble_eq_true rfl) ?_
  refine nw_aload X (q := 5) (z := 0) dX4_init_4 rfl rfl rfl ?_
  refine nw_iconst X (q := 6) (v := (-1)) dX4_init_5 rfl (by decide) ?_
  refine nw_put X (q := 9) (q0 := 0) (fs := [.int 0, .int 0, .null, .int 0, .int 0]) (ws' := [(q, .inr (4, [.int 0, .int 0, .null, .int 0, .int (-1)]))]) dX4_init_6 rfl fd_X4_9 ps_X4_4 rfl (Nat.le_of_ble_eq_true rfl) rfl rfl rfl ?_
  refine nw_aload X (q := 10) (z := 0) dX4_init_9 rfl rfl rfl ?_
  refine nw_iload X (q := 11) (z := 1) dX4_init_10 rfl rfl rfl ?_
  refine nw_putF X hname (q := 14) (q0 := 0) (fs := [.int 0, .int 0, .null, .int 0, .int (-1)]) (ws' := [(q, .inr (4, [.int 1, .int 0, .null, .int 0, .int (-1)]))]) dX4_init_11 rfl fd_X4_15 pF_X4_0 rfl (Nat.le_of_ble_eq_true rfl) rfl rfl rfl ?_
  refine nw_aload X (q := 15) (z := 0) dX4_init_14 rfl rfl rfl ?_
  refine nw_iload X (q := 16) (z := 1) dX4_init_15 rfl rfl rfl ?_
  refine nw_ifne_f X (tgt := 23) (by decide) dX4_init_16 rfl ?_
  refine nw_iconst X (q := 24) (v := 4) dX4_init_23 rfl (by decide) ?_
  refine nw_putF X hname (q := 27) (q0 := 0) (fs := [.int 1, .int 0, .null, .int 0, .int (-1)]) (ws' := [(q, .inr (4, [.int 1, .int 4, .null, .int 0, .int (-1)]))]) dX4_init_24 rfl fd_X4_18 pF_X4_1 rfl (Nat.le_of_ble_eq_true rfl) rfl rfl rfl ?_
  refine nw_aload X (q := 28) (z := 0) dX4_init_27 rfl rfl rfl ?_
  refine nw_iload X (q := 29) (z := 1) dX4_init_28 rfl rfl rfl ?_
  refine nw_ifne_f X (tgt := 37) (by decide) dX4_init_29 rfl ?_
  refine nw_bipush X (q := 39) (v := 47) dX4_init_37 rfl (by decide) ?_
  refine nw_newa X (q := 41) (N := 47) (ce' := 1) (sl' := 47) dX4_init_39 rfl mt_110 (by decide) (by decide) (Nat.le_of_ble_eq_true rfl) (Nat.le_of_ble_eq_true rfl) (Nat.le_of_ble_eq_true rfl) rfl rfl (fun q1 => ?_)
  refine nw_putF X hname (q := 44) (q0 := 0) (fs := [.int 1, .int 4, .null, .int 0, .int (-1)]) (ws' := [(q, .inr (4, [.int 1, .int 4, .ref q1, .int 0, .int (-1)])), (q1, .inl (cA 0, 47, .inl (fun _ => 0)))]) dX4_init_41 rfl fd_X4_21 pF_X4_2 rfl (Nat.le_of_ble_eq_true rfl) rfl rfl rfl ?_
  exact nw_vret X hr hlk (ad := nw_ad td [q, q1]) ⟨rfl, rfl⟩ (by rw [nv_w]; rfl) dX4_init_44
set_option maxRecDepth 100000 in
set_option maxHeartbeats 4000000 in
theorem c_X4_2 : nw_E yX4_init cX4_init 2 4 [.int 0, .int 0, .null, .int 0, .int 0] [.int 2] LL_X4_2 LM_X4_2 1 1 47 := by
  refine nw_E.of (own := RX4) (lv0 := fun q => [(0, .ref q), (1, .int 2)]) (by decide) rfl rfl (fun _ => rfl) (fun _ => Nat.le_of_ble_eq_true rfl) ?_
  intro p l e s m below meth c D cA q td A X hname hr hlk
  refine nw_aload X (q := 1) (z := 0) dX4_init_0 rfl rfl rfl ?_
  refine nw_obj X (q := 4) dX4_init_1 rfl mt_248 mt_86 mt_87 (Nat.le_of_ble_eq_true rfl) (Nat.le_of_ble_eq_true rfl) ?_
  refine nw_aload X (q := 5) (z := 0) dX4_init_4 rfl rfl rfl ?_
  refine nw_iconst X (q := 6) (v := (-1)) dX4_init_5 rfl (by decide) ?_
  refine nw_put X (q := 9) (q0 := 0) (fs := [.int 0, .int 0, .null, .int 0, .int 0]) (ws' := [(q, .inr (4, [.int 0, .int 0, .null, .int 0, .int (-1)]))]) dX4_init_6 rfl fd_X4_9 ps_X4_4 rfl (Nat.le_of_ble_eq_true rfl) rfl rfl rfl ?_
  refine nw_aload X (q := 10) (z := 0) dX4_init_9 rfl rfl rfl ?_
  refine nw_iload X (q := 11) (z := 1) dX4_init_10 rfl rfl rfl ?_
  refine nw_putF X hname (q := 14) (q0 := 0) (fs := [.int 0, .int 0, .null, .int 0, .int (-1)]) (ws' := [(q, .inr (4, [.int 2, .int 0, .null, .int 0, .int (-1)]))]) dX4_init_11 rfl fd_X4_15 pF_X4_0 rfl (Nat.le_of_ble_eq_true rfl) rfl rfl rfl ?_
  refine nw_aload X (q := 15) (z := 0) dX4_init_14 rfl rfl rfl ?_
  refine nw_iload X (q := 16) (z := 1) dX4_init_15 rfl rfl rfl ?_
  refine nw_ifne_f X (tgt := 23) (by decide) dX4_init_16 rfl ?_
  refine nw_iconst X (q := 24) (v := 4) dX4_init_23 rfl (by decide) ?_
  refine nw_putF X hname (q := 27) (q0 := 0) (fs := [.int 2, .int 0, .null, .int 0, .int (-1)]) (ws' := [(q, .inr (4, [.int 2, .int 4, .null, .int 0, .int (-1)]))]) dX4_init_24 rfl fd_X4_18 pF_X4_1 rfl (Nat.le_of_ble_eq_true rfl) rfl rfl rfl ?_
  refine nw_aload X (q := 28) (z := 0) dX4_init_27 rfl rfl rfl ?_
  refine nw_iload X (q := 29) (z := 1) dX4_init_28 rfl rfl rfl ?_
  refine nw_ifne_f X (tgt := 37) (by decide) dX4_init_29 rfl ?_
  refine nw_bipush X (q := 39) (v := 47) dX4_init_37 rfl (by decide) ?_
  refine nw_newa X (q := 41) (N := 47) (ce' := 1) (sl' := 47) dX4_init_39 rfl mt_110 (by decide) (by decide) (Nat.le_of_ble_eq_true rfl) (Nat.le_of_ble_eq_true rfl) (Nat.le_of_ble_eq_true rfl) rfl rfl (fun q1 => ?_)
  refine nw_putF X hname (q := 44) (q0 := 0) (fs := [.int 2, .int 4, .null, .int 0, .int (-1)]) (ws' := [(q, .inr (4, [.int 2, .int 4, .ref q1, .int 0, .int (-1)])), (q1, .inl (cA 0, 47, .inl (fun _ => 0)))]) dX4_init_41 rfl fd_X4_21 pF_X4_2 rfl (Nat.le_of_ble_eq_true rfl) rfl rfl rfl ?_
  exact nw_vret X hr hlk (ad := nw_ad td [q, q1]) ⟨rfl, rfl⟩ (by rw [nv_w]; rfl) dX4_init_44
