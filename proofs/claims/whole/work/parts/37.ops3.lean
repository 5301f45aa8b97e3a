/-! tally, echo, read -/
theorem rel_el0 {S S' : md_T} {M M' N N' : mm_M} (hs : st_t S S') (hc : RC S M) (hn : RN S N) (hx : SX M N) (f : ∀ q, (1 ≤ q ∧ q < 17) ∨ (24 ≤ q ∧ q < 33) → M' q = M q) (f0 : M' 0 12 = M 0 12) (ce : CE S' M') (cl : CL S' M') (g : ∀ q, (1 ≤ q ∧ q ≤ 3) ∨ q = 5 ∨ q = 6 → N' q = N q) (g0 : N' 0 4 = N 0 4) (g1 : N' 0 15 = N 0 15) (g2 : N' 0 16 = N 0 16) (ne : NE S' N') (nl : NL S' N') : RC S' M' ∧ RN S' N' ∧ SX M' N' := by
  refine ⟨⟨(hc.1.S hs).keep (fun q a b => f q (by omega)), ?_, ce, cl⟩, ⟨fun t ht => ?_, ne, nl, by rw [g1]; exact hn.2.2.2.1, by rw [g2]; exact hn.2.2.2.2⟩, by rw [f0, g0]; exact hx.1, fun s hs => ?_⟩
  · rw [pa_T_congr hs]; exact hc.2.1.keep (fun q a b => f q (by omega))
  · rw [g 5 (by omega), g 6 (by omega), (hs t ht).1]
    simp only [(hs t ht).2]
    exact hn.1 t ht
  · rw [f (9 + 2 * s) (by omega), f (9 + 2 * s + 1) (by omega), g 1 (by omega), g 2 (by omega), g 3 (by omega)]
    exact hx.2 s hs
def st_l (S : md_T) (d w v : Nat) : md_T := fun a b => if a = 7 then (if b = S 4 1 then d else S 7 b) else if a = 8 then (if b = S 4 1 then w else S 8 b) else if a = 9 then (if b = S 4 1 then v else S 9 b) else if a = 4 ∧ b = 1 then S 4 1 + 1 else S a b
def st_e (S : md_T) (d k : Nat) : md_T := fun a b => if a = 5 then (if b = S 4 0 then d else S 5 b) else if a = 6 then (if b = S 4 0 then k else S 6 b) else if a = 4 ∧ b = 0 then S 4 0 + 1 else S a b
theorem q_lt3 {t : Nat} (h : t < 3) : t = 0 ∨ t = 1 ∨ t = 2 := by omega
theorem st_l_t (S : md_T) (d w v : Nat) : st_t S (st_l S d w v) := fun t ht => by
  rcases q_lt3 ht with e | e | e <;> subst e <;> exact ⟨rfl, fun _ => rfl⟩
theorem st_e_t (S : md_T) (d k : Nat) : st_t S (st_e S d k) := fun t ht => by
  rcases q_lt3 ht with e | e | e <;> subst e <;> exact ⟨rfl, fun _ => rfl⟩
theorem st_l_o {S : md_T} (ho : st_o S) {d w v : Nat} (h : S 4 1 < 8) (hd : d < 24) (hw : w < 12) (hv : v < 10) : st_o (st_l S d w v) := by
  obtain ⟨o1, o2, o3, o4, o5⟩ := ho
  refine ⟨fun t ht => ?_, o2, o3, (show S 4 1 + 1 ≤ 8 by omega), fun i hi => ?_⟩
  · have := st_l_t S d w v t ht
    rw [this.1]
    simp only [this.2]
    exact o1 t ht
  · have hi : i < S 4 1 + 1 := hi
    show (if i = S 4 1 then d else S 7 i) < 24 ∧ (if i = S 4 1 then w else S 8 i) < 12 ∧ (if i = S 4 1 then v else S 9 i) < 10
    by_cases c : i = S 4 1
    · rw [if_pos c, if_pos c, if_pos c]; exact ⟨hd, hw, hv⟩
    · rw [if_neg c, if_neg c, if_neg c]; exact o5 i (by omega)
theorem st_e_o {S : md_T} (ho : st_o S) {d k : Nat} (h : S 4 0 < 8) (hd : d < 24) (hk : k < 8) : st_o (st_e S d k) := by
  obtain ⟨o1, o2, o3, o4, o5⟩ := ho
  refine ⟨fun t ht => ?_, (show S 4 0 + 1 ≤ 8 by omega), fun i hi => ?_, o4, o5⟩
  · have := st_e_t S d k t ht
    rw [this.1]
    simp only [this.2]
    exact o1 t ht
  · have hi : i < S 4 0 + 1 := hi
    show (if i = S 4 0 then d else S 5 i) < 24 ∧ (if i = S 4 0 then k else S 6 i) < 8
    by_cases c : i = S 4 0
    · rw [if_pos c, if_pos c]; exact ⟨hd, hk⟩
    · rw [if_neg c, if_neg c]; exact o3 i (by omega)
theorem cl_append {M : mm_M} {n : Nat} (h : M 20 3 = nI n) (hn : n < 8) (x y z : Int32) : fX0_append x y z M = some (mm_wr (mm_wr (mm_wr (mm_wr M 21 n x) 22 n y) 23 n z) 20 3 (nI (n + 1))) := by
  unfold fX0_append
  rw [h, if_neg (by rw [q_lit 8, nI_leI (by omega) (by omega)]; omega)]
  simp (disch := omega) only [q_wa, Option.bind_some, q_wr_ne, h, q_pf, q_lit 1, nI_add]
theorem cl_append2 {M : mm_M} {n : Nat} (h : M 17 2 = nI n) (hn : n < 8) (x y : Int32) : fX2_append x y M = some (mm_wr (mm_wr (mm_wr M 18 n x) 19 n y) 17 2 (nI (n + 1))) := by
  unfold fX2_append fX2_isFull
  rw [h, if_pos (show nI n < 8 by rw [q_lit 8, nI_ltI (by omega) (by omega)]; omega), if_pos rfl]
  simp (disch := omega) only [q_wa, Option.bind_some, q_wr_ne, h, q_pf, q_lit 1, nI_add]
theorem op_tally {M N : mm_M} (h : Rel M N) (x y z : Int32) : AG (fX6_tally x y z M) (fX7_tally x y z N) := by
  obtain ⟨S, ho, hc, hn, hk, hx⟩ := id h
  have bad : ∀ r : Int32, AG (some (r, M)) (some (r, N)) := fun r => ⟨r, M, N, rfl, rfl, h⟩
  have o4 := ho.2.2.2.1
  unfold fX6_tally fX7_tally
  rw [q_isDay, q_inb 12 (by decide), q_inb 10 (by decide), q_lit 24, q_lit 12, q_lit 10, q_isOutside (by omega), q_isOutside (by omega), q_isOutside (by omega)]
  simp only [Option.bind_some, q_if10, q_if01]
  refine ag_if (fun c1 => ag_if (fun c2 => ag_if (fun c3 => ?_) (fun _ => bad _)) (fun _ => bad _)) (fun _ => bad _)
  obtain ⟨d, hd, rfl⟩ := q_of c1.1 c1.2 (by omega)
  obtain ⟨w, hw, rfl⟩ := q_of c2.1 c2.2 (by omega)
  obtain ⟨v, hv, rfl⟩ := q_of c3.1 c3.2 (by omega)
  have c20 := hc.2.2.2
  have n27 := hn.2.2.1
  rw [c20.1, n27.1]
  refine ag_if (fun _ => bad _) (fun c => ?_)
  have c' : S 4 1 < 8 := by
    rcases Nat.lt_or_ge (S 4 1) 8 with q | q
    · exact q
    · exact absurd (by rw [show S 4 1 = 8 by omega]; rfl) c
  rw [cl_append c20.1 c']
  simp (disch := omega) only [q_lit 3, q_lit 1, q_lit 2, pk_mul, nI_add, q_wa, Option.bind_some, q_wr_ne, n27.1, q_pf, q_wr_eq]
  refine ⟨_, _, _, rfl, rfl, ?_⟩
  have hs := st_l_t S d w v
  refine rel_el (S := S) (S' := st_l S d w v) (M := M) (N := N) hs (st_l_o ho c' hd hw hv) hc hn hx ?_ (fun q hq => by simp (disch := omega) only [q_wr_ne]) (by simp (disch := omega) only [q_wr_ne]) ⟨?_, fun i hi => ?_⟩ ⟨?_, fun i hi => ?_⟩ (fun q hq => by simp (disch := omega) only [q_wr_ne]) (by simp (disch := omega) only [q_wr_ne, q_wr_n2]) (by simp (disch := omega) only [q_wr_ne, q_wr_n2]) (by simp (disch := omega) only [q_wr_ne, q_wr_n2]) ⟨?_, fun i hi => ?_⟩ ⟨?_, fun i hi => ?_⟩
  · refine KC.S (pa_T_congr hs) rfl rfl rfl (hk.w ?_ ?_ (fun q hq => ?_)) <;> simp (disch := omega) only [q_wr_ne]
  · simp (disch := omega) only [q_wr_ne]; exact hc.2.2.1.1
  · simp (disch := omega) only [q_wr_ne]; exact hc.2.2.1.2 i hi
  · rw [q_wr_eq]; rfl
  · have hi : i < S 4 1 + 1 := hi
    show _ = nI (if i = S 4 1 then d else S 7 i) ∧ _ = nI (if i = S 4 1 then w else S 8 i) ∧ _ = nI (if i = S 4 1 then v else S 9 i)
    by_cases c : i = S 4 1
    · rw [if_pos c, if_pos c, if_pos c, c]
      simp (disch := omega) only [q_wr_ne, q_wr_eq, and_self]
    · rw [if_neg c, if_neg c, if_neg c]
      simp (disch := omega) only [q_wr_ne, q_wr_n2]
      exact c20.2 i (by omega)
  · simp (disch := omega) only [q_wr_ne, q_wr_n2]; exact hn.2.1.1
  · simp (disch := omega) only [q_wr_ne, q_wr_n2]; exact hn.2.1.2 i hi
  · rw [q_wr_eq]; rfl
  · have hi : i < S 4 1 + 1 := hi
    show _ = nI (if i = S 4 1 then d else S 7 i) ∧ _ = nI (if i = S 4 1 then w else S 8 i) ∧ _ = nI (if i = S 4 1 then v else S 9 i)
    by_cases c : i = S 4 1
    · rw [if_pos c, if_pos c, if_pos c, c]
      simp (disch := omega) only [q_wr_ne, q_wr_eq, q_wr_n2, and_self]
    · rw [if_neg c, if_neg c, if_neg c]
      simp (disch := omega) only [q_wr_ne, q_wr_n2]
      exact n27.2 i (by omega)
/-- one echo more -/
theorem e_app {S : md_T} {M N : mm_M} (ho : st_o S) (hc : RC S M) (hn : RN S N) (hx : SX M N) {d k : Nat} (h8 : S 4 0 < 8) (hd : d < 24) (hk : k < 8) : ∃ M' N', fX2_append (nI d) (nI k) M = some M' ∧ fX7_echo (nI d) (nI k) N = some (nI (S 4 0 + 1), N') ∧ (∀ q, q < 17 ∨ 19 < q → M' q = M q) ∧ (∀ q, q ≠ 0 → q ≠ 10 → N' q = N q) ∧ M' 17 2 = nI (S 4 0 + 1) ∧ st_o (st_e S d k) ∧ RC (st_e S d k) M' ∧ RN (st_e S d k) N' ∧ SX M' N' := by
  have c17 := hc.2.2.1
  have n13 := hn.2.1
  have hs := st_e_t S d k
  refine ⟨_, mm_wr (mm_wr (mm_wr N 10 (2 * S 4 0) (nI d)) 10 (2 * S 4 0 + 1) (nI k)) 0 13 (nI (S 4 0 + 1)), cl_append2 c17.1 h8 _ _, ?_, fun q hq => by simp (disch := omega) only [q_wr_ne], fun q hq hq2 => by simp (disch := omega) only [q_wr_ne], q_wr_eq, st_e_o ho h8 hd hk, ?_⟩
  · unfold fX7_echo
    have r1 : 0 ≤ (nI d).toInt ∧ (nI d).toInt < ((24 : Nat) : Int) := by rw [nI_toInt (by omega)]; omega
    have r2 : 0 ≤ (nI k).toInt ∧ (nI k).toInt < ((8 : Nat) : Int) := by rw [nI_toInt (by omega)]; omega
    rw [q_isDay, q_inb 8 (by decide)]
    simp only [Option.bind_some, q_if10]
    rw [if_pos r1, if_pos r2, n13.1, if_neg (by rw [q_lit 8, nI_eq (by omega) (by omega)]; omega)]
    simp (disch := omega) only [q_lit 1, q_lit 2, pk_mul, nI_add, q_wa, Option.bind_some, q_wr_ne, n13.1, q_pf, q_wr_eq]
  · refine rel_el0 hs hc hn hx (fun q hq => by simp (disch := omega) only [q_wr_ne]) (by simp (disch := omega) only [q_wr_ne]) ⟨?_, fun i hi => ?_⟩ ⟨?_, fun i hi => ?_⟩ (fun q hq => by simp (disch := omega) only [q_wr_ne]) (by simp (disch := omega) only [q_wr_ne, q_wr_n2]) (by simp (disch := omega) only [q_wr_ne, q_wr_n2]) (by simp (disch := omega) only [q_wr_ne, q_wr_n2]) ⟨?_, fun i hi => ?_⟩ ⟨?_, fun i hi => ?_⟩
    · rw [q_wr_eq]; rfl
    · have hi : i < S 4 0 + 1 := hi
      show _ = nI (if i = S 4 0 then d else S 5 i) ∧ _ = nI (if i = S 4 0 then k else S 6 i)
      by_cases c : i = S 4 0
      · rw [if_pos c, if_pos c, c]
        simp (disch := omega) only [q_wr_ne, q_wr_eq, and_self]
      · rw [if_neg c, if_neg c]
        simp (disch := omega) only [q_wr_ne, q_wr_n2]
        exact c17.2 i (by omega)
    · simp (disch := omega) only [q_wr_ne]; exact hc.2.2.2.1
    · simp (disch := omega) only [q_wr_ne]; exact hc.2.2.2.2 i hi
    · rw [q_wr_eq]; rfl
    · have hi : i < S 4 0 + 1 := hi
      show _ = nI (if i = S 4 0 then d else S 5 i) ∧ _ = nI (if i = S 4 0 then k else S 6 i)
      by_cases c : i = S 4 0
      · rw [if_pos c, if_pos c, c]
        simp (disch := omega) only [q_wr_ne, q_wr_eq, q_wr_n2, and_self]
      · rw [if_neg c, if_neg c]
        simp (disch := omega) only [q_wr_ne, q_wr_n2]
        exact n13.2 i (by omega)
    · simp (disch := omega) only [q_wr_ne, q_wr_n2]; exact hn.2.2.1.1
    · simp (disch := omega) only [q_wr_ne, q_wr_n2]; exact hn.2.2.1.2 i hi
theorem rel_changed {S : md_T} {M N : mm_M} (ho : st_o S) (hc : RC S M) (hn : RN S N) (hx : SX M N) : Rel (mm_wr (mm_wr M 0 10 (nI 0)) 0 11 (nI 0)) N := by
  have q : CQ M (mm_wr (mm_wr M 0 10 (nI 0)) 0 11 (nI 0)) := ⟨fun q a b => by simp (disch := omega) only [q_wr_ne], fun j a b => by simp (disch := omega) only [q_wr_n2]⟩
  exact ⟨S, ho, hc.keep q.1, hn, KC.z M, hx.q q RW.rf⟩
theorem q_mayBe (x y : Int32) : fX2_mayBe x y = if (0 ≤ x.toInt ∧ x.toInt < ((24 : Nat) : Int)) ∧ (0 ≤ y.toInt ∧ y.toInt < ((8 : Nat) : Int)) then 1 else 0 := by
  unfold fX2_mayBe
  rw [q_lit 24, q_lit 8, q_isOutside (by omega), q_isOutside (by omega), q_if01, q_if01]
  by_cases c1 : 0 ≤ x.toInt ∧ x.toInt < ((24 : Nat) : Int)
  · by_cases c2 : 0 ≤ y.toInt ∧ y.toInt < ((8 : Nat) : Int)
    · rw [if_pos c1, if_pos c2, if_pos ⟨c1, c2⟩]
    · rw [if_pos c1, if_neg c2, if_neg (fun q => c2 q.2)]
  · rw [if_neg c1, if_neg (fun q => c1 q.1)]
theorem q_full {S : md_T} {M : mm_M} (ho : st_o S) (hc : RC S M) : fX2_isFull M = if S 4 0 < 8 then 0 else 1 := by
  have o4 := ho.2.1
  unfold fX2_isFull
  rw [hc.2.2.1.1]
  exact q_ifc (by rw [q_lit 8, nI_ltI (by omega) (by omega)])
/-- an echo that cannot be: the reference's answer -/
theorem e_no {S : md_T} {N : mm_M} (ho : st_o S) (hn : RN S N) {x y : Int32} (h : ¬ ((0 ≤ x.toInt ∧ x.toInt < ((24 : Nat) : Int)) ∧ (0 ≤ y.toInt ∧ y.toInt < ((8 : Nat) : Int)))) : fX7_echo x y N = some (-2, N) := by
  unfold fX7_echo
  rw [q_isDay, q_inb 8 (by decide)]
  simp only [Option.bind_some, q_if10]
  by_cases c1 : 0 ≤ x.toInt ∧ x.toInt < ((24 : Nat) : Int)
  · rw [if_pos c1, if_neg (fun c2 => h ⟨c1, c2⟩)]
  · rw [if_neg c1]
theorem e_full {S : md_T} {N : mm_M} (ho : st_o S) (hn : RN S N) {x y : Int32} (h8 : ¬ S 4 0 < 8) (h : (0 ≤ x.toInt ∧ x.toInt < ((24 : Nat) : Int)) ∧ (0 ≤ y.toInt ∧ y.toInt < ((8 : Nat) : Int))) : fX7_echo x y N = some (-4, N) := by
  have o4 := ho.2.1
  unfold fX7_echo
  rw [q_isDay, q_inb 8 (by decide)]
  simp only [Option.bind_some, q_if10]
  rw [if_pos h.1, if_pos h.2, hn.2.1.1, if_pos (by rw [show S 4 0 = 8 by omega]; rfl)]
theorem op_echo {M N : mm_M} (h : Rel M N) (x y : Int32) : AG (fX6_echo x y M) (fX7_echo x y N) := by
  obtain ⟨S, ho, hc, hn, hk, hx⟩ := id h
  unfold fX6_echo
  rw [q_mayBe, q_if10, q_full ho hc, q_if01]
  by_cases c : (0 ≤ x.toInt ∧ x.toInt < ((24 : Nat) : Int)) ∧ (0 ≤ y.toInt ∧ y.toInt < ((8 : Nat) : Int))
  · rw [if_pos c]
    by_cases c8 : S 4 0 < 8
    · obtain ⟨d, hd, rfl⟩ := q_of c.1.1 c.1.2 (by omega)
      obtain ⟨k, hk, rfl⟩ := q_of c.2.1 c.2.2 (by omega)
      obtain ⟨M', N', a1, a2, a3, a4, a5, a6, a7, a8, a9⟩ := e_app ho hc hn hx c8 hd hk
      rw [if_pos c8, a1, Option.bind_some, cc_changed, Option.bind_some, a2]
      exact ⟨_, _, _, by rw [q_wr_ne (by decide), q_wr_ne (by decide), a5], rfl, rel_changed a6 a7 a8 a9⟩
    · rw [if_neg c8, e_full ho hn c8 c]
      exact ⟨_, M, N, rfl, rfl, h⟩
  · rw [if_neg c, e_no ho hn c]
    exact ⟨_, M, N, rfl, rfl, h⟩
