/-! ring: who owes whom -/
def ow_g (T : md_T) (E : Nat → Nat → Bool) (d w : Nat) (o : Nat → Int32) : Nat → Int32 := if md_tr T E (d + 1) 1 w = 0 then (fun k => if k = T 4 w then o k ||| ((1 : Int32) <<< (nI (T 3 w) &&& 31)) else o k) else o
def ow_f (T : md_T) (E : Nat → Nat → Bool) (d m : Nat) : Nat → Int32 := md_fold (ow_g T E d) m 0 (fun _ => 0)
theorem ow_s (T : md_T) (E : Nat → Nat → Bool) (d m : Nat) : ow_f T E d (m + 1) = ow_g T E d m (ow_f T E d m) := by
  unfold ow_f
  rw [md_fold_add, Nat.zero_add]
  rfl
theorem co_z {M0 : mm_M} (k : mm_M → Option mm_M) : ∀ f i n (M : mm_M) {x : Int32}, i + f = 8 → f < n → (∀ q, q ≠ 54 → M q = M0 q) → (∀ j, j < i → M 54 j = 0) → ∃ M', fX1_followDebts_L2 42 24 x k n (nI i) M = k M' ∧ (∀ q, q ≠ 54 → M' q = M0 q) ∧ ∀ j, j < 8 → M' 54 j = 0
  | 0, i, n + 1, M, x, hi, hn, h, z => ⟨M, by rw [fX1_followDebts_L2, if_pos (by rw [q_lit 8, nI_leI (by omega) (by omega)]; omega)], h, fun j hj => z j (by omega)⟩
  | f + 1, i, n + 1, M, x, hi, hn, h, z => by
    obtain ⟨M', e1, e2, e3⟩ := co_z (M0 := M0) k f (i + 1) n (mm_wr M (42 + 12) i 0) (x := x) (by omega) (by omega) (fun q hq => by rw [q_wr_ne (by omega)]; exact h q hq) (fun j hj => by
      by_cases c : j = i
      · rw [c]; exact q_wr_eq
      · rw [show (54 : Nat) = 42 + 12 from rfl, q_wr_n2 c]; exact z j (by omega))
    refine ⟨M', ?_, e2, e3⟩
    rw [fX1_followDebts_L2, if_neg (by rw [q_lit 8, nI_leI (by omega) (by omega)]; omega), q_wa (by omega) (by omega), Option.bind_some, nI_1]
    exact e1
theorem co_owes {T : md_T} {E : Nat → Nat → Bool} {M : mm_M} (h : cq_at 42 T E M) (hT : cc_T T 24 M) {d : Nat} (hd : d < 24) : ∃ M', fX1_followDebts 42 24 (nI d) M = some M' ∧ (∀ q, q ≠ 54 → M' q = M q) ∧ ∀ k, k < 8 → M' 54 k = ow_f T E d (T 0 3) k := by
  have o2 := h.1.2.1
  have o5 := h.1.2.2.2.2.1
  unfold fX1_followDebts
  obtain ⟨M1, z1, z2, z3⟩ := co_z (M0 := M) (fun M3 => fX1_followDebts_L23 42 24 (nI d) 1000 0 M3) 8 0 1000 M (x := nI d) (by omega) (by omega) (fun _ _ => rfl) (fun j hj => by omega)
  have key := q_loopB (fun n (_ : Unit) M i => fX1_followDebts_L23 42 24 (nI d) n i M) (fun _ s => s) (fun _ M => some M) (fun i M' => (∀ q, q ≠ 54 → M' q = M q) ∧ ∀ k, k < 8 → M' 54 k = ow_f T E d i k) 0 (T 0 3) (fun n s M2 hh => ?_) (fun n i s M2 hl hi hh => ?_) (T 0 3) 0 1000 () M1 (by omega) (by omega) (by omega) ⟨z2, z3⟩
  · obtain ⟨M', e1, e2, e3⟩ := key
    exact ⟨M', z1.trans e1, e2, e3⟩
  · show fX1_followDebts_L23 42 24 (nI d) (n + 1) (nI (T 0 3)) M2 = _
    rw [fX1_followDebts_L23, hh.1 42 (by omega), h.2.1, if_pos (by rw [nI_leI (by omega) (by omega)]; omega)]
  · obtain ⟨h1, h2⟩ := hh
    have h' : cq_at 42 T E M2 := by
      refine ⟨h.1, by rw [h1 42 (by omega)]; exact h.2.1, ?_⟩
      have := h.2.2
      unfold cc_tr at this ⊢
      rw [h1 (42 + 9) (by omega), h1 (42 + 10) (by omega), h1 (42 + 11) (by omega)]
      exact this
    obtain ⟨u3, u4, -⟩ := o5 i hi
    obtain ⟨t3, t4, -⟩ := hT.2.2.2.2.1 i hi
    have b := ((md_tr_ok (E := E) h.1 (d + 1)).1 i hi).1
    have st : fX1_followDebts_L23 42 24 (nI d) (n + 1) (nI i) M2 = if md_tr T E (d + 1) 1 i = 0 then fX1_followDebts_L23 42 24 (nI d) n (nI (i + 1)) (mm_wr M2 54 (T 4 i) (M2 54 (T 4 i) ||| ((1 : Int32) <<< (nI (T 3 i) &&& 31)))) else fX1_followDebts_L23 42 24 (nI d) n (nI (i + 1)) M2 := by
      rw [fX1_followDebts_L23, h1 42 (by omega), h.2.1, if_neg (by rw [nI_leI (by omega) (by omega)]; omega), cq_state h' hd hi, Option.bind_some, q_rd (by omega) (by omega), Option.bind_some, h1 (24 + 4) (by omega), t4, q_rd (by omega) (by omega), Option.bind_some, q_rd (by omega) (by omega), Option.bind_some, h1 (24 + 3) (by omega), t3, q_wa (by omega) (by omega), Option.bind_some, nI_1]
      exact q_ifc (by rw [show (0 : Int32) = nI 0 from rfl, nI_eq (by omega) (by omega)])
    by_cases c : md_tr T E (d + 1) 1 i = 0
    · refine ⟨mm_wr M2 54 (T 4 i) (M2 54 (T 4 i) ||| ((1 : Int32) <<< (nI (T 3 i) &&& 31))), st.trans (if_pos c), fun q hq => by rw [q_wr_ne hq]; exact h1 q hq, fun k hk => ?_⟩
      rw [ow_s]
      unfold ow_g
      rw [if_pos c]
      by_cases ck : k = T 4 i
      · rw [ck, q_wr_eq, if_pos rfl, h2 _ u4]
      · rw [q_wr_n2 ck, if_neg ck, h2 k hk]
    · refine ⟨M2, st.trans (if_neg c), h1, fun k hk => ?_⟩
      rw [ow_s]
      unfold ow_g
      rw [if_neg c]
      exact h2 k hk
theorem KC.o {S : md_T} {M M' : mm_M} (h : ∀ q, q ≠ 54 → M' q = M q) (k : KC S M) : KC S M' := by
  unfold KC KC1 KC2 cc_tr at k ⊢
  rw [h 0 (by omega), h 42 (by omega), h (42 + 9) (by omega), h (42 + 10) (by omega), h (42 + 11) (by omega), h 69 (by omega)]
  exact k
theorem ro_z {N0 : mm_M} (k : mm_M → Option mm_M) : ∀ f i n (N : mm_M) {x : Int32}, i + f = 8 → f < n → (∀ q, q ≠ 18 → N q = N0 q) → (∀ j, j < i → N 18 j = 0) → ∃ N', fX7_debts_L2 x k n (nI i) N = k N' ∧ (∀ q, q ≠ 18 → N' q = N0 q) ∧ ∀ j, j < 8 → N' 18 j = 0
  | 0, i, n + 1, M, x, hi, hn, h, z => ⟨M, by rw [fX7_debts_L2, if_pos (by rw [q_lit 8, nI_leI (by omega) (by omega)]; omega)], h, fun j hj => z j (by omega)⟩
  | f + 1, i, n + 1, M, x, hi, hn, h, z => by
    obtain ⟨M', e1, e2, e3⟩ := ro_z (N0 := N0) k f (i + 1) n (mm_wr M 18 i 0) (x := x) (by omega) (by omega) (fun q hq => by rw [q_wr_ne (by omega)]; exact h q hq) (fun j hj => by
      by_cases c : j = i
      · rw [c]; exact q_wr_eq
      · rw [q_wr_n2 c]; exact z j (by omega))
    refine ⟨M', ?_, e2, e3⟩
    rw [fX7_debts_L2, if_neg (by rw [q_lit 8, nI_leI (by omega) (by omega)]; omega), q_wa (by omega) (by omega), Option.bind_some, nI_1]
    exact e1
theorem ro_owes {T : md_T} {E : Nat → Nat → Bool} {N : mm_M} (h : rq_at T E N) {d : Nat} (hd : d < 24) : ∃ N', fX7_debts (nI d) N = some N' ∧ (∀ q, q ≠ 18 → N' q = N q) ∧ ∀ k, k < 8 → N' 18 k = ow_f T E d (T 0 3) k := by
  have o2 := h.1.2.1
  have o5 := h.1.2.2.2.2.1
  have h9 := h.2.1.2.1
  unfold fX7_debts
  obtain ⟨M1, z1, z2, z3⟩ := ro_z (N0 := N) (fun M3 => fX7_debts_L23 (nI d) 1000 0 M3) 8 0 1000 N (x := nI d) (by omega) (by omega) (fun _ _ => rfl) (fun j hj => by omega)
  have key := q_loopB (fun n (_ : Unit) M i => fX7_debts_L23 (nI d) n i M) (fun _ s => s) (fun _ M => some M) (fun i M' => (∀ q, q ≠ 18 → M' q = N q) ∧ ∀ k, k < 8 → M' 18 k = ow_f T E d i k) 0 (T 0 3) (fun n s M2 hh => ?_) (fun n i s M2 hl hi hh => ?_) (T 0 3) 0 1000 () M1 (by omega) (by omega) (by omega) ⟨z2, z3⟩
  · obtain ⟨M', e1, e2, e3⟩ := key
    exact ⟨M', z1.trans e1, e2, e3⟩
  · show fX7_debts_L23 (nI d) (n + 1) (nI (T 0 3)) M2 = _
    rw [fX7_debts_L23, hh.1 0 (by omega), h9, if_pos (by rw [nI_leI (by omega) (by omega)]; omega)]
  · obtain ⟨h1, h2⟩ := hh
    obtain ⟨u3, u4, -⟩ := o5 i hi
    obtain ⟨t3, t4, -⟩ := h.2.1.2.2.2.1 i hi
    obtain ⟨s1, -⟩ := (h.2.2.2 d hd).1 i hi
    have b := ((md_tr_ok (E := E) h.1 (d + 1)).1 i hi).1
    have st : fX7_debts_L23 (nI d) (n + 1) (nI i) M2 = if md_tr T E (d + 1) 1 i = 0 then fX7_debts_L23 (nI d) n (nI (i + 1)) (mm_wr M2 18 (T 4 i) (M2 18 (T 4 i) ||| ((1 : Int32) <<< (nI (T 3 i) &&& 31)))) else fX7_debts_L23 (nI d) n (nI (i + 1)) M2 := by
      rw [fX7_debts_L23, h1 0 (by omega), h9, if_neg (by rw [nI_leI (by omega) (by omega)]; omega), q_lit 12, q_lit 3, pk_mul, pk_mul, nI_add, nI_1, q_rd (by omega) (by omega), Option.bind_some, h1 15 (by omega), s1, q_rd (by omega) (by omega), Option.bind_some, h1 8 (by omega), t4, q_rd (by omega) (by omega), Option.bind_some, q_rd (by omega) (by omega), Option.bind_some, h1 8 (by omega), t3, q_wa (by omega) (by omega), Option.bind_some, nI_1]
      exact q_ifc (by rw [show (0 : Int32) = nI 0 from rfl, nI_eq (by omega) (by omega)])
    by_cases c : md_tr T E (d + 1) 1 i = 0
    · refine ⟨mm_wr M2 18 (T 4 i) (M2 18 (T 4 i) ||| ((1 : Int32) <<< (nI (T 3 i) &&& 31))), st.trans (if_pos c), fun q hq => by rw [q_wr_ne hq]; exact h1 q hq, fun k hk => ?_⟩
      rw [ow_s]
      unfold ow_g
      rw [if_pos c]
      by_cases ck : k = T 4 i
      · rw [ck, q_wr_eq, if_pos rfl, h2 _ u4]
      · rw [q_wr_n2 ck, if_neg ck, h2 k hk]
    · refine ⟨M2, st.trans (if_neg c), h1, fun k hk => ?_⟩
      rw [ow_s]
      unfold ow_g
      rw [if_neg c]
      exact h2 k hk
