/-! LOOPS, in general -/
def md_fold {σ : Type} (g : Nat → σ → σ) : Nat → Nat → σ → σ
  | 0, _, s => s
  | f + 1, i, s => md_fold g f (i + 1) (g i s)
theorem q_loop {σ ρ : Type} (L : Nat → σ → Int32 → Option ρ) (g : Nat → σ → σ) (out : σ → Option ρ) (m : Nat) (hx : ∀ n s, L (n + 1) s (nI m) = out s) (hs : ∀ n i s, i < m → L (n + 1) s (nI i) = L n (g i s) (nI (i + 1))) : ∀ f i n s, i + f = m → f < n → L n s (nI i) = out (md_fold g f i s)
  | 0, i, n + 1, s, hi, hn => by rw [show i = m by omega, hx]; rfl
  | f + 1, i, n + 1, s, hi, hn => by rw [hs n i s (by omega), q_loop L g out m hx hs f (i + 1) n (g i s) (by omega) (by omega)]; rfl
theorem q_loopM {σ ρ : Type} (L : Nat → σ → mm_M → Int32 → Option ρ) (g : Nat → σ → σ) (out : σ → mm_M → Option ρ) (I : mm_M → Prop) (m : Nat) (hx : ∀ n s M, I M → L (n + 1) s M (nI m) = out s M) (hs : ∀ n i s M, i < m → I M → ∃ M', L (n + 1) s M (nI i) = L n (g i s) M' (nI (i + 1)) ∧ I M') : ∀ f i n s M, i + f = m → f < n → I M → ∃ M', L n s M (nI i) = out (md_fold g f i s) M' ∧ I M'
  | 0, i, n + 1, s, M, hi, hn, hI => ⟨M, by rw [show i = m by omega, hx n s M hI]; rfl, hI⟩
  | f + 1, i, n + 1, s, M, hi, hn, hI => by
    obtain ⟨M1, e1, e2⟩ := hs n i s M (by omega) hI
    obtain ⟨M2, k1, k2⟩ := q_loopM L g out I m hx hs f (i + 1) n (g i s) M1 (by omega) (by omega) e2
    exact ⟨M2, by rw [e1, k1]; rfl, k2⟩
/-- downwards: from j - 1 to 0 -/
def md_foldD {σ : Type} (g : Nat → σ → σ) : Nat → σ → σ
  | 0, s => s
  | j + 1, s => md_foldD g j (g j s)
theorem q_loopD {σ ρ : Type} (L : Nat → σ → Int32 → Option ρ) (g : Nat → σ → σ) (out : σ → Option ρ) (hx : ∀ n s, L (n + 1) s (nI 0 + (-1)) = out s) (m : Nat) (hs : ∀ n j s, j < m → L (n + 1) s (nI (j + 1) + (-1)) = L n (g j s) (nI j + (-1))) : ∀ j n s, j ≤ m → j < n → L n s (nI j + (-1)) = out (md_foldD g j s)
  | 0, n + 1, s, _, _ => by rw [hx]; rfl
  | j + 1, n + 1, s, hj, hn => by rw [hs n j s (by omega), q_loopD L g out hx m hs j n (g j s) (by omega) (by omega)]; rfl
theorem q_loopDM {σ ρ : Type} (L : Nat → σ → mm_M → Int32 → Option ρ) (g : Nat → σ → σ) (out : σ → mm_M → Option ρ) (I : mm_M → Prop) (hx : ∀ n s M, I M → L (n + 1) s M (nI 0 + (-1)) = out s M) (m : Nat) (hs : ∀ n j s M, j < m → I M → ∃ M', L (n + 1) s M (nI (j + 1) + (-1)) = L n (g j s) M' (nI j + (-1)) ∧ I M') : ∀ j n s M, j ≤ m → j < n → I M → ∃ M', L n s M (nI j + (-1)) = out (md_foldD g j s) M' ∧ I M'
  | 0, n + 1, s, M, _, _, hI => ⟨M, by rw [hx n s M hI]; rfl, hI⟩
  | j + 1, n + 1, s, M, hj, hn, hI => by
    obtain ⟨M1, e1, e2⟩ := hs n j s M (by omega) hI
    obtain ⟨M2, k1, k2⟩ := q_loopDM L g out I hx m hs j n (g j s) M1 (by omega) (by omega) e2
    exact ⟨M2, by rw [e1, k1]; rfl, k2⟩
theorem md_fold_congr {σ : Type} {g h : Nat → σ → σ} : ∀ f i s, (∀ j s, i ≤ j → j < i + f → g j s = h j s) → md_fold g f i s = md_fold h f i s
  | 0, _, _, _ => rfl
  | f + 1, i, s, e => by
    rw [md_fold, md_fold, e i s (by omega) (by omega)]
    exact md_fold_congr f (i + 1) _ (fun j s a b => e j s (by omega) (by omega))
/-- downwards, the last that fits is the least -/
theorem md_foldD_fst {P : Nat → Bool} {m : Nat} : ∀ j, j ≤ m → md_foldD (fun d (s : Int32) => if P d = true then nI d else s) j (rr_enc m (md_fst P (m - j) j)) = rr_enc m (md_fst P m 0)
  | 0, _ => rfl
  | j + 1, h => by
    rw [md_foldD]
    have e : (if P j = true then nI j else rr_enc m (md_fst P (m - (j + 1)) (j + 1))) = rr_enc m (md_fst P (m - j) j) := by
      rw [show m - j = (m - (j + 1)) + 1 by omega, md_fst]
      by_cases c : P j = true
      · rw [if_pos c, if_pos c, rr_enc, if_pos (by omega)]
      · rw [if_neg c, if_neg c]
    rw [e]
    exact md_foldD_fst j (by omega)
theorem md_foldD_fst0 {P : Nat → Bool} {m : Nat} : md_foldD (fun d (s : Int32) => if P d = true then nI d else s) m (-1) = rr_enc m (md_fst P m 0) := by
  have := md_foldD_fst (P := P) m (Nat.le_refl m)
  rw [Nat.sub_self, md_fst, rr_enc, if_neg (by omega)] at this
  exact this
theorem q_or0 (x : Int32) : x ||| nI 0 = x := by
  apply b_ext
  intro i hi
  have z : bt (nI 0) i = false := b_0 i
  rw [b_or, z, Bool.or_false]
theorem q_or0' (x : Int32) : x ||| 0 = x := q_or0 x
theorem q_add0 (x : Int32) : x + nI 0 = x := by
  show x + 0 = x
  simp
theorem q_add0' (x : Int32) : x + 0 = x := by simp
/-! QUESTIONS over the evenings: the class's Course -/
def mq_open (T : md_T) (E : Nat → Nat → Bool) (d k o : Nat) : Int32 := md_fold (fun w s => if md_tr T E (d + 1) 1 w = 0 ∧ T o w = k then s + nI (md_tr T E (d + 1) 2 w) else s) (T 0 3) 0 (nI 0)
def mq_lost (T : md_T) (E : Nat → Nat → Bool) (d k : Nat) : Bool := md_any (fun w => md_tr T E (d + 1) 1 w == 3 && T 4 w == k) (T 0 3) 0
def mq_many (T : md_T) (E : Nat → Nat → Bool) (z : Nat) : Int32 := md_fold (fun w s => if md_tr T E 24 1 w = z then s + nI 1 else s) (T 0 3) 0 (nI 0)
def mq_owed (T : md_T) (E : Nat → Nat → Bool) : Int32 := md_fold (fun w s => if md_tr T E 24 1 w = 0 ∨ md_tr T E 24 1 w = 3 then s + nI (md_tr T E 24 2 w) else s) (T 0 3) 0 (nI 0)
def cq_at (r : Nat) (T : md_T) (E : Nat → Nat → Bool) (M : mm_M) : Prop := md_ok T ∧ M r 0 = nI (T 0 3) ∧ cc_tr r T E 24 M
theorem cq_state {r : Nat} {T : md_T} {E : Nat → Nat → Bool} {M : mm_M} (h : cq_at r T E M) {d w : Nat} (hd : d < 24) (hw : w < T 0 3) : fX1_stateBehind r (nI d) (nI w) M = some (nI (md_tr T E (d + 1) 1 w)) := by
  obtain ⟨ho, h0, ht⟩ := h
  have o2 := ho.2.1
  unfold fX1_stateBehind
  rw [h0, q_lit 24, q_outN (by omega) (by omega), q_outN (by omega) (by omega), if_pos hd, if_pos hw, if_pos rfl, if_pos rfl, q_lit 12, pk_mul, nI_add, q_rd (by omega) (by omega), Option.bind_some, show d * 12 + w = 12 * d + w by omega, ((ht d hd).1 w hw).1]
theorem cq_left {r : Nat} {T : md_T} {E : Nat → Nat → Bool} {M : mm_M} (h : cq_at r T E M) {d w : Nat} (hd : d < 24) (hw : w < 2 ^ 31) : fX1_leftBehind r (nI d) (nI w) M = some (if w < T 0 3 then nI (md_tr T E (d + 1) 2 w) else -1) := by
  obtain ⟨ho, h0, ht⟩ := h
  have o2 := ho.2.1
  unfold fX1_leftBehind
  rw [h0, q_lit 24, q_outN (by omega) (by omega), q_outN (by omega) (by omega), if_pos hd, if_pos rfl]
  by_cases c : w < T 0 3
  · rw [if_pos c, if_pos rfl, if_pos c, q_lit 12, pk_mul, nI_add, q_rd (by omega) (by omega), Option.bind_some, show d * 12 + w = 12 * d + w by omega, ((ht d hd).1 w c).2]
  · rw [if_neg c, if_neg q_10, if_neg c]
theorem cq_said {r : Nat} {T : md_T} {E : Nat → Nat → Bool} {M : mm_M} (h : cq_at r T E M) {d k : Nat} (hd : d < 24) (hk : k < T 0 0) : fX1_saidBehind r (nI d) (nI k) M = some (nI (md_tr T E (d + 1) 3 k)) := by
  obtain ⟨ho, h0, ht⟩ := h
  have o1 := ho.1
  unfold fX1_saidBehind
  rw [q_lit 24, q_lit 8, q_outN (by omega) (by omega), q_outN (by omega) (by omega), if_pos hd, if_pos (show k < 8 by omega), if_pos rfl, if_pos rfl, pk_mul, nI_add, q_rd (by omega) (by omega), Option.bind_some, show d * 8 + k = 8 * d + k by omega, (ht d hd).2 k hk]
theorem cq_open {r a : Nat} {T : md_T} {E : Nat → Nat → Bool} {M : mm_M} (h : cq_at r T E M) {d k o : Nat} (hd : d < 24) (hk : k < 8) (hT : ∀ w, w < T 0 3 → T o w < 8 ∧ M a w = nI (T o w)) : fX1_openUses r (nI d) a (nI k) M = some (mq_open T E d k o) := by
  have o2 := h.1.2.1
  have ok := md_tr_ok (E := E) h.1 (d + 1)
  unfold fX1_openUses
  rw [q_lit 0]
  refine q_loop (fun n s i => fX1_openUses_L6 r a (nI d) (nI k) M n s i) _ (fun s => some s) (T 0 3) (fun n s => ?_) (fun n i s hi => ?_) (T 0 3) 0 1000 (nI 0) (by omega) (by omega)
  · show fX1_openUses_L6 r a (nI d) (nI k) M (n + 1) s (nI (T 0 3)) = _
    rw [fX1_openUses_L6, h.2.1, if_pos (by rw [nI_leI (by omega) (by omega)]; omega)]
  · show fX1_openUses_L6 r a (nI d) (nI k) M (n + 1) s (nI i) = fX1_openUses_L6 r a (nI d) (nI k) M n _ (nI (i + 1))
    have t := hT i hi
    have b := (ok.1 i hi).1
    rw [fX1_openUses_L6, h.2.1, if_neg (by rw [nI_leI (by omega) (by omega)]; omega)]
    rw [cq_state h hd hi, cq_left h hd (by omega), if_pos hi]
    simp (disch := omega) only [q_lit 0, q_lit 1, q_rd, Option.bind_some, t.2, nI_eq, nI_add]
    by_cases c1 : T o i = k
    · rw [if_pos c1]
      by_cases c2 : md_tr T E (d + 1) 1 i = 0
      · rw [if_pos c2, if_pos ⟨c2, c1⟩]
      · rw [if_neg c2, if_neg (fun q => c2 q.1)]
    · rw [if_neg c1, if_neg (fun q => c1 q.2)]
theorem cq_lost_L {r t : Nat} {T : md_T} {E : Nat → Nat → Bool} {M : mm_M} (h : cq_at r T E M) {d k : Nat} (hd : d < 24) (hk : k < 8) (hT : ∀ w, w < T 0 3 → M (t + 4) w = nI (T 4 w)) : ∀ f i n, i + f = T 0 3 → f < n → fX1_hasLost_L3 r t (nI d) (nI k) M n (nI i) = some (if md_any (fun w => md_tr T E (d + 1) 1 w == 3 && T 4 w == k) f i = true then 1 else 0)
  | 0, i, n + 1, hi, hn => by
    have o2 := h.1.2.1
    rw [fX1_hasLost_L3, h.2.1, if_pos (by rw [nI_leI (by omega) (by omega)]; omega)]; rfl
  | f + 1, i, n + 1, hi, hn => by
    have o2 := h.1.2.1
    have o5 := h.1.2.2.2.2.1 i (by omega)
    have ok := ((md_tr_ok (E := E) h.1 (d + 1)).1 i (by omega)).1
    have t := hT i (by omega)
    rw [fX1_hasLost_L3, h.2.1, if_neg (by rw [nI_leI (by omega) (by omega)]; omega), cq_state h hd (by omega)]
    simp (disch := omega) only [q_lit 3, q_lit 1, q_rd, Option.bind_some, t, nI_eq, nI_add, cq_lost_L h hd hk hT f (i + 1) n (by omega) (by omega), md_any, Bool.or_eq_true, Bool.and_eq_true, beq_iff_eq]
    by_cases c1 : T 4 i = k
    · rw [if_pos c1]
      by_cases c2 : md_tr T E (d + 1) 1 i = 3
      · rw [if_pos c2, if_pos (Or.inl ⟨c2, c1⟩)]
      · rw [if_neg c2]
        congr 1
        exact q_ifc ⟨fun q => Or.inr q, fun q => q.resolve_left (fun z => c2 z.1)⟩
    · rw [if_neg c1]
      congr 1
      exact q_ifc ⟨fun q => Or.inr q, fun q => q.resolve_left (fun z => c1 z.2)⟩
theorem cq_lost {r t : Nat} {T : md_T} {E : Nat → Nat → Bool} {M : mm_M} (h : cq_at r T E M) {d k : Nat} (hd : d < 24) (hk : k < 8) (hT : ∀ w, w < T 0 3 → M (t + 4) w = nI (T 4 w)) : fX1_hasLost r t (nI d) (nI k) M = some (if mq_lost T E d k = true then 1 else 0) := by
  have o2 := h.1.2.1
  exact cq_lost_L h hd hk hT (T 0 3) 0 1000 (by omega) (by omega)
theorem cq_many {r z : Nat} {T : md_T} {E : Nat → Nat → Bool} {M : mm_M} (h : cq_at r T E M) (hz : z < 8) : fX1_wordsThatAre r (nI z) M = some (mq_many T E z) := by
  have o2 := h.1.2.1
  unfold fX1_wordsThatAre
  rw [q_lit 0]
  refine q_loop (fun n s i => fX1_wordsThatAre_L4 r (nI z) M n s i) _ (fun s => some s) (T 0 3) (fun n s => ?_) (fun n i s hi => ?_) (T 0 3) 0 1000 (nI 0) (by omega) (by omega)
  · show fX1_wordsThatAre_L4 r (nI z) M (n + 1) s (nI (T 0 3)) = _
    rw [fX1_wordsThatAre_L4, h.2.1, if_pos (by rw [nI_leI (by omega) (by omega)]; omega)]
  · show fX1_wordsThatAre_L4 r (nI z) M (n + 1) s (nI i) = fX1_wordsThatAre_L4 r (nI z) M n _ (nI (i + 1))
    have b := ((md_tr_ok (E := E) h.1 24).1 i hi).1
    rw [fX1_wordsThatAre_L4, h.2.1, if_neg (by rw [nI_leI (by omega) (by omega)]; omega), q_lit 23, cq_state h (show 23 < 24 by omega) hi]
    simp (disch := omega) only [q_lit 1, Option.bind_some, nI_eq, nI_add, Nat.reduceAdd]
theorem cq_owed {r : Nat} {T : md_T} {E : Nat → Nat → Bool} {M : mm_M} (h : cq_at r T E M) : fX1_openOrLostUses r M = some (mq_owed T E) := by
  have o2 := h.1.2.1
  unfold fX1_openOrLostUses
  rw [q_lit 0]
  refine q_loop (fun n s i => fX1_openOrLostUses_L4 r M n s i) _ (fun s => some s) (T 0 3) (fun n s => ?_) (fun n i s hi => ?_) (T 0 3) 0 1000 (nI 0) (by omega) (by omega)
  · show fX1_openOrLostUses_L4 r M (n + 1) s (nI (T 0 3)) = _
    rw [fX1_openOrLostUses_L4, h.2.1, if_pos (by rw [nI_leI (by omega) (by omega)]; omega)]
  · show fX1_openOrLostUses_L4 r M (n + 1) s (nI i) = fX1_openOrLostUses_L4 r M n _ (nI (i + 1))
    have b := ((md_tr_ok (E := E) h.1 24).1 i hi).1
    rw [fX1_openOrLostUses_L4, h.2.1, if_neg (by rw [nI_leI (by omega) (by omega)]; omega), q_lit 23, cq_state h (show 23 < 24 by omega) hi]
    have hl := cq_left h (show 23 < 24 by omega) (show i < 2 ^ 31 by omega)
    rw [if_pos hi] at hl
    simp (disch := omega) only [q_lit 0, q_lit 1, q_lit 3, Option.bind_some, fX1_openOrLostUses_J29, q_lit 23, hl]
    simp (disch := omega) only [nI_eq, nI_add, Nat.reduceAdd]
    by_cases c1 : md_tr T E 24 1 i = 0
    · rw [if_pos c1, if_pos (Or.inl c1)]
    · rw [if_neg c1]
      by_cases c2 : md_tr T E 24 1 i = 3
      · rw [if_pos c2, if_pos (Or.inr c2)]
      · rw [if_neg c2, if_neg (fun q => q.elim c1 c2)]
