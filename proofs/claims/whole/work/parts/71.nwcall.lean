/-! CONSTRUCTORS AND THE LAW: calls -/
theorem nj_l {α : Type} {ws w : List α} {k : Nat} {q : α} (h : ws[k]? = some q) : (ws ++ w)[k]? = some q := by
  rw [List.getElem?_append_left (List.getElem?_eq_some_iff.mp h).1]; exact h
theorem nj_r {α : Type} {ws w : List α} {k : Nat} {q : α} (h : w[k]? = some q) : (ws ++ w)[ws.length + k]? = some q := by
  rw [List.getElem?_append_right (by omega), show ws.length + k - ws.length = k by omega]; exact h
theorem nj_one {A : Nat → Prop} {x : Nat × va_E} (h : A x.1) : va_D A [x] := by
  have key : ∀ (k : Nat) (q : Nat × va_E), [x][k]? = some q → k = 0 ∧ q = x := by
    intro k q hk
    have hz : k < 1 := (List.getElem?_eq_some_iff.mp hk).1
    have e : k = 0 := by omega
    subst e
    cases hk
    exact ⟨rfl, rfl⟩
  exact ⟨fun i j p q hi hj _ => by rw [(key i p hi).1, (key j q hj).1], fun k q hk => by rw [(key k q hk).2]; exact h⟩
theorem nj_join {A0 : Nat → Prop} {D : va_G} {ws w1 : va_W} {x : Nat × va_E} {H H1 : Heap} (hP : va_P D vwCl (ws ++ [x]) H) (hD : va_D A0 (ws ++ [x])) (hk : ∀ q : Nat, q < H.size → ¬ va_A [x] H.size q → H1[q]? = H[q]?) (hF : ∀ q, va_A [x] H.size q → A0 q) (hP1 : va_P D vwCl w1 H1) (hD1 : va_D (va_A [x] H.size) w1) : va_P D vwCl (ws ++ w1) H1 ∧ va_D A0 (ws ++ w1) := by
  have apart : ∀ (k : Nat) (q : Nat × va_E), ws[k]? = some q → q.1 < H.size ∧ ¬ va_A [x] H.size q.1 := by
    intro k q hq
    have hl := (hP k q (nj_l hq)).lt
    refine ⟨hl, fun h => ?_⟩
    rcases h with ⟨k2, e, h⟩ | h
    · have hz : k2 < 1 := (List.getElem?_eq_some_iff.mp h).1
      have e0 : k2 = 0 := by omega
      subst e0
      have := hD.1 k (ws.length + 0) q (q.1, e) (nj_l hq) (nj_r h) rfl
      have := (List.getElem?_eq_some_iff.mp hq).1
      omega
    · omega
  refine ⟨va_P.app (fun k q hq => (hP k q (nj_l hq)).kept (hk q.1 (apart k q hq).1 (apart k q hq).2)) hP1, va_D.app ⟨fun i j p q hi hj => hD.1 i j p q (nj_l hi) (nj_l hj), fun k q hk => hD.2 k q (nj_l hk)⟩ (hD1.weaken (fun k q _ h => hF q.1 h)) (fun i j a b ha hb hab => ?_)⟩
  exact (apart i a ha).2 (by rw [hab]; exact hD1.2 j b hb)
theorem nj_D {A : Nat → Prop} {ws ws' : va_W} (h : ws.map (fun q => q.1) = ws'.map (fun q => q.1)) (hD : va_D A ws) : va_D A ws' := by
  have key : ∀ (k : Nat) (q : Nat × va_E), ws'[k]? = some q → ∃ p, ws[k]? = some p ∧ p.1 = q.1 := by
    intro k q hk
    have e : (ws.map (fun q => q.1))[k]? = some q.1 := by rw [h, List.getElem?_map, hk]; rfl
    rw [List.getElem?_map] at e
    cases hw : ws[k]? with
    | none => rw [hw] at e; cases e
    | some p => rw [hw] at e; exact ⟨p, rfl, Option.some.inj e⟩
  refine ⟨fun i j p q hi hj hpq => ?_, fun k q hk => ?_⟩
  · obtain ⟨p', a1, a2⟩ := key i p hi
    obtain ⟨q', b1, b2⟩ := key j q hj
    exact hD.1 i j p' q' a1 b1 (by rw [a2, b2]; exact hpq)
  · obtain ⟨p', a1, a2⟩ := key k q hk
    rw [← a2]
    exact hD.2 k p' a1
theorem nj_w (Λ : mm_Ly) (ad : Nat → Nat) (cA : Nat → ClassId) (M M' : mm_M) : (mm_w Λ ad cA M).map (fun q => q.1) = (mm_w Λ ad cA M').map (fun q => q.1) := by
  apply List.ext_getElem?
  intro j
  rw [List.getElem?_map, List.getElem?_map]
  unfold mm_w
  rw [List.getElem?_mapIdx, List.getElem?_mapIdx]
  cases Λ[j]? <;> rfl
theorem nj_len (Λ : mm_Ly) (ad : Nat → Nat) (cA : Nat → ClassId) (M : mm_M) : (mm_w Λ ad cA M).length = Λ.length := by
  simp [mm_w]
theorem nj_mid {A : Nat → Prop} {D : va_G} {Λ : mm_Ly} {ad : Nat → Nat} {cA : Nat → ClassId} {M M' : mm_M} {w1 w2 : va_W} {H H1 : Heap} (hP : va_P D vwCl (w1 ++ (mm_w Λ ad cA M ++ w2)) H) (hD : va_D A (w1 ++ (mm_w Λ ad cA M ++ w2))) (hk : ∀ q : Nat, q < H.size → ¬ mm_A Λ ad q → H1[q]? = H[q]?) (hP1 : va_P D vwCl (mm_w Λ ad cA M') H1) : va_P D vwCl (w1 ++ (mm_w Λ ad cA M' ++ w2)) H1 ∧ va_D A (w1 ++ (mm_w Λ ad cA M' ++ w2)) := by
  have apart : ∀ (i : Nat) (q : Nat × va_E), (w1 ++ (mm_w Λ ad cA M ++ w2))[i]? = some q → (i < w1.length ∨ w1.length + Λ.length ≤ i) → q.1 < H.size ∧ ¬ mm_A Λ ad q.1 := by
    intro i q hq hi
    refine ⟨(hP i q hq).lt, fun h => ?_⟩
    obtain ⟨k, h1, h2⟩ := h
    have hx : Λ[k]? = some Λ[k] := List.getElem?_eq_getElem h1
    have hm := mm_w_at (ad := ad) (cA := cA) (M := M) hx
    have := hD.1 i (w1.length + k) q _ hq (nj_r (nj_l hm)) h2
    omega
  refine ⟨va_P.app (fun k q hq => ?_) (va_P.app hP1 (fun k q hq => ?_)), nj_D ?_ hD⟩
  · obtain ⟨a1, a2⟩ := apart k q (nj_l hq) (Or.inl (List.getElem?_eq_some_iff.mp hq).1)
    exact (hP k q (nj_l hq)).kept (hk q.1 a1 a2)
  · have e : (w1 ++ (mm_w Λ ad cA M ++ w2))[w1.length + ((mm_w Λ ad cA M).length + k)]? = some q := nj_r (nj_r hq)
    obtain ⟨a1, a2⟩ := apart _ q e (Or.inr (by rw [nj_len]; omega))
    exact (hP _ q e).kept (hk q.1 a1 a2)
  · rw [List.map_append, List.map_append, List.map_append, List.map_append, nj_w Λ ad cA M M']
def nw_R (d mc ms : Nat) : Room := { frames := d, cells := mc, slots := ms, locals := 40 * d }
def nw_pre (D : va_G) (cA : Nat → ClassId) (q ci : Nat) (fs as : List Value) (sz : Nat) : Array Value → State → Prop := fun v U => v = (.ref q :: as).toArray ∧ U.heap.size = sz ∧ va_P D vwCl [(q, .inr (ci, fs))] U.heap ∧ va_K D vwCl (mm_tys cA) U ∧ mm_N U ∧ va_AO "WordsLent$Text" U ∧ va_AO "WordsLent$Sheet" U
theorem nw_blind {D : va_G} {cA : Nat → ClassId} {q ci : Nat} {fs as : List Value} {sz : Nat} : FrameBlind (nw_pre D cA q ci fs as sz) := fun a U g mk h => ⟨h.1, h.2.1, h.2.2.1, va_K.moved (u := U) (U := U.calling g mk a) (Vm.Alike.refl U.vm) h.2.2.2.1, mm_N.same (u := U) rfl h.2.2.2.2.1, va_AO.moved (u := U) (U := U.calling g mk a) (Vm.Alike.refl U.vm) h.2.2.2.2.2.1, va_AO.moved (u := U) (U := U.calling g mk a) (Vm.Alike.refl U.vm) h.2.2.2.2.2.2⟩
def nw_Q (D : va_G) (cA : Nat → ClassId) (q td : Nat) (A : Nat → Prop) (Λ : mm_Ly) (M : mm_M) : Array Value → State → Outcome → State → Prop := va_Qv (fun ad : Nat → Nat => ad 0 = q ∧ ad 1000 = td) (fun ad t => va_P D vwCl (mm_w Λ ad cA M) t.heap ∧ va_D A (mm_w Λ ad cA M)) A
/-- a constructor's contract: the new object's cells are those of the layout Λ, with what M says -/
def nw_E (y : MethodName) (cc' : ByteArray) (nL' ci : Nat) (fs as : List Value) (Λ : mm_Ly) (M : mm_M) (d mc ms : Nat) : Prop := ∀ (l : Launch) (D : va_G) (cA : Nat → ClassId) (q sz td : Nat), Met l y (.code y cc' nL' none :: mm_tb) (nw_R d mc ms) (nw_pre D cA q ci fs as sz) (nw_Q D cA q td (va_A [(q, .inr (ci, fs))] sz) Λ M) mc ms (va_A [(q, .inr (ci, fs))] sz)
theorem nw_E.of {y : MethodName} {cc' : ByteArray} {nL' ci : Nat} {fs as : List Value} {Λ : mm_Ly} {M : mm_M} {d mc ms : Nat} {own : String} {lv0 : Nat → List (Nat × Value)} (hy : plainName y.cls = true) (ho : y.cls = own) (hi : y.name = "<init>") (hlv : ∀ q, lv_args 0 (.ref q :: as) = lv0 q) (hn : ∀ q, (lg_sl (.ref q :: as)).length ≤ nL')
    (k : ∀ (p : Program) (l : Launch) (e : Env) (s : State) (m : MethodId) (below : List Frame) (meth : Method) (c : Code) (D : va_G) (cA : Nat → ClassId) (q td : Nat) (A : Nat → Prop), nw_Cx cc' nL' own D cA A p s m (.ref q :: as).toArray c → meth.name = "<init>" → meth.sig.returnType = none → meth.locks = false → nw_C p l e (nw_R d mc ms) s m (.ref q :: as).toArray below meth c D A nL' (MQ below (nw_Q D cA q td A Λ M) (.ref q :: as).toArray s mc ms A) 0 (lv0 q) [] [(q, .inr (ci, fs))] 0 0) : nw_E y cc' nL' ci fs as Λ M d mc ms := by
  subst ho
  intro l D cA q sz td
  refine Met.ofW (cc := cc') (maxL := nL') (ret := none) hy rfl ?_
  intro p e s m args below meth c s₁ B hml hv
  obtain ⟨rfl, hsz, hP, hK, hN, hO1, hO2⟩ := hv
  subst hsz
  have hts := atoms_spec (ws := .code y cc' nL' none :: mm_tb) B.pre
  have hname : meth.name = "<init>" := by rw [← hi]; exact (name_of_methodNamed B.named B.method).1
  rw [lg_entry_eq]
  have hl := lv_entry (.ref q :: as) (n := nL') (hn q)
  rw [hlv q] at hl
  exact k p l e s m below meth c D cA q td _ ⟨⟨B.exec, B.bytes, hml, findClass_of_methodNamed B.named, fun w hw => hts w (List.mem_cons_of_mem _ hw)⟩, hK, hN, fun z h => Or.inr h, hO1, hO2⟩ hname B.returns B.notSynchronized s.heap [] _ hP (nj_one (va_A.in (k := 0) rfl)) va_S.rf hl
section NWC
variable {p : Program} {l : Launch} {e : Env} {R : Room} {s : State} {m : MethodId} {args : Array Value} {below : List Frame} {meth : Method} {c : Code} {D : va_G} {A : Nat → Prop} {nL : Nat} {Q : State → Prop} {cc : ByteArray} {own : String} {cA : Nat → ClassId} {pc q : Nat} {lv lv' : List (Nat × Value)} {st : List Value} {ws ws' : va_W} {ce sl ce' sl' : Nat}
theorem nw_vret (X : nw_Cx cc nL own D cA A p s m args c) (hr : meth.sig.returnType = none) (hlk : meth.locks = false) {ad : Nat → Nat} {a td : Nat} {Λ : mm_Ly} {M : mm_M} (h0 : ad 0 = a ∧ ad 1000 = td) (hw : ws = mm_w Λ ad cA M) (hd : decode cc pc = .ok (.return_, 1)) : nw_C p l e R s m args below meth c D A nL (MQ below (nw_Q D cA a td A Λ M) args s ce sl A) pc lv [] ws ce sl := by
  subst hw
  intro H locs ls hP hD hS hL
  exact W.vret X.1.1 X.1.2.1 hr (fun t ht hW => ⟨⟨ad, rfl, h0, by rw [ht]; exact hP, hD⟩, hS.F ht⟩) hS.2.2 hd hlk
theorem nw_room {x : Nat × va_E} {H : Heap} {locs : List Loc} (X : nw_Cx cc nL own D cA A p s m args c) (hD : va_D A (ws ++ [x])) (hS : va_S A s.heap H locs) : ∀ q, va_A [x] H.size q → A q := by
  rintro z (⟨k, e0, h⟩ | h)
  · have hz : k < 1 := (List.getElem?_eq_some_iff.mp h).1
    have e1 : k = 0 := by omega
    subst e1
    exact hD.2 (ws.length + 0) (z, e0) (nj_r h)
  · exact X.2.2.2.1 z (Nat.le_trans hS.1 h)
theorem nw_callI (X : nw_Cx cc nL own D cA A p s m args c) {y : MethodName} {cc' : ByteArray} {nL' ci : Nat} {fs as stk : List Value} {Λ : mm_Ly} {M : mm_M} {d mc ms n ix a : Nat} (td : Nat) (E : nw_E y cc' nL' ci fs as Λ M d mc ms) (w1 : Cond.methodLink own ix y ∈ mm_tb) (w2 : Cond.instanceMethod y ∈ mm_tb) (w4 : Cond.initialized y.cls ∈ mm_tb) (w5 : Cond.code y cc' nL' none ∈ mm_tb) (w6 : mm_dsc y n) (hi : y.name = "<init>") (hn : as.length = n) (hR : d + 1 ≤ R.frames ∧ 8 + (nL' + 11) + 40 * d ≤ R.locals) (hst : (st.map fun v => v.category).sum ≤ 8) (hstk : stk = as.reverse ++ .ref a :: st) (hce : ce + mc ≤ R.cells) (hsl : sl + ms ≤ R.slots) (ece : ce + mc = ce') (esl : sl + ms = sl') (hd : decode cc pc = .ok (.invokespecial ix, 3)) (hq : pc + 3 = q) (k : ∀ ad : Nat → Nat, ad 0 = a → ad 1000 = td → nw_C p l e R s m args below meth c D A nL Q q lv st (ws ++ mm_w Λ ad cA M) ce' sl') : nw_C p l e R s m args below meth c D A nL Q pc lv stk (ws ++ [(a, .inr (ci, fs))]) ce sl := by
  subst hq
  subst ece
  subst esl
  subst hstk
  intro H locs ls hP hD hS hL
  have hPc : va_P D vwCl [(a, .inr (ci, fs))] H := fun j x hx => hP (ws.length + j) x (nj_r hx)
  have hFc := nw_room X hD hS
  refine va_callv (va_runI (As := as) (rest := st) ⟨X.1.1, X.1.2.1, X.1.2.2.1, X.1.2.2.2.1, X.1.2.2.2.2⟩ (E l D cA a H.size td) ⟨callB_of n X.1.2.2.2.2 (mm_tb_good w5) rfl rfl rfl (X.1.2.2.2.2 _ w4) (X.1.2.2.2.2 _ w1) w6 hR, hi, X.1.2.2.2.2 _ w2⟩ ⟨nw_blind, fun U hU hW => ⟨rfl, by rw [hU], by rw [hU]; exact hPc, va_K.moved hW.alike X.2.1, X.2.2.1.warm hW, va_AO.moved hW.alike X.2.2.2.2.1, va_AO.moved hW.alike X.2.2.2.2.2⟩⟩ rfl hn hL.1 rfl (lv_room hst) hd ⟨hce, hsl⟩) hS (fun q _ h => hFc q h) hFc (fun ad t H1 locs1 ht hvm hw hB hz1 hk1 hS1 => ?_)
  obtain ⟨hP1, hD1⟩ := hB
  rw [ht] at hP1
  obtain ⟨hP2, hD2⟩ := nj_join hP hD hk1 hFc hP1 hD1
  exact k ad hw.1 hw.2 H1 locs1 ls hP2 hD2 hS1 hL
theorem nw_callIN (X : nw_Cx cc nL own D cA A p s m args c) {y : MethodName} {cc' : ByteArray} {nL' ci : Nat} {fs as stk : List Value} {Λ : mm_Ly} {M : mm_M} {d mc ms n ix a : Nat} {host : String} (td : Nat) (E : nw_E y cc' nL' ci fs as Λ M d mc ms) (w1 : Cond.methodLinkNest own ix y host ∈ lw_tbl) (w2 : Cond.instanceMethod y ∈ mm_tb) (w4 : Cond.initialized y.cls ∈ mm_tb) (w5 : Cond.code y cc' nL' none ∈ mm_tb) (w6 : mm_dsc y n) (hi : y.name = "<init>") (hn : as.length = n) (hR : d + 1 ≤ R.frames ∧ 8 + (nL' + 11) + 40 * d ≤ R.locals) (hst : (st.map fun v => v.category).sum ≤ 8) (hstk : stk = as.reverse ++ .ref a :: st) (hce : ce + mc ≤ R.cells) (hsl : sl + ms ≤ R.slots) (ece : ce + mc = ce') (esl : sl + ms = sl') (hd : decode cc pc = .ok (.invokespecial ix, 3)) (hq : pc + 3 = q) (k : ∀ ad : Nat → Nat, ad 0 = a → ad 1000 = td → nw_C p l e R s m args below meth c D A nL Q q lv st (ws ++ mm_w Λ ad cA M) ce' sl') : nw_C p l e R s m args below meth c D A nL Q pc lv stk (ws ++ [(a, .inr (ci, fs))]) ce sl := by
  subst hq
  subst ece
  subst esl
  subst hstk
  intro H locs ls hP hD hS hL
  have hPc : va_P D vwCl [(a, .inr (ci, fs))] H := fun j x hx => hP (ws.length + j) x (nj_r hx)
  have hFc := nw_room X hD hS
  refine va_callv (va_runIN (As := as) (rest := st) (host := host) ⟨X.1.1, X.1.2.1, X.1.2.2.1, X.1.2.2.2.1, X.1.2.2.2.2⟩ (E l D cA a H.size td) ⟨va_cnB n X.1.2.2.2.2 (mm_tb_good w5) rfl rfl rfl (X.2.2.1 _ w1 rfl) (X.1.2.2.2.2 _ w4) w6 hR, hi, X.1.2.2.2.2 _ w2⟩ ⟨nw_blind, fun U hU hW => ⟨rfl, by rw [hU], by rw [hU]; exact hPc, va_K.moved hW.alike X.2.1, X.2.2.1.warm hW, va_AO.moved hW.alike X.2.2.2.2.1, va_AO.moved hW.alike X.2.2.2.2.2⟩⟩ rfl hn hL.1 rfl (lv_room hst) hd ⟨hce, hsl⟩) hS (fun q _ h => hFc q h) hFc (fun ad t H1 locs1 ht hvm hw hB hz1 hk1 hS1 => ?_)
  obtain ⟨hP1, hD1⟩ := hB
  rw [ht] at hP1
  obtain ⟨hP2, hD2⟩ := nj_join hP hD hk1 hFc hP1 hD1
  exact k ad hw.1 hw.2 H1 locs1 ls hP2 hD2 hS1 hL
/-- the one static, at the start -/
def nw_Z (td : Nat) (A : Nat → Prop) (s : State) : Prop := va_Z "WordsLent" "DIGEST_DAYS" "[I" (.ref td) A s s.heap ∧ va_T .int td 4 mm_dg A s s.heap
/-- a call of a method of an object that stands whole -/
theorem nw_call (X : nw_Cx cc nL own D cA A p s m args c) {β : Type} {Λ : mm_Ly} {y : MethodName} {cc' : ByteArray} {nL' d' n ix ci N td : Nat} {ret' : Option FieldType} {enc' : β → Option Value × mm_M} {as stk : List Value} {M : mm_M} {o' : Option β} {r : β} {fs : List (Option Nat)} {T : u_T} {w1 w2 : va_W} {ad : Nat → Nat} (hΛ : Λ[0]? = some (.inr (.inr (ci, fs)))) (hc : vwCl[ci]? = some (y.cls, T, N)) (E : mm_E Λ y cc' nL' ret' d' enc' (.ref 0 :: as) M o') (ho : o' = some r) (hsite : mm_sV own ix y cc' nL' ret' n) (hn : as.length = n) (hint : as.map (mm_cv ad) = as) (hres : (enc' r).1.map (mm_cv ad) = (enc' r).1) (hR : d' + 1 ≤ R.frames ∧ 8 + (nL' + 11) + 40 * d' ≤ R.locals) (hst : (st.map fun v => v.category).sum ≤ 8) (hZ : nw_Z td A s) (h1000 : ad 1000 = td) (hstk : stk = as.reverse ++ .ref (ad 0) :: st) (hce : ce ≤ R.cells) (hsl : sl ≤ R.slots) (hd : decode cc pc = .ok (.invokevirtual ix, 3)) (hq : pc + 3 = q) (k : nw_C p l e R s m args below meth c D A nL Q q lv ((enc' r).1.toList ++ st) (w1 ++ (mm_w Λ ad cA (enc' r).2 ++ w2)) ce sl) : nw_C p l e R s m args below meth c D A nL Q pc lv stk (w1 ++ (mm_w Λ ad cA M ++ w2)) ce sl := by
  subst hq
  subst hstk
  subst h1000
  intro H locs ls hP hD hS hL
  have hPm : va_P D vwCl (mm_w Λ ad cA M) H := fun j x hx => hP (w1.length + j) x (nj_r (nj_l hx))
  have at' : ∀ j, j < Λ.length → ∃ x, (w1 ++ (mm_w Λ ad cA M ++ w2))[w1.length + j]? = some (ad j, x) := fun j hj => ⟨_, nj_r (nj_l (mm_w_at (List.getElem?_eq_getElem hj)))⟩
  have hin : mm_in Λ ad := by
    intro i j hi hj hij
    obtain ⟨x, hx⟩ := at' i hi
    obtain ⟨z, hz⟩ := at' j hj
    have := hD.1 _ _ _ _ hx hz hij
    omega
  have hsub : ∀ z, mm_A Λ ad z → A z := by
    rintro z ⟨j, hj, rfl⟩
    obtain ⟨x, hx⟩ := at' j hj
    exact hD.2 _ _ hx
  obtain ⟨u1, u2, u3, u4, u5, u6, u7⟩ := hsite
  have hr := va_runV (p := p) (e := e) (R := R) (below := below) (meth := meth) (locs := locs) (cells := ce) (slots := sl) (g := F0 m pc ls (as.reverse ++ .ref (ad 0) :: st)) (H := H) (As := as) (rest := st) (b := ad 0) (C := y.cls) (n := n) (index := ix) (bytes := cc') (maxL := nL') (ret := ret') ⟨X.1.1, X.1.2.1, X.1.2.2.1, X.1.2.2.2.1, X.1.2.2.2.2⟩ (E r ho l D cA ad) ⟨callB_of n X.1.2.2.2.2 (mm_tb_good u5) rfl rfl rfl (X.1.2.2.2.2 _ u4) (X.1.2.2.2.2 _ u1) u6 hR, X.1.2.2.2.2 _ u2, X.1.2.2.2.2 _ u3⟩ ⟨mm_blind (as := .ref 0 :: as), va_recv X.2.1 hPm hc (mm_w_at hΛ), fun U hU hW => ⟨by rw [List.map_cons, hint]; rfl, ⟨va_K.moved hW.alike X.2.1, X.2.2.1.warm hW, hin, ((hZ.1.moved hW.alike).kept (fun z a b => by rw [hU]; exact hS.2.1 z a b)).narrow hsub, ((hZ.2.moved hW.alike).kept (fun z a b => by rw [hU]; exact hS.2.1 z a b)).narrow hsub⟩, by rw [hU]; exact hPm⟩⟩ rfl hn hL.1 rfl (lv_room hst) hd ⟨hce, hsl⟩
  intro T hT XX
  obtain ⟨v, st₀, t, T', L, h0, X', hL', e1, e2, ⟨hv, hp, hz, hk⟩, stp⟩ := hr T hT XX
  cases hv
  rw [h0] at hz hk
  obtain ⟨hP2, hD2⟩ := nj_mid hP hD hk hp
  rw [← e1] at hP2
  obtain ⟨t2, a1, b1⟩ := k T'.heap (locs ++ L) ls hP2 hD2
    ⟨Nat.le_trans hS.1 (by rw [e1]; exact hz), fun z h1 h2 => by rw [e1, hk z (Nat.lt_of_lt_of_le h1 hS.1) (fun w => h2 (hsub z w))]; exact hS.2.1 z h1 h2, fun z hz => by
      rcases List.mem_append.mp hz with h | h
      · exact hS.2.2 z h
      · exact hsub _ (hL' z h)⟩ hL T' rfl X'
  rw [hres] at stp
  exact ⟨t2, stp t2 a1, b1⟩
end NWC
