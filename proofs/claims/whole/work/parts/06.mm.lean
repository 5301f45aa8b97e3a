/-! THE ABSTRACT MACHINE: a world of cells that are made once (arrays of ints, arrays of references, objects); its state is a memory of ints, by cell and place. -/
abbrev mm_M : Type := Nat → Nat → Int32
abbrev mm_Ds : Type := Nat ⊕ ((List Nat × Nat) ⊕ (Nat × List (Option Nat)))
abbrev mm_Ly : Type := List mm_Ds
def mm_up (M : mm_M) (k : Nat) (f : Nat → Int32) : mm_M := fun q => if q = k then f else M q
def mm_wr (M : mm_M) (k i : Nat) (x : Int32) : mm_M := mm_up M k (upd (M k) i x)
/-- an item of an array of n ints; none: the machine would throw -/
def mm_rd (M : mm_M) (k n : Nat) (i : Int32) : Option Int32 := if i < 0 ∨ n ≤ i.toNatClampNeg then none else some (M k i.toNatClampNeg)
def mm_wa (M : mm_M) (k n : Nat) (i x : Int32) : Option mm_M := if i < 0 ∨ n ≤ i.toNatClampNeg then none else some (mm_wr M k i.toNatClampNeg x)
def mm_pf (M : mm_M) (k j : Nat) (x : Int32) : Option mm_M := some (mm_wr M k j x)
def mm_ra (rs : List Nat) (i : Int32) : Option Nat := if i < 0 ∨ rs.length ≤ i.toNatClampNeg then none else rs[i.toNatClampNeg]?
def mm_dv (x y : Int32) : Option Int32 := if y = 0 then none else some (x / y)
def mm_rm (x y : Int32) : Option Int32 := if y = 0 then none else some (x - x / y * y)
def mm_ldv (x y : Int64) : Option Int64 := if y = 0 then none else some (x / y)
def mm_lrm (x y : Int64) : Option Int64 := if y = 0 then none else some (x - x / y * y)
def mm_zb (x : Int32) : Option Int32 := if x = 0 ∨ x = 1 then some x else none
/-- System.arraycopy from cell k (n0 items) to cell k1 (n1 items) -/
def mm_cp (M : mm_M) (k n0 : Nat) (sp : Int32) (k1 n1 : Nat) (dp n : Int32) : Option mm_M := if sp < 0 ∨ dp < 0 ∨ n < 0 ∨ n0 < sp.toNatClampNeg + n.toNatClampNeg ∨ n1 < dp.toNatClampNeg + n.toNatClampNeg then none else some (mm_up M k1 (va_cpy (M k) (M k1) sp.toNatClampNeg dp.toNatClampNeg n.toNatClampNeg))
def mm_cv (ad : Nat → Nat) : Value → Value
  | .ref k => .ref (ad k)
  | v => v
theorem mm_cv_cat (ad : Nat → Nat) (v : Value) : (mm_cv ad v).category = v.category := by cases v <;> rfl
def mm_fv (ad : Nat → Nat) (f : Nat → Int32) (j : Nat) (q : Option Nat) : Value := match q with
  | some k => .ref (ad k)
  | none => .int (f j)
def mm_cell (ad : Nat → Nat) (cA : Nat → ClassId) (f : Nat → Int32) (d : mm_Ds) : va_E := match d with
  | .inl n => .inl (cA 0, n, .inl f)
  | .inr (.inl r) => .inl (cA r.2, r.1.length, .inr (.inr (.inr (.inr (fun j => (r.1[j]?).map ad)))))
  | .inr (.inr o) => .inr (o.1, o.2.mapIdx (mm_fv ad f))
def mm_w (Λ : mm_Ly) (ad : Nat → Nat) (cA : Nat → ClassId) (M : mm_M) : va_W := Λ.mapIdx (fun k d => (ad k, mm_cell ad cA (M k) d))
theorem mm_w_at {Λ : mm_Ly} {ad : Nat → Nat} {cA : Nat → ClassId} {M : mm_M} {k : Nat} {d : mm_Ds} (h : Λ[k]? = some d) : (mm_w Λ ad cA M)[k]? = some (ad k, mm_cell ad cA (M k) d) := by
  simp [mm_w, List.getElem?_mapIdx, h]
theorem mm_w_of {Λ : mm_Ly} {ad : Nat → Nat} {cA : Nat → ClassId} {M : mm_M} {k : Nat} {q : Nat × va_E} (h : (mm_w Λ ad cA M)[k]? = some q) : ∃ d, Λ[k]? = some d ∧ q = (ad k, mm_cell ad cA (M k) d) := by
  simp only [mm_w, List.getElem?_mapIdx, Option.map_eq_some_iff] at h
  obtain ⟨d, h1, h2⟩ := h
  exact ⟨d, h1, h2.symm⟩
theorem mm_w_up {Λ : mm_Ly} {ad : Nat → Nat} {cA : Nat → ClassId} {M : mm_M} {k : Nat} {d : mm_Ds} {f : Nat → Int32} {E : va_E} (h : Λ[k]? = some d) (he : E = mm_cell ad cA f d) : (mm_w Λ ad cA M).set k (ad k, E) = mm_w Λ ad cA (mm_up M k f) := by
  subst he
  apply List.ext_getElem?
  intro j
  by_cases hj : j = k
  · subst hj
    rw [mm_w_at h]
    have hl : j < (mm_w Λ ad cA M).length := by
      have := (List.getElem?_eq_some_iff.mp h).1
      simpa [mm_w] using this
    rw [List.getElem?_set_self hl]
    simp [mm_up]
  · rw [List.getElem?_set_ne (Ne.symm hj)]
    simp [mm_w, List.getElem?_mapIdx, mm_up, hj]
theorem mm_w_arr {Λ : mm_Ly} {ad : Nat → Nat} {cA : Nat → ClassId} {M : mm_M} {k n : Nat} {f : Nat → Int32} (h : Λ[k]? = some (.inl n)) : (mm_w Λ ad cA M).set k (ad k, .inl (cA 0, n, .inl f)) = mm_w Λ ad cA (mm_up M k f) := mm_w_up h rfl
theorem mm_w_obj {ad : Nat → Nat} {f : Nat → Int32} {ci : Nat} {fs : List (Option Nat)} {cA : Nat → ClassId} {j : Nat} {x : Int32} (h : fs[j]? = some none) : (.inr (ci, (fs.mapIdx (mm_fv ad f)).set j (.int x)) : va_E) = mm_cell ad cA (upd f j x) (.inr (.inr (ci, fs))) := by
  show _ = (.inr (ci, fs.mapIdx (mm_fv ad (upd f j x))) : va_E)
  congr 2
  apply List.ext_getElem?
  intro i
  by_cases hi : i = j
  · subst hi
    have hl : i < (fs.mapIdx (mm_fv ad f)).length := by
      have := (List.getElem?_eq_some_iff.mp h).1
      simpa using this
    rw [List.getElem?_set_self hl, List.getElem?_mapIdx, h]
    simp [mm_fv, upd]
  · rw [List.getElem?_set_ne (Ne.symm hi), List.getElem?_mapIdx, List.getElem?_mapIdx]
    cases hf : fs[i]? with
    | none => rfl
    | some q => cases q with
      | none => simp [mm_fv, upd, hi]
      | some k => simp [mm_fv]
def mm_A (Λ : mm_Ly) (ad : Nat → Nat) : Nat → Prop := fun q => ∃ k, k < Λ.length ∧ q = ad k
def mm_in (Λ : mm_Ly) (ad : Nat → Nat) : Prop := ∀ i j, i < Λ.length → j < Λ.length → ad i = ad j → i = j
theorem mm_D {Λ : mm_Ly} {ad : Nat → Nat} {cA : Nat → ClassId} {M : mm_M} (h : mm_in Λ ad) : va_D (mm_A Λ ad) (mm_w Λ ad cA M) := by
  refine ⟨fun i j p q hi hj hpq => ?_, fun k q hk => ?_⟩
  · obtain ⟨d, h1, rfl⟩ := mm_w_of hi
    obtain ⟨d2, h2, rfl⟩ := mm_w_of hj
    exact h i j (List.getElem?_eq_some_iff.mp h1).1 (List.getElem?_eq_some_iff.mp h2).1 hpq
  · obtain ⟨d, h1, rfl⟩ := mm_w_of hk
    exact ⟨k, (List.getElem?_eq_some_iff.mp h1).1, rfl⟩
def mm_tys (cA : Nat → ClassId) : List (ClassId × FieldType) := [(cA 0, .int), (cA 1, .object "WordsLent$Text"), (cA 2, .object "WordsLent$Sheet")]
def mm_isN : Cond → Bool
  | .fieldLinkNest _ _ _ _ _ _ => true
  | .methodLinkNest _ _ _ _ => true
  | _ => false
def mm_tb : List Cond := lw_tbl.filter goodWord
theorem mm_tb_in {w : Cond} (h : w ∈ lw_tbl) (hg : goodWord w = true) : w ∈ mm_tb := List.mem_filter.mpr ⟨h, hg⟩
theorem mm_tb_good {w : Cond} (h : w ∈ mm_tb) : GoodIn mm_tb (w :: mm_tb) := fun v hv => by
  have hm : v ∈ mm_tb := by
    rcases List.mem_cons.mp hv with e | e
    · rw [e]; exact h
    · exact e
  exact ⟨hm, good_of_word (List.mem_filter.mp hm).2⟩
def mm_N (U : State) : Prop := ∀ w ∈ lw_tbl, mm_isN w = true → va_Nw w U
theorem mm_N.warm {s U : State} (hW : s.WarmedH U.vm) (h : mm_N s) : mm_N U := by
  intro w hw hn
  have h1 := h w hw hn
  cases w <;> simp [mm_isN] at hn
  · first | exact va_Nw.warmF hW h1 | exact va_Nw.warmM hW h1
  · first | exact va_Nw.warmF hW h1 | exact va_Nw.warmM hW h1
theorem mm_N.same {u U : State} (hv : u.vm = U.vm) (h : mm_N u) : mm_N U := by
  intro w hw hn
  have h1 := h w hw hn
  cases w <;> simp [mm_isN] at hn
  · exact va_Nw.same rfl hv h1
  · exact va_Nw.same rfl hv h1
/-- the one static: a table of four days, at the address of the place 1000 -/
def mm_dg : Nat → Value := fun j => .int (([0, 6, 13, 23] : List Int32).getD j 0)
def mm_Z (Λ : mm_Ly) (ad : Nat → Nat) (U : State) (H : Heap) : Prop := va_Z "WordsLent" "DIGEST_DAYS" "[I" (.ref (ad 1000)) (mm_A Λ ad) U H ∧ va_T .int (ad 1000) 4 mm_dg (mm_A Λ ad) U H
def mm_X (Λ : mm_Ly) (D : va_G) (cA : Nat → ClassId) (ad : Nat → Nat) (U : State) : Prop := va_K D vwCl (mm_tys cA) U ∧ mm_N U ∧ mm_in Λ ad ∧ mm_Z Λ ad U U.heap
theorem mm_X.same {Λ : mm_Ly} {D : va_G} {cA : Nat → ClassId} {ad : Nat → Nat} {u U : State} (hv : u.vm = U.vm) (hh : u.heap = U.heap) (h : mm_X Λ D cA ad u) : mm_X Λ D cA ad U := by
  obtain ⟨h1, h2, h3, h4, h5⟩ := h
  have ha : u.vm.Alike U.vm := by rw [hv]; exact Vm.Alike.refl _
  refine ⟨va_K.moved ha h1, h2.same hv, h3, ?_, ?_⟩
  · rw [← hh]; exact h4.moved ha
  · rw [← hh]; exact h5.moved ha
theorem mm_X.on {Λ : mm_Ly} {D : va_G} {cA : Nat → ClassId} {ad : Nat → Nat} {s U : State} {locs : List Loc} (hW : s.WarmedH U.vm) (hS : va_S (mm_A Λ ad) s.heap U.heap locs) (h : mm_X Λ D cA ad s) : mm_X Λ D cA ad U := by
  obtain ⟨h1, h2, h3, h4, h5⟩ := h
  exact ⟨va_K.moved hW.alike h1, h2.warm hW, h3, (h4.moved hW.alike).kept (fun a l n => hS.2.1 a l n), (h5.moved hW.alike).kept (fun a l n => hS.2.1 a l n)⟩
def mm_R (d : Nat) : Room := { frames := d, cells := 0, slots := 0, locals := 40 * d }
def mm_Q (Λ : mm_Ly) (D : va_G) (cA : Nat → ClassId) (ad : Nat → Nat) (r : Option Value × mm_M) : Array Value → State → Outcome → State → Prop := fun _ st oc t => oc = .returned (r.1.map (mm_cv ad)) ∧ va_P D vwCl (mm_w Λ ad cA r.2) t.heap ∧ va_F (mm_A Λ ad) st t
/-- the locals, by their numbers -/
def mm_L (ad : Nat → Nat) (sl : Array Slot) (nL : Nat) (ls : List (Option Value)) : Prop := sl.size = nL ∧ lv_wf sl ∧ ∀ (i : Nat) (v : Value), ls[i]? = some (some v) → sl[i]? = some (.val (mm_cv ad v))
def mm_pl (ad : Nat → Nat) (ls : List (Option Value)) : List (Nat × Value) := ls.zipIdx.filterMap (fun q => q.1.map (fun v => (q.2, mm_cv ad v)))
theorem mm_pl_mem {ad : Nat → Nat} {ls : List (Option Value)} {q : Nat × Value} : q ∈ mm_pl ad ls ↔ ∃ v, ls[q.1]? = some (some v) ∧ q.2 = mm_cv ad v := by
  unfold mm_pl
  rw [List.mem_filterMap]
  constructor
  · rintro ⟨⟨o, i⟩, h1, h2⟩
    rw [List.mem_zipIdx_iff_getElem?] at h1
    cases o with
    | none => cases h2
    | some v =>
      cases h2
      exact ⟨v, h1, rfl⟩
  · rintro ⟨v, h1, h2⟩
    refine ⟨(some v, q.1), List.mem_zipIdx_iff_getElem?.mpr h1, ?_⟩
    show some (q.1, mm_cv ad v) = some q
    rw [← h2]
theorem mm_L.pl {ad : Nat → Nat} {sl : Array Slot} {nL : Nat} {ls : List (Option Value)} (h : mm_L ad sl nL ls) : lv_has sl nL (mm_pl ad ls) := by
  refine ⟨h.1, h.2.1, fun q hq => ?_⟩
  obtain ⟨v, h1, h2⟩ := mm_pl_mem.mp hq
  rw [h2]
  exact h.2.2 q.1 v h1
def mm_ok1 (ls : List (Option Value)) : Nat → Bool
  | 0 => true
  | i + 1 => match ls[i]? with
    | some (some v) => v.category != 2
    | _ => true
theorem mm_L.st1 {ad : Nat → Nat} {sl : Array Slot} {nL i : Nat} {ls : List (Option Value)} {v : Value} (hk : mm_ok1 ls i = true) (h : lv_has sl nL ((i, mm_cv ad v) :: (mm_pl ad ls).filter (fun q => !(q.1 == i) && !(q.1 + 1 == i && q.2.category == 2)))) : mm_L ad sl nL (ls.set i (some v)) := by
  refine ⟨h.1, h.2.1, fun j u hj => ?_⟩
  by_cases hji : j = i
  · subst hji
    have hl : j < ls.length := by
      have := (List.getElem?_eq_some_iff.mp hj).1
      simpa using this
    rw [List.getElem?_set_self hl] at hj
    cases hj
    exact h.2.2 _ List.mem_cons_self
  · rw [List.getElem?_set_ne (Ne.symm hji)] at hj
    refine h.2.2 (j, mm_cv ad u) (List.mem_cons_of_mem _ (List.mem_filter.mpr ⟨mm_pl_mem.mpr ⟨u, hj, rfl⟩, ?_⟩))
    simp only [Bool.and_eq_true, Bool.not_eq_true', beq_eq_false_iff_ne, ne_eq, Bool.and_eq_false_iff]
    refine ⟨hji, ?_⟩
    by_cases hj1 : j + 1 = i
    · right
      subst hj1
      simp only [mm_ok1, hj] at hk
      rw [mm_cv_cat]
      simpa using hk
    · exact Or.inl hj1
theorem mm_L.st2 {ad : Nat → Nat} {sl : Array Slot} {nL i : Nat} {ls : List (Option Value)} {v : Value} (hk : mm_ok1 ls i = true) (h : lv_has sl nL ((i, mm_cv ad v) :: (mm_pl ad ls).filter (fun q => !(q.1 == i) && (!(q.1 == i + 1) && !(q.1 + 1 == i && q.2.category == 2))))) : mm_L ad sl nL ((ls.set i (some v)).set (i + 1) none) := by
  refine ⟨h.1, h.2.1, fun j u hj => ?_⟩
  by_cases hj2 : j = i + 1
  · subst hj2
    by_cases hl : i + 1 < (ls.set i (some v)).length
    · rw [List.getElem?_set_self hl] at hj
      cases hj
    · rw [List.getElem?_eq_none (by simpa using hl)] at hj
      cases hj
  rw [List.getElem?_set_ne (Ne.symm hj2)] at hj
  by_cases hji : j = i
  · subst hji
    have hl : j < ls.length := by
      have := (List.getElem?_eq_some_iff.mp hj).1
      simpa using this
    rw [List.getElem?_set_self hl] at hj
    cases hj
    exact h.2.2 _ List.mem_cons_self
  · rw [List.getElem?_set_ne (Ne.symm hji)] at hj
    refine h.2.2 (j, mm_cv ad u) (List.mem_cons_of_mem _ (List.mem_filter.mpr ⟨mm_pl_mem.mpr ⟨u, hj, rfl⟩, ?_⟩))
    simp only [Bool.and_eq_true, Bool.not_eq_true', beq_eq_false_iff_ne, ne_eq, Bool.and_eq_false_iff]
    refine ⟨hji, hj2, ?_⟩
    by_cases hj1 : j + 1 = i
    · right
      subst hj1
      simp only [mm_ok1, hj] at hk
      rw [mm_cv_cat]
      simpa using hk
    · exact Or.inl hj1
def mm_a0 : List Value → List (Option Value)
  | [] => []
  | v :: vs => if v.category = 2 then some v :: none :: mm_a0 vs else some v :: mm_a0 vs
theorem mm_a0_at (ad : Nat → Nat) : ∀ (vs : List Value) (b i : Nat) (v : Value), (mm_a0 vs)[i]? = some (some v) → (b + i, mm_cv ad v) ∈ lv_args b (vs.map (mm_cv ad))
  | [], b, i, v, h => by simp [mm_a0] at h
  | u :: vs, b, i, v, h => by
    simp only [List.map_cons, lv_args, mm_cv_cat]
    by_cases hc : u.category = 2
    · simp only [mm_a0, hc, if_true] at h ⊢
      match i, h with
      | 0, h =>
        simp at h
        rw [h]
        exact List.mem_cons_self
      | 1, h => simp at h
      | i + 2, h =>
        have := mm_a0_at ad vs (b + 2) i v (by simpa using h)
        rw [show b + (i + 2) = b + 2 + i by omega]
        exact List.mem_cons_of_mem _ this
    · simp only [mm_a0, hc, if_false] at h ⊢
      match i, h with
      | 0, h =>
        simp at h
        rw [h]
        exact List.mem_cons_self
      | i + 1, h =>
        have := mm_a0_at ad vs (b + 1) i v (by simpa using h)
        rw [show b + (i + 1) = b + 1 + i by omega]
        exact List.mem_cons_of_mem _ this
theorem mm_a0_len (ad : Nat → Nat) : ∀ vs : List Value, (lg_sl (vs.map (mm_cv ad))).length = (mm_a0 vs).length
  | [] => rfl
  | u :: vs => by
    have ih := mm_a0_len ad vs
    simp only [lg_sl] at ih ⊢
    by_cases hc : u.category = 2
    · simp [mm_cv_cat, hc, mm_a0]
      simpa using ih
    · simp [mm_cv_cat, hc, mm_a0]
      simpa using ih
def mm_Cx (cc : ByteArray) (nL : Nat) (own : String) (ret : Option FieldType) (p : Program) (s : State) (m : MethodId) (args : Array Value) (meth : Method) (c : Code) : Prop :=
  p.tables.exec = Jvm.exec ∧ c.code = cc ∧ c.maxLocals = nL ∧ s.vm.findClass own = some m.cls ∧ (∀ w ∈ mm_tb, w.before args s = true) ∧ meth.sig.returnType = ret ∧ meth.locks = false
theorem mm_Cx.fix {cc : ByteArray} {nL : Nat} {own : String} {ret : Option FieldType} {p : Program} {s : State} {m : MethodId} {args : Array Value} {meth : Method} {c : Code} (h : mm_Cx cc nL own ret p s m args meth c) : CallFix p m c cc nL s args mm_tb own := ⟨h.1, h.2.1, h.2.2.1, h.2.2.2.1, h.2.2.2.2.1⟩
theorem mm_Cx.ts {cc : ByteArray} {nL : Nat} {own : String} {ret : Option FieldType} {p : Program} {s : State} {m : MethodId} {args : Array Value} {meth : Method} {c : Code} (h : mm_Cx cc nL own ret p s m args meth c) {w : Cond} (hw : w ∈ mm_tb) : w.before args s = true := h.2.2.2.2.1 w hw
/-- from pc, with these locals, this stack, this memory, the method comes to its end with what o says (nothing is said where o is none) -/
def mm_C {α : Type} (Λ : mm_Ly) (cc : ByteArray) (nL : Nat) (own : String) (ret : Option FieldType) (d : Nat) (enc : α → Option Value × mm_M) (pc : Nat) (ls : List (Option Value)) (st : List Value) (M : mm_M) (o : Option α) : Prop :=
  ∀ (a : α), o = some a → ∀ (p : Program) (l : Launch) (e : Env) (s : State) (m : MethodId) (args : Array Value) (below : List Frame) (meth : Method) (c : Code) (D : va_G) (cA : Nat → ClassId) (ad : Nat → Nat) (H : Heap) (locs : List Loc) (sl : Array Slot),
    mm_Cx cc nL own ret p s m args meth c → mm_X Λ D cA ad s → va_P D vwCl (mm_w Λ ad cA M) H → va_S (mm_A Λ ad) s.heap H locs → mm_L ad sl nL ls →
    W p l e (mm_R d) s m args below meth c H locs 0 0 (MQ below (mm_Q Λ D cA ad (enc a)) args s 0 0 (mm_A Λ ad)) (F0 m pc sl (st.map (mm_cv ad)))
/-- a method's contract: called with these arguments over this memory it answers what o says -/
def mm_E {α : Type} (Λ : mm_Ly) (y : MethodName) (cc : ByteArray) (nL : Nat) (ret : Option FieldType) (d : Nat) (enc : α → Option Value × mm_M) (as : List Value) (M : mm_M) (o : Option α) : Prop :=
  ∀ (a : α), o = some a → ∀ (l : Launch) (D : va_G) (cA : Nat → ClassId) (ad : Nat → Nat), Met l y (.code y cc nL ret :: mm_tb) (mm_R d) (fun v U => v = (as.map (mm_cv ad)).toArray ∧ mm_X Λ D cA ad U ∧ va_P D vwCl (mm_w Λ ad cA M) U.heap) (mm_Q Λ D cA ad (enc a)) 0 0 (mm_A Λ ad)
theorem mm_E.of {α : Type} {Λ : mm_Ly} {y : MethodName} {cc : ByteArray} {nL : Nat} {ret : Option FieldType} {d : Nat} {enc : α → Option Value × mm_M} {as : List Value} {M : mm_M} {o : Option α} {own : String} {ls : List (Option Value)} (hy : plainName y.cls = true) (ho : y.cls = own)
    (hl : mm_a0 as ++ List.replicate (nL - (mm_a0 as).length) none = ls) (hn : (mm_a0 as).length ≤ nL) (k : mm_C Λ cc nL own ret d enc 0 ls [] M o) : mm_E Λ y cc nL ret d enc as M o := by
  subst ho
  subst hl
  intro a ha l D cA ad
  refine Met.ofW (cc := cc) (maxL := nL) (ret := ret) hy rfl ?_
  intro p e s m args below meth c s₁ B hml hv
  obtain ⟨rfl, hX, hP⟩ := hv
  have hts := atoms_spec (ws := .code y cc nL ret :: mm_tb) B.pre
  rw [lg_entry_eq]
  refine k a ha p l e s m _ below meth c D cA ad s.heap [] _ ⟨B.exec, B.bytes, hml, findClass_of_methodNamed B.named, fun w hw => hts w (List.mem_cons_of_mem _ hw), B.returns, B.notSynchronized⟩ hX hP va_S.rf ?_
  obtain ⟨e1, e2, e3⟩ := lv_entry (as.map (mm_cv ad)) (n := nL) (by rw [mm_a0_len]; exact hn)
  refine ⟨e1, e2, fun i v hv => ?_⟩
  have hi : (mm_a0 as)[i]? = some (some v) := by
    by_cases hlt : i < (mm_a0 as).length
    · rwa [List.getElem?_append_left hlt] at hv
    · rw [List.getElem?_append_right (by omega)] at hv
      have := List.mem_of_getElem? hv
      rw [List.mem_replicate] at this
      cases this.2
  have := mm_a0_at ad as 0 i v hi
  rw [Nat.zero_add] at this
  exact e3 _ this
abbrev mm_eI : Int32 × mm_M → Option Value × mm_M := fun r => (some (.int r.1), r.2)
abbrev mm_eL : Int64 × mm_M → Option Value × mm_M := fun r => (some (.long r.1), r.2)
abbrev mm_eV : mm_M → Option Value × mm_M := fun r => (none, r)
abbrev mm_pI (M : mm_M) : Int32 → Option Value × mm_M := fun r => (some (.int r), M)
abbrev mm_pL (M : mm_M) : Int64 → Option Value × mm_M := fun r => (some (.long r), M)
section MMR
variable {α : Type} {Λ : mm_Ly} {cc : ByteArray} {nL : Nat} {own : String} {ret : Option FieldType} {d : Nat} {enc : α → Option Value × mm_M} {pc q : Nat} {ls ls' : List (Option Value)} {st : List Value} {M : mm_M} {o : Option α}
theorem mm_none : mm_C Λ cc nL own ret d enc pc ls st M none := fun a h => by cases h
theorem mm_eq {o' : Option α} (e : o = o') (k : mm_C Λ cc nL own ret d enc pc ls st M o') : mm_C Λ cc nL own ret d enc pc ls st M o := e ▸ k
/-- locals may be forgotten -/
theorem mm_drop (h : ∀ (i : Nat) (v : Value), ls'[i]? = some (some v) → ls[i]? = some (some v)) (k : mm_C Λ cc nL own ret d enc pc ls' st M o) : mm_C Λ cc nL own ret d enc pc ls st M o :=
  fun a ha p l e s m args below meth c D cA ad H locs sl hC hX hP hS hL => k a ha p l e s m args below meth c D cA ad H locs sl hC hX hP hS ⟨hL.1, hL.2.1, fun i v hv => hL.2.2 i v (h i v hv)⟩
def mm_sub : List (Option Value) → List (Option Value) → Prop
  | [], _ => True
  | none :: l, [] => mm_sub l []
  | none :: l, _ :: r => mm_sub l r
  | some _ :: _, [] => False
  | some v :: l, q :: r => q = some v ∧ mm_sub l r
theorem mm_sub_at : ∀ (l r : List (Option Value)), mm_sub l r → ∀ (i : Nat) (v : Value), l[i]? = some (some v) → r[i]? = some (some v)
  | [], _, _, i, v, h => by simp at h
  | none :: l, [], hs, i, v, h => by
    cases i with
    | zero => simp at h
    | succ i => have := mm_sub_at l [] hs i v (by simpa using h); simp at this
  | none :: l, _ :: r, hs, i, v, h => by
    cases i with
    | zero => simp at h
    | succ i => have := mm_sub_at l r hs i v (by simpa using h); simpa using this
  | some _ :: _, [], hs, _, _, _ => hs.elim
  | some u :: l, q :: r, hs, i, v, h => by
    cases i with
    | zero => simp at h; simp [hs.1, h]
    | succ i => have := mm_sub_at l r hs.2 i v (by simpa using h); simpa using this

theorem mm_iconst {n : Int} {v : Int32}  (hd : decode cc pc = .ok (.iconst n, 1)) (hq : pc + 1 = q) (hv : Int32.ofInt n = v) (k : mm_C Λ cc nL own ret d enc q ls (.int v :: st) M o) : mm_C Λ cc nL own ret d enc pc ls st M o := by
  subst hq
  intro a ha p l e s m args below meth c D cA ad H locs sl hC hX hP hS hL
  exact lv_iconst hC.1 hC.2.1 hd hv (k a ha p l e s m args below meth c D cA ad H locs sl hC hX hP hS hL)
theorem mm_bipush {n : Int} {v : Int32}  (hd : decode cc pc = .ok (.bipush n, 2)) (hq : pc + 2 = q) (hv : (Int8.ofInt n).toInt32 = v) (k : mm_C Λ cc nL own ret d enc q ls (.int v :: st) M o) : mm_C Λ cc nL own ret d enc pc ls st M o := by
  subst hq
  intro a ha p l e s m args below meth c D cA ad H locs sl hC hX hP hS hL
  exact lv_bipush hC.1 hC.2.1 hd hv (k a ha p l e s m args below meth c D cA ad H locs sl hC hX hP hS hL)
theorem mm_sipush {n : Int} {v : Int32}  (hd : decode cc pc = .ok (.sipush n, 3)) (hq : pc + 3 = q) (hv : (Int16.ofInt n).toInt32 = v) (k : mm_C Λ cc nL own ret d enc q ls (.int v :: st) M o) : mm_C Λ cc nL own ret d enc pc ls st M o := by
  subst hq
  intro a ha p l e s m args below meth c D cA ad H locs sl hC hX hP hS hL
  exact lv_sipush hC.1 hC.2.1 hd hv (k a ha p l e s m args below meth c D cA ad H locs sl hC hX hP hS hL)
theorem mm_lconst {n : Fin 2} {v : Int64}  (hd : decode cc pc = .ok (.lconst n, 1)) (hq : pc + 1 = q) (hv : Int64.ofNat (n : Nat) = v) (k : mm_C Λ cc nL own ret d enc q ls (.long v :: st) M o) : mm_C Λ cc nL own ret d enc pc ls st M o := by
  subst hq
  intro a ha p l e s m args below meth c D cA ad H locs sl hC hX hP hS hL
  exact lv_lconst hC.1 hC.2.1 hd hv (k a ha p l e s m args below meth c D cA ad H locs sl hC hX hP hS hL)
theorem mm_ldc {ix : Nat} {v : Int32}  (hd : decode cc pc = .ok (.ldc ix, 2)) (hq : pc + 2 = q) (hw : Cond.constant own ix v ∈ mm_tb) (k : mm_C Λ cc nL own ret d enc q ls (.int v :: st) M o) : mm_C Λ cc nL own ret d enc pc ls st M o := by
  subst hq
  intro a ha p l e s m args below meth c D cA ad H locs sl hC hX hP hS hL
  exact lv_ldc hC.1 hC.2.1 hC.2.2.2.1 (hC.ts hw) hd (k a ha p l e s m args below meth c D cA ad H locs sl hC hX hP hS hL)
theorem mm_ldcw {ix : Nat} {v : Int32}  (hd : decode cc pc = .ok (.ldc_w ix, 3)) (hq : pc + 3 = q) (hw : Cond.constant own ix v ∈ mm_tb) (k : mm_C Λ cc nL own ret d enc q ls (.int v :: st) M o) : mm_C Λ cc nL own ret d enc pc ls st M o := by
  subst hq
  intro a ha p l e s m args below meth c D cA ad H locs sl hC hX hP hS hL
  exact lv_ldcw hC.1 hC.2.1 hC.2.2.2.1 (hC.ts hw) hd (k a ha p l e s m args below meth c D cA ad H locs sl hC hX hP hS hL)
theorem mm_ldc2 {ix : Nat} {v : Int64}  (hd : decode cc pc = .ok (.ldc2_w ix, 3)) (hq : pc + 3 = q) (hw : Cond.constantLong own ix v ∈ mm_tb) (k : mm_C Λ cc nL own ret d enc q ls (.long v :: st) M o) : mm_C Λ cc nL own ret d enc pc ls st M o := by
  subst hq
  intro a ha p l e s m args below meth c D cA ad H locs sl hC hX hP hS hL
  exact lv_ldc2 hC.1 hC.2.1 hC.2.2.2.1 (hC.ts hw) hd (k a ha p l e s m args below meth c D cA ad H locs sl hC hX hP hS hL)
theorem mm_iload_n {f : Fin 4} {i : Nat} {x : Int32}  (hd : decode cc pc = .ok (.iload_n f, 1)) (hq : pc + 1 = q) (hi : (f : Nat) = i) (hl : ls[i]? = some (some (.int x))) (k : mm_C Λ cc nL own ret d enc q ls (.int x :: st) M o) : mm_C Λ cc nL own ret d enc pc ls st M o := by
  subst hq
  intro a ha p l e s m args below meth c D cA ad H locs sl hC hX hP hS hL
  exact lv_iload_n hC.1 hC.2.1 hd hi (hL.2.2 i _ hl) (k a ha p l e s m args below meth c D cA ad H locs sl hC hX hP hS hL)
theorem mm_iload {i : Nat} {x : Int32}  (hd : decode cc pc = .ok (.iload i, 2)) (hq : pc + 2 = q) (hl : ls[i]? = some (some (.int x))) (k : mm_C Λ cc nL own ret d enc q ls (.int x :: st) M o) : mm_C Λ cc nL own ret d enc pc ls st M o := by
  subst hq
  intro a ha p l e s m args below meth c D cA ad H locs sl hC hX hP hS hL
  exact lv_iload hC.1 hC.2.1 hd (hL.2.2 i _ hl) (k a ha p l e s m args below meth c D cA ad H locs sl hC hX hP hS hL)
theorem mm_lload_n {f : Fin 4} {i : Nat} {x : Int64}  (hd : decode cc pc = .ok (.lload_n f, 1)) (hq : pc + 1 = q) (hi : (f : Nat) = i) (hl : ls[i]? = some (some (.long x))) (k : mm_C Λ cc nL own ret d enc q ls (.long x :: st) M o) : mm_C Λ cc nL own ret d enc pc ls st M o := by
  subst hq
  intro a ha p l e s m args below meth c D cA ad H locs sl hC hX hP hS hL
  exact lv_lload_n hC.1 hC.2.1 hd hi (hL.2.2 i _ hl) (k a ha p l e s m args below meth c D cA ad H locs sl hC hX hP hS hL)
theorem mm_lload {i : Nat} {x : Int64}  (hd : decode cc pc = .ok (.lload i, 2)) (hq : pc + 2 = q) (hl : ls[i]? = some (some (.long x))) (k : mm_C Λ cc nL own ret d enc q ls (.long x :: st) M o) : mm_C Λ cc nL own ret d enc pc ls st M o := by
  subst hq
  intro a ha p l e s m args below meth c D cA ad H locs sl hC hX hP hS hL
  exact lv_lload hC.1 hC.2.1 hd (hL.2.2 i _ hl) (k a ha p l e s m args below meth c D cA ad H locs sl hC hX hP hS hL)
theorem mm_aload_n {f : Fin 4} {i : Nat} {x : Nat}  (hd : decode cc pc = .ok (.aload_n f, 1)) (hq : pc + 1 = q) (hi : (f : Nat) = i) (hl : ls[i]? = some (some (.ref x))) (k : mm_C Λ cc nL own ret d enc q ls (.ref x :: st) M o) : mm_C Λ cc nL own ret d enc pc ls st M o := by
  subst hq
  intro a ha p l e s m args below meth c D cA ad H locs sl hC hX hP hS hL
  exact lv_aload_n hC.1 hC.2.1 hd hi (hL.2.2 i _ hl) (k a ha p l e s m args below meth c D cA ad H locs sl hC hX hP hS hL)
theorem mm_aload {i : Nat} {x : Nat}  (hd : decode cc pc = .ok (.aload i, 2)) (hq : pc + 2 = q) (hl : ls[i]? = some (some (.ref x))) (k : mm_C Λ cc nL own ret d enc q ls (.ref x :: st) M o) : mm_C Λ cc nL own ret d enc pc ls st M o := by
  subst hq
  intro a ha p l e s m args below meth c D cA ad H locs sl hC hX hP hS hL
  exact lv_aload hC.1 hC.2.1 hd (hL.2.2 i _ hl) (k a ha p l e s m args below meth c D cA ad H locs sl hC hX hP hS hL)
theorem mm_istore_n {f : Fin 4} {i : Nat} {x : Int32}  (hd : decode cc pc = .ok (.istore_n f, 1)) (hq : pc + 1 = q) (hi : (f : Nat) = i) (hk : mm_ok1 ls i = true) (hn : i < nL) (hs : ls.set i (some (.int x)) = ls') (k : mm_C Λ cc nL own ret d enc q ls' st M o) : mm_C Λ cc nL own ret d enc pc ls (.int x :: st) M o := by
  subst hq
  subst hs
  intro a ha p l e s m args below meth c D cA ad H locs sl hC hX hP hS hL
  exact lv_istore_n hC.1 hC.2.1 hd hi hL.pl hn rfl (fun sl' hl' => k a ha p l e s m args below meth c D cA ad H locs sl' hC hX hP hS (mm_L.st1 (v := .int x) hk hl'))
theorem mm_istore {i : Nat} {x : Int32} (hd : decode cc pc = .ok (.istore i, 2)) (hq : pc + 2 = q)  (hk : mm_ok1 ls i = true) (hn : i < nL) (hs : ls.set i (some (.int x)) = ls') (k : mm_C Λ cc nL own ret d enc q ls' st M o) : mm_C Λ cc nL own ret d enc pc ls (.int x :: st) M o := by
  subst hq
  subst hs
  intro a ha p l e s m args below meth c D cA ad H locs sl hC hX hP hS hL
  exact lv_istore hC.1 hC.2.1 hd hL.pl hn rfl (fun sl' hl' => k a ha p l e s m args below meth c D cA ad H locs sl' hC hX hP hS (mm_L.st1 (v := .int x) hk hl'))
theorem mm_lstore_n {f : Fin 4} {i : Nat} {x : Int64}  (hd : decode cc pc = .ok (.lstore_n f, 1)) (hq : pc + 1 = q) (hi : (f : Nat) = i) (hk : mm_ok1 ls i = true) (hn : i + 1 < nL) (hs : (ls.set i (some (.long x))).set (i + 1) none = ls') (k : mm_C Λ cc nL own ret d enc q ls' st M o) : mm_C Λ cc nL own ret d enc pc ls (.long x :: st) M o := by
  subst hq
  subst hs
  intro a ha p l e s m args below meth c D cA ad H locs sl hC hX hP hS hL
  exact lv_lstore_n hC.1 hC.2.1 hd hi hL.pl hn rfl (fun sl' hl' => k a ha p l e s m args below meth c D cA ad H locs sl' hC hX hP hS (mm_L.st2 (v := .long x) hk hl'))
theorem mm_lstore {i : Nat} {x : Int64} (hd : decode cc pc = .ok (.lstore i, 2)) (hq : pc + 2 = q)  (hk : mm_ok1 ls i = true) (hn : i + 1 < nL) (hs : (ls.set i (some (.long x))).set (i + 1) none = ls') (k : mm_C Λ cc nL own ret d enc q ls' st M o) : mm_C Λ cc nL own ret d enc pc ls (.long x :: st) M o := by
  subst hq
  subst hs
  intro a ha p l e s m args below meth c D cA ad H locs sl hC hX hP hS hL
  exact lv_lstore hC.1 hC.2.1 hd hL.pl hn rfl (fun sl' hl' => k a ha p l e s m args below meth c D cA ad H locs sl' hC hX hP hS (mm_L.st2 (v := .long x) hk hl'))
theorem mm_astore_n {f : Fin 4} {i : Nat} {x : Nat}  (hd : decode cc pc = .ok (.astore_n f, 1)) (hq : pc + 1 = q) (hi : (f : Nat) = i) (hk : mm_ok1 ls i = true) (hn : i < nL) (hs : ls.set i (some (.ref x)) = ls') (k : mm_C Λ cc nL own ret d enc q ls' st M o) : mm_C Λ cc nL own ret d enc pc ls (.ref x :: st) M o := by
  subst hq
  subst hs
  intro a ha p l e s m args below meth c D cA ad H locs sl hC hX hP hS hL
  exact lv_astore_n hC.1 hC.2.1 hd hi hL.pl hn rfl (fun sl' hl' => k a ha p l e s m args below meth c D cA ad H locs sl' hC hX hP hS (mm_L.st1 (v := .ref x) hk hl'))
theorem mm_astore {i : Nat} {x : Nat} (hd : decode cc pc = .ok (.astore i, 2)) (hq : pc + 2 = q)  (hk : mm_ok1 ls i = true) (hn : i < nL) (hs : ls.set i (some (.ref x)) = ls') (k : mm_C Λ cc nL own ret d enc q ls' st M o) : mm_C Λ cc nL own ret d enc pc ls (.ref x :: st) M o := by
  subst hq
  subst hs
  intro a ha p l e s m args below meth c D cA ad H locs sl hC hX hP hS hL
  exact lv_astore hC.1 hC.2.1 hd hL.pl hn rfl (fun sl' hl' => k a ha p l e s m args below meth c D cA ad H locs sl' hC hX hP hS (mm_L.st1 (v := .ref x) hk hl'))
theorem mm_iinc {i : Nat} {n : Int} {x v : Int32} (hd : decode cc pc = .ok (.iinc i n, 3)) (hq : pc + 3 = q) (hl : ls[i]? = some (some (.int x))) (hv : x + Int32.ofInt n = v) (hk : mm_ok1 ls i = true) (hn : i < nL) (hs : ls.set i (some (.int v)) = ls') (k : mm_C Λ cc nL own ret d enc q ls' st M o) : mm_C Λ cc nL own ret d enc pc ls st M o := by
  subst hq
  subst hs
  intro a ha p l e s m args below meth c D cA ad H locs sl hC hX hP hS hL
  have hm : (i, Value.int x) ∈ mm_pl ad ls := mm_pl_mem.mpr ⟨.int x, hl, rfl⟩
  obtain ⟨z, hz⟩ := List.getElem?_of_mem hm
  exact lv_iinc (v := v) hC.1 hC.2.1 hd hL.pl hz hv hn rfl (fun sl' hl' => k a ha p l e s m args below meth c D cA ad H locs sl' hC hX hP hS (mm_L.st1 (v := .int v) hk hl'))
theorem mm_iadd {x y : Int32} (hd : decode cc pc = .ok (.iadd, 1)) (hq : pc + 1 = q)  (k : mm_C Λ cc nL own ret d enc q ls (.int (x + y) :: st) M o) : mm_C Λ cc nL own ret d enc pc ls (.int y :: .int x :: st) M o := by
  subst hq
  intro a ha p l e s m args below meth c D cA ad H locs sl hC hX hP hS hL
  exact lv_iadd hC.1 hC.2.1 hd (k a ha p l e s m args below meth c D cA ad H locs sl hC hX hP hS hL)
theorem mm_isub {x y : Int32} (hd : decode cc pc = .ok (.isub, 1)) (hq : pc + 1 = q)  (k : mm_C Λ cc nL own ret d enc q ls (.int (x - y) :: st) M o) : mm_C Λ cc nL own ret d enc pc ls (.int y :: .int x :: st) M o := by
  subst hq
  intro a ha p l e s m args below meth c D cA ad H locs sl hC hX hP hS hL
  exact lv_isub hC.1 hC.2.1 hd (k a ha p l e s m args below meth c D cA ad H locs sl hC hX hP hS hL)
theorem mm_imul {x y : Int32} (hd : decode cc pc = .ok (.imul, 1)) (hq : pc + 1 = q)  (k : mm_C Λ cc nL own ret d enc q ls (.int (x * y) :: st) M o) : mm_C Λ cc nL own ret d enc pc ls (.int y :: .int x :: st) M o := by
  subst hq
  intro a ha p l e s m args below meth c D cA ad H locs sl hC hX hP hS hL
  exact lv_imul hC.1 hC.2.1 hd (k a ha p l e s m args below meth c D cA ad H locs sl hC hX hP hS hL)
theorem mm_iand {x y : Int32} (hd : decode cc pc = .ok (.iand, 1)) (hq : pc + 1 = q)  (k : mm_C Λ cc nL own ret d enc q ls (.int (x &&& y) :: st) M o) : mm_C Λ cc nL own ret d enc pc ls (.int y :: .int x :: st) M o := by
  subst hq
  intro a ha p l e s m args below meth c D cA ad H locs sl hC hX hP hS hL
  exact lv_iand hC.1 hC.2.1 hd (k a ha p l e s m args below meth c D cA ad H locs sl hC hX hP hS hL)
theorem mm_ior {x y : Int32} (hd : decode cc pc = .ok (.ior, 1)) (hq : pc + 1 = q)  (k : mm_C Λ cc nL own ret d enc q ls (.int (x ||| y) :: st) M o) : mm_C Λ cc nL own ret d enc pc ls (.int y :: .int x :: st) M o := by
  subst hq
  intro a ha p l e s m args below meth c D cA ad H locs sl hC hX hP hS hL
  exact lv_ior hC.1 hC.2.1 hd (k a ha p l e s m args below meth c D cA ad H locs sl hC hX hP hS hL)
theorem mm_ixor {x y : Int32} (hd : decode cc pc = .ok (.ixor, 1)) (hq : pc + 1 = q)  (k : mm_C Λ cc nL own ret d enc q ls (.int (x ^^^ y) :: st) M o) : mm_C Λ cc nL own ret d enc pc ls (.int y :: .int x :: st) M o := by
  subst hq
  intro a ha p l e s m args below meth c D cA ad H locs sl hC hX hP hS hL
  exact lv_ixor hC.1 hC.2.1 hd (k a ha p l e s m args below meth c D cA ad H locs sl hC hX hP hS hL)
theorem mm_ishl {x y : Int32} (hd : decode cc pc = .ok (.ishl, 1)) (hq : pc + 1 = q)  (k : mm_C Λ cc nL own ret d enc q ls (.int (x <<< (y &&& 31)) :: st) M o) : mm_C Λ cc nL own ret d enc pc ls (.int y :: .int x :: st) M o := by
  subst hq
  intro a ha p l e s m args below meth c D cA ad H locs sl hC hX hP hS hL
  exact lv_ishl hC.1 hC.2.1 hd (k a ha p l e s m args below meth c D cA ad H locs sl hC hX hP hS hL)
theorem mm_ishr {x y : Int32} (hd : decode cc pc = .ok (.ishr, 1)) (hq : pc + 1 = q)  (k : mm_C Λ cc nL own ret d enc q ls (.int (x >>> (y &&& 31)) :: st) M o) : mm_C Λ cc nL own ret d enc pc ls (.int y :: .int x :: st) M o := by
  subst hq
  intro a ha p l e s m args below meth c D cA ad H locs sl hC hX hP hS hL
  exact lv_ishr hC.1 hC.2.1 hd (k a ha p l e s m args below meth c D cA ad H locs sl hC hX hP hS hL)
theorem mm_ladd {x y : Int64} (hd : decode cc pc = .ok (.ladd, 1)) (hq : pc + 1 = q)  (k : mm_C Λ cc nL own ret d enc q ls (.long (x + y) :: st) M o) : mm_C Λ cc nL own ret d enc pc ls (.long y :: .long x :: st) M o := by
  subst hq
  intro a ha p l e s m args below meth c D cA ad H locs sl hC hX hP hS hL
  exact lv_ladd hC.1 hC.2.1 hd (k a ha p l e s m args below meth c D cA ad H locs sl hC hX hP hS hL)
theorem mm_lsub {x y : Int64} (hd : decode cc pc = .ok (.lsub, 1)) (hq : pc + 1 = q)  (k : mm_C Λ cc nL own ret d enc q ls (.long (x - y) :: st) M o) : mm_C Λ cc nL own ret d enc pc ls (.long y :: .long x :: st) M o := by
  subst hq
  intro a ha p l e s m args below meth c D cA ad H locs sl hC hX hP hS hL
  exact lv_lsub hC.1 hC.2.1 hd (k a ha p l e s m args below meth c D cA ad H locs sl hC hX hP hS hL)
theorem mm_lmul {x y : Int64} (hd : decode cc pc = .ok (.lmul, 1)) (hq : pc + 1 = q)  (k : mm_C Λ cc nL own ret d enc q ls (.long (x * y) :: st) M o) : mm_C Λ cc nL own ret d enc pc ls (.long y :: .long x :: st) M o := by
  subst hq
  intro a ha p l e s m args below meth c D cA ad H locs sl hC hX hP hS hL
  exact lv_lmul hC.1 hC.2.1 hd (k a ha p l e s m args below meth c D cA ad H locs sl hC hX hP hS hL)
theorem mm_land {x y : Int64} (hd : decode cc pc = .ok (.land, 1)) (hq : pc + 1 = q)  (k : mm_C Λ cc nL own ret d enc q ls (.long (x &&& y) :: st) M o) : mm_C Λ cc nL own ret d enc pc ls (.long y :: .long x :: st) M o := by
  subst hq
  intro a ha p l e s m args below meth c D cA ad H locs sl hC hX hP hS hL
  exact lv_land hC.1 hC.2.1 hd (k a ha p l e s m args below meth c D cA ad H locs sl hC hX hP hS hL)
def mm_ushr (x y : Int32) : Int32 := (x.toUInt32 >>> (y.toUInt32 &&& Int32.toUInt32 31)).toInt32
theorem mm_iushr {x y : Int32} (hd : decode cc pc = .ok (.iushr, 1)) (hq : pc + 1 = q)  (k : mm_C Λ cc nL own ret d enc q ls (.int (mm_ushr x y) :: st) M o) : mm_C Λ cc nL own ret d enc pc ls (.int y :: .int x :: st) M o := by
  subst hq
  intro a ha p l e s m args below meth c D cA ad H locs sl hC hX hP hS hL
  exact lv_iushr hC.1 hC.2.1 hd rfl (k a ha p l e s m args below meth c D cA ad H locs sl hC hX hP hS hL)
theorem mm_lshl {x : Int64} {y : Int32} (hd : decode cc pc = .ok (.lshl, 1)) (hq : pc + 1 = q)  (k : mm_C Λ cc nL own ret d enc q ls (.long (x <<< (y.toInt64 &&& 63)) :: st) M o) : mm_C Λ cc nL own ret d enc pc ls (.int y :: .long x :: st) M o := by
  subst hq
  intro a ha p l e s m args below meth c D cA ad H locs sl hC hX hP hS hL
  exact lv_lshl hC.1 hC.2.1 hd rfl (k a ha p l e s m args below meth c D cA ad H locs sl hC hX hP hS hL)
theorem mm_lshr {x : Int64} {y : Int32} (hd : decode cc pc = .ok (.lshr, 1)) (hq : pc + 1 = q)  (k : mm_C Λ cc nL own ret d enc q ls (.long (x >>> (y.toInt64 &&& 63)) :: st) M o) : mm_C Λ cc nL own ret d enc pc ls (.int y :: .long x :: st) M o := by
  subst hq
  intro a ha p l e s m args below meth c D cA ad H locs sl hC hX hP hS hL
  exact lv_lshr hC.1 hC.2.1 hd rfl (k a ha p l e s m args below meth c D cA ad H locs sl hC hX hP hS hL)
theorem mm_lcmp {x y : Int64} (hd : decode cc pc = .ok (.lcmp, 1)) (hq : pc + 1 = q)  (k : mm_C Λ cc nL own ret d enc q ls (.int (lg_cmp x y) :: st) M o) : mm_C Λ cc nL own ret d enc pc ls (.long y :: .long x :: st) M o := by
  subst hq
  intro a ha p l e s m args below meth c D cA ad H locs sl hC hX hP hS hL
  exact W.lcmp hC.1 hC.2.1 hd (k a ha p l e s m args below meth c D cA ad H locs sl hC hX hP hS hL)
theorem mm_i2l {x : Int32} (hd : decode cc pc = .ok (.i2l, 1)) (hq : pc + 1 = q)  (k : mm_C Λ cc nL own ret d enc q ls (.long x.toInt64 :: st) M o) : mm_C Λ cc nL own ret d enc pc ls (.int x :: st) M o := by
  subst hq
  intro a ha p l e s m args below meth c D cA ad H locs sl hC hX hP hS hL
  exact lv_i2l hC.1 hC.2.1 hd rfl (k a ha p l e s m args below meth c D cA ad H locs sl hC hX hP hS hL)
theorem mm_i2b {x : Int32} (hd : decode cc pc = .ok (.i2b, 1)) (hq : pc + 1 = q)  (k : mm_C Λ cc nL own ret d enc q ls (.int x.toInt8.toInt32 :: st) M o) : mm_C Λ cc nL own ret d enc pc ls (.int x :: st) M o := by
  subst hq
  intro a ha p l e s m args below meth c D cA ad H locs sl hC hX hP hS hL
  exact lv_i2b hC.1 hC.2.1 hd rfl (k a ha p l e s m args below meth c D cA ad H locs sl hC hX hP hS hL)
theorem mm_i2s {x : Int32} (hd : decode cc pc = .ok (.i2s, 1)) (hq : pc + 1 = q)  (k : mm_C Λ cc nL own ret d enc q ls (.int x.toInt16.toInt32 :: st) M o) : mm_C Λ cc nL own ret d enc pc ls (.int x :: st) M o := by
  subst hq
  intro a ha p l e s m args below meth c D cA ad H locs sl hC hX hP hS hL
  exact lv_i2s hC.1 hC.2.1 hd rfl (k a ha p l e s m args below meth c D cA ad H locs sl hC hX hP hS hL)
theorem mm_dup {v : Value}  (hd : decode cc pc = .ok (.dup, 1)) (hq : pc + 1 = q) (hv : v.category = 1) (k : mm_C Λ cc nL own ret d enc q ls (v :: v :: st) M o) : mm_C Λ cc nL own ret d enc pc ls (v :: st) M o := by
  subst hq
  intro a ha p l e s m args below meth c D cA ad H locs sl hC hX hP hS hL
  exact lv_dup hC.1 hC.2.1 hd (by rw [mm_cv_cat]; exact hv) (k a ha p l e s m args below meth c D cA ad H locs sl hC hX hP hS hL)
theorem mm_pop {v : Value}  (hd : decode cc pc = .ok (.pop, 1)) (hq : pc + 1 = q) (hv : v.category = 1) (k : mm_C Λ cc nL own ret d enc q ls st M o) : mm_C Λ cc nL own ret d enc pc ls (v :: st) M o := by
  subst hq
  intro a ha p l e s m args below meth c D cA ad H locs sl hC hX hP hS hL
  exact lv_pop hC.1 hC.2.1 hd (by rw [mm_cv_cat]; exact hv) (k a ha p l e s m args below meth c D cA ad H locs sl hC hX hP hS hL)
theorem mm_dup2 {v u : Value}  (hd : decode cc pc = .ok (.dup2, 1)) (hq : pc + 1 = q) (hv : v.category = 1) (hu : u.category = 1) (k : mm_C Λ cc nL own ret d enc q ls (v :: u :: v :: u :: st) M o) : mm_C Λ cc nL own ret d enc pc ls (v :: u :: st) M o := by
  subst hq
  intro a ha p l e s m args below meth c D cA ad H locs sl hC hX hP hS hL
  exact lv_dup2_11 hC.1 hC.2.1 hd (by rw [mm_cv_cat]; exact hv) (by rw [mm_cv_cat]; exact hu) (k a ha p l e s m args below meth c D cA ad H locs sl hC hX hP hS hL)
theorem mm_idivC {x y : Int32}  (hd : decode cc pc = .ok (.idiv, 1)) (hq : pc + 1 = q) (hy : ¬ y = 0) (k : mm_C Λ cc nL own ret d enc q ls (.int (x / y) :: st) M o) : mm_C Λ cc nL own ret d enc pc ls (.int y :: .int x :: st) M o := by
  subst hq
  intro a ha p l e s m args below meth c D cA ad H locs sl hC hX hP hS hL
  exact lv_idiv hC.1 hC.2.1 hd hy (k a ha p l e s m args below meth c D cA ad H locs sl hC hX hP hS hL)
theorem mm_iremC {x y : Int32}  (hd : decode cc pc = .ok (.irem, 1)) (hq : pc + 1 = q) (hy : ¬ y = 0) (k : mm_C Λ cc nL own ret d enc q ls (.int (x - x / y * y) :: st) M o) : mm_C Λ cc nL own ret d enc pc ls (.int y :: .int x :: st) M o := by
  subst hq
  intro a ha p l e s m args below meth c D cA ad H locs sl hC hX hP hS hL
  exact lv_irem hC.1 hC.2.1 hd hy (k a ha p l e s m args below meth c D cA ad H locs sl hC hX hP hS hL)
theorem mm_idiv {x y : Int32} {g : Int32 → Option α} (hd : decode cc pc = .ok (.idiv, 1)) (hq : pc + 1 = q) (k : ∀ z, mm_dv x y = some z → mm_C Λ cc nL own ret d enc q ls (.int z :: st) M (g z)) : mm_C Λ cc nL own ret d enc pc ls (.int y :: .int x :: st) M ((mm_dv x y).bind g) := by
  by_cases hy : y = 0
  · rw [show mm_dv x y = none by simp [mm_dv, hy]]
    exact mm_none
  · have hz : mm_dv x y = some (x / y) := by simp [mm_dv, hy]
    have := k _ hz
    rw [hz]
    exact mm_idivC hd hq hy this
theorem mm_irem {x y : Int32} {g : Int32 → Option α} (hd : decode cc pc = .ok (.irem, 1)) (hq : pc + 1 = q) (k : ∀ z, mm_rm x y = some z → mm_C Λ cc nL own ret d enc q ls (.int z :: st) M (g z)) : mm_C Λ cc nL own ret d enc pc ls (.int y :: .int x :: st) M ((mm_rm x y).bind g) := by
  by_cases hy : y = 0
  · rw [show mm_rm x y = none by simp [mm_rm, hy]]
    exact mm_none
  · have hz : mm_rm x y = some (x - x / y * y) := by simp [mm_rm, hy]
    have := k _ hz
    rw [hz]
    exact mm_iremC hd hq hy this
theorem mm_ldivC {x y : Int64}  (hd : decode cc pc = .ok (.ldiv, 1)) (hq : pc + 1 = q) (hy : ¬ y = 0) (k : mm_C Λ cc nL own ret d enc q ls (.long (x / y) :: st) M o) : mm_C Λ cc nL own ret d enc pc ls (.long y :: .long x :: st) M o := by
  subst hq
  intro a ha p l e s m args below meth c D cA ad H locs sl hC hX hP hS hL
  exact lv_ldiv hC.1 hC.2.1 hd hy (k a ha p l e s m args below meth c D cA ad H locs sl hC hX hP hS hL)
theorem mm_lremC {x y : Int64}  (hd : decode cc pc = .ok (.lrem, 1)) (hq : pc + 1 = q) (hy : ¬ y = 0) (k : mm_C Λ cc nL own ret d enc q ls (.long (x - x / y * y) :: st) M o) : mm_C Λ cc nL own ret d enc pc ls (.long y :: .long x :: st) M o := by
  subst hq
  intro a ha p l e s m args below meth c D cA ad H locs sl hC hX hP hS hL
  exact lv_lrem hC.1 hC.2.1 hd hy (k a ha p l e s m args below meth c D cA ad H locs sl hC hX hP hS hL)
theorem mm_ldiv {x y : Int64} {g : Int64 → Option α} (hd : decode cc pc = .ok (.ldiv, 1)) (hq : pc + 1 = q) (k : ∀ z, mm_ldv x y = some z → mm_C Λ cc nL own ret d enc q ls (.long z :: st) M (g z)) : mm_C Λ cc nL own ret d enc pc ls (.long y :: .long x :: st) M ((mm_ldv x y).bind g) := by
  by_cases hy : y = 0
  · rw [show mm_ldv x y = none by simp [mm_ldv, hy]]
    exact mm_none
  · have hz : mm_ldv x y = some (x / y) := by simp [mm_ldv, hy]
    have := k _ hz
    rw [hz]
    exact mm_ldivC hd hq hy this
theorem mm_lrem {x y : Int64} {g : Int64 → Option α} (hd : decode cc pc = .ok (.lrem, 1)) (hq : pc + 1 = q) (k : ∀ z, mm_lrm x y = some z → mm_C Λ cc nL own ret d enc q ls (.long z :: st) M (g z)) : mm_C Λ cc nL own ret d enc pc ls (.long y :: .long x :: st) M ((mm_lrm x y).bind g) := by
  by_cases hy : y = 0
  · rw [show mm_lrm x y = none by simp [mm_lrm, hy]]
    exact mm_none
  · have hz : mm_lrm x y = some (x - x / y * y) := by simp [mm_lrm, hy]
    have := k _ hz
    rw [hz]
    exact mm_lremC hd hq hy this
theorem mm_goto {off : Int} {tgt : Nat} (hd : decode cc pc = .ok (.goto off, 3)) (ht : (pc : Int) + off = (tgt : Int)) (k : mm_C Λ cc nL own ret d enc tgt ls st M o) : mm_C Λ cc nL own ret d enc pc ls st M o := by
  intro a ha p l e s m args below meth c D cA ad H locs sl hC hX hP hS hL
  exact lv_goto hC.1 hC.2.1 hd ht (k a ha p l e s m args below meth c D cA ad H locs sl hC hX hP hS hL)
theorem mm_if_eq {x : Int32} {off : Int} {tgt : Nat} {A B : Option α} (hd : decode cc pc = .ok (.ifCond .eq off, 3)) (hq : pc + 3 = q) (ht : (pc : Int) + off = (tgt : Int)) (kt : x = 0 → mm_C Λ cc nL own ret d enc tgt ls st M A) (kf : ¬ x = 0 → mm_C Λ cc nL own ret d enc q ls st M B) : mm_C Λ cc nL own ret d enc pc ls (.int x :: st) M (if x = 0 then A else B) := by
  subst hq
  intro a ha p l e s m args below meth c D cA ad H locs sl hC hX hP hS hL
  exact lv_if_eq hC.1 hC.2.1 hd ht (fun h => by rw [if_pos h] at ha; exact kt h a ha p l e s m args below meth c D cA ad H locs sl hC hX hP hS hL) (fun h => by rw [if_neg h] at ha; exact kf h a ha p l e s m args below meth c D cA ad H locs sl hC hX hP hS hL)
theorem mm_if_eq_t {x : Int32} {off : Int} {tgt : Nat} (h0 : x = 0) (hd : decode cc pc = .ok (.ifCond .eq off, 3)) (ht : (pc : Int) + off = (tgt : Int)) (k : mm_C Λ cc nL own ret d enc tgt ls st M o) : mm_C Λ cc nL own ret d enc pc ls (.int x :: st) M o := by
  intro a ha p l e s m args below meth c D cA ad H locs sl hC hX hP hS hL
  exact lv_if_eq hC.1 hC.2.1 hd ht (fun _ => (k a ha p l e s m args below meth c D cA ad H locs sl hC hX hP hS hL)) (fun h => absurd h0 h)
theorem mm_if_eq_f {x : Int32} {off : Int} {tgt : Nat} (h0 : ¬ x = 0) (hd : decode cc pc = .ok (.ifCond .eq off, 3)) (hq : pc + 3 = q) (ht : (pc : Int) + off = (tgt : Int)) (k : mm_C Λ cc nL own ret d enc q ls st M o) : mm_C Λ cc nL own ret d enc pc ls (.int x :: st) M o := by
  subst hq
  intro a ha p l e s m args below meth c D cA ad H locs sl hC hX hP hS hL
  exact lv_if_eq hC.1 hC.2.1 hd ht (fun h => absurd h h0) (fun _ => (k a ha p l e s m args below meth c D cA ad H locs sl hC hX hP hS hL))
theorem mm_icmp_eq {x y : Int32} {off : Int} {tgt : Nat} {A B : Option α} (hd : decode cc pc = .ok (.if_icmp .eq off, 3)) (hq : pc + 3 = q) (ht : (pc : Int) + off = (tgt : Int)) (kt : x = y → mm_C Λ cc nL own ret d enc tgt ls st M A) (kf : ¬ x = y → mm_C Λ cc nL own ret d enc q ls st M B) : mm_C Λ cc nL own ret d enc pc ls (.int y :: .int x :: st) M (if x = y then A else B) := by
  subst hq
  intro a ha p l e s m args below meth c D cA ad H locs sl hC hX hP hS hL
  exact lv_icmp_eq hC.1 hC.2.1 hd ht (fun h => by rw [if_pos h] at ha; exact kt h a ha p l e s m args below meth c D cA ad H locs sl hC hX hP hS hL) (fun h => by rw [if_neg h] at ha; exact kf h a ha p l e s m args below meth c D cA ad H locs sl hC hX hP hS hL)
theorem mm_icmp_eq_t {x y : Int32} {off : Int} {tgt : Nat} (h0 : x = y) (hd : decode cc pc = .ok (.if_icmp .eq off, 3)) (ht : (pc : Int) + off = (tgt : Int)) (k : mm_C Λ cc nL own ret d enc tgt ls st M o) : mm_C Λ cc nL own ret d enc pc ls (.int y :: .int x :: st) M o := by
  intro a ha p l e s m args below meth c D cA ad H locs sl hC hX hP hS hL
  exact lv_icmp_eq hC.1 hC.2.1 hd ht (fun _ => (k a ha p l e s m args below meth c D cA ad H locs sl hC hX hP hS hL)) (fun h => absurd h0 h)
theorem mm_icmp_eq_f {x y : Int32} {off : Int} {tgt : Nat} (h0 : ¬ x = y) (hd : decode cc pc = .ok (.if_icmp .eq off, 3)) (hq : pc + 3 = q) (ht : (pc : Int) + off = (tgt : Int)) (k : mm_C Λ cc nL own ret d enc q ls st M o) : mm_C Λ cc nL own ret d enc pc ls (.int y :: .int x :: st) M o := by
  subst hq
  intro a ha p l e s m args below meth c D cA ad H locs sl hC hX hP hS hL
  exact lv_icmp_eq hC.1 hC.2.1 hd ht (fun h => absurd h h0) (fun _ => (k a ha p l e s m args below meth c D cA ad H locs sl hC hX hP hS hL))
theorem mm_if_ne {x : Int32} {off : Int} {tgt : Nat} {A B : Option α} (hd : decode cc pc = .ok (.ifCond .ne off, 3)) (hq : pc + 3 = q) (ht : (pc : Int) + off = (tgt : Int)) (kt : x = 0 → mm_C Λ cc nL own ret d enc q ls st M A) (kf : ¬ x = 0 → mm_C Λ cc nL own ret d enc tgt ls st M B) : mm_C Λ cc nL own ret d enc pc ls (.int x :: st) M (if x = 0 then A else B) := by
  subst hq
  intro a ha p l e s m args below meth c D cA ad H locs sl hC hX hP hS hL
  exact lv_if_ne hC.1 hC.2.1 hd ht (fun h => by rw [if_neg h] at ha; exact kf h a ha p l e s m args below meth c D cA ad H locs sl hC hX hP hS hL) (fun h => by rw [if_pos h] at ha; exact kt h a ha p l e s m args below meth c D cA ad H locs sl hC hX hP hS hL)
theorem mm_if_ne_t {x : Int32} {off : Int} {tgt : Nat} (h0 : x = 0) (hd : decode cc pc = .ok (.ifCond .ne off, 3)) (hq : pc + 3 = q) (ht : (pc : Int) + off = (tgt : Int)) (k : mm_C Λ cc nL own ret d enc q ls st M o) : mm_C Λ cc nL own ret d enc pc ls (.int x :: st) M o := by
  subst hq
  intro a ha p l e s m args below meth c D cA ad H locs sl hC hX hP hS hL
  exact lv_if_ne hC.1 hC.2.1 hd ht (fun h => absurd h0 h) (fun _ => (k a ha p l e s m args below meth c D cA ad H locs sl hC hX hP hS hL))
theorem mm_if_ne_f {x : Int32} {off : Int} {tgt : Nat} (h0 : ¬ x = 0) (hd : decode cc pc = .ok (.ifCond .ne off, 3)) (ht : (pc : Int) + off = (tgt : Int)) (k : mm_C Λ cc nL own ret d enc tgt ls st M o) : mm_C Λ cc nL own ret d enc pc ls (.int x :: st) M o := by
  intro a ha p l e s m args below meth c D cA ad H locs sl hC hX hP hS hL
  exact lv_if_ne hC.1 hC.2.1 hd ht (fun _ => (k a ha p l e s m args below meth c D cA ad H locs sl hC hX hP hS hL)) (fun h => absurd h h0)
theorem mm_icmp_ne {x y : Int32} {off : Int} {tgt : Nat} {A B : Option α} (hd : decode cc pc = .ok (.if_icmp .ne off, 3)) (hq : pc + 3 = q) (ht : (pc : Int) + off = (tgt : Int)) (kt : x = y → mm_C Λ cc nL own ret d enc q ls st M A) (kf : ¬ x = y → mm_C Λ cc nL own ret d enc tgt ls st M B) : mm_C Λ cc nL own ret d enc pc ls (.int y :: .int x :: st) M (if x = y then A else B) := by
  subst hq
  intro a ha p l e s m args below meth c D cA ad H locs sl hC hX hP hS hL
  exact lv_icmp_ne hC.1 hC.2.1 hd ht (fun h => by rw [if_neg h] at ha; exact kf h a ha p l e s m args below meth c D cA ad H locs sl hC hX hP hS hL) (fun h => by rw [if_pos h] at ha; exact kt h a ha p l e s m args below meth c D cA ad H locs sl hC hX hP hS hL)
theorem mm_icmp_ne_t {x y : Int32} {off : Int} {tgt : Nat} (h0 : x = y) (hd : decode cc pc = .ok (.if_icmp .ne off, 3)) (hq : pc + 3 = q) (ht : (pc : Int) + off = (tgt : Int)) (k : mm_C Λ cc nL own ret d enc q ls st M o) : mm_C Λ cc nL own ret d enc pc ls (.int y :: .int x :: st) M o := by
  subst hq
  intro a ha p l e s m args below meth c D cA ad H locs sl hC hX hP hS hL
  exact lv_icmp_ne hC.1 hC.2.1 hd ht (fun h => absurd h0 h) (fun _ => (k a ha p l e s m args below meth c D cA ad H locs sl hC hX hP hS hL))
theorem mm_icmp_ne_f {x y : Int32} {off : Int} {tgt : Nat} (h0 : ¬ x = y) (hd : decode cc pc = .ok (.if_icmp .ne off, 3)) (ht : (pc : Int) + off = (tgt : Int)) (k : mm_C Λ cc nL own ret d enc tgt ls st M o) : mm_C Λ cc nL own ret d enc pc ls (.int y :: .int x :: st) M o := by
  intro a ha p l e s m args below meth c D cA ad H locs sl hC hX hP hS hL
  exact lv_icmp_ne hC.1 hC.2.1 hd ht (fun _ => (k a ha p l e s m args below meth c D cA ad H locs sl hC hX hP hS hL)) (fun h => absurd h h0)
theorem mm_if_lt {x : Int32} {off : Int} {tgt : Nat} {A B : Option α} (hd : decode cc pc = .ok (.ifCond .lt off, 3)) (hq : pc + 3 = q) (ht : (pc : Int) + off = (tgt : Int)) (kt : x < 0 → mm_C Λ cc nL own ret d enc tgt ls st M A) (kf : ¬ x < 0 → mm_C Λ cc nL own ret d enc q ls st M B) : mm_C Λ cc nL own ret d enc pc ls (.int x :: st) M (if x < 0 then A else B) := by
  subst hq
  intro a ha p l e s m args below meth c D cA ad H locs sl hC hX hP hS hL
  exact lv_if_lt hC.1 hC.2.1 hd ht (fun h => by rw [if_pos h] at ha; exact kt h a ha p l e s m args below meth c D cA ad H locs sl hC hX hP hS hL) (fun h => by rw [if_neg h] at ha; exact kf h a ha p l e s m args below meth c D cA ad H locs sl hC hX hP hS hL)
theorem mm_if_lt_t {x : Int32} {off : Int} {tgt : Nat} (h0 : x < 0) (hd : decode cc pc = .ok (.ifCond .lt off, 3)) (ht : (pc : Int) + off = (tgt : Int)) (k : mm_C Λ cc nL own ret d enc tgt ls st M o) : mm_C Λ cc nL own ret d enc pc ls (.int x :: st) M o := by
  intro a ha p l e s m args below meth c D cA ad H locs sl hC hX hP hS hL
  exact lv_if_lt hC.1 hC.2.1 hd ht (fun _ => (k a ha p l e s m args below meth c D cA ad H locs sl hC hX hP hS hL)) (fun h => absurd h0 h)
theorem mm_if_lt_f {x : Int32} {off : Int} {tgt : Nat} (h0 : ¬ x < 0) (hd : decode cc pc = .ok (.ifCond .lt off, 3)) (hq : pc + 3 = q) (ht : (pc : Int) + off = (tgt : Int)) (k : mm_C Λ cc nL own ret d enc q ls st M o) : mm_C Λ cc nL own ret d enc pc ls (.int x :: st) M o := by
  subst hq
  intro a ha p l e s m args below meth c D cA ad H locs sl hC hX hP hS hL
  exact lv_if_lt hC.1 hC.2.1 hd ht (fun h => absurd h h0) (fun _ => (k a ha p l e s m args below meth c D cA ad H locs sl hC hX hP hS hL))
theorem mm_icmp_lt {x y : Int32} {off : Int} {tgt : Nat} {A B : Option α} (hd : decode cc pc = .ok (.if_icmp .lt off, 3)) (hq : pc + 3 = q) (ht : (pc : Int) + off = (tgt : Int)) (kt : x < y → mm_C Λ cc nL own ret d enc tgt ls st M A) (kf : ¬ x < y → mm_C Λ cc nL own ret d enc q ls st M B) : mm_C Λ cc nL own ret d enc pc ls (.int y :: .int x :: st) M (if x < y then A else B) := by
  subst hq
  intro a ha p l e s m args below meth c D cA ad H locs sl hC hX hP hS hL
  exact lv_icmp_lt hC.1 hC.2.1 hd ht (fun h => by rw [if_pos h] at ha; exact kt h a ha p l e s m args below meth c D cA ad H locs sl hC hX hP hS hL) (fun h => by rw [if_neg h] at ha; exact kf h a ha p l e s m args below meth c D cA ad H locs sl hC hX hP hS hL)
theorem mm_icmp_lt_t {x y : Int32} {off : Int} {tgt : Nat} (h0 : x < y) (hd : decode cc pc = .ok (.if_icmp .lt off, 3)) (ht : (pc : Int) + off = (tgt : Int)) (k : mm_C Λ cc nL own ret d enc tgt ls st M o) : mm_C Λ cc nL own ret d enc pc ls (.int y :: .int x :: st) M o := by
  intro a ha p l e s m args below meth c D cA ad H locs sl hC hX hP hS hL
  exact lv_icmp_lt hC.1 hC.2.1 hd ht (fun _ => (k a ha p l e s m args below meth c D cA ad H locs sl hC hX hP hS hL)) (fun h => absurd h0 h)
theorem mm_icmp_lt_f {x y : Int32} {off : Int} {tgt : Nat} (h0 : ¬ x < y) (hd : decode cc pc = .ok (.if_icmp .lt off, 3)) (hq : pc + 3 = q) (ht : (pc : Int) + off = (tgt : Int)) (k : mm_C Λ cc nL own ret d enc q ls st M o) : mm_C Λ cc nL own ret d enc pc ls (.int y :: .int x :: st) M o := by
  subst hq
  intro a ha p l e s m args below meth c D cA ad H locs sl hC hX hP hS hL
  exact lv_icmp_lt hC.1 hC.2.1 hd ht (fun h => absurd h h0) (fun _ => (k a ha p l e s m args below meth c D cA ad H locs sl hC hX hP hS hL))
theorem mm_if_ge {x : Int32} {off : Int} {tgt : Nat} {A B : Option α} (hd : decode cc pc = .ok (.ifCond .ge off, 3)) (hq : pc + 3 = q) (ht : (pc : Int) + off = (tgt : Int)) (kt : 0 ≤ x → mm_C Λ cc nL own ret d enc tgt ls st M A) (kf : ¬ 0 ≤ x → mm_C Λ cc nL own ret d enc q ls st M B) : mm_C Λ cc nL own ret d enc pc ls (.int x :: st) M (if 0 ≤ x then A else B) := by
  subst hq
  intro a ha p l e s m args below meth c D cA ad H locs sl hC hX hP hS hL
  exact lv_if_ge hC.1 hC.2.1 hd ht (fun h => by rw [if_pos h] at ha; exact kt h a ha p l e s m args below meth c D cA ad H locs sl hC hX hP hS hL) (fun h => by rw [if_neg h] at ha; exact kf h a ha p l e s m args below meth c D cA ad H locs sl hC hX hP hS hL)
theorem mm_if_ge_t {x : Int32} {off : Int} {tgt : Nat} (h0 : 0 ≤ x) (hd : decode cc pc = .ok (.ifCond .ge off, 3)) (ht : (pc : Int) + off = (tgt : Int)) (k : mm_C Λ cc nL own ret d enc tgt ls st M o) : mm_C Λ cc nL own ret d enc pc ls (.int x :: st) M o := by
  intro a ha p l e s m args below meth c D cA ad H locs sl hC hX hP hS hL
  exact lv_if_ge hC.1 hC.2.1 hd ht (fun _ => (k a ha p l e s m args below meth c D cA ad H locs sl hC hX hP hS hL)) (fun h => absurd h0 h)
theorem mm_if_ge_f {x : Int32} {off : Int} {tgt : Nat} (h0 : ¬ 0 ≤ x) (hd : decode cc pc = .ok (.ifCond .ge off, 3)) (hq : pc + 3 = q) (ht : (pc : Int) + off = (tgt : Int)) (k : mm_C Λ cc nL own ret d enc q ls st M o) : mm_C Λ cc nL own ret d enc pc ls (.int x :: st) M o := by
  subst hq
  intro a ha p l e s m args below meth c D cA ad H locs sl hC hX hP hS hL
  exact lv_if_ge hC.1 hC.2.1 hd ht (fun h => absurd h h0) (fun _ => (k a ha p l e s m args below meth c D cA ad H locs sl hC hX hP hS hL))
theorem mm_icmp_ge {x y : Int32} {off : Int} {tgt : Nat} {A B : Option α} (hd : decode cc pc = .ok (.if_icmp .ge off, 3)) (hq : pc + 3 = q) (ht : (pc : Int) + off = (tgt : Int)) (kt : y ≤ x → mm_C Λ cc nL own ret d enc tgt ls st M A) (kf : ¬ y ≤ x → mm_C Λ cc nL own ret d enc q ls st M B) : mm_C Λ cc nL own ret d enc pc ls (.int y :: .int x :: st) M (if y ≤ x then A else B) := by
  subst hq
  intro a ha p l e s m args below meth c D cA ad H locs sl hC hX hP hS hL
  exact lv_icmp_ge hC.1 hC.2.1 hd ht (fun h => by rw [if_pos h] at ha; exact kt h a ha p l e s m args below meth c D cA ad H locs sl hC hX hP hS hL) (fun h => by rw [if_neg h] at ha; exact kf h a ha p l e s m args below meth c D cA ad H locs sl hC hX hP hS hL)
theorem mm_icmp_ge_t {x y : Int32} {off : Int} {tgt : Nat} (h0 : y ≤ x) (hd : decode cc pc = .ok (.if_icmp .ge off, 3)) (ht : (pc : Int) + off = (tgt : Int)) (k : mm_C Λ cc nL own ret d enc tgt ls st M o) : mm_C Λ cc nL own ret d enc pc ls (.int y :: .int x :: st) M o := by
  intro a ha p l e s m args below meth c D cA ad H locs sl hC hX hP hS hL
  exact lv_icmp_ge hC.1 hC.2.1 hd ht (fun _ => (k a ha p l e s m args below meth c D cA ad H locs sl hC hX hP hS hL)) (fun h => absurd h0 h)
theorem mm_icmp_ge_f {x y : Int32} {off : Int} {tgt : Nat} (h0 : ¬ y ≤ x) (hd : decode cc pc = .ok (.if_icmp .ge off, 3)) (hq : pc + 3 = q) (ht : (pc : Int) + off = (tgt : Int)) (k : mm_C Λ cc nL own ret d enc q ls st M o) : mm_C Λ cc nL own ret d enc pc ls (.int y :: .int x :: st) M o := by
  subst hq
  intro a ha p l e s m args below meth c D cA ad H locs sl hC hX hP hS hL
  exact lv_icmp_ge hC.1 hC.2.1 hd ht (fun h => absurd h h0) (fun _ => (k a ha p l e s m args below meth c D cA ad H locs sl hC hX hP hS hL))
theorem mm_if_gt {x : Int32} {off : Int} {tgt : Nat} {A B : Option α} (hd : decode cc pc = .ok (.ifCond .gt off, 3)) (hq : pc + 3 = q) (ht : (pc : Int) + off = (tgt : Int)) (kt : 0 < x → mm_C Λ cc nL own ret d enc tgt ls st M A) (kf : ¬ 0 < x → mm_C Λ cc nL own ret d enc q ls st M B) : mm_C Λ cc nL own ret d enc pc ls (.int x :: st) M (if 0 < x then A else B) := by
  subst hq
  intro a ha p l e s m args below meth c D cA ad H locs sl hC hX hP hS hL
  exact lv_if_gt hC.1 hC.2.1 hd ht (fun h => by rw [if_pos h] at ha; exact kt h a ha p l e s m args below meth c D cA ad H locs sl hC hX hP hS hL) (fun h => by rw [if_neg h] at ha; exact kf h a ha p l e s m args below meth c D cA ad H locs sl hC hX hP hS hL)
theorem mm_if_gt_t {x : Int32} {off : Int} {tgt : Nat} (h0 : 0 < x) (hd : decode cc pc = .ok (.ifCond .gt off, 3)) (ht : (pc : Int) + off = (tgt : Int)) (k : mm_C Λ cc nL own ret d enc tgt ls st M o) : mm_C Λ cc nL own ret d enc pc ls (.int x :: st) M o := by
  intro a ha p l e s m args below meth c D cA ad H locs sl hC hX hP hS hL
  exact lv_if_gt hC.1 hC.2.1 hd ht (fun _ => (k a ha p l e s m args below meth c D cA ad H locs sl hC hX hP hS hL)) (fun h => absurd h0 h)
theorem mm_if_gt_f {x : Int32} {off : Int} {tgt : Nat} (h0 : ¬ 0 < x) (hd : decode cc pc = .ok (.ifCond .gt off, 3)) (hq : pc + 3 = q) (ht : (pc : Int) + off = (tgt : Int)) (k : mm_C Λ cc nL own ret d enc q ls st M o) : mm_C Λ cc nL own ret d enc pc ls (.int x :: st) M o := by
  subst hq
  intro a ha p l e s m args below meth c D cA ad H locs sl hC hX hP hS hL
  exact lv_if_gt hC.1 hC.2.1 hd ht (fun h => absurd h h0) (fun _ => (k a ha p l e s m args below meth c D cA ad H locs sl hC hX hP hS hL))
theorem mm_icmp_gt {x y : Int32} {off : Int} {tgt : Nat} {A B : Option α} (hd : decode cc pc = .ok (.if_icmp .gt off, 3)) (hq : pc + 3 = q) (ht : (pc : Int) + off = (tgt : Int)) (kt : y < x → mm_C Λ cc nL own ret d enc tgt ls st M A) (kf : ¬ y < x → mm_C Λ cc nL own ret d enc q ls st M B) : mm_C Λ cc nL own ret d enc pc ls (.int y :: .int x :: st) M (if y < x then A else B) := by
  subst hq
  intro a ha p l e s m args below meth c D cA ad H locs sl hC hX hP hS hL
  exact lv_icmp_gt hC.1 hC.2.1 hd ht (fun h => by rw [if_pos h] at ha; exact kt h a ha p l e s m args below meth c D cA ad H locs sl hC hX hP hS hL) (fun h => by rw [if_neg h] at ha; exact kf h a ha p l e s m args below meth c D cA ad H locs sl hC hX hP hS hL)
theorem mm_icmp_gt_t {x y : Int32} {off : Int} {tgt : Nat} (h0 : y < x) (hd : decode cc pc = .ok (.if_icmp .gt off, 3)) (ht : (pc : Int) + off = (tgt : Int)) (k : mm_C Λ cc nL own ret d enc tgt ls st M o) : mm_C Λ cc nL own ret d enc pc ls (.int y :: .int x :: st) M o := by
  intro a ha p l e s m args below meth c D cA ad H locs sl hC hX hP hS hL
  exact lv_icmp_gt hC.1 hC.2.1 hd ht (fun _ => (k a ha p l e s m args below meth c D cA ad H locs sl hC hX hP hS hL)) (fun h => absurd h0 h)
theorem mm_icmp_gt_f {x y : Int32} {off : Int} {tgt : Nat} (h0 : ¬ y < x) (hd : decode cc pc = .ok (.if_icmp .gt off, 3)) (hq : pc + 3 = q) (ht : (pc : Int) + off = (tgt : Int)) (k : mm_C Λ cc nL own ret d enc q ls st M o) : mm_C Λ cc nL own ret d enc pc ls (.int y :: .int x :: st) M o := by
  subst hq
  intro a ha p l e s m args below meth c D cA ad H locs sl hC hX hP hS hL
  exact lv_icmp_gt hC.1 hC.2.1 hd ht (fun h => absurd h h0) (fun _ => (k a ha p l e s m args below meth c D cA ad H locs sl hC hX hP hS hL))
theorem mm_if_le {x : Int32} {off : Int} {tgt : Nat} {A B : Option α} (hd : decode cc pc = .ok (.ifCond .le off, 3)) (hq : pc + 3 = q) (ht : (pc : Int) + off = (tgt : Int)) (kt : x ≤ 0 → mm_C Λ cc nL own ret d enc tgt ls st M A) (kf : ¬ x ≤ 0 → mm_C Λ cc nL own ret d enc q ls st M B) : mm_C Λ cc nL own ret d enc pc ls (.int x :: st) M (if x ≤ 0 then A else B) := by
  subst hq
  intro a ha p l e s m args below meth c D cA ad H locs sl hC hX hP hS hL
  exact lv_if_le hC.1 hC.2.1 hd ht (fun h => by rw [if_pos h] at ha; exact kt h a ha p l e s m args below meth c D cA ad H locs sl hC hX hP hS hL) (fun h => by rw [if_neg h] at ha; exact kf h a ha p l e s m args below meth c D cA ad H locs sl hC hX hP hS hL)
theorem mm_if_le_t {x : Int32} {off : Int} {tgt : Nat} (h0 : x ≤ 0) (hd : decode cc pc = .ok (.ifCond .le off, 3)) (ht : (pc : Int) + off = (tgt : Int)) (k : mm_C Λ cc nL own ret d enc tgt ls st M o) : mm_C Λ cc nL own ret d enc pc ls (.int x :: st) M o := by
  intro a ha p l e s m args below meth c D cA ad H locs sl hC hX hP hS hL
  exact lv_if_le hC.1 hC.2.1 hd ht (fun _ => (k a ha p l e s m args below meth c D cA ad H locs sl hC hX hP hS hL)) (fun h => absurd h0 h)
theorem mm_if_le_f {x : Int32} {off : Int} {tgt : Nat} (h0 : ¬ x ≤ 0) (hd : decode cc pc = .ok (.ifCond .le off, 3)) (hq : pc + 3 = q) (ht : (pc : Int) + off = (tgt : Int)) (k : mm_C Λ cc nL own ret d enc q ls st M o) : mm_C Λ cc nL own ret d enc pc ls (.int x :: st) M o := by
  subst hq
  intro a ha p l e s m args below meth c D cA ad H locs sl hC hX hP hS hL
  exact lv_if_le hC.1 hC.2.1 hd ht (fun h => absurd h h0) (fun _ => (k a ha p l e s m args below meth c D cA ad H locs sl hC hX hP hS hL))
theorem mm_icmp_le {x y : Int32} {off : Int} {tgt : Nat} {A B : Option α} (hd : decode cc pc = .ok (.if_icmp .le off, 3)) (hq : pc + 3 = q) (ht : (pc : Int) + off = (tgt : Int)) (kt : x ≤ y → mm_C Λ cc nL own ret d enc tgt ls st M A) (kf : ¬ x ≤ y → mm_C Λ cc nL own ret d enc q ls st M B) : mm_C Λ cc nL own ret d enc pc ls (.int y :: .int x :: st) M (if x ≤ y then A else B) := by
  subst hq
  intro a ha p l e s m args below meth c D cA ad H locs sl hC hX hP hS hL
  exact lv_icmp_le hC.1 hC.2.1 hd ht (fun h => by rw [if_pos h] at ha; exact kt h a ha p l e s m args below meth c D cA ad H locs sl hC hX hP hS hL) (fun h => by rw [if_neg h] at ha; exact kf h a ha p l e s m args below meth c D cA ad H locs sl hC hX hP hS hL)
theorem mm_icmp_le_t {x y : Int32} {off : Int} {tgt : Nat} (h0 : x ≤ y) (hd : decode cc pc = .ok (.if_icmp .le off, 3)) (ht : (pc : Int) + off = (tgt : Int)) (k : mm_C Λ cc nL own ret d enc tgt ls st M o) : mm_C Λ cc nL own ret d enc pc ls (.int y :: .int x :: st) M o := by
  intro a ha p l e s m args below meth c D cA ad H locs sl hC hX hP hS hL
  exact lv_icmp_le hC.1 hC.2.1 hd ht (fun _ => (k a ha p l e s m args below meth c D cA ad H locs sl hC hX hP hS hL)) (fun h => absurd h0 h)
theorem mm_icmp_le_f {x y : Int32} {off : Int} {tgt : Nat} (h0 : ¬ x ≤ y) (hd : decode cc pc = .ok (.if_icmp .le off, 3)) (hq : pc + 3 = q) (ht : (pc : Int) + off = (tgt : Int)) (k : mm_C Λ cc nL own ret d enc q ls st M o) : mm_C Λ cc nL own ret d enc pc ls (.int y :: .int x :: st) M o := by
  subst hq
  intro a ha p l e s m args below meth c D cA ad H locs sl hC hX hP hS hL
  exact lv_icmp_le hC.1 hC.2.1 hd ht (fun h => absurd h h0) (fun _ => (k a ha p l e s m args below meth c D cA ad H locs sl hC hX hP hS hL))
def mm_fd (own : String) (ix ci j : Nat) : Prop := ∃ (C : String) (T : u_T) (N : Nat), vwCl[ci]? = some (C, T, N) ∧ j < N ∧ (∀ w ∈ u_ws C T N, w ∈ mm_tb) ∧ Cond.fieldLink own ix (T j).1 (T j).2.1 (T j).2.2.1 ∈ mm_tb
def mm_fdN (own : String) (ix ci j : Nat) : Prop := ∃ (C : String) (T : u_T) (N : Nat) (host : String), vwCl[ci]? = some (C, T, N) ∧ j < N ∧ (∀ w ∈ u_ws C T N, w ∈ mm_tb) ∧ Cond.fieldLinkNest own ix (T j).1 (T j).2.1 (T j).2.2.1 host ∈ lw_tbl
def mm_ps (ci j : Nat) (ty : FieldType) : Prop := ∃ (C : String) (T : u_T) (N : Nat) (ty0 : Nat → FieldType), vwCl[ci]? = some (C, T, N) ∧ (∀ k, k < N → parseFieldDescriptor (T k).2.2.1 = some (ty0 k)) ∧ (∀ a, a < N → ∀ b, b < N → a ≠ b → (T a).2.1 ≠ (T b).2.1) ∧ (T j).2.2.2 = false ∧ ty0 j = ty
theorem mm_getI {k0 ci j ix : Nat} {fs : List (Option Nat)} (hd : decode cc pc = .ok (.getfield ix, 3)) (hq : pc + 3 = q) (hΛ : Λ[k0]? = some (.inr (.inr (ci, fs)))) (hb : mm_fd own ix ci j) (hf : fs[j]? = some none) (k : mm_C Λ cc nL own ret d enc q ls (.int (M k0 j) :: st) M o) : mm_C Λ cc nL own ret d enc pc ls (.ref k0 :: st) M o := by
  subst hq
  obtain ⟨C, T, N, b1, b2, b3, b4⟩ := hb
  intro a ha p l e s m args below meth c D cA ad H locs sl hC hX hP hS hL
  exact va_get (D := D) (v := .int (M k0 j)) hC.1 hC.2.1 hC.2.2.2.2.1 b3 hC.2.2.2.1 hX.1 hP k0 (mm_w_at hΛ) b1 j b2 (hC.ts b4) (fun _ h => h) (by rw [List.getElem?_mapIdx, hf]; rfl) hd (k a ha p l e s m args below meth c D cA ad H locs sl hC hX hP hS hL)
theorem mm_getR {k0 k1 ci j ix : Nat} {fs : List (Option Nat)} (hd : decode cc pc = .ok (.getfield ix, 3)) (hq : pc + 3 = q) (hΛ : Λ[k0]? = some (.inr (.inr (ci, fs)))) (hb : mm_fd own ix ci j) (hf : fs[j]? = some (some k1)) (k : mm_C Λ cc nL own ret d enc q ls (.ref k1 :: st) M o) : mm_C Λ cc nL own ret d enc pc ls (.ref k0 :: st) M o := by
  subst hq
  obtain ⟨C, T, N, b1, b2, b3, b4⟩ := hb
  intro a ha p l e s m args below meth c D cA ad H locs sl hC hX hP hS hL
  exact va_get (D := D) (v := .ref (ad k1)) hC.1 hC.2.1 hC.2.2.2.2.1 b3 hC.2.2.2.1 hX.1 hP k0 (mm_w_at hΛ) b1 j b2 (hC.ts b4) (fun _ h => h) (by rw [List.getElem?_mapIdx, hf]; rfl) hd (k a ha p l e s m args below meth c D cA ad H locs sl hC hX hP hS hL)
theorem mm_put {k0 ci j ix : Nat} {fs : List (Option Nat)} {x : Int32} {ty : FieldType} {g : mm_M → Option α} (hd : decode cc pc = .ok (.putfield ix, 3)) (hq : pc + 3 = q) (hΛ : Λ[k0]? = some (.inr (.inr (ci, fs)))) (hb : mm_fd own ix ci j) (hp : mm_ps ci j ty) (hf : fs[j]? = some none) (hn : narrow ty (.int x) = .int x) (hfit : fits ty (.int x) = true) (k : ∀ M', mm_pf M k0 j x = some M' → mm_C Λ cc nL own ret d enc q ls st M' (g M')) : mm_C Λ cc nL own ret d enc pc ls (.int x :: .ref k0 :: st) M ((mm_pf M k0 j x).bind g) := by
  subst hq
  obtain ⟨C, T, N, b1, b2, b3, b4⟩ := hb
  obtain ⟨C2, T2, N2, ty0, p1, hty, hnm, hfin, ht⟩ := hp
  cases b1.symm.trans p1
  subst ht
  intro a ha p l e s m args below meth c D cA ad H locs sl hC hX hP hS hL
  refine va_put (D := D) (v := .int x) hC.1 hC.2.1 hC.2.2.2.2.1 b3 ty0 hty hnm hC.2.2.2.1 hX.1 hP (mm_D hX.2.2.1) hS k0 (mm_w_at hΛ) b1 j b2 (hC.ts b4) (fun _ h => h) hfin (hty j b2) hn hfit (by rw [List.length_mapIdx]; exact (List.getElem?_eq_some_iff.mp hf).1) hd (fun H1 locs1 hP1 _ hS1 => ?_)
  rw [mm_w_up hΛ (mm_w_obj (cA := cA) hf)] at hP1
  exact k (mm_wr M k0 j x) rfl a ha p l e s m args below meth c D cA ad H1 locs1 sl hC hX hP1 hS1 hL
theorem mm_getIN {k0 ci j ix : Nat} {fs : List (Option Nat)} (hd : decode cc pc = .ok (.getfield ix, 3)) (hq : pc + 3 = q) (hΛ : Λ[k0]? = some (.inr (.inr (ci, fs)))) (hb : mm_fdN own ix ci j) (hf : fs[j]? = some none) (k : mm_C Λ cc nL own ret d enc q ls (.int (M k0 j) :: st) M o) : mm_C Λ cc nL own ret d enc pc ls (.ref k0 :: st) M o := by
  subst hq
  obtain ⟨C, T, N, host, b1, b2, b3, b4⟩ := hb
  intro a ha p l e s m args below meth c D cA ad H locs sl hC hX hP hS hL
  exact va_getN (D := D) (v := .int (M k0 j)) hC.1 hC.2.1 hC.2.2.2.2.1 b3 hC.2.2.2.1 hX.1 hP k0 (mm_w_at hΛ) b1 j b2 ((hX.2.1 _ b4 rfl).use rfl) (fun _ h => h) (by rw [List.getElem?_mapIdx, hf]; rfl) hd (k a ha p l e s m args below meth c D cA ad H locs sl hC hX hP hS hL)
theorem mm_getRN {k0 k1 ci j ix : Nat} {fs : List (Option Nat)} (hd : decode cc pc = .ok (.getfield ix, 3)) (hq : pc + 3 = q) (hΛ : Λ[k0]? = some (.inr (.inr (ci, fs)))) (hb : mm_fdN own ix ci j) (hf : fs[j]? = some (some k1)) (k : mm_C Λ cc nL own ret d enc q ls (.ref k1 :: st) M o) : mm_C Λ cc nL own ret d enc pc ls (.ref k0 :: st) M o := by
  subst hq
  obtain ⟨C, T, N, host, b1, b2, b3, b4⟩ := hb
  intro a ha p l e s m args below meth c D cA ad H locs sl hC hX hP hS hL
  exact va_getN (D := D) (v := .ref (ad k1)) hC.1 hC.2.1 hC.2.2.2.2.1 b3 hC.2.2.2.1 hX.1 hP k0 (mm_w_at hΛ) b1 j b2 ((hX.2.1 _ b4 rfl).use rfl) (fun _ h => h) (by rw [List.getElem?_mapIdx, hf]; rfl) hd (k a ha p l e s m args below meth c D cA ad H locs sl hC hX hP hS hL)
theorem mm_putN {k0 ci j ix : Nat} {fs : List (Option Nat)} {x : Int32} {ty : FieldType} {g : mm_M → Option α} (hd : decode cc pc = .ok (.putfield ix, 3)) (hq : pc + 3 = q) (hΛ : Λ[k0]? = some (.inr (.inr (ci, fs)))) (hb : mm_fdN own ix ci j) (hp : mm_ps ci j ty) (hf : fs[j]? = some none) (hn : narrow ty (.int x) = .int x) (hfit : fits ty (.int x) = true) (k : ∀ M', mm_pf M k0 j x = some M' → mm_C Λ cc nL own ret d enc q ls st M' (g M')) : mm_C Λ cc nL own ret d enc pc ls (.int x :: .ref k0 :: st) M ((mm_pf M k0 j x).bind g) := by
  subst hq
  obtain ⟨C, T, N, host, b1, b2, b3, b4⟩ := hb
  obtain ⟨C2, T2, N2, ty0, p1, hty, hnm, hfin, ht⟩ := hp
  cases b1.symm.trans p1
  subst ht
  intro a ha p l e s m args below meth c D cA ad H locs sl hC hX hP hS hL
  refine va_putN (D := D) (v := .int x) hC.1 hC.2.1 hC.2.2.2.2.1 b3 ty0 hty hnm hC.2.2.2.1 hX.1 hP (mm_D hX.2.2.1) hS k0 (mm_w_at hΛ) b1 j b2 ((hX.2.1 _ b4 rfl).use rfl) (fun _ h => h) hfin (hty j b2) hn hfit (by rw [List.length_mapIdx]; exact (List.getElem?_eq_some_iff.mp hf).1) hd (fun H1 locs1 hP1 _ hS1 => ?_)
  rw [mm_w_up hΛ (mm_w_obj (cA := cA) hf)] at hP1
  exact k (mm_wr M k0 j x) rfl a ha p l e s m args below meth c D cA ad H1 locs1 sl hC hX hP1 hS1 hL
theorem mm_rd_some {k0 n : Nat} {i x : Int32} (h : mm_rd M k0 n i = some x) : vp_in i n ∧ x = M k0 i.toNatClampNeg := by
  unfold mm_rd at h
  split at h
  · cases h
  · rename_i hb
    exact ⟨hb, (Option.some.inj h).symm⟩
theorem mm_iald {k0 n : Nat} {i : Int32} {g : Int32 → Option α} (hd : decode cc pc = .ok (.iaload, 1)) (hq : pc + 1 = q) (hΛ : Λ[k0]? = some (.inl n)) (k : ∀ x, mm_rd M k0 n i = some x → mm_C Λ cc nL own ret d enc q ls (.int x :: st) M (g x)) : mm_C Λ cc nL own ret d enc pc ls (.int i :: .ref k0 :: st) M ((mm_rd M k0 n i).bind g) := by
  subst hq
  intro a ha p l e s m args below meth c D cA ad H locs sl hC hX hP hS hL
  cases hx : mm_rd M k0 n i with
  | none => rw [hx] at ha; cases ha
  | some x =>
    rw [hx] at ha
    obtain ⟨h1, h2⟩ := mm_rd_some hx
    subst h2
    exact va_iald hC.1 hC.2.1 hX.1 hP k0 0 (mm_w_at hΛ) rfl h1 hd (k _ hx a ha p l e s m args below meth c D cA ad H locs sl hC hX hP hS hL)
theorem mm_iast {k0 n : Nat} {i x : Int32} {g : mm_M → Option α} (hd : decode cc pc = .ok (.iastore, 1)) (hq : pc + 1 = q) (hΛ : Λ[k0]? = some (.inl n)) (k : ∀ M', mm_wa M k0 n i x = some M' → mm_C Λ cc nL own ret d enc q ls st M' (g M')) : mm_C Λ cc nL own ret d enc pc ls (.int x :: .int i :: .ref k0 :: st) M ((mm_wa M k0 n i x).bind g) := by
  subst hq
  intro a ha p l e s m args below meth c D cA ad H locs sl hC hX hP hS hL
  cases hx : mm_wa M k0 n i x with
  | none => rw [hx] at ha; cases ha
  | some M' =>
    rw [hx] at ha
    have hx' := hx
    unfold mm_wa at hx
    split at hx
    · cases hx
    · rename_i hb
      cases hx
      refine va_iast hC.1 hC.2.1 hX.1 hP (mm_D hX.2.2.1) hS k0 0 (mm_w_at hΛ) rfl hb hd (fun H1 locs1 hP1 _ hS1 => ?_)
      rw [mm_w_arr hΛ] at hP1
      exact k _ hx' a ha p l e s m args below meth c D cA ad H1 locs1 sl hC hX hP1 hS1 hL
theorem mm_alen {k0 n : Nat} {v : Int32} (hd : decode cc pc = .ok (.arraylength, 1)) (hq : pc + 1 = q) (hΛ : Λ[k0]? = some (.inl n)) (hv : Int32.ofNat n = v) (k : mm_C Λ cc nL own ret d enc q ls (.int v :: st) M o) : mm_C Λ cc nL own ret d enc pc ls (.ref k0 :: st) M o := by
  subst hq
  intro a ha p l e s m args below meth c D cA ad H locs sl hC hX hP hS hL
  exact va_alen hC.1 hC.2.1 hX.1 hP k0 0 (mm_w_at hΛ) rfl hv hd (k a ha p l e s m args below meth c D cA ad H locs sl hC hX hP hS hL)
theorem mm_aald {k0 t : Nat} {rs : List Nat} {i : Int32} {cn : String} {g : Nat → Option α} (hd : decode cc pc = .ok (.aaload, 1)) (hq : pc + 1 = q) (hΛ : Λ[k0]? = some (.inr (.inl (rs, t)))) (ht : ∀ cA, (mm_tys cA)[t]? = some (cA t, .object cn)) (k : ∀ x, mm_ra rs i = some x → mm_C Λ cc nL own ret d enc q ls (.ref x :: st) M (g x)) : mm_C Λ cc nL own ret d enc pc ls (.int i :: .ref k0 :: st) M ((mm_ra rs i).bind g) := by
  subst hq
  intro a ha p l e s m args below meth c D cA ad H locs sl hC hX hP hS hL
  cases hx : mm_ra rs i with
  | none => rw [hx] at ha; cases ha
  | some x =>
    rw [hx] at ha
    have hx' := hx
    unfold mm_ra at hx
    split at hx
    · cases hx
    · rename_i hb
      have hk := k _ hx' a ha p l e s m args below meth c D cA ad H locs sl hC hX hP hS hL
      refine va_aldq hC.1 hC.2.1 hX.1 hP k0 t (mm_w_at hΛ) (ht cA) hb hd ?_
      rw [hx]
      exact hk
theorem mm_iret {x : Int32} {b : α} (he : enc b = (some (.int x), M)) (hd : decode cc pc = .ok (.ireturn, 1)) : mm_C Λ cc nL own (some .int) d enc pc ls [.int x] M (some b) := by
  intro a ha p l e s m args below meth c D cA ad H locs sl hC hX hP hS hL
  cases ha
  rw [he]
  exact W.iret hC.1 hC.2.1 hC.2.2.2.2.2.1 (fun t ht hW => ⟨rfl, by rw [ht]; exact hP, hS.F ht⟩) hS.2.2 hd hC.2.2.2.2.2.2
theorem mm_zret {x : Int32} {b : α} (he : enc b = (some (.int x), M)) (hn : narrow .boolean (.int x) = .int x) (hd : decode cc pc = .ok (.ireturn, 1)) : mm_C Λ cc nL own (some .boolean) d enc pc ls [.int x] M (some b) := by
  intro a ha p l e s m args below meth c D cA ad H locs sl hC hX hP hS hL
  cases ha
  rw [he]
  exact W.zret hC.1 hC.2.1 hC.2.2.2.2.2.1 hn (fun t ht hW => ⟨rfl, by rw [ht]; exact hP, hS.F ht⟩) hS.2.2 hd hC.2.2.2.2.2.2
theorem mm_zretB {x : Int32} {g : Int32 → Option α} {f : Int32 → α} (hg : ∀ z, g z = some (f z)) (he : ∀ z, enc (f z) = (some (.int z), M)) (hd : decode cc pc = .ok (.ireturn, 1)) : mm_C Λ cc nL own (some .boolean) d enc pc ls [.int x] M ((mm_zb x).bind g) := by
  by_cases h : x = 0 ∨ x = 1
  · rw [show mm_zb x = some x by simp [mm_zb, h]]
    show mm_C Λ cc nL own (some .boolean) d enc pc ls [.int x] M (g x)
    rw [hg]
    exact mm_zret (he x) (by rcases h with h | h <;> subst h <;> rfl) hd
  · rw [show mm_zb x = none by simp [mm_zb, h]]
    exact mm_none
theorem mm_lret {x : Int64} {b : α} (he : enc b = (some (.long x), M)) (hd : decode cc pc = .ok (.lreturn, 1)) : mm_C Λ cc nL own (some .long) d enc pc ls [.long x] M (some b) := by
  intro a ha p l e s m args below meth c D cA ad H locs sl hC hX hP hS hL
  cases ha
  rw [he]
  exact W.lret hC.1 hC.2.1 hC.2.2.2.2.2.1 (fun t ht hW => ⟨rfl, by rw [ht]; exact hP, hS.F ht⟩) hS.2.2 hd hC.2.2.2.2.2.2
theorem mm_vret {b : α} (he : enc b = (none, M)) (hd : decode cc pc = .ok (.return_, 1)) : mm_C Λ cc nL own none d enc pc ls [] M (some b) := by
  intro a ha p l e s m args below meth c D cA ad H locs sl hC hX hP hS hL
  cases ha
  rw [he]
  exact W.vret hC.1 hC.2.1 hC.2.2.2.2.2.1 (fun t ht hW => ⟨rfl, by rw [ht]; exact hP, hS.F ht⟩) hS.2.2 hd hC.2.2.2.2.2.2
theorem mm_ra_mem {rs : List Nat} {i : Int32} {x : Nat} (h : mm_ra rs i = some x) : x ∈ rs := by
  unfold mm_ra at h
  split at h
  · cases h
  · exact List.mem_of_getElem? h
theorem mm_cats (ad : Nat → Nat) (st : List Value) : ((st.map (mm_cv ad)).map fun v => v.category).sum = (st.map fun v => v.category).sum := by
  induction st with
  | nil => rfl
  | cons v t ih => simp only [List.map_cons, List.sum_cons, mm_cv_cat, ih]
theorem mm_after {p : Program} {l : Launch} {e : Env} {s : State} {m : MethodId} {args a : Array Value} {below : List Frame} {meth : Method} {c : Code} {H : Heap} {locs : List Loc} {D : va_G} {cA : Nat → ClassId} {ad : Nat → Nat} {sl : Array Slot} {st0 rest : List Value} {r : Option Value × mm_M} {Q : State → Prop} {R : Room}
    (hr : va_Run p l e R s m args below meth c H locs 0 0 0 0 (F0 m pc sl st0) rest (mm_Q Λ D cA ad r a) (mm_A Λ ad)) (hS : va_S (mm_A Λ ad) s.heap H locs)
    (kk : ∀ (H1 : Heap) (locs1 : List Loc), va_P D vwCl (mm_w Λ ad cA r.2) H1 → va_S (mm_A Λ ad) s.heap H1 locs1 → W p l e R s m args below meth c H1 locs1 0 0 Q (F0 m (pc + 3) sl ((r.1.map (mm_cv ad)).toList ++ rest))) : W p l e R s m args below meth c H locs 0 0 Q (F0 m pc sl st0) := by
  intro T hT X
  obtain ⟨v, st₀, t, T', L, h0, X', hL, e1, e2, ⟨hv, hp, hz, hk⟩, st⟩ := hr T hT X
  cases hv
  rw [h0] at hz hk
  obtain ⟨t2, a1, b1⟩ := kk T'.heap (locs ++ L) (by rw [e1]; exact hp)
    ⟨Nat.le_trans hS.1 (by rw [e1]; exact hz), fun q h1 h2 => by rw [e1, hk q (Nat.lt_of_lt_of_le h1 hS.1) h2]; exact hS.2.1 q h1 h2, fun q hq => by
      rcases List.mem_append.mp hq with h | h
      · exact hS.2.2 q h
      · exact hL q h⟩ T' rfl X'
  exact ⟨t2, st t2 a1, b1⟩
def mm_dsc (y : MethodName) (n : Nat) : Prop := y.cls ≠ "java/lang/invoke/MethodHandle" ∧ y.cls ≠ "java/lang/invoke/VarHandle" ∧ (parseMethodDescriptor y.desc).map (fun d => d.parameters.length) = some n
def mm_sV (own : String) (ix : Nat) (y : MethodName) (cc' : ByteArray) (nL' : Nat) (ret' : Option FieldType) (n : Nat) : Prop := Cond.methodLink own ix y ∈ mm_tb ∧ Cond.instanceMethod y ∈ mm_tb ∧ Cond.selects y.cls y y ∈ mm_tb ∧ Cond.initialized y.cls ∈ mm_tb ∧ Cond.code y cc' nL' ret' ∈ mm_tb ∧ mm_dsc y n ∧ nL' ≤ 21
def mm_sS (own : String) (ix : Nat) (y : MethodName) (cc' : ByteArray) (nL' : Nat) (ret' : Option FieldType) (n : Nat) : Prop := Cond.methodLink own ix y ∈ mm_tb ∧ Cond.static y ∈ mm_tb ∧ Cond.initialized y.cls ∈ mm_tb ∧ Cond.code y cc' nL' ret' ∈ mm_tb ∧ mm_dsc y n ∧ nL' ≤ 21
def mm_sSN (own : String) (ix : Nat) (y : MethodName) (cc' : ByteArray) (nL' : Nat) (ret' : Option FieldType) (n : Nat) : Prop := (∃ host, Cond.methodLinkNest own ix y host ∈ lw_tbl) ∧ Cond.static y ∈ mm_tb ∧ Cond.initialized y.cls ∈ mm_tb ∧ Cond.code y cc' nL' ret' ∈ mm_tb ∧ mm_dsc y n ∧ nL' ≤ 21
theorem mm_blind {D : va_G} {cA : Nat → ClassId} {ad : Nat → Nat} {as : List Value} : FrameBlind (fun v U => v = (as.map (mm_cv ad)).toArray ∧ mm_X Λ D cA ad U ∧ va_P D vwCl (mm_w Λ ad cA M) U.heap) := fun a U g mk h => ⟨h.1, mm_X.same (u := U) rfl rfl h.2.1, h.2.2⟩
theorem mm_callV {β : Type} {y : MethodName} {cc' : ByteArray} {nL' d' n ix : Nat} {ret' : Option FieldType} {enc' : β → Option Value × mm_M} {as stk : List Value} {o' : Option β} {g : β → Option α} {b ci N : Nat} {fs : List (Option Nat)} {T : u_T} (hΛ : Λ[b]? = some (.inr (.inr (ci, fs)))) (hc : vwCl[ci]? = some (y.cls, T, N)) (E : mm_E Λ y cc' nL' ret' d' enc' (.ref b :: as) M o') (hsite : mm_sV own ix y cc' nL' ret' n) (hn : as.length = n) (hdep : d' + 1 ≤ d) (hst : (st.map fun v => v.category).sum ≤ 8) (hstk : stk = as.reverse ++ .ref b :: st) (hd : decode cc pc = .ok (.invokevirtual ix, 3)) (hq : pc + 3 = q) (k : ∀ r, o' = some r → mm_C Λ cc nL own ret d enc q ls ((enc' r).1.toList ++ st) (enc' r).2 (g r)) : mm_C Λ cc nL own ret d enc pc ls stk M (o'.bind g) := by
  subst hq
  subst hstk
  intro a ha p l e s m args below meth c D cA ad H locs sl hC hX hP hS hL
  cases ho : o' with
  | none => rw [ho] at ha; cases ha
  | some r =>
    rw [ho] at ha
    have hM := E r ho l D cA ad
    obtain ⟨w1, w2, w3, w4, w5, w6, w7⟩ := hsite
    have hR : (mm_R d').frames + 1 ≤ (mm_R d).frames ∧ 8 + (nL' + 11) + (mm_R d').locals ≤ (mm_R d).locals := ⟨hdep, by show 8 + (nL' + 11) + 40 * d' ≤ 40 * d; omega⟩
    refine mm_after (va_runV (As := as.map (mm_cv ad)) (rest := st.map (mm_cv ad)) hC.fix hM ⟨callB_of n hC.2.2.2.2.1 (mm_tb_good w5) rfl rfl rfl (hC.ts w4) (hC.ts w1) w6 hR, hC.ts w2, hC.ts w3⟩ ⟨mm_blind (as := .ref b :: as), va_recv hX.1 hP hc (mm_w_at hΛ), fun U hU hW => ⟨by simp [mm_cv], hX.on (locs := locs) hW (by rw [hU]; exact hS), by rw [hU]; exact hP⟩⟩ rfl (by rw [List.length_map]; exact hn) hL.1 (by simp [mm_cv]) (lv_room (by rw [mm_cats]; exact hst)) hd ⟨Nat.zero_le _, Nat.zero_le _⟩) hS (fun H1 locs1 hP1 hS1 => ?_)
    have hk := k r ho a ha p l e s m args below meth c D cA ad H1 locs1 sl hC hX hP1 hS1 hL
    rw [List.map_append] at hk
    rwa [show (Option.map (mm_cv ad) (enc' r).1).toList = (enc' r).1.toList.map (mm_cv ad) by cases (enc' r).1 <;> rfl]
theorem mm_callVI {y : MethodName} {cc' : ByteArray} {nL' d' n ix : Nat} {ret' : Option FieldType} {as stk : List Value} {o' : Option (Int32 × mm_M)} {g : Int32 × mm_M → Option α} {b ci N : Nat} {fs : List (Option Nat)} {T : u_T} (hΛ : Λ[b]? = some (.inr (.inr (ci, fs)))) (hc : vwCl[ci]? = some (y.cls, T, N)) (E : mm_E Λ y cc' nL' ret' d' mm_eI (.ref b :: as) M o') (hsite : mm_sV own ix y cc' nL' ret' n) (hn : as.length = n) (hdep : d' + 1 ≤ d) (hst : (st.map fun v => v.category).sum ≤ 8) (hstk : stk = as.reverse ++ .ref b :: st) (hd : decode cc pc = .ok (.invokevirtual ix, 3)) (hq : pc + 3 = q) (k : ∀ r, o' = some r → mm_C Λ cc nL own ret d enc q ls (.int r.1 :: st) r.2 (g r)) : mm_C Λ cc nL own ret d enc pc ls stk M (o'.bind g) := mm_callV hΛ hc E hsite hn hdep hst hstk hd hq k
theorem mm_callVV {y : MethodName} {cc' : ByteArray} {nL' d' n ix : Nat} {ret' : Option FieldType} {as stk : List Value} {o' : Option (mm_M)} {g : mm_M → Option α} {b ci N : Nat} {fs : List (Option Nat)} {T : u_T} (hΛ : Λ[b]? = some (.inr (.inr (ci, fs)))) (hc : vwCl[ci]? = some (y.cls, T, N)) (E : mm_E Λ y cc' nL' ret' d' mm_eV (.ref b :: as) M o') (hsite : mm_sV own ix y cc' nL' ret' n) (hn : as.length = n) (hdep : d' + 1 ≤ d) (hst : (st.map fun v => v.category).sum ≤ 8) (hstk : stk = as.reverse ++ .ref b :: st) (hd : decode cc pc = .ok (.invokevirtual ix, 3)) (hq : pc + 3 = q) (k : ∀ r, o' = some r → mm_C Λ cc nL own ret d enc q ls st r (g r)) : mm_C Λ cc nL own ret d enc pc ls stk M (o'.bind g) := mm_callV hΛ hc E hsite hn hdep hst hstk hd hq k
theorem mm_callVL {y : MethodName} {cc' : ByteArray} {nL' d' n ix : Nat} {ret' : Option FieldType} {as stk : List Value} {o' : Option (Int64 × mm_M)} {g : Int64 × mm_M → Option α} {b ci N : Nat} {fs : List (Option Nat)} {T : u_T} (hΛ : Λ[b]? = some (.inr (.inr (ci, fs)))) (hc : vwCl[ci]? = some (y.cls, T, N)) (E : mm_E Λ y cc' nL' ret' d' mm_eL (.ref b :: as) M o') (hsite : mm_sV own ix y cc' nL' ret' n) (hn : as.length = n) (hdep : d' + 1 ≤ d) (hst : (st.map fun v => v.category).sum ≤ 8) (hstk : stk = as.reverse ++ .ref b :: st) (hd : decode cc pc = .ok (.invokevirtual ix, 3)) (hq : pc + 3 = q) (k : ∀ r, o' = some r → mm_C Λ cc nL own ret d enc q ls (.long r.1 :: st) r.2 (g r)) : mm_C Λ cc nL own ret d enc pc ls stk M (o'.bind g) := mm_callV hΛ hc E hsite hn hdep hst hstk hd hq k
theorem mm_callVP {y : MethodName} {cc' : ByteArray} {nL' d' n ix : Nat} {ret' : Option FieldType} {as stk : List Value} {o' : Option (Int32)} {g : Int32 → Option α} {b ci N : Nat} {fs : List (Option Nat)} {T : u_T} (hΛ : Λ[b]? = some (.inr (.inr (ci, fs)))) (hc : vwCl[ci]? = some (y.cls, T, N)) (E : mm_E Λ y cc' nL' ret' d' (mm_pI M) (.ref b :: as) M o') (hsite : mm_sV own ix y cc' nL' ret' n) (hn : as.length = n) (hdep : d' + 1 ≤ d) (hst : (st.map fun v => v.category).sum ≤ 8) (hstk : stk = as.reverse ++ .ref b :: st) (hd : decode cc pc = .ok (.invokevirtual ix, 3)) (hq : pc + 3 = q) (k : ∀ r, o' = some r → mm_C Λ cc nL own ret d enc q ls (.int r :: st) M (g r)) : mm_C Λ cc nL own ret d enc pc ls stk M (o'.bind g) := mm_callV hΛ hc E hsite hn hdep hst hstk hd hq k
theorem mm_callVQ {y : MethodName} {cc' : ByteArray} {nL' d' n ix : Nat} {ret' : Option FieldType} {as stk : List Value} {o' : Option (Int64)} {g : Int64 → Option α} {b ci N : Nat} {fs : List (Option Nat)} {T : u_T} (hΛ : Λ[b]? = some (.inr (.inr (ci, fs)))) (hc : vwCl[ci]? = some (y.cls, T, N)) (E : mm_E Λ y cc' nL' ret' d' (mm_pL M) (.ref b :: as) M o') (hsite : mm_sV own ix y cc' nL' ret' n) (hn : as.length = n) (hdep : d' + 1 ≤ d) (hst : (st.map fun v => v.category).sum ≤ 8) (hstk : stk = as.reverse ++ .ref b :: st) (hd : decode cc pc = .ok (.invokevirtual ix, 3)) (hq : pc + 3 = q) (k : ∀ r, o' = some r → mm_C Λ cc nL own ret d enc q ls (.long r :: st) M (g r)) : mm_C Λ cc nL own ret d enc pc ls stk M (o'.bind g) := mm_callV hΛ hc E hsite hn hdep hst hstk hd hq k
theorem mm_callVT {y : MethodName} {cc' : ByteArray} {nL' d' n ix : Nat} {ret' : Option FieldType} {as stk : List Value} {t : Int32} {b ci N : Nat} {fs : List (Option Nat)} {T : u_T} (hΛ : Λ[b]? = some (.inr (.inr (ci, fs)))) (hc : vwCl[ci]? = some (y.cls, T, N)) (E : mm_E Λ y cc' nL' ret' d' (mm_pI M) (.ref b :: as) M (some t)) (hsite : mm_sV own ix y cc' nL' ret' n) (hn : as.length = n) (hdep : d' + 1 ≤ d) (hst : (st.map fun v => v.category).sum ≤ 8) (hstk : stk = as.reverse ++ .ref b :: st) (hd : decode cc pc = .ok (.invokevirtual ix, 3)) (hq : pc + 3 = q) (k : mm_C Λ cc nL own ret d enc q ls (.int t :: st) M o) : mm_C Λ cc nL own ret d enc pc ls stk M o := by
  have h := mm_callV (g := fun _ => o) hΛ hc E hsite hn hdep hst hstk hd hq (fun r hr => by cases hr; exact k)
  exact h
theorem mm_callVU {y : MethodName} {cc' : ByteArray} {nL' d' n ix : Nat} {ret' : Option FieldType} {as stk : List Value} {t : Int64} {b ci N : Nat} {fs : List (Option Nat)} {T : u_T} (hΛ : Λ[b]? = some (.inr (.inr (ci, fs)))) (hc : vwCl[ci]? = some (y.cls, T, N)) (E : mm_E Λ y cc' nL' ret' d' (mm_pL M) (.ref b :: as) M (some t)) (hsite : mm_sV own ix y cc' nL' ret' n) (hn : as.length = n) (hdep : d' + 1 ≤ d) (hst : (st.map fun v => v.category).sum ≤ 8) (hstk : stk = as.reverse ++ .ref b :: st) (hd : decode cc pc = .ok (.invokevirtual ix, 3)) (hq : pc + 3 = q) (k : mm_C Λ cc nL own ret d enc q ls (.long t :: st) M o) : mm_C Λ cc nL own ret d enc pc ls stk M o := by
  have h := mm_callV (g := fun _ => o) hΛ hc E hsite hn hdep hst hstk hd hq (fun r hr => by cases hr; exact k)
  exact h
theorem mm_callS {β : Type} {y : MethodName} {cc' : ByteArray} {nL' d' n ix : Nat} {ret' : Option FieldType} {enc' : β → Option Value × mm_M} {as stk : List Value} {o' : Option β} {g : β → Option α} (E : mm_E Λ y cc' nL' ret' d' enc' as M o') (hsite : mm_sS own ix y cc' nL' ret' n) (hn : as.length = n) (hdep : d' + 1 ≤ d) (hst : (st.map fun v => v.category).sum ≤ 8) (hstk : stk = as.reverse ++ st) (hd : decode cc pc = .ok (.invokestatic ix, 3)) (hq : pc + 3 = q) (k : ∀ r, o' = some r → mm_C Λ cc nL own ret d enc q ls ((enc' r).1.toList ++ st) (enc' r).2 (g r)) : mm_C Λ cc nL own ret d enc pc ls stk M (o'.bind g) := by
  subst hq
  subst hstk
  intro a ha p l e s m args below meth c D cA ad H locs sl hC hX hP hS hL
  cases ho : o' with
  | none => rw [ho] at ha; cases ha
  | some r =>
    rw [ho] at ha
    have hM := E r ho l D cA ad
    obtain ⟨w1, w2, w4, w5, w6, w7⟩ := hsite
    have hR : (mm_R d').frames + 1 ≤ (mm_R d).frames ∧ 8 + (nL' + 11) + (mm_R d').locals ≤ (mm_R d).locals := ⟨hdep, by show 8 + (nL' + 11) + 40 * d' ≤ 40 * d; omega⟩
    refine mm_after (va_runS (As := as.map (mm_cv ad)) (rest := st.map (mm_cv ad)) hC.fix hM ⟨callB_of n hC.2.2.2.2.1 (mm_tb_good w5) rfl rfl rfl (hC.ts w4) (hC.ts w1) w6 hR, hC.ts w2⟩ ⟨mm_blind (as := as), fun U hU hW => ⟨by simp [mm_cv], hX.on (locs := locs) hW (by rw [hU]; exact hS), by rw [hU]; exact hP⟩⟩ rfl (by rw [List.length_map]; exact hn) hL.1 (by simp [mm_cv]) (lv_room (by rw [mm_cats]; exact hst)) hd ⟨Nat.zero_le _, Nat.zero_le _⟩) hS (fun H1 locs1 hP1 hS1 => ?_)
    have hk := k r ho a ha p l e s m args below meth c D cA ad H1 locs1 sl hC hX hP1 hS1 hL
    rw [List.map_append] at hk
    rwa [show (Option.map (mm_cv ad) (enc' r).1).toList = (enc' r).1.toList.map (mm_cv ad) by cases (enc' r).1 <;> rfl]
theorem mm_callSI {y : MethodName} {cc' : ByteArray} {nL' d' n ix : Nat} {ret' : Option FieldType} {as stk : List Value} {o' : Option (Int32 × mm_M)} {g : Int32 × mm_M → Option α} (E : mm_E Λ y cc' nL' ret' d' mm_eI as M o') (hsite : mm_sS own ix y cc' nL' ret' n) (hn : as.length = n) (hdep : d' + 1 ≤ d) (hst : (st.map fun v => v.category).sum ≤ 8) (hstk : stk = as.reverse ++ st) (hd : decode cc pc = .ok (.invokestatic ix, 3)) (hq : pc + 3 = q) (k : ∀ r, o' = some r → mm_C Λ cc nL own ret d enc q ls (.int r.1 :: st) r.2 (g r)) : mm_C Λ cc nL own ret d enc pc ls stk M (o'.bind g) := mm_callS E hsite hn hdep hst hstk hd hq k
theorem mm_callSV {y : MethodName} {cc' : ByteArray} {nL' d' n ix : Nat} {ret' : Option FieldType} {as stk : List Value} {o' : Option (mm_M)} {g : mm_M → Option α} (E : mm_E Λ y cc' nL' ret' d' mm_eV as M o') (hsite : mm_sS own ix y cc' nL' ret' n) (hn : as.length = n) (hdep : d' + 1 ≤ d) (hst : (st.map fun v => v.category).sum ≤ 8) (hstk : stk = as.reverse ++ st) (hd : decode cc pc = .ok (.invokestatic ix, 3)) (hq : pc + 3 = q) (k : ∀ r, o' = some r → mm_C Λ cc nL own ret d enc q ls st r (g r)) : mm_C Λ cc nL own ret d enc pc ls stk M (o'.bind g) := mm_callS E hsite hn hdep hst hstk hd hq k
theorem mm_callSL {y : MethodName} {cc' : ByteArray} {nL' d' n ix : Nat} {ret' : Option FieldType} {as stk : List Value} {o' : Option (Int64 × mm_M)} {g : Int64 × mm_M → Option α} (E : mm_E Λ y cc' nL' ret' d' mm_eL as M o') (hsite : mm_sS own ix y cc' nL' ret' n) (hn : as.length = n) (hdep : d' + 1 ≤ d) (hst : (st.map fun v => v.category).sum ≤ 8) (hstk : stk = as.reverse ++ st) (hd : decode cc pc = .ok (.invokestatic ix, 3)) (hq : pc + 3 = q) (k : ∀ r, o' = some r → mm_C Λ cc nL own ret d enc q ls (.long r.1 :: st) r.2 (g r)) : mm_C Λ cc nL own ret d enc pc ls stk M (o'.bind g) := mm_callS E hsite hn hdep hst hstk hd hq k
theorem mm_callSP {y : MethodName} {cc' : ByteArray} {nL' d' n ix : Nat} {ret' : Option FieldType} {as stk : List Value} {o' : Option (Int32)} {g : Int32 → Option α} (E : mm_E Λ y cc' nL' ret' d' (mm_pI M) as M o') (hsite : mm_sS own ix y cc' nL' ret' n) (hn : as.length = n) (hdep : d' + 1 ≤ d) (hst : (st.map fun v => v.category).sum ≤ 8) (hstk : stk = as.reverse ++ st) (hd : decode cc pc = .ok (.invokestatic ix, 3)) (hq : pc + 3 = q) (k : ∀ r, o' = some r → mm_C Λ cc nL own ret d enc q ls (.int r :: st) M (g r)) : mm_C Λ cc nL own ret d enc pc ls stk M (o'.bind g) := mm_callS E hsite hn hdep hst hstk hd hq k
theorem mm_callSQ {y : MethodName} {cc' : ByteArray} {nL' d' n ix : Nat} {ret' : Option FieldType} {as stk : List Value} {o' : Option (Int64)} {g : Int64 → Option α} (E : mm_E Λ y cc' nL' ret' d' (mm_pL M) as M o') (hsite : mm_sS own ix y cc' nL' ret' n) (hn : as.length = n) (hdep : d' + 1 ≤ d) (hst : (st.map fun v => v.category).sum ≤ 8) (hstk : stk = as.reverse ++ st) (hd : decode cc pc = .ok (.invokestatic ix, 3)) (hq : pc + 3 = q) (k : ∀ r, o' = some r → mm_C Λ cc nL own ret d enc q ls (.long r :: st) M (g r)) : mm_C Λ cc nL own ret d enc pc ls stk M (o'.bind g) := mm_callS E hsite hn hdep hst hstk hd hq k
theorem mm_callST {y : MethodName} {cc' : ByteArray} {nL' d' n ix : Nat} {ret' : Option FieldType} {as stk : List Value} {t : Int32} (E : mm_E Λ y cc' nL' ret' d' (mm_pI M) as M (some t)) (hsite : mm_sS own ix y cc' nL' ret' n) (hn : as.length = n) (hdep : d' + 1 ≤ d) (hst : (st.map fun v => v.category).sum ≤ 8) (hstk : stk = as.reverse ++ st) (hd : decode cc pc = .ok (.invokestatic ix, 3)) (hq : pc + 3 = q) (k : mm_C Λ cc nL own ret d enc q ls (.int t :: st) M o) : mm_C Λ cc nL own ret d enc pc ls stk M o := by
  have h := mm_callS (g := fun _ => o) E hsite hn hdep hst hstk hd hq (fun r hr => by cases hr; exact k)
  exact h
theorem mm_callSU {y : MethodName} {cc' : ByteArray} {nL' d' n ix : Nat} {ret' : Option FieldType} {as stk : List Value} {t : Int64} (E : mm_E Λ y cc' nL' ret' d' (mm_pL M) as M (some t)) (hsite : mm_sS own ix y cc' nL' ret' n) (hn : as.length = n) (hdep : d' + 1 ≤ d) (hst : (st.map fun v => v.category).sum ≤ 8) (hstk : stk = as.reverse ++ st) (hd : decode cc pc = .ok (.invokestatic ix, 3)) (hq : pc + 3 = q) (k : mm_C Λ cc nL own ret d enc q ls (.long t :: st) M o) : mm_C Λ cc nL own ret d enc pc ls stk M o := by
  have h := mm_callS (g := fun _ => o) E hsite hn hdep hst hstk hd hq (fun r hr => by cases hr; exact k)
  exact h
theorem mm_callSN {β : Type} {y : MethodName} {cc' : ByteArray} {nL' d' n ix : Nat} {ret' : Option FieldType} {enc' : β → Option Value × mm_M} {as stk : List Value} {o' : Option β} {g : β → Option α} (E : mm_E Λ y cc' nL' ret' d' enc' as M o') (hsite : mm_sSN own ix y cc' nL' ret' n) (hn : as.length = n) (hdep : d' + 1 ≤ d) (hst : (st.map fun v => v.category).sum ≤ 8) (hstk : stk = as.reverse ++ st) (hd : decode cc pc = .ok (.invokestatic ix, 3)) (hq : pc + 3 = q) (k : ∀ r, o' = some r → mm_C Λ cc nL own ret d enc q ls ((enc' r).1.toList ++ st) (enc' r).2 (g r)) : mm_C Λ cc nL own ret d enc pc ls stk M (o'.bind g) := by
  subst hq
  subst hstk
  intro a ha p l e s m args below meth c D cA ad H locs sl hC hX hP hS hL
  cases ho : o' with
  | none => rw [ho] at ha; cases ha
  | some r =>
    rw [ho] at ha
    have hM := E r ho l D cA ad
    obtain ⟨⟨host, w1⟩, w2, w4, w5, w6, w7⟩ := hsite
    have hR : (mm_R d').frames + 1 ≤ (mm_R d).frames ∧ 8 + (nL' + 11) + (mm_R d').locals ≤ (mm_R d).locals := ⟨hdep, by show 8 + (nL' + 11) + 40 * d' ≤ 40 * d; omega⟩
    refine mm_after (va_runSN (As := as.map (mm_cv ad)) (rest := st.map (mm_cv ad)) hC.fix hM ⟨va_cnB n hC.2.2.2.2.1 (mm_tb_good w5) rfl rfl rfl (hX.2.1 _ w1 rfl) (hC.ts w4) w6 hR, hC.ts w2, trivial⟩ ⟨mm_blind (as := as), fun U hU hW => ⟨by simp [mm_cv], hX.on (locs := locs) hW (by rw [hU]; exact hS), by rw [hU]; exact hP⟩⟩ rfl (by rw [List.length_map]; exact hn) hL.1 (by simp [mm_cv]) (lv_room (by rw [mm_cats]; exact hst)) hd ⟨Nat.zero_le _, Nat.zero_le _⟩) hS (fun H1 locs1 hP1 hS1 => ?_)
    have hk := k r ho a ha p l e s m args below meth c D cA ad H1 locs1 sl hC hX hP1 hS1 hL
    rw [List.map_append] at hk
    rwa [show (Option.map (mm_cv ad) (enc' r).1).toList = (enc' r).1.toList.map (mm_cv ad) by cases (enc' r).1 <;> rfl]
theorem mm_callSNI {y : MethodName} {cc' : ByteArray} {nL' d' n ix : Nat} {ret' : Option FieldType} {as stk : List Value} {o' : Option (Int32 × mm_M)} {g : Int32 × mm_M → Option α} (E : mm_E Λ y cc' nL' ret' d' mm_eI as M o') (hsite : mm_sSN own ix y cc' nL' ret' n) (hn : as.length = n) (hdep : d' + 1 ≤ d) (hst : (st.map fun v => v.category).sum ≤ 8) (hstk : stk = as.reverse ++ st) (hd : decode cc pc = .ok (.invokestatic ix, 3)) (hq : pc + 3 = q) (k : ∀ r, o' = some r → mm_C Λ cc nL own ret d enc q ls (.int r.1 :: st) r.2 (g r)) : mm_C Λ cc nL own ret d enc pc ls stk M (o'.bind g) := mm_callSN E hsite hn hdep hst hstk hd hq k
theorem mm_callSNV {y : MethodName} {cc' : ByteArray} {nL' d' n ix : Nat} {ret' : Option FieldType} {as stk : List Value} {o' : Option (mm_M)} {g : mm_M → Option α} (E : mm_E Λ y cc' nL' ret' d' mm_eV as M o') (hsite : mm_sSN own ix y cc' nL' ret' n) (hn : as.length = n) (hdep : d' + 1 ≤ d) (hst : (st.map fun v => v.category).sum ≤ 8) (hstk : stk = as.reverse ++ st) (hd : decode cc pc = .ok (.invokestatic ix, 3)) (hq : pc + 3 = q) (k : ∀ r, o' = some r → mm_C Λ cc nL own ret d enc q ls st r (g r)) : mm_C Λ cc nL own ret d enc pc ls stk M (o'.bind g) := mm_callSN E hsite hn hdep hst hstk hd hq k
theorem mm_callSNL {y : MethodName} {cc' : ByteArray} {nL' d' n ix : Nat} {ret' : Option FieldType} {as stk : List Value} {o' : Option (Int64 × mm_M)} {g : Int64 × mm_M → Option α} (E : mm_E Λ y cc' nL' ret' d' mm_eL as M o') (hsite : mm_sSN own ix y cc' nL' ret' n) (hn : as.length = n) (hdep : d' + 1 ≤ d) (hst : (st.map fun v => v.category).sum ≤ 8) (hstk : stk = as.reverse ++ st) (hd : decode cc pc = .ok (.invokestatic ix, 3)) (hq : pc + 3 = q) (k : ∀ r, o' = some r → mm_C Λ cc nL own ret d enc q ls (.long r.1 :: st) r.2 (g r)) : mm_C Λ cc nL own ret d enc pc ls stk M (o'.bind g) := mm_callSN E hsite hn hdep hst hstk hd hq k
theorem mm_callSNP {y : MethodName} {cc' : ByteArray} {nL' d' n ix : Nat} {ret' : Option FieldType} {as stk : List Value} {o' : Option (Int32)} {g : Int32 → Option α} (E : mm_E Λ y cc' nL' ret' d' (mm_pI M) as M o') (hsite : mm_sSN own ix y cc' nL' ret' n) (hn : as.length = n) (hdep : d' + 1 ≤ d) (hst : (st.map fun v => v.category).sum ≤ 8) (hstk : stk = as.reverse ++ st) (hd : decode cc pc = .ok (.invokestatic ix, 3)) (hq : pc + 3 = q) (k : ∀ r, o' = some r → mm_C Λ cc nL own ret d enc q ls (.int r :: st) M (g r)) : mm_C Λ cc nL own ret d enc pc ls stk M (o'.bind g) := mm_callSN E hsite hn hdep hst hstk hd hq k
theorem mm_callSNQ {y : MethodName} {cc' : ByteArray} {nL' d' n ix : Nat} {ret' : Option FieldType} {as stk : List Value} {o' : Option (Int64)} {g : Int64 → Option α} (E : mm_E Λ y cc' nL' ret' d' (mm_pL M) as M o') (hsite : mm_sSN own ix y cc' nL' ret' n) (hn : as.length = n) (hdep : d' + 1 ≤ d) (hst : (st.map fun v => v.category).sum ≤ 8) (hstk : stk = as.reverse ++ st) (hd : decode cc pc = .ok (.invokestatic ix, 3)) (hq : pc + 3 = q) (k : ∀ r, o' = some r → mm_C Λ cc nL own ret d enc q ls (.long r :: st) M (g r)) : mm_C Λ cc nL own ret d enc pc ls stk M (o'.bind g) := mm_callSN E hsite hn hdep hst hstk hd hq k
theorem mm_callSNT {y : MethodName} {cc' : ByteArray} {nL' d' n ix : Nat} {ret' : Option FieldType} {as stk : List Value} {t : Int32} (E : mm_E Λ y cc' nL' ret' d' (mm_pI M) as M (some t)) (hsite : mm_sSN own ix y cc' nL' ret' n) (hn : as.length = n) (hdep : d' + 1 ≤ d) (hst : (st.map fun v => v.category).sum ≤ 8) (hstk : stk = as.reverse ++ st) (hd : decode cc pc = .ok (.invokestatic ix, 3)) (hq : pc + 3 = q) (k : mm_C Λ cc nL own ret d enc q ls (.int t :: st) M o) : mm_C Λ cc nL own ret d enc pc ls stk M o := by
  have h := mm_callSN (g := fun _ => o) E hsite hn hdep hst hstk hd hq (fun r hr => by cases hr; exact k)
  exact h
theorem mm_callSNU {y : MethodName} {cc' : ByteArray} {nL' d' n ix : Nat} {ret' : Option FieldType} {as stk : List Value} {t : Int64} (E : mm_E Λ y cc' nL' ret' d' (mm_pL M) as M (some t)) (hsite : mm_sSN own ix y cc' nL' ret' n) (hn : as.length = n) (hdep : d' + 1 ≤ d) (hst : (st.map fun v => v.category).sum ≤ 8) (hstk : stk = as.reverse ++ st) (hd : decode cc pc = .ok (.invokestatic ix, 3)) (hq : pc + 3 = q) (k : mm_C Λ cc nL own ret d enc q ls (.long t :: st) M o) : mm_C Λ cc nL own ret d enc pc ls stk M o := by
  have h := mm_callSN (g := fun _ => o) E hsite hn hdep hst hstk hd hq (fun r hr => by cases hr; exact k)
  exact h
theorem mm_copy {k0 n0 k1 n1 ix : Nat} {sp dp n : Int32} {g : mm_M → Option α} (hΛ0 : Λ[k0]? = some (.inl n0)) (hΛ1 : Λ[k1]? = some (.inl n1)) (w1 : Cond.methodLink own ix arraycopyName ∈ mm_tb) (w2 : Cond.native arraycopyName ∈ mm_tb) (w3 : Cond.static arraycopyName ∈ mm_tb) (w4 : Cond.initialized "java/lang/System" ∈ mm_tb) (hdep : 1 ≤ d) (hst : (st.map fun v => v.category).sum ≤ 8) (hd : decode cc pc = .ok (.invokestatic ix, 3)) (hq : pc + 3 = q)
    (k : ∀ M', mm_cp M k0 n0 sp k1 n1 dp n = some M' → mm_C Λ cc nL own ret d enc q ls st M' (g M')) : mm_C Λ cc nL own ret d enc pc ls (.int n :: .int dp :: .ref k1 :: .int sp :: .ref k0 :: st) M ((mm_cp M k0 n0 sp k1 n1 dp n).bind g) := by
  subst hq
  intro a ha p l e s m args below meth c D cA ad H locs sl hC hX hP hS hL
  cases hx : mm_cp M k0 n0 sp k1 n1 dp n with
  | none => rw [hx] at ha; cases ha
  | some M' =>
    rw [hx] at ha
    have hx' := hx
    unfold mm_cp at hx
    split at hx
    · cases hx
    · rename_i hb
      cases hx
      simp only [not_or] at hb
      obtain ⟨b1, b2, b3, b4, b5⟩ := hb
      refine va_copyi (ty := .int) hC.1 hC.2.1 (hC.2.2.1.trans hL.1.symm) hC.2.2.2.1 (hC.ts w1) (hC.ts w2) (hC.ts w3) (hC.ts w4) hX.1 hP (mm_D hX.2.2.1) hS k0 k1 0 0 (mm_w_at hΛ0) (mm_w_at hΛ1) rfl rfl rfl b1 b2 b3 (by omega) (by omega) (fun _ _ => rfl) hdep (by rw [mm_cats]; show _ + (7 + 11) ≤ 40 * d; omega) hd (fun H1 locs1 hP1 _ hS1 => ?_)
      rw [mm_w_arr hΛ1] at hP1
      exact k _ hx' a ha p l e s m args below meth c D cA ad H1 locs1 sl hC hX hP1 hS1 hL
def mm_dr (i : Int32) : Option Int32 := if i < 0 ∨ 4 ≤ i.toNatClampNeg then none else some (([0, 6, 13, 23] : List Int32).getD i.toNatClampNeg 0)
theorem mm_gets {ix : Nat} (hw : Cond.fieldLink own ix "WordsLent" "DIGEST_DAYS" "[I" ∈ mm_tb) (hd : decode cc pc = .ok (.getstatic ix, 3)) (hq : pc + 3 = q) (k : mm_C Λ cc nL own ret d enc q ls (.ref 1000 :: st) M o) : mm_C Λ cc nL own ret d enc pc ls st M o := by
  subst hq
  intro a ha p l e s m args below meth c D cA ad H locs sl hC hX hP hS hL
  exact va_gets hC.1 hC.2.1 hX.2.2.2.1 hS hC.2.2.2.1 (hC.ts hw) (fun _ h => h) hd (k a ha p l e s m args below meth c D cA ad H locs sl hC hX hP hS hL)
theorem mm_glen (hd : decode cc pc = .ok (.arraylength, 1)) (hq : pc + 1 = q) (k : mm_C Λ cc nL own ret d enc q ls (.int 4 :: st) M o) : mm_C Λ cc nL own ret d enc pc ls (.ref 1000 :: st) M o := by
  subst hq
  intro a ha p l e s m args below meth c D cA ad H locs sl hC hX hP hS hL
  exact va_tlen hC.1 hC.2.1 hX.2.2.2.2 hS rfl hd (k a ha p l e s m args below meth c D cA ad H locs sl hC hX hP hS hL)
theorem mm_gld {i : Int32} {g : Int32 → Option α} (hd : decode cc pc = .ok (.iaload, 1)) (hq : pc + 1 = q) (k : ∀ x, mm_dr i = some x → mm_C Λ cc nL own ret d enc q ls (.int x :: st) M (g x)) : mm_C Λ cc nL own ret d enc pc ls (.int i :: .ref 1000 :: st) M ((mm_dr i).bind g) := by
  subst hq
  intro a ha p l e s m args below meth c D cA ad H locs sl hC hX hP hS hL
  cases hx : mm_dr i with
  | none => rw [hx] at ha; cases ha
  | some x =>
    rw [hx] at ha
    have hx' := hx
    unfold mm_dr at hx
    split at hx
    · cases hx
    · rename_i hb
      cases hx
      exact va_ti hC.1 hC.2.1 hX.2.2.2.2 hS hb rfl hd (k _ hx' a ha p l e s m args below meth c D cA ad H locs sl hC hX hP hS hL)
theorem mm_tswI {x : Int32} {v dflt lo hi off : Int} {offs : Array Int} {len tgt : Nat} (hx : x.toInt = v) (hd : decode cc pc = .ok (.tableswitch dflt lo hi offs, len)) (h1 : ¬ v < lo) (h2 : ¬ hi < v) (ho : offs[(v - lo).toNat]? = some off) (ht : (pc : Int) + off = (tgt : Int)) (k : mm_C Λ cc nL own ret d enc tgt ls st M o) : mm_C Λ cc nL own ret d enc pc ls (.int x :: st) M o := by
  subst hx
  intro a ha p l e s m args below meth c D cA ad H locs sl hC hX hP hS hL
  exact lv_tableIn hC.1 hC.2.1 hd h1 h2 ho ht (k a ha p l e s m args below meth c D cA ad H locs sl hC hX hP hS hL)
theorem mm_tswO {x : Int32} {dflt lo hi : Int} {offs : Array Int} {len tgt : Nat} (hx : x.toInt < lo ∨ hi < x.toInt) (hd : decode cc pc = .ok (.tableswitch dflt lo hi offs, len)) (ht : (pc : Int) + dflt = (tgt : Int)) (k : mm_C Λ cc nL own ret d enc tgt ls st M o) : mm_C Λ cc nL own ret d enc pc ls (.int x :: st) M o := by
  intro a ha p l e s m args below meth c D cA ad H locs sl hC hX hP hS hL
  exact lv_tableOut hC.1 hC.2.1 hd hx ht (k a ha p l e s m args below meth c D cA ad H locs sl hC hX hP hS hL)
theorem mm_lsw {x : Int32} {dflt off : Int} {ps : Array (Int × Int)} {len tgt : Nat} (hd : decode cc pc = .ok (.lookupswitch dflt ps, len)) (hp : (ps.toList.zip (ps.toList.drop 1)).all (fun (a, next) => a.1 < next.1) = true) (ho : Op.lookupswitch.offset ps.toList dflt x.toInt = off) (ht : (pc : Int) + off = (tgt : Int)) (k : mm_C Λ cc nL own ret d enc tgt ls st M o) : mm_C Λ cc nL own ret d enc pc ls (.int x :: st) M o := by
  intro a ha p l e s m args below meth c D cA ad H locs sl hC hX hP hS hL
  exact lv_lookup hC.1 hC.2.1 hd hp ho ht (k a ha p l e s m args below meth c D cA ad H locs sl hC hX hP hS hL)
def mm_min (x y : Int32) : Int32 := if y < x then y else x
theorem mm_mmin {ix : Nat} {x y : Int32} (hd : decode cc pc = .ok (.invokestatic ix, 3)) (hq : pc + 3 = q) (w1 : Cond.methodLink own ix Lib.Math.min.name ∈ mm_tb) (w2 : Cond.static Lib.Math.min.name ∈ mm_tb) (w3 : Cond.initialized "java/lang/Math" ∈ mm_tb) (w4 : Cond.code Lib.Math.min.name Lib.Math.min.code 2 (some .int) ∈ mm_tb) (hdep : 1 ≤ d) (hst : (st.map fun v => v.category).sum ≤ 8) (k : mm_C Λ cc nL own ret d enc q ls (.int (mm_min x y) :: st) M o) : mm_C Λ cc nL own ret d enc pc ls (.int y :: .int x :: st) M o := by
  subst hq
  intro a ha p l e s m args below meth c D cA ad H locs sl hC hX hP hS hL
  exact va_mmin hC.1 hC.2.1 (hC.2.2.1.trans hL.1.symm) hC.2.2.2.1 (hC.ts w1) (hC.ts w2) (hC.ts w3) (hC.ts w4) hdep (by rw [mm_cats]; show _ + 13 ≤ 40 * d; omega) (Nat.zero_le _) (Nat.zero_le _) hd (k a ha p l e s m args below meth c D cA ad H locs sl hC hX hP hS hL)
def mm_max (x y : Int32) : Int32 := if x < y then y else x
theorem mm_mmax {ix : Nat} {x y : Int32} (hd : decode cc pc = .ok (.invokestatic ix, 3)) (hq : pc + 3 = q) (w1 : Cond.methodLink own ix Lib.Math.max.name ∈ mm_tb) (w2 : Cond.static Lib.Math.max.name ∈ mm_tb) (w3 : Cond.initialized "java/lang/Math" ∈ mm_tb) (w4 : Cond.code Lib.Math.max.name Lib.Math.max.code 2 (some .int) ∈ mm_tb) (hdep : 1 ≤ d) (hst : (st.map fun v => v.category).sum ≤ 8) (k : mm_C Λ cc nL own ret d enc q ls (.int (mm_max x y) :: st) M o) : mm_C Λ cc nL own ret d enc pc ls (.int y :: .int x :: st) M o := by
  subst hq
  intro a ha p l e s m args below meth c D cA ad H locs sl hC hX hP hS hL
  exact va_mmax hC.1 hC.2.1 (hC.2.2.1.trans hL.1.symm) hC.2.2.2.1 (hC.ts w1) (hC.ts w2) (hC.ts w3) (hC.ts w4) hdep (by rw [mm_cats]; show _ + 13 ≤ 40 * d; omega) (Nat.zero_le _) (Nat.zero_le _) hd (k a ha p l e s m args below meth c D cA ad H locs sl hC hX hP hS hL)
end MMR
