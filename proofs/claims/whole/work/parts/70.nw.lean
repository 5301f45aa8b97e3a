/-! CONSTRUCTORS AND THE LAW: a walk over a world that grows; the rows -/
def nw_Cx (cc : ByteArray) (nL : Nat) (own : String) (D : va_G) (cA : Nat → ClassId) (A : Nat → Prop) (p : Program) (s : State) (m : MethodId) (args : Array Value) (c : Code) : Prop :=
  (p.tables.exec = Jvm.exec ∧ c.code = cc ∧ c.maxLocals = nL ∧ s.vm.findClass own = some m.cls ∧ (∀ w ∈ mm_tb, w.before args s = true)) ∧ va_K D vwCl (mm_tys cA) s ∧ mm_N s ∧ (∀ q, s.heap.size ≤ q → A q) ∧ va_AO "WordsLent$Text" s ∧ va_AO "WordsLent$Sheet" s
def nw_C (p : Program) (l : Launch) (e : Env) (R : Room) (s : State) (m : MethodId) (args : Array Value) (below : List Frame) (meth : Method) (c : Code) (D : va_G) (A : Nat → Prop) (nL : Nat) (Q : State → Prop) (pc : Nat) (lv : List (Nat × Value)) (st : List Value) (ws : va_W) (ce sl : Nat) : Prop :=
  ∀ (H : Heap) (locs : List Loc) (ls : Array Slot), va_P D vwCl ws H → va_D A ws → va_S A s.heap H locs → lv_has ls nL lv → W p l e R s m args below meth c H locs ce sl Q (F0 m pc ls st)
section NWR
variable {p : Program} {l : Launch} {e : Env} {R : Room} {s : State} {m : MethodId} {args : Array Value} {below : List Frame} {meth : Method} {c : Code} {D : va_G} {A : Nat → Prop} {nL : Nat} {Q : State → Prop} {cc : ByteArray} {own : String} {cA : Nat → ClassId} {pc q : Nat} {lv lv' : List (Nat × Value)} {st : List Value} {ws ws' : va_W} {ce sl ce' sl' : Nat}
theorem nw_aload (X : nw_Cx cc nL own D cA A p s m args c) {f : Fin 4} {i z x : Nat} (hd : decode cc pc = .ok (.aload_n f, 1)) (hq : pc + 1 = q) (hi : (f : Nat) = i) (hl : lv[z]? = some (i, .ref x)) (k : nw_C p l e R s m args below meth c D A nL Q q lv (.ref x :: st) ws ce sl) : nw_C p l e R s m args below meth c D A nL Q pc lv st ws ce sl := by
  subst hq
  intro H locs ls hP hD hS hL
  exact lv_aload_n X.1.1 X.1.2.1 hd hi (lv_at hL z hl) (k H locs ls hP hD hS hL)
theorem nw_iload (X : nw_Cx cc nL own D cA A p s m args c) {f : Fin 4} {i z : Nat} {x : Int32} (hd : decode cc pc = .ok (.iload_n f, 1)) (hq : pc + 1 = q) (hi : (f : Nat) = i) (hl : lv[z]? = some (i, .int x)) (k : nw_C p l e R s m args below meth c D A nL Q q lv (.int x :: st) ws ce sl) : nw_C p l e R s m args below meth c D A nL Q pc lv st ws ce sl := by
  subst hq
  intro H locs ls hP hD hS hL
  exact lv_iload_n X.1.1 X.1.2.1 hd hi (lv_at hL z hl) (k H locs ls hP hD hS hL)
theorem nw_iconst (X : nw_Cx cc nL own D cA A p s m args c) {n : Int} {v : Int32} (hd : decode cc pc = .ok (.iconst n, 1)) (hq : pc + 1 = q) (hv : Int32.ofInt n = v) (k : nw_C p l e R s m args below meth c D A nL Q q lv (.int v :: st) ws ce sl) : nw_C p l e R s m args below meth c D A nL Q pc lv st ws ce sl := by
  subst hq
  intro H locs ls hP hD hS hL
  exact lv_iconst X.1.1 X.1.2.1 hd hv (k H locs ls hP hD hS hL)
theorem nw_bipush (X : nw_Cx cc nL own D cA A p s m args c) {n : Int} {v : Int32} (hd : decode cc pc = .ok (.bipush n, 2)) (hq : pc + 2 = q) (hv : (Int8.ofInt n).toInt32 = v) (k : nw_C p l e R s m args below meth c D A nL Q q lv (.int v :: st) ws ce sl) : nw_C p l e R s m args below meth c D A nL Q pc lv st ws ce sl := by
  subst hq
  intro H locs ls hP hD hS hL
  exact lv_bipush X.1.1 X.1.2.1 hd hv (k H locs ls hP hD hS hL)
theorem nw_sipush (X : nw_Cx cc nL own D cA A p s m args c) {n : Int} {v : Int32} (hd : decode cc pc = .ok (.sipush n, 3)) (hq : pc + 3 = q) (hv : (Int16.ofInt n).toInt32 = v) (k : nw_C p l e R s m args below meth c D A nL Q q lv (.int v :: st) ws ce sl) : nw_C p l e R s m args below meth c D A nL Q pc lv st ws ce sl := by
  subst hq
  intro H locs ls hP hD hS hL
  exact lv_sipush X.1.1 X.1.2.1 hd hv (k H locs ls hP hD hS hL)
theorem nw_dup (X : nw_Cx cc nL own D cA A p s m args c) {v : Value} (hd : decode cc pc = .ok (.dup, 1)) (hq : pc + 1 = q) (hv : v.category = 1) (k : nw_C p l e R s m args below meth c D A nL Q q lv (v :: v :: st) ws ce sl) : nw_C p l e R s m args below meth c D A nL Q pc lv (v :: st) ws ce sl := by
  subst hq
  intro H locs ls hP hD hS hL
  exact lv_dup X.1.1 X.1.2.1 hd hv (k H locs ls hP hD hS hL)
theorem nw_iadd (X : nw_Cx cc nL own D cA A p s m args c) {x y v : Int32} (hd : decode cc pc = .ok (.iadd, 1)) (hq : pc + 1 = q) (hv : x + y = v) (k : nw_C p l e R s m args below meth c D A nL Q q lv (.int v :: st) ws ce sl) : nw_C p l e R s m args below meth c D A nL Q pc lv (.int y :: .int x :: st) ws ce sl := by
  subst hq
  subst hv
  intro H locs ls hP hD hS hL
  exact lv_iadd X.1.1 X.1.2.1 hd (k H locs ls hP hD hS hL)
theorem nw_isub (X : nw_Cx cc nL own D cA A p s m args c) {x y : Int32} (hd : decode cc pc = .ok (.isub, 1)) (hq : pc + 1 = q) (k : nw_C p l e R s m args below meth c D A nL Q q lv (.int (x - y) :: st) ws ce sl) : nw_C p l e R s m args below meth c D A nL Q pc lv (.int y :: .int x :: st) ws ce sl := by
  subst hq
  intro H locs ls hP hD hS hL
  exact lv_isub X.1.1 X.1.2.1 hd (k H locs ls hP hD hS hL)
theorem nw_iand (X : nw_Cx cc nL own D cA A p s m args c) {x y : Int32} (hd : decode cc pc = .ok (.iand, 1)) (hq : pc + 1 = q) (k : nw_C p l e R s m args below meth c D A nL Q q lv (.int (x &&& y) :: st) ws ce sl) : nw_C p l e R s m args below meth c D A nL Q pc lv (.int y :: .int x :: st) ws ce sl := by
  subst hq
  intro H locs ls hP hD hS hL
  exact lv_iand X.1.1 X.1.2.1 hd (k H locs ls hP hD hS hL)
theorem nw_lcmp (X : nw_Cx cc nL own D cA A p s m args c) {x y : Int64} (hd : decode cc pc = .ok (.lcmp, 1)) (hq : pc + 1 = q) (k : nw_C p l e R s m args below meth c D A nL Q q lv (.int (lg_cmp x y) :: st) ws ce sl) : nw_C p l e R s m args below meth c D A nL Q pc lv (.long y :: .long x :: st) ws ce sl := by
  subst hq
  intro H locs ls hP hD hS hL
  exact W.lcmp X.1.1 X.1.2.1 hd (k H locs ls hP hD hS hL)
theorem nw_goto (X : nw_Cx cc nL own D cA A p s m args c) {off : Int} {tgt : Nat} (hd : decode cc pc = .ok (.goto off, 3)) (ht : (pc : Int) + off = (tgt : Int)) (k : nw_C p l e R s m args below meth c D A nL Q tgt lv st ws ce sl) : nw_C p l e R s m args below meth c D A nL Q pc lv st ws ce sl := by
  intro H locs ls hP hD hS hL
  exact lv_goto X.1.1 X.1.2.1 hd ht (k H locs ls hP hD hS hL)
theorem nw_ge_t (X : nw_Cx cc nL own D cA A p s m args c) {x y : Int32} {off : Int} {tgt : Nat} (h0 : y ≤ x) (hd : decode cc pc = .ok (.if_icmp .ge off, 3)) (ht : (pc : Int) + off = (tgt : Int)) (k : nw_C p l e R s m args below meth c D A nL Q tgt lv st ws ce sl) : nw_C p l e R s m args below meth c D A nL Q pc lv (.int y :: .int x :: st) ws ce sl := by
  intro H locs ls hP hD hS hL
  exact lv_icmp_ge X.1.1 X.1.2.1 hd ht (fun _ => (k H locs ls hP hD hS hL)) (fun h => absurd h0 h)
theorem nw_ge_f (X : nw_Cx cc nL own D cA A p s m args c) {x y : Int32} {off : Int} {tgt : Nat} (h0 : ¬ y ≤ x) (hd : decode cc pc = .ok (.if_icmp .ge off, 3)) (hq : pc + 3 = q) (ht : (pc : Int) + off = (tgt : Int)) (k : nw_C p l e R s m args below meth c D A nL Q q lv st ws ce sl) : nw_C p l e R s m args below meth c D A nL Q pc lv (.int y :: .int x :: st) ws ce sl := by
  subst hq
  intro H locs ls hP hD hS hL
  exact lv_icmp_ge X.1.1 X.1.2.1 hd ht (fun h => absurd h h0) (fun _ => (k H locs ls hP hD hS hL))
theorem nw_gt_t (X : nw_Cx cc nL own D cA A p s m args c) {x y : Int32} {off : Int} {tgt : Nat} (h0 : y < x) (hd : decode cc pc = .ok (.if_icmp .gt off, 3)) (ht : (pc : Int) + off = (tgt : Int)) (k : nw_C p l e R s m args below meth c D A nL Q tgt lv st ws ce sl) : nw_C p l e R s m args below meth c D A nL Q pc lv (.int y :: .int x :: st) ws ce sl := by
  intro H locs ls hP hD hS hL
  exact lv_icmp_gt X.1.1 X.1.2.1 hd ht (fun _ => (k H locs ls hP hD hS hL)) (fun h => absurd h0 h)
theorem nw_gt_f (X : nw_Cx cc nL own D cA A p s m args c) {x y : Int32} {off : Int} {tgt : Nat} (h0 : ¬ y < x) (hd : decode cc pc = .ok (.if_icmp .gt off, 3)) (hq : pc + 3 = q) (ht : (pc : Int) + off = (tgt : Int)) (k : nw_C p l e R s m args below meth c D A nL Q q lv st ws ce sl) : nw_C p l e R s m args below meth c D A nL Q pc lv (.int y :: .int x :: st) ws ce sl := by
  subst hq
  intro H locs ls hP hD hS hL
  exact lv_icmp_gt X.1.1 X.1.2.1 hd ht (fun h => absurd h h0) (fun _ => (k H locs ls hP hD hS hL))
theorem nw_eq_t (X : nw_Cx cc nL own D cA A p s m args c) {x : Int32} {off : Int} {tgt : Nat} (hd : decode cc pc = .ok (.if_icmp .eq off, 3)) (ht : (pc : Int) + off = (tgt : Int)) (k : nw_C p l e R s m args below meth c D A nL Q tgt lv st ws ce sl) : nw_C p l e R s m args below meth c D A nL Q pc lv (.int x :: .int x :: st) ws ce sl := by
  intro H locs ls hP hD hS hL
  exact lv_icmp_eq X.1.1 X.1.2.1 hd ht (fun _ => (k H locs ls hP hD hS hL)) (fun h => absurd rfl h)
theorem nw_ifeq_t (X : nw_Cx cc nL own D cA A p s m args c) {x : Int32} {off : Int} {tgt : Nat} (h0 : x = 0) (hd : decode cc pc = .ok (.ifCond .eq off, 3)) (ht : (pc : Int) + off = (tgt : Int)) (k : nw_C p l e R s m args below meth c D A nL Q tgt lv st ws ce sl) : nw_C p l e R s m args below meth c D A nL Q pc lv (.int x :: st) ws ce sl := by
  intro H locs ls hP hD hS hL
  exact lv_if_eq X.1.1 X.1.2.1 hd ht (fun _ => (k H locs ls hP hD hS hL)) (fun h => absurd h0 h)
theorem nw_ifne_t (X : nw_Cx cc nL own D cA A p s m args c) {x : Int32} {off : Int} {tgt : Nat} (h0 : x = 0) (hd : decode cc pc = .ok (.ifCond .ne off, 3)) (hq : pc + 3 = q) (ht : (pc : Int) + off = (tgt : Int)) (k : nw_C p l e R s m args below meth c D A nL Q q lv st ws ce sl) : nw_C p l e R s m args below meth c D A nL Q pc lv (.int x :: st) ws ce sl := by
  subst hq
  intro H locs ls hP hD hS hL
  exact lv_if_ne X.1.1 X.1.2.1 hd ht (fun h => absurd h0 h) (fun _ => (k H locs ls hP hD hS hL))
theorem nw_ifne_f (X : nw_Cx cc nL own D cA A p s m args c) {x : Int32} {off : Int} {tgt : Nat} (h0 : ¬ x = 0) (hd : decode cc pc = .ok (.ifCond .ne off, 3)) (ht : (pc : Int) + off = (tgt : Int)) (k : nw_C p l e R s m args below meth c D A nL Q tgt lv st ws ce sl) : nw_C p l e R s m args below meth c D A nL Q pc lv (.int x :: st) ws ce sl := by
  intro H locs ls hP hD hS hL
  exact lv_if_ne X.1.1 X.1.2.1 hd ht (fun _ => (k H locs ls hP hD hS hL)) (fun h => absurd h h0)
theorem nw_istore (X : nw_Cx cc nL own D cA A p s m args c) {f : Fin 4} {i : Nat} {x : Int32} (hd : decode cc pc = .ok (.istore_n f, 1)) (hq : pc + 1 = q) (hi : (f : Nat) = i) (hn : i < nL) (hl : (i, Value.int x) :: lv.filter (fun q => !(q.1 == i) && !(q.1 + 1 == i && q.2.category == 2)) = lv') (k : nw_C p l e R s m args below meth c D A nL Q q lv' st ws ce sl) : nw_C p l e R s m args below meth c D A nL Q pc lv (.int x :: st) ws ce sl := by
  subst hq
  intro H locs ls hP hD hS hL
  exact lv_istore_n X.1.1 X.1.2.1 hd hi hL hn hl (fun ls' hl' => k H locs ls' hP hD hS hl')
theorem nw_astore (X : nw_Cx cc nL own D cA A p s m args c) {f : Fin 4} {i x : Nat} (hd : decode cc pc = .ok (.astore_n f, 1)) (hq : pc + 1 = q) (hi : (f : Nat) = i) (hn : i < nL) (hl : (i, Value.ref x) :: lv.filter (fun q => !(q.1 == i) && !(q.1 + 1 == i && q.2.category == 2)) = lv') (k : nw_C p l e R s m args below meth c D A nL Q q lv' st ws ce sl) : nw_C p l e R s m args below meth c D A nL Q pc lv (.ref x :: st) ws ce sl := by
  subst hq
  intro H locs ls hP hD hS hL
  exact lv_astore_n X.1.1 X.1.2.1 hd hi hL hn hl (fun ls' hl' => k H locs ls' hP hD hS hl')
theorem nw_iinc (X : nw_Cx cc nL own D cA A p s m args c) {i z : Nat} {n : Int} {x v : Int32} (hd : decode cc pc = .ok (.iinc i n, 3)) (hq : pc + 3 = q) (hz : lv[z]? = some (i, .int x)) (hv : x + Int32.ofInt n = v) (hn : i < nL) (hl : (i, Value.int v) :: lv.filter (fun q => !(q.1 == i) && !(q.1 + 1 == i && q.2.category == 2)) = lv') (k : nw_C p l e R s m args below meth c D A nL Q q lv' st ws ce sl) : nw_C p l e R s m args below meth c D A nL Q pc lv st ws ce sl := by
  subst hq
  intro H locs ls hP hD hS hL
  exact lv_iinc (v := v) X.1.1 X.1.2.1 hd hL hz hv hn hl (fun ls' hl' => k H locs ls' hP hD hS hl')
theorem nw_tab (X : nw_Cx cc nL own D cA A p s m args c) {x : Int32} {v dflt lo hi off : Int} {offs : Array Int} {len tgt : Nat} (hx : x.toInt = v) (hd : decode cc pc = .ok (.tableswitch dflt lo hi offs, len)) (h1 : ¬ v < lo) (h2 : ¬ hi < v) (ho : offs[(v - lo).toNat]? = some off) (ht : (pc : Int) + off = (tgt : Int)) (k : nw_C p l e R s m args below meth c D A nL Q tgt lv st ws ce sl) : nw_C p l e R s m args below meth c D A nL Q pc lv (.int x :: st) ws ce sl := by
  subst hx
  intro H locs ls hP hD hS hL
  exact lv_tableIn X.1.1 X.1.2.1 hd h1 h2 ho ht (k H locs ls hP hD hS hL)
theorem nw_tabO (X : nw_Cx cc nL own D cA A p s m args c) {x : Int32} {dflt lo hi : Int} {offs : Array Int} {len tgt : Nat} (hx : x.toInt < lo ∨ hi < x.toInt) (hd : decode cc pc = .ok (.tableswitch dflt lo hi offs, len)) (ht : (pc : Int) + dflt = (tgt : Int)) (k : nw_C p l e R s m args below meth c D A nL Q tgt lv st ws ce sl) : nw_C p l e R s m args below meth c D A nL Q pc lv (.int x :: st) ws ce sl := by
  intro H locs ls hP hD hS hL
  exact lv_tableOut X.1.1 X.1.2.1 hd hx ht (k H locs ls hP hD hS hL)
theorem nw_obj (X : nw_Cx cc nL own D cA A p s m args c) {ix x : Nat} (hd : decode cc pc = .ok (.invokespecial ix, 3)) (hq : pc + 3 = q) (w1 : Cond.methodLink own ix Lib.objectInit ∈ mm_tb) (w2 : Cond.instanceMethod Lib.objectInit ∈ mm_tb) (w3 : Cond.code Lib.objectInit ⟨#[0xb1]⟩ 1 none ∈ mm_tb) (hf : 1 ≤ R.frames) (hlo : (st.map fun v => v.category).sum + 12 ≤ R.locals) (k : nw_C p l e R s m args below meth c D A nL Q q lv st ws ce sl) : nw_C p l e R s m args below meth c D A nL Q pc lv (.ref x :: st) ws ce sl := by
  subst hq
  intro H locs ls hP hD hS hL
  exact W.objInit X.1.1 X.1.2.1 X.1.2.2.2.1 (X.1.2.2.2.2 _ w1) (X.1.2.2.2.2 _ w2) (X.1.2.2.2.2 _ w3) rfl (by rw [X.1.2.2.1]; exact hL.1) rfl hd hf (by show 2 * 0 + _ + 12 ≤ _; omega) (k H locs ls hP hD hS hL)
theorem nw_new (X : nw_Cx cc nL own D cA A p s m args c) {ix ci N : Nat} {C : String} {T : u_T} {ty : Nat → FieldType} {fs : List Value} (hd : decode cc pc = .ok (.new ix, 3)) (hq : pc + 3 = q) (hin : ∀ w ∈ u_ws C T N, w ∈ mm_tb) (hty : ∀ k, k < N → parseFieldDescriptor (T k).2.2.1 = some (ty k)) (w1 : Cond.classLink own ix C ∈ mm_tb) (w2 : Cond.instantiable C N ∈ mm_tb) (w3 : Cond.initialized C ∈ mm_tb) (hc : vwCl[ci]? = some (C, T, N)) (hfs : ∀ j, j < N → defaultValue (ty j) = vp_V fs j) (hce : ce + 1 ≤ R.cells) (hsl : sl + N ≤ R.slots) (ece : ce + 1 = ce') (esl : sl + N = sl') (k : ∀ a, nw_C p l e R s m args below meth c D A nL Q q lv (.ref a :: st) (ws ++ [(a, .inr (ci, fs))]) ce' sl') : nw_C p l e R s m args below meth c D A nL Q pc lv st ws ce sl := by
  subst hq
  subst ece
  subst esl
  intro H locs ls hP hD hS hL
  exact va_new X.1.1 X.1.2.1 X.1.2.2.2.2 hin ty hty X.1.2.2.2.1 (X.1.2.2.2.2 _ w1) (X.1.2.2.2.2 _ w2) (X.1.2.2.2.2 _ w3) X.2.1 hP hD hS X.2.2.2.1 hc hfs hce hsl hd (fun a H1 hP1 hD1 hS1 => k a H1 locs ls hP1 hD1 hS1 hL)
theorem nw_newa (X : nw_Cx cc nL own D cA A p s m args c) {n : Int32} {N : Nat} (hd : decode cc pc = .ok (.newarray .int, 2)) (hq : pc + 2 = q) (w : Cond.arrayClass .int ∈ mm_tb) (hn : ¬ n < 0) (hN : n.toNatClampNeg = N) (hb : N * 4 ≤ 536870912) (hce : ce + 1 ≤ R.cells) (hsl : sl + N ≤ R.slots) (ece : ce + 1 = ce') (esl : sl + N = sl') (k : ∀ a, nw_C p l e R s m args below meth c D A nL Q q lv (.ref a :: st) (ws ++ [(a, .inl (cA 0, N, .inl (fun _ => 0)))]) ce' sl') : nw_C p l e R s m args below meth c D A nL Q pc lv (.int n :: st) ws ce sl := by
  subst hq
  subst ece
  subst esl
  intro H locs ls hP hD hS hL
  refine va_newa (atype := .int) (a0 := (N, .inl (fun _ => 0))) X.1.1 X.1.2.1 (X.1.2.2.2.2 _ w) rfl X.2.1 hP hD hS X.2.2.2.1 (fun _ => rfl) hn hN hb hce hsl hd (fun a c1 H1 hK1 hP1 hD1 hS1 => ?_)
  have h0 : s.vm.findClass ("[" ++ (FieldType.int).toString) = some (cA 0) := (X.2.1.2 0 _ rfl).2
  have h1 : s.vm.findClass ("[" ++ (FieldType.int).toString) = some c1 := (hK1.2 3 _ rfl).2
  have e : c1 = cA 0 := Option.some.inj (h1.symm.trans h0)
  subst e
  exact k a H1 locs ls hP1 hD1 hS1 hL
theorem nw_newq (X : nw_Cx cc nL own D cA A p s m args c) {n : Int32} {N ix t : Nat} {C : String} (hd : decode cc pc = .ok (.anewarray ix, 3)) (hq : pc + 3 = q) (w : Cond.classLink own ix C ∈ mm_tb) (hO : va_AO C s) (ht : (mm_tys cA)[t]? = some (cA t, .object C)) (hn : ¬ n < 0) (hN : n.toNatClampNeg = N) (hb : N * 4 ≤ 536870912) (hce : ce + 1 ≤ R.cells) (hsl : sl + N ≤ R.slots) (ece : ce + 1 = ce') (esl : sl + N = sl') (k : ∀ a, nw_C p l e R s m args below meth c D A nL Q q lv (.ref a :: st) (ws ++ [(a, .inl (cA t, N, .inr (.inr (.inr (.inr (fun _ => none))))))]) ce' sl') : nw_C p l e R s m args below meth c D A nL Q pc lv (.int n :: st) ws ce sl := by
  subst hq
  subst ece
  subst esl
  intro H locs ls hP hD hS hL
  refine va_newq X.1.1 X.1.2.1 X.1.2.2.2.1 (X.1.2.2.2.2 _ w) hO X.2.1 hP hD hS X.2.2.2.1 hn hN hb hce hsl hd (fun a c1 H1 hK1 hP1 hD1 hS1 => ?_)
  obtain ⟨-, -, -, -, -, h0⟩ := (X.2.1.2 t _ ht).2
  obtain ⟨-, -, -, -, -, h1⟩ := (hK1.2 3 (c1, .object C) rfl).2
  have e : c1 = cA t := Option.some.inj (h1.symm.trans h0)
  subst e
  exact k a H1 locs ls hP1 hD1 hS1 hL
/-- a final field: whose it is, its type -/
def nw_pF (own : String) (ci j : Nat) (ty : FieldType) : Prop := ∃ (C : String) (T : u_T) (N : Nat) (ty0 : Nat → FieldType), vwCl[ci]? = some (C, T, N) ∧ (∀ k, k < N → parseFieldDescriptor (T k).2.2.1 = some (ty0 k)) ∧ (∀ a, a < N → ∀ b, b < N → a ≠ b → (T a).2.1 ≠ (T b).2.1) ∧ (T j).2.2.2 = true ∧ (T j).1 = own ∧ ty0 j = ty
theorem nw_putF (X : nw_Cx cc nL own D cA A p s m args c) (hname : meth.name = "<init>") {ix ci j q0 a : Nat} {fs : List Value} {ty : FieldType} {v : Value} (hd : decode cc pc = .ok (.putfield ix, 3)) (hq : pc + 3 = q) (hb : mm_fd own ix ci j) (hp : nw_pF own ci j ty) (he : ws[q0]? = some (a, .inr (ci, fs))) (hl : j < fs.length) (hn : narrow ty v = v) (hfit : fits ty v = true) (hw : ws.set q0 (a, .inr (ci, fs.set j v)) = ws') (k : nw_C p l e R s m args below meth c D A nL Q q lv st ws' ce sl) : nw_C p l e R s m args below meth c D A nL Q pc lv (v :: .ref a :: st) ws ce sl := by
  subst hq
  subst hw
  obtain ⟨C, T, N, b1, b2, b3, b4⟩ := hb
  obtain ⟨C2, T2, N2, ty0, p1, hty, hnm, hfin, hown, ht⟩ := hp
  cases b1.symm.trans p1
  subst ht
  intro H locs ls hP hD hS hL
  exact va_putF (D := D) (v := v) X.1.1 X.1.2.1 X.1.2.2.2.2 b3 ty0 hty hnm X.1.2.2.2.1 X.2.1 hP hD hS q0 he b1 j b2 (X.1.2.2.2.2 _ b4) (fun _ h => h) hfin hname hown (hty j b2) hn hfit hl hd (fun H1 locs1 hP1 hD1 hS1 => k H1 locs1 ls hP1 hD1 hS1 hL)
theorem nw_put (X : nw_Cx cc nL own D cA A p s m args c) {ix ci j q0 a : Nat} {fs : List Value} {ty : FieldType} {v : Value} (hd : decode cc pc = .ok (.putfield ix, 3)) (hq : pc + 3 = q) (hb : mm_fd own ix ci j) (hp : mm_ps ci j ty) (he : ws[q0]? = some (a, .inr (ci, fs))) (hl : j < fs.length) (hn : narrow ty v = v) (hfit : fits ty v = true) (hw : ws.set q0 (a, .inr (ci, fs.set j v)) = ws') (k : nw_C p l e R s m args below meth c D A nL Q q lv st ws' ce sl) : nw_C p l e R s m args below meth c D A nL Q pc lv (v :: .ref a :: st) ws ce sl := by
  subst hq
  subst hw
  obtain ⟨C, T, N, b1, b2, b3, b4⟩ := hb
  obtain ⟨C2, T2, N2, ty0, p1, hty, hnm, hfin, ht⟩ := hp
  cases b1.symm.trans p1
  subst ht
  intro H locs ls hP hD hS hL
  exact va_put (D := D) (v := v) X.1.1 X.1.2.1 X.1.2.2.2.2 b3 ty0 hty hnm X.1.2.2.2.1 X.2.1 hP hD hS q0 he b1 j b2 (X.1.2.2.2.2 _ b4) (fun _ h => h) hfin (hty j b2) hn hfit hl hd (fun H1 locs1 hP1 hD1 hS1 => k H1 locs1 ls hP1 hD1 hS1 hL)
theorem nw_get (X : nw_Cx cc nL own D cA A p s m args c) {ix ci j q0 a : Nat} {fs : List Value} {v : Value} (hd : decode cc pc = .ok (.getfield ix, 3)) (hq : pc + 3 = q) (hb : mm_fd own ix ci j) (he : ws[q0]? = some (a, .inr (ci, fs))) (hv : fs[j]? = some v) (k : nw_C p l e R s m args below meth c D A nL Q q lv (v :: st) ws ce sl) : nw_C p l e R s m args below meth c D A nL Q pc lv (.ref a :: st) ws ce sl := by
  subst hq
  obtain ⟨C, T, N, b1, b2, b3, b4⟩ := hb
  intro H locs ls hP hD hS hL
  exact va_get (D := D) (v := v) X.1.1 X.1.2.1 X.1.2.2.2.2 b3 X.1.2.2.2.1 X.2.1 hP q0 he b1 j b2 (X.1.2.2.2.2 _ b4) (fun _ h => h) hv hd (k H locs ls hP hD hS hL)
theorem nw_iast (X : nw_Cx cc nL own D cA A p s m args c) {q0 a n z : Nat} {i x : Int32} {f f' : Nat → Int32} (hd : decode cc pc = .ok (.iastore, 1)) (hq : pc + 1 = q) (he : ws[q0]? = some (a, .inl (cA 0, n, .inl f))) (hi : vp_in i n) (hz : i.toNatClampNeg = z) (hf : upd f z x = f') (hw : ws.set q0 (a, .inl (cA 0, n, .inl f')) = ws') (k : nw_C p l e R s m args below meth c D A nL Q q lv st ws' ce sl) : nw_C p l e R s m args below meth c D A nL Q pc lv (.int x :: .int i :: .ref a :: st) ws ce sl := by
  subst hq
  subst hw
  subst hf
  subst hz
  intro H locs ls hP hD hS hL
  exact va_iast X.1.1 X.1.2.1 X.2.1 hP hD hS q0 0 he rfl hi hd (fun H1 locs1 hP1 hD1 hS1 => k H1 locs1 ls hP1 hD1 hS1 hL)
theorem nw_aast (X : nw_Cx cc nL own D cA A p s m args c) {q0 qk a n z v t ci : Nat} {r : vw_C} {i : Int32} {vs : List Value} {f f' : Nat → Option Nat} (hd : decode cc pc = .ok (.aastore, 1)) (hq : pc + 1 = q) (he : ws[q0]? = some (a, .inl (cA t, n, .inr (.inr (.inr (.inr f)))))) (ht : (mm_tys cA)[t]? = some (cA t, .object r.1)) (hv : ws[qk]? = some (v, .inr (ci, vs))) (hc : vwCl[ci]? = some r) (hi : vp_in i n) (hz : i.toNatClampNeg = z) (hf : va_up f z (some v) = f') (hw : ws.set q0 (a, .inl (cA t, n, .inr (.inr (.inr (.inr f'))))) = ws') (k : nw_C p l e R s m args below meth c D A nL Q q lv st ws' ce sl) : nw_C p l e R s m args below meth c D A nL Q pc lv (.ref v :: .int i :: .ref a :: st) ws ce sl := by
  subst hq
  subst hw
  subst hf
  subst hz
  intro H locs ls hP hD hS hL
  exact va_astq X.1.1 X.1.2.1 X.2.1 hP hD hS q0 t qk ci he ht hv hc hi hd (fun H1 locs1 hP1 hD1 hS1 => k H1 locs1 ls hP1 hD1 hS1 hL)
theorem nw_pick {is : List Nat} {ws ws' : va_W} (h : is.map (fun i => ws[i]?) = ws'.map some) : is.filterMap (fun i => ws[i]?) = ws' := by
  have e : (is.map (fun i => ws[i]?)).filterMap id = ws' := by
    rw [h, List.filterMap_map]
    simp
  rw [List.filterMap_map] at e
  exact e
/-- the same cells in another order -/
theorem nw_sub (is : List Nat) (hnd : va_nd is = true) (h : is.map (fun i => ws[i]?) = ws'.map some) (k : nw_C p l e R s m args below meth c D A nL Q pc lv st ws' ce sl) : nw_C p l e R s m args below meth c D A nL Q pc lv st ws ce sl :=
  fun H locs ls hP hD hS hL => k H locs ls (hP.sub is (nw_pick h)) (hD.sub is hnd h) hS hL
theorem nw_ws (h : ws = ws') (k : nw_C p l e R s m args below meth c D A nL Q pc lv st ws' ce sl) : nw_C p l e R s m args below meth c D A nL Q pc lv st ws ce sl := h ▸ k
end NWR
