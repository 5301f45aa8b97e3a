/-! THE CLAIM OUT OF ONE WALK OF THE LAW'S BODY. Your part is whole_start (and what it stands on); all else here is the same for every law, but numbers. -/
def R_law : String := "WordsLentLaw"
def lw_P (b : Addr) (xs : List Int32) (args : Array Value) (s : State) : Prop := args = #[.ref b] ∧ s.IntsAt b xs ∧ xs.length ≤ 384 ∧ (Jvm.Cond.and given_1 narrow_1).before args s = true
def lw_Q (_ : Array Value) (s : State) (o : Outcome) (t : State) : Prop := o = .returned (some (.int 1)) ∧ Framed s o t [] 600000 7302249
def lw_Z (below : List Frame) (a : Array Value) (s : State) : State → Prop := fun t => ∃ o, t.status = .running ∧ Ended t below o ∧ lw_Q a s o t
/-- the law's own end, with 1 on the stack, nothing written that was there before, its room as the claim has it -/
theorem lw_ret {p : Program} {l : Launch} {e : Env} {s : State} {m : MethodId} {below : List Frame} {meth : Method} {c : Code} {b : Nat} (hx : p.tables.exec = Jvm.exec) (hb : c.code = code) (hr : meth.sig.returnType = ret) (hlocks : meth.locks = false) {pc : Nat} {H : Heap} {ls : Array Slot} (hdg : decode code pc = .ok (.ireturn, 1)) : W p l e room_1 s m #[Value.ref b] below meth c H [] 600000 7302249 (lw_Z below #[Value.ref b] s) (F0 m pc ls [.int 1]) := by
  intro T hT X
  obtain ⟨fs, hret, hrun, hended, hW, hframe⟩ := X.leave (v := some (.int 1)) (hlocks := hlocks) (fun h => by rw [hr] at h; cases h)
  have hmeth' : T.vm.method? m = some meth := X.method'
  refine ⟨T.setFrames fs, ?_, .returned (some (.int 1)), hrun, hended, rfl, ⟨_, rfl⟩, hW, hframe⟩
  jvm_step X.here [X.here.top, hx, hb, hdg, hmeth', hr, ret, narrow_b1]
  (try refine ⟨rfl, ?_⟩); (try refine ⟨rfl, ?_⟩)
  first | (intro acts; rw [hret _ acts rfl rfl rfl]) | rw [hret _ _ rfl rfl rfl]
  exact Steps.refl _
/-- what holds at the law's entry: the machine, the code, the tables' words (any of lw_tbl by 'hts w (by decide +kernel)'), the script of L ints xs at the cell b, what the Statement gives of the start (any of its parts by flat_of_before) -/
def lw_At (p : Program) (s : State) (m : MethodId) (meth : Method) (c : Code) (b L : Nat) (xs : Nat → Int32) : Prop :=
  p.tables.exec = Jvm.exec ∧ c.code = code ∧ meth.sig.returnType = ret ∧ c.maxLocals = 4 ∧ s.vm.findClass R_law = some m.cls ∧ (∀ w ∈ lw_tbl, w.before #[Value.ref b] s = true) ∧ va_X b L xs s s.heap ∧ b < s.heap.size ∧ meth.locks = false ∧ (Jvm.Cond.and given_1 narrow_1).before #[Value.ref b] s = true

/-! the start of both objects stands in the relation -/
def rl_S : md_T := fun _ _ => 0
theorem rl_n (t : Nat) : pa_n rl_S t = 0 := by
  unfold pa_n
  split
  · show (0 + 1) / pa_sp t = 0
    unfold pa_sp
    split <;> rfl
  · rfl
theorem rl_T0 : pa_T rl_S 0 0 = 0 := rl_n 0
theorem rl_T3 : pa_T rl_S 0 3 = 0 := rl_n 1
theorem rl_T7 : pa_T rl_S 0 7 = 0 := rl_n 2
theorem rel_0 : Rel nw_M0 nw_N0 := by
  have e : ∀ r, rr_enc 0 r = -1 := fun r => by rw [rr_enc, if_neg (by omega)]
  refine ⟨rl_S, ⟨fun t _ => ⟨Nat.zero_le _, fun i hi => absurd hi (Nat.not_lt_zero i)⟩, Nat.zero_le _, fun i hi => absurd hi (Nat.not_lt_zero i), Nat.zero_le _, fun i hi => absurd hi (Nat.not_lt_zero i)⟩, ⟨fun t ht => ?_, ⟨?_, ?_, ?_, fun k hk => ?_, fun k hk => ?_, fun k hk => ?_⟩, ⟨rfl, fun i hi => absurd hi (Nat.not_lt_zero i)⟩, ⟨rfl, fun i hi => absurd hi (Nat.not_lt_zero i)⟩⟩, ⟨fun t ht => ?_, ⟨rfl, fun i hi => absurd hi (Nat.not_lt_zero i)⟩, ⟨rfl, fun i hi => absurd hi (Nat.not_lt_zero i)⟩, rfl, rfl⟩, ⟨Or.inl rfl, Or.inl rfl⟩, ⟨rfl, fun z hz => ?_⟩⟩
  · show nw_M0 (2 + 2 * t) 0 = nI t ∧ nw_M0 (2 + 2 * t) 1 = nI (pa_sp t) ∧ nw_M0 (2 + 2 * t) 3 = nI 0 ∧ nw_M0 (2 + 2 * t) 4 = rr_enc 0 (pa_w rl_S t) ∧ _
    rw [e]
    rcases q_lt3 ht with h | h | h <;> subst h
    · exact ⟨rfl, rfl, rfl, rfl, fun i hi => absurd hi (Nat.not_lt_zero i)⟩
    · exact ⟨rfl, rfl, rfl, rfl, fun i hi => absurd hi (Nat.not_lt_zero i)⟩
    · exact ⟨rfl, rfl, rfl, rfl, fun i hi => absurd hi (Nat.not_lt_zero i)⟩
  · rw [rl_T0]; rfl
  · rw [rl_T3]; rfl
  · rw [rl_T7]; rfl
  · rw [rl_T0] at hk; exact absurd hk (Nat.not_lt_zero k)
  · rw [rl_T3] at hk; exact absurd hk (Nat.not_lt_zero k)
  · rw [rl_T7] at hk; exact absurd hk (Nat.not_lt_zero k)
  · refine ⟨?_, fun i hi => absurd hi (Nat.not_lt_zero i)⟩
    rcases q_lt3 ht with h | h | h <;> subst h <;> rfl
  · rcases (show z = 0 ∨ z = 1 ∨ z = 2 ∨ z = 3 by omega) with h | h | h | h <;> subst h
    · exact ⟨by decide, Or.inl (by decide)⟩
    · exact ⟨by decide, Or.inl (by decide)⟩
    · exact ⟨by decide, Or.inl (by decide)⟩
    · exact ⟨by decide, Or.inl (by decide)⟩
/-! rows of the law -/
abbrev lw_A (s : State) : Nat → Prop := fun q => s.heap.size ≤ q
def lw_X (p : Program) (s : State) (m : MethodId) (c : Code) (D : va_G) (cA : Nat → ClassId) (b L : Nat) (xs : Nat → Int32) (td : Nat) : Prop := nw_Cx cL_law 4 RL D cA (lw_A s) p s m #[Value.ref b] c ∧ nw_Z td (lw_A s) s ∧ va_X b L xs s s.heap ∧ b < s.heap.size ∧ L ≤ 384
abbrev lw_C (p : Program) (l : Launch) (e : Env) (s : State) (m : MethodId) (below : List Frame) (meth : Method) (c : Code) (D : va_G) (b pc : Nat) (lv : List (Nat × Value)) (st : List Value) (ws : va_W) : Prop := nw_C p l e room_1 s m #[Value.ref b] below meth c D (lw_A s) 4 (lw_Z below #[Value.ref b] s) pc lv st ws 91 4503
abbrev lw_lv (b : Nat) (adC adR : Nat → Nat) (i : Nat) : List (Nat × Value) := [(3, .int (nI i)), (2, .ref (adR 0)), (1, .ref (adC 0)), (0, .ref b)]
section LWR
variable {p : Program} {l : Launch} {e : Env} {s : State} {m : MethodId} {below : List Frame} {meth : Method} {c : Code} {D : va_G} {cA : Nat → ClassId} {b L td pc q i : Nat} {xs : Nat → Int32} {adC adR : Nat → Nat} {lv : List (Nat × Value)} {st : List Value} {ws : va_W} {M N M' N' : mm_M}
theorem lw_in (hi : i < L) (hL : L ≤ 384) : vp_in (nI i) L := nI_in hi (by omega)
theorem lw_sld (X : lw_X p s m c D cA b L xs td) (hi : i < L) (hd : decode cL_law pc = .ok (.iaload, 1)) (hq : pc + 1 = q) (k : lw_C p l e s m below meth c D b q lv (.int (xs i) :: st) ws) : lw_C p l e s m below meth c D b pc lv (.int (nI i) :: .ref b :: st) ws := by
  subst hq
  have hL := X.2.2.2.2
  intro H locs ls hP hD hS hL'
  have kk := k H locs ls hP hD hS hL'
  have e0 : (nI i).toNatClampNeg = i := nI_clamp (by omega)
  rw [← e0] at kk
  exact va_sld X.1.1.1 X.1.1.2.1 X.2.2.1 X.2.2.2.1 (Nat.not_le.mpr X.2.2.2.1) hS (lw_in hi hL) hd kk
theorem lw_slen (X : lw_X p s m c D cA b L xs td) (hd : decode cL_law pc = .ok (.arraylength, 1)) (hq : pc + 1 = q) (k : lw_C p l e s m below meth c D b q lv (.int (nI L) :: st) ws) : lw_C p l e s m below meth c D b pc lv (.ref b :: st) ws := by
  subst hq
  intro H locs ls hP hD hS hL'
  exact va_slen X.1.1.1 X.1.1.2.1 X.2.2.1 X.2.2.2.1 (Nat.not_le.mpr X.2.2.2.1) hS hd (k H locs ls hP hD hS hL')
/-- an int of the script: five instructions -/
theorem lw_ld (X : lw_X p s m c D cA b L xs td) {j : Nat} {n : Int} (h0 : decode cL_law pc = .ok (.aload_n 0, 1)) (h1 : decode cL_law (pc + 1) = .ok (.iload_n 3, 1)) (h2 : decode cL_law (pc + 2) = .ok (.iconst n, 1)) (h3 : decode cL_law (pc + 3) = .ok (.iadd, 1)) (h4 : decode cL_law (pc + 4) = .ok (.iaload, 1)) (hq : pc + 5 = q) (hv : Int32.ofInt n = nI j) (hi : i + j < L) (k : lw_C p l e s m below meth c D b q (lw_lv b adC adR i) (.int (xs (i + j)) :: st) ws) : lw_C p l e s m below meth c D b pc (lw_lv b adC adR i) st ws := by
  refine nw_aload X.1 (z := 3) h0 rfl rfl rfl ?_
  refine nw_iload X.1 (z := 0) h1 rfl rfl rfl ?_
  refine nw_iconst X.1 h2 rfl hv ?_
  refine nw_iadd X.1 (v := nI (i + j)) h3 rfl (nI_add i j) ?_
  exact lw_sld X hi h4 hq k
theorem lc_call (X : lw_X p s m c D cA b L xs td) (h1000 : adC 1000 = td) {β : Type} {y : MethodName} {cc' : ByteArray} {nL' d' n ix : Nat} {ret' : Option FieldType} {enc' : β → Option Value × mm_M} {as stk : List Value} {o' : Option β} {r : β} {T : u_T} {NN : Nat} (hc : vwCl[6]? = some (y.cls, T, NN)) (E : mm_E LC y cc' nL' ret' d' enc' (.ref 0 :: as) M o') (ho : o' = some r) (hs : mm_sV RL ix y cc' nL' ret' n) (hn : as.length = n) (hint : as.map (mm_cv adC) = as) (hres : (enc' r).1.map (mm_cv adC) = (enc' r).1) (hR : d' + 1 ≤ 13 ∧ 8 + (nL' + 11) + 40 * d' ≤ 520) (hst : (st.map fun v => v.category).sum ≤ 8) (hstk : stk = as.reverse ++ .ref (adC 0) :: st) (hd : decode cL_law pc = .ok (.invokevirtual ix, 3)) (hq : pc + 3 = q) (k : lw_C p l e s m below meth c D b q lv ((enc' r).1.toList ++ st) (mm_w LC adC cA (enc' r).2 ++ mm_w LR adR cA N)) : lw_C p l e s m below meth c D b pc lv stk (mm_w LC adC cA M ++ mm_w LR adR cA N) := by
  refine nw_ws (List.nil_append _).symm ?_
  refine nw_call X.1 (Λ := LC) (w1 := []) (w2 := mm_w LR adR cA N) lc_0 hc E ho hs hn hint hres hR hst X.2.1 h1000 hstk (Nat.le_of_ble_eq_true rfl) (Nat.le_of_ble_eq_true rfl) hd hq ?_
  exact nw_ws (List.nil_append _) k
theorem lr_call (X : lw_X p s m c D cA b L xs td) (h1000 : adR 1000 = td) {β : Type} {y : MethodName} {cc' : ByteArray} {nL' d' n ix : Nat} {ret' : Option FieldType} {enc' : β → Option Value × mm_M} {as stk : List Value} {o' : Option β} {r : β} {T : u_T} {NN : Nat} (hc : vwCl[7]? = some (y.cls, T, NN)) (E : mm_E LR y cc' nL' ret' d' enc' (.ref 0 :: as) N o') (ho : o' = some r) (hs : mm_sV RL ix y cc' nL' ret' n) (hn : as.length = n) (hint : as.map (mm_cv adR) = as) (hres : (enc' r).1.map (mm_cv adR) = (enc' r).1) (hR : d' + 1 ≤ 13 ∧ 8 + (nL' + 11) + 40 * d' ≤ 520) (hst : (st.map fun v => v.category).sum ≤ 8) (hstk : stk = as.reverse ++ .ref (adR 0) :: st) (hd : decode cL_law pc = .ok (.invokevirtual ix, 3)) (hq : pc + 3 = q) (k : lw_C p l e s m below meth c D b q lv ((enc' r).1.toList ++ st) (mm_w LC adC cA M ++ mm_w LR adR cA (enc' r).2)) : lw_C p l e s m below meth c D b pc lv stk (mm_w LC adC cA M ++ mm_w LR adR cA N) := by
  refine nw_ws (ws' := mm_w LC adC cA M ++ (mm_w LR adR cA N ++ [])) (by rw [List.append_nil]) ?_
  refine nw_call X.1 (Λ := LR) (w1 := mm_w LC adC cA M) (w2 := []) lr_0 hc E ho hs hn hint hres hR hst X.2.1 h1000 hstk (Nat.le_of_ble_eq_true rfl) (Nat.le_of_ble_eq_true rfl) hd hq ?_
  exact nw_ws (by rw [List.append_nil]) k
theorem lc_callI (X : lw_X p s m c D cA b L xs td) (h1000 : adC 1000 = td) {y : MethodName} {cc' : ByteArray} {nL' d' n ix : Nat} {ret' : Option FieldType} {as stk : List Value} {o' : Option (Int32 × mm_M)} {r : Int32} {T : u_T} {NN : Nat} (hc : vwCl[6]? = some (y.cls, T, NN)) (E : mm_E LC y cc' nL' ret' d' mm_eI (.ref 0 :: as) M o') (ho : o' = some (r, M')) (hs : mm_sV RL ix y cc' nL' ret' n) (hn : as.length = n) (hint : as.map (mm_cv adC) = as) (hR : d' + 1 ≤ 13 ∧ 8 + (nL' + 11) + 40 * d' ≤ 520) (hst : (st.map fun v => v.category).sum ≤ 8) (hstk : stk = as.reverse ++ .ref (adC 0) :: st) (hd : decode cL_law pc = .ok (.invokevirtual ix, 3)) (hq : pc + 3 = q) (k : lw_C p l e s m below meth c D b q lv (.int r :: st) (mm_w LC adC cA M' ++ mm_w LR adR cA N)) : lw_C p l e s m below meth c D b pc lv stk (mm_w LC adC cA M ++ mm_w LR adR cA N) := lc_call X h1000 hc E ho hs hn hint rfl hR hst hstk hd hq k
theorem lc_callL (X : lw_X p s m c D cA b L xs td) (h1000 : adC 1000 = td) {y : MethodName} {cc' : ByteArray} {nL' d' n ix : Nat} {ret' : Option FieldType} {as stk : List Value} {o' : Option (Int64 × mm_M)} {r : Int64} {T : u_T} {NN : Nat} (hc : vwCl[6]? = some (y.cls, T, NN)) (E : mm_E LC y cc' nL' ret' d' mm_eL (.ref 0 :: as) M o') (ho : o' = some (r, M')) (hs : mm_sV RL ix y cc' nL' ret' n) (hn : as.length = n) (hint : as.map (mm_cv adC) = as) (hR : d' + 1 ≤ 13 ∧ 8 + (nL' + 11) + 40 * d' ≤ 520) (hst : (st.map fun v => v.category).sum ≤ 8) (hstk : stk = as.reverse ++ .ref (adC 0) :: st) (hd : decode cL_law pc = .ok (.invokevirtual ix, 3)) (hq : pc + 3 = q) (k : lw_C p l e s m below meth c D b q lv (.long r :: st) (mm_w LC adC cA M' ++ mm_w LR adR cA N)) : lw_C p l e s m below meth c D b pc lv stk (mm_w LC adC cA M ++ mm_w LR adR cA N) := lc_call X h1000 hc E ho hs hn hint rfl hR hst hstk hd hq k
theorem lc_callP (X : lw_X p s m c D cA b L xs td) (h1000 : adC 1000 = td) {y : MethodName} {cc' : ByteArray} {nL' d' n ix : Nat} {ret' : Option FieldType} {as stk : List Value} {o' : Option Int32} {r : Int32} {T : u_T} {NN : Nat} (hc : vwCl[6]? = some (y.cls, T, NN)) (E : mm_E LC y cc' nL' ret' d' (mm_pI M) (.ref 0 :: as) M o') (ho : o' = some r) (hs : mm_sV RL ix y cc' nL' ret' n) (hn : as.length = n) (hint : as.map (mm_cv adC) = as) (hR : d' + 1 ≤ 13 ∧ 8 + (nL' + 11) + 40 * d' ≤ 520) (hst : (st.map fun v => v.category).sum ≤ 8) (hstk : stk = as.reverse ++ .ref (adC 0) :: st) (hd : decode cL_law pc = .ok (.invokevirtual ix, 3)) (hq : pc + 3 = q) (k : lw_C p l e s m below meth c D b q lv (.int r :: st) (mm_w LC adC cA M ++ mm_w LR adR cA N)) : lw_C p l e s m below meth c D b pc lv stk (mm_w LC adC cA M ++ mm_w LR adR cA N) := lc_call X h1000 hc E ho hs hn hint rfl hR hst hstk hd hq k
theorem lr_callI (X : lw_X p s m c D cA b L xs td) (h1000 : adR 1000 = td) {y : MethodName} {cc' : ByteArray} {nL' d' n ix : Nat} {ret' : Option FieldType} {as stk : List Value} {o' : Option (Int32 × mm_M)} {r : Int32} {T : u_T} {NN : Nat} (hc : vwCl[7]? = some (y.cls, T, NN)) (E : mm_E LR y cc' nL' ret' d' mm_eI (.ref 0 :: as) N o') (ho : o' = some (r, N')) (hs : mm_sV RL ix y cc' nL' ret' n) (hn : as.length = n) (hint : as.map (mm_cv adR) = as) (hR : d' + 1 ≤ 13 ∧ 8 + (nL' + 11) + 40 * d' ≤ 520) (hst : (st.map fun v => v.category).sum ≤ 8) (hstk : stk = as.reverse ++ .ref (adR 0) :: st) (hd : decode cL_law pc = .ok (.invokevirtual ix, 3)) (hq : pc + 3 = q) (k : lw_C p l e s m below meth c D b q lv (.int r :: st) (mm_w LC adC cA M ++ mm_w LR adR cA N')) : lw_C p l e s m below meth c D b pc lv stk (mm_w LC adC cA M ++ mm_w LR adR cA N) := lr_call X h1000 hc E ho hs hn hint rfl hR hst hstk hd hq k
theorem lr_callL (X : lw_X p s m c D cA b L xs td) (h1000 : adR 1000 = td) {y : MethodName} {cc' : ByteArray} {nL' d' n ix : Nat} {ret' : Option FieldType} {as stk : List Value} {o' : Option (Int64 × mm_M)} {r : Int64} {T : u_T} {NN : Nat} (hc : vwCl[7]? = some (y.cls, T, NN)) (E : mm_E LR y cc' nL' ret' d' mm_eL (.ref 0 :: as) N o') (ho : o' = some (r, N')) (hs : mm_sV RL ix y cc' nL' ret' n) (hn : as.length = n) (hint : as.map (mm_cv adR) = as) (hR : d' + 1 ≤ 13 ∧ 8 + (nL' + 11) + 40 * d' ≤ 520) (hst : (st.map fun v => v.category).sum ≤ 8) (hstk : stk = as.reverse ++ .ref (adR 0) :: st) (hd : decode cL_law pc = .ok (.invokevirtual ix, 3)) (hq : pc + 3 = q) (k : lw_C p l e s m below meth c D b q lv (.long r :: st) (mm_w LC adC cA M ++ mm_w LR adR cA N')) : lw_C p l e s m below meth c D b pc lv stk (mm_w LC adC cA M ++ mm_w LR adR cA N) := lr_call X h1000 hc E ho hs hn hint rfl hR hst hstk hd hq k
end LWR
