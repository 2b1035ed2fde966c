/-! CATCHERS: the judgement RH: as RT, in a method with handlers -/
def CxH (Γ : Gm) (y : MethodName) (cc : ByteArray) (nL : Nat) (ret : Option FieldType) (hh : List (Nat × Nat × Nat × Nat)) (p : Program) (s : State) (m : MethodId) (args : Array Value) (meth : Method) (c : Code) : Prop :=
  p.tables.exec = Jvm.exec ∧ c.code = cc ∧ meth.sig.returnType = ret ∧ c.maxLocals = nL ∧ s.vm.findClass y.cls = some m.cls ∧ (∀ w ∈ TB, w.before args s = true) ∧ meth.locks = false ∧ c.exceptionTable.toList = tableOf hh ∧ va_K (gD Γ) (gcl Γ) (gty Γ) s ∧ gE Γ s s.heap ∧ GOK Γ
def CtH (Γ : Gm) (l : Launch) (d : Nat) (y : MethodName) (cc : ByteArray) (nL : Nat) (ret : Option FieldType) (hh : List (Nat × Nat × Nat × Nat)) (av : List Value) (w : Wd) (N : Option Value → Wd → Prop) (X : String → Wd → Prop) : Prop :=
  vx_Met l y (Cond.codeWith y cc nL ret hh :: TB) (rmD d) (Pn Γ av w) (Qn Γ N) (Xn Γ X) 0 0 (gAw Γ)
def RH (Γ : Gm) (l : Launch) (d : Nat) (y : MethodName) (cc : ByteArray) (nL : Nat) (ret : Option FieldType) (hh : List (Nat × Nat × Nat × Nat)) (N : Option Value → Wd → Prop) (X : String → Wd → Prop) (pc : Nat) (stk : List Value) (loc : List (Nat × Value)) (w : Wd) : Prop :=
  ∀ (p : Program) (e : Env) (s : State) (m : MethodId) (args : Array Value) (below : List Frame) (meth : Method) (c : Code) (H : Heap) (locs : List Loc) (ls : Array Slot), CxH Γ y cc nL ret hh p s m args meth c → va_P (gD Γ) (gcl Γ) (wl Γ w) H → va_S (gAw Γ) s.heap H locs → lv_has ls nL (loc.map (trp Γ)) →
    W p l e (rmD d) s m args below meth c H locs 0 0 (vx_MQ below (Qn Γ N) (Xn Γ X) args s 0 0 (gAw Γ)) (F0 m pc ls (stk.map (tr Γ)))
section RHR
variable {Γ : Gm} {l : Launch} {d : Nat} {y : MethodName} {cc : ByteArray} {nL : Nat} {ret : Option FieldType} {hh : List (Nat × Nat × Nat × Nat)} {N : Option Value → Wd → Prop} {X : String → Wd → Prop} {pc : Nat} {rest : List Value} {loc : List (Nat × Value)} {w : Wd}
theorem CtH.of {av : List Value} (hy : plainName y.cls = true) (hn : (lg_sl av).length ≤ nL) (h : RH Γ l d y cc nL ret hh N X 0 [] (lv_args 0 av) w) : CtH Γ l d y cc nL ret hh av w N X := by
  refine vx_ofWH (cc := cc) (maxL := nL) (ret := ret) hy rfl ?_
  intro p e s m args below meth c s₁ B hml hp
  obtain ⟨rfl, hP, hK, hE, hG⟩ := hp
  have hts := atoms_spec (ws := Cond.codeWith y cc nL ret hh :: TB) B.pre
  have htb := vx_table (x := y) B (hts _ List.mem_cons_self)
  have hown : s.vm.findClass y.cls = some m.cls := findClass_of_methodNamed B.named
  have hl := lv_entry (av.map (tr Γ)) (n := nL) (by rw [lg_sl_tr]; exact hn)
  rw [lg_entry_eq]
  rw [lv_args_tr] at hl
  exact h p e s m _ below meth c s.heap [] _ ⟨B.exec, B.bytes, B.returns, hml, hown, fun w hw => hts w (List.mem_cons_of_mem _ hw), B.notSynchronized, htb, hK, hE, hG⟩ hP va_S.rf hl
theorem h_iconst {n : Int} {v : Int32} (hdg : decode cc pc = .ok (.iconst n, 1)) (hv : Int32.ofInt n = v) (k : RH Γ l d y cc nL ret hh N X (pc + 1) (.int v :: rest) loc w) : RH Γ l d y cc nL ret hh N X pc rest loc w := by
  intro p e s m args below meth c H locs ls hC hP hS hl
  obtain ⟨hx, hb, hr, hml, hown, hts, hlk, het, hK, hE, hG⟩ := id hC
  exact lv_iconst hx hb hdg hv (k p e s m args below meth c H locs ls hC hP hS hl)
theorem h_bipush {n : Int} {v : Int32} (hdg : decode cc pc = .ok (.bipush n, 2)) (hv : (Int8.ofInt n).toInt32 = v) (k : RH Γ l d y cc nL ret hh N X (pc + 2) (.int v :: rest) loc w) : RH Γ l d y cc nL ret hh N X pc rest loc w := by
  intro p e s m args below meth c H locs ls hC hP hS hl
  obtain ⟨hx, hb, hr, hml, hown, hts, hlk, het, hK, hE, hG⟩ := id hC
  exact lv_bipush hx hb hdg hv (k p e s m args below meth c H locs ls hC hP hS hl)
theorem h_sipush {n : Int} {v : Int32} (hdg : decode cc pc = .ok (.sipush n, 3)) (hv : (Int16.ofInt n).toInt32 = v) (k : RH Γ l d y cc nL ret hh N X (pc + 3) (.int v :: rest) loc w) : RH Γ l d y cc nL ret hh N X pc rest loc w := by
  intro p e s m args below meth c H locs ls hC hP hS hl
  obtain ⟨hx, hb, hr, hml, hown, hts, hlk, het, hK, hE, hG⟩ := id hC
  exact lv_sipush hx hb hdg hv (k p e s m args below meth c H locs ls hC hP hS hl)
theorem h_lconst {n : Fin 2} {v : Int64} (hdg : decode cc pc = .ok (.lconst n, 1)) (hv : Int64.ofNat (n : Nat) = v) (k : RH Γ l d y cc nL ret hh N X (pc + 1) (.long v :: rest) loc w) : RH Γ l d y cc nL ret hh N X pc rest loc w := by
  intro p e s m args below meth c H locs ls hC hP hS hl
  obtain ⟨hx, hb, hr, hml, hown, hts, hlk, het, hK, hE, hG⟩ := id hC
  exact lv_lconst hx hb hdg hv (k p e s m args below meth c H locs ls hC hP hS hl)
theorem h_ldc {index : Nat} {v : Int32} (hdg : decode cc pc = .ok (.ldc index, 2)) (hc : Cond.constant y.cls index v ∈ TB) (k : RH Γ l d y cc nL ret hh N X (pc + 2) (.int v :: rest) loc w) : RH Γ l d y cc nL ret hh N X pc rest loc w := by
  intro p e s m args below meth c H locs ls hC hP hS hl
  obtain ⟨hx, hb, hr, hml, hown, hts, hlk, het, hK, hE, hG⟩ := id hC
  exact lv_ldc hx hb hown (hts _ hc) hdg (k p e s m args below meth c H locs ls hC hP hS hl)
theorem h_ldcw {index : Nat} {v : Int32} (hdg : decode cc pc = .ok (.ldc_w index, 3)) (hc : Cond.constant y.cls index v ∈ TB) (k : RH Γ l d y cc nL ret hh N X (pc + 3) (.int v :: rest) loc w) : RH Γ l d y cc nL ret hh N X pc rest loc w := by
  intro p e s m args below meth c H locs ls hC hP hS hl
  obtain ⟨hx, hb, hr, hml, hown, hts, hlk, het, hK, hE, hG⟩ := id hC
  exact lv_ldcw hx hb hown (hts _ hc) hdg (k p e s m args below meth c H locs ls hC hP hS hl)
theorem h_ldc2 {index : Nat} {v : Int64} (hdg : decode cc pc = .ok (.ldc2_w index, 3)) (hc : Cond.constantLong y.cls index v ∈ TB) (k : RH Γ l d y cc nL ret hh N X (pc + 3) (.long v :: rest) loc w) : RH Γ l d y cc nL ret hh N X pc rest loc w := by
  intro p e s m args below meth c H locs ls hC hP hS hl
  obtain ⟨hx, hb, hr, hml, hown, hts, hlk, het, hK, hE, hG⟩ := id hC
  exact lv_ldc2 hx hb hown (hts _ hc) hdg (k p e s m args below meth c H locs ls hC hP hS hl)
theorem h_iload_n {k0 : Fin 4} {i : Nat} {x : Int32} (hdg : decode cc pc = .ok (.iload_n k0, 1)) (hi : (k0 : Nat) = i) (q : Nat) (hq : loc[q]? = some (i, .int x)) (k : RH Γ l d y cc nL ret hh N X (pc + 1) (.int x :: rest) loc w) : RH Γ l d y cc nL ret hh N X pc rest loc w := by
  intro p e s m args below meth c H locs ls hC hP hS hl
  obtain ⟨hx, hb, hr, hml, hown, hts, hlk, het, hK, hE, hG⟩ := id hC
  exact lv_iload_n hx hb hdg hi (lv_at hl q (by rw [List.getElem?_map, hq]; rfl)) (k p e s m args below meth c H locs ls hC hP hS hl)
theorem h_iload {i : Nat} {x : Int32} (hdg : decode cc pc = .ok (.iload i, 2)) (q : Nat) (hq : loc[q]? = some (i, .int x)) (k : RH Γ l d y cc nL ret hh N X (pc + 2) (.int x :: rest) loc w) : RH Γ l d y cc nL ret hh N X pc rest loc w := by
  intro p e s m args below meth c H locs ls hC hP hS hl
  obtain ⟨hx, hb, hr, hml, hown, hts, hlk, het, hK, hE, hG⟩ := id hC
  exact lv_iload hx hb hdg (lv_at hl q (by rw [List.getElem?_map, hq]; rfl)) (k p e s m args below meth c H locs ls hC hP hS hl)
theorem h_lload_n {k0 : Fin 4} {i : Nat} {x : Int64} (hdg : decode cc pc = .ok (.lload_n k0, 1)) (hi : (k0 : Nat) = i) (q : Nat) (hq : loc[q]? = some (i, .long x)) (k : RH Γ l d y cc nL ret hh N X (pc + 1) (.long x :: rest) loc w) : RH Γ l d y cc nL ret hh N X pc rest loc w := by
  intro p e s m args below meth c H locs ls hC hP hS hl
  obtain ⟨hx, hb, hr, hml, hown, hts, hlk, het, hK, hE, hG⟩ := id hC
  exact lv_lload_n hx hb hdg hi (lv_at hl q (by rw [List.getElem?_map, hq]; rfl)) (k p e s m args below meth c H locs ls hC hP hS hl)
theorem h_lload {i : Nat} {x : Int64} (hdg : decode cc pc = .ok (.lload i, 2)) (q : Nat) (hq : loc[q]? = some (i, .long x)) (k : RH Γ l d y cc nL ret hh N X (pc + 2) (.long x :: rest) loc w) : RH Γ l d y cc nL ret hh N X pc rest loc w := by
  intro p e s m args below meth c H locs ls hC hP hS hl
  obtain ⟨hx, hb, hr, hml, hown, hts, hlk, het, hK, hE, hG⟩ := id hC
  exact lv_lload hx hb hdg (lv_at hl q (by rw [List.getElem?_map, hq]; rfl)) (k p e s m args below meth c H locs ls hC hP hS hl)
theorem h_aload_n {k0 : Fin 4} {i : Nat} {x : Nat} (hdg : decode cc pc = .ok (.aload_n k0, 1)) (hi : (k0 : Nat) = i) (q : Nat) (hq : loc[q]? = some (i, .ref x)) (k : RH Γ l d y cc nL ret hh N X (pc + 1) (.ref x :: rest) loc w) : RH Γ l d y cc nL ret hh N X pc rest loc w := by
  intro p e s m args below meth c H locs ls hC hP hS hl
  obtain ⟨hx, hb, hr, hml, hown, hts, hlk, het, hK, hE, hG⟩ := id hC
  exact lv_aload_n hx hb hdg hi (lv_at hl q (by rw [List.getElem?_map, hq]; rfl)) (k p e s m args below meth c H locs ls hC hP hS hl)
theorem h_aload {i : Nat} {x : Nat} (hdg : decode cc pc = .ok (.aload i, 2)) (q : Nat) (hq : loc[q]? = some (i, .ref x)) (k : RH Γ l d y cc nL ret hh N X (pc + 2) (.ref x :: rest) loc w) : RH Γ l d y cc nL ret hh N X pc rest loc w := by
  intro p e s m args below meth c H locs ls hC hP hS hl
  obtain ⟨hx, hb, hr, hml, hown, hts, hlk, het, hK, hE, hG⟩ := id hC
  exact lv_aload hx hb hdg (lv_at hl q (by rw [List.getElem?_map, hq]; rfl)) (k p e s m args below meth c H locs ls hC hP hS hl)
theorem h_istore_n {k0 : Fin 4} {i : Nat} {x : Int32} {loc' : List (Nat × Value)} (hdg : decode cc pc = .ok (.istore_n k0, 1)) (hi : (k0 : Nat) = i) (hn : i < nL) (hl' : (i, Value.int x) :: loc.filter (fun q => !(q.1 == i) && !(q.1 + 1 == i && q.2.category == 2)) = loc') (k : RH Γ l d y cc nL ret hh N X (pc + 1) rest loc' w) : RH Γ l d y cc nL ret hh N X pc (.int x :: rest) loc w := by
  intro p e s m args below meth c H locs ls hC hP hS hl
  obtain ⟨hx, hb, hr, hml, hown, hts, hlk, het, hK, hE, hG⟩ := id hC
  refine lv_istore_n (lv' := loc'.map (trp Γ)) hx hb hdg hi hl hn ?_ (fun ls' hl9 => k p e s m args below meth c H locs ls' hC hP hS hl9)
  rw [← hl', List.map_cons, trp_filter Γ loc _ (fun q => by simp only [trp, tr_cat])]
  rfl
theorem h_istore {i : Nat} {x : Int32} {loc' : List (Nat × Value)} (hdg : decode cc pc = .ok (.istore i, 2)) (hn : i < nL) (hl' : (i, Value.int x) :: loc.filter (fun q => !(q.1 == i) && !(q.1 + 1 == i && q.2.category == 2)) = loc') (k : RH Γ l d y cc nL ret hh N X (pc + 2) rest loc' w) : RH Γ l d y cc nL ret hh N X pc (.int x :: rest) loc w := by
  intro p e s m args below meth c H locs ls hC hP hS hl
  obtain ⟨hx, hb, hr, hml, hown, hts, hlk, het, hK, hE, hG⟩ := id hC
  refine lv_istore (lv' := loc'.map (trp Γ)) hx hb hdg hl hn ?_ (fun ls' hl9 => k p e s m args below meth c H locs ls' hC hP hS hl9)
  rw [← hl', List.map_cons, trp_filter Γ loc _ (fun q => by simp only [trp, tr_cat])]
  rfl
theorem h_lstore_n {k0 : Fin 4} {i : Nat} {x : Int64} {loc' : List (Nat × Value)} (hdg : decode cc pc = .ok (.lstore_n k0, 1)) (hi : (k0 : Nat) = i) (hn : i + 1 < nL) (hl' : (i, Value.long x) :: loc.filter (fun q => !(q.1 == i) && (!(q.1 == i + 1) && !(q.1 + 1 == i && q.2.category == 2))) = loc') (k : RH Γ l d y cc nL ret hh N X (pc + 1) rest loc' w) : RH Γ l d y cc nL ret hh N X pc (.long x :: rest) loc w := by
  intro p e s m args below meth c H locs ls hC hP hS hl
  obtain ⟨hx, hb, hr, hml, hown, hts, hlk, het, hK, hE, hG⟩ := id hC
  refine lv_lstore_n (lv' := loc'.map (trp Γ)) hx hb hdg hi hl hn ?_ (fun ls' hl9 => k p e s m args below meth c H locs ls' hC hP hS hl9)
  rw [← hl', List.map_cons, trp_filter Γ loc _ (fun q => by simp only [trp, tr_cat])]
  rfl
theorem h_lstore {i : Nat} {x : Int64} {loc' : List (Nat × Value)} (hdg : decode cc pc = .ok (.lstore i, 2)) (hn : i + 1 < nL) (hl' : (i, Value.long x) :: loc.filter (fun q => !(q.1 == i) && (!(q.1 == i + 1) && !(q.1 + 1 == i && q.2.category == 2))) = loc') (k : RH Γ l d y cc nL ret hh N X (pc + 2) rest loc' w) : RH Γ l d y cc nL ret hh N X pc (.long x :: rest) loc w := by
  intro p e s m args below meth c H locs ls hC hP hS hl
  obtain ⟨hx, hb, hr, hml, hown, hts, hlk, het, hK, hE, hG⟩ := id hC
  refine lv_lstore (lv' := loc'.map (trp Γ)) hx hb hdg hl hn ?_ (fun ls' hl9 => k p e s m args below meth c H locs ls' hC hP hS hl9)
  rw [← hl', List.map_cons, trp_filter Γ loc _ (fun q => by simp only [trp, tr_cat])]
  rfl
theorem h_astore_n {k0 : Fin 4} {i : Nat} {x : Nat} {loc' : List (Nat × Value)} (hdg : decode cc pc = .ok (.astore_n k0, 1)) (hi : (k0 : Nat) = i) (hn : i < nL) (hl' : (i, Value.ref x) :: loc.filter (fun q => !(q.1 == i) && !(q.1 + 1 == i && q.2.category == 2)) = loc') (k : RH Γ l d y cc nL ret hh N X (pc + 1) rest loc' w) : RH Γ l d y cc nL ret hh N X pc (.ref x :: rest) loc w := by
  intro p e s m args below meth c H locs ls hC hP hS hl
  obtain ⟨hx, hb, hr, hml, hown, hts, hlk, het, hK, hE, hG⟩ := id hC
  refine lv_astore_n (lv' := loc'.map (trp Γ)) hx hb hdg hi hl hn ?_ (fun ls' hl9 => k p e s m args below meth c H locs ls' hC hP hS hl9)
  rw [← hl', List.map_cons, trp_filter Γ loc _ (fun q => by simp only [trp, tr_cat])]
  rfl
theorem h_astore {i : Nat} {x : Nat} {loc' : List (Nat × Value)} (hdg : decode cc pc = .ok (.astore i, 2)) (hn : i < nL) (hl' : (i, Value.ref x) :: loc.filter (fun q => !(q.1 == i) && !(q.1 + 1 == i && q.2.category == 2)) = loc') (k : RH Γ l d y cc nL ret hh N X (pc + 2) rest loc' w) : RH Γ l d y cc nL ret hh N X pc (.ref x :: rest) loc w := by
  intro p e s m args below meth c H locs ls hC hP hS hl
  obtain ⟨hx, hb, hr, hml, hown, hts, hlk, het, hK, hE, hG⟩ := id hC
  refine lv_astore (lv' := loc'.map (trp Γ)) hx hb hdg hl hn ?_ (fun ls' hl9 => k p e s m args below meth c H locs ls' hC hP hS hl9)
  rw [← hl', List.map_cons, trp_filter Γ loc _ (fun q => by simp only [trp, tr_cat])]
  rfl
theorem h_iinc {i q : Nat} {n : Int} {x v : Int32} {loc' : List (Nat × Value)} (hdg : decode cc pc = .ok (.iinc i n, 3)) (hq : loc[q]? = some (i, .int x)) (hv : x + Int32.ofInt n = v) (hn : i < nL) (hl' : (i, Value.int v) :: loc.filter (fun q => !(q.1 == i) && !(q.1 + 1 == i && q.2.category == 2)) = loc') (k : RH Γ l d y cc nL ret hh N X (pc + 3) rest loc' w) : RH Γ l d y cc nL ret hh N X pc rest loc w := by
  intro p e s m args below meth c H locs ls hC hP hS hl
  obtain ⟨hx, hb, hr, hml, hown, hts, hlk, het, hK, hE, hG⟩ := id hC
  refine lv_iinc (k := q) (lv' := loc'.map (trp Γ)) hx hb hdg hl (by rw [List.getElem?_map, hq]; rfl) hv hn ?_ (fun ls' hl9 => k p e s m args below meth c H locs ls' hC hP hS hl9)
  rw [← hl', List.map_cons, trp_filter Γ loc _ (fun q => by simp only [trp, tr_cat])]
  rfl
theorem h_drop {loc' : List (Nat × Value)} (ks : List Nat) (h : lv_pick loc ks = loc') (k : RH Γ l d y cc nL ret hh N X pc rest loc' w) : RH Γ l d y cc nL ret hh N X pc rest loc w := by
  intro p e s m args below meth c H locs ls hC hP hS hl
  obtain ⟨hx, hb, hr, hml, hown, hts, hlk, het, hK, hE, hG⟩ := id hC
  refine k p e s m args below meth c H locs ls hC hP hS (lv_sub hl ks ?_)
  subst h
  unfold lv_pick
  rw [List.map_filterMap]
  congr 1
  funext i
  rw [List.getElem?_map]
theorem h_iadd {x z : Int32} (hdg : decode cc pc = .ok (.iadd, 1))  (k : RH Γ l d y cc nL ret hh N X (pc + 1) (.int (x + z) :: rest) loc w) : RH Γ l d y cc nL ret hh N X pc (.int z :: .int x :: rest) loc w := by
  intro p e s m args below meth c H locs ls hC hP hS hl
  obtain ⟨hx, hb, hr, hml, hown, hts, hlk, het, hK, hE, hG⟩ := id hC
  exact lv_iadd hx hb hdg  (k p e s m args below meth c H locs ls hC hP hS hl)
theorem h_isub {x z : Int32} (hdg : decode cc pc = .ok (.isub, 1))  (k : RH Γ l d y cc nL ret hh N X (pc + 1) (.int (x - z) :: rest) loc w) : RH Γ l d y cc nL ret hh N X pc (.int z :: .int x :: rest) loc w := by
  intro p e s m args below meth c H locs ls hC hP hS hl
  obtain ⟨hx, hb, hr, hml, hown, hts, hlk, het, hK, hE, hG⟩ := id hC
  exact lv_isub hx hb hdg  (k p e s m args below meth c H locs ls hC hP hS hl)
theorem h_imul {x z : Int32} (hdg : decode cc pc = .ok (.imul, 1))  (k : RH Γ l d y cc nL ret hh N X (pc + 1) (.int (x * z) :: rest) loc w) : RH Γ l d y cc nL ret hh N X pc (.int z :: .int x :: rest) loc w := by
  intro p e s m args below meth c H locs ls hC hP hS hl
  obtain ⟨hx, hb, hr, hml, hown, hts, hlk, het, hK, hE, hG⟩ := id hC
  exact lv_imul hx hb hdg  (k p e s m args below meth c H locs ls hC hP hS hl)
theorem h_iand {x z : Int32} (hdg : decode cc pc = .ok (.iand, 1))  (k : RH Γ l d y cc nL ret hh N X (pc + 1) (.int (x &&& z) :: rest) loc w) : RH Γ l d y cc nL ret hh N X pc (.int z :: .int x :: rest) loc w := by
  intro p e s m args below meth c H locs ls hC hP hS hl
  obtain ⟨hx, hb, hr, hml, hown, hts, hlk, het, hK, hE, hG⟩ := id hC
  exact lv_iand hx hb hdg  (k p e s m args below meth c H locs ls hC hP hS hl)
theorem h_ior {x z : Int32} (hdg : decode cc pc = .ok (.ior, 1))  (k : RH Γ l d y cc nL ret hh N X (pc + 1) (.int (x ||| z) :: rest) loc w) : RH Γ l d y cc nL ret hh N X pc (.int z :: .int x :: rest) loc w := by
  intro p e s m args below meth c H locs ls hC hP hS hl
  obtain ⟨hx, hb, hr, hml, hown, hts, hlk, het, hK, hE, hG⟩ := id hC
  exact lv_ior hx hb hdg  (k p e s m args below meth c H locs ls hC hP hS hl)
theorem h_ladd {x z : Int64} (hdg : decode cc pc = .ok (.ladd, 1))  (k : RH Γ l d y cc nL ret hh N X (pc + 1) (.long (x + z) :: rest) loc w) : RH Γ l d y cc nL ret hh N X pc (.long z :: .long x :: rest) loc w := by
  intro p e s m args below meth c H locs ls hC hP hS hl
  obtain ⟨hx, hb, hr, hml, hown, hts, hlk, het, hK, hE, hG⟩ := id hC
  exact lv_ladd hx hb hdg  (k p e s m args below meth c H locs ls hC hP hS hl)
theorem h_lsub {x z : Int64} (hdg : decode cc pc = .ok (.lsub, 1))  (k : RH Γ l d y cc nL ret hh N X (pc + 1) (.long (x - z) :: rest) loc w) : RH Γ l d y cc nL ret hh N X pc (.long z :: .long x :: rest) loc w := by
  intro p e s m args below meth c H locs ls hC hP hS hl
  obtain ⟨hx, hb, hr, hml, hown, hts, hlk, het, hK, hE, hG⟩ := id hC
  exact lv_lsub hx hb hdg  (k p e s m args below meth c H locs ls hC hP hS hl)
theorem h_lmul {x z : Int64} (hdg : decode cc pc = .ok (.lmul, 1))  (k : RH Γ l d y cc nL ret hh N X (pc + 1) (.long (x * z) :: rest) loc w) : RH Γ l d y cc nL ret hh N X pc (.long z :: .long x :: rest) loc w := by
  intro p e s m args below meth c H locs ls hC hP hS hl
  obtain ⟨hx, hb, hr, hml, hown, hts, hlk, het, hK, hE, hG⟩ := id hC
  exact lv_lmul hx hb hdg  (k p e s m args below meth c H locs ls hC hP hS hl)
theorem h_land {x z : Int64} (hdg : decode cc pc = .ok (.land, 1))  (k : RH Γ l d y cc nL ret hh N X (pc + 1) (.long (x &&& z) :: rest) loc w) : RH Γ l d y cc nL ret hh N X pc (.long z :: .long x :: rest) loc w := by
  intro p e s m args below meth c H locs ls hC hP hS hl
  obtain ⟨hx, hb, hr, hml, hown, hts, hlk, het, hK, hE, hG⟩ := id hC
  exact lv_land hx hb hdg  (k p e s m args below meth c H locs ls hC hP hS hl)
theorem h_lor {x z : Int64} (hdg : decode cc pc = .ok (.lor, 1))  (k : RH Γ l d y cc nL ret hh N X (pc + 1) (.long (x ||| z) :: rest) loc w) : RH Γ l d y cc nL ret hh N X pc (.long z :: .long x :: rest) loc w := by
  intro p e s m args below meth c H locs ls hC hP hS hl
  obtain ⟨hx, hb, hr, hml, hown, hts, hlk, het, hK, hE, hG⟩ := id hC
  exact lv_lor hx hb hdg  (k p e s m args below meth c H locs ls hC hP hS hl)
theorem h_lxor {x z : Int64} (hdg : decode cc pc = .ok (.lxor, 1))  (k : RH Γ l d y cc nL ret hh N X (pc + 1) (.long (x ^^^ z) :: rest) loc w) : RH Γ l d y cc nL ret hh N X pc (.long z :: .long x :: rest) loc w := by
  intro p e s m args below meth c H locs ls hC hP hS hl
  obtain ⟨hx, hb, hr, hml, hown, hts, hlk, het, hK, hE, hG⟩ := id hC
  exact lv_lxor hx hb hdg  (k p e s m args below meth c H locs ls hC hP hS hl)
theorem h_idiv {x z : Int32} (hdg : decode cc pc = .ok (.idiv, 1)) (hne : ¬ z = 0) (k : RH Γ l d y cc nL ret hh N X (pc + 1) (.int (x / z) :: rest) loc w) : RH Γ l d y cc nL ret hh N X pc (.int z :: .int x :: rest) loc w := by
  intro p e s m args below meth c H locs ls hC hP hS hl
  obtain ⟨hx, hb, hr, hml, hown, hts, hlk, het, hK, hE, hG⟩ := id hC
  exact lv_idiv hx hb hdg hne (k p e s m args below meth c H locs ls hC hP hS hl)
theorem h_irem {x z : Int32} (hdg : decode cc pc = .ok (.irem, 1)) (hne : ¬ z = 0) (k : RH Γ l d y cc nL ret hh N X (pc + 1) (.int (x - x / z * z) :: rest) loc w) : RH Γ l d y cc nL ret hh N X pc (.int z :: .int x :: rest) loc w := by
  intro p e s m args below meth c H locs ls hC hP hS hl
  obtain ⟨hx, hb, hr, hml, hown, hts, hlk, het, hK, hE, hG⟩ := id hC
  exact lv_irem hx hb hdg hne (k p e s m args below meth c H locs ls hC hP hS hl)
theorem h_ldiv {x z : Int64} (hdg : decode cc pc = .ok (.ldiv, 1)) (hne : ¬ z = 0) (k : RH Γ l d y cc nL ret hh N X (pc + 1) (.long (x / z) :: rest) loc w) : RH Γ l d y cc nL ret hh N X pc (.long z :: .long x :: rest) loc w := by
  intro p e s m args below meth c H locs ls hC hP hS hl
  obtain ⟨hx, hb, hr, hml, hown, hts, hlk, het, hK, hE, hG⟩ := id hC
  exact lv_ldiv hx hb hdg hne (k p e s m args below meth c H locs ls hC hP hS hl)
theorem h_lrem {x z : Int64} (hdg : decode cc pc = .ok (.lrem, 1)) (hne : ¬ z = 0) (k : RH Γ l d y cc nL ret hh N X (pc + 1) (.long (x - x / z * z) :: rest) loc w) : RH Γ l d y cc nL ret hh N X pc (.long z :: .long x :: rest) loc w := by
  intro p e s m args below meth c H locs ls hC hP hS hl
  obtain ⟨hx, hb, hr, hml, hown, hts, hlk, het, hK, hE, hG⟩ := id hC
  exact lv_lrem hx hb hdg hne (k p e s m args below meth c H locs ls hC hP hS hl)
theorem h_ineg {x : Int32} (hdg : decode cc pc = .ok (.ineg, 1))  (k : RH Γ l d y cc nL ret hh N X (pc + 1) (.int (-x) :: rest) loc w) : RH Γ l d y cc nL ret hh N X pc (.int x :: rest) loc w := by
  intro p e s m args below meth c H locs ls hC hP hS hl
  obtain ⟨hx, hb, hr, hml, hown, hts, hlk, het, hK, hE, hG⟩ := id hC
  exact lv_ineg hx hb hdg  (k p e s m args below meth c H locs ls hC hP hS hl)
theorem h_lneg {x : Int64} (hdg : decode cc pc = .ok (.lneg, 1))  (k : RH Γ l d y cc nL ret hh N X (pc + 1) (.long (-x) :: rest) loc w) : RH Γ l d y cc nL ret hh N X pc (.long x :: rest) loc w := by
  intro p e s m args below meth c H locs ls hC hP hS hl
  obtain ⟨hx, hb, hr, hml, hown, hts, hlk, het, hK, hE, hG⟩ := id hC
  exact lv_lneg hx hb hdg  (k p e s m args below meth c H locs ls hC hP hS hl)
theorem h_ishl {x z : Int32} (hdg : decode cc pc = .ok (.ishl, 1))  (k : RH Γ l d y cc nL ret hh N X (pc + 1) (.int (x <<< (z &&& 31)) :: rest) loc w) : RH Γ l d y cc nL ret hh N X pc (.int z :: .int x :: rest) loc w := by
  intro p e s m args below meth c H locs ls hC hP hS hl
  obtain ⟨hx, hb, hr, hml, hown, hts, hlk, het, hK, hE, hG⟩ := id hC
  exact lv_ishl hx hb hdg  (k p e s m args below meth c H locs ls hC hP hS hl)
theorem h_ishr {x z : Int32} (hdg : decode cc pc = .ok (.ishr, 1))  (k : RH Γ l d y cc nL ret hh N X (pc + 1) (.int (x >>> (z &&& 31)) :: rest) loc w) : RH Γ l d y cc nL ret hh N X pc (.int z :: .int x :: rest) loc w := by
  intro p e s m args below meth c H locs ls hC hP hS hl
  obtain ⟨hx, hb, hr, hml, hown, hts, hlk, het, hK, hE, hG⟩ := id hC
  exact lv_ishr hx hb hdg  (k p e s m args below meth c H locs ls hC hP hS hl)
theorem h_iushr {x z : Int32} (hdg : decode cc pc = .ok (.iushr, 1))  (k : RH Γ l d y cc nL ret hh N X (pc + 1) (.int ((x.toUInt32 >>> (z.toUInt32 &&& Int32.toUInt32 31)).toInt32) :: rest) loc w) : RH Γ l d y cc nL ret hh N X pc (.int z :: .int x :: rest) loc w := by
  intro p e s m args below meth c H locs ls hC hP hS hl
  obtain ⟨hx, hb, hr, hml, hown, hts, hlk, het, hK, hE, hG⟩ := id hC
  exact lv_iushr hx hb hdg rfl (k p e s m args below meth c H locs ls hC hP hS hl)
theorem h_lshl {x : Int64} {z : Int32} (hdg : decode cc pc = .ok (.lshl, 1))  (k : RH Γ l d y cc nL ret hh N X (pc + 1) (.long (x <<< (z.toInt64 &&& 63)) :: rest) loc w) : RH Γ l d y cc nL ret hh N X pc (.int z :: .long x :: rest) loc w := by
  intro p e s m args below meth c H locs ls hC hP hS hl
  obtain ⟨hx, hb, hr, hml, hown, hts, hlk, het, hK, hE, hG⟩ := id hC
  exact lv_lshl hx hb hdg rfl (k p e s m args below meth c H locs ls hC hP hS hl)
theorem h_lshr {x : Int64} {z : Int32} (hdg : decode cc pc = .ok (.lshr, 1))  (k : RH Γ l d y cc nL ret hh N X (pc + 1) (.long (x >>> (z.toInt64 &&& 63)) :: rest) loc w) : RH Γ l d y cc nL ret hh N X pc (.int z :: .long x :: rest) loc w := by
  intro p e s m args below meth c H locs ls hC hP hS hl
  obtain ⟨hx, hb, hr, hml, hown, hts, hlk, het, hK, hE, hG⟩ := id hC
  exact lv_lshr hx hb hdg rfl (k p e s m args below meth c H locs ls hC hP hS hl)
theorem h_i2l {x : Int32} (hdg : decode cc pc = .ok (.i2l, 1))  (k : RH Γ l d y cc nL ret hh N X (pc + 1) (.long x.toInt64 :: rest) loc w) : RH Γ l d y cc nL ret hh N X pc (.int x :: rest) loc w := by
  intro p e s m args below meth c H locs ls hC hP hS hl
  obtain ⟨hx, hb, hr, hml, hown, hts, hlk, het, hK, hE, hG⟩ := id hC
  exact lv_i2l hx hb hdg rfl (k p e s m args below meth c H locs ls hC hP hS hl)
theorem h_l2i {x : Int64} (hdg : decode cc pc = .ok (.l2i, 1))  (k : RH Γ l d y cc nL ret hh N X (pc + 1) (.int x.toInt32 :: rest) loc w) : RH Γ l d y cc nL ret hh N X pc (.long x :: rest) loc w := by
  intro p e s m args below meth c H locs ls hC hP hS hl
  obtain ⟨hx, hb, hr, hml, hown, hts, hlk, het, hK, hE, hG⟩ := id hC
  exact lv_l2i hx hb hdg rfl (k p e s m args below meth c H locs ls hC hP hS hl)
theorem h_i2b {x : Int32} (hdg : decode cc pc = .ok (.i2b, 1))  (k : RH Γ l d y cc nL ret hh N X (pc + 1) (.int x.toInt8.toInt32 :: rest) loc w) : RH Γ l d y cc nL ret hh N X pc (.int x :: rest) loc w := by
  intro p e s m args below meth c H locs ls hC hP hS hl
  obtain ⟨hx, hb, hr, hml, hown, hts, hlk, het, hK, hE, hG⟩ := id hC
  exact lv_i2b hx hb hdg rfl (k p e s m args below meth c H locs ls hC hP hS hl)
theorem h_i2c {x : Int32} (hdg : decode cc pc = .ok (.i2c, 1))  (k : RH Γ l d y cc nL ret hh N X (pc + 1) (.int (x.toUInt32 % 65536).toInt32 :: rest) loc w) : RH Γ l d y cc nL ret hh N X pc (.int x :: rest) loc w := by
  intro p e s m args below meth c H locs ls hC hP hS hl
  obtain ⟨hx, hb, hr, hml, hown, hts, hlk, het, hK, hE, hG⟩ := id hC
  exact lv_i2c hx hb hdg rfl (k p e s m args below meth c H locs ls hC hP hS hl)
theorem h_lcmp {x z : Int64} (hdg : decode cc pc = .ok (.lcmp, 1))  (k : RH Γ l d y cc nL ret hh N X (pc + 1) (.int (lg_cmp x z) :: rest) loc w) : RH Γ l d y cc nL ret hh N X pc (.long z :: .long x :: rest) loc w := by
  intro p e s m args below meth c H locs ls hC hP hS hl
  obtain ⟨hx, hb, hr, hml, hown, hts, hlk, het, hK, hE, hG⟩ := id hC
  exact W.lcmp hx hb hdg  (k p e s m args below meth c H locs ls hC hP hS hl)
theorem h_dup {va : Value} (hdg : decode cc pc = .ok (.dup, 1)) (ha : va.category = 1) (k : RH Γ l d y cc nL ret hh N X (pc + 1) (va :: va :: rest) loc w) : RH Γ l d y cc nL ret hh N X pc (va :: rest) loc w := by
  intro p e s m args below meth c H locs ls hC hP hS hl
  obtain ⟨hx, hb, hr, hml, hown, hts, hlk, het, hK, hE, hG⟩ := id hC
  exact lv_dup hx hb hdg (by rw [tr_cat]; exact ha) (k p e s m args below meth c H locs ls hC hP hS hl)
theorem h_pop {va : Value} (hdg : decode cc pc = .ok (.pop, 1)) (ha : va.category = 1) (k : RH Γ l d y cc nL ret hh N X (pc + 1) rest loc w) : RH Γ l d y cc nL ret hh N X pc (va :: rest) loc w := by
  intro p e s m args below meth c H locs ls hC hP hS hl
  obtain ⟨hx, hb, hr, hml, hown, hts, hlk, het, hK, hE, hG⟩ := id hC
  exact lv_pop hx hb hdg (by rw [tr_cat]; exact ha) (k p e s m args below meth c H locs ls hC hP hS hl)
theorem h_dup_x1 {va vb : Value} (hdg : decode cc pc = .ok (.dup_x1, 1)) (ha : va.category = 1) (hb9 : vb.category = 1) (k : RH Γ l d y cc nL ret hh N X (pc + 1) (va :: vb :: va :: rest) loc w) : RH Γ l d y cc nL ret hh N X pc (va :: vb :: rest) loc w := by
  intro p e s m args below meth c H locs ls hC hP hS hl
  obtain ⟨hx, hb, hr, hml, hown, hts, hlk, het, hK, hE, hG⟩ := id hC
  exact lv_dup_x1 hx hb hdg (by rw [tr_cat]; exact ha) (by rw [tr_cat]; exact hb9) (k p e s m args below meth c H locs ls hC hP hS hl)
theorem h_dup_x2 {va vb vd : Value} (hdg : decode cc pc = .ok (.dup_x2, 1)) (ha : va.category = 1) (hb9 : vb.category = 1) (hd9 : vd.category = 1) (k : RH Γ l d y cc nL ret hh N X (pc + 1) (va :: vb :: vd :: va :: rest) loc w) : RH Γ l d y cc nL ret hh N X pc (va :: vb :: vd :: rest) loc w := by
  intro p e s m args below meth c H locs ls hC hP hS hl
  obtain ⟨hx, hb, hr, hml, hown, hts, hlk, het, hK, hE, hG⟩ := id hC
  exact lv_dup_x2 hx hb hdg (by rw [tr_cat]; exact ha) (by rw [tr_cat]; exact hb9) (by rw [tr_cat]; exact hd9) (k p e s m args below meth c H locs ls hC hP hS hl)
theorem h_dup2 {va vb : Value} (hdg : decode cc pc = .ok (.dup2, 1)) (ha : va.category = 1) (hb9 : vb.category = 1) (k : RH Γ l d y cc nL ret hh N X (pc + 1) (va :: vb :: va :: vb :: rest) loc w) : RH Γ l d y cc nL ret hh N X pc (va :: vb :: rest) loc w := by
  intro p e s m args below meth c H locs ls hC hP hS hl
  obtain ⟨hx, hb, hr, hml, hown, hts, hlk, het, hK, hE, hG⟩ := id hC
  exact lv_dup2_11 hx hb hdg (by rw [tr_cat]; exact ha) (by rw [tr_cat]; exact hb9) (k p e s m args below meth c H locs ls hC hP hS hl)
theorem h_icmp_eq {x z : Int32} {off : Int} {tgt : Nat} (hdg : decode cc pc = .ok (.if_icmp .eq off, 3)) (ht : (pc : Int) + off = (tgt : Int)) (kt : x = z → RH Γ l d y cc nL ret hh N X tgt rest loc w) (kf : ¬ x = z → RH Γ l d y cc nL ret hh N X (pc + 3) rest loc w) : RH Γ l d y cc nL ret hh N X pc (.int z :: .int x :: rest) loc w := by
  intro p e s m args below meth c H locs ls hC hP hS hl
  obtain ⟨hx, hb, hr, hml, hown, hts, hlk, het, hK, hE, hG⟩ := id hC
  exact lv_icmp_eq hx hb hdg ht (fun h => kt h p e s m args below meth c H locs ls hC hP hS hl) (fun h => kf h p e s m args below meth c H locs ls hC hP hS hl)
theorem h_icmp_ne {x z : Int32} {off : Int} {tgt : Nat} (hdg : decode cc pc = .ok (.if_icmp .ne off, 3)) (ht : (pc : Int) + off = (tgt : Int)) (kt : ¬ x = z → RH Γ l d y cc nL ret hh N X tgt rest loc w) (kf : x = z → RH Γ l d y cc nL ret hh N X (pc + 3) rest loc w) : RH Γ l d y cc nL ret hh N X pc (.int z :: .int x :: rest) loc w := by
  intro p e s m args below meth c H locs ls hC hP hS hl
  obtain ⟨hx, hb, hr, hml, hown, hts, hlk, het, hK, hE, hG⟩ := id hC
  exact lv_icmp_ne hx hb hdg ht (fun h => kt h p e s m args below meth c H locs ls hC hP hS hl) (fun h => kf h p e s m args below meth c H locs ls hC hP hS hl)
theorem h_icmp_lt {x z : Int32} {off : Int} {tgt : Nat} (hdg : decode cc pc = .ok (.if_icmp .lt off, 3)) (ht : (pc : Int) + off = (tgt : Int)) (kt : x < z → RH Γ l d y cc nL ret hh N X tgt rest loc w) (kf : ¬ x < z → RH Γ l d y cc nL ret hh N X (pc + 3) rest loc w) : RH Γ l d y cc nL ret hh N X pc (.int z :: .int x :: rest) loc w := by
  intro p e s m args below meth c H locs ls hC hP hS hl
  obtain ⟨hx, hb, hr, hml, hown, hts, hlk, het, hK, hE, hG⟩ := id hC
  exact lv_icmp_lt hx hb hdg ht (fun h => kt h p e s m args below meth c H locs ls hC hP hS hl) (fun h => kf h p e s m args below meth c H locs ls hC hP hS hl)
theorem h_icmp_ge {x z : Int32} {off : Int} {tgt : Nat} (hdg : decode cc pc = .ok (.if_icmp .ge off, 3)) (ht : (pc : Int) + off = (tgt : Int)) (kt : z ≤ x → RH Γ l d y cc nL ret hh N X tgt rest loc w) (kf : ¬ z ≤ x → RH Γ l d y cc nL ret hh N X (pc + 3) rest loc w) : RH Γ l d y cc nL ret hh N X pc (.int z :: .int x :: rest) loc w := by
  intro p e s m args below meth c H locs ls hC hP hS hl
  obtain ⟨hx, hb, hr, hml, hown, hts, hlk, het, hK, hE, hG⟩ := id hC
  exact lv_icmp_ge hx hb hdg ht (fun h => kt h p e s m args below meth c H locs ls hC hP hS hl) (fun h => kf h p e s m args below meth c H locs ls hC hP hS hl)
theorem h_icmp_gt {x z : Int32} {off : Int} {tgt : Nat} (hdg : decode cc pc = .ok (.if_icmp .gt off, 3)) (ht : (pc : Int) + off = (tgt : Int)) (kt : z < x → RH Γ l d y cc nL ret hh N X tgt rest loc w) (kf : ¬ z < x → RH Γ l d y cc nL ret hh N X (pc + 3) rest loc w) : RH Γ l d y cc nL ret hh N X pc (.int z :: .int x :: rest) loc w := by
  intro p e s m args below meth c H locs ls hC hP hS hl
  obtain ⟨hx, hb, hr, hml, hown, hts, hlk, het, hK, hE, hG⟩ := id hC
  exact lv_icmp_gt hx hb hdg ht (fun h => kt h p e s m args below meth c H locs ls hC hP hS hl) (fun h => kf h p e s m args below meth c H locs ls hC hP hS hl)
theorem h_icmp_le {x z : Int32} {off : Int} {tgt : Nat} (hdg : decode cc pc = .ok (.if_icmp .le off, 3)) (ht : (pc : Int) + off = (tgt : Int)) (kt : x ≤ z → RH Γ l d y cc nL ret hh N X tgt rest loc w) (kf : ¬ x ≤ z → RH Γ l d y cc nL ret hh N X (pc + 3) rest loc w) : RH Γ l d y cc nL ret hh N X pc (.int z :: .int x :: rest) loc w := by
  intro p e s m args below meth c H locs ls hC hP hS hl
  obtain ⟨hx, hb, hr, hml, hown, hts, hlk, het, hK, hE, hG⟩ := id hC
  exact lv_icmp_le hx hb hdg ht (fun h => kt h p e s m args below meth c H locs ls hC hP hS hl) (fun h => kf h p e s m args below meth c H locs ls hC hP hS hl)
theorem h_goto {off : Int} {tgt : Nat} (hdg : decode cc pc = .ok (.goto off, 3)) (ht : (pc : Int) + off = (tgt : Int)) (k : RH Γ l d y cc nL ret hh N X tgt rest loc w) : RH Γ l d y cc nL ret hh N X pc rest loc w := by
  intro p e s m args below meth c H locs ls hC hP hS hl
  obtain ⟨hx, hb, hr, hml, hown, hts, hlk, het, hK, hE, hG⟩ := id hC
  exact lv_goto hx hb hdg ht (k p e s m args below meth c H locs ls hC hP hS hl)
theorem h_tableIn {dflt lo hi : Int} {offs : Array Int} {len : Nat} {x : Int32} {off : Int} {tgt : Nat} (hdg : decode cc pc = .ok (.tableswitch dflt lo hi offs, len)) (h1 : ¬ x.toInt < lo) (h2 : ¬ hi < x.toInt) (ho : offs[(x.toInt - lo).toNat]? = some off) (ht : (pc : Int) + off = (tgt : Int)) (k : RH Γ l d y cc nL ret hh N X tgt rest loc w) : RH Γ l d y cc nL ret hh N X pc (.int x :: rest) loc w := by
  intro p e s m args below meth c H locs ls hC hP hS hl
  obtain ⟨hx, hb, hr, hml, hown, hts, hlk, het, hK, hE, hG⟩ := id hC
  exact lv_tableIn hx hb hdg h1 h2 ho ht (k p e s m args below meth c H locs ls hC hP hS hl)
theorem h_tableOut {dflt lo hi : Int} {offs : Array Int} {len : Nat} {x : Int32} {tgt : Nat} (hdg : decode cc pc = .ok (.tableswitch dflt lo hi offs, len)) (h : x.toInt < lo ∨ hi < x.toInt) (ht : (pc : Int) + dflt = (tgt : Int)) (k : RH Γ l d y cc nL ret hh N X tgt rest loc w) : RH Γ l d y cc nL ret hh N X pc (.int x :: rest) loc w := by
  intro p e s m args below meth c H locs ls hC hP hS hl
  obtain ⟨hx, hb, hr, hml, hown, hts, hlk, het, hK, hE, hG⟩ := id hC
  exact lv_tableOut hx hb hdg h ht (k p e s m args below meth c H locs ls hC hP hS hl)
theorem h_lookup {dflt : Int} {ps : Array (Int × Int)} {len : Nat} {x : Int32} {off : Int} {tgt : Nat} (hdg : decode cc pc = .ok (.lookupswitch dflt ps, len)) (hp : (ps.toList.zip (ps.toList.drop 1)).all (fun (a, next) => a.1 < next.1) = true) (ho : Op.lookupswitch.offset ps.toList dflt x.toInt = off) (ht : (pc : Int) + off = (tgt : Int)) (k : RH Γ l d y cc nL ret hh N X tgt rest loc w) : RH Γ l d y cc nL ret hh N X pc (.int x :: rest) loc w := by
  intro p e s m args below meth c H locs ls hC hP hS hl
  obtain ⟨hx, hb, hr, hml, hown, hts, hlk, het, hK, hE, hG⟩ := id hC
  exact lv_lookup hx hb hdg hp ho ht (k p e s m args below meth c H locs ls hC hP hS hl)
theorem h_get {k ci j index : Nat} {C : String} {T : u_T} {n : Nat} {fs : List (Option Nat)} {ty : Nat → FieldType} {f : Option Nat} (hO : OB Γ k ci C T n fs) (hF : CF C T n ty) (hk : Cond.fieldLink y.cls index (T j).1 (T j).2.1 (T j).2.2.1 ∈ TB) (hj : fs[j]? = some f) (hdg : decode cc pc = .ok (.getfield index, 3)) {v : Value} (hv : (match f with | none => Value.int (gi w k j) | some t => if t = 999 then Value.null else Value.ref t) = v)
    (kk : RH Γ l d y cc nL ret hh N X (pc + 3) (v :: rest) loc w) : RH Γ l d y cc nL ret hh N X pc (.ref k :: rest) loc w := by
  intro p e s m args below meth c H locs ls hC hP hS hl
  obtain ⟨hx, hb, hr, hml, hown, hts, hlk, het, hK, hE, hG⟩ := id hC
  have hjn : j < n := by rw [← hO.2.2.2]; exact (List.getElem?_eq_some_iff.mp hj).1
  refine va_get (v := tr Γ v) hx hb hts hF.1 hown hK hP k hO.at hO.2.2.1 j hjn (hts _ hk) (fun x hx => hx) ?_ hdg (kk p e s m args below meth c H locs ls hC hP hS hl)
  rw [List.getElem?_mapIdx, hj]
  subst hv
  cases f with
  | none => rfl
  | some t =>
    show some (if t = 999 then Value.null else Value.ref (gad Γ t)) = some (tr Γ (if t = 999 then Value.null else Value.ref t))
    by_cases ht : t = 999
    · rw [if_pos ht, if_pos ht]; rfl
    · rw [if_neg ht, if_neg ht]; rfl
theorem h_putI {k ci j index : Nat} {C : String} {T : u_T} {n : Nat} {fs : List (Option Nat)} {ty : Nat → FieldType} {x : Int32} (hO : OB Γ k ci C T n fs) (hF : CF C T n ty) (hk : Cond.fieldLink y.cls index (T j).1 (T j).2.1 (T j).2.2.1 ∈ TB) (hj : fs[j]? = some none) (hfin : (T j).2.2.2 = false) (hn : narrow (ty j) (.int x) = .int x) (hf : fits (ty j) (.int x) = true) (hdg : decode cc pc = .ok (.putfield index, 3))
    (kk : RH Γ l d y cc nL ret hh N X (pc + 3) rest loc (si w k j x)) : RH Γ l d y cc nL ret hh N X pc (.int x :: .ref k :: rest) loc w := by
  intro p e s m args below meth c H locs ls hC hP hS hl
  obtain ⟨hx, hb, hr, hml, hown, hts, hlk, het, hK, hE, hG⟩ := id hC
  have hjn : j < n := by rw [← hO.2.2.2]; exact (List.getElem?_eq_some_iff.mp hj).1
  have hlen : j < (fs.mapIdx (fun j d => fv Γ w k j d)).length := by rw [List.length_mapIdx, hO.2.2.2]; exact hjn
  have hset : (wl Γ w).set k (gad Γ k, .inr (ci, (fs.mapIdx (fun j d => fv Γ w k j d)).set j (.int x))) = wl Γ (si w k j x) := by
    refine wl_set hO.1 ?_ (fun i hi => ceOf_si_ne hi)
    unfold ceOf
    rw [hO.2.1]
    dsimp only
    congr 2
    apply List.ext_getElem?
    intro i
    by_cases hi : i = j
    · subst hi
      rw [List.getElem?_set_self hlen, List.getElem?_mapIdx, hj]
      simp [fv, gi_si]
    · rw [List.getElem?_set_ne (Ne.symm hi), List.getElem?_mapIdx, List.getElem?_mapIdx]
      cases fs[i]? with
      | none => rfl
      | some q =>
        cases q with
        | none => simp [fv, gi_si, hi]
        | some t => rfl
  refine va_put hx hb hts hF.1 ty hF.2.1 hF.2.2 hown hK hP (wl_D hG w) hS k hO.at hO.2.2.1 j hjn (hts _ hk) (fun x hx => hx) hfin (hF.2.1 j hjn) hn hf hlen hdg (fun H1 locs1 hP1 hD1 hS1 => ?_)
  have hP1 : va_P (gD Γ) (gcl Γ) ((wl Γ w).set k (gad Γ k, .inr (ci, (fs.mapIdx (fun j d => fv Γ w k j d)).set j (.int x)))) H1 := hP1
  rw [hset] at hP1
  exact kk p e s m args below meth c H1 locs1 ls hC hP1 hS1 hl
theorem h_iald {k n : Nat} {i : Int32} (hA : AR Γ k 0 n .int) (hin : vp_in i n) (hdg : decode cc pc = .ok (.iaload, 1)) (kk : RH Γ l d y cc nL ret hh N X (pc + 1) (.int (gi w k i.toNatClampNeg) :: rest) loc w) : RH Γ l d y cc nL ret hh N X pc (.int i :: .ref k :: rest) loc w := by
  intro p e s m args below meth c H locs ls hC hP hS hl
  obtain ⟨hx, hb, hr, hml, hown, hts, hlk, het, hK, hE, hG⟩ := id hC
  exact va_iald hx hb hK hP k 0 (hA.at (by decide) (by decide)) (gty_at hA.2.2) hin hdg (kk p e s m args below meth c H locs ls hC hP hS hl)
theorem h_bald {k n : Nat} {i : Int32} (hA : AR Γ k 2 n .byte) (hin : vp_in i n) (hdg : decode cc pc = .ok (.baload, 1)) (kk : RH Γ l d y cc nL ret hh N X (pc + 1) (.int (gi w k i.toNatClampNeg) :: rest) loc w) : RH Γ l d y cc nL ret hh N X pc (.int i :: .ref k :: rest) loc w := by
  intro p e s m args below meth c H locs ls hC hP hS hl
  obtain ⟨hx, hb, hr, hml, hown, hts, hlk, het, hK, hE, hG⟩ := id hC
  exact va_bald hx hb hK hP k 2 (hA.at (by decide) (by decide)) (gty_at hA.2.2) hin hdg (kk p e s m args below meth c H locs ls hC hP hS hl)
theorem h_zald {k n : Nat} {i : Int32} (hA : AR Γ k 3 n .boolean) (hin : vp_in i n) (hdg : decode cc pc = .ok (.baload, 1)) (kk : RH Γ l d y cc nL ret hh N X (pc + 1) (.int (gi w k i.toNatClampNeg) :: rest) loc w) : RH Γ l d y cc nL ret hh N X pc (.int i :: .ref k :: rest) loc w := by
  intro p e s m args below meth c H locs ls hC hP hS hl
  obtain ⟨hx, hb, hr, hml, hown, hts, hlk, het, hK, hE, hG⟩ := id hC
  exact va_zald hx hb hK hP k 3 (hA.at (by decide) (by decide)) (gty_at hA.2.2) hin hdg (kk p e s m args below meth c H locs ls hC hP hS hl)
theorem h_lald {k n : Nat} {i : Int32} (hA : AR Γ k 1 n .long) (hin : vp_in i n) (hdg : decode cc pc = .ok (.laload, 1)) (kk : RH Γ l d y cc nL ret hh N X (pc + 1) (.long (gl w k i.toNatClampNeg) :: rest) loc w) : RH Γ l d y cc nL ret hh N X pc (.int i :: .ref k :: rest) loc w := by
  intro p e s m args below meth c H locs ls hC hP hS hl
  obtain ⟨hx, hb, hr, hml, hown, hts, hlk, het, hK, hE, hG⟩ := id hC
  exact va_lald hx hb hK hP k 1 hA.atL (gty_at hA.2.2) hin hdg (kk p e s m args below meth c H locs ls hC hP hS hl)
theorem h_aald {k n : Nat} {C : String} {i : Int32} (hA : AR Γ k 4 n (.object C)) (hin : vp_in i n) (hdg : decode cc pc = .ok (.aaload, 1)) (kk : RH Γ l d y cc nL ret hh N X (pc + 1) (.ref (600 + i.toNatClampNeg) :: rest) loc w) : RH Γ l d y cc nL ret hh N X pc (.int i :: .ref k :: rest) loc w := by
  intro p e s m args below meth c H locs ls hC hP hS hl
  obtain ⟨hx, hb, hr, hml, hown, hts, hlk, het, hK, hE, hG⟩ := id hC
  exact va_aldq hx hb hK hP k 4 hA.atQ (gty_at hA.2.2) hin hdg (kk p e s m args below meth c H locs ls hC hP hS hl)
theorem h_iast {k n : Nat} {i x : Int32} (hA : AR Γ k 0 n .int) (hin : vp_in i n) (hdg : decode cc pc = .ok (.iastore, 1)) (kk : RH Γ l d y cc nL ret hh N X (pc + 1) rest loc (si w k i.toNatClampNeg (x))) : RH Γ l d y cc nL ret hh N X pc (.int x :: .int i :: .ref k :: rest) loc w := by
  intro p e s m args below meth c H locs ls hC hP hS hl
  obtain ⟨hx, hb, hr, hml, hown, hts, hlk, het, hK, hE, hG⟩ := id hC
  refine va_iast hx hb hK hP (wl_D hG w) hS k 0 (hA.at (by decide) (by decide)) (gty_at hA.2.2) hin hdg (fun H1 locs1 hP1 hD1 hS1 => ?_)
  rw [wl_setA hA (by decide) (by decide)] at hP1
  exact kk p e s m args below meth c H1 locs1 ls hC hP1 hS1 hl
theorem h_bast {k n : Nat} {i x : Int32} (hA : AR Γ k 2 n .byte) (hin : vp_in i n) (hdg : decode cc pc = .ok (.bastore, 1)) (kk : RH Γ l d y cc nL ret hh N X (pc + 1) rest loc (si w k i.toNatClampNeg (vp_nar .byte x))) : RH Γ l d y cc nL ret hh N X pc (.int x :: .int i :: .ref k :: rest) loc w := by
  intro p e s m args below meth c H locs ls hC hP hS hl
  obtain ⟨hx, hb, hr, hml, hown, hts, hlk, het, hK, hE, hG⟩ := id hC
  refine va_bast hx hb hK hP (wl_D hG w) hS k 2 (hA.at (by decide) (by decide)) (gty_at hA.2.2) hin hdg (fun H1 locs1 hP1 hD1 hS1 => ?_)
  rw [wl_setA hA (by decide) (by decide)] at hP1
  exact kk p e s m args below meth c H1 locs1 ls hC hP1 hS1 hl
theorem h_zast {k n : Nat} {i x : Int32} (hA : AR Γ k 3 n .boolean) (hin : vp_in i n) (hdg : decode cc pc = .ok (.bastore, 1)) (kk : RH Γ l d y cc nL ret hh N X (pc + 1) rest loc (si w k i.toNatClampNeg (vp_nar .boolean x))) : RH Γ l d y cc nL ret hh N X pc (.int x :: .int i :: .ref k :: rest) loc w := by
  intro p e s m args below meth c H locs ls hC hP hS hl
  obtain ⟨hx, hb, hr, hml, hown, hts, hlk, het, hK, hE, hG⟩ := id hC
  refine va_zast hx hb hK hP (wl_D hG w) hS k 3 (hA.at (by decide) (by decide)) (gty_at hA.2.2) hin hdg (fun H1 locs1 hP1 hD1 hS1 => ?_)
  rw [wl_setA hA (by decide) (by decide)] at hP1
  exact kk p e s m args below meth c H1 locs1 ls hC hP1 hS1 hl
theorem h_last {k n : Nat} {i : Int32} {x : Int64} (hA : AR Γ k 1 n .long) (hin : vp_in i n) (hdg : decode cc pc = .ok (.lastore, 1)) (kk : RH Γ l d y cc nL ret hh N X (pc + 1) rest loc (sl w k i.toNatClampNeg x)) : RH Γ l d y cc nL ret hh N X pc (.long x :: .int i :: .ref k :: rest) loc w := by
  intro p e s m args below meth c H locs ls hC hP hS hl
  obtain ⟨hx, hb, hr, hml, hown, hts, hlk, het, hK, hE, hG⟩ := id hC
  refine va_last hx hb hK hP (wl_D hG w) hS k 1 hA.atL (gty_at hA.2.2) hin hdg (fun H1 locs1 hP1 hD1 hS1 => ?_)
  rw [wl_setL hA] at hP1
  exact kk p e s m args below meth c H1 locs1 ls hC hP1 hS1 hl
theorem h_alen {k t n : Nat} {ty : FieldType} {v : Int32} (hA : AR Γ k t n ty) (hv : Int32.ofNat n = v) (hdg : decode cc pc = .ok (.arraylength, 1)) (kk : RH Γ l d y cc nL ret hh N X (pc + 1) (.int v :: rest) loc w) : RH Γ l d y cc nL ret hh N X pc (.ref k :: rest) loc w := by
  intro p e s m args below meth c H locs ls hC hP hS hl
  obtain ⟨hx, hb, hr, hml, hown, hts, hlk, het, hK, hE, hG⟩ := id hC
  have hat : (wl Γ w)[k]? = some (gad Γ k, .inl (gA Γ t, n, if t = 1 then .inr (.inl (gl w k)) else if t = 4 then .inr (.inr (.inr (.inr (fun i => some (gad Γ (600 + i)))))) else .inl (gi w k))) := by
    rw [wl_at hA.1]
    simp [ceOf, hA.2.1]
  exact va_alen (v := v) hx hb hK hP k t hat (gty_at hA.2.2) hv hdg (kk p e s m args below meth c H locs ls hC hP hS hl)
theorem h_ireturn {x : Int32} (hr9 : ret = some .int) (hdg : decode cc pc = .ok (.ireturn, 1)) (hN : N (some (.int x)) w) : RH Γ l d y cc nL ret hh N X pc [.int x] loc w := by
  intro p e s m args below meth c H locs ls hC hP hS hl
  obtain ⟨hx, hb, hr, hml, hown, hts, hlk, het, hK, hE, hG⟩ := id hC
  exact vx_ret (W.iret hx hb (hr.trans hr9) (fun t ht hW => ⟨⟨some (.int x), w, rfl, hN, by rw [ht]; exact hP⟩, hS.F ht⟩) hS.2.2 hdg hlk)
theorem h_zreturn {x : Int32} (hr9 : ret = some .boolean) (hn : narrow .boolean (.int x) = .int x) (hdg : decode cc pc = .ok (.ireturn, 1)) (hN : N (some (.int x)) w) : RH Γ l d y cc nL ret hh N X pc [.int x] loc w := by
  intro p e s m args below meth c H locs ls hC hP hS hl
  obtain ⟨hx, hb, hr, hml, hown, hts, hlk, het, hK, hE, hG⟩ := id hC
  exact vx_ret (W.zret hx hb (hr.trans hr9) hn (fun t ht hW => ⟨⟨some (.int x), w, rfl, hN, by rw [ht]; exact hP⟩, hS.F ht⟩) hS.2.2 hdg hlk)
theorem h_lreturn {x : Int64} (hr9 : ret = some .long) (hdg : decode cc pc = .ok (.lreturn, 1)) (hN : N (some (.long x)) w) : RH Γ l d y cc nL ret hh N X pc [.long x] loc w := by
  intro p e s m args below meth c H locs ls hC hP hS hl
  obtain ⟨hx, hb, hr, hml, hown, hts, hlk, het, hK, hE, hG⟩ := id hC
  exact vx_ret (W.lret hx hb (hr.trans hr9) (fun t ht hW => ⟨⟨some (.long x), w, rfl, hN, by rw [ht]; exact hP⟩, hS.F ht⟩) hS.2.2 hdg hlk)
theorem h_vreturn (hr9 : ret = none) (hdg : decode cc pc = .ok (.return_, 1)) (hN : N none w) : RH Γ l d y cc nL ret hh N X pc [] loc w := by
  intro p e s m args below meth c H locs ls hC hP hS hl
  obtain ⟨hx, hb, hr, hml, hown, hts, hlk, het, hK, hE, hG⟩ := id hC
  exact vx_ret (W.vret hx hb (hr.trans hr9) (fun t ht hW => ⟨⟨none, w, rfl, hN, by rw [ht]; exact hP⟩, hS.F ht⟩) hS.2.2 hdg hlk)
theorem h_areturn {k : Nat} {rt : FieldType} (hr9 : ret = some rt) (hrt : (∃ n, rt = .object n) ∨ ∃ t, rt = .array t) (hdg : decode cc pc = .ok (.areturn, 1)) (hN : N (some (.ref k)) w) : RH Γ l d y cc nL ret hh N X pc [.ref k] loc w := by
  intro p e s m args below meth c H locs ls hC hP hS hl
  obtain ⟨hx, hb, hr, hml, hown, hts, hlk, het, hK, hE, hG⟩ := id hC
  exact vx_ret (W.aret hx hb (hr.trans hr9) hrt (Or.inr ⟨_, rfl⟩) (fun t ht hW => ⟨⟨some (.ref k), w, rfl, hN, by rw [ht]; exact hP⟩, hS.F ht⟩) hS.2.2 hdg hlk)
theorem h_call {d' nL' : Nat} {y' : MethodName} {cc' : ByteArray} {ret' : Option FieldType} {stk av : List Value} {N9 : Option Value → Wd → Prop} (hN : ∀ v u, N9 v u → RH Γ l d y cc nL ret hh N X (pc + 3) (v.toList ++ rest) loc u)
    (hrun : ∀ (p : Program) (e : Env) (s : State) (m : MethodId) (args : Array Value) (below : List Frame) (meth : Method) (c : Code) (H : Heap) (locs : List Loc) (ls : Array Slot), CxH Γ y cc nL ret hh p s m args meth c → va_P (gD Γ) (gcl Γ) (wl Γ w) H → va_S (gAw Γ) s.heap H locs → ls.size = nL → vx_Run p l e (rmD d) s m args below meth c H locs 0 0 0 0 (F0 m pc ls (stk.map (tr Γ))) (rest.map (tr Γ)) (Qn Γ N9 (av.map (tr Γ)).toArray) (Xn Γ fun _ _ => False) (gAw Γ)) : RH Γ l d y cc nL ret hh N X pc stk loc w := by
  intro p e s m args below meth c H locs ls hC hP hS hl
  obtain ⟨hx, hb, hr, hml, hown, hts, hlk, het, hK, hE, hG⟩ := id hC
  intro T hT Y
  rcases hrun p e s m args below meth c H locs ls hC hP hS hl.1 T hT Y with ⟨v, st₀, t, T', L, h0, X', hL, e1, e2, ⟨⟨v', u, hv, hu, hPu⟩, hF⟩, st⟩ | ⟨q, st₀, t, T', L, E, ce, h0, X', hL, e1, e2, ⟨⟨u, hu, hPu⟩, hF⟩, hce, hcv, hcl, st⟩
  · obtain rfl := Outcome.returned.inj hv
    obtain ⟨k1, k2, k3⟩ := vx_keep h0 e1 hS (fun q _ h => h) (fun q h => h) hL hF
    have hk := hN v' u hu p e s m args below meth c T'.heap (locs ++ L) ls hC (by rw [e1]; exact hPu) k3 hl
    obtain ⟨t2, a1, b1⟩ := hk T' rfl X'
    refine ⟨t2, st t2 ?_, b1⟩
    cases v' <;> exact a1
  · exact hu.elim
theorem h_callV {d' nL' n k ci index : Nat} {C : String} {Tc : u_T} {Nf : Nat} {fs : List (Option Nat)} {y' : MethodName} {cc' : ByteArray} {ret' : Option FieldType} {av stk : List Value} (hY : CY y' cc' nL' ret' n) (hO : OB Γ k ci C Tc Nf fs) (hC9 : y'.cls = C) (h1 : Cond.methodLink y.cls index y' ∈ TB) (h2 : Cond.instanceMethod y' ∈ TB) (h3 : Cond.selects C y' y' ∈ TB) (hd : d' + 1 ≤ d ∧ nL' ≤ 26) (hn : av.length = n) (hstk : stk = av.reverse ++ .ref k :: rest) (hroom : (rest.map fun v => v.category).sum ≤ 8) (hdg : decode cc pc = .ok (.invokevirtual index, 3))
    (hM : Ct Γ l d' y' cc' nL' ret' (.ref k :: av) w (fun v u => RH Γ l d y cc nL ret hh N X (pc + 3) (v.toList ++ rest) loc u) (fun _ _ => False)) : RH Γ l d y cc nL ret hh N X pc stk loc w := by
  refine h_call (rest := rest) (N9 := fun v u => RH Γ l d y cc nL ret hh N X (pc + 3) (v.toList ++ rest) loc u) (av := .ref k :: av) (d' := d') (nL' := nL') (y' := y') (cc' := cc') (ret' := ret') (fun v u h => h) (fun p e s m args below meth c H locs ls hC hP hS hl => ?_)
  obtain ⟨hx, hb, hr, hml, hown, hts, hlk, het, hK, hE, hG⟩ := id hC
  have hGI : GoodIn TB (wsV y.cls index C y' (Cond.code y' cc' nL' ret' :: TB)) := by
    intro w hw
    unfold wsV at hw
    simp only [List.mem_append, List.mem_cons, List.not_mem_nil, or_false] at hw
    rcases hw with (rfl | rfl | rfl | rfl) | rfl | hw
    · exact goodTB h1
    · exact goodTB h2
    · exact goodTB h3
    · rw [← hC9]; exact goodTB hY.2.1
    · exact goodTB hY.1
    · exact goodTB hw
  have cw : CallW (rmD d) s args y.cls C index y' cc' nL' ret' (Cond.code y' cc' nL' ret' :: TB) (rmD d') 0 0 n := cwV n hts hGI rfl rfl rfl ⟨hC9, hY.2.2.1, hY.2.2.2.1, hY.2.2.2.2⟩ ⟨hd.1, by show 8 + (nL' + 11) + 45 * d' ≤ 45 * d; omega⟩
  refine vx_runV (As := av.map (tr Γ)) ⟨hx, hb, hml, hown, hts⟩ hM cw ⟨pn_blind Γ _ _, va_recv hK hP hO.2.2.1 hO.at, fun U hU hW => ⟨rfl, by rw [hU]; exact hP, va_K.moved hW.alike hK, hG.2.1 s U _ hW (by rw [hU]; exact hG.2.2 s s.heap H hS.1 hS.2.1 hE), hG⟩⟩ rfl (by rw [List.length_map]; exact hn) hl ?_ (lv_room ?_) hdg ⟨Nat.le_refl _, Nat.le_refl _⟩
  · rw [hstk]
    show List.map (tr Γ) (av.reverse ++ .ref k :: rest) = _
    simp [tr]
  · rw [List.map_map]
    rw [show ((fun v => Value.category v) ∘ tr Γ) = (fun v => Value.category v) from funext fun v => tr_cat Γ v]
    exact hroom
theorem h_callS {d' nL' n index : Nat} {y' : MethodName} {cc' : ByteArray} {ret' : Option FieldType} {av stk : List Value} (hY : CY y' cc' nL' ret' n) (h1 : Cond.methodLink y.cls index y' ∈ TB) (h2 : Cond.static y' ∈ TB) (hd : d' + 1 ≤ d ∧ nL' ≤ 26) (hn : av.length = n) (hstk : stk = av.reverse ++ rest) (hroom : (rest.map fun v => v.category).sum ≤ 8) (hdg : decode cc pc = .ok (.invokestatic index, 3))
    (hM : Ct Γ l d' y' cc' nL' ret' av w (fun v u => RH Γ l d y cc nL ret hh N X (pc + 3) (v.toList ++ rest) loc u) (fun _ _ => False)) : RH Γ l d y cc nL ret hh N X pc stk loc w := by
  refine h_call (rest := rest) (N9 := fun v u => RH Γ l d y cc nL ret hh N X (pc + 3) (v.toList ++ rest) loc u) (av := av) (d' := d') (nL' := nL') (y' := y') (cc' := cc') (ret' := ret') (fun v u h => h) (fun p e s m args below meth c H locs ls hC hP hS hl => ?_)
  obtain ⟨hx, hb, hr, hml, hown, hts, hlk, het, hK, hE, hG⟩ := id hC
  have hGI : GoodIn TB (Cond.code y' cc' nL' ret' :: TB) := fun w hw => (List.mem_cons.mp hw).elim (fun e => e ▸ goodTB hY.1) goodTB
  have cb : CallB (rmD d) s args y.cls index y' cc' nL' ret' (Cond.code y' cc' nL' ret' :: TB) (rmD d') 0 0 n := callB_of n hts hGI rfl rfl rfl (hts _ hY.2.1) (hts _ h1) ⟨hY.2.2.1, hY.2.2.2.1, hY.2.2.2.2⟩ ⟨hd.1, by show 8 + (nL' + 11) + 45 * d' ≤ 45 * d; omega⟩
  refine vx_runS (As := av.map (tr Γ)) ⟨hx, hb, hml, hown, hts⟩ hM ⟨cb, hts _ h2⟩ ⟨pn_blind Γ _ _, fun U hU hW => ⟨rfl, by rw [hU]; exact hP, va_K.moved hW.alike hK, hG.2.1 s U _ hW (by rw [hU]; exact hG.2.2 s s.heap H hS.1 hS.2.1 hE), hG⟩⟩ rfl (by rw [List.length_map]; exact hn) hl ?_ (lv_room ?_) hdg ⟨Nat.le_refl _, Nat.le_refl _⟩
  · rw [hstk]
    show List.map (tr Γ) (av.reverse ++ rest) = _
    simp
  · rw [List.map_map]
    rw [show ((fun v => Value.category v) ∘ tr Γ) = (fun v => Value.category v) from funext fun v => tr_cat Γ v]
    exact hroom
theorem h_callVi {d' nL' n k ci index : Nat} {C : String} {Tc : u_T} {Nf : Nat} {fs : List (Option Nat)} {y' : MethodName} {cc' : ByteArray} {ret' : Option FieldType} {av stk : List Value} {f : Int32 → Wd → Prop} (hY : CY y' cc' nL' ret' n) (hO : OB Γ k ci C Tc Nf fs) (hC9 : y'.cls = C) (h1 : Cond.methodLink y.cls index y' ∈ TB) (h2 : Cond.instanceMethod y' ∈ TB) (h3 : Cond.selects C y' y' ∈ TB) (hd : d' + 1 ≤ d ∧ nL' ≤ 26) (hn : av.length = n) (hstk : stk = av.reverse ++ .ref k :: rest) (hroom : (rest.map fun v => v.category).sum ≤ 8) (hdg : decode cc pc = .ok (.invokevirtual index, 3))
    (hM : Ct Γ l d' y' cc' nL' ret' (.ref k :: av) w (pI f) (fun _ _ => False)) (k : ∀ (x : Int32) (u : Wd), f x u → RH Γ l d y cc nL ret hh N X (pc + 3) (.int x :: rest) loc u) : RH Γ l d y cc nL ret hh N X pc stk loc w := by
  refine h_callV hY hO hC9 h1 h2 h3 hd hn hstk hroom hdg (hM.mono (fun v u hq => ?_) (fun _ _ h => h))
  obtain ⟨x, rfl, h⟩ := hq
  exact k x u h
theorem h_callSi {d' nL' n index : Nat} {y' : MethodName} {cc' : ByteArray} {ret' : Option FieldType} {av stk : List Value} {f : Int32 → Wd → Prop} (hY : CY y' cc' nL' ret' n) (h1 : Cond.methodLink y.cls index y' ∈ TB) (h2 : Cond.static y' ∈ TB) (hd : d' + 1 ≤ d ∧ nL' ≤ 26) (hn : av.length = n) (hstk : stk = av.reverse ++ rest) (hroom : (rest.map fun v => v.category).sum ≤ 8) (hdg : decode cc pc = .ok (.invokestatic index, 3))
    (hM : Ct Γ l d' y' cc' nL' ret' av w (pI f) (fun _ _ => False)) (k : ∀ (x : Int32) (u : Wd), f x u → RH Γ l d y cc nL ret hh N X (pc + 3) (.int x :: rest) loc u) : RH Γ l d y cc nL ret hh N X pc stk loc w := by
  refine h_callS hY h1 h2 hd hn hstk hroom hdg (hM.mono (fun v u hq => ?_) (fun _ _ h => h))
  obtain ⟨x, rfl, h⟩ := hq
  exact k x u h
theorem h_callVl {d' nL' n k ci index : Nat} {C : String} {Tc : u_T} {Nf : Nat} {fs : List (Option Nat)} {y' : MethodName} {cc' : ByteArray} {ret' : Option FieldType} {av stk : List Value} {f : Int64 → Wd → Prop} (hY : CY y' cc' nL' ret' n) (hO : OB Γ k ci C Tc Nf fs) (hC9 : y'.cls = C) (h1 : Cond.methodLink y.cls index y' ∈ TB) (h2 : Cond.instanceMethod y' ∈ TB) (h3 : Cond.selects C y' y' ∈ TB) (hd : d' + 1 ≤ d ∧ nL' ≤ 26) (hn : av.length = n) (hstk : stk = av.reverse ++ .ref k :: rest) (hroom : (rest.map fun v => v.category).sum ≤ 8) (hdg : decode cc pc = .ok (.invokevirtual index, 3))
    (hM : Ct Γ l d' y' cc' nL' ret' (.ref k :: av) w (pL f) (fun _ _ => False)) (k : ∀ (x : Int64) (u : Wd), f x u → RH Γ l d y cc nL ret hh N X (pc + 3) (.long x :: rest) loc u) : RH Γ l d y cc nL ret hh N X pc stk loc w := by
  refine h_callV hY hO hC9 h1 h2 h3 hd hn hstk hroom hdg (hM.mono (fun v u hq => ?_) (fun _ _ h => h))
  obtain ⟨x, rfl, h⟩ := hq
  exact k x u h
theorem h_callSl {d' nL' n index : Nat} {y' : MethodName} {cc' : ByteArray} {ret' : Option FieldType} {av stk : List Value} {f : Int64 → Wd → Prop} (hY : CY y' cc' nL' ret' n) (h1 : Cond.methodLink y.cls index y' ∈ TB) (h2 : Cond.static y' ∈ TB) (hd : d' + 1 ≤ d ∧ nL' ≤ 26) (hn : av.length = n) (hstk : stk = av.reverse ++ rest) (hroom : (rest.map fun v => v.category).sum ≤ 8) (hdg : decode cc pc = .ok (.invokestatic index, 3))
    (hM : Ct Γ l d' y' cc' nL' ret' av w (pL f) (fun _ _ => False)) (k : ∀ (x : Int64) (u : Wd), f x u → RH Γ l d y cc nL ret hh N X (pc + 3) (.long x :: rest) loc u) : RH Γ l d y cc nL ret hh N X pc stk loc w := by
  refine h_callS hY h1 h2 hd hn hstk hroom hdg (hM.mono (fun v u hq => ?_) (fun _ _ h => h))
  obtain ⟨x, rfl, h⟩ := hq
  exact k x u h
theorem h_callVr {d' nL' n k ci index : Nat} {C : String} {Tc : u_T} {Nf : Nat} {fs : List (Option Nat)} {y' : MethodName} {cc' : ByteArray} {ret' : Option FieldType} {av stk : List Value} {f : Nat → Wd → Prop} (hY : CY y' cc' nL' ret' n) (hO : OB Γ k ci C Tc Nf fs) (hC9 : y'.cls = C) (h1 : Cond.methodLink y.cls index y' ∈ TB) (h2 : Cond.instanceMethod y' ∈ TB) (h3 : Cond.selects C y' y' ∈ TB) (hd : d' + 1 ≤ d ∧ nL' ≤ 26) (hn : av.length = n) (hstk : stk = av.reverse ++ .ref k :: rest) (hroom : (rest.map fun v => v.category).sum ≤ 8) (hdg : decode cc pc = .ok (.invokevirtual index, 3))
    (hM : Ct Γ l d' y' cc' nL' ret' (.ref k :: av) w (pR f) (fun _ _ => False)) (k : ∀ (x : Nat) (u : Wd), f x u → RH Γ l d y cc nL ret hh N X (pc + 3) (.ref x :: rest) loc u) : RH Γ l d y cc nL ret hh N X pc stk loc w := by
  refine h_callV hY hO hC9 h1 h2 h3 hd hn hstk hroom hdg (hM.mono (fun v u hq => ?_) (fun _ _ h => h))
  obtain ⟨x, rfl, h⟩ := hq
  exact k x u h
theorem h_callSr {d' nL' n index : Nat} {y' : MethodName} {cc' : ByteArray} {ret' : Option FieldType} {av stk : List Value} {f : Nat → Wd → Prop} (hY : CY y' cc' nL' ret' n) (h1 : Cond.methodLink y.cls index y' ∈ TB) (h2 : Cond.static y' ∈ TB) (hd : d' + 1 ≤ d ∧ nL' ≤ 26) (hn : av.length = n) (hstk : stk = av.reverse ++ rest) (hroom : (rest.map fun v => v.category).sum ≤ 8) (hdg : decode cc pc = .ok (.invokestatic index, 3))
    (hM : Ct Γ l d' y' cc' nL' ret' av w (pR f) (fun _ _ => False)) (k : ∀ (x : Nat) (u : Wd), f x u → RH Γ l d y cc nL ret hh N X (pc + 3) (.ref x :: rest) loc u) : RH Γ l d y cc nL ret hh N X pc stk loc w := by
  refine h_callS hY h1 h2 hd hn hstk hroom hdg (hM.mono (fun v u hq => ?_) (fun _ _ h => h))
  obtain ⟨x, rfl, h⟩ := hq
  exact k x u h
theorem h_callVv {d' nL' n k ci index : Nat} {C : String} {Tc : u_T} {Nf : Nat} {fs : List (Option Nat)} {y' : MethodName} {cc' : ByteArray} {ret' : Option FieldType} {av stk : List Value} {f : Wd → Prop} (hY : CY y' cc' nL' ret' n) (hO : OB Γ k ci C Tc Nf fs) (hC9 : y'.cls = C) (h1 : Cond.methodLink y.cls index y' ∈ TB) (h2 : Cond.instanceMethod y' ∈ TB) (h3 : Cond.selects C y' y' ∈ TB) (hd : d' + 1 ≤ d ∧ nL' ≤ 26) (hn : av.length = n) (hstk : stk = av.reverse ++ .ref k :: rest) (hroom : (rest.map fun v => v.category).sum ≤ 8) (hdg : decode cc pc = .ok (.invokevirtual index, 3))
    (hM : Ct Γ l d' y' cc' nL' ret' (.ref k :: av) w (pV f) (fun _ _ => False)) (k : ∀ (u : Wd), f u → RH Γ l d y cc nL ret hh N X (pc + 3) rest loc u) : RH Γ l d y cc nL ret hh N X pc stk loc w := by
  refine h_callV hY hO hC9 h1 h2 h3 hd hn hstk hroom hdg (hM.mono (fun v u hq => ?_) (fun _ _ h => h))
  obtain ⟨rfl, h⟩ := hq
  exact k u h
theorem h_callSv {d' nL' n index : Nat} {y' : MethodName} {cc' : ByteArray} {ret' : Option FieldType} {av stk : List Value} {f : Wd → Prop} (hY : CY y' cc' nL' ret' n) (h1 : Cond.methodLink y.cls index y' ∈ TB) (h2 : Cond.static y' ∈ TB) (hd : d' + 1 ≤ d ∧ nL' ≤ 26) (hn : av.length = n) (hstk : stk = av.reverse ++ rest) (hroom : (rest.map fun v => v.category).sum ≤ 8) (hdg : decode cc pc = .ok (.invokestatic index, 3))
    (hM : Ct Γ l d' y' cc' nL' ret' av w (pV f) (fun _ _ => False)) (k : ∀ (u : Wd), f u → RH Γ l d y cc nL ret hh N X (pc + 3) rest loc u) : RH Γ l d y cc nL ret hh N X pc stk loc w := by
  refine h_callS hY h1 h2 hd hn hstk hroom hdg (hM.mono (fun v u hq => ?_) (fun _ _ h => h))
  obtain ⟨rfl, h⟩ := hq
  exact k u h
theorem h_if_eq {x : Int32} {off : Int} {tgt : Nat} (hdg : decode cc pc = .ok (.ifCond .eq off, 3)) (ht : (pc : Int) + off = (tgt : Int)) (kt : x = 0 → RH Γ l d y cc nL ret hh N X tgt rest loc w) (kf : ¬ x = 0 → RH Γ l d y cc nL ret hh N X (pc + 3) rest loc w) : RH Γ l d y cc nL ret hh N X pc (.int x :: rest) loc w := by
  intro p e s m args below meth c H locs ls hC hP hS hl
  obtain ⟨hx, hb, hr, hml, hown, hts, hlk, het, hK, hE, hG⟩ := id hC
  exact lv_if_eq hx hb hdg ht (fun h => kt h p e s m args below meth c H locs ls hC hP hS hl) (fun h => kf h p e s m args below meth c H locs ls hC hP hS hl)
theorem h_if_ne {x : Int32} {off : Int} {tgt : Nat} (hdg : decode cc pc = .ok (.ifCond .ne off, 3)) (ht : (pc : Int) + off = (tgt : Int)) (kt : ¬ x = 0 → RH Γ l d y cc nL ret hh N X tgt rest loc w) (kf : x = 0 → RH Γ l d y cc nL ret hh N X (pc + 3) rest loc w) : RH Γ l d y cc nL ret hh N X pc (.int x :: rest) loc w := by
  intro p e s m args below meth c H locs ls hC hP hS hl
  obtain ⟨hx, hb, hr, hml, hown, hts, hlk, het, hK, hE, hG⟩ := id hC
  exact lv_if_ne hx hb hdg ht (fun h => kt h p e s m args below meth c H locs ls hC hP hS hl) (fun h => kf h p e s m args below meth c H locs ls hC hP hS hl)
theorem h_if_lt {x : Int32} {off : Int} {tgt : Nat} (hdg : decode cc pc = .ok (.ifCond .lt off, 3)) (ht : (pc : Int) + off = (tgt : Int)) (kt : x < 0 → RH Γ l d y cc nL ret hh N X tgt rest loc w) (kf : ¬ x < 0 → RH Γ l d y cc nL ret hh N X (pc + 3) rest loc w) : RH Γ l d y cc nL ret hh N X pc (.int x :: rest) loc w := by
  intro p e s m args below meth c H locs ls hC hP hS hl
  obtain ⟨hx, hb, hr, hml, hown, hts, hlk, het, hK, hE, hG⟩ := id hC
  exact lv_if_lt hx hb hdg ht (fun h => kt h p e s m args below meth c H locs ls hC hP hS hl) (fun h => kf h p e s m args below meth c H locs ls hC hP hS hl)
theorem h_if_ge {x : Int32} {off : Int} {tgt : Nat} (hdg : decode cc pc = .ok (.ifCond .ge off, 3)) (ht : (pc : Int) + off = (tgt : Int)) (kt : 0 ≤ x → RH Γ l d y cc nL ret hh N X tgt rest loc w) (kf : ¬ 0 ≤ x → RH Γ l d y cc nL ret hh N X (pc + 3) rest loc w) : RH Γ l d y cc nL ret hh N X pc (.int x :: rest) loc w := by
  intro p e s m args below meth c H locs ls hC hP hS hl
  obtain ⟨hx, hb, hr, hml, hown, hts, hlk, het, hK, hE, hG⟩ := id hC
  exact lv_if_ge hx hb hdg ht (fun h => kt h p e s m args below meth c H locs ls hC hP hS hl) (fun h => kf h p e s m args below meth c H locs ls hC hP hS hl)
theorem h_if_gt {x : Int32} {off : Int} {tgt : Nat} (hdg : decode cc pc = .ok (.ifCond .gt off, 3)) (ht : (pc : Int) + off = (tgt : Int)) (kt : 0 < x → RH Γ l d y cc nL ret hh N X tgt rest loc w) (kf : ¬ 0 < x → RH Γ l d y cc nL ret hh N X (pc + 3) rest loc w) : RH Γ l d y cc nL ret hh N X pc (.int x :: rest) loc w := by
  intro p e s m args below meth c H locs ls hC hP hS hl
  obtain ⟨hx, hb, hr, hml, hown, hts, hlk, het, hK, hE, hG⟩ := id hC
  exact lv_if_gt hx hb hdg ht (fun h => kt h p e s m args below meth c H locs ls hC hP hS hl) (fun h => kf h p e s m args below meth c H locs ls hC hP hS hl)
theorem h_if_le {x : Int32} {off : Int} {tgt : Nat} (hdg : decode cc pc = .ok (.ifCond .le off, 3)) (ht : (pc : Int) + off = (tgt : Int)) (kt : x ≤ 0 → RH Γ l d y cc nL ret hh N X tgt rest loc w) (kf : ¬ x ≤ 0 → RH Γ l d y cc nL ret hh N X (pc + 3) rest loc w) : RH Γ l d y cc nL ret hh N X pc (.int x :: rest) loc w := by
  intro p e s m args below meth c H locs ls hC hP hS hl
  obtain ⟨hx, hb, hr, hml, hown, hts, hlk, het, hK, hE, hG⟩ := id hC
  exact lv_if_le hx hb hdg ht (fun h => kt h p e s m args below meth c H locs ls hC hP hS hl) (fun h => kf h p e s m args below meth c H locs ls hC hP hS hl)
theorem h_z_eq {b : Bool} {off : Int} {tgt : Nat} (hdg : decode cc pc = .ok (.ifCond .eq off, 3)) (ht : (pc : Int) + off = (tgt : Int)) (kt : ¬ b = true → RH Γ l d y cc nL ret hh N X tgt rest loc w) (kf : b = true → RH Γ l d y cc nL ret hh N X (pc + 3) rest loc w) : RH Γ l d y cc nL ret hh N X pc (.int (b2i b) :: rest) loc w := h_if_eq hdg ht (fun h => kt (b2i_eq.mp h)) (fun h => kf (b2i_ne.mp h))
theorem h_z_ne {b : Bool} {off : Int} {tgt : Nat} (hdg : decode cc pc = .ok (.ifCond .ne off, 3)) (ht : (pc : Int) + off = (tgt : Int)) (kt : b = true → RH Γ l d y cc nL ret hh N X tgt rest loc w) (kf : ¬ b = true → RH Γ l d y cc nL ret hh N X (pc + 3) rest loc w) : RH Γ l d y cc nL ret hh N X pc (.int (b2i b) :: rest) loc w := h_if_ne hdg ht (fun h => kt (b2i_ne.mp h)) (fun h => kf (b2i_eq.mp h))
theorem h_l_eq {x z : Int64} {off : Int} {tgt : Nat} (h1 : decode cc pc = .ok (.lcmp, 1)) (hdg : decode cc (pc + 1) = .ok (.ifCond .eq off, 3)) (ht : ((pc + 1 : Nat) : Int) + off = (tgt : Int)) (kt : x = z → RH Γ l d y cc nL ret hh N X tgt rest loc w) (kf : ¬ x = z → RH Γ l d y cc nL ret hh N X (pc + 1 + 3) rest loc w) : RH Γ l d y cc nL ret hh N X pc (.long z :: .long x :: rest) loc w := h_lcmp h1 (h_if_eq hdg ht (fun h => kt ((lg_cmp_eq x z).mp h)) (fun h => kf (fun q => h ((lg_cmp_eq x z).mpr q))))
theorem h_l_ne {x z : Int64} {off : Int} {tgt : Nat} (h1 : decode cc pc = .ok (.lcmp, 1)) (hdg : decode cc (pc + 1) = .ok (.ifCond .ne off, 3)) (ht : ((pc + 1 : Nat) : Int) + off = (tgt : Int)) (kt : ¬ x = z → RH Γ l d y cc nL ret hh N X tgt rest loc w) (kf : x = z → RH Γ l d y cc nL ret hh N X (pc + 1 + 3) rest loc w) : RH Γ l d y cc nL ret hh N X pc (.long z :: .long x :: rest) loc w := h_lcmp h1 (h_if_ne hdg ht (fun h => kt (fun q => h ((lg_cmp_eq x z).mpr q))) (fun h => kf ((lg_cmp_eq x z).mp h)))
theorem h_l_lt {x z : Int64} {off : Int} {tgt : Nat} (h1 : decode cc pc = .ok (.lcmp, 1)) (hdg : decode cc (pc + 1) = .ok (.ifCond .lt off, 3)) (ht : ((pc + 1 : Nat) : Int) + off = (tgt : Int)) (kt : x < z → RH Γ l d y cc nL ret hh N X tgt rest loc w) (kf : ¬ x < z → RH Γ l d y cc nL ret hh N X (pc + 1 + 3) rest loc w) : RH Γ l d y cc nL ret hh N X pc (.long z :: .long x :: rest) loc w := h_lcmp h1 (h_if_lt hdg ht (fun h => kt ((lg_cmp_lt x z).mp h)) (fun h => kf (fun q => h ((lg_cmp_lt x z).mpr q))))
theorem h_l_ge {x z : Int64} {off : Int} {tgt : Nat} (h1 : decode cc pc = .ok (.lcmp, 1)) (hdg : decode cc (pc + 1) = .ok (.ifCond .ge off, 3)) (ht : ((pc + 1 : Nat) : Int) + off = (tgt : Int)) (kt : z ≤ x → RH Γ l d y cc nL ret hh N X tgt rest loc w) (kf : ¬ z ≤ x → RH Γ l d y cc nL ret hh N X (pc + 1 + 3) rest loc w) : RH Γ l d y cc nL ret hh N X pc (.long z :: .long x :: rest) loc w := h_lcmp h1 (h_if_ge hdg ht (fun h => kt ((lg_cmp_ge x z).mp h)) (fun h => kf (fun q => h ((lg_cmp_ge x z).mpr q))))
theorem h_l_gt {x z : Int64} {off : Int} {tgt : Nat} (h1 : decode cc pc = .ok (.lcmp, 1)) (hdg : decode cc (pc + 1) = .ok (.ifCond .gt off, 3)) (ht : ((pc + 1 : Nat) : Int) + off = (tgt : Int)) (kt : z < x → RH Γ l d y cc nL ret hh N X tgt rest loc w) (kf : ¬ z < x → RH Γ l d y cc nL ret hh N X (pc + 1 + 3) rest loc w) : RH Γ l d y cc nL ret hh N X pc (.long z :: .long x :: rest) loc w := h_lcmp h1 (h_if_gt hdg ht (fun h => kt ((lg_cmp_gt x z).mp h)) (fun h => kf (fun q => h ((lg_cmp_gt x z).mpr q))))
theorem h_l_le {x z : Int64} {off : Int} {tgt : Nat} (h1 : decode cc pc = .ok (.lcmp, 1)) (hdg : decode cc (pc + 1) = .ok (.ifCond .le off, 3)) (ht : ((pc + 1 : Nat) : Int) + off = (tgt : Int)) (kt : x ≤ z → RH Γ l d y cc nL ret hh N X tgt rest loc w) (kf : ¬ x ≤ z → RH Γ l d y cc nL ret hh N X (pc + 1 + 3) rest loc w) : RH Γ l d y cc nL ret hh N X pc (.long z :: .long x :: rest) loc w := h_lcmp h1 (h_if_le hdg ht (fun h => kt ((lg_cmp_le x z).mp h)) (fun h => kf (fun q => h ((lg_cmp_le x z).mpr q))))
theorem h_w {u : Wd} (e : w = u) (k : RH Γ l d y cc nL ret hh N X pc rest loc u) : RH Γ l d y cc nL ret hh N X pc rest loc w := by subst e; exact k
theorem h_topi {x z : Int32} (e : x = z) (k : RH Γ l d y cc nL ret hh N X pc (.int z :: rest) loc w) : RH Γ l d y cc nL ret hh N X pc (.int x :: rest) loc w := by subst e; exact k
theorem h_topl {x z : Int64} (e : x = z) (k : RH Γ l d y cc nL ret hh N X pc (.long z :: rest) loc w) : RH Γ l d y cc nL ret hh N X pc (.long x :: rest) loc w := by subst e; exact k
theorem h_topz {x z : Bool} (e : x = z) (k : RH Γ l d y cc nL ret hh N X pc (.int (b2i z) :: rest) loc w) : RH Γ l d y cc nL ret hh N X pc (.int (b2i x) :: rest) loc w := by subst e; exact k
theorem h_inc {i : Nat} {n : Int} {x v k9 : Int32} {loc' : List (Nat × Value)} (hdg : decode cc pc = .ok (.iinc i n, 3)) (hk9 : Int32.ofInt n = k9) (hv : x + k9 = v) (q : Nat) (hq : loc[q]? = some (i, .int x)) (hn : i < nL) (hl' : (i, Value.int v) :: loc.filter (fun q => !(q.1 == i) && !(q.1 + 1 == i && q.2.category == 2)) = loc') (k : RH Γ l d y cc nL ret hh N X (pc + 3) rest loc' w) : RH Γ l d y cc nL ret hh N X pc rest loc w := h_iinc hdg hq (by rw [hk9]; exact hv) hn hl' k
theorem h_tabC {dflt lo hi : Int} {offs : Array Int} {len : Nat} {x : Int32} {off : Int} {tgt : Nat} {L : List Int32} (hdg : decode cc pc = .ok (.tableswitch dflt lo hi offs, len)) (hx : ol x L) (hL : L.all (fun c => !(decide (c.toInt < lo)) && (!(decide (hi < c.toInt)) && decide (offs[(c.toInt - lo).toNat]? = some off))) = true) (ht : (pc : Int) + off = (tgt : Int)) (k : RH Γ l d y cc nL ret hh N X tgt rest loc w) : RH Γ l d y cc nL ret hh N X pc (.int x :: rest) loc w := by
  have h := List.all_eq_true.mp hL x (ol_mem hx)
  simp only [Bool.and_eq_true, Bool.not_eq_true', decide_eq_false_iff_not, decide_eq_true_eq] at h
  exact h_tableIn hdg h.1 h.2.1 h.2.2 ht k
theorem h_tabD {dflt lo hi : Int} {offs : Array Int} {len : Nat} {x : Int32} {tgt : Nat} {K : List (List Int32)} (hdg : decode cc pc = .ok (.tableswitch dflt lo hi offs, len)) (hx : nl x K) (hK : (List.range offs.size).all (fun i => decide (offs[i]? = some dflt) || K.any (fun L => L.any (fun c => decide (c.toInt = lo + (i : Int))))) = true) (hz : hi - lo < (offs.size : Int)) (ht : (pc : Int) + dflt = (tgt : Int)) (k : RH Γ l d y cc nL ret hh N X tgt rest loc w) : RH Γ l d y cc nL ret hh N X pc (.int x :: rest) loc w := by
  by_cases h1 : x.toInt < lo ∨ hi < x.toInt
  · exact h_tableOut hdg h1 ht k
  have h2 : ¬ x.toInt < lo := fun q => h1 (Or.inl q)
  have h3 : ¬ hi < x.toInt := fun q => h1 (Or.inr q)
  have hr : (x.toInt - lo).toNat ∈ List.range offs.size := List.mem_range.mpr (by omega)
  have h := List.all_eq_true.mp hK _ hr
  simp only [Bool.or_eq_true, decide_eq_true_eq] at h
  rcases h with h | h
  · exact h_tableIn hdg h2 h3 h ht k
  · exfalso
    obtain ⟨L, hL, hc⟩ := List.any_eq_true.mp h
    obtain ⟨c, hcL, hcc⟩ := List.any_eq_true.mp hc
    have hcc := of_decide_eq_true hcc
    refine nl_mem hx L hL (ol_of_mem ?_)
    have : x = c := Int32.toInt_inj.mp (by omega)
    rw [this]; exact hcL
theorem h_lkC {dflt : Int} {ps : Array (Int × Int)} {len : Nat} {x : Int32} {off : Int} {tgt : Nat} {L : List Int32} (hdg : decode cc pc = .ok (.lookupswitch dflt ps, len)) (hp : (ps.toList.zip (ps.toList.drop 1)).all (fun (a, next) => a.1 < next.1) = true) (hx : ol x L) (hL : L.all (fun c => decide (Op.lookupswitch.offset ps.toList dflt c.toInt = off)) = true) (ht : (pc : Int) + off = (tgt : Int)) (k : RH Γ l d y cc nL ret hh N X tgt rest loc w) : RH Γ l d y cc nL ret hh N X pc (.int x :: rest) loc w := by
  have h := List.all_eq_true.mp hL x (ol_mem hx)
  exact h_lookup hdg hp (of_decide_eq_true h) ht k
theorem h_lkD {dflt : Int} {ps : Array (Int × Int)} {len : Nat} {x : Int32} {tgt : Nat} {K : List (List Int32)} (hdg : decode cc pc = .ok (.lookupswitch dflt ps, len)) (hp : (ps.toList.zip (ps.toList.drop 1)).all (fun (a, next) => a.1 < next.1) = true) (hx : nl x K) (hK : ps.toList.all (fun p => decide (p.2 = dflt) || K.any (fun L => L.any (fun c => decide (c.toInt = p.1)))) = true) (ht : (pc : Int) + dflt = (tgt : Int)) (k : RH Γ l d y cc nL ret hh N X tgt rest loc w) : RH Γ l d y cc nL ret hh N X pc (.int x :: rest) loc w := h_lookup hdg hp (look_d hx _ hK) ht k
theorem h_cVi {d' nL' n k ci index : Nat} {C : String} {Tc : u_T} {Nf : Nat} {fs : List (Option Nat)} {y' : MethodName} {cc' : ByteArray} {ret' : Option FieldType} {av stk : List Value} (hY : CY y' cc' nL' ret' n) (hO : OB Γ k ci C Tc Nf fs) (hC9 : y'.cls = C) (h1 : Cond.methodLink y.cls index y' ∈ TB) (h2 : Cond.instanceMethod y' ∈ TB) (h3 : Cond.selects C y' y' ∈ TB) (hd : d' + 1 ≤ d ∧ nL' ≤ 26) (hn : av.length = n) (hstk : stk = av.reverse ++ .ref k :: rest) (hroom : (rest.map fun v => v.category).sum ≤ 8) (hdg : decode cc pc = .ok (.invokevirtual index, 3))
    (hM : Ct Γ l d' y' cc' nL' ret' (.ref k :: av) w (pI (fun x u => RH Γ l d y cc nL ret hh N X (pc + 3) (.int x :: rest) loc u)) (fun _ _ => False)) : RH Γ l d y cc nL ret hh N X pc stk loc w := h_callVi hY hO hC9 h1 h2 h3 hd hn hstk hroom hdg hM (fun _ _ h => h)
theorem h_cSi {d' nL' n index : Nat} {y' : MethodName} {cc' : ByteArray} {ret' : Option FieldType} {av stk : List Value} (hY : CY y' cc' nL' ret' n) (h1 : Cond.methodLink y.cls index y' ∈ TB) (h2 : Cond.static y' ∈ TB) (hd : d' + 1 ≤ d ∧ nL' ≤ 26) (hn : av.length = n) (hstk : stk = av.reverse ++ rest) (hroom : (rest.map fun v => v.category).sum ≤ 8) (hdg : decode cc pc = .ok (.invokestatic index, 3))
    (hM : Ct Γ l d' y' cc' nL' ret' av w (pI (fun x u => RH Γ l d y cc nL ret hh N X (pc + 3) (.int x :: rest) loc u)) (fun _ _ => False)) : RH Γ l d y cc nL ret hh N X pc stk loc w := h_callSi hY h1 h2 hd hn hstk hroom hdg hM (fun _ _ h => h)
theorem h_cVl {d' nL' n k ci index : Nat} {C : String} {Tc : u_T} {Nf : Nat} {fs : List (Option Nat)} {y' : MethodName} {cc' : ByteArray} {ret' : Option FieldType} {av stk : List Value} (hY : CY y' cc' nL' ret' n) (hO : OB Γ k ci C Tc Nf fs) (hC9 : y'.cls = C) (h1 : Cond.methodLink y.cls index y' ∈ TB) (h2 : Cond.instanceMethod y' ∈ TB) (h3 : Cond.selects C y' y' ∈ TB) (hd : d' + 1 ≤ d ∧ nL' ≤ 26) (hn : av.length = n) (hstk : stk = av.reverse ++ .ref k :: rest) (hroom : (rest.map fun v => v.category).sum ≤ 8) (hdg : decode cc pc = .ok (.invokevirtual index, 3))
    (hM : Ct Γ l d' y' cc' nL' ret' (.ref k :: av) w (pL (fun x u => RH Γ l d y cc nL ret hh N X (pc + 3) (.long x :: rest) loc u)) (fun _ _ => False)) : RH Γ l d y cc nL ret hh N X pc stk loc w := h_callVl hY hO hC9 h1 h2 h3 hd hn hstk hroom hdg hM (fun _ _ h => h)
theorem h_cSl {d' nL' n index : Nat} {y' : MethodName} {cc' : ByteArray} {ret' : Option FieldType} {av stk : List Value} (hY : CY y' cc' nL' ret' n) (h1 : Cond.methodLink y.cls index y' ∈ TB) (h2 : Cond.static y' ∈ TB) (hd : d' + 1 ≤ d ∧ nL' ≤ 26) (hn : av.length = n) (hstk : stk = av.reverse ++ rest) (hroom : (rest.map fun v => v.category).sum ≤ 8) (hdg : decode cc pc = .ok (.invokestatic index, 3))
    (hM : Ct Γ l d' y' cc' nL' ret' av w (pL (fun x u => RH Γ l d y cc nL ret hh N X (pc + 3) (.long x :: rest) loc u)) (fun _ _ => False)) : RH Γ l d y cc nL ret hh N X pc stk loc w := h_callSl hY h1 h2 hd hn hstk hroom hdg hM (fun _ _ h => h)
theorem h_cVv {d' nL' n k ci index : Nat} {C : String} {Tc : u_T} {Nf : Nat} {fs : List (Option Nat)} {y' : MethodName} {cc' : ByteArray} {ret' : Option FieldType} {av stk : List Value} (hY : CY y' cc' nL' ret' n) (hO : OB Γ k ci C Tc Nf fs) (hC9 : y'.cls = C) (h1 : Cond.methodLink y.cls index y' ∈ TB) (h2 : Cond.instanceMethod y' ∈ TB) (h3 : Cond.selects C y' y' ∈ TB) (hd : d' + 1 ≤ d ∧ nL' ≤ 26) (hn : av.length = n) (hstk : stk = av.reverse ++ .ref k :: rest) (hroom : (rest.map fun v => v.category).sum ≤ 8) (hdg : decode cc pc = .ok (.invokevirtual index, 3))
    (hM : Ct Γ l d' y' cc' nL' ret' (.ref k :: av) w (pV (fun u => RH Γ l d y cc nL ret hh N X (pc + 3) rest loc u)) (fun _ _ => False)) : RH Γ l d y cc nL ret hh N X pc stk loc w := h_callVv hY hO hC9 h1 h2 h3 hd hn hstk hroom hdg hM (fun _ h => h)
theorem h_cSv {d' nL' n index : Nat} {y' : MethodName} {cc' : ByteArray} {ret' : Option FieldType} {av stk : List Value} (hY : CY y' cc' nL' ret' n) (h1 : Cond.methodLink y.cls index y' ∈ TB) (h2 : Cond.static y' ∈ TB) (hd : d' + 1 ≤ d ∧ nL' ≤ 26) (hn : av.length = n) (hstk : stk = av.reverse ++ rest) (hroom : (rest.map fun v => v.category).sum ≤ 8) (hdg : decode cc pc = .ok (.invokestatic index, 3))
    (hM : Ct Γ l d' y' cc' nL' ret' av w (pV (fun u => RH Γ l d y cc nL ret hh N X (pc + 3) rest loc u)) (fun _ _ => False)) : RH Γ l d y cc nL ret hh N X pc stk loc w := h_callSv hY h1 h2 hd hn hstk hroom hdg hM (fun _ h => h)
theorem h_cVr {d' nL' n k ci index : Nat} {C : String} {Tc : u_T} {Nf : Nat} {fs : List (Option Nat)} {y' : MethodName} {cc' : ByteArray} {ret' : Option FieldType} {av stk : List Value} (hY : CY y' cc' nL' ret' n) (hO : OB Γ k ci C Tc Nf fs) (hC9 : y'.cls = C) (h1 : Cond.methodLink y.cls index y' ∈ TB) (h2 : Cond.instanceMethod y' ∈ TB) (h3 : Cond.selects C y' y' ∈ TB) (hd : d' + 1 ≤ d ∧ nL' ≤ 26) (hn : av.length = n) (hstk : stk = av.reverse ++ .ref k :: rest) (hroom : (rest.map fun v => v.category).sum ≤ 8) (hdg : decode cc pc = .ok (.invokevirtual index, 3))
    (hM : Ct Γ l d' y' cc' nL' ret' (.ref k :: av) w (pR (fun x u => RH Γ l d y cc nL ret hh N X (pc + 3) (.ref x :: rest) loc u)) (fun _ _ => False)) : RH Γ l d y cc nL ret hh N X pc stk loc w := h_callVr hY hO hC9 h1 h2 h3 hd hn hstk hroom hdg hM (fun _ _ h => h)
theorem h_cSr {d' nL' n index : Nat} {y' : MethodName} {cc' : ByteArray} {ret' : Option FieldType} {av stk : List Value} (hY : CY y' cc' nL' ret' n) (h1 : Cond.methodLink y.cls index y' ∈ TB) (h2 : Cond.static y' ∈ TB) (hd : d' + 1 ≤ d ∧ nL' ≤ 26) (hn : av.length = n) (hstk : stk = av.reverse ++ rest) (hroom : (rest.map fun v => v.category).sum ≤ 8) (hdg : decode cc pc = .ok (.invokestatic index, 3))
    (hM : Ct Γ l d' y' cc' nL' ret' av w (pR (fun x u => RH Γ l d y cc nL ret hh N X (pc + 3) (.ref x :: rest) loc u)) (fun _ _ => False)) : RH Γ l d y cc nL ret hh N X pc stk loc w := h_callSr hY h1 h2 hd hn hstk hroom hdg hM (fun _ _ h => h)
theorem hP_i {x R : Int32} (hr : ret = some .int) (hdg : decode cc pc = .ok (.ireturn, 1)) (h : x = R) (hN : N (some (.int R)) w) : RH Γ l d y cc nL ret hh N X pc [.int x] loc w := by subst h; exact h_ireturn hr hdg hN
theorem hS_i {x : Int32} {R : Int32 × Wd} (hr : ret = some .int) (hdg : decode cc pc = .ok (.ireturn, 1)) (h : (x, w) = R) (hN : N (some (.int R.1)) R.2) : RH Γ l d y cc nL ret hh N X pc [.int x] loc w := by subst h; exact h_ireturn hr hdg hN
theorem hO_i {x : Int32} {R : Int32 × Wd} (hr : ret = some .int) (hdg : decode cc pc = .ok (.ireturn, 1)) (h : some (x, w) = some R) (hN : N (some (.int R.1)) R.2) : RH Γ l d y cc nL ret hh N X pc [.int x] loc w := hS_i hr hdg (Option.some.inj h) hN
theorem hE_i {x : Int32} {R : Option Int32 × Wd} (hr : ret = some .int) (hdg : decode cc pc = .ok (.ireturn, 1)) (h : some (some x, w) = some R) (hN : ∀ r, R.1 = some r → N (some (.int r)) R.2) : RH Γ l d y cc nL ret hh N X pc [.int x] loc w := by obtain rfl := Option.some.inj h; exact h_ireturn hr hdg (hN _ rfl)
theorem hP_z {x R : Bool} (hr : ret = some .boolean) (hdg : decode cc pc = .ok (.ireturn, 1)) (h : x = R) (hN : N (some (.int (b2i R))) w) : RH Γ l d y cc nL ret hh N X pc [.int (b2i x)] loc w := by subst h; exact h_zreturn hr (b2i_nar _) hdg hN
theorem hS_z {x : Bool} {R : Bool × Wd} (hr : ret = some .boolean) (hdg : decode cc pc = .ok (.ireturn, 1)) (h : (x, w) = R) (hN : N (some (.int (b2i R.1))) R.2) : RH Γ l d y cc nL ret hh N X pc [.int (b2i x)] loc w := by subst h; exact h_zreturn hr (b2i_nar _) hdg hN
theorem hO_z {x : Bool} {R : Bool × Wd} (hr : ret = some .boolean) (hdg : decode cc pc = .ok (.ireturn, 1)) (h : some (x, w) = some R) (hN : N (some (.int (b2i R.1))) R.2) : RH Γ l d y cc nL ret hh N X pc [.int (b2i x)] loc w := hS_z hr hdg (Option.some.inj h) hN
theorem hE_z {x : Bool} {R : Option Bool × Wd} (hr : ret = some .boolean) (hdg : decode cc pc = .ok (.ireturn, 1)) (h : some (some x, w) = some R) (hN : ∀ r, R.1 = some r → N (some (.int (b2i r))) R.2) : RH Γ l d y cc nL ret hh N X pc [.int (b2i x)] loc w := by obtain rfl := Option.some.inj h; exact h_zreturn hr (b2i_nar _) hdg (hN _ rfl)
theorem hP_l {x R : Int64} (hr : ret = some .long) (hdg : decode cc pc = .ok (.lreturn, 1)) (h : x = R) (hN : N (some (.long R)) w) : RH Γ l d y cc nL ret hh N X pc [.long x] loc w := by subst h; exact h_lreturn hr hdg hN
theorem hS_l {x : Int64} {R : Int64 × Wd} (hr : ret = some .long) (hdg : decode cc pc = .ok (.lreturn, 1)) (h : (x, w) = R) (hN : N (some (.long R.1)) R.2) : RH Γ l d y cc nL ret hh N X pc [.long x] loc w := by subst h; exact h_lreturn hr hdg hN
theorem hO_l {x : Int64} {R : Int64 × Wd} (hr : ret = some .long) (hdg : decode cc pc = .ok (.lreturn, 1)) (h : some (x, w) = some R) (hN : N (some (.long R.1)) R.2) : RH Γ l d y cc nL ret hh N X pc [.long x] loc w := hS_l hr hdg (Option.some.inj h) hN
theorem hE_l {x : Int64} {R : Option Int64 × Wd} (hr : ret = some .long) (hdg : decode cc pc = .ok (.lreturn, 1)) (h : some (some x, w) = some R) (hN : ∀ r, R.1 = some r → N (some (.long r)) R.2) : RH Γ l d y cc nL ret hh N X pc [.long x] loc w := by obtain rfl := Option.some.inj h; exact h_lreturn hr hdg (hN _ rfl)
theorem hS_v {R : Wd} (hr : ret = none) (hdg : decode cc pc = .ok (.return_, 1)) (h : w = R) (hN : N none R) : RH Γ l d y cc nL ret hh N X pc [] loc w := by subst h; exact h_vreturn hr hdg hN
theorem hO_v {R : Wd} (hr : ret = none) (hdg : decode cc pc = .ok (.return_, 1)) (h : some w = some R) (hN : N none R) : RH Γ l d y cc nL ret hh N X pc [] loc w := hS_v hr hdg (Option.some.inj h) hN
theorem hE_v {R : Option Unit × Wd} (hr : ret = none) (hdg : decode cc pc = .ok (.return_, 1)) (h : some (some (), w) = some R) (hN : ∀ r : Unit, R.1 = some r → N none R.2) : RH Γ l d y cc nL ret hh N X pc [] loc w := by obtain rfl := Option.some.inj h; exact h_vreturn hr hdg (hN _ rfl)
theorem hOR_z {b : Bool} {R : Int32 × Wd} (hr : ret = some .boolean) (hdg : decode cc pc = .ok (.ireturn, 1)) (h : some (b2i b, w) = some R) (hN : N (some (.int R.1)) R.2) : RH Γ l d y cc nL ret hh N X pc [.int (b2i b)] loc w := by obtain rfl := Option.some.inj h; exact h_zreturn hr (b2i_nar _) hdg hN
theorem hOR_v {R : Int32 × Wd} (hr : ret = none) (hdg : decode cc pc = .ok (.return_, 1)) (h : some ((0 : Int32), w) = some R) (hN : N none R.2) : RH Γ l d y cc nL ret hh N X pc [] loc w := by obtain rfl := Option.some.inj h; exact h_vreturn hr hdg hN
theorem hER_z {b : Bool} {R : Option Int32 × Wd} (hr : ret = some .boolean) (hdg : decode cc pc = .ok (.ireturn, 1)) (h : some (some (b2i b), w) = some R) (hN : ∀ r : Int32, R.1 = some r → N (some (.int r)) R.2) : RH Γ l d y cc nL ret hh N X pc [.int (b2i b)] loc w := by obtain rfl := Option.some.inj h; exact h_zreturn hr (b2i_nar _) hdg (hN _ rfl)
theorem hER_v {R : Option Int32 × Wd} (hr : ret = none) (hdg : decode cc pc = .ok (.return_, 1)) (h : some (some (0 : Int32), w) = some R) (hN : ∀ r : Int32, R.1 = some r → N none R.2) : RH Γ l d y cc nL ret hh N X pc [] loc w := by obtain rfl := Option.some.inj h; exact h_vreturn hr hdg (hN _ rfl)
theorem hS_r {k : Nat} {rt : FieldType} {R : Wd} (hr9 : ret = some rt) (hrt : (∃ n, rt = .object n) ∨ ∃ t, rt = .array t) (hdg : decode cc pc = .ok (.areturn, 1)) (h : w = R) (hN : N (some (.ref k)) R) : RH Γ l d y cc nL ret hh N X pc [.ref k] loc w := by subst h; exact h_areturn hr9 hrt hdg hN
/-- a call that may throw E, caught by the one handler; it takes the exception into local i -/
theorem h_callC {d' nL' n k k9 ci index hpc ct s0 e0 : Nat} {Cn : String} {Tc : u_T} {Nf : Nat} {fs : List (Option Nat)} {y' : MethodName} {cc' : ByteArray} {ret' : Option FieldType} {av stk : List Value} {E : String} {F : Nat → Prop} (hh9 : hh = [(s0, e0, hpc, ct)]) (hcov : covers ⟨s0, e0, hpc, ct⟩ pc = true) (hct : ct ≠ 0) (hF : ∀ (U : State) (H : Heap), gE Γ U H → ENV F U H) (hlk9 : Cond.classLink y.cls ct E ∈ TB) (hcs : Cond.castable E E ∈ xbad) (hda : decode cc hpc = .ok (.astore_n 2, 1)) (hin9 : 2 < nL) (hloc : loc = [(0, .ref k9)]) (hY : CY y' cc' nL' ret' n) (hO : OB Γ k ci Cn Tc Nf fs) (hC9 : y'.cls = Cn) (h1 : Cond.methodLink y.cls index y' ∈ TB) (h2 : Cond.instanceMethod y' ∈ TB) (h3 : Cond.selects Cn y' y' ∈ TB) (hd : d' + 1 ≤ d ∧ nL' ≤ 26) (hn : av.length = n) (hstk : stk = av.reverse ++ .ref k :: rest) (hroom : (rest.map fun v => v.category).sum ≤ 8) (hdg : decode cc pc = .ok (.invokevirtual index, 3))
    (hM : Ct Γ l d' y' cc' nL' ret' (.ref k :: av) w (pI fun x u => RH Γ l d y cc nL ret hh N X (pc + 3) (.int x :: rest) loc u) (fun E9 u => E9 = E ∧ RH Γ l d y cc nL ret hh N X (hpc + 1) [] [(0, .ref k9)] u)) : RH Γ l d y cc nL ret hh N X pc stk loc w := by
  intro p e s m args below meth c H locs ls hC hP hS hl
  obtain ⟨hx, hb, hr, hml, hown, hts, hlk, het, hK, hE, hG⟩ := id hC
  have hGI : GoodIn TB (wsV y.cls index Cn y' (Cond.code y' cc' nL' ret' :: TB)) := by
    intro w hw
    unfold wsV at hw
    simp only [List.mem_append, List.mem_cons, List.not_mem_nil, or_false] at hw
    rcases hw with (rfl | rfl | rfl | rfl) | rfl | hw
    · exact goodTB h1
    · exact goodTB h2
    · exact goodTB h3
    · rw [← hC9]; exact goodTB hY.2.1
    · exact goodTB hY.1
    · exact goodTB hw
  have cw : CallW (rmD d) s args y.cls Cn index y' cc' nL' ret' (Cond.code y' cc' nL' ret' :: TB) (rmD d') 0 0 n := cwV n hts hGI rfl rfl rfl ⟨hC9, hY.2.2.1, hY.2.2.2.1, hY.2.2.2.2⟩ ⟨hd.1, by show 8 + (nL' + 11) + 45 * d' ≤ 45 * d; omega⟩
  have hcat : ((rest.map (tr Γ)).map fun v => v.category).sum ≤ 8 := by
    rw [List.map_map, show ((fun v => Value.category v) ∘ tr Γ) = (fun v => Value.category v) from funext fun v => tr_cat Γ v]
    exact hroom
  have hst : stk.map (tr Γ) = (av.map (tr Γ)).reverse ++ .ref (gad Γ k) :: rest.map (tr Γ) := by
    rw [hstk]
    show List.map (tr Γ) (av.reverse ++ .ref k :: rest) = _
    simp [tr]
  intro T hT Y
  rcases vx_runV (As := av.map (tr Γ)) (b := gad Γ k) (rest := rest.map (tr Γ)) (g := F0 m pc ls (stk.map (tr Γ))) ⟨hx, hb, hml, hown, hts⟩ hM cw ⟨pn_blind Γ _ _, va_recv hK hP hO.2.2.1 hO.at, fun U hU hW => ⟨rfl, by rw [hU]; exact hP, va_K.moved hW.alike hK, hG.2.1 s U _ hW (by rw [hU]; exact hG.2.2 s s.heap H hS.1 hS.2.1 hE), hG⟩⟩ rfl (by rw [List.length_map]; exact hn) hl.1 hst (lv_room hcat) hdg ⟨Nat.le_refl _, Nat.le_refl _⟩ T hT Y with ⟨v, st₀, t, T', L, h0, X', hL, e1, e2, ⟨⟨v', u, hv, hu, hPu⟩, hFr⟩, st⟩ | ⟨q, st₀, t, T', L, E9, ce, h0, X', hL, e1, e2, ⟨⟨u, hu, hPu⟩, hFr⟩, hce, hcv, hcl, st⟩
  · obtain rfl := Outcome.returned.inj hv
    obtain ⟨xx, rfl, hu⟩ := hu
    obtain ⟨k1, k2, k3⟩ := vx_keep h0 e1 hS (fun q _ h => h) (fun q h => h) hL hFr
    have hk := hu p e s m args below meth c T'.heap (locs ++ L) ls hC (by rw [e1]; exact hPu) k3 hl
    obtain ⟨t2, a1, b1⟩ := hk T' rfl X'
    exact ⟨t2, st t2 a1, b1⟩
  · obtain ⟨rfl, hu⟩ := hu
    obtain ⟨k1, k2, k3⟩ := vx_keep h0 e1 hS (fun q _ h => h) (fun q h => h) hL hFr
    have hgo : W p l e (rmD d) s m args below meth c T'.heap (locs ++ L) (0 + 0) (0 + 0) (vx_MQ below (Qn Γ N) (Xn Γ X) args s 0 0 (gAw Γ)) (F0 m hpc ls [.ref q]) := by
      subst hloc
      refine lv_astore_n (i := 2) (lv' := [(2, Value.ref q), (0, Value.ref (gad Γ k9))]) hx hb hda rfl hl hin9 rfl (fun ls' hl9 => ?_)
      exact hu p e s m args below meth c T'.heap (locs ++ L) ls' hC (by rw [e1]; exact hPu) k3 (lv_sub hl9 [1] rfl)
    have hcatch := vx_catch (E := E9) (name := E9) (pc := pc) (rest := rest.map (tr Γ)) hown [] ⟨s0, e0, hpc, ct⟩ [] (by rw [het, hh9]; rfl) (fun z hz => nomatch hz) hcov hct (hts _ hlk9) ((hF s s.heap hE).at _ hcs) (by rw [e1]; exact hce) hcv hcl hgo
    obtain ⟨t2, a1, b1⟩ := hcatch T' rfl X'
    exact ⟨t2, st.trans a1, b1⟩
end RHR
