/-! THE ROWS OF RT, a row an instruction -/
section RTR
variable {Γ : Gm} {l : Launch} {d : Nat} {y : MethodName} {cc : ByteArray} {nL : Nat} {ret : Option FieldType} {N : Option Value → Wd → Prop} {X : String → Wd → Prop} {pc : Nat} {rest : List Value} {loc : List (Nat × Value)} {w : Wd}
theorem r_iconst {n : Int} {v : Int32} (hdg : decode cc pc = .ok (.iconst n, 1)) (hv : Int32.ofInt n = v) (k : RT Γ l d y cc nL ret N X (pc + 1) (.int v :: rest) loc w) : RT Γ l d y cc nL ret N X pc rest loc w := by
  intro p e s m args below meth c H locs ls hC hP hS hl
  obtain ⟨hx, hb, hr, hml, hown, hts, hlk, het, hK, hE, hG⟩ := id hC
  exact lv_iconst hx hb hdg hv (k p e s m args below meth c H locs ls hC hP hS hl)
theorem r_bipush {n : Int} {v : Int32} (hdg : decode cc pc = .ok (.bipush n, 2)) (hv : (Int8.ofInt n).toInt32 = v) (k : RT Γ l d y cc nL ret N X (pc + 2) (.int v :: rest) loc w) : RT Γ l d y cc nL ret N X pc rest loc w := by
  intro p e s m args below meth c H locs ls hC hP hS hl
  obtain ⟨hx, hb, hr, hml, hown, hts, hlk, het, hK, hE, hG⟩ := id hC
  exact lv_bipush hx hb hdg hv (k p e s m args below meth c H locs ls hC hP hS hl)
theorem r_sipush {n : Int} {v : Int32} (hdg : decode cc pc = .ok (.sipush n, 3)) (hv : (Int16.ofInt n).toInt32 = v) (k : RT Γ l d y cc nL ret N X (pc + 3) (.int v :: rest) loc w) : RT Γ l d y cc nL ret N X pc rest loc w := by
  intro p e s m args below meth c H locs ls hC hP hS hl
  obtain ⟨hx, hb, hr, hml, hown, hts, hlk, het, hK, hE, hG⟩ := id hC
  exact lv_sipush hx hb hdg hv (k p e s m args below meth c H locs ls hC hP hS hl)
theorem r_lconst {n : Fin 2} {v : Int64} (hdg : decode cc pc = .ok (.lconst n, 1)) (hv : Int64.ofNat (n : Nat) = v) (k : RT Γ l d y cc nL ret N X (pc + 1) (.long v :: rest) loc w) : RT Γ l d y cc nL ret N X pc rest loc w := by
  intro p e s m args below meth c H locs ls hC hP hS hl
  obtain ⟨hx, hb, hr, hml, hown, hts, hlk, het, hK, hE, hG⟩ := id hC
  exact lv_lconst hx hb hdg hv (k p e s m args below meth c H locs ls hC hP hS hl)
theorem r_ldc {index : Nat} {v : Int32} (hdg : decode cc pc = .ok (.ldc index, 2)) (hc : Cond.constant y.cls index v ∈ TB) (k : RT Γ l d y cc nL ret N X (pc + 2) (.int v :: rest) loc w) : RT Γ l d y cc nL ret N X pc rest loc w := by
  intro p e s m args below meth c H locs ls hC hP hS hl
  obtain ⟨hx, hb, hr, hml, hown, hts, hlk, het, hK, hE, hG⟩ := id hC
  exact lv_ldc hx hb hown (hts _ hc) hdg (k p e s m args below meth c H locs ls hC hP hS hl)
theorem r_ldcw {index : Nat} {v : Int32} (hdg : decode cc pc = .ok (.ldc_w index, 3)) (hc : Cond.constant y.cls index v ∈ TB) (k : RT Γ l d y cc nL ret N X (pc + 3) (.int v :: rest) loc w) : RT Γ l d y cc nL ret N X pc rest loc w := by
  intro p e s m args below meth c H locs ls hC hP hS hl
  obtain ⟨hx, hb, hr, hml, hown, hts, hlk, het, hK, hE, hG⟩ := id hC
  exact lv_ldcw hx hb hown (hts _ hc) hdg (k p e s m args below meth c H locs ls hC hP hS hl)
theorem r_ldc2 {index : Nat} {v : Int64} (hdg : decode cc pc = .ok (.ldc2_w index, 3)) (hc : Cond.constantLong y.cls index v ∈ TB) (k : RT Γ l d y cc nL ret N X (pc + 3) (.long v :: rest) loc w) : RT Γ l d y cc nL ret N X pc rest loc w := by
  intro p e s m args below meth c H locs ls hC hP hS hl
  obtain ⟨hx, hb, hr, hml, hown, hts, hlk, het, hK, hE, hG⟩ := id hC
  exact lv_ldc2 hx hb hown (hts _ hc) hdg (k p e s m args below meth c H locs ls hC hP hS hl)
theorem r_iload_n {k0 : Fin 4} {i : Nat} {x : Int32} (hdg : decode cc pc = .ok (.iload_n k0, 1)) (hi : (k0 : Nat) = i) (q : Nat) (hq : loc[q]? = some (i, .int x)) (k : RT Γ l d y cc nL ret N X (pc + 1) (.int x :: rest) loc w) : RT Γ l d y cc nL ret N X pc rest loc w := by
  intro p e s m args below meth c H locs ls hC hP hS hl
  obtain ⟨hx, hb, hr, hml, hown, hts, hlk, het, hK, hE, hG⟩ := id hC
  exact lv_iload_n hx hb hdg hi (lv_at hl q (by rw [List.getElem?_map, hq]; rfl)) (k p e s m args below meth c H locs ls hC hP hS hl)
theorem r_iload {i : Nat} {x : Int32} (hdg : decode cc pc = .ok (.iload i, 2)) (q : Nat) (hq : loc[q]? = some (i, .int x)) (k : RT Γ l d y cc nL ret N X (pc + 2) (.int x :: rest) loc w) : RT Γ l d y cc nL ret N X pc rest loc w := by
  intro p e s m args below meth c H locs ls hC hP hS hl
  obtain ⟨hx, hb, hr, hml, hown, hts, hlk, het, hK, hE, hG⟩ := id hC
  exact lv_iload hx hb hdg (lv_at hl q (by rw [List.getElem?_map, hq]; rfl)) (k p e s m args below meth c H locs ls hC hP hS hl)
theorem r_lload_n {k0 : Fin 4} {i : Nat} {x : Int64} (hdg : decode cc pc = .ok (.lload_n k0, 1)) (hi : (k0 : Nat) = i) (q : Nat) (hq : loc[q]? = some (i, .long x)) (k : RT Γ l d y cc nL ret N X (pc + 1) (.long x :: rest) loc w) : RT Γ l d y cc nL ret N X pc rest loc w := by
  intro p e s m args below meth c H locs ls hC hP hS hl
  obtain ⟨hx, hb, hr, hml, hown, hts, hlk, het, hK, hE, hG⟩ := id hC
  exact lv_lload_n hx hb hdg hi (lv_at hl q (by rw [List.getElem?_map, hq]; rfl)) (k p e s m args below meth c H locs ls hC hP hS hl)
theorem r_lload {i : Nat} {x : Int64} (hdg : decode cc pc = .ok (.lload i, 2)) (q : Nat) (hq : loc[q]? = some (i, .long x)) (k : RT Γ l d y cc nL ret N X (pc + 2) (.long x :: rest) loc w) : RT Γ l d y cc nL ret N X pc rest loc w := by
  intro p e s m args below meth c H locs ls hC hP hS hl
  obtain ⟨hx, hb, hr, hml, hown, hts, hlk, het, hK, hE, hG⟩ := id hC
  exact lv_lload hx hb hdg (lv_at hl q (by rw [List.getElem?_map, hq]; rfl)) (k p e s m args below meth c H locs ls hC hP hS hl)
theorem r_aload_n {k0 : Fin 4} {i : Nat} {x : Nat} (hdg : decode cc pc = .ok (.aload_n k0, 1)) (hi : (k0 : Nat) = i) (q : Nat) (hq : loc[q]? = some (i, .ref x)) (k : RT Γ l d y cc nL ret N X (pc + 1) (.ref x :: rest) loc w) : RT Γ l d y cc nL ret N X pc rest loc w := by
  intro p e s m args below meth c H locs ls hC hP hS hl
  obtain ⟨hx, hb, hr, hml, hown, hts, hlk, het, hK, hE, hG⟩ := id hC
  exact lv_aload_n hx hb hdg hi (lv_at hl q (by rw [List.getElem?_map, hq]; rfl)) (k p e s m args below meth c H locs ls hC hP hS hl)
theorem r_aload {i : Nat} {x : Nat} (hdg : decode cc pc = .ok (.aload i, 2)) (q : Nat) (hq : loc[q]? = some (i, .ref x)) (k : RT Γ l d y cc nL ret N X (pc + 2) (.ref x :: rest) loc w) : RT Γ l d y cc nL ret N X pc rest loc w := by
  intro p e s m args below meth c H locs ls hC hP hS hl
  obtain ⟨hx, hb, hr, hml, hown, hts, hlk, het, hK, hE, hG⟩ := id hC
  exact lv_aload hx hb hdg (lv_at hl q (by rw [List.getElem?_map, hq]; rfl)) (k p e s m args below meth c H locs ls hC hP hS hl)
theorem trp_filter (Γ : Gm) (loc : List (Nat × Value)) (f : Nat × Value → Bool) (hf : ∀ q, f (trp Γ q) = f q) : (loc.map (trp Γ)).filter f = (loc.filter f).map (trp Γ) := by
  rw [List.filter_map]
  congr 1
  apply List.filter_congr
  intro q _
  exact hf q
theorem r_istore_n {k0 : Fin 4} {i : Nat} {x : Int32} {loc' : List (Nat × Value)} (hdg : decode cc pc = .ok (.istore_n k0, 1)) (hi : (k0 : Nat) = i) (hn : i < nL) (hl' : (i, Value.int x) :: loc.filter (fun q => !(q.1 == i) && !(q.1 + 1 == i && q.2.category == 2)) = loc') (k : RT Γ l d y cc nL ret N X (pc + 1) rest loc' w) : RT Γ l d y cc nL ret N X pc (.int x :: rest) loc w := by
  intro p e s m args below meth c H locs ls hC hP hS hl
  obtain ⟨hx, hb, hr, hml, hown, hts, hlk, het, hK, hE, hG⟩ := id hC
  refine lv_istore_n (lv' := loc'.map (trp Γ)) hx hb hdg hi hl hn ?_ (fun ls' hl9 => k p e s m args below meth c H locs ls' hC hP hS hl9)
  rw [← hl', List.map_cons, trp_filter Γ loc _ (fun q => by simp only [trp, tr_cat])]
  rfl
theorem r_istore {i : Nat} {x : Int32} {loc' : List (Nat × Value)} (hdg : decode cc pc = .ok (.istore i, 2)) (hn : i < nL) (hl' : (i, Value.int x) :: loc.filter (fun q => !(q.1 == i) && !(q.1 + 1 == i && q.2.category == 2)) = loc') (k : RT Γ l d y cc nL ret N X (pc + 2) rest loc' w) : RT Γ l d y cc nL ret N X pc (.int x :: rest) loc w := by
  intro p e s m args below meth c H locs ls hC hP hS hl
  obtain ⟨hx, hb, hr, hml, hown, hts, hlk, het, hK, hE, hG⟩ := id hC
  refine lv_istore (lv' := loc'.map (trp Γ)) hx hb hdg hl hn ?_ (fun ls' hl9 => k p e s m args below meth c H locs ls' hC hP hS hl9)
  rw [← hl', List.map_cons, trp_filter Γ loc _ (fun q => by simp only [trp, tr_cat])]
  rfl
theorem r_lstore_n {k0 : Fin 4} {i : Nat} {x : Int64} {loc' : List (Nat × Value)} (hdg : decode cc pc = .ok (.lstore_n k0, 1)) (hi : (k0 : Nat) = i) (hn : i + 1 < nL) (hl' : (i, Value.long x) :: loc.filter (fun q => !(q.1 == i) && (!(q.1 == i + 1) && !(q.1 + 1 == i && q.2.category == 2))) = loc') (k : RT Γ l d y cc nL ret N X (pc + 1) rest loc' w) : RT Γ l d y cc nL ret N X pc (.long x :: rest) loc w := by
  intro p e s m args below meth c H locs ls hC hP hS hl
  obtain ⟨hx, hb, hr, hml, hown, hts, hlk, het, hK, hE, hG⟩ := id hC
  refine lv_lstore_n (lv' := loc'.map (trp Γ)) hx hb hdg hi hl hn ?_ (fun ls' hl9 => k p e s m args below meth c H locs ls' hC hP hS hl9)
  rw [← hl', List.map_cons, trp_filter Γ loc _ (fun q => by simp only [trp, tr_cat])]
  rfl
theorem r_lstore {i : Nat} {x : Int64} {loc' : List (Nat × Value)} (hdg : decode cc pc = .ok (.lstore i, 2)) (hn : i + 1 < nL) (hl' : (i, Value.long x) :: loc.filter (fun q => !(q.1 == i) && (!(q.1 == i + 1) && !(q.1 + 1 == i && q.2.category == 2))) = loc') (k : RT Γ l d y cc nL ret N X (pc + 2) rest loc' w) : RT Γ l d y cc nL ret N X pc (.long x :: rest) loc w := by
  intro p e s m args below meth c H locs ls hC hP hS hl
  obtain ⟨hx, hb, hr, hml, hown, hts, hlk, het, hK, hE, hG⟩ := id hC
  refine lv_lstore (lv' := loc'.map (trp Γ)) hx hb hdg hl hn ?_ (fun ls' hl9 => k p e s m args below meth c H locs ls' hC hP hS hl9)
  rw [← hl', List.map_cons, trp_filter Γ loc _ (fun q => by simp only [trp, tr_cat])]
  rfl
theorem r_astore_n {k0 : Fin 4} {i : Nat} {x : Nat} {loc' : List (Nat × Value)} (hdg : decode cc pc = .ok (.astore_n k0, 1)) (hi : (k0 : Nat) = i) (hn : i < nL) (hl' : (i, Value.ref x) :: loc.filter (fun q => !(q.1 == i) && !(q.1 + 1 == i && q.2.category == 2)) = loc') (k : RT Γ l d y cc nL ret N X (pc + 1) rest loc' w) : RT Γ l d y cc nL ret N X pc (.ref x :: rest) loc w := by
  intro p e s m args below meth c H locs ls hC hP hS hl
  obtain ⟨hx, hb, hr, hml, hown, hts, hlk, het, hK, hE, hG⟩ := id hC
  refine lv_astore_n (lv' := loc'.map (trp Γ)) hx hb hdg hi hl hn ?_ (fun ls' hl9 => k p e s m args below meth c H locs ls' hC hP hS hl9)
  rw [← hl', List.map_cons, trp_filter Γ loc _ (fun q => by simp only [trp, tr_cat])]
  rfl
theorem r_astore {i : Nat} {x : Nat} {loc' : List (Nat × Value)} (hdg : decode cc pc = .ok (.astore i, 2)) (hn : i < nL) (hl' : (i, Value.ref x) :: loc.filter (fun q => !(q.1 == i) && !(q.1 + 1 == i && q.2.category == 2)) = loc') (k : RT Γ l d y cc nL ret N X (pc + 2) rest loc' w) : RT Γ l d y cc nL ret N X pc (.ref x :: rest) loc w := by
  intro p e s m args below meth c H locs ls hC hP hS hl
  obtain ⟨hx, hb, hr, hml, hown, hts, hlk, het, hK, hE, hG⟩ := id hC
  refine lv_astore (lv' := loc'.map (trp Γ)) hx hb hdg hl hn ?_ (fun ls' hl9 => k p e s m args below meth c H locs ls' hC hP hS hl9)
  rw [← hl', List.map_cons, trp_filter Γ loc _ (fun q => by simp only [trp, tr_cat])]
  rfl
theorem r_iinc {i q : Nat} {n : Int} {x v : Int32} {loc' : List (Nat × Value)} (hdg : decode cc pc = .ok (.iinc i n, 3)) (hq : loc[q]? = some (i, .int x)) (hv : x + Int32.ofInt n = v) (hn : i < nL) (hl' : (i, Value.int v) :: loc.filter (fun q => !(q.1 == i) && !(q.1 + 1 == i && q.2.category == 2)) = loc') (k : RT Γ l d y cc nL ret N X (pc + 3) rest loc' w) : RT Γ l d y cc nL ret N X pc rest loc w := by
  intro p e s m args below meth c H locs ls hC hP hS hl
  obtain ⟨hx, hb, hr, hml, hown, hts, hlk, het, hK, hE, hG⟩ := id hC
  refine lv_iinc (k := q) (lv' := loc'.map (trp Γ)) hx hb hdg hl (by rw [List.getElem?_map, hq]; rfl) hv hn ?_ (fun ls' hl9 => k p e s m args below meth c H locs ls' hC hP hS hl9)
  rw [← hl', List.map_cons, trp_filter Γ loc _ (fun q => by simp only [trp, tr_cat])]
  rfl
theorem r_drop {loc' : List (Nat × Value)} (ks : List Nat) (h : lv_pick loc ks = loc') (k : RT Γ l d y cc nL ret N X pc rest loc' w) : RT Γ l d y cc nL ret N X pc rest loc w := by
  intro p e s m args below meth c H locs ls hC hP hS hl
  obtain ⟨hx, hb, hr, hml, hown, hts, hlk, het, hK, hE, hG⟩ := id hC
  refine k p e s m args below meth c H locs ls hC hP hS (lv_sub hl ks ?_)
  subst h
  unfold lv_pick
  rw [List.map_filterMap]
  congr 1
  funext i
  rw [List.getElem?_map]
theorem r_iadd {x z : Int32} (hdg : decode cc pc = .ok (.iadd, 1))  (k : RT Γ l d y cc nL ret N X (pc + 1) (.int (x + z) :: rest) loc w) : RT Γ l d y cc nL ret N X pc (.int z :: .int x :: rest) loc w := by
  intro p e s m args below meth c H locs ls hC hP hS hl
  obtain ⟨hx, hb, hr, hml, hown, hts, hlk, het, hK, hE, hG⟩ := id hC
  exact lv_iadd hx hb hdg  (k p e s m args below meth c H locs ls hC hP hS hl)
theorem r_isub {x z : Int32} (hdg : decode cc pc = .ok (.isub, 1))  (k : RT Γ l d y cc nL ret N X (pc + 1) (.int (x - z) :: rest) loc w) : RT Γ l d y cc nL ret N X pc (.int z :: .int x :: rest) loc w := by
  intro p e s m args below meth c H locs ls hC hP hS hl
  obtain ⟨hx, hb, hr, hml, hown, hts, hlk, het, hK, hE, hG⟩ := id hC
  exact lv_isub hx hb hdg  (k p e s m args below meth c H locs ls hC hP hS hl)
theorem r_imul {x z : Int32} (hdg : decode cc pc = .ok (.imul, 1))  (k : RT Γ l d y cc nL ret N X (pc + 1) (.int (x * z) :: rest) loc w) : RT Γ l d y cc nL ret N X pc (.int z :: .int x :: rest) loc w := by
  intro p e s m args below meth c H locs ls hC hP hS hl
  obtain ⟨hx, hb, hr, hml, hown, hts, hlk, het, hK, hE, hG⟩ := id hC
  exact lv_imul hx hb hdg  (k p e s m args below meth c H locs ls hC hP hS hl)
theorem r_iand {x z : Int32} (hdg : decode cc pc = .ok (.iand, 1))  (k : RT Γ l d y cc nL ret N X (pc + 1) (.int (x &&& z) :: rest) loc w) : RT Γ l d y cc nL ret N X pc (.int z :: .int x :: rest) loc w := by
  intro p e s m args below meth c H locs ls hC hP hS hl
  obtain ⟨hx, hb, hr, hml, hown, hts, hlk, het, hK, hE, hG⟩ := id hC
  exact lv_iand hx hb hdg  (k p e s m args below meth c H locs ls hC hP hS hl)
theorem r_ior {x z : Int32} (hdg : decode cc pc = .ok (.ior, 1))  (k : RT Γ l d y cc nL ret N X (pc + 1) (.int (x ||| z) :: rest) loc w) : RT Γ l d y cc nL ret N X pc (.int z :: .int x :: rest) loc w := by
  intro p e s m args below meth c H locs ls hC hP hS hl
  obtain ⟨hx, hb, hr, hml, hown, hts, hlk, het, hK, hE, hG⟩ := id hC
  exact lv_ior hx hb hdg  (k p e s m args below meth c H locs ls hC hP hS hl)
theorem r_ladd {x z : Int64} (hdg : decode cc pc = .ok (.ladd, 1))  (k : RT Γ l d y cc nL ret N X (pc + 1) (.long (x + z) :: rest) loc w) : RT Γ l d y cc nL ret N X pc (.long z :: .long x :: rest) loc w := by
  intro p e s m args below meth c H locs ls hC hP hS hl
  obtain ⟨hx, hb, hr, hml, hown, hts, hlk, het, hK, hE, hG⟩ := id hC
  exact lv_ladd hx hb hdg  (k p e s m args below meth c H locs ls hC hP hS hl)
theorem r_lsub {x z : Int64} (hdg : decode cc pc = .ok (.lsub, 1))  (k : RT Γ l d y cc nL ret N X (pc + 1) (.long (x - z) :: rest) loc w) : RT Γ l d y cc nL ret N X pc (.long z :: .long x :: rest) loc w := by
  intro p e s m args below meth c H locs ls hC hP hS hl
  obtain ⟨hx, hb, hr, hml, hown, hts, hlk, het, hK, hE, hG⟩ := id hC
  exact lv_lsub hx hb hdg  (k p e s m args below meth c H locs ls hC hP hS hl)
theorem r_lmul {x z : Int64} (hdg : decode cc pc = .ok (.lmul, 1))  (k : RT Γ l d y cc nL ret N X (pc + 1) (.long (x * z) :: rest) loc w) : RT Γ l d y cc nL ret N X pc (.long z :: .long x :: rest) loc w := by
  intro p e s m args below meth c H locs ls hC hP hS hl
  obtain ⟨hx, hb, hr, hml, hown, hts, hlk, het, hK, hE, hG⟩ := id hC
  exact lv_lmul hx hb hdg  (k p e s m args below meth c H locs ls hC hP hS hl)
theorem r_land {x z : Int64} (hdg : decode cc pc = .ok (.land, 1))  (k : RT Γ l d y cc nL ret N X (pc + 1) (.long (x &&& z) :: rest) loc w) : RT Γ l d y cc nL ret N X pc (.long z :: .long x :: rest) loc w := by
  intro p e s m args below meth c H locs ls hC hP hS hl
  obtain ⟨hx, hb, hr, hml, hown, hts, hlk, het, hK, hE, hG⟩ := id hC
  exact lv_land hx hb hdg  (k p e s m args below meth c H locs ls hC hP hS hl)
theorem r_lor {x z : Int64} (hdg : decode cc pc = .ok (.lor, 1))  (k : RT Γ l d y cc nL ret N X (pc + 1) (.long (x ||| z) :: rest) loc w) : RT Γ l d y cc nL ret N X pc (.long z :: .long x :: rest) loc w := by
  intro p e s m args below meth c H locs ls hC hP hS hl
  obtain ⟨hx, hb, hr, hml, hown, hts, hlk, het, hK, hE, hG⟩ := id hC
  exact lv_lor hx hb hdg  (k p e s m args below meth c H locs ls hC hP hS hl)
theorem r_lxor {x z : Int64} (hdg : decode cc pc = .ok (.lxor, 1))  (k : RT Γ l d y cc nL ret N X (pc + 1) (.long (x ^^^ z) :: rest) loc w) : RT Γ l d y cc nL ret N X pc (.long z :: .long x :: rest) loc w := by
  intro p e s m args below meth c H locs ls hC hP hS hl
  obtain ⟨hx, hb, hr, hml, hown, hts, hlk, het, hK, hE, hG⟩ := id hC
  exact lv_lxor hx hb hdg  (k p e s m args below meth c H locs ls hC hP hS hl)
theorem r_idiv {x z : Int32} (hdg : decode cc pc = .ok (.idiv, 1)) (hne : ¬ z = 0) (k : RT Γ l d y cc nL ret N X (pc + 1) (.int (x / z) :: rest) loc w) : RT Γ l d y cc nL ret N X pc (.int z :: .int x :: rest) loc w := by
  intro p e s m args below meth c H locs ls hC hP hS hl
  obtain ⟨hx, hb, hr, hml, hown, hts, hlk, het, hK, hE, hG⟩ := id hC
  exact lv_idiv hx hb hdg hne (k p e s m args below meth c H locs ls hC hP hS hl)
theorem r_irem {x z : Int32} (hdg : decode cc pc = .ok (.irem, 1)) (hne : ¬ z = 0) (k : RT Γ l d y cc nL ret N X (pc + 1) (.int (x - x / z * z) :: rest) loc w) : RT Γ l d y cc nL ret N X pc (.int z :: .int x :: rest) loc w := by
  intro p e s m args below meth c H locs ls hC hP hS hl
  obtain ⟨hx, hb, hr, hml, hown, hts, hlk, het, hK, hE, hG⟩ := id hC
  exact lv_irem hx hb hdg hne (k p e s m args below meth c H locs ls hC hP hS hl)
theorem r_ldiv {x z : Int64} (hdg : decode cc pc = .ok (.ldiv, 1)) (hne : ¬ z = 0) (k : RT Γ l d y cc nL ret N X (pc + 1) (.long (x / z) :: rest) loc w) : RT Γ l d y cc nL ret N X pc (.long z :: .long x :: rest) loc w := by
  intro p e s m args below meth c H locs ls hC hP hS hl
  obtain ⟨hx, hb, hr, hml, hown, hts, hlk, het, hK, hE, hG⟩ := id hC
  exact lv_ldiv hx hb hdg hne (k p e s m args below meth c H locs ls hC hP hS hl)
theorem r_lrem {x z : Int64} (hdg : decode cc pc = .ok (.lrem, 1)) (hne : ¬ z = 0) (k : RT Γ l d y cc nL ret N X (pc + 1) (.long (x - x / z * z) :: rest) loc w) : RT Γ l d y cc nL ret N X pc (.long z :: .long x :: rest) loc w := by
  intro p e s m args below meth c H locs ls hC hP hS hl
  obtain ⟨hx, hb, hr, hml, hown, hts, hlk, het, hK, hE, hG⟩ := id hC
  exact lv_lrem hx hb hdg hne (k p e s m args below meth c H locs ls hC hP hS hl)
theorem r_ineg {x : Int32} (hdg : decode cc pc = .ok (.ineg, 1))  (k : RT Γ l d y cc nL ret N X (pc + 1) (.int (-x) :: rest) loc w) : RT Γ l d y cc nL ret N X pc (.int x :: rest) loc w := by
  intro p e s m args below meth c H locs ls hC hP hS hl
  obtain ⟨hx, hb, hr, hml, hown, hts, hlk, het, hK, hE, hG⟩ := id hC
  exact lv_ineg hx hb hdg  (k p e s m args below meth c H locs ls hC hP hS hl)
theorem r_lneg {x : Int64} (hdg : decode cc pc = .ok (.lneg, 1))  (k : RT Γ l d y cc nL ret N X (pc + 1) (.long (-x) :: rest) loc w) : RT Γ l d y cc nL ret N X pc (.long x :: rest) loc w := by
  intro p e s m args below meth c H locs ls hC hP hS hl
  obtain ⟨hx, hb, hr, hml, hown, hts, hlk, het, hK, hE, hG⟩ := id hC
  exact lv_lneg hx hb hdg  (k p e s m args below meth c H locs ls hC hP hS hl)
theorem r_ishl {x z : Int32} (hdg : decode cc pc = .ok (.ishl, 1))  (k : RT Γ l d y cc nL ret N X (pc + 1) (.int (x <<< (z &&& 31)) :: rest) loc w) : RT Γ l d y cc nL ret N X pc (.int z :: .int x :: rest) loc w := by
  intro p e s m args below meth c H locs ls hC hP hS hl
  obtain ⟨hx, hb, hr, hml, hown, hts, hlk, het, hK, hE, hG⟩ := id hC
  exact lv_ishl hx hb hdg  (k p e s m args below meth c H locs ls hC hP hS hl)
theorem r_ishr {x z : Int32} (hdg : decode cc pc = .ok (.ishr, 1))  (k : RT Γ l d y cc nL ret N X (pc + 1) (.int (x >>> (z &&& 31)) :: rest) loc w) : RT Γ l d y cc nL ret N X pc (.int z :: .int x :: rest) loc w := by
  intro p e s m args below meth c H locs ls hC hP hS hl
  obtain ⟨hx, hb, hr, hml, hown, hts, hlk, het, hK, hE, hG⟩ := id hC
  exact lv_ishr hx hb hdg  (k p e s m args below meth c H locs ls hC hP hS hl)
theorem r_iushr {x z : Int32} (hdg : decode cc pc = .ok (.iushr, 1))  (k : RT Γ l d y cc nL ret N X (pc + 1) (.int ((x.toUInt32 >>> (z.toUInt32 &&& Int32.toUInt32 31)).toInt32) :: rest) loc w) : RT Γ l d y cc nL ret N X pc (.int z :: .int x :: rest) loc w := by
  intro p e s m args below meth c H locs ls hC hP hS hl
  obtain ⟨hx, hb, hr, hml, hown, hts, hlk, het, hK, hE, hG⟩ := id hC
  exact lv_iushr hx hb hdg rfl (k p e s m args below meth c H locs ls hC hP hS hl)
theorem r_lshl {x : Int64} {z : Int32} (hdg : decode cc pc = .ok (.lshl, 1))  (k : RT Γ l d y cc nL ret N X (pc + 1) (.long (x <<< (z.toInt64 &&& 63)) :: rest) loc w) : RT Γ l d y cc nL ret N X pc (.int z :: .long x :: rest) loc w := by
  intro p e s m args below meth c H locs ls hC hP hS hl
  obtain ⟨hx, hb, hr, hml, hown, hts, hlk, het, hK, hE, hG⟩ := id hC
  exact lv_lshl hx hb hdg rfl (k p e s m args below meth c H locs ls hC hP hS hl)
theorem r_lshr {x : Int64} {z : Int32} (hdg : decode cc pc = .ok (.lshr, 1))  (k : RT Γ l d y cc nL ret N X (pc + 1) (.long (x >>> (z.toInt64 &&& 63)) :: rest) loc w) : RT Γ l d y cc nL ret N X pc (.int z :: .long x :: rest) loc w := by
  intro p e s m args below meth c H locs ls hC hP hS hl
  obtain ⟨hx, hb, hr, hml, hown, hts, hlk, het, hK, hE, hG⟩ := id hC
  exact lv_lshr hx hb hdg rfl (k p e s m args below meth c H locs ls hC hP hS hl)
theorem r_i2l {x : Int32} (hdg : decode cc pc = .ok (.i2l, 1))  (k : RT Γ l d y cc nL ret N X (pc + 1) (.long x.toInt64 :: rest) loc w) : RT Γ l d y cc nL ret N X pc (.int x :: rest) loc w := by
  intro p e s m args below meth c H locs ls hC hP hS hl
  obtain ⟨hx, hb, hr, hml, hown, hts, hlk, het, hK, hE, hG⟩ := id hC
  exact lv_i2l hx hb hdg rfl (k p e s m args below meth c H locs ls hC hP hS hl)
theorem r_l2i {x : Int64} (hdg : decode cc pc = .ok (.l2i, 1))  (k : RT Γ l d y cc nL ret N X (pc + 1) (.int x.toInt32 :: rest) loc w) : RT Γ l d y cc nL ret N X pc (.long x :: rest) loc w := by
  intro p e s m args below meth c H locs ls hC hP hS hl
  obtain ⟨hx, hb, hr, hml, hown, hts, hlk, het, hK, hE, hG⟩ := id hC
  exact lv_l2i hx hb hdg rfl (k p e s m args below meth c H locs ls hC hP hS hl)
theorem r_i2b {x : Int32} (hdg : decode cc pc = .ok (.i2b, 1))  (k : RT Γ l d y cc nL ret N X (pc + 1) (.int x.toInt8.toInt32 :: rest) loc w) : RT Γ l d y cc nL ret N X pc (.int x :: rest) loc w := by
  intro p e s m args below meth c H locs ls hC hP hS hl
  obtain ⟨hx, hb, hr, hml, hown, hts, hlk, het, hK, hE, hG⟩ := id hC
  exact lv_i2b hx hb hdg rfl (k p e s m args below meth c H locs ls hC hP hS hl)
theorem r_i2c {x : Int32} (hdg : decode cc pc = .ok (.i2c, 1))  (k : RT Γ l d y cc nL ret N X (pc + 1) (.int (x.toUInt32 % 65536).toInt32 :: rest) loc w) : RT Γ l d y cc nL ret N X pc (.int x :: rest) loc w := by
  intro p e s m args below meth c H locs ls hC hP hS hl
  obtain ⟨hx, hb, hr, hml, hown, hts, hlk, het, hK, hE, hG⟩ := id hC
  exact lv_i2c hx hb hdg rfl (k p e s m args below meth c H locs ls hC hP hS hl)
theorem r_lcmp {x z : Int64} (hdg : decode cc pc = .ok (.lcmp, 1))  (k : RT Γ l d y cc nL ret N X (pc + 1) (.int (lg_cmp x z) :: rest) loc w) : RT Γ l d y cc nL ret N X pc (.long z :: .long x :: rest) loc w := by
  intro p e s m args below meth c H locs ls hC hP hS hl
  obtain ⟨hx, hb, hr, hml, hown, hts, hlk, het, hK, hE, hG⟩ := id hC
  exact W.lcmp hx hb hdg  (k p e s m args below meth c H locs ls hC hP hS hl)
theorem r_dup {va : Value} (hdg : decode cc pc = .ok (.dup, 1)) (ha : va.category = 1) (k : RT Γ l d y cc nL ret N X (pc + 1) (va :: va :: rest) loc w) : RT Γ l d y cc nL ret N X pc (va :: rest) loc w := by
  intro p e s m args below meth c H locs ls hC hP hS hl
  obtain ⟨hx, hb, hr, hml, hown, hts, hlk, het, hK, hE, hG⟩ := id hC
  exact lv_dup hx hb hdg (by rw [tr_cat]; exact ha) (k p e s m args below meth c H locs ls hC hP hS hl)
theorem r_pop {va : Value} (hdg : decode cc pc = .ok (.pop, 1)) (ha : va.category = 1) (k : RT Γ l d y cc nL ret N X (pc + 1) rest loc w) : RT Γ l d y cc nL ret N X pc (va :: rest) loc w := by
  intro p e s m args below meth c H locs ls hC hP hS hl
  obtain ⟨hx, hb, hr, hml, hown, hts, hlk, het, hK, hE, hG⟩ := id hC
  exact lv_pop hx hb hdg (by rw [tr_cat]; exact ha) (k p e s m args below meth c H locs ls hC hP hS hl)
theorem r_dup_x1 {va vb : Value} (hdg : decode cc pc = .ok (.dup_x1, 1)) (ha : va.category = 1) (hb9 : vb.category = 1) (k : RT Γ l d y cc nL ret N X (pc + 1) (va :: vb :: va :: rest) loc w) : RT Γ l d y cc nL ret N X pc (va :: vb :: rest) loc w := by
  intro p e s m args below meth c H locs ls hC hP hS hl
  obtain ⟨hx, hb, hr, hml, hown, hts, hlk, het, hK, hE, hG⟩ := id hC
  exact lv_dup_x1 hx hb hdg (by rw [tr_cat]; exact ha) (by rw [tr_cat]; exact hb9) (k p e s m args below meth c H locs ls hC hP hS hl)
theorem r_dup_x2 {va vb vd : Value} (hdg : decode cc pc = .ok (.dup_x2, 1)) (ha : va.category = 1) (hb9 : vb.category = 1) (hd9 : vd.category = 1) (k : RT Γ l d y cc nL ret N X (pc + 1) (va :: vb :: vd :: va :: rest) loc w) : RT Γ l d y cc nL ret N X pc (va :: vb :: vd :: rest) loc w := by
  intro p e s m args below meth c H locs ls hC hP hS hl
  obtain ⟨hx, hb, hr, hml, hown, hts, hlk, het, hK, hE, hG⟩ := id hC
  exact lv_dup_x2 hx hb hdg (by rw [tr_cat]; exact ha) (by rw [tr_cat]; exact hb9) (by rw [tr_cat]; exact hd9) (k p e s m args below meth c H locs ls hC hP hS hl)
theorem r_dup2 {va vb : Value} (hdg : decode cc pc = .ok (.dup2, 1)) (ha : va.category = 1) (hb9 : vb.category = 1) (k : RT Γ l d y cc nL ret N X (pc + 1) (va :: vb :: va :: vb :: rest) loc w) : RT Γ l d y cc nL ret N X pc (va :: vb :: rest) loc w := by
  intro p e s m args below meth c H locs ls hC hP hS hl
  obtain ⟨hx, hb, hr, hml, hown, hts, hlk, het, hK, hE, hG⟩ := id hC
  exact lv_dup2_11 hx hb hdg (by rw [tr_cat]; exact ha) (by rw [tr_cat]; exact hb9) (k p e s m args below meth c H locs ls hC hP hS hl)
theorem r_icmp_eq {x z : Int32} {off : Int} {tgt : Nat} (hdg : decode cc pc = .ok (.if_icmp .eq off, 3)) (ht : (pc : Int) + off = (tgt : Int)) (kt : x = z → RT Γ l d y cc nL ret N X tgt rest loc w) (kf : ¬ x = z → RT Γ l d y cc nL ret N X (pc + 3) rest loc w) : RT Γ l d y cc nL ret N X pc (.int z :: .int x :: rest) loc w := by
  intro p e s m args below meth c H locs ls hC hP hS hl
  obtain ⟨hx, hb, hr, hml, hown, hts, hlk, het, hK, hE, hG⟩ := id hC
  exact lv_icmp_eq hx hb hdg ht (fun h => kt h p e s m args below meth c H locs ls hC hP hS hl) (fun h => kf h p e s m args below meth c H locs ls hC hP hS hl)
theorem r_icmp_ne {x z : Int32} {off : Int} {tgt : Nat} (hdg : decode cc pc = .ok (.if_icmp .ne off, 3)) (ht : (pc : Int) + off = (tgt : Int)) (kt : ¬ x = z → RT Γ l d y cc nL ret N X tgt rest loc w) (kf : x = z → RT Γ l d y cc nL ret N X (pc + 3) rest loc w) : RT Γ l d y cc nL ret N X pc (.int z :: .int x :: rest) loc w := by
  intro p e s m args below meth c H locs ls hC hP hS hl
  obtain ⟨hx, hb, hr, hml, hown, hts, hlk, het, hK, hE, hG⟩ := id hC
  exact lv_icmp_ne hx hb hdg ht (fun h => kt h p e s m args below meth c H locs ls hC hP hS hl) (fun h => kf h p e s m args below meth c H locs ls hC hP hS hl)
theorem r_icmp_lt {x z : Int32} {off : Int} {tgt : Nat} (hdg : decode cc pc = .ok (.if_icmp .lt off, 3)) (ht : (pc : Int) + off = (tgt : Int)) (kt : x < z → RT Γ l d y cc nL ret N X tgt rest loc w) (kf : ¬ x < z → RT Γ l d y cc nL ret N X (pc + 3) rest loc w) : RT Γ l d y cc nL ret N X pc (.int z :: .int x :: rest) loc w := by
  intro p e s m args below meth c H locs ls hC hP hS hl
  obtain ⟨hx, hb, hr, hml, hown, hts, hlk, het, hK, hE, hG⟩ := id hC
  exact lv_icmp_lt hx hb hdg ht (fun h => kt h p e s m args below meth c H locs ls hC hP hS hl) (fun h => kf h p e s m args below meth c H locs ls hC hP hS hl)
theorem r_icmp_ge {x z : Int32} {off : Int} {tgt : Nat} (hdg : decode cc pc = .ok (.if_icmp .ge off, 3)) (ht : (pc : Int) + off = (tgt : Int)) (kt : z ≤ x → RT Γ l d y cc nL ret N X tgt rest loc w) (kf : ¬ z ≤ x → RT Γ l d y cc nL ret N X (pc + 3) rest loc w) : RT Γ l d y cc nL ret N X pc (.int z :: .int x :: rest) loc w := by
  intro p e s m args below meth c H locs ls hC hP hS hl
  obtain ⟨hx, hb, hr, hml, hown, hts, hlk, het, hK, hE, hG⟩ := id hC
  exact lv_icmp_ge hx hb hdg ht (fun h => kt h p e s m args below meth c H locs ls hC hP hS hl) (fun h => kf h p e s m args below meth c H locs ls hC hP hS hl)
theorem r_icmp_gt {x z : Int32} {off : Int} {tgt : Nat} (hdg : decode cc pc = .ok (.if_icmp .gt off, 3)) (ht : (pc : Int) + off = (tgt : Int)) (kt : z < x → RT Γ l d y cc nL ret N X tgt rest loc w) (kf : ¬ z < x → RT Γ l d y cc nL ret N X (pc + 3) rest loc w) : RT Γ l d y cc nL ret N X pc (.int z :: .int x :: rest) loc w := by
  intro p e s m args below meth c H locs ls hC hP hS hl
  obtain ⟨hx, hb, hr, hml, hown, hts, hlk, het, hK, hE, hG⟩ := id hC
  exact lv_icmp_gt hx hb hdg ht (fun h => kt h p e s m args below meth c H locs ls hC hP hS hl) (fun h => kf h p e s m args below meth c H locs ls hC hP hS hl)
theorem r_icmp_le {x z : Int32} {off : Int} {tgt : Nat} (hdg : decode cc pc = .ok (.if_icmp .le off, 3)) (ht : (pc : Int) + off = (tgt : Int)) (kt : x ≤ z → RT Γ l d y cc nL ret N X tgt rest loc w) (kf : ¬ x ≤ z → RT Γ l d y cc nL ret N X (pc + 3) rest loc w) : RT Γ l d y cc nL ret N X pc (.int z :: .int x :: rest) loc w := by
  intro p e s m args below meth c H locs ls hC hP hS hl
  obtain ⟨hx, hb, hr, hml, hown, hts, hlk, het, hK, hE, hG⟩ := id hC
  exact lv_icmp_le hx hb hdg ht (fun h => kt h p e s m args below meth c H locs ls hC hP hS hl) (fun h => kf h p e s m args below meth c H locs ls hC hP hS hl)
theorem r_goto {off : Int} {tgt : Nat} (hdg : decode cc pc = .ok (.goto off, 3)) (ht : (pc : Int) + off = (tgt : Int)) (k : RT Γ l d y cc nL ret N X tgt rest loc w) : RT Γ l d y cc nL ret N X pc rest loc w := by
  intro p e s m args below meth c H locs ls hC hP hS hl
  obtain ⟨hx, hb, hr, hml, hown, hts, hlk, het, hK, hE, hG⟩ := id hC
  exact lv_goto hx hb hdg ht (k p e s m args below meth c H locs ls hC hP hS hl)
theorem r_tableIn {dflt lo hi : Int} {offs : Array Int} {len : Nat} {x : Int32} {off : Int} {tgt : Nat} (hdg : decode cc pc = .ok (.tableswitch dflt lo hi offs, len)) (h1 : ¬ x.toInt < lo) (h2 : ¬ hi < x.toInt) (ho : offs[(x.toInt - lo).toNat]? = some off) (ht : (pc : Int) + off = (tgt : Int)) (k : RT Γ l d y cc nL ret N X tgt rest loc w) : RT Γ l d y cc nL ret N X pc (.int x :: rest) loc w := by
  intro p e s m args below meth c H locs ls hC hP hS hl
  obtain ⟨hx, hb, hr, hml, hown, hts, hlk, het, hK, hE, hG⟩ := id hC
  exact lv_tableIn hx hb hdg h1 h2 ho ht (k p e s m args below meth c H locs ls hC hP hS hl)
theorem r_tableOut {dflt lo hi : Int} {offs : Array Int} {len : Nat} {x : Int32} {tgt : Nat} (hdg : decode cc pc = .ok (.tableswitch dflt lo hi offs, len)) (h : x.toInt < lo ∨ hi < x.toInt) (ht : (pc : Int) + dflt = (tgt : Int)) (k : RT Γ l d y cc nL ret N X tgt rest loc w) : RT Γ l d y cc nL ret N X pc (.int x :: rest) loc w := by
  intro p e s m args below meth c H locs ls hC hP hS hl
  obtain ⟨hx, hb, hr, hml, hown, hts, hlk, het, hK, hE, hG⟩ := id hC
  exact lv_tableOut hx hb hdg h ht (k p e s m args below meth c H locs ls hC hP hS hl)
theorem r_lookup {dflt : Int} {ps : Array (Int × Int)} {len : Nat} {x : Int32} {off : Int} {tgt : Nat} (hdg : decode cc pc = .ok (.lookupswitch dflt ps, len)) (hp : (ps.toList.zip (ps.toList.drop 1)).all (fun (a, next) => a.1 < next.1) = true) (ho : Op.lookupswitch.offset ps.toList dflt x.toInt = off) (ht : (pc : Int) + off = (tgt : Int)) (k : RT Γ l d y cc nL ret N X tgt rest loc w) : RT Γ l d y cc nL ret N X pc (.int x :: rest) loc w := by
  intro p e s m args below meth c H locs ls hC hP hS hl
  obtain ⟨hx, hb, hr, hml, hown, hts, hlk, het, hK, hE, hG⟩ := id hC
  exact lv_lookup hx hb hdg hp ho ht (k p e s m args below meth c H locs ls hC hP hS hl)
end RTR
