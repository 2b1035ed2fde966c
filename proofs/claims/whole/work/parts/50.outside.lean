/-! OUTSIDE: strings and statics that stand in the heap beside the side -/
section RTS
variable {Γ : Gm} {l : Launch} {d : Nat} {y : MethodName} {cc : ByteArray} {nL : Nat} {ret : Option FieldType} {N : Option Value → Wd → Prop} {X : String → Wd → Prop} {pc : Nat} {rest : List Value} {loc : List (Nat × Value)} {w : Wd} {F : Nat → Prop}
theorem r_ldcS {k index : Nat} {tx : String} (hZ : ∀ (U : State) (H : Heap), gE Γ U H → vk_R y.cls index tx (gad Γ k) U) (hdg : decode cc pc = .ok (.ldc index, 2)) (kk : RT Γ l d y cc nL ret N X (pc + 2) (.ref k :: rest) loc w) : RT Γ l d y cc nL ret N X pc rest loc w := by
  intro p e s m args below meth c H locs ls hC hP hS hl
  obtain ⟨hx, hb, hr, hml, hown, hts, hlk, het, hK, hE, hG⟩ := id hC
  exact va_ldcS hx hb hown (hZ s s.heap hE) hdg (kk p e s m args below meth c H locs ls hC hP hS hl)
theorem r_xget {k index : Nat} {o9 n9 d9 : String} {v : Value} (hAF : ∀ q, gAw Γ q → F q) (hE9 : ∀ (U : State) (H : Heap), gE Γ U H → va_OF o9 n9 d9 (tr Γ v) (gad Γ k) F U H) (hk9 : Cond.fieldLink y.cls index o9 n9 d9 ∈ TB) (hdg : decode cc pc = .ok (.getfield index, 3)) (kk : RT Γ l d y cc nL ret N X (pc + 3) (v :: rest) loc w) : RT Γ l d y cc nL ret N X pc (.ref k :: rest) loc w := by
  intro p e s m args below meth c H locs ls hC hP hS hl
  obtain ⟨hx, hb, hr, hml, hown, hts, hlk, het, hK, hE, hG⟩ := id hC
  exact vk_getf (v := tr Γ v) hx hb ((hE9 s s.heap hE).narrow hAF) hS hown (hts _ hk9) (fun x hx => hx) hdg (kk p e s m args below meth c H locs ls hC hP hS hl)
theorem r_xlen {k N9 : Nat} {ty : FieldType} {f : Nat → Value} {v : Int32} (hAF : ∀ q, gAw Γ q → F q) (hE9 : ∀ (U : State) (H : Heap), gE Γ U H → va_T ty (gad Γ k) N9 f F U H) (hv : Int32.ofNat N9 = v) (hdg : decode cc pc = .ok (.arraylength, 1)) (kk : RT Γ l d y cc nL ret N X (pc + 1) (.int v :: rest) loc w) : RT Γ l d y cc nL ret N X pc (.ref k :: rest) loc w := by
  intro p e s m args below meth c H locs ls hC hP hS hl
  obtain ⟨hx, hb, hr, hml, hown, hts, hlk, het, hK, hE, hG⟩ := id hC
  exact va_tlen hx hb ((hE9 s s.heap hE).narrow hAF) hS hv hdg (kk p e s m args below meth c H locs ls hC hP hS hl)
theorem r_xbald {k N9 : Nat} {f : Nat → Int32} {i : Int32} (hAF : ∀ q, gAw Γ q → F q) (hE9 : ∀ (U : State) (H : Heap), gE Γ U H → va_T .byte (gad Γ k) N9 (fun j => .int (f j)) F U H) (hin : vp_in i N9) (hdg : decode cc pc = .ok (.baload, 1)) (kk : RT Γ l d y cc nL ret N X (pc + 1) (.int (f i.toNatClampNeg) :: rest) loc w) : RT Γ l d y cc nL ret N X pc (.int i :: .ref k :: rest) loc w := by
  intro p e s m args below meth c H locs ls hC hP hS hl
  obtain ⟨hx, hb, hr, hml, hown, hts, hlk, het, hK, hE, hG⟩ := id hC
  exact va_tb hx hb ((hE9 s s.heap hE).narrow hAF) hS hin rfl hdg (kk p e s m args below meth c H locs ls hC hP hS hl)
theorem r_xgets {index : Nat} {o9 n9 d9 : String} {v : Value} (hAF : ∀ q, gAw Γ q → F q) (hE9 : ∀ (U : State) (H : Heap), gE Γ U H → va_Z o9 n9 d9 (tr Γ v) F U H) (hk9 : Cond.fieldLink y.cls index o9 n9 d9 ∈ TB) (hdg : decode cc pc = .ok (.getstatic index, 3)) (kk : RT Γ l d y cc nL ret N X (pc + 3) (v :: rest) loc w) : RT Γ l d y cc nL ret N X pc rest loc w := by
  intro p e s m args below meth c H locs ls hC hP hS hl
  obtain ⟨hx, hb, hr, hml, hown, hts, hlk, het, hK, hE, hG⟩ := id hC
  exact va_gets (v := tr Γ v) hx hb ((hE9 s s.heap hE).narrow hAF) hS hown (hts _ hk9) (fun x hx => hx) hdg (kk p e s m args below meth c H locs ls hC hP hS hl)
theorem r_callX {d' nL' n k index : Nat} {C : String} {y' : MethodName} {cc' : ByteArray} {ret' : Option FieldType} {av stk : List Value} (hY : CY y' cc' nL' ret' n) (hAF : ∀ q, gAw Γ q → F q) (hR9 : ∀ (U : State) (H : Heap), gE Γ U H → va_O C (gad Γ k) F U H) (hC9 : y'.cls = C) (h1 : Cond.methodLink y.cls index y' ∈ TB) (h2 : Cond.instanceMethod y' ∈ TB) (h3 : Cond.selects C y' y' ∈ TB) (hd : d' + 1 ≤ d ∧ nL' ≤ 26) (hn : av.length = n) (hstk : stk = av.reverse ++ .ref k :: rest) (hroom : (rest.map fun v => v.category).sum ≤ 8) (hdg : decode cc pc = .ok (.invokevirtual index, 3))
    (hM : Ct Γ l d' y' cc' nL' ret' (.ref k :: av) w (fun v u => RT Γ l d y cc nL ret N X (pc + 3) (v.toList ++ rest) loc u) X) : RT Γ l d y cc nL ret N X pc stk loc w := by
  refine r_call (rest := rest) (N9 := fun v u => RT Γ l d y cc nL ret N X (pc + 3) (v.toList ++ rest) loc u) (av := .ref k :: av) (d' := d') (nL' := nL') (y' := y') (cc' := cc') (ret' := ret') (fun v u h => h) (fun p e s m args below meth c H locs ls hC hP hS hl => ?_)
  obtain ⟨hx, hb, hr, hml, hown, hts, hlk, het, hK, hE, hG⟩ := id hC
  have hGI : GoodIn TB (wsV y.cls index C y' (Cond.code y' cc' nL' ret' :: TB)) := by
    intro w hw
    unfold wsV at hw
    simp only [List.mem_append, List.mem_cons, List.not_mem_nil, or_false] at hw
    rcases hw with (rfl | rfl | rfl | rfl) | rfl | hw
    · exact goodTB h1
    · exact goodTB h2
    · exact goodTB h3
    · rw [← hC9]; exact goodTB hY.2.1
    · exact goodTB hY.1
    · exact goodTB hw
  have cw : CallW (rmD d) s args y.cls C index y' cc' nL' ret' (Cond.code y' cc' nL' ret' :: TB) (rmD d') 0 0 n := cwV n hts hGI rfl rfl rfl ⟨hC9, hY.2.2.1, hY.2.2.2.1, hY.2.2.2.2⟩ ⟨hd.1, by show 8 + (nL' + 11) + 45 * d' ≤ 45 * d; omega⟩
  refine vx_runV (As := av.map (tr Γ)) ⟨hx, hb, hml, hown, hts⟩ hM cw ⟨pn_blind Γ _ _, (by obtain ⟨cell, g1, g2, g3, -⟩ := (hR9 s s.heap hE).kept (fun a ha hn => hS.2.1 a ha (fun z => hn (hAF a z))); exact ⟨cell, g1, g2, g3⟩), fun U hU hW => ⟨rfl, by rw [hU]; exact hP, va_K.moved hW.alike hK, hG.2.1 s U _ hW (by rw [hU]; exact hG.2.2 s s.heap H hS.1 hS.2.1 hE), hG⟩⟩ rfl (by rw [List.length_map]; exact hn) hl ?_ (lv_room ?_) hdg ⟨Nat.le_refl _, Nat.le_refl _⟩
  · rw [hstk]
    show List.map (tr Γ) (av.reverse ++ .ref k :: rest) = _
    simp [tr]
  · rw [List.map_map]
    rw [show ((fun v => Value.category v) ∘ tr Γ) = (fun v => Value.category v) from funext fun v => tr_cat Γ v]
    exact hroom
theorem r_cXi {d' nL' n k index : Nat} {C : String} {y' : MethodName} {cc' : ByteArray} {ret' : Option FieldType} {av stk : List Value} (hY : CY y' cc' nL' ret' n) (hAF : ∀ q, gAw Γ q → F q) (hR9 : ∀ (U : State) (H : Heap), gE Γ U H → va_O C (gad Γ k) F U H) (hC9 : y'.cls = C) (h1 : Cond.methodLink y.cls index y' ∈ TB) (h2 : Cond.instanceMethod y' ∈ TB) (h3 : Cond.selects C y' y' ∈ TB) (hd : d' + 1 ≤ d ∧ nL' ≤ 26) (hn : av.length = n) (hstk : stk = av.reverse ++ .ref k :: rest) (hroom : (rest.map fun v => v.category).sum ≤ 8) (hdg : decode cc pc = .ok (.invokevirtual index, 3))
    (hM : Ct Γ l d' y' cc' nL' ret' (.ref k :: av) w (pI (fun x u => RT Γ l d y cc nL ret N X (pc + 3) (.int x :: rest) loc u)) X) : RT Γ l d y cc nL ret N X pc stk loc w := by
  refine r_callX hY hAF hR9 hC9 h1 h2 h3 hd hn hstk hroom hdg (hM.mono (fun v u hq => ?_) (fun _ _ h => h))
  obtain ⟨x, rfl, h⟩ := hq
  exact h
theorem r_cXv {d' nL' n k index : Nat} {C : String} {y' : MethodName} {cc' : ByteArray} {ret' : Option FieldType} {av stk : List Value} (hY : CY y' cc' nL' ret' n) (hAF : ∀ q, gAw Γ q → F q) (hR9 : ∀ (U : State) (H : Heap), gE Γ U H → va_O C (gad Γ k) F U H) (hC9 : y'.cls = C) (h1 : Cond.methodLink y.cls index y' ∈ TB) (h2 : Cond.instanceMethod y' ∈ TB) (h3 : Cond.selects C y' y' ∈ TB) (hd : d' + 1 ≤ d ∧ nL' ≤ 26) (hn : av.length = n) (hstk : stk = av.reverse ++ .ref k :: rest) (hroom : (rest.map fun v => v.category).sum ≤ 8) (hdg : decode cc pc = .ok (.invokevirtual index, 3))
    (hM : Ct Γ l d' y' cc' nL' ret' (.ref k :: av) w (pV (fun u => RT Γ l d y cc nL ret N X (pc + 3) rest loc u)) X) : RT Γ l d y cc nL ret N X pc stk loc w := by
  refine r_callX hY hAF hR9 hC9 h1 h2 h3 hd hn hstk hroom hdg (hM.mono (fun v u hq => ?_) (fun _ _ h => h))
  obtain ⟨rfl, h⟩ := hq
  exact h
theorem rP_n {x R : Int32} {ty : FieldType} (hr9 : ret = some ty) (hn : narrow ty (.int x) = .int x) (hdg : decode cc pc = .ok (.ireturn, 1)) (h : x = R) (hN : N (some (.int R)) w) : RT Γ l d y cc nL ret N X pc [.int x] loc w := by
  subst h
  intro p e s m args below meth c H locs ls hC hP hS hl
  obtain ⟨hx, hb, hr, hml, hown, hts, hlk, het, hK, hE, hG⟩ := id hC
  exact vx_ret (W.zret hx hb (hr.trans hr9) hn (fun t ht hW => ⟨⟨some (.int x), w, rfl, hN, by rw [ht]; exact hP⟩, hS.F ht⟩) hS.2.2 hdg hlk)
theorem rO_n {x : Int32} {R : Int32 × Wd} {ty : FieldType} (hr : ret = some ty) (hn : narrow ty (.int x) = .int x) (hdg : decode cc pc = .ok (.ireturn, 1)) (h : some (x, w) = some R) (hN : N (some (.int R.1)) R.2) : RT Γ l d y cc nL ret N X pc [.int x] loc w := by
  obtain rfl := Option.some.inj h
  exact rP_n hr hn hdg rfl hN
end RTS
/-- a string k of n bytes f, its bytes in the row kv -/
def STK (Γ : Gm) (F : Nat → Prop) (k kv n : Nat) (f : Nat → Int32) : Prop := (∀ q, gAw Γ q → F q) ∧ (∀ (U : State) (H : Heap), gE Γ U H → va_O "java/lang/String" (gad Γ k) F U H ∧ va_OF "java/lang/String" "coder" "B" (.int 0) (gad Γ k) F U H ∧ va_OF "java/lang/String" "value" "[B" (.ref (gad Γ kv)) (gad Γ k) F U H ∧ va_T .byte (gad Γ kv) n (fun j => .int (f j)) F U H ∧ va_Z "java/lang/String" "COMPACT_STRINGS" "Z" (.int 1) F U H) ∧ ∃ v : Value, (v = .null ∨ v = .ref 998) ∧ ∀ (U : State) (H : Heap), gE Γ U H → va_Z "jdk/internal/util/Preconditions" "SIOOBE_FORMATTER" "Ljava/util/function/BiFunction;" (tr Γ v) F U H

