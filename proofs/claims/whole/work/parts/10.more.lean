/-! MORE ROWS: answers of methods that call each other; the rows of the class (Rows) -/
section RTX
variable {Γ : Gm} {l : Launch} {d : Nat} {y : MethodName} {cc : ByteArray} {nL : Nat} {ret : Option FieldType} {N : Option Value → Wd → Prop} {X : String → Wd → Prop} {pc : Nat} {rest : List Value} {loc : List (Nat × Value)} {w : Wd}
def FU : Nat := 1099511627776
theorem rOR_z {b : Bool} {R : Int32 × Wd} (hr : ret = some .boolean) (hdg : decode cc pc = .ok (.ireturn, 1)) (h : some (b2i b, w) = some R) (hN : N (some (.int R.1)) R.2) : RT Γ l d y cc nL ret N X pc [.int (b2i b)] loc w := by obtain rfl := Option.some.inj h; exact r_zreturn hr (b2i_nar _) hdg hN
theorem rOR_v {R : Int32 × Wd} (hr : ret = none) (hdg : decode cc pc = .ok (.return_, 1)) (h : some ((0 : Int32), w) = some R) (hN : N none R.2) : RT Γ l d y cc nL ret N X pc [] loc w := by obtain rfl := Option.some.inj h; exact r_vreturn hr hdg hN
theorem rER_z {b : Bool} {R : Option Int32 × Wd} (hr : ret = some .boolean) (hdg : decode cc pc = .ok (.ireturn, 1)) (h : some (some (b2i b), w) = some R) (hN : ∀ r : Int32, R.1 = some r → N (some (.int r)) R.2) : RT Γ l d y cc nL ret N X pc [.int (b2i b)] loc w := by obtain rfl := Option.some.inj h; exact r_zreturn hr (b2i_nar _) hdg (hN _ rfl)
theorem rER_v {R : Option Int32 × Wd} (hr : ret = none) (hdg : decode cc pc = .ok (.return_, 1)) (h : some (some (0 : Int32), w) = some R) (hN : ∀ r : Int32, R.1 = some r → N none R.2) : RT Γ l d y cc nL ret N X pc [] loc w := by obtain rfl := Option.some.inj h; exact r_vreturn hr hdg (hN _ rfl)
theorem rS_r {k : Nat} {rt : FieldType} {R : Wd} (hr9 : ret = some rt) (hrt : (∃ n, rt = .object n) ∨ ∃ t, rt = .array t) (hdg : decode cc pc = .ok (.areturn, 1)) (h : w = R) (hN : N (some (.ref k)) R) : RT Γ l d y cc nL ret N X pc [.ref k] loc w := by subst h; exact r_areturn hr9 hrt hdg hN
end RTX
theorem be_x {α γ : Type} {r : Option γ × Wd} {o : Option α} {u : Wd} {X : String → Wd → Prop} {C : String} (h : o = none → r = (none, u)) (e : o = none) (hX : r.1 = none → X C r.2) : X C u := by
  rw [h e] at hX; exact hX rfl
theorem vx_ofWF {l : Launch} {y : MethodName} {ws ws' : List Cond} {rm : Room} {Pc : Array Value → State → Prop} {Qc : Array Value → State → Outcome → State → Prop} {XC : String → State → State → Prop} {mc ms : Nat} {free : Addr → Prop} {cc : ByteArray} {maxL : Nat} {ret : Option FieldType}
    (hy : plainFor y = true) (hw : ws = Cond.code y cc maxL ret :: ws')
    (body : ∀ p e s m args below meth c s₁, BodyLoose p l y (headSpec ws rm) cc maxL ret e s m args below meth c s₁ → c.maxLocals = maxL → (∀ x ∈ c.exceptionTable.toList, False) → Pc args s →
      W p l e (headSpec ws rm).room s m args below meth c s.heap [] 0 0 (vx_MQ below Qc XC args s mc ms free) (entryFrame m args maxL)) : vx_Met l y ws rm Pc Qc XC mc ms free := by
  refine MetFree.of_bodySF (code := cc) (maxLocals := maxL) (ret := ret) hy ?_ ?_
  · intro args s m h hn
    obtain ⟨meth, c, h1, h2, h3, h4, h5, h6, -, -⟩ := Cond.code_spec hn (atoms_spec (ws := ws) h _ (by rw [hw]; exact List.mem_cons_self))
    exact ⟨meth, c, h1, h2, h3, h4, h5, h6⟩
  · intro p e s m args below meth c s₁ B hml hP _
    have hh0 : s₁.heap = s.heap := by rw [B.state]; rfl
    have ht : ∀ x ∈ c.exceptionTable.toList, False := by
      obtain ⟨meth9, c9, h1, h2, -, -, -, -, h7, -⟩ := Cond.code_spec B.named (atoms_spec (ws := ws) B.pre _ (by rw [hw]; exact List.mem_cons_self))
      cases Option.some.inj (h1.symm.trans B.method)
      cases Option.some.inj (h2.symm.trans (Stand.of_body B).code)
      intro x hx
      rw [Array.isEmpty_iff.mp h7] at hx
      cases hx
    obtain ⟨t, a1, o, b1, b2, b3⟩ := body p e s m args below meth c s₁ B hml ht hP s₁ hh0 (Stand.of_body B)
    exact ⟨t, o, a1, b1, b2, b3⟩
theorem Ct.ofF {Γ : Gm} {l : Launch} {d : Nat} {y : MethodName} {cc : ByteArray} {nL : Nat} {ret : Option FieldType} {N : Option Value → Wd → Prop} {X : String → Wd → Prop} {w : Wd} {av : List Value} (hy : plainFor y = true) (hn : (lg_sl av).length ≤ nL) (h : RT Γ l d y cc nL ret N X 0 [] (lv_args 0 av) w) : Ct Γ l d y cc nL ret av w N X := by
  refine vx_ofWF (cc := cc) (maxL := nL) (ret := ret) hy rfl ?_
  intro p e s m args below meth c s₁ B hml het hp
  obtain ⟨rfl, hP, hK, hE, hG⟩ := hp
  have hts := atoms_spec (ws := Cond.code y cc nL ret :: TB) B.pre
  have hown : s.vm.findClass y.cls = some m.cls := findClass_of_methodNamed B.named
  have hl := lv_entry (av.map (tr Γ)) (n := nL) (by rw [lg_sl_tr]; exact hn)
  rw [lg_entry_eq]
  rw [lv_args_tr] at hl
  exact h p e s m _ below meth c s.heap [] _ ⟨B.exec, B.bytes, B.returns, hml, hown, fun w hw => hts w (List.mem_cons_of_mem _ hw), B.notSynchronized, het, hK, hE, hG⟩ hP va_S.rf hl

theorem dX6_get_0 : decode cX6_get 0 = .ok (.iload_n 1, 1) := by decide +kernel
theorem dX6_get_1 : decode cX6_get 1 = .ok (.ifCond .lt 15, 3) := by decide +kernel
theorem dX6_get_4 : decode cX6_get 4 = .ok (.iload_n 1, 1) := by decide +kernel
theorem dX6_get_5 : decode cX6_get 5 = .ok (.aload_n 0, 1) := by decide +kernel
theorem dX6_get_6 : decode cX6_get 6 = .ok (.arraylength, 1) := by decide +kernel
theorem dX6_get_7 : decode cX6_get 7 = .ok (.if_icmp .ge 9, 3) := by decide +kernel
theorem dX6_get_10 : decode cX6_get 10 = .ok (.aload_n 0, 1) := by decide +kernel
theorem dX6_get_11 : decode cX6_get 11 = .ok (.iload_n 1, 1) := by decide +kernel
theorem dX6_get_12 : decode cX6_get 12 = .ok (.iaload, 1) := by decide +kernel
theorem dX6_get_13 : decode cX6_get 13 = .ok (.goto 4, 3) := by decide +kernel
theorem dX6_get_16 : decode cX6_get 16 = .ok (.iconst 0, 1) := by decide +kernel
theorem dX6_get_17 : decode cX6_get 17 = .ok (.ireturn, 1) := by decide +kernel
theorem mX6_get {Γ : Gm} {l : Launch} {N : Option Value → Wd → Prop} {X : String → Wd → Prop} {k n : Nat} {i : Int32} {w : Wd} {x : Int32} (hA : AR Γ k 0 n .int) (hn : n < 2147483648) (h : rgi w k n i = x) (hN : N (some (.int x)) w) : Ct Γ l 0 yX6_get cX6_get 2 ((some .int)) [.ref k, .int i] w N X := by
  refine Ct.of (by decide) (Nat.le_of_ble_eq_true rfl) ?_
  unfold rgi at h
  show RT Γ l 0 yX6_get cX6_get 2 ((some .int)) N X 0 [] [(0, .ref k), (1, .int i)] w
  refine r_iload_n dX6_get_0 rfl 1 rfl ?_
  refine r_if_lt dX6_get_1 rfl (fun h1 => ?_) (fun h1 => ?_)
  · replace h := if_f (inb_no rfl hn (Or.inl h1)) h
    refine r_iconst dX6_get_16 (show Int32.ofInt 0 = 0 by decide) ?_
    exact rP_i rfl dX6_get_17 h hN
  refine r_iload_n dX6_get_4 rfl 1 rfl ?_
  refine r_aload_n dX6_get_5 rfl 0 rfl ?_
  refine r_alen hA rfl dX6_get_6 ?_
  refine r_icmp_ge dX6_get_7 rfl (fun h2 => ?_) (fun h2 => ?_)
  · replace h := if_f (inb_no rfl hn (Or.inr h2)) h
    refine r_iconst dX6_get_16 (show Int32.ofInt 0 = 0 by decide) ?_
    exact rP_i rfl dX6_get_17 h hN
  have hb := inb_of rfl hn h1 h2
  replace h := if_t hb h
  refine r_aload_n dX6_get_10 rfl 0 rfl ?_
  refine r_iload_n dX6_get_11 rfl 1 rfl ?_
  refine r_iald hA (inb_in hb) dX6_get_12 ?_
  refine r_goto dX6_get_13 rfl ?_
  exact rP_i rfl dX6_get_17 h hN
theorem dX6_get__0 : decode cX6_get_ 0 = .ok (.iload_n 1, 1) := by decide +kernel
theorem dX6_get__1 : decode cX6_get_ 1 = .ok (.ifCond .lt 15, 3) := by decide +kernel
theorem dX6_get__4 : decode cX6_get_ 4 = .ok (.iload_n 1, 1) := by decide +kernel
theorem dX6_get__5 : decode cX6_get_ 5 = .ok (.aload_n 0, 1) := by decide +kernel
theorem dX6_get__6 : decode cX6_get_ 6 = .ok (.arraylength, 1) := by decide +kernel
theorem dX6_get__7 : decode cX6_get_ 7 = .ok (.if_icmp .ge 9, 3) := by decide +kernel
theorem dX6_get__10 : decode cX6_get_ 10 = .ok (.aload_n 0, 1) := by decide +kernel
theorem dX6_get__11 : decode cX6_get_ 11 = .ok (.iload_n 1, 1) := by decide +kernel
theorem dX6_get__12 : decode cX6_get_ 12 = .ok (.laload, 1) := by decide +kernel
theorem dX6_get__13 : decode cX6_get_ 13 = .ok (.goto 4, 3) := by decide +kernel
theorem dX6_get__16 : decode cX6_get_ 16 = .ok (.lconst 0, 1) := by decide +kernel
theorem dX6_get__17 : decode cX6_get_ 17 = .ok (.lreturn, 1) := by decide +kernel
theorem mX6_get_ {Γ : Gm} {l : Launch} {N : Option Value → Wd → Prop} {X : String → Wd → Prop} {k n : Nat} {i : Int32} {w : Wd} {x : Int64} (hA : AR Γ k 1 n .long) (hn : n < 2147483648) (h : rgl w k n i = x) (hN : N (some (.long x)) w) : Ct Γ l 0 yX6_get_ cX6_get_ 2 ((some .long)) [.ref k, .int i] w N X := by
  refine Ct.of (by decide) (Nat.le_of_ble_eq_true rfl) ?_
  unfold rgl at h
  show RT Γ l 0 yX6_get_ cX6_get_ 2 ((some .long)) N X 0 [] [(0, .ref k), (1, .int i)] w
  refine r_iload_n dX6_get__0 rfl 1 rfl ?_
  refine r_if_lt dX6_get__1 rfl (fun h1 => ?_) (fun h1 => ?_)
  · replace h := if_f (inb_no rfl hn (Or.inl h1)) h
    refine r_lconst dX6_get__16 (show Int64.ofNat ((0 : Fin 2) : Nat) = 0 by decide) ?_
    exact rP_l rfl dX6_get__17 h hN
  refine r_iload_n dX6_get__4 rfl 1 rfl ?_
  refine r_aload_n dX6_get__5 rfl 0 rfl ?_
  refine r_alen hA rfl dX6_get__6 ?_
  refine r_icmp_ge dX6_get__7 rfl (fun h2 => ?_) (fun h2 => ?_)
  · replace h := if_f (inb_no rfl hn (Or.inr h2)) h
    refine r_lconst dX6_get__16 (show Int64.ofNat ((0 : Fin 2) : Nat) = 0 by decide) ?_
    exact rP_l rfl dX6_get__17 h hN
  have hb := inb_of rfl hn h1 h2
  replace h := if_t hb h
  refine r_aload_n dX6_get__10 rfl 0 rfl ?_
  refine r_iload_n dX6_get__11 rfl 1 rfl ?_
  refine r_lald hA (inb_in hb) dX6_get__12 ?_
  refine r_goto dX6_get__13 rfl ?_
  exact rP_l rfl dX6_get__17 h hN
theorem dX6_set_0 : decode cX6_set 0 = .ok (.iload_n 1, 1) := by decide +kernel
theorem dX6_set_1 : decode cX6_set 1 = .ok (.ifCond .lt 13, 3) := by decide +kernel
theorem dX6_set_4 : decode cX6_set 4 = .ok (.iload_n 1, 1) := by decide +kernel
theorem dX6_set_5 : decode cX6_set 5 = .ok (.aload_n 0, 1) := by decide +kernel
theorem dX6_set_6 : decode cX6_set 6 = .ok (.arraylength, 1) := by decide +kernel
theorem dX6_set_7 : decode cX6_set 7 = .ok (.if_icmp .ge 7, 3) := by decide +kernel
theorem dX6_set_10 : decode cX6_set 10 = .ok (.aload_n 0, 1) := by decide +kernel
theorem dX6_set_11 : decode cX6_set 11 = .ok (.iload_n 1, 1) := by decide +kernel
theorem dX6_set_12 : decode cX6_set 12 = .ok (.iload_n 2, 1) := by decide +kernel
theorem dX6_set_13 : decode cX6_set 13 = .ok (.iastore, 1) := by decide +kernel
theorem dX6_set_14 : decode cX6_set 14 = .ok (.return_, 1) := by decide +kernel
theorem mX6_set {Γ : Gm} {l : Launch} {N : Option Value → Wd → Prop} {X : String → Wd → Prop} {k n : Nat} {i : Int32} {v : Int32} {w u : Wd} (hA : AR Γ k 0 n .int) (hn : n < 2147483648) (h : rsi w k n i v = u) (hN : N none u) : Ct Γ l 0 yX6_set cX6_set 3 (none) [.ref k, .int i, .int v] w N X := by
  refine Ct.of (by decide) (Nat.le_of_ble_eq_true rfl) ?_
  unfold rsi at h
  show RT Γ l 0 yX6_set cX6_set 3 (none) N X 0 [] [(0, .ref k), (1, .int i), (2, .int v)] w
  refine r_iload_n dX6_set_0 rfl 1 rfl ?_
  refine r_if_lt dX6_set_1 rfl (fun h1 => ?_) (fun h1 => ?_)
  · replace h := if_f (inb_no rfl hn (Or.inl h1)) h
    exact rS_v rfl dX6_set_14 h hN
  refine r_iload_n dX6_set_4 rfl 1 rfl ?_
  refine r_aload_n dX6_set_5 rfl 0 rfl ?_
  refine r_alen hA rfl dX6_set_6 ?_
  refine r_icmp_ge dX6_set_7 rfl (fun h2 => ?_) (fun h2 => ?_)
  · replace h := if_f (inb_no rfl hn (Or.inr h2)) h
    exact rS_v rfl dX6_set_14 h hN
  have hb := inb_of rfl hn h1 h2
  replace h := if_t hb h
  refine r_aload_n dX6_set_10 rfl 0 rfl ?_
  refine r_iload_n dX6_set_11 rfl 1 rfl ?_
  refine r_iload_n dX6_set_12 rfl 2 rfl ?_
  refine r_iast hA (inb_in hb) dX6_set_13 ?_
  exact rS_v rfl dX6_set_14 h hN
theorem dX6_set__0 : decode cX6_set_ 0 = .ok (.iload_n 1, 1) := by decide +kernel
theorem dX6_set__1 : decode cX6_set_ 1 = .ok (.ifCond .lt 13, 3) := by decide +kernel
theorem dX6_set__4 : decode cX6_set_ 4 = .ok (.iload_n 1, 1) := by decide +kernel
theorem dX6_set__5 : decode cX6_set_ 5 = .ok (.aload_n 0, 1) := by decide +kernel
theorem dX6_set__6 : decode cX6_set_ 6 = .ok (.arraylength, 1) := by decide +kernel
theorem dX6_set__7 : decode cX6_set_ 7 = .ok (.if_icmp .ge 7, 3) := by decide +kernel
theorem dX6_set__10 : decode cX6_set_ 10 = .ok (.aload_n 0, 1) := by decide +kernel
theorem dX6_set__11 : decode cX6_set_ 11 = .ok (.iload_n 1, 1) := by decide +kernel
theorem dX6_set__12 : decode cX6_set_ 12 = .ok (.lload_n 2, 1) := by decide +kernel
theorem dX6_set__13 : decode cX6_set_ 13 = .ok (.lastore, 1) := by decide +kernel
theorem dX6_set__14 : decode cX6_set_ 14 = .ok (.return_, 1) := by decide +kernel
theorem mX6_set_ {Γ : Gm} {l : Launch} {N : Option Value → Wd → Prop} {X : String → Wd → Prop} {k n : Nat} {i : Int32} {v : Int64} {w u : Wd} (hA : AR Γ k 1 n .long) (hn : n < 2147483648) (h : rsl w k n i v = u) (hN : N none u) : Ct Γ l 0 yX6_set_ cX6_set_ 4 (none) [.ref k, .int i, .long v] w N X := by
  refine Ct.of (by decide) (Nat.le_of_ble_eq_true rfl) ?_
  unfold rsl at h
  show RT Γ l 0 yX6_set_ cX6_set_ 4 (none) N X 0 [] [(0, .ref k), (1, .int i), (2, .long v)] w
  refine r_iload_n dX6_set__0 rfl 1 rfl ?_
  refine r_if_lt dX6_set__1 rfl (fun h1 => ?_) (fun h1 => ?_)
  · replace h := if_f (inb_no rfl hn (Or.inl h1)) h
    exact rS_v rfl dX6_set__14 h hN
  refine r_iload_n dX6_set__4 rfl 1 rfl ?_
  refine r_aload_n dX6_set__5 rfl 0 rfl ?_
  refine r_alen hA rfl dX6_set__6 ?_
  refine r_icmp_ge dX6_set__7 rfl (fun h2 => ?_) (fun h2 => ?_)
  · replace h := if_f (inb_no rfl hn (Or.inr h2)) h
    exact rS_v rfl dX6_set__14 h hN
  have hb := inb_of rfl hn h1 h2
  replace h := if_t hb h
  refine r_aload_n dX6_set__10 rfl 0 rfl ?_
  refine r_iload_n dX6_set__11 rfl 1 rfl ?_
  refine r_lload_n dX6_set__12 rfl 2 rfl ?_
  refine r_last hA (inb_in hb) dX6_set__13 ?_
  exact rS_v rfl dX6_set__14 h hN
