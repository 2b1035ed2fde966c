/-! THE LAW'S HELPERS: the class's side with the cell of the law's answer behind it; a call that may throw, caught -/
def dsH : Nat → Ds := fun k => if k = 57 then .inr (1, 1) else dsA k
def GH (q : Gq) : Gm := (q.1, q.2.1, q.2.2.1, 58, dsH, clA, [.int, .long], q.2.2.2)
theorem aH57 {q : Gq} : AR (GH q) 57 1 1 .long := ⟨Nat.le_of_ble_eq_true rfl, rfl, rfl⟩
theorem oH0 {q : Gq} : OB (GH q) 0 0 RX11 TX11 7 [some 1, some 2, some 48, none, none, none, none] := ⟨Nat.le_of_ble_eq_true rfl, rfl, rfl, rfl⟩
/-- the class's places of the one, the answer's place of the other -/
def mrg (u w : Wd) : Wd := (fun a b => if a = 57 then w.1 a b else u.1 a b, fun a b => if a = 57 then w.2 a b else u.2 a b)
theorem gdsH {q : Gq} {k : Nat} (h : k < 57) : gds (GH q) k = gds (GA q) k := by
  show (if k = 57 then _ else dsA k) = dsA k
  rw [if_neg (by omega)]
theorem ceH {q : Gq} {w : Wd} {k : Nat} (h : k < 57) : ceOf (GH q) w k = ceOf (GA q) w k := by
  unfold ceOf
  rw [gdsH h]
  rfl
theorem ceM {q : Gq} {u w : Wd} {k : Nat} (h : k < 57) : ceOf (GA q) (mrg u w) k = ceOf (GA q) u k := by
  have h1 : gi (mrg u w) k = gi u k := by
    funext j
    show (if k = 57 then _ else u.1 k j) = u.1 k j
    rw [if_neg (by omega)]
  have h2 : gl (mrg u w) k = gl u k := by
    funext j
    show (if k = 57 then _ else u.2 k j) = u.2 k j
    rw [if_neg (by omega)]
  unfold ceOf
  cases gds (GA q) k with
  | inr z =>
    dsimp only
    rw [h1, h2]
  | inl z =>
    dsimp only
    congr 2
    apply List.ext_getElem?
    intro j
    rw [List.getElem?_mapIdx, List.getElem?_mapIdx]
    cases z.2[j]? with
    | none => rfl
    | some f =>
      cases f with
      | none => show some (Value.int (gi (mrg u w) k j)) = some (Value.int (gi u k j)); rw [h1]
      | some t => rfl
theorem ce57 {q : Gq} {u w : Wd} : ceOf (GH q) (mrg u w) 57 = ceOf (GH q) w 57 := by
  show Sum.inl (q.2.1 1, 1, Sum.inr (Sum.inl (gl (mrg u w) 57))) = Sum.inl (q.2.1 1, 1, Sum.inr (Sum.inl (gl w 57)))
  have h2 : gl (mrg u w) 57 = gl w 57 := by
    funext j
    show (if 57 = 57 then w.2 57 j else u.2 57 j) = w.2 57 j
    rw [if_pos rfl]
  rw [h2]
/-- the one world out of the other -/
theorem hA_P {q : Gq} {w : Wd} {H : Heap} (h : va_P (gD (GH q)) (gcl (GH q)) (wl (GH q) w) H) : va_P (gD (GA q)) (gcl (GA q)) (wl (GA q) w) H := by
  intro k x hx
  obtain ⟨hk, rfl⟩ := wl_inv hx
  have hk : k < 57 := hk
  have := h k (gad (GH q) k, ceOf (GH q) w k) (wl_at (Γ := GH q) (show k < 58 by omega))
  rw [ceH hk] at this
  exact this
theorem hA_G {q : Gq} (h : GOK (GH q)) : GOK (GA q) := by
  refine ⟨fun i j hi hj e => ?_, h.2.1, fun U H H1 hz hk hE => h.2.2 U H H1 hz (fun a ha hn => hk a ha (fun z => hn ?_)) hE⟩
  · have hi : i < 57 := hi
    have hj : j < 57 := hj
    exact h.1 i j (show i < 58 by omega) (show j < 58 by omega) e
  · obtain ⟨k, hk9, e⟩ := z
    have hk9 : k < 57 := hk9
    exact ⟨k, show k < 58 by omega, e⟩
theorem hA_w {q : Gq} {z : Nat} (h : gAw (GA q) z) : gAw (GH q) z := by
  obtain ⟨k, hk9, e⟩ := h
  have hk9 : k < 57 := hk9
  exact ⟨k, show k < 58 by omega, e⟩
/-- behind a call on the class's side: the answer's cell is as it was -/
theorem hA_back {q : Gq} {u w : Wd} {H H1 : Heap} (hG : GOK (GH q)) (hP : va_P (gD (GH q)) (gcl (GH q)) (wl (GH q) w) H) (hu : va_P (gD (GA q)) (gcl (GA q)) (wl (GA q) u) H1) (hk : ∀ z : Nat, z < H.size → ¬ gAw (GA q) z → H1[z]? = H[z]?) : va_P (gD (GH q)) (gcl (GH q)) (wl (GH q) (mrg u w)) H1 := by
  intro k x hx
  obtain ⟨hk9, rfl⟩ := wl_inv hx
  have hk9 : k < 58 := hk9
  by_cases h : k = 57
  · subst h
    have h1 := hP 57 (gad (GH q) 57, ceOf (GH q) w 57) (wl_at (Γ := GH q) (show 57 < 58 by omega))
    rw [ce57]
    refine h1.kept (hk _ ?_ (fun z => ?_))
    · exact va_at.lt h1
    · obtain ⟨j, hj, e⟩ := z
      have hj : j < 57 := hj
      have := hG.1 57 j (show 57 < 58 by omega) (show j < 58 by omega) e
      omega
  · have hk8 : k < 57 := by omega
    have h1 := hu k (gad (GA q) k, ceOf (GA q) u k) (wl_at (Γ := GA q) hk8)
    rw [ceH hk8, ceM hk8]
    exact h1
def RJ (q : Gq) (l : Launch) (d : Nat) (y : MethodName) (cc : ByteArray) (nL : Nat) (hh : List (Nat × Nat × Nat × Nat)) (N : Option Value → Wd → Prop) (kc ks : Nat) (pc : Nat) (stk : List Value) (loc : List (Nat × Value)) (w : Wd) : Prop :=
  ∀ (p : Program) (e : Env) (s : State) (m : MethodId) (args : Array Value) (below : List Frame) (meth : Method) (c : Code) (H : Heap) (locs : List Loc) (ls : Array Slot), CxH (GH q) y cc nL (some .int) hh p s m args meth c → va_P (gD (GH q)) (gcl (GH q)) (wl (GH q) w) H → va_S (gAw (GH q)) s.heap H locs → lv_has ls nL (loc.map (trp (GH q))) →
    W p l e (rmC d 1 6) s m args below meth c H locs kc ks (vx_MQ below (Qn (GH q) N) (Xn (GH q) (fun _ _ => False)) args s 1 6 (gAw (GH q))) (F0 m pc ls (stk.map (tr (GH q))))
def CtJ (q : Gq) (l : Launch) (d : Nat) (y : MethodName) (cc : ByteArray) (nL : Nat) (hh : List (Nat × Nat × Nat × Nat)) (av : List Value) (w : Wd) (N : Option Value → Wd → Prop) : Prop :=
  vx_Met l y (Cond.codeWith y cc nL (some .int) hh :: TB) (rmC d 1 6) (Pn (GH q) av w) (Qn (GH q) N) (Xn (GH q) (fun _ _ => False)) 1 6 (gAw (GH q))
section RJR
variable {q : Gq} {l : Launch} {d : Nat} {y : MethodName} {cc : ByteArray} {nL : Nat} {hh : List (Nat × Nat × Nat × Nat)} {N : Option Value → Wd → Prop} {kc ks : Nat} {pc : Nat} {rest : List Value} {loc : List (Nat × Value)} {w : Wd}
theorem CtJ.of {av : List Value} (hy : plainName y.cls = true) (hn : (lg_sl av).length ≤ nL) (h : RJ q l d y cc nL hh N 0 0 0 [] (lv_args 0 av) w) : CtJ q l d y cc nL hh av w N := by
  refine vx_ofWH (cc := cc) (maxL := nL) (ret := some .int) hy rfl ?_
  intro p e s m args below meth c s₁ B hml hp
  obtain ⟨rfl, hP, hK, hE, hG⟩ := hp
  have hts := atoms_spec (ws := Cond.codeWith y cc nL (some .int) hh :: TB) B.pre
  have htb := vx_table (x := y) B (hts _ List.mem_cons_self)
  have hown : s.vm.findClass y.cls = some m.cls := findClass_of_methodNamed B.named
  have hl := lv_entry (av.map (tr (GH q))) (n := nL) (by rw [lg_sl_tr]; exact hn)
  rw [lg_entry_eq]
  rw [lv_args_tr] at hl
  exact h p e s m _ below meth c s.heap [] _ ⟨B.exec, B.bytes, B.returns, hml, hown, fun w hw => hts w (List.mem_cons_of_mem _ hw), B.notSynchronized, htb, hK, hE, hG⟩ hP va_S.rf hl
theorem j_iconst {n : Int} {v : Int32} (hdg : decode cc pc = .ok (.iconst n, 1)) (hv : Int32.ofInt n = v) (k : RJ q l d y cc nL hh N kc ks (pc + 1) (.int v :: rest) loc w) : RJ q l d y cc nL hh N kc ks pc rest loc w := by
  intro p e s m args below meth c H locs ls hC hP hS hl
  obtain ⟨hx, hb, hr, hml, hown, hts, hlk, het, hK, hE, hG⟩ := id hC
  exact lv_iconst hx hb hdg hv (k p e s m args below meth c H locs ls hC hP hS hl)
theorem j_iload_n {k0 : Fin 4} {i : Nat} {x : Int32} (hdg : decode cc pc = .ok (.iload_n k0, 1)) (hi : (k0 : Nat) = i) (q9 : Nat) (hq : loc[q9]? = some (i, .int x)) (k : RJ q l d y cc nL hh N kc ks (pc + 1) (.int x :: rest) loc w) : RJ q l d y cc nL hh N kc ks pc rest loc w := by
  intro p e s m args below meth c H locs ls hC hP hS hl
  obtain ⟨hx, hb, hr, hml, hown, hts, hlk, het, hK, hE, hG⟩ := id hC
  exact lv_iload_n hx hb hdg hi (lv_at hl q9 (by rw [List.getElem?_map, hq]; rfl)) (k p e s m args below meth c H locs ls hC hP hS hl)
theorem j_iload {i : Nat} {x : Int32} (hdg : decode cc pc = .ok (.iload i, 2)) (q9 : Nat) (hq : loc[q9]? = some (i, .int x)) (k : RJ q l d y cc nL hh N kc ks (pc + 2) (.int x :: rest) loc w) : RJ q l d y cc nL hh N kc ks pc rest loc w := by
  intro p e s m args below meth c H locs ls hC hP hS hl
  obtain ⟨hx, hb, hr, hml, hown, hts, hlk, het, hK, hE, hG⟩ := id hC
  exact lv_iload hx hb hdg (lv_at hl q9 (by rw [List.getElem?_map, hq]; rfl)) (k p e s m args below meth c H locs ls hC hP hS hl)
theorem j_aload_n {k0 : Fin 4} {i : Nat} {x : Nat} (hdg : decode cc pc = .ok (.aload_n k0, 1)) (hi : (k0 : Nat) = i) (q9 : Nat) (hq : loc[q9]? = some (i, .ref x)) (k : RJ q l d y cc nL hh N kc ks (pc + 1) (.ref x :: rest) loc w) : RJ q l d y cc nL hh N kc ks pc rest loc w := by
  intro p e s m args below meth c H locs ls hC hP hS hl
  obtain ⟨hx, hb, hr, hml, hown, hts, hlk, het, hK, hE, hG⟩ := id hC
  exact lv_aload_n hx hb hdg hi (lv_at hl q9 (by rw [List.getElem?_map, hq]; rfl)) (k p e s m args below meth c H locs ls hC hP hS hl)
theorem j_aload {i : Nat} {x : Nat} (hdg : decode cc pc = .ok (.aload i, 2)) (q9 : Nat) (hq : loc[q9]? = some (i, .ref x)) (k : RJ q l d y cc nL hh N kc ks (pc + 2) (.ref x :: rest) loc w) : RJ q l d y cc nL hh N kc ks pc rest loc w := by
  intro p e s m args below meth c H locs ls hC hP hS hl
  obtain ⟨hx, hb, hr, hml, hown, hts, hlk, het, hK, hE, hG⟩ := id hC
  exact lv_aload hx hb hdg (lv_at hl q9 (by rw [List.getElem?_map, hq]; rfl)) (k p e s m args below meth c H locs ls hC hP hS hl)
theorem j_i2l {x : Int32} (hdg : decode cc pc = .ok (.i2l, 1))  (k : RJ q l d y cc nL hh N kc ks (pc + 1) (.long x.toInt64 :: rest) loc w) : RJ q l d y cc nL hh N kc ks pc (.int x :: rest) loc w := by
  intro p e s m args below meth c H locs ls hC hP hS hl
  obtain ⟨hx, hb, hr, hml, hown, hts, hlk, het, hK, hE, hG⟩ := id hC
  exact lv_i2l hx hb hdg rfl (k p e s m args below meth c H locs ls hC hP hS hl)
theorem j_last {k n : Nat} {i : Int32} {x : Int64} (hA : AR (GH q) k 1 n .long) (hin : vp_in i n) (hdg : decode cc pc = .ok (.lastore, 1)) (kk : RJ q l d y cc nL hh N kc ks (pc + 1) rest loc (sl w k i.toNatClampNeg x)) : RJ q l d y cc nL hh N kc ks pc (.long x :: .int i :: .ref k :: rest) loc w := by
  intro p e s m args below meth c H locs ls hC hP hS hl
  obtain ⟨hx, hb, hr, hml, hown, hts, hlk, het, hK, hE, hG⟩ := id hC
  refine va_last hx hb hK hP (wl_D hG w) hS k 1 hA.atL (gty_at hA.2.2) hin hdg (fun H1 locs1 hP1 hD1 hS1 => ?_)
  rw [wl_setL hA] at hP1
  exact kk p e s m args below meth c H1 locs1 ls hC hP1 hS1 hl
theorem j_goto {off : Int} {tgt : Nat} (hdg : decode cc pc = .ok (.goto off, 3)) (ht : (pc : Int) + off = (tgt : Int)) (k : RJ q l d y cc nL hh N kc ks tgt rest loc w) : RJ q l d y cc nL hh N kc ks pc rest loc w := by
  intro p e s m args below meth c H locs ls hC hP hS hl
  obtain ⟨hx, hb, hr, hml, hown, hts, hlk, het, hK, hE, hG⟩ := id hC
  exact lv_goto hx hb hdg ht (k p e s m args below meth c H locs ls hC hP hS hl)
theorem j_ireturn {x : Int32} (hc : kc ≤ 1 ∧ ks ≤ 6) (hdg : decode cc pc = .ok (.ireturn, 1)) (hN : N (some (.int x)) w) : RJ q l d y cc nL hh N kc ks pc [.int x] loc w := by
  intro p e s m args below meth c H locs ls hC hP hS hl
  obtain ⟨hx, hb, hr, hml, hown, hts, hlk, het, hK, hE, hG⟩ := id hC
  exact vx_ret (W.widen hc.1 hc.2 (W.iret hx hb hr (fun t ht hW => ⟨⟨some (.int x), w, rfl, hN, by rw [ht]; exact hP⟩, hS.F ht⟩) hS.2.2 hdg hlk))
/-- a call on the class's side that may throw; the table's row x takes what is thrown (the rows ahead don't), its handler begins with the store of the exception -/
theorem j_callA {d' nL' n k index : Nat} {y' : MethodName} {cc' : ByteArray} {ret' : Option FieldType} {av stk : List Value} {N9 : Option Value → Wd → Prop} {X9 : String → Wd → Prop} (hkc : kc = 0 ∧ ks = 0) (hY : CY y' cc' nL' ret' n) {ci Nf : Nat} {C : String} {Tc : u_T} {fs : List (Option Nat)} (hO : OB (GH q) k ci C Tc Nf fs) (hC9 : y'.cls = C) (h1 : Cond.methodLink y.cls index y' ∈ TB) (h2 : Cond.instanceMethod y' ∈ TB) (h3 : Cond.selects C y' y' ∈ TB) (hd : d' + 1 ≤ d ∧ nL' ≤ 26) (hn : av.length = n) (hstk : stk = av.reverse ++ .ref k :: rest) (hroom : (rest.map fun v => v.category).sum ≤ 8) (hdg : decode cc pc = .ok (.invokevirtual index, 3))
    (hM : CtX (GA q) l d' y' cc' nL' ret' (.ref k :: av) w N9 X9)
    (kk : ∀ v u, N9 v u → RJ q l d y cc nL hh N 1 6 (pc + 3) (v.toList ++ rest) loc (mrg u w))
    (kx : ∀ E u, X9 E u → ∃ (pre : List ExceptionTableEntry) (x : ExceptionTableEntry) (suf : List ExceptionTableEntry) (ct i : Nat) (dl : Nat), tableOf hh = pre ++ x :: suf ∧ (∀ (s : State) (args : Array Value), (∀ w ∈ TB, w.before args s = true) → gE (GH q) s s.heap → ∀ z ∈ pre, covers z pc = false ∨ (z.catchType ≠ 0 ∧ ∃ nm : String, (Cond.classLink y.cls z.catchType nm).before args s = true ∧ va_Nc E nm s)) ∧ covers x pc = true ∧ x.catchType = ct ∧ ct ≠ 0 ∧ Cond.classLink y.cls ct E ∈ TB ∧ (∀ (s : State) (args : Array Value), gE (GH q) s s.heap → (Cond.castable E E).before args s = true) ∧
      i < nL ∧ (∀ (p : Program) (e : Env) (R : Room) (s : State) (m : MethodId) (args : Array Value) (below : List Frame) (meth : Method) (c : Code) (H : Heap) (locs : List Loc) (cells slots : Nat) (Q : State → Prop) (ls : Array Slot) (a : Nat), p.tables.exec = Jvm.exec → c.code = cc → lv_has ls nL [] → (∀ ls', lv_has ls' nL [] → W p l e R s m args below meth c H locs cells slots Q (F0 m (x.handlerPc + dl) ls' [])) → W p l e R s m args below meth c H locs cells slots Q (F0 m x.handlerPc ls [.ref a])) ∧ RJ q l d y cc nL hh N 1 6 (x.handlerPc + dl) [] [] (mrg u w)) : RJ q l d y cc nL hh N kc ks pc stk loc w := by
  intro p e s m args below meth c H locs ls hC hP hS hl
  obtain ⟨hx, hb, hr, hml, hown, hts, hlk, het, hK, hE, hG⟩ := id hC
  obtain ⟨rfl, rfl⟩ := hkc
  have hGA := hA_G hG
  have hPA := hA_P hP
  have hGI : GoodIn TB (wsV y.cls index C y' (Cond.code y' cc' nL' ret' :: TB)) := by
    intro w hw
    unfold wsV at hw
    simp only [List.mem_append, List.mem_cons, List.not_mem_nil, or_false] at hw
    rcases hw with (rfl | rfl | rfl | rfl) | rfl | hw
    · exact goodTB h1
    · exact goodTB h2
    · exact goodTB h3
    · rw [← hC9]; exact goodTB hY.2.1
    · exact goodTB hY.1
    · exact goodTB hw
  have cw : CallW (rmC d 1 6) s args y.cls C index y' cc' nL' ret' (Cond.code y' cc' nL' ret' :: TB) (rmC d' 1 6) 1 6 n := cwV n hts hGI rfl rfl rfl ⟨hC9, hY.2.2.1, hY.2.2.2.1, hY.2.2.2.2⟩ ⟨hd.1, by show 8 + (nL' + 11) + 45 * d' ≤ 45 * d; omega⟩
  have hcat : ((rest.map (tr (GH q))).map fun v => v.category).sum ≤ 8 := by
    rw [List.map_map, show ((fun v => Value.category v) ∘ tr (GH q)) = (fun v => Value.category v) from funext fun v => tr_cat (GH q) v]
    exact hroom
  have hst : stk.map (tr (GH q)) = (av.map (tr (GH q))).reverse ++ .ref (gad (GH q) k) :: rest.map (tr (GH q)) := by
    rw [hstk]
    show List.map (tr (GH q)) (av.reverse ++ .ref k :: rest) = _
    simp [tr]
  have hEA : gE (GA q) s H := hG.2.2 s s.heap H hS.1 hS.2.1 hE
  intro T hT Y
  rcases vx_runV (As := av.map (tr (GH q))) (b := gad (GH q) k) (rest := rest.map (tr (GH q))) (g := F0 m pc ls (stk.map (tr (GH q)))) ⟨hx, hb, hml, hown, hts⟩ hM cw ⟨pn_blind (GA q) _ _, va_recv hK hP hO.2.2.1 hO.at, fun U hU hW => ⟨rfl, by rw [hU]; exact hPA, va_K.moved hW.alike hK, by rw [hU]; exact hG.2.1 s U _ hW hEA, hGA⟩⟩ rfl (by rw [List.length_map]; exact hn) hl.1 hst (lv_room hcat) hdg ⟨Nat.le_refl _, Nat.le_refl _⟩ T hT Y with ⟨v, st₀, t, T', L, h0, X', hL, e1, e2, ⟨⟨v', u, hv, hu, hPu⟩, hFr⟩, st⟩ | ⟨q9, st₀, t, T', L, E9, ce, h0, X', hL, e1, e2, ⟨⟨u, hu, hPu⟩, hFr⟩, hce, hcv, hcl, st⟩
  · obtain rfl := Outcome.returned.inj hv
    obtain ⟨k1, k2, k3⟩ := vx_keep h0 e1 hS (fun z _ h => hA_w h) (fun z h => hA_w h) hL hFr
    have hP9 : va_P (gD (GH q)) (gcl (GH q)) (wl (GH q) (mrg u w)) T'.heap := hA_back hG hP (by rw [e1]; exact hPu) k2
    have hk := kk v' u hu p e s m args below meth c T'.heap (locs ++ L) ls hC hP9 k3 hl
    obtain ⟨t2, a1, b1⟩ := hk T' rfl X'
    refine ⟨t2, st t2 ?_, b1⟩
    cases v' <;> exact a1
  · obtain ⟨k1, k2, k3⟩ := vx_keep h0 e1 hS (fun z _ h => hA_w h) (fun z h => hA_w h) hL hFr
    have hP9 : va_P (gD (GH q)) (gcl (GH q)) (wl (GH q) (mrg u w)) T'.heap := hA_back hG hP (by rw [e1]; exact hPu) k2
    obtain ⟨pre, x, suf, ct, i, dl, f1, f2, f3, f4, f5, f6, f7, f8, f9, f10⟩ := kx E9 u hu
    have hgo : W p l e (rmC d 1 6) s m args below meth c T'.heap (locs ++ L) 1 6 (vx_MQ below (Qn (GH q) N) (Xn (GH q) (fun _ _ => False)) args s 1 6 (gAw (GH q))) (F0 m x.handlerPc ls [.ref q9]) := f9 p e _ s m args below meth c _ _ _ _ _ ls q9 hx hb (lv_sub hl [] rfl) (fun ls' hl9 => f10 p e s m args below meth c T'.heap (locs ++ L) ls' hC hP9 k3 hl9)
    have hcatch := vx_catch (E := E9) (name := E9) (pc := pc) (rest := rest.map (tr (GH q))) hown pre x suf (by rw [het, f1]) (f2 s args hts hE) f3 (by rw [f4]; exact f5) (by rw [f4]; exact hts _ f6) (f7 s args hE) (by rw [e1]; exact hce) hcv hcl hgo
    obtain ⟨t2, a1, b1⟩ := hcatch T' rfl X'
    exact ⟨t2, st.trans a1, b1⟩
end RJR
