/-! AN EXCEPTION THAT IS MADE AND KEPT: new; dup; invokespecial, and it goes on -/
section EXK
variable {p : Program} {l : Launch} {e : Env} {R : Room} {s : State} {m : MethodId} {args : Array Value} {below : List Frame} {meth : Method} {c : Code} {H : Heap} {locs : List Loc} {cells slots : Nat} {ls : Array Slot} {rest : List Value} {Q : State → Prop}
set_option maxHeartbeats 4000000 in
/-- behind 'new; dup' of a throwable's class: its maker without arguments, in a frame just begun -/
theorem vx_made0 {W9 : State} (X : Stand p l e R s m args below meth c W9 [] cells slots) (hexec : p.tables.exec = Jvm.exec) (htr : e.platform.stackTraces = false) {own cls : String} {names : List String} {ic : Nat}
    (hown : s.vm.findClass own = some m.cls) (hcls : Bundle.fit cls = true) (hnames : ∀ n ∈ names, Bundle.fit n = true) (h : ∀ a ∈ Bundle.ownAtoms0 own ic cls names, a.before args s = true)
    {a : Addr} {cX : ClassId} {kX : Class} (hfX : s.vm.findClass cls = some cX) (hkX : s.vm.classes[cX]? = some kX) (hcell : W9.heap[a]? = some (freshCell cX kX)) (hnew : s.heap.size ≤ a)
    {g : JFrame} (hg : g.method = m) (hsize : g.locals.size = c.maxLocals) (hst : g.stack = .ref a :: .ref a :: rest) (hd : decode c.code g.pc = .ok (.invokespecial ic, 3))
    (hRf : names.length + 3 < R.frames) (hRl : 2 * g.monitorRoom + ((Value.ref a :: rest).map fun v => v.category).sum + (13 * (names.length + 1) + 41) ≤ R.locals) :
    ∃ (S : State) (ce : Cell), Stand p l e R s m args below meth c S [] cells slots ∧ S.heap.size = W9.heap.size ∧ (∀ q, q ≠ a → S.heap[q]? = W9.heap[q]?) ∧ S.heap[a]? = some ce ∧ ce.vm = .none ∧ ce.cls = cX ∧
      ∀ t, Steps p.tables e below (S.setTop { g with stack := .ref a :: rest, pc := g.pc + 3 }) t → Steps p.tables e below (W9.setTop g) t := by
  have b1 : e.platform.frameOwnsMonitors = true := by rw [X.admits.platform]
  have b2 : e.platform.finalization = false := by rw [X.admits.platform]
  have b3 : e.platform.magicAccessors = ({} : Platform).magicAccessors := by rw [X.admits.platform]
  have a' : ∀ x, x ∈ Bundle.ownAtoms0 own ic cls names → x.holds args s none s [] = true := fun x hx => h x hx
  obtain ⟨T, Z, L, LZ, Y⟩ := ThrowableC.of_atoms (args := args) b1 b2 b3 (fun x hx => h x (by simp [Bundle.ownAtoms0, hx]))
  obtain ⟨P1, Ps, hlen, L1, hL, hP1, hk1, hk2⟩ := Bundle.chain0 (args := args) b3 Y.init0 names cls hcls hnames (fun x hx => h x (by simp [Bundle.ownAtoms0, hx]))
  have hf : s.vm.findClass cls = some P1.m.cls := findClass_of_methodNamed hP1
  cases Option.some.inj (hfX.symm.trans hf)
  obtain ⟨c1, k1, hc1, hk, hord, -, -, hn6⟩ := Cond.instantiable_spec (a' (.instantiable cls 6) (by simp [Bundle.ownAtoms0]))
  cases Option.some.inj (hc1.symm.trans hf)
  cases Option.some.inj (hkX.symm.trans hk)
  have hs0 : selectMethod e.platform s.vm P1.m.cls T.fill0 = .method T.fill0 := by
    obtain ⟨c2, r2, m2, q1, q2, q3, q4, -⟩ := Cond.selects_spec (a' (.selects cls Bundle.tFill0 Bundle.tFill0) (by simp [Bundle.ownAtoms0]))
    cases Option.some.inj (q1.symm.trans hf)
    cases Option.some.inj (q2.symm.trans (State.methodFound?_of_named Y.fill0 (by decide)))
    cases Option.some.inj (q3.symm.trans Y.fill0)
    rw [Launch.admits_selectMethod X.admits]; exact q4
  have hs1 : selectMethod e.platform s.vm P1.m.cls T.fill = .method T.fill := by
    obtain ⟨c2, r2, m2, q1, q2, q3, q4, -⟩ := Cond.selects_spec (a' (.selects cls Bundle.tFill Bundle.tFill) (by simp [Bundle.ownAtoms0]))
    cases Option.some.inj (q1.symm.trans hf)
    cases Option.some.inj (q2.symm.trans (State.methodFound?_of_named Y.fill (by decide)))
    cases Option.some.inj (q3.symm.trans Y.fill)
    rw [Launch.admits_selectMethod X.admits]; exact q4
  obtain ⟨cS0, hcS0, hiss⟩ := Y.statics
  obtain ⟨u0, hu0⟩ := Cond.staticRefV Y.unassigned L.unassignedStatic L.statics hcS0 hiss (a' (.isRef (.static Bundle.tN "UNASSIGNED_STACK" Bundle.steD)) (by simp [Bundle.ownAtoms0]))
  obtain ⟨sen, hsen⟩ := Cond.staticRefV Y.sentinel L.sentinelStatic L.statics hcS0 hiss (a' (.isRef (.static Bundle.tN "SUPPRESSED_SENTINEL" Bundle.listD)) (by simp [Bundle.ownAtoms0]))
  obtain ⟨ci9, i9, fB, hk9, hg9, ha9, hsB, -, hnB, htB, hffB⟩ := Cond.ownField (t := .object "java/lang/Object") Y.found L.cls (by decide +kernel) (a' (.fieldLink Bundle.tN 198 Bundle.tN "backtrace" "Ljava/lang/Object;") (by simp [Bundle.ownAtoms0])) (a' (.lays Bundle.tN Bundle.tN "backtrace" "Ljava/lang/Object;") (by simp [Bundle.ownAtoms0])) e.platform b3
  obtain ⟨cS, hcS, heS, -, hkeep⟩ := X.same.2.2.2.2.2 T.aS cS0 hcS0
  have hknown : cS.vm ≠ .unknown := by
    rw [heS]; intro hu
    rw [show cS0.vm = .unknown from hu] at hiss
    cases hiss
  have hne : T.aS ≠ a := Nat.ne_of_lt (Nat.lt_of_lt_of_le (Array.getElem?_eq_some_iff.mp hcS0).1 hnew)
  obtain ⟨tyC, dC, hdC, hdnC⟩ := Cond.laysAt hf hk Y.cause (a' (.lays cls Bundle.tN "cause" "Ljava/lang/Throwable;") (by simp [Bundle.ownAtoms0]))
  obtain ⟨tyS, dS, hdS, hdnS⟩ := Cond.laysAt hf hk Y.stack (a' (.lays cls Bundle.tN "stackTrace" Bundle.steD) (by simp [Bundle.ownAtoms0]))
  obtain ⟨tyP, dP, hdP, hdnP⟩ := Cond.laysAt hf hk Y.supp (a' (.lays cls Bundle.tN "suppressedExceptions" Bundle.listD) (by simp [Bundle.ownAtoms0]))
  obtain ⟨tyB, dB, hdB, hdnB⟩ := Cond.laysAt hf hk hffB (a' (.lays cls Bundle.tN "backtrace" "Ljava/lang/Object;") (by simp [Bundle.ownAtoms0]))
  have bC := Cond.laysApart hdB hdC hdnB hdnC (by rw [hnB, Y.causeName]; decide)
  have bS := Cond.laysApart hdB hdS hdnB hdnS (by rw [hnB, Y.stackName]; decide)
  have bP := Cond.laysApart hdB hdP hdnB hdnP (by rw [hnB, Y.suppName]; decide)
  have hskip : SkipFacts T e.platform s (fun u => u) u0 ((preparedCellV T.toThrowableT (freshCell P1.m.cls kX) a u0 sen).withEntry W9.cur) :=
    ⟨{ ci198 := ci9, i198 := i9, fBack := fB }, ⟨hk9, hg9, ha9, hsB⟩, by
      have := fresh_default (c := P1.m.cls) tyB
      rw [htB] at this
      simpa [preparedCellV, Cell.setSlot, Cell.withEntry, Array.getElem?_setIfInBounds, bC, bS, bP, bC.symm, bS.symm, bP.symm, defaultValue] using this, fun _ _ => rfl⟩
  obtain ⟨tm, methC, cdC, kC, vm1, hnC, -, -, -, -, -, -, -, hW1, st1⟩ := Steps.initCold (tb := p.tables) (e := e) (below := below) (s := s) (U := W9) X.here hexec X.warmed b3 hown (t := Bundle.init0 cls) rfl rfl (Bundle.fit_spec hcls).2
    (a' (.methodLink own ic (Bundle.init0 cls)) (by simp [Bundle.ownAtoms0])) (h (.instanceMethod (Bundle.init0 cls)) (by cases names <;> simp [Bundle.ownAtoms0, Bundle.chain0Atoms, Bundle.passAtoms])) (bytes := Bundle.five) (maxL := 1) (h (.code (Bundle.init0 cls) Bundle.five 1 none) (by cases names <;> simp [Bundle.ownAtoms0, Bundle.chain0Atoms, Bundle.passAtoms]))
    (f := g) hg (a := a) (rest := .ref a :: rest) hst hd
  cases Option.some.inj (hnC.symm.trans hP1)
  have X1 := X.noted hW1
  obtain ⟨vm2, X2, st2⟩ := X1.ctorPlainOffV hexec (g := { g with stack := .ref a :: rest }) hg hsize T L Z LZ (P1 :: Ps)
    (fun P hP => by rcases List.mem_cons.mp hP with rfl | hP; exact L1; exact hL P hP) ⟨hk1, hk2⟩ (u0 := u0) (sen := sen) (self := a) (cell := freshCell P1.m.cls kX) (cellS := cS)
    hcell (fun _ => by simp) (by simp) rfl rfl hs0 hs1 hcS hne hknown (by rw [hkeep _ (fun hm => nomatch hm)]; exact hu0) (by rw [hkeep _ (fun hm => nomatch hm)]; exact hsen)
    (Takes.of_laid hk hord tyC (by rw [Y.causeType]; rfl)) (Takes.of_laid hk hord tyS (by rw [Y.stackType]; exact fits_refV_array _ u0)) (Takes.of_laid hk hord tyP (by rw [Y.suppType]; exact fits_refV_object _ sen)) Y.objLocals hskip htr [] hd
    (by simp only [List.length_cons, hlen]; omega) (by simp only [List.length_cons, hlen]; exact hRl)
  have hlt : a < ((W9.setVm vm1).setVm vm2).heap.size := (Array.getElem?_eq_some_iff.mp hcell).1
  have hU := heapAt_setCell_self (s := (W9.setVm vm1).setVm vm2) ((preparedCellV T.toThrowableT (freshCell P1.m.cls kX) a u0 sen).setSlot T.fStack.slot u0.v) hlt
  have hX3 : Stand p l e R s m args below meth c (((W9.setVm vm1).setVm vm2).setCell a ((preparedCellV T.toThrowableT (freshCell P1.m.cls kX) a u0 sen).setSlot T.fStack.slot u0.v)) [] cells slots := by
    refine { X2 with same := X2.same.weaken (fun y hy hlt' => ?_) (Nat.le_refl _) (Nat.le_refl _) }
    exfalso
    have hb : y.base = a := by
      rw [List.nil_append] at hy
      simp only [List.mem_cons, List.not_mem_nil, or_false] at hy
      rcases hy with rfl | rfl | rfl | rfl <;> rfl
    rw [hb] at hlt'
    exact Nat.not_lt.mpr hnew hlt'
  refine ⟨_, _, hX3, ?_, fun q hq => heapAt_setCell_ne _ (Ne.symm hq), hU, rfl, rfl, fun t ht => st1 _ (fun acts => ?_)⟩
  · show (Array.setIfInBounds _ _ _).size = _
    rw [Array.size_setIfInBounds]
    rfl
  · rw [doInvoke_state]
    exact st2 _ ht
set_option maxHeartbeats 2000000 in
/-- 'new E()' that is kept: new; dup; invokespecial -/
theorem vx_keep0 {cc : ByteArray} {pc : Nat} (hexec : p.tables.exec = Jvm.exec) (hb : c.code = cc) (hl : l.stackTraces = false) {own cls : String} {names : List String} {ik ic : Nat} {A : Nat → Prop}
    (hown : s.vm.findClass own = some m.cls) (hcls : Bundle.fit cls = true) (hnames : ∀ n ∈ names, Bundle.fit n = true)
    (hk : (Cond.classLink own ik cls).before args s = true) (hini : (Cond.initialized cls).before args s = true) (hat : ∀ w ∈ vx_at0 own ic cls names, w.before args s = true)
    (hgood : ∀ w ∈ Cond.classLink own ik cls :: Cond.initialized cls :: vx_at0 own ic cls names, vx_ot w = true)
    (hU : vx_Zq Bundle.tN "UNASSIGNED_STACK" Bundle.steD A s s.heap) (hN : vx_Zq Bundle.tN "SUPPRESSED_SENTINEL" Bundle.listD A s s.heap) (hS : va_S A s.heap H locs) (hsize : ls.size = c.maxLocals)
    (d0 : decode cc pc = .ok (.new ik, 3)) (d3 : decode cc (pc + 3) = .ok (.dup, 1)) (d4 : decode cc (pc + 4) = .ok (.invokespecial ic, 3))
    (hRframes : names.length + 3 < R.frames) (hRlocals : (rest.map fun v => v.category).sum + (13 * (names.length + 1) + 42) ≤ R.locals) (hRcells : cells + 1 ≤ R.cells) (hRslots : slots + 6 ≤ R.slots)
    (k : ∀ (H1 : Heap) (ce : Cell), H1.size = H.size + 1 → (∀ q : Nat, q < H.size → H1[q]? = H[q]?) → H1[H.size]? = some ce → ce.vm = .none → s.vm.findClass cls = some ce.cls → W p l e R s m args below meth c H1 locs (cells + 1) (slots + 6) Q (F0 m (pc + 7) ls (.ref H.size :: rest))) :
    W p l e R s m args below meth c H locs cells slots Q (F0 m pc ls rest) := by
  intro T hT X
  have htr : e.platform.stackTraces = false := (show e.platform.stackTraces = l.stackTraces by rw [X.admits.platform]).trans hl
  have Y := vx_rebase X (R' := { frames := R.frames, locals := R.locals, cells := 1, slots := 6 }) (Nat.le_refl _) (Nat.le_refl _) hRcells hRslots
  have Y0 := Y
  obtain ⟨s', hA⟩ : ∃ z, z = (T.setVm s.vm).setFrames (.invoking m args :: below) := ⟨_, rfl⟩
  rw [← hA] at Y
  have hvm : s'.vm = s.vm := by rw [hA]; rfl
  have hhp : s'.heap = H := by rw [hA]; exact hT
  have hW0 : s.WarmedH s'.vm := by rw [hvm]; exact State.WarmedH.refl s
  have hat' : ∀ w ∈ vx_at0 own ic cls names, w.before args s' = true := fun w hw => vx_ot_at hW0 hvm.symm (hgood w (List.mem_cons_of_mem _ (List.mem_cons_of_mem _ hw))) (hat w hw)
  have hk' : (Cond.classLink own ik cls).before args s' = true := vx_ot_at hW0 hvm.symm (hgood _ List.mem_cons_self) hk
  have hini' : (Cond.initialized cls).before args s' = true := vx_ot_at hW0 hvm.symm (hgood _ (List.mem_cons_of_mem _ List.mem_cons_self)) hini
  have hU' : vx_Zq Bundle.tN "UNASSIGNED_STACK" Bundle.steD A s' s'.heap := by rw [hhp]; exact vx_Zq.moved hW0.alike (hU.kept hS.2.1)
  have hN' : vx_Zq Bundle.tN "SUPPRESSED_SENTINEL" Bundle.listD A s' s'.heap := by rw [hhp]; exact vx_Zq.moved hW0.alike (hN.kept hS.2.1)
  have h : ∀ w ∈ Bundle.ownAtoms0 own ic cls names, w.before args s' = true := vx_own hat' (vx_isRefq hU'.1) (vx_isRefq hN'.1) hU'.2.word hN'.2.word
  have hown' : s'.vm.findClass own = some m.cls := by rw [hvm]; exact hown
  have hins : (Cond.instantiable cls 6).before args s' = true := h _ (by simp [Bundle.ownAtoms0])
  obtain ⟨vm₁, cX, kX, hfX, hkX, -, -, X₁, st1⟩ := Y.newCold hexec (own := own) (C := cls) (index := ik) (n := 6) hown' hk' hins hini'
    (g := F0 m pc ls rest) rfl (by rw [hb]; exact d0) (Nat.le_refl _) (Nat.le_refl _)
  have hcellA : ((T.setVm vm₁).pushCell { cls := cX, slots := kX.instanceTypes.map defaultValue, vm := .none }).heap[T.heap.size]? = some (freshCell cX kX) := State.heap_pushCell_size _ _
  have hz1 : ((T.setVm vm₁).pushCell { cls := cX, slots := kX.instanceTypes.map defaultValue, vm := .none }).heap.size = T.heap.size + 1 := Array.size_push _
  have ho1 : ∀ q, q < T.heap.size → ((T.setVm vm₁).pushCell { cls := cX, slots := kX.instanceTypes.map defaultValue, vm := .none }).heap[q]? = T.heap[q]? := fun q hq => by
    show (T.heap.push _)[q]? = _
    rw [Array.getElem?_push, if_neg (Nat.ne_of_lt hq)]
  generalize hT1 : (T.setVm vm₁).pushCell { cls := cX, slots := kX.instanceTypes.map defaultValue, vm := .none } = T1 at X₁ st1 hcellA hz1 ho1
  have hcat : (Value.ref T.heap.size).category = 1 := rfl
  have d3' : decode c.code (pc + 3) = .ok (.dup, 1) := by rw [hb]; exact d3
  obtain ⟨S, ce, Z, z1, o1, e1, e2, e3, st2⟩ := vx_made0 X₁ hexec htr (own := own) (cls := cls) (names := names) (ic := ic) hown' hcls hnames h hfX hkX hcellA (by rw [hhp, hT]; exact Nat.le_refl _)
    (g := { method := m, pc := pc + 4, locals := ls, stack := .ref T.heap.size :: .ref T.heap.size :: rest, locked := none }) rfl hsize (rest := rest) rfl
    (by rw [hb]; exact d4) hRframes (by show 2 * 0 + _ + _ ≤ R.locals; simp only [List.map_cons, List.sum_cons, hcat]; omega)
  subst hT
  rw [hA] at Y Z
  have X5 := vx_back9 X Y0 Z
  have hq : T.heap.size = T.heap.size := rfl
  obtain ⟨t, a1, b1⟩ := k S.heap ce (by rw [z1, hz1]) (fun q hq => by rw [o1 q (Nat.ne_of_lt hq)]; exact ho1 q hq) e1 e2 (by rw [e3, ← hvm]; exact hfX) S rfl (by simpa using X5)
  refine ⟨t, st1 _ ?_, b1⟩
  show Steps p.tables e below (T1.setTop { method := m, pc := pc + 3, locals := ls, stack := .ref T.heap.size :: rest, locked := none }) _
  jvm_step X₁.here [X₁.here.top, hexec, d3', Value.category]
  exact st2 t a1
end EXK
section RCK
variable {b : Gb} {ad0 : Nat → Nat} {n0 n1 : Nat} {A1 : List (Nat × Nat)} {w1 : Wd} {l : Launch} {fr C S : Nat} {y : MethodName} {cc : ByteArray} {nL : Nat} {n : Nat} {A : List (Nat × Nat)} {kc ks : Nat} {pc : Nat} {rest : List Value} {loc : List (Nat × Value)} {w : Wd}
/-- 'new E()' that is kept, in a maker -/
theorem c_keep0 {ci : Nat} {E : String} {T : u_T} {names : List String} {ik ic : Nat} {bads : List Cond} (hfl : l.stackTraces = false) (hF : ∀ (U : State) (H : Heap), bE b U H → ENV (bF b) U H) (hA : okA (bds b) A n = true) (hn6 : n < 600) (hn0 : n0 ≤ n) (hd : bds b n = .inl (ci, [])) (hcl : b.2.2.1[ci]? = some (E, T, 0)) (hfit : Bundle.fit E = true) (hnm : ∀ n ∈ names, Bundle.fit n = true) (hk : Cond.classLink y.cls ik E ∈ TB) (hini : Cond.initialized E ∈ TB) (hl : ∀ w ∈ vx_at0 y.cls ic E names, w ∈ lw_tbl) (hg : (vx_at0 y.cls ic E names).filter (fun w => !goodWord w) = bads) (hbs : ∀ w ∈ bads, w ∈ xbad) (hot : (Cond.classLink y.cls ik E :: Cond.initialized E :: vx_at0 y.cls ic E names).all vx_ot = true) (d0 : decode cc pc = .ok (.new ik, 3)) (d3 : decode cc (pc + 3) = .ok (.dup, 1)) (d4 : decode cc (pc + 4) = .ok (.invokespecial ic, 3)) (hfr : 8 ≤ fr ∧ names.length = 2) (hroom : (rest.map fun v => v.category).sum ≤ 8) (hc : kc + 1 ≤ C) (hs : ks + 6 ≤ S) (hst : rest.all (vbn n) = true) (hlo : loc.all (fun q => vbn n q.2) = true)
    (kk : RC b ad0 n0 n1 A1 w1 l fr C S y cc nL (n + 1) A (kc + 1) (ks + 6) (pc + 7) (.ref n :: rest) loc (zr w n)) : RC b ad0 n0 n1 A1 w1 l fr C S y cc nL n A kc ks pc rest loc w := by
  intro ad had p e s m args below meth c H locs ls hC hP hD hS hl9
  obtain ⟨hx, hb, hr, hml, hown, hts, hlk, hin, hK, hE, hO, hFF⟩ := id hC
  have hEN := hF s s.heap hE
  have hcat : ((rest.map (tr (gsA b ad n A))).map fun v => v.category).sum ≤ 8 := by
    rw [List.map_map, show ((fun v => Value.category v) ∘ tr (gsA b ad n A)) = (fun v => Value.category v) from funext fun v => tr_cat _ v]
    exact hroom
  refine vx_keep0 (A := bF b) (names := names) hx hb hfl hown hfit hnm (hts _ hk) (hts _ hini) (vx_hat (B := bads) (fun w hw => hts w (List.mem_filter.mpr ⟨hl w (List.mem_filter.mp hw).1, (List.mem_filter.mp hw).2⟩)) (fun w hw => by rw [← hg]; exact hw) (fun w hw => hEN.at w (hbs w hw))) (fun w hw => List.all_eq_true.mp hot w hw) hEN.1 hEN.2.1 hS (hl9.1.trans hml.symm) d0 d3 d4 ?_ ?_ hc hs (fun H1 ce z1 o1 e1 e2 e3 => ?_)
  · show names.length + 3 < fr
    omega
  · show ((rest.map (tr (gsA b ad n A))).map fun v => v.category).sum + (13 * (names.length + 1) + 42) ≤ 45 * fr
    rw [hfr.2]
    omega
  have hcls : ce.cls = b.1.1 ci := by
    have h1 := (hK.1 ci _ hcl).2.1
    exact Option.some.inj (e3.symm.trans h1)
  have hg9 : gds (gsA b (upA ad n H.size) (n + 1) A) n = .inl (ci, []) := by show dsF (bds b) A n = _; unfold dsF; rw [hd]; rfl
  have he : ceOf (gsA b (upA ad n H.size) (n + 1) A) (zr w n) n = .inr (ci, []) := by
    unfold ceOf
    rw [hg9]
    rfl
  have hw := wl_new (ad := ad) (q := H.size) (w := w) hA hn6 he
  have hP1 : va_P b.1 b.2.2.1 (wl (gsA b ad n A) w ++ [(H.size, .inr (ci, []))]) H1 := by
    refine (hP.kept (fun k x hx => o1 x.1 ((hP k x hx).lt))).app (fun k x hx => ?_)
    have hz : k < 1 := (List.getElem?_eq_some_iff.mp hx).1
    rw [show k = 0 by omega] at hx
    cases hx
    exact ⟨_, hcl, ce, e1, hcls, e2, fun k hk => absurd hk (Nat.not_lt_zero k)⟩
  have hD1 : va_D (bF b) (wl (gsA b ad n A) w ++ [(H.size, .inr (ci, []))]) := hD.push hP rfl (hFF _ hS.1)
  have hS1 : va_S (bF b) s.heap H1 locs := ⟨Nat.le_trans hS.1 (by omega), fun x h1 h2 => (o1 x (Nat.lt_of_lt_of_le h1 hS.1)).trans (hS.2.1 x h1 h2), hS.2.2⟩
  rw [hw] at hP1 hD1
  have hu : upA ad n H.size n = H.size := by unfold upA; rw [if_pos rfl]
  have hk := kk (upA ad n H.size) ⟨fun k hk => by unfold upA; rw [if_neg (by omega)]; exact had.1 k hk, fun k hk => by unfold upA; rw [if_neg (by omega)]; exact had.2 k hk⟩ p e s m args below meth c H1 locs ls hC hP1 hD1 hS1 (by rw [loc_up (n'' := n) (A := A) hlo]; exact hl9)
  rw [List.map_cons, stk_up (n'' := n) (A := A) hst] at hk
  rw [show tr (gsA b (upA ad n H.size) (n + 1) A) (.ref n) = .ref H.size from congrArg Value.ref hu] at hk
  exact hk
end RCK
theorem ceK12 : Cond.classLink RX12 28 "java/lang/ArithmeticException" ∈ TB := tb1 sg9 33 rfl rfl
theorem ieK12 : Cond.initialized "java/lang/ArithmeticException" ∈ TB := tb1 sg1 21 rfl rfl
theorem oeK12 : (Cond.classLink RX12 28 "java/lang/ArithmeticException" :: Cond.initialized "java/lang/ArithmeticException" :: vx_at0 RX12 30 "java/lang/ArithmeticException" ["java/lang/RuntimeException", "java/lang/Exception"]).all vx_ot = true := by decide +kernel
theorem beK12 : ∀ w ∈ ([.declares (Bundle.init0 "java/lang/RuntimeException"), .declares (Bundle.init0 "java/lang/Exception"), .declares (Bundle.init0 "java/lang/Throwable"), .castable "java/lang/ArithmeticException" "java/lang/ArithmeticException"] : List Cond), w ∈ xbad := by decide +kernel
/-- the gap EXI is closed -/
theorem exi_ok {q : Gq} {F : Nat → Prop} {l : Launch} (hfl : l.stackTraces = false) (hF : ∀ (U : State) (H : Heap), q.2.2.2 U H → ENV F U H) : EXI q F l := by
  intro ad0 w1 w k
  exact c_keep0 (pc := 46) (n := 5) (kc := 4) (ks := 32774) (ci := 1) (E := "java/lang/ArithmeticException") (T := TAE) (names := ["java/lang/RuntimeException", "java/lang/Exception"]) hfl hF (show okA dsM _ 5 = true by decide +kernel) (Nat.le_of_ble_eq_true rfl) (Nat.le_of_ble_eq_true rfl) rfl rfl (by decide +kernel) (by decide +kernel) ceK12 ieK12 atX12_30_l atX12_30_g beK12 oeK12 dX12_init_46 dX12_init_49 dX12_init_50 ⟨Nat.le_of_ble_eq_true rfl, rfl⟩ (Nat.le_of_ble_eq_true rfl) (Nat.le_of_ble_eq_true rfl) (Nat.le_of_ble_eq_true rfl) rfl rfl k
