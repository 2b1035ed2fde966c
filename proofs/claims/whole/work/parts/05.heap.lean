/-! FIELDS, ARRAYS, RETURNS, CALLS, THROWS OVER THE PURE WORLD -/
/-- what the tables say of a class's fields: its words stand, the fields' types, the fields' names apart -/
def CF (C : String) (T : u_T) (n : Nat) (ty : Nat → FieldType) : Prop := (∀ w ∈ u_ws C T n, w ∈ TB) ∧ (∀ k, k < n → parseFieldDescriptor (T k).2.2.1 = some (ty k)) ∧ (∀ a, a < n → ∀ b, b < n → a ≠ b → (T a).2.1 ≠ (T b).2.1)
/-- the place k of the side is an object of the class number ci, whose fields are told by T and fs -/
def OB (Γ : Gm) (k ci : Nat) (C : String) (T : u_T) (n : Nat) (fs : List (Option Nat)) : Prop := k < gN Γ ∧ gds Γ k = .inl (ci, fs) ∧ (gcl Γ)[ci]? = some (C, T, n) ∧ fs.length = n
/-- the place k of the side is an array of the type number t, of length n -/
def AR (Γ : Gm) (k t n : Nat) (ty : FieldType) : Prop := k < gN Γ ∧ gds Γ k = .inr (t, n) ∧ (gtl Γ)[t]? = some ty
theorem OB.at {Γ : Gm} {w : Wd} {k ci : Nat} {C : String} {T : u_T} {n : Nat} {fs : List (Option Nat)} (h : OB Γ k ci C T n fs) : (wl Γ w)[k]? = some (gad Γ k, .inr (ci, fs.mapIdx (fun j d => fv Γ w k j d))) := by
  rw [wl_at h.1]
  simp [ceOf, h.2.1]
theorem AR.at {Γ : Gm} {w : Wd} {k t n : Nat} {ty : FieldType} (h : AR Γ k t n ty) (h1 : t ≠ 1) (h4 : t ≠ 4) : (wl Γ w)[k]? = some (gad Γ k, .inl (gA Γ t, n, .inl (gi w k))) := by
  rw [wl_at h.1]
  simp [ceOf, h.2.1, h1, h4]
theorem AR.atL {Γ : Gm} {w : Wd} {k n : Nat} {ty : FieldType} (h : AR Γ k 1 n ty) : (wl Γ w)[k]? = some (gad Γ k, .inl (gA Γ 1, n, .inr (.inl (gl w k)))) := by
  rw [wl_at h.1]
  simp [ceOf, h.2.1]
theorem AR.atQ {Γ : Gm} {w : Wd} {k n : Nat} {ty : FieldType} (h : AR Γ k 4 n ty) : (wl Γ w)[k]? = some (gad Γ k, .inl (gA Γ 4, n, .inr (.inr (.inr (.inr (fun i => some (gad Γ (600 + i)))))))) := by
  rw [wl_at h.1]
  simp [ceOf, h.2.1]
theorem gi_upd (w : Wd) (k : Nat) (i : Nat) (v : Int32) : upd (gi w k) i v = gi (si w k i v) k := by
  funext b
  rw [gi_si]
  unfold upd
  by_cases hb : b = i
  · subst hb; simp
  · simp [hb]
theorem gl_upd (w : Wd) (k : Nat) (i : Nat) (v : Int64) : vp_updL (gl w k) i v = gl (sl w k i v) k := by
  funext b
  rw [gl_sl]
  unfold vp_updL
  by_cases hb : b = i
  · subst hb; simp
  · simp [hb]
section RTH
variable {Γ : Gm} {l : Launch} {d : Nat} {y : MethodName} {cc : ByteArray} {nL : Nat} {ret : Option FieldType} {N : Option Value → Wd → Prop} {X : String → Wd → Prop} {pc : Nat} {rest : List Value} {loc : List (Nat × Value)} {w : Wd}
theorem r_get {k ci j index : Nat} {C : String} {T : u_T} {n : Nat} {fs : List (Option Nat)} {ty : Nat → FieldType} {f : Option Nat} (hO : OB Γ k ci C T n fs) (hF : CF C T n ty) (hk : Cond.fieldLink y.cls index (T j).1 (T j).2.1 (T j).2.2.1 ∈ TB) (hj : fs[j]? = some f) (hdg : decode cc pc = .ok (.getfield index, 3)) {v : Value} (hv : (match f with | none => Value.int (gi w k j) | some t => if t = 999 then Value.null else Value.ref t) = v)
    (kk : RT Γ l d y cc nL ret N X (pc + 3) (v :: rest) loc w) : RT Γ l d y cc nL ret N X pc (.ref k :: rest) loc w := by
  intro p e s m args below meth c H locs ls hC hP hS hl
  obtain ⟨hx, hb, hr, hml, hown, hts, hlk, het, hK, hE, hG⟩ := id hC
  have hjn : j < n := by rw [← hO.2.2.2]; exact (List.getElem?_eq_some_iff.mp hj).1
  refine va_get (v := tr Γ v) hx hb hts hF.1 hown hK hP k hO.at hO.2.2.1 j hjn (hts _ hk) (fun x hx => hx) ?_ hdg (kk p e s m args below meth c H locs ls hC hP hS hl)
  rw [List.getElem?_mapIdx, hj]
  subst hv
  cases f with
  | none => rfl
  | some t =>
    show some (if t = 999 then Value.null else Value.ref (gad Γ t)) = some (tr Γ (if t = 999 then Value.null else Value.ref t))
    by_cases ht : t = 999
    · rw [if_pos ht, if_pos ht]; rfl
    · rw [if_neg ht, if_neg ht]; rfl
theorem r_putI {k ci j index : Nat} {C : String} {T : u_T} {n : Nat} {fs : List (Option Nat)} {ty : Nat → FieldType} {x : Int32} (hO : OB Γ k ci C T n fs) (hF : CF C T n ty) (hk : Cond.fieldLink y.cls index (T j).1 (T j).2.1 (T j).2.2.1 ∈ TB) (hj : fs[j]? = some none) (hfin : (T j).2.2.2 = false) (hn : narrow (ty j) (.int x) = .int x) (hf : fits (ty j) (.int x) = true) (hdg : decode cc pc = .ok (.putfield index, 3))
    (kk : RT Γ l d y cc nL ret N X (pc + 3) rest loc (si w k j x)) : RT Γ l d y cc nL ret N X pc (.int x :: .ref k :: rest) loc w := by
  intro p e s m args below meth c H locs ls hC hP hS hl
  obtain ⟨hx, hb, hr, hml, hown, hts, hlk, het, hK, hE, hG⟩ := id hC
  have hjn : j < n := by rw [← hO.2.2.2]; exact (List.getElem?_eq_some_iff.mp hj).1
  have hlen : j < (fs.mapIdx (fun j d => fv Γ w k j d)).length := by rw [List.length_mapIdx, hO.2.2.2]; exact hjn
  have hset : (wl Γ w).set k (gad Γ k, .inr (ci, (fs.mapIdx (fun j d => fv Γ w k j d)).set j (.int x))) = wl Γ (si w k j x) := by
    refine wl_set hO.1 ?_ (fun i hi => ceOf_si_ne hi)
    unfold ceOf
    rw [hO.2.1]
    dsimp only
    congr 2
    apply List.ext_getElem?
    intro i
    by_cases hi : i = j
    · subst hi
      rw [List.getElem?_set_self hlen, List.getElem?_mapIdx, hj]
      simp [fv, gi_si]
    · rw [List.getElem?_set_ne (Ne.symm hi), List.getElem?_mapIdx, List.getElem?_mapIdx]
      cases fs[i]? with
      | none => rfl
      | some q =>
        cases q with
        | none => simp [fv, gi_si, hi]
        | some t => rfl
  refine va_put hx hb hts hF.1 ty hF.2.1 hF.2.2 hown hK hP (wl_D hG w) hS k hO.at hO.2.2.1 j hjn (hts _ hk) (fun x hx => hx) hfin (hF.2.1 j hjn) hn hf hlen hdg (fun H1 locs1 hP1 hD1 hS1 => ?_)
  have hP1 : va_P (gD Γ) (gcl Γ) ((wl Γ w).set k (gad Γ k, .inr (ci, (fs.mapIdx (fun j d => fv Γ w k j d)).set j (.int x)))) H1 := hP1
  rw [hset] at hP1
  exact kk p e s m args below meth c H1 locs1 ls hC hP1 hS1 hl
theorem r_iald {k n : Nat} {i : Int32} (hA : AR Γ k 0 n .int) (hin : vp_in i n) (hdg : decode cc pc = .ok (.iaload, 1)) (kk : RT Γ l d y cc nL ret N X (pc + 1) (.int (gi w k i.toNatClampNeg) :: rest) loc w) : RT Γ l d y cc nL ret N X pc (.int i :: .ref k :: rest) loc w := by
  intro p e s m args below meth c H locs ls hC hP hS hl
  obtain ⟨hx, hb, hr, hml, hown, hts, hlk, het, hK, hE, hG⟩ := id hC
  exact va_iald hx hb hK hP k 0 (hA.at (by decide) (by decide)) (gty_at hA.2.2) hin hdg (kk p e s m args below meth c H locs ls hC hP hS hl)
theorem r_bald {k n : Nat} {i : Int32} (hA : AR Γ k 2 n .byte) (hin : vp_in i n) (hdg : decode cc pc = .ok (.baload, 1)) (kk : RT Γ l d y cc nL ret N X (pc + 1) (.int (gi w k i.toNatClampNeg) :: rest) loc w) : RT Γ l d y cc nL ret N X pc (.int i :: .ref k :: rest) loc w := by
  intro p e s m args below meth c H locs ls hC hP hS hl
  obtain ⟨hx, hb, hr, hml, hown, hts, hlk, het, hK, hE, hG⟩ := id hC
  exact va_bald hx hb hK hP k 2 (hA.at (by decide) (by decide)) (gty_at hA.2.2) hin hdg (kk p e s m args below meth c H locs ls hC hP hS hl)
theorem r_zald {k n : Nat} {i : Int32} (hA : AR Γ k 3 n .boolean) (hin : vp_in i n) (hdg : decode cc pc = .ok (.baload, 1)) (kk : RT Γ l d y cc nL ret N X (pc + 1) (.int (gi w k i.toNatClampNeg) :: rest) loc w) : RT Γ l d y cc nL ret N X pc (.int i :: .ref k :: rest) loc w := by
  intro p e s m args below meth c H locs ls hC hP hS hl
  obtain ⟨hx, hb, hr, hml, hown, hts, hlk, het, hK, hE, hG⟩ := id hC
  exact va_zald hx hb hK hP k 3 (hA.at (by decide) (by decide)) (gty_at hA.2.2) hin hdg (kk p e s m args below meth c H locs ls hC hP hS hl)
theorem r_lald {k n : Nat} {i : Int32} (hA : AR Γ k 1 n .long) (hin : vp_in i n) (hdg : decode cc pc = .ok (.laload, 1)) (kk : RT Γ l d y cc nL ret N X (pc + 1) (.long (gl w k i.toNatClampNeg) :: rest) loc w) : RT Γ l d y cc nL ret N X pc (.int i :: .ref k :: rest) loc w := by
  intro p e s m args below meth c H locs ls hC hP hS hl
  obtain ⟨hx, hb, hr, hml, hown, hts, hlk, het, hK, hE, hG⟩ := id hC
  exact va_lald hx hb hK hP k 1 hA.atL (gty_at hA.2.2) hin hdg (kk p e s m args below meth c H locs ls hC hP hS hl)
theorem r_aald {k n : Nat} {C : String} {i : Int32} (hA : AR Γ k 4 n (.object C)) (hin : vp_in i n) (hdg : decode cc pc = .ok (.aaload, 1)) (kk : RT Γ l d y cc nL ret N X (pc + 1) (.ref (600 + i.toNatClampNeg) :: rest) loc w) : RT Γ l d y cc nL ret N X pc (.int i :: .ref k :: rest) loc w := by
  intro p e s m args below meth c H locs ls hC hP hS hl
  obtain ⟨hx, hb, hr, hml, hown, hts, hlk, het, hK, hE, hG⟩ := id hC
  exact va_aldq hx hb hK hP k 4 hA.atQ (gty_at hA.2.2) hin hdg (kk p e s m args below meth c H locs ls hC hP hS hl)
theorem wl_setA {k t n : Nat} {ty : FieldType} (hA : AR Γ k t n ty) (h1 : t ≠ 1) (h4 : t ≠ 4) (i : Nat) (v : Int32) : (wl Γ w).set k (gad Γ k, .inl (gA Γ t, n, .inl (upd (gi w k) i v))) = wl Γ (si w k i v) := by
  refine wl_set hA.1 ?_ (fun j hj => ceOf_si_ne hj)
  rw [gi_upd]
  unfold ceOf
  rw [hA.2.1]
  simp [h1, h4]
theorem wl_setL {k n : Nat} {ty : FieldType} (hA : AR Γ k 1 n ty) (i : Nat) (v : Int64) : (wl Γ w).set k (gad Γ k, .inl (gA Γ 1, n, .inr (.inl (vp_updL (gl w k) i v)))) = wl Γ (sl w k i v) := by
  refine wl_set hA.1 ?_ (fun j hj => ceOf_sl_ne hj)
  rw [gl_upd]
  unfold ceOf
  rw [hA.2.1]
  simp
theorem r_iast {k n : Nat} {i x : Int32} (hA : AR Γ k 0 n .int) (hin : vp_in i n) (hdg : decode cc pc = .ok (.iastore, 1)) (kk : RT Γ l d y cc nL ret N X (pc + 1) rest loc (si w k i.toNatClampNeg (x))) : RT Γ l d y cc nL ret N X pc (.int x :: .int i :: .ref k :: rest) loc w := by
  intro p e s m args below meth c H locs ls hC hP hS hl
  obtain ⟨hx, hb, hr, hml, hown, hts, hlk, het, hK, hE, hG⟩ := id hC
  refine va_iast hx hb hK hP (wl_D hG w) hS k 0 (hA.at (by decide) (by decide)) (gty_at hA.2.2) hin hdg (fun H1 locs1 hP1 hD1 hS1 => ?_)
  rw [wl_setA hA (by decide) (by decide)] at hP1
  exact kk p e s m args below meth c H1 locs1 ls hC hP1 hS1 hl
theorem r_bast {k n : Nat} {i x : Int32} (hA : AR Γ k 2 n .byte) (hin : vp_in i n) (hdg : decode cc pc = .ok (.bastore, 1)) (kk : RT Γ l d y cc nL ret N X (pc + 1) rest loc (si w k i.toNatClampNeg (vp_nar .byte x))) : RT Γ l d y cc nL ret N X pc (.int x :: .int i :: .ref k :: rest) loc w := by
  intro p e s m args below meth c H locs ls hC hP hS hl
  obtain ⟨hx, hb, hr, hml, hown, hts, hlk, het, hK, hE, hG⟩ := id hC
  refine va_bast hx hb hK hP (wl_D hG w) hS k 2 (hA.at (by decide) (by decide)) (gty_at hA.2.2) hin hdg (fun H1 locs1 hP1 hD1 hS1 => ?_)
  rw [wl_setA hA (by decide) (by decide)] at hP1
  exact kk p e s m args below meth c H1 locs1 ls hC hP1 hS1 hl
theorem r_zast {k n : Nat} {i x : Int32} (hA : AR Γ k 3 n .boolean) (hin : vp_in i n) (hdg : decode cc pc = .ok (.bastore, 1)) (kk : RT Γ l d y cc nL ret N X (pc + 1) rest loc (si w k i.toNatClampNeg (vp_nar .boolean x))) : RT Γ l d y cc nL ret N X pc (.int x :: .int i :: .ref k :: rest) loc w := by
  intro p e s m args below meth c H locs ls hC hP hS hl
  obtain ⟨hx, hb, hr, hml, hown, hts, hlk, het, hK, hE, hG⟩ := id hC
  refine va_zast hx hb hK hP (wl_D hG w) hS k 3 (hA.at (by decide) (by decide)) (gty_at hA.2.2) hin hdg (fun H1 locs1 hP1 hD1 hS1 => ?_)
  rw [wl_setA hA (by decide) (by decide)] at hP1
  exact kk p e s m args below meth c H1 locs1 ls hC hP1 hS1 hl
theorem r_last {k n : Nat} {i : Int32} {x : Int64} (hA : AR Γ k 1 n .long) (hin : vp_in i n) (hdg : decode cc pc = .ok (.lastore, 1)) (kk : RT Γ l d y cc nL ret N X (pc + 1) rest loc (sl w k i.toNatClampNeg x)) : RT Γ l d y cc nL ret N X pc (.long x :: .int i :: .ref k :: rest) loc w := by
  intro p e s m args below meth c H locs ls hC hP hS hl
  obtain ⟨hx, hb, hr, hml, hown, hts, hlk, het, hK, hE, hG⟩ := id hC
  refine va_last hx hb hK hP (wl_D hG w) hS k 1 hA.atL (gty_at hA.2.2) hin hdg (fun H1 locs1 hP1 hD1 hS1 => ?_)
  rw [wl_setL hA] at hP1
  exact kk p e s m args below meth c H1 locs1 ls hC hP1 hS1 hl
theorem r_alen {k t n : Nat} {ty : FieldType} {v : Int32} (hA : AR Γ k t n ty) (hv : Int32.ofNat n = v) (hdg : decode cc pc = .ok (.arraylength, 1)) (kk : RT Γ l d y cc nL ret N X (pc + 1) (.int v :: rest) loc w) : RT Γ l d y cc nL ret N X pc (.ref k :: rest) loc w := by
  intro p e s m args below meth c H locs ls hC hP hS hl
  obtain ⟨hx, hb, hr, hml, hown, hts, hlk, het, hK, hE, hG⟩ := id hC
  have hat : (wl Γ w)[k]? = some (gad Γ k, .inl (gA Γ t, n, if t = 1 then .inr (.inl (gl w k)) else if t = 4 then .inr (.inr (.inr (.inr (fun i => some (gad Γ (600 + i)))))) else .inl (gi w k))) := by
    rw [wl_at hA.1]
    simp [ceOf, hA.2.1]
  exact va_alen (v := v) hx hb hK hP k t hat (gty_at hA.2.2) hv hdg (kk p e s m args below meth c H locs ls hC hP hS hl)
-- answers
theorem r_ireturn {x : Int32} (hr9 : ret = some .int) (hdg : decode cc pc = .ok (.ireturn, 1)) (hN : N (some (.int x)) w) : RT Γ l d y cc nL ret N X pc [.int x] loc w := by
  intro p e s m args below meth c H locs ls hC hP hS hl
  obtain ⟨hx, hb, hr, hml, hown, hts, hlk, het, hK, hE, hG⟩ := id hC
  exact vx_ret (W.iret hx hb (hr.trans hr9) (fun t ht hW => ⟨⟨some (.int x), w, rfl, hN, by rw [ht]; exact hP⟩, hS.F ht⟩) hS.2.2 hdg hlk)
theorem r_zreturn {x : Int32} (hr9 : ret = some .boolean) (hn : narrow .boolean (.int x) = .int x) (hdg : decode cc pc = .ok (.ireturn, 1)) (hN : N (some (.int x)) w) : RT Γ l d y cc nL ret N X pc [.int x] loc w := by
  intro p e s m args below meth c H locs ls hC hP hS hl
  obtain ⟨hx, hb, hr, hml, hown, hts, hlk, het, hK, hE, hG⟩ := id hC
  exact vx_ret (W.zret hx hb (hr.trans hr9) hn (fun t ht hW => ⟨⟨some (.int x), w, rfl, hN, by rw [ht]; exact hP⟩, hS.F ht⟩) hS.2.2 hdg hlk)
theorem r_lreturn {x : Int64} (hr9 : ret = some .long) (hdg : decode cc pc = .ok (.lreturn, 1)) (hN : N (some (.long x)) w) : RT Γ l d y cc nL ret N X pc [.long x] loc w := by
  intro p e s m args below meth c H locs ls hC hP hS hl
  obtain ⟨hx, hb, hr, hml, hown, hts, hlk, het, hK, hE, hG⟩ := id hC
  exact vx_ret (W.lret hx hb (hr.trans hr9) (fun t ht hW => ⟨⟨some (.long x), w, rfl, hN, by rw [ht]; exact hP⟩, hS.F ht⟩) hS.2.2 hdg hlk)
theorem r_vreturn (hr9 : ret = none) (hdg : decode cc pc = .ok (.return_, 1)) (hN : N none w) : RT Γ l d y cc nL ret N X pc [] loc w := by
  intro p e s m args below meth c H locs ls hC hP hS hl
  obtain ⟨hx, hb, hr, hml, hown, hts, hlk, het, hK, hE, hG⟩ := id hC
  exact vx_ret (W.vret hx hb (hr.trans hr9) (fun t ht hW => ⟨⟨none, w, rfl, hN, by rw [ht]; exact hP⟩, hS.F ht⟩) hS.2.2 hdg hlk)
theorem r_areturn {k : Nat} {rt : FieldType} (hr9 : ret = some rt) (hrt : (∃ n, rt = .object n) ∨ ∃ t, rt = .array t) (hdg : decode cc pc = .ok (.areturn, 1)) (hN : N (some (.ref k)) w) : RT Γ l d y cc nL ret N X pc [.ref k] loc w := by
  intro p e s m args below meth c H locs ls hC hP hS hl
  obtain ⟨hx, hb, hr, hml, hown, hts, hlk, het, hK, hE, hG⟩ := id hC
  exact vx_ret (W.aret hx hb (hr.trans hr9) hrt (Or.inr ⟨_, rfl⟩) (fun t ht hW => ⟨⟨some (.ref k), w, rfl, hN, by rw [ht]; exact hP⟩, hS.F ht⟩) hS.2.2 hdg hlk)
/-- a throw of an object of the side, in a method without handlers -/
theorem r_athrow {k ci : Nat} {C : String} {T : u_T} {n : Nat} {fs : List (Option Nat)} (hO : OB Γ k ci C T n fs) (hdg : decode cc pc = .ok (.athrow, 1)) (hX : X C w) : RT Γ l d y cc nL ret N X pc (.ref k :: rest) loc w := by
  intro p e s m args below meth c H locs ls hC hP hS hl
  obtain ⟨hx, hb, hr, hml, hown, hts, hlk, het, hK, hE, hG⟩ := id hC
  intro T hT Y
  obtain ⟨cell, g1, g2, g3⟩ := va_recv hK hP hO.2.2.1 hO.at
  obtain ⟨q', h1, cell', g1', g2', g3', -⟩ := hP k _ hO.at
  have hcc : cell' = cell := Option.some.inj (g1'.symm.trans g1)
  subst hcc
  obtain ⟨st, hrun, hend, hW, hsm⟩ := Y.athrowLeaves hx (g := F0 m pc ls (.ref (gad Γ k) :: rest.map (tr Γ))) rfl rfl rfl (fun x q => (het x q).elim) rfl (by rw [hb]; exact hdg) hlk
  refine ⟨_, st, .threw (gad Γ k), hrun, hend, Or.inr ⟨gad Γ k, rfl, C, cell', locs, ⟨⟨w, hX, ?_⟩, hS.F ?_⟩, ?_, g3', g3, hW, hsm, hS.2.2⟩⟩
  · show va_P _ _ _ T.heap
    rw [hT]; exact hP
  · show T.heap = H
    exact hT
  · show T.heap[_]? = _
    rw [hT]; exact g1
-- calls
/-- what the tables say of a method -/
def CY (y : MethodName) (cc : ByteArray) (nL : Nat) (ret : Option FieldType) (n : Nat) : Prop := Cond.code y cc nL ret ∈ TB ∧ Cond.initialized y.cls ∈ TB ∧ y.cls ≠ "java/lang/invoke/MethodHandle" ∧ y.cls ≠ "java/lang/invoke/VarHandle" ∧ (parseMethodDescriptor y.desc).map (fun d => d.parameters.length) = some n
theorem goodTB {w : Cond} (h : w ∈ TB) : w ∈ TB ∧ ((w.onTables && w.keeps) = true ∨ ∃ ty, w = .arrayClass ty) := ⟨h, good_of_word (List.mem_filter.mp h).2⟩
theorem r_call {d' nL' : Nat} {y' : MethodName} {cc' : ByteArray} {ret' : Option FieldType} {stk av : List Value} {N9 : Option Value → Wd → Prop} (hN : ∀ v u, N9 v u → RT Γ l d y cc nL ret N X (pc + 3) (v.toList ++ rest) loc u)
    (hrun : ∀ (p : Program) (e : Env) (s : State) (m : MethodId) (args : Array Value) (below : List Frame) (meth : Method) (c : Code) (H : Heap) (locs : List Loc) (ls : Array Slot), Cx Γ y cc nL ret p s m args meth c → va_P (gD Γ) (gcl Γ) (wl Γ w) H → va_S (gAw Γ) s.heap H locs → ls.size = nL → vx_Run p l e (rmD d) s m args below meth c H locs 0 0 0 0 (F0 m pc ls (stk.map (tr Γ))) (rest.map (tr Γ)) (Qn Γ N9 (av.map (tr Γ)).toArray) (Xn Γ X) (gAw Γ)) : RT Γ l d y cc nL ret N X pc stk loc w := by
  intro p e s m args below meth c H locs ls hC hP hS hl
  obtain ⟨hx, hb, hr, hml, hown, hts, hlk, het, hK, hE, hG⟩ := id hC
  intro T hT Y
  rcases hrun p e s m args below meth c H locs ls hC hP hS hl.1 T hT Y with ⟨v, st₀, t, T', L, h0, X', hL, e1, e2, ⟨⟨v', u, hv, hu, hPu⟩, hF⟩, st⟩ | ⟨q, st₀, t, T', L, E, ce, h0, X', hL, e1, e2, ⟨⟨u, hu, hPu⟩, hF⟩, hce, hcv, hcl, st⟩
  · obtain rfl := Outcome.returned.inj hv
    obtain ⟨k1, k2, k3⟩ := vx_keep h0 e1 hS (fun q _ h => h) (fun q h => h) hL hF
    have hk := hN v' u hu p e s m args below meth c T'.heap (locs ++ L) ls hC (by rw [e1]; exact hPu) k3 hl
    obtain ⟨t2, a1, b1⟩ := hk T' rfl X'
    refine ⟨t2, st t2 ?_, b1⟩
    cases v' <;> exact a1
  · obtain ⟨k1, k2, k3⟩ := vx_keep h0 e1 hS (fun q _ h => h) (fun q h => h) hL hF
    obtain ⟨t2, a1, b1⟩ := vx_out (R := rmD d) (Qc := Qn Γ N) (XC := Xn Γ X) (args := args) (pc := pc) (ls := ls) (rest := rest.map (tr Γ)) (E := E) (ce := ce) (q := q) (mc := 0) (ms := 0) (free := gAw Γ) (cells := 0 + 0) (slots := 0 + 0) (fun x q => (het x q).elim) hlk (by rw [e1]; exact hce) hcv hcl (fun t' ht' _ => ⟨⟨u, hu, by rw [ht', e1]; exact hPu⟩, k3.F ht'⟩) k3.2.2 (Nat.le_refl _) (Nat.le_refl _) T' rfl X'
    exact ⟨t2, st.trans a1, b1⟩
theorem r_callV {d' nL' n k ci index : Nat} {C : String} {Tc : u_T} {Nf : Nat} {fs : List (Option Nat)} {y' : MethodName} {cc' : ByteArray} {ret' : Option FieldType} {av stk : List Value} (hY : CY y' cc' nL' ret' n) (hO : OB Γ k ci C Tc Nf fs) (hC9 : y'.cls = C) (h1 : Cond.methodLink y.cls index y' ∈ TB) (h2 : Cond.instanceMethod y' ∈ TB) (h3 : Cond.selects C y' y' ∈ TB) (hd : d' + 1 ≤ d ∧ nL' ≤ 26) (hn : av.length = n) (hstk : stk = av.reverse ++ .ref k :: rest) (hroom : (rest.map fun v => v.category).sum ≤ 8) (hdg : decode cc pc = .ok (.invokevirtual index, 3))
    (hM : Ct Γ l d' y' cc' nL' ret' (.ref k :: av) w (fun v u => RT Γ l d y cc nL ret N X (pc + 3) (v.toList ++ rest) loc u) X) : RT Γ l d y cc nL ret N X pc stk loc w := by
  refine r_call (rest := rest) (N9 := fun v u => RT Γ l d y cc nL ret N X (pc + 3) (v.toList ++ rest) loc u) (av := .ref k :: av) (d' := d') (nL' := nL') (y' := y') (cc' := cc') (ret' := ret') (fun v u h => h) (fun p e s m args below meth c H locs ls hC hP hS hl => ?_)
  obtain ⟨hx, hb, hr, hml, hown, hts, hlk, het, hK, hE, hG⟩ := id hC
  have hGI : GoodIn TB (wsV y.cls index C y' (Cond.code y' cc' nL' ret' :: TB)) := by
    intro w hw
    unfold wsV at hw
    simp only [List.mem_append, List.mem_cons, List.not_mem_nil, or_false] at hw
    rcases hw with (rfl | rfl | rfl | rfl) | rfl | hw
    · exact goodTB h1
    · exact goodTB h2
    · exact goodTB h3
    · rw [← hC9]; exact goodTB hY.2.1
    · exact goodTB hY.1
    · exact goodTB hw
  have cw : CallW (rmD d) s args y.cls C index y' cc' nL' ret' (Cond.code y' cc' nL' ret' :: TB) (rmD d') 0 0 n := cwV n hts hGI rfl rfl rfl ⟨hC9, hY.2.2.1, hY.2.2.2.1, hY.2.2.2.2⟩ ⟨hd.1, by show 8 + (nL' + 11) + 45 * d' ≤ 45 * d; omega⟩
  refine vx_runV (As := av.map (tr Γ)) ⟨hx, hb, hml, hown, hts⟩ hM cw ⟨pn_blind Γ _ _, va_recv hK hP hO.2.2.1 hO.at, fun U hU hW => ⟨rfl, by rw [hU]; exact hP, va_K.moved hW.alike hK, hG.2.1 s U _ hW (by rw [hU]; exact hG.2.2 s s.heap H hS.1 hS.2.1 hE), hG⟩⟩ rfl (by rw [List.length_map]; exact hn) hl ?_ (lv_room ?_) hdg ⟨Nat.le_refl _, Nat.le_refl _⟩
  · rw [hstk]
    show List.map (tr Γ) (av.reverse ++ .ref k :: rest) = _
    simp [tr]
  · rw [List.map_map]
    rw [show ((fun v => Value.category v) ∘ tr Γ) = (fun v => Value.category v) from funext fun v => tr_cat Γ v]
    exact hroom
theorem r_callS {d' nL' n index : Nat} {y' : MethodName} {cc' : ByteArray} {ret' : Option FieldType} {av stk : List Value} (hY : CY y' cc' nL' ret' n) (h1 : Cond.methodLink y.cls index y' ∈ TB) (h2 : Cond.static y' ∈ TB) (hd : d' + 1 ≤ d ∧ nL' ≤ 26) (hn : av.length = n) (hstk : stk = av.reverse ++ rest) (hroom : (rest.map fun v => v.category).sum ≤ 8) (hdg : decode cc pc = .ok (.invokestatic index, 3))
    (hM : Ct Γ l d' y' cc' nL' ret' av w (fun v u => RT Γ l d y cc nL ret N X (pc + 3) (v.toList ++ rest) loc u) X) : RT Γ l d y cc nL ret N X pc stk loc w := by
  refine r_call (rest := rest) (N9 := fun v u => RT Γ l d y cc nL ret N X (pc + 3) (v.toList ++ rest) loc u) (av := av) (d' := d') (nL' := nL') (y' := y') (cc' := cc') (ret' := ret') (fun v u h => h) (fun p e s m args below meth c H locs ls hC hP hS hl => ?_)
  obtain ⟨hx, hb, hr, hml, hown, hts, hlk, het, hK, hE, hG⟩ := id hC
  have hGI : GoodIn TB (Cond.code y' cc' nL' ret' :: TB) := fun w hw => (List.mem_cons.mp hw).elim (fun e => e ▸ goodTB hY.1) goodTB
  have cb : CallB (rmD d) s args y.cls index y' cc' nL' ret' (Cond.code y' cc' nL' ret' :: TB) (rmD d') 0 0 n := callB_of n hts hGI rfl rfl rfl (hts _ hY.2.1) (hts _ h1) ⟨hY.2.2.1, hY.2.2.2.1, hY.2.2.2.2⟩ ⟨hd.1, by show 8 + (nL' + 11) + 45 * d' ≤ 45 * d; omega⟩
  refine vx_runS (As := av.map (tr Γ)) ⟨hx, hb, hml, hown, hts⟩ hM ⟨cb, hts _ h2⟩ ⟨pn_blind Γ _ _, fun U hU hW => ⟨rfl, by rw [hU]; exact hP, va_K.moved hW.alike hK, hG.2.1 s U _ hW (by rw [hU]; exact hG.2.2 s s.heap H hS.1 hS.2.1 hE), hG⟩⟩ rfl (by rw [List.length_map]; exact hn) hl ?_ (lv_room ?_) hdg ⟨Nat.le_refl _, Nat.le_refl _⟩
  · rw [hstk]
    show List.map (tr Γ) (av.reverse ++ rest) = _
    simp
  · rw [List.map_map]
    rw [show ((fun v => Value.category v) ∘ tr Γ) = (fun v => Value.category v) from funext fun v => tr_cat Γ v]
    exact hroom
end RTH
/-- posts by the answer's type -/
def pI (f : Int32 → Wd → Prop) : Option Value → Wd → Prop := fun v u => ∃ x : Int32, v = some (.int x) ∧ f x u
def pL (f : Int64 → Wd → Prop) : Option Value → Wd → Prop := fun v u => ∃ x : Int64, v = some (.long x) ∧ f x u
def pV (f : Wd → Prop) : Option Value → Wd → Prop := fun v u => v = none ∧ f u
def pR (f : Nat → Wd → Prop) : Option Value → Wd → Prop := fun v u => ∃ x : Nat, v = some (.ref x) ∧ f x u
