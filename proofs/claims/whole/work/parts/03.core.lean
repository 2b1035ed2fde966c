/-! THE PURE WORLD: a number or a long for each place of each cell of a side; cells by their places, not by addresses. THE JUDGEMENT RT: from an instruction of a method, over the pure world, it ends with the answer and the world that N takes, or throws with X. -/
abbrev Wd : Type := (Nat → Nat → Int32) × (Nat → Nat → Int64)
def gi (w : Wd) (k j : Nat) : Int32 := w.1 k j
def gl (w : Wd) (k j : Nat) : Int64 := w.2 k j
def si (w : Wd) (k j : Nat) (v : Int32) : Wd := (fun a b => if a = k ∧ b = j then v else w.1 a b, w.2)
def sl (w : Wd) (k j : Nat) (v : Int64) : Wd := (w.1, fun a b => if a = k ∧ b = j then v else w.2 a b)
theorem gi_si (w : Wd) (k j a b : Nat) (v : Int32) : gi (si w k j v) a b = if a = k ∧ b = j then v else gi w a b := rfl
theorem gl_sl (w : Wd) (k j a b : Nat) (v : Int64) : gl (sl w k j v) a b = if a = k ∧ b = j then v else gl w a b := rfl
theorem gi_sl (w : Wd) (k j a b : Nat) (v : Int64) : gi (sl w k j v) a b = gi w a b := rfl
theorem gl_si (w : Wd) (k j a b : Nat) (v : Int32) : gl (si w k j v) a b = gl w a b := rfl
/-- a cell: an object (its class's number; of each field none for a number, or the place of the cell that it holds), or an array (its type's number, its length) -/
abbrev Ds : Type := (Nat × List (Option Nat)) ⊕ (Nat × Nat)
abbrev Gm : Type := va_G × (Nat → ClassId) × (Nat → Nat) × Nat × (Nat → Ds) × List vw_C × List FieldType × (State → Heap → Prop)
abbrev gD (Γ : Gm) : va_G := Γ.1
abbrev gA (Γ : Gm) : Nat → ClassId := Γ.2.1
abbrev gad (Γ : Gm) : Nat → Nat := Γ.2.2.1
abbrev gN (Γ : Gm) : Nat := Γ.2.2.2.1
abbrev gds (Γ : Gm) : Nat → Ds := Γ.2.2.2.2.1
abbrev gcl (Γ : Gm) : List vw_C := Γ.2.2.2.2.2.1
abbrev gtl (Γ : Gm) : List FieldType := Γ.2.2.2.2.2.2.1
abbrev gE (Γ : Gm) : State → Heap → Prop := Γ.2.2.2.2.2.2.2
def gty (Γ : Gm) : List (ClassId × FieldType) := (gtl Γ).mapIdx (fun i t => (gA Γ i, t))
theorem gty_at {Γ : Gm} {i : Nat} {t : FieldType} (h : (gtl Γ)[i]? = some t) : (gty Γ)[i]? = some (gA Γ i, t) := by simp [gty, List.getElem?_mapIdx, h]
def fv (Γ : Gm) (w : Wd) (k j : Nat) (d : Option Nat) : Value := match d with
  | none => .int (gi w k j)
  | some t => if t = 999 then .null else .ref (gad Γ t)
def ceOf (Γ : Gm) (w : Wd) (k : Nat) : va_E := match gds Γ k with
  | .inl q => .inr (q.1, q.2.mapIdx (fun j d => fv Γ w k j d))
  | .inr q => .inl (gA Γ q.1, q.2, if q.1 = 1 then .inr (.inl (gl w k)) else if q.1 = 4 then .inr (.inr (.inr (.inr (fun i => some (gad Γ (600 + i)))))) else .inl (gi w k))
def wl (Γ : Gm) (w : Wd) : va_W := (List.range (gN Γ)).map (fun k => (gad Γ k, ceOf Γ w k))
def gAw (Γ : Gm) : Nat → Prop := fun q => ∃ k, k < gN Γ ∧ q = gad Γ k
theorem wl_at {Γ : Gm} {w : Wd} {k : Nat} (h : k < gN Γ) : (wl Γ w)[k]? = some (gad Γ k, ceOf Γ w k) := by simp [wl, h]
theorem wl_inv {Γ : Gm} {w : Wd} {k : Nat} {q : Nat × va_E} (h : (wl Γ w)[k]? = some q) : k < gN Γ ∧ q = (gad Γ k, ceOf Γ w k) := by
  have hl : k < (wl Γ w).length := (List.getElem?_eq_some_iff.mp h).1
  have hk : k < gN Γ := by simpa [wl] using hl
  rw [wl_at hk] at h
  exact ⟨hk, (Option.some.inj h).symm⟩
theorem wl_set {Γ : Gm} {w w' : Wd} {k : Nat} {e : va_E} (h : k < gN Γ) (he : e = ceOf Γ w' k) (ho : ∀ j, j ≠ k → ceOf Γ w' j = ceOf Γ w j) : (wl Γ w).set k (gad Γ k, e) = wl Γ w' := by
  subst he
  apply List.ext_getElem?
  intro i
  by_cases hi : i = k
  · subst hi
    rw [List.getElem?_set_self (by simpa [wl] using h), wl_at h]
  · rw [List.getElem?_set_ne (Ne.symm hi)]
    by_cases hN : i < gN Γ
    · rw [wl_at hN, wl_at hN, ho i hi]
    · rw [List.getElem?_eq_none (by simpa [wl] using hN), List.getElem?_eq_none (by simpa [wl] using hN)]
theorem ceOf_si_ne {Γ : Gm} {w : Wd} {k i j : Nat} {v : Int32} (h : j ≠ k) : ceOf Γ (si w k i v) j = ceOf Γ w j := by
  have h1 : ∀ b, gi (si w k i v) j b = gi w j b := fun b => by rw [gi_si, if_neg (fun q => h q.1)]
  have h2 : gi (si w k i v) j = gi w j := funext h1
  have h3 : gl (si w k i v) j = gl w j := rfl
  have h4 : (fun a d => fv Γ (si w k i v) j a d) = (fun a d => fv Γ w j a d) := by
    funext a d
    cases d with
    | none => simp [fv, h1]
    | some t => rfl
  unfold ceOf
  rw [h2, h3, h4]
theorem ceOf_sl_ne {Γ : Gm} {w : Wd} {k i j : Nat} {v : Int64} (h : j ≠ k) : ceOf Γ (sl w k i v) j = ceOf Γ w j := by
  have h2 : gi (sl w k i v) j = gi w j := rfl
  have h3 : gl (sl w k i v) j = gl w j := funext fun b => by rw [gl_sl, if_neg (fun q => h q.1)]
  have h4 : (fun a d => fv Γ (sl w k i v) j a d) = (fun a d => fv Γ w j a d) := by
    funext a d
    cases d <;> rfl
  unfold ceOf
  rw [h2, h3, h4]
/-- what stays: the addresses are apart; what else stands in the heap goes on where the side's cells alone change -/
def GOK (Γ : Gm) : Prop := (∀ i j, i < gN Γ → j < gN Γ → gad Γ i = gad Γ j → i = j) ∧ (∀ (u U : State) (H : Heap), u.WarmedH U.vm → gE Γ u H → gE Γ U H) ∧ (∀ (U : State) (H H1 : Heap), H.size ≤ H1.size → (∀ a : Nat, a < H.size → ¬ gAw Γ a → H1[a]? = H[a]?) → gE Γ U H → gE Γ U H1)
theorem wl_D {Γ : Gm} (h : GOK Γ) (w : Wd) : va_D (gAw Γ) (wl Γ w) := by
  refine ⟨fun i j p q hi hj e => ?_, fun k q hk => ?_⟩
  · obtain ⟨h1, rfl⟩ := wl_inv hi
    obtain ⟨h2, rfl⟩ := wl_inv hj
    exact h.1 i j h1 h2 e
  · obtain ⟨h1, rfl⟩ := wl_inv hk
    exact ⟨k, h1, rfl⟩
def tr (Γ : Gm) : Value → Value
  | .ref k => .ref (gad Γ k)
  | v => v
def trp (Γ : Gm) (q : Nat × Value) : Nat × Value := (q.1, tr Γ q.2)
theorem tr_cat (Γ : Gm) (v : Value) : (tr Γ v).category = v.category := by cases v <;> rfl
/-- the words of the tables that any method may lean on -/
def TB : List Cond := lw_tbl.filter goodWord
theorem tb_in {w : Cond} (i : Nat) (h : lw_tbl[i]? = some w) (hg : goodWord w = true) : w ∈ TB := List.mem_filter.mpr ⟨List.mem_of_getElem? h, hg⟩
def rmD (d : Nat) : Room := { frames := d, cells := 0, slots := 0, locals := 45 * d }
def Cx (Γ : Gm) (y : MethodName) (cc : ByteArray) (nL : Nat) (ret : Option FieldType) (p : Program) (s : State) (m : MethodId) (args : Array Value) (meth : Method) (c : Code) : Prop :=
  p.tables.exec = Jvm.exec ∧ c.code = cc ∧ meth.sig.returnType = ret ∧ c.maxLocals = nL ∧ s.vm.findClass y.cls = some m.cls ∧ (∀ w ∈ TB, w.before args s = true) ∧ meth.locks = false ∧ (∀ x ∈ c.exceptionTable.toList, False) ∧ va_K (gD Γ) (gcl Γ) (gty Γ) s ∧ gE Γ s s.heap ∧ GOK Γ
def Qn (Γ : Gm) (N : Option Value → Wd → Prop) : Array Value → State → Outcome → State → Prop := fun _ st oc t => (∃ (v : Option Value) (w : Wd), oc = .returned (v.map (tr Γ)) ∧ N v w ∧ va_P (gD Γ) (gcl Γ) (wl Γ w) t.heap) ∧ va_F (gAw Γ) st t
def Xn (Γ : Gm) (X : String → Wd → Prop) : String → State → State → Prop := fun E st t => (∃ w : Wd, X E w ∧ va_P (gD Γ) (gcl Γ) (wl Γ w) t.heap) ∧ va_F (gAw Γ) st t
def Pn (Γ : Gm) (av : List Value) (w : Wd) : Array Value → State → Prop := fun v U => v = (av.map (tr Γ)).toArray ∧ va_P (gD Γ) (gcl Γ) (wl Γ w) U.heap ∧ va_K (gD Γ) (gcl Γ) (gty Γ) U ∧ gE Γ U U.heap ∧ GOK Γ
/-- the contract: from these arguments and this world, at most d frames deep -/
def Ct (Γ : Gm) (l : Launch) (d : Nat) (y : MethodName) (cc : ByteArray) (nL : Nat) (ret : Option FieldType) (av : List Value) (w : Wd) (N : Option Value → Wd → Prop) (X : String → Wd → Prop) : Prop :=
  vx_Met l y (Cond.code y cc nL ret :: TB) (rmD d) (Pn Γ av w) (Qn Γ N) (Xn Γ X) 0 0 (gAw Γ)
def RT (Γ : Gm) (l : Launch) (d : Nat) (y : MethodName) (cc : ByteArray) (nL : Nat) (ret : Option FieldType) (N : Option Value → Wd → Prop) (X : String → Wd → Prop) (pc : Nat) (stk : List Value) (loc : List (Nat × Value)) (w : Wd) : Prop :=
  ∀ (p : Program) (e : Env) (s : State) (m : MethodId) (args : Array Value) (below : List Frame) (meth : Method) (c : Code) (H : Heap) (locs : List Loc) (ls : Array Slot), Cx Γ y cc nL ret p s m args meth c → va_P (gD Γ) (gcl Γ) (wl Γ w) H → va_S (gAw Γ) s.heap H locs → lv_has ls nL (loc.map (trp Γ)) →
    W p l e (rmD d) s m args below meth c H locs 0 0 (vx_MQ below (Qn Γ N) (Xn Γ X) args s 0 0 (gAw Γ)) (F0 m pc ls (stk.map (tr Γ)))
theorem lg_sl_tr (Γ : Gm) (vs : List Value) : (lg_sl (vs.map (tr Γ))).length = (lg_sl vs).length := by
  induction vs with
  | nil => rfl
  | cons v t ih =>
    simp only [lg_sl, List.map_cons, List.flatMap_cons, List.length_append, tr_cat] at ih ⊢
    rw [ih]
    split <;> rfl
theorem lv_args_tr (Γ : Gm) : ∀ (i : Nat) (vs : List Value), lv_args i (vs.map (tr Γ)) = (lv_args i vs).map (trp Γ)
  | _, [] => rfl
  | i, v :: vs => by
    simp only [lv_args, List.map_cons, tr_cat]
    rw [lv_args_tr Γ _ vs]
    rfl
theorem pn_blind (Γ : Gm) (av : List Value) (w : Wd) : FrameBlind (Pn Γ av w) := fun a U g mk q => by
  obtain ⟨h1, h2, h3, h4, h5⟩ := q
  exact ⟨h1, h2, va_K.moved (u := U) (U := U.calling g mk a) (Vm.Alike.refl U.vm) h3, h5.2.1 U (U.calling g mk a) _ (State.WarmedH.refl U) h4, h5⟩
section RTR
variable {Γ : Gm} {l : Launch} {d : Nat} {y : MethodName} {cc : ByteArray} {nL : Nat} {ret : Option FieldType} {N : Option Value → Wd → Prop} {X : String → Wd → Prop} {pc : Nat} {rest : List Value} {loc : List (Nat × Value)} {w : Wd}
theorem Ct.of {av : List Value} (hy : plainName y.cls = true) (hn : (lg_sl av).length ≤ nL) (h : RT Γ l d y cc nL ret N X 0 [] (lv_args 0 av) w) : Ct Γ l d y cc nL ret av w N X := by
  refine vx_ofW (cc := cc) (maxL := nL) (ret := ret) hy rfl ?_
  intro p e s m args below meth c s₁ B hml het hp
  obtain ⟨rfl, hP, hK, hE, hG⟩ := hp
  have hts := atoms_spec (ws := Cond.code y cc nL ret :: TB) B.pre
  have hown : s.vm.findClass y.cls = some m.cls := findClass_of_methodNamed B.named
  have hl := lv_entry (av.map (tr Γ)) (n := nL) (by rw [lg_sl_tr]; exact hn)
  rw [lg_entry_eq]
  rw [lv_args_tr] at hl
  exact h p e s m _ below meth c s.heap [] _ ⟨B.exec, B.bytes, B.returns, hml, hown, fun w hw => hts w (List.mem_cons_of_mem _ hw), B.notSynchronized, het, hK, hE, hG⟩ hP va_S.rf hl
theorem Ct.mono {av : List Value} {N' : Option Value → Wd → Prop} {X' : String → Wd → Prop} (h : Ct Γ l d y cc nL ret av w N X) (hN : ∀ v u, N v u → N' v u) (hX : ∀ E u, X E u → X' E u) : Ct Γ l d y cc nL ret av w N' X' := by
  intro p e ha hc hk s m args below hf hap hP hK
  obtain ⟨t, o, h1, h2, h3, h4⟩ := h p e ha hc hk s m args below hf hap hP hK
  refine ⟨t, o, h1, h2, h3, ?_⟩
  rcases h4 with ⟨⟨⟨v, u, e1, e2, e3⟩, hF⟩, hL⟩ | ⟨q, e1, E, ce, L, ⟨⟨u, e2, e3⟩, hF⟩, e4⟩
  · exact Or.inl ⟨⟨⟨v, u, e1, hN v u e2, e3⟩, hF⟩, hL⟩
  · exact Or.inr ⟨q, e1, E, ce, L, ⟨⟨u, hX E u e2, e3⟩, hF⟩, e4⟩
end RTR
