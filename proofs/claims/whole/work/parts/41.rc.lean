/-! MAKING: a side while its constructors run; its cells by places in the order of their making, its fields of references null until they are set (A: the pairs set so far) -/
abbrev Gb : Type := va_G × (Nat → ClassId) × List vw_C × List FieldType × (State → Heap → Prop) × (Nat → Prop) × (Nat → Ds) × (Nat → Nat)
abbrev bE (b : Gb) : State → Heap → Prop := b.2.2.2.2.1
abbrev bF (b : Gb) : Nat → Prop := b.2.2.2.2.2.1
abbrev bds (b : Gb) : Nat → Ds := b.2.2.2.2.2.2.1
/-- the addresses of what stands beside the side, by the places from 600 on -/
abbrev bhi (b : Gb) : Nat → Nat := b.2.2.2.2.2.2.2
def gst (A : List (Nat × Nat)) (k : Nat) (j : Nat) (f : Option Nat) : Option Nat := match f with
  | none => none
  | some t => if A.contains (k, j) then some t else some 999
def dsF (ds : Nat → Ds) (A : List (Nat × Nat)) : Nat → Ds := fun k => match ds k with
  | .inl q => .inl (q.1, q.2.mapIdx (gst A k))
  | .inr q => .inr q
def gsA (b : Gb) (ad : Nat → Nat) (n : Nat) (A : List (Nat × Nat)) : Gm := (b.1, b.2.1, ad, n, dsF (bds b) A, b.2.2.1, b.2.2.2.1, bE b)
def EOK (b : Gb) : Prop := (∀ (u U : State) (H : Heap), u.WarmedH U.vm → bE b u H → bE b U H) ∧ (∀ (U : State) (H H1 : Heap), H.size ≤ H1.size → (∀ a : Nat, a < H.size → ¬ bF b a → H1[a]? = H[a]?) → bE b U H → bE b U H1)
def rmC (fr C S : Nat) : Room := { frames := fr, cells := C, slots := S, locals := 45 * fr }
def gtyb (b : Gb) : List (ClassId × FieldType) := b.2.2.2.1.mapIdx (fun i t => (b.2.1 i, t))
def CxC (b : Gb) (y : MethodName) (cc : ByteArray) (nL : Nat) (p : Program) (s : State) (m : MethodId) (args : Array Value) (meth : Method) (c : Code) : Prop :=
  p.tables.exec = Jvm.exec ∧ c.code = cc ∧ meth.sig.returnType = none ∧ c.maxLocals = nL ∧ s.vm.findClass y.cls = some m.cls ∧ (∀ w ∈ TB, w.before args s = true) ∧ meth.locks = false ∧ meth.name = "<init>" ∧ va_K b.1 b.2.2.1 (gtyb b) s ∧ bE b s s.heap ∧ EOK b ∧ (∀ q, s.heap.size ≤ q → bF b q)
def QC (b : Gb) (ad0 : Nat → Nat) (n0 n1 : Nat) (A1 : List (Nat × Nat)) (w1 : Wd) : Array Value → State → Outcome → State → Prop := fun _ st oc t => (oc = .returned none ∧ ∃ ad1 : Nat → Nat, ((∀ k, k < n0 → ad1 k = ad0 k) ∧ (∀ k, 600 ≤ k → ad1 k = bhi b k)) ∧ va_P b.1 b.2.2.1 (wl (gsA b ad1 n1 A1) w1) t.heap ∧ va_D (bF b) (wl (gsA b ad1 n1 A1) w1)) ∧ va_F (bF b) st t
def RC (b : Gb) (ad0 : Nat → Nat) (n0 n1 : Nat) (A1 : List (Nat × Nat)) (w1 : Wd) (l : Launch) (fr C S : Nat) (y : MethodName) (cc : ByteArray) (nL : Nat) (n : Nat) (A : List (Nat × Nat)) (kc ks pc : Nat) (stk : List Value) (loc : List (Nat × Value)) (w : Wd) : Prop :=
  ∀ (ad : Nat → Nat), ((∀ k, k < n0 → ad k = ad0 k) ∧ (∀ k, 600 ≤ k → ad k = bhi b k)) → ∀ (p : Program) (e : Env) (s : State) (m : MethodId) (args : Array Value) (below : List Frame) (meth : Method) (c : Code) (H : Heap) (locs : List Loc) (ls : Array Slot), CxC b y cc nL p s m args meth c → va_P b.1 b.2.2.1 (wl (gsA b ad n A) w) H → va_D (bF b) (wl (gsA b ad n A) w) → va_S (bF b) s.heap H locs → lv_has ls nL (loc.map (trp (gsA b ad n A))) →
    W p l e (rmC fr C S) s m args below meth c H locs kc ks (MQ below (QC b ad0 n0 n1 A1 w1) args s C S (bF b)) (F0 m pc ls (stk.map (tr (gsA b ad n A))))
/-- a constructor's contract -/
def CC (b : Gb) (l : Launch) (fr C S : Nat) (y : MethodName) (cc : ByteArray) (nL : Nat) (av : List Value) (n : Nat) (A : List (Nat × Nat)) (w : Wd) (n1 : Nat) (A1 : List (Nat × Nat)) (w1 : Wd) : Prop :=
  ∀ ad : Nat → Nat, (∀ k, 600 ≤ k → ad k = bhi b k) → Met l y (Cond.code y cc nL none :: TB) (rmC fr C S) (fun v U => v = (av.map (tr (gsA b ad n A))).toArray ∧ va_P b.1 b.2.2.1 (wl (gsA b ad n A) w) U.heap ∧ va_D (bF b) (wl (gsA b ad n A) w) ∧ va_K b.1 b.2.2.1 (gtyb b) U ∧ bE b U U.heap ∧ EOK b ∧ (∀ q, U.heap.size ≤ q → bF b q)) (QC b ad n n1 A1 w1) C S (bF b)
theorem CC.of {b : Gb} {l : Launch} {fr C S : Nat} {y : MethodName} {cc : ByteArray} {nL : Nat} {av : List Value} {n : Nat} {A : List (Nat × Nat)} {w : Wd} {n1 : Nat} {A1 : List (Nat × Nat)} {w1 : Wd} (hy : plainName y.cls = true) (hy1 : y.name = "<init>") (hn : (lg_sl av).length ≤ nL) (h : ∀ ad0, RC b ad0 n n1 A1 w1 l fr C S y cc nL n A 0 0 0 [] (lv_args 0 av) w) : CC b l fr C S y cc nL av n A w n1 A1 w1 := by
  intro ad hhi
  refine Met.ofW (cc := cc) (maxL := nL) (ret := none) hy rfl ?_
  intro p e s m args below meth c s₁ B hml hp
  obtain ⟨rfl, hP, hD, hK, hE, hO, hA⟩ := hp
  have hts := atoms_spec (ws := Cond.code y cc nL none :: TB) B.pre
  have hown : s.vm.findClass y.cls = some m.cls := findClass_of_methodNamed B.named
  have hin : meth.name = "<init>" := ((name_of_methodNamed B.named B.method).1).trans hy1
  have hl := lv_entry (av.map (tr (gsA b ad n A))) (n := nL) (by rw [lg_sl_tr]; exact hn)
  rw [lg_entry_eq]
  rw [lv_args_tr] at hl
  exact h ad ad ⟨fun _ _ => rfl, hhi⟩ p e s m _ below meth c s.heap [] _ ⟨B.exec, B.bytes, B.returns, hml, hown, fun w hw => hts w (List.mem_cons_of_mem _ hw), B.notSynchronized, hin, hK, hE, hO, hA⟩ hP hD va_S.rf hl
-- the stages of the descriptors
theorem dsF_ne {ds : Nat → Ds} {A : List (Nat × Nat)} {k j k' : Nat} (h : k' ≠ k) : dsF ds ((k, j) :: A) k' = dsF ds A k' := by
  have hg : gst ((k, j) :: A) k' = gst A k' := by
    funext i f
    cases f with
    | none => rfl
    | some t =>
      have : ((k', i) == (k, j)) = false := by simp [h]
      simp only [gst, List.contains_cons, this, Bool.false_or]
  unfold dsF
  rw [hg]
theorem wl_len (Γ : Gm) (w : Wd) : (wl Γ w).length = gN Γ := by simp [wl]
theorem wl_put {b : Gb} {ad : Nat → Nat} {n k j ci t : Nat} {A : List (Nat × Nat)} {w : Wd} {fs : List (Option Nat)} (hk : k < n) (hd : bds b k = .inl (ci, fs)) (hj : fs[j]? = some (some t)) (ht : t ≠ 999) : (wl (gsA b ad n A) w).set k (ad k, .inr (ci, ((fs.mapIdx (gst A k)).mapIdx (fun j d => fv (gsA b ad n A) w k j d)).set j (.ref (ad t)))) = wl (gsA b ad n ((k, j) :: A)) w := by
  have hjl : j < fs.length := (List.getElem?_eq_some_iff.mp hj).1
  apply List.ext_getElem?
  intro i
  by_cases hi : i = k
  · subst hi
    rw [List.getElem?_set_self (by rw [wl_len]; exact hk), wl_at (Γ := gsA b ad n ((i, j) :: A)) hk]
    congr 1
    show (ad i, _) = (ad i, ceOf (gsA b ad n ((i, j) :: A)) w i)
    congr 1
    have hg : gds (gsA b ad n ((i, j) :: A)) i = .inl (ci, fs.mapIdx (gst ((i, j) :: A) i)) := by
      show dsF (bds b) ((i, j) :: A) i = _
      unfold dsF
      rw [hd]
    unfold ceOf
    rw [hg]
    dsimp only
    congr 2
    apply List.ext_getElem?
    intro q
    by_cases hq : q = j
    · subst hq
      rw [List.getElem?_set_self (by simpa using hjl)]
      rw [List.getElem?_mapIdx, List.getElem?_mapIdx, hj]
      simp [gst, fv, ht]
      rfl
    · rw [List.getElem?_set_ne (Ne.symm hq)]
      rw [List.getElem?_mapIdx, List.getElem?_mapIdx, List.getElem?_mapIdx, List.getElem?_mapIdx]
      cases hfq : fs[q]? with
      | none => rfl
      | some f =>
        cases f with
        | none => rfl
        | some z =>
          have : ((i, q) == (i, j)) = false := by simp [hq]
          simp only [Option.map_some, gst, List.contains_cons, this, Bool.false_or]
          rfl
  · rw [List.getElem?_set_ne (Ne.symm hi)]
    by_cases hN : i < n
    · rw [wl_at (Γ := gsA b ad n A) hN, wl_at (Γ := gsA b ad n ((k, j) :: A)) hN]
      congr 1
      show (ad i, ceOf (gsA b ad n A) w i) = (ad i, ceOf (gsA b ad n ((k, j) :: A)) w i)
      congr 1
      have hg : gds (gsA b ad n ((k, j) :: A)) i = gds (gsA b ad n A) i := dsF_ne hi
      unfold ceOf
      rw [hg]
      rfl
    · rw [List.getElem?_eq_none (by rw [wl_len]; exact Nat.le_of_not_lt hN), List.getElem?_eq_none (by rw [wl_len]; exact Nat.le_of_not_lt hN)]
/-- the world, one place nought -/
def zr (w : Wd) (n : Nat) : Wd := (fun a b => if a = n then 0 else w.1 a b, fun a b => if a = n then 0 else w.2 a b)
/-- the references set so far lead to places below n -/
def okA (ds : Nat → Ds) (A : List (Nat × Nat)) (n : Nat) : Bool := A.all (fun p => match ds p.1 with
  | .inl q => (match q.2[p.2]? with
    | some (some t) => Nat.blt t n
    | _ => true)
  | .inr _ => true)
def vbn (n : Nat) : Value → Bool
  | .ref k => Nat.blt k n
  | _ => true
def upA (ad : Nat → Nat) (n q : Nat) : Nat → Nat := fun k => if k = n then q else ad k
theorem tr_ag {b : Gb} {ad ad1 : Nat → Nat} {n n' n'' : Nat} {A A' : List (Nat × Nat)} {v : Value} (ha : ∀ k, k < n → ad1 k = ad k) (h : vbn n v = true) : tr (gsA b ad1 n' A') v = tr (gsA b ad n'' A) v := by
  cases v with
  | ref k =>
    show Value.ref (ad1 k) = Value.ref (ad k)
    rw [ha k (Nat.blt_eq.mp h)]
  | _ => rfl
theorem stk_ag {b : Gb} {ad ad1 : Nat → Nat} {n n' n'' : Nat} {A A' : List (Nat × Nat)} (ha : ∀ k, k < n → ad1 k = ad k) : ∀ {st : List Value}, st.all (vbn n) = true → st.map (tr (gsA b ad1 n' A')) = st.map (tr (gsA b ad n'' A))
  | [], _ => rfl
  | v :: t, h => by
    simp only [List.all_cons, Bool.and_eq_true] at h
    rw [List.map_cons, List.map_cons, tr_ag ha h.1, stk_ag ha h.2]
theorem loc_ag {b : Gb} {ad ad1 : Nat → Nat} {n n' n'' : Nat} {A A' : List (Nat × Nat)} (ha : ∀ k, k < n → ad1 k = ad k) : ∀ {lo : List (Nat × Value)}, lo.all (fun x => vbn n x.2) = true → lo.map (trp (gsA b ad1 n' A')) = lo.map (trp (gsA b ad n'' A))
  | [], _ => rfl
  | v :: t, h => by
    simp only [List.all_cons, Bool.and_eq_true] at h
    rw [List.map_cons, List.map_cons, loc_ag ha h.2]
    show (v.1, _) :: _ = (v.1, _) :: _
    rw [tr_ag ha h.1]
theorem up_ag {ad : Nat → Nat} {n q : Nat} : ∀ k, k < n → upA ad n q k = ad k := fun k hk => by unfold upA; rw [if_neg (by omega)]
theorem stk_up {b : Gb} {ad : Nat → Nat} {n n' n'' q : Nat} {A A' : List (Nat × Nat)} {st : List Value} (h : st.all (vbn n) = true) : st.map (tr (gsA b (upA ad n q) n' A')) = st.map (tr (gsA b ad n'' A)) := stk_ag up_ag h
theorem loc_up {b : Gb} {ad : Nat → Nat} {n n' n'' q : Nat} {A A' : List (Nat × Nat)} {lo : List (Nat × Value)} (h : lo.all (fun x => vbn n x.2) = true) : lo.map (trp (gsA b (upA ad n q) n' A')) = lo.map (trp (gsA b ad n'' A)) := loc_ag up_ag h
theorem ce_up {b : Gb} {ad : Nat → Nat} {n q k : Nat} {A : List (Nat × Nat)} {w : Wd} (hA : okA (bds b) A n = true) (hn : n < 600) (hk : k < n) : ceOf (gsA b (upA ad n q) (n + 1) A) (zr w n) k = ceOf (gsA b ad n A) w k := by
  have h1 : gi (zr w n) k = gi w k := by
    funext j
    show (if k = n then 0 else w.1 k j) = w.1 k j
    rw [if_neg (by omega)]
  have h2 : gl (zr w n) k = gl w k := by
    funext j
    show (if k = n then 0 else w.2 k j) = w.2 k j
    rw [if_neg (by omega)]
  have h3 : gds (gsA b (upA ad n q) (n + 1) A) k = gds (gsA b ad n A) k := rfl
  have h5 : ∀ i, upA ad n q (600 + i) = ad (600 + i) := fun i => by unfold upA; rw [if_neg (by omega)]
  unfold ceOf
  rw [h3]
  show (match dsF (bds b) A k with | .inl q9 => _ | .inr q9 => _) = (match dsF (bds b) A k with | .inl q9 => _ | .inr q9 => _)
  unfold dsF
  cases hd : bds b k with
  | inr z =>
    dsimp only
    rw [h1, h2]
    have h6 : (fun i => some (gad (gsA b (upA ad n q) (n + 1) A) (600 + i))) = (fun i => some (gad (gsA b ad n A) (600 + i))) := by
      funext i
      exact congrArg some (h5 i)
    rw [h6]
    rfl
  | inl z =>
    dsimp only
    congr 2
    apply List.ext_getElem?
    intro j
    rw [List.getElem?_mapIdx, List.getElem?_mapIdx, List.getElem?_mapIdx, List.getElem?_mapIdx]
    cases hf : z.2[j]? with
    | none => rfl
    | some f =>
      cases f with
      | none =>
        show some (Value.int (gi (zr w n) k j)) = some (Value.int (gi w k j))
        rw [h1]
      | some t =>
        simp only [Option.map_some, gst]
        by_cases hc : A.contains (k, j) = true
        · rw [if_pos hc]
          have hm : (k, j) ∈ A := List.contains_iff_mem.mp hc
          have hb := List.all_eq_true.mp hA _ hm
          rw [hd] at hb
          simp only [hf] at hb
          have ht : t < n := Nat.blt_eq.mp hb
          simp only [fv]
          have : gad (gsA b (upA ad n q) (n + 1) A) t = gad (gsA b ad n A) t := by
            show upA ad n q t = ad t
            unfold upA
            rw [if_neg (by omega)]
          rw [this]
        · rw [if_neg hc]
          rfl
theorem wl_new {b : Gb} {ad : Nat → Nat} {n q : Nat} {A : List (Nat × Nat)} {w : Wd} (hA : okA (bds b) A n = true) (hn : n < 600) {e : va_E} (he : ceOf (gsA b (upA ad n q) (n + 1) A) (zr w n) n = e) : wl (gsA b ad n A) w ++ [(q, e)] = wl (gsA b (upA ad n q) (n + 1) A) (zr w n) := by
  have hs : wl (gsA b (upA ad n q) (n + 1) A) (zr w n) = (List.range n).map (fun k => (gad (gsA b (upA ad n q) (n + 1) A) k, ceOf (gsA b (upA ad n q) (n + 1) A) (zr w n) k)) ++ [(gad (gsA b (upA ad n q) (n + 1) A) n, ceOf (gsA b (upA ad n q) (n + 1) A) (zr w n) n)] := by
    show (List.range (n + 1)).map _ = _
    rw [List.range_succ, List.map_append]
    rfl
  rw [hs, he]
  have hq : gad (gsA b (upA ad n q) (n + 1) A) n = q := by
    show upA ad n q n = q
    unfold upA
    rw [if_pos rfl]
  rw [hq]
  congr 1
  show (List.range n).map _ = (List.range n).map _
  apply List.map_congr_left
  intro k hk
  have hk := List.mem_range.mp hk
  rw [ce_up hA hn hk]
  congr 1
  show ad k = upA ad n q k
  unfold upA
  rw [if_neg (by omega)]

section RCR
variable {b : Gb} {ad0 : Nat → Nat} {n0 n1 : Nat} {A1 : List (Nat × Nat)} {w1 : Wd} {l : Launch} {fr C S : Nat} {y : MethodName} {cc : ByteArray} {nL : Nat} {n : Nat} {A : List (Nat × Nat)} {kc ks : Nat} {pc : Nat} {rest : List Value} {loc : List (Nat × Value)} {w : Wd}
theorem c_iconst {n9 : Int} {v : Int32} (hdg : decode cc pc = .ok (.iconst n9, 1)) (hv : Int32.ofInt n9 = v) (k : RC b ad0 n0 n1 A1 w1 l fr C S y cc nL n A kc ks (pc + 1) (.int v :: rest) loc w) : RC b ad0 n0 n1 A1 w1 l fr C S y cc nL n A kc ks pc rest loc w := by
  intro ad had p e s m args below meth c H locs ls hC hP hD hS hl
  obtain ⟨hx, hb, hr, hml, hown, hts, hlk, hin, hK, hE, hO, hF⟩ := id hC
  exact lv_iconst hx hb hdg hv (k ad had p e s m args below meth c H locs ls hC hP hD hS hl)
theorem c_bipush {n9 : Int} {v : Int32} (hdg : decode cc pc = .ok (.bipush n9, 2)) (hv : (Int8.ofInt n9).toInt32 = v) (k : RC b ad0 n0 n1 A1 w1 l fr C S y cc nL n A kc ks (pc + 2) (.int v :: rest) loc w) : RC b ad0 n0 n1 A1 w1 l fr C S y cc nL n A kc ks pc rest loc w := by
  intro ad had p e s m args below meth c H locs ls hC hP hD hS hl
  obtain ⟨hx, hb, hr, hml, hown, hts, hlk, hin, hK, hE, hO, hF⟩ := id hC
  exact lv_bipush hx hb hdg hv (k ad had p e s m args below meth c H locs ls hC hP hD hS hl)
theorem c_sipush {n9 : Int} {v : Int32} (hdg : decode cc pc = .ok (.sipush n9, 3)) (hv : (Int16.ofInt n9).toInt32 = v) (k : RC b ad0 n0 n1 A1 w1 l fr C S y cc nL n A kc ks (pc + 3) (.int v :: rest) loc w) : RC b ad0 n0 n1 A1 w1 l fr C S y cc nL n A kc ks pc rest loc w := by
  intro ad had p e s m args below meth c H locs ls hC hP hD hS hl
  obtain ⟨hx, hb, hr, hml, hown, hts, hlk, hin, hK, hE, hO, hF⟩ := id hC
  exact lv_sipush hx hb hdg hv (k ad had p e s m args below meth c H locs ls hC hP hD hS hl)
theorem c_lconst {n9 : Fin 2} {v : Int64} (hdg : decode cc pc = .ok (.lconst n9, 1)) (hv : Int64.ofNat (n9 : Nat) = v) (k : RC b ad0 n0 n1 A1 w1 l fr C S y cc nL n A kc ks (pc + 1) (.long v :: rest) loc w) : RC b ad0 n0 n1 A1 w1 l fr C S y cc nL n A kc ks pc rest loc w := by
  intro ad had p e s m args below meth c H locs ls hC hP hD hS hl
  obtain ⟨hx, hb, hr, hml, hown, hts, hlk, hin, hK, hE, hO, hF⟩ := id hC
  exact lv_lconst hx hb hdg hv (k ad had p e s m args below meth c H locs ls hC hP hD hS hl)
theorem c_ldc {index : Nat} {v : Int32} (hdg : decode cc pc = .ok (.ldc index, 2)) (hc : Cond.constant y.cls index v ∈ TB) (k : RC b ad0 n0 n1 A1 w1 l fr C S y cc nL n A kc ks (pc + 2) (.int v :: rest) loc w) : RC b ad0 n0 n1 A1 w1 l fr C S y cc nL n A kc ks pc rest loc w := by
  intro ad had p e s m args below meth c H locs ls hC hP hD hS hl
  obtain ⟨hx, hb, hr, hml, hown, hts, hlk, hin, hK, hE, hO, hF⟩ := id hC
  exact lv_ldc hx hb hown (hts _ hc) hdg (k ad had p e s m args below meth c H locs ls hC hP hD hS hl)
theorem c_ldcw {index : Nat} {v : Int32} (hdg : decode cc pc = .ok (.ldc_w index, 3)) (hc : Cond.constant y.cls index v ∈ TB) (k : RC b ad0 n0 n1 A1 w1 l fr C S y cc nL n A kc ks (pc + 3) (.int v :: rest) loc w) : RC b ad0 n0 n1 A1 w1 l fr C S y cc nL n A kc ks pc rest loc w := by
  intro ad had p e s m args below meth c H locs ls hC hP hD hS hl
  obtain ⟨hx, hb, hr, hml, hown, hts, hlk, hin, hK, hE, hO, hF⟩ := id hC
  exact lv_ldcw hx hb hown (hts _ hc) hdg (k ad had p e s m args below meth c H locs ls hC hP hD hS hl)
theorem c_ldc2 {index : Nat} {v : Int64} (hdg : decode cc pc = .ok (.ldc2_w index, 3)) (hc : Cond.constantLong y.cls index v ∈ TB) (k : RC b ad0 n0 n1 A1 w1 l fr C S y cc nL n A kc ks (pc + 3) (.long v :: rest) loc w) : RC b ad0 n0 n1 A1 w1 l fr C S y cc nL n A kc ks pc rest loc w := by
  intro ad had p e s m args below meth c H locs ls hC hP hD hS hl
  obtain ⟨hx, hb, hr, hml, hown, hts, hlk, hin, hK, hE, hO, hF⟩ := id hC
  exact lv_ldc2 hx hb hown (hts _ hc) hdg (k ad had p e s m args below meth c H locs ls hC hP hD hS hl)
theorem c_iload_n {k0 : Fin 4} {i : Nat} {x : Int32} (hdg : decode cc pc = .ok (.iload_n k0, 1)) (hi : (k0 : Nat) = i) (q : Nat) (hq : loc[q]? = some (i, .int x)) (k : RC b ad0 n0 n1 A1 w1 l fr C S y cc nL n A kc ks (pc + 1) (.int x :: rest) loc w) : RC b ad0 n0 n1 A1 w1 l fr C S y cc nL n A kc ks pc rest loc w := by
  intro ad had p e s m args below meth c H locs ls hC hP hD hS hl
  obtain ⟨hx, hb, hr, hml, hown, hts, hlk, hin, hK, hE, hO, hF⟩ := id hC
  exact lv_iload_n hx hb hdg hi (lv_at hl q (by rw [List.getElem?_map, hq]; rfl)) (k ad had p e s m args below meth c H locs ls hC hP hD hS hl)
theorem c_iload {i : Nat} {x : Int32} (hdg : decode cc pc = .ok (.iload i, 2)) (q : Nat) (hq : loc[q]? = some (i, .int x)) (k : RC b ad0 n0 n1 A1 w1 l fr C S y cc nL n A kc ks (pc + 2) (.int x :: rest) loc w) : RC b ad0 n0 n1 A1 w1 l fr C S y cc nL n A kc ks pc rest loc w := by
  intro ad had p e s m args below meth c H locs ls hC hP hD hS hl
  obtain ⟨hx, hb, hr, hml, hown, hts, hlk, hin, hK, hE, hO, hF⟩ := id hC
  exact lv_iload hx hb hdg (lv_at hl q (by rw [List.getElem?_map, hq]; rfl)) (k ad had p e s m args below meth c H locs ls hC hP hD hS hl)
theorem c_lload_n {k0 : Fin 4} {i : Nat} {x : Int64} (hdg : decode cc pc = .ok (.lload_n k0, 1)) (hi : (k0 : Nat) = i) (q : Nat) (hq : loc[q]? = some (i, .long x)) (k : RC b ad0 n0 n1 A1 w1 l fr C S y cc nL n A kc ks (pc + 1) (.long x :: rest) loc w) : RC b ad0 n0 n1 A1 w1 l fr C S y cc nL n A kc ks pc rest loc w := by
  intro ad had p e s m args below meth c H locs ls hC hP hD hS hl
  obtain ⟨hx, hb, hr, hml, hown, hts, hlk, hin, hK, hE, hO, hF⟩ := id hC
  exact lv_lload_n hx hb hdg hi (lv_at hl q (by rw [List.getElem?_map, hq]; rfl)) (k ad had p e s m args below meth c H locs ls hC hP hD hS hl)
theorem c_lload {i : Nat} {x : Int64} (hdg : decode cc pc = .ok (.lload i, 2)) (q : Nat) (hq : loc[q]? = some (i, .long x)) (k : RC b ad0 n0 n1 A1 w1 l fr C S y cc nL n A kc ks (pc + 2) (.long x :: rest) loc w) : RC b ad0 n0 n1 A1 w1 l fr C S y cc nL n A kc ks pc rest loc w := by
  intro ad had p e s m args below meth c H locs ls hC hP hD hS hl
  obtain ⟨hx, hb, hr, hml, hown, hts, hlk, hin, hK, hE, hO, hF⟩ := id hC
  exact lv_lload hx hb hdg (lv_at hl q (by rw [List.getElem?_map, hq]; rfl)) (k ad had p e s m args below meth c H locs ls hC hP hD hS hl)
theorem c_aload_n {k0 : Fin 4} {i : Nat} {x : Nat} (hdg : decode cc pc = .ok (.aload_n k0, 1)) (hi : (k0 : Nat) = i) (q : Nat) (hq : loc[q]? = some (i, .ref x)) (k : RC b ad0 n0 n1 A1 w1 l fr C S y cc nL n A kc ks (pc + 1) (.ref x :: rest) loc w) : RC b ad0 n0 n1 A1 w1 l fr C S y cc nL n A kc ks pc rest loc w := by
  intro ad had p e s m args below meth c H locs ls hC hP hD hS hl
  obtain ⟨hx, hb, hr, hml, hown, hts, hlk, hin, hK, hE, hO, hF⟩ := id hC
  exact lv_aload_n hx hb hdg hi (lv_at hl q (by rw [List.getElem?_map, hq]; rfl)) (k ad had p e s m args below meth c H locs ls hC hP hD hS hl)
theorem c_aload {i : Nat} {x : Nat} (hdg : decode cc pc = .ok (.aload i, 2)) (q : Nat) (hq : loc[q]? = some (i, .ref x)) (k : RC b ad0 n0 n1 A1 w1 l fr C S y cc nL n A kc ks (pc + 2) (.ref x :: rest) loc w) : RC b ad0 n0 n1 A1 w1 l fr C S y cc nL n A kc ks pc rest loc w := by
  intro ad had p e s m args below meth c H locs ls hC hP hD hS hl
  obtain ⟨hx, hb, hr, hml, hown, hts, hlk, hin, hK, hE, hO, hF⟩ := id hC
  exact lv_aload hx hb hdg (lv_at hl q (by rw [List.getElem?_map, hq]; rfl)) (k ad had p e s m args below meth c H locs ls hC hP hD hS hl)
theorem c_istore_n {k0 : Fin 4} {i : Nat} {x : Int32} {loc' : List (Nat × Value)} (hdg : decode cc pc = .ok (.istore_n k0, 1)) (hi : (k0 : Nat) = i) (hn : i < nL) (hl' : (i, Value.int x) :: loc.filter (fun q => !(q.1 == i) && !(q.1 + 1 == i && q.2.category == 2)) = loc') (k : RC b ad0 n0 n1 A1 w1 l fr C S y cc nL n A kc ks (pc + 1) rest loc' w) : RC b ad0 n0 n1 A1 w1 l fr C S y cc nL n A kc ks pc (.int x :: rest) loc w := by
  intro ad had p e s m args below meth c H locs ls hC hP hD hS hl
  obtain ⟨hx, hb, hr, hml, hown, hts, hlk, hin, hK, hE, hO, hF⟩ := id hC
  refine lv_istore_n (lv' := loc'.map (trp (gsA b ad n A))) hx hb hdg hi hl hn ?_ (fun ls' hl9 => k ad had p e s m args below meth c H locs ls' hC hP hD hS hl9)
  rw [← hl', List.map_cons, trp_filter (gsA b ad n A) loc _ (fun q => by simp only [trp, tr_cat])]
  rfl
theorem c_istore {i : Nat} {x : Int32} {loc' : List (Nat × Value)} (hdg : decode cc pc = .ok (.istore i, 2)) (hn : i < nL) (hl' : (i, Value.int x) :: loc.filter (fun q => !(q.1 == i) && !(q.1 + 1 == i && q.2.category == 2)) = loc') (k : RC b ad0 n0 n1 A1 w1 l fr C S y cc nL n A kc ks (pc + 2) rest loc' w) : RC b ad0 n0 n1 A1 w1 l fr C S y cc nL n A kc ks pc (.int x :: rest) loc w := by
  intro ad had p e s m args below meth c H locs ls hC hP hD hS hl
  obtain ⟨hx, hb, hr, hml, hown, hts, hlk, hin, hK, hE, hO, hF⟩ := id hC
  refine lv_istore (lv' := loc'.map (trp (gsA b ad n A))) hx hb hdg hl hn ?_ (fun ls' hl9 => k ad had p e s m args below meth c H locs ls' hC hP hD hS hl9)
  rw [← hl', List.map_cons, trp_filter (gsA b ad n A) loc _ (fun q => by simp only [trp, tr_cat])]
  rfl
theorem c_lstore_n {k0 : Fin 4} {i : Nat} {x : Int64} {loc' : List (Nat × Value)} (hdg : decode cc pc = .ok (.lstore_n k0, 1)) (hi : (k0 : Nat) = i) (hn : i + 1 < nL) (hl' : (i, Value.long x) :: loc.filter (fun q => !(q.1 == i) && (!(q.1 == i + 1) && !(q.1 + 1 == i && q.2.category == 2))) = loc') (k : RC b ad0 n0 n1 A1 w1 l fr C S y cc nL n A kc ks (pc + 1) rest loc' w) : RC b ad0 n0 n1 A1 w1 l fr C S y cc nL n A kc ks pc (.long x :: rest) loc w := by
  intro ad had p e s m args below meth c H locs ls hC hP hD hS hl
  obtain ⟨hx, hb, hr, hml, hown, hts, hlk, hin, hK, hE, hO, hF⟩ := id hC
  refine lv_lstore_n (lv' := loc'.map (trp (gsA b ad n A))) hx hb hdg hi hl hn ?_ (fun ls' hl9 => k ad had p e s m args below meth c H locs ls' hC hP hD hS hl9)
  rw [← hl', List.map_cons, trp_filter (gsA b ad n A) loc _ (fun q => by simp only [trp, tr_cat])]
  rfl
theorem c_lstore {i : Nat} {x : Int64} {loc' : List (Nat × Value)} (hdg : decode cc pc = .ok (.lstore i, 2)) (hn : i + 1 < nL) (hl' : (i, Value.long x) :: loc.filter (fun q => !(q.1 == i) && (!(q.1 == i + 1) && !(q.1 + 1 == i && q.2.category == 2))) = loc') (k : RC b ad0 n0 n1 A1 w1 l fr C S y cc nL n A kc ks (pc + 2) rest loc' w) : RC b ad0 n0 n1 A1 w1 l fr C S y cc nL n A kc ks pc (.long x :: rest) loc w := by
  intro ad had p e s m args below meth c H locs ls hC hP hD hS hl
  obtain ⟨hx, hb, hr, hml, hown, hts, hlk, hin, hK, hE, hO, hF⟩ := id hC
  refine lv_lstore (lv' := loc'.map (trp (gsA b ad n A))) hx hb hdg hl hn ?_ (fun ls' hl9 => k ad had p e s m args below meth c H locs ls' hC hP hD hS hl9)
  rw [← hl', List.map_cons, trp_filter (gsA b ad n A) loc _ (fun q => by simp only [trp, tr_cat])]
  rfl
theorem c_astore_n {k0 : Fin 4} {i : Nat} {x : Nat} {loc' : List (Nat × Value)} (hdg : decode cc pc = .ok (.astore_n k0, 1)) (hi : (k0 : Nat) = i) (hn : i < nL) (hl' : (i, Value.ref x) :: loc.filter (fun q => !(q.1 == i) && !(q.1 + 1 == i && q.2.category == 2)) = loc') (k : RC b ad0 n0 n1 A1 w1 l fr C S y cc nL n A kc ks (pc + 1) rest loc' w) : RC b ad0 n0 n1 A1 w1 l fr C S y cc nL n A kc ks pc (.ref x :: rest) loc w := by
  intro ad had p e s m args below meth c H locs ls hC hP hD hS hl
  obtain ⟨hx, hb, hr, hml, hown, hts, hlk, hin, hK, hE, hO, hF⟩ := id hC
  refine lv_astore_n (lv' := loc'.map (trp (gsA b ad n A))) hx hb hdg hi hl hn ?_ (fun ls' hl9 => k ad had p e s m args below meth c H locs ls' hC hP hD hS hl9)
  rw [← hl', List.map_cons, trp_filter (gsA b ad n A) loc _ (fun q => by simp only [trp, tr_cat])]
  rfl
theorem c_astore {i : Nat} {x : Nat} {loc' : List (Nat × Value)} (hdg : decode cc pc = .ok (.astore i, 2)) (hn : i < nL) (hl' : (i, Value.ref x) :: loc.filter (fun q => !(q.1 == i) && !(q.1 + 1 == i && q.2.category == 2)) = loc') (k : RC b ad0 n0 n1 A1 w1 l fr C S y cc nL n A kc ks (pc + 2) rest loc' w) : RC b ad0 n0 n1 A1 w1 l fr C S y cc nL n A kc ks pc (.ref x :: rest) loc w := by
  intro ad had p e s m args below meth c H locs ls hC hP hD hS hl
  obtain ⟨hx, hb, hr, hml, hown, hts, hlk, hin, hK, hE, hO, hF⟩ := id hC
  refine lv_astore (lv' := loc'.map (trp (gsA b ad n A))) hx hb hdg hl hn ?_ (fun ls' hl9 => k ad had p e s m args below meth c H locs ls' hC hP hD hS hl9)
  rw [← hl', List.map_cons, trp_filter (gsA b ad n A) loc _ (fun q => by simp only [trp, tr_cat])]
  rfl
theorem c_iinc {i q : Nat} {n9 : Int} {x v : Int32} {loc' : List (Nat × Value)} (hdg : decode cc pc = .ok (.iinc i n9, 3)) (hq : loc[q]? = some (i, .int x)) (hv : x + Int32.ofInt n9 = v) (hn : i < nL) (hl' : (i, Value.int v) :: loc.filter (fun q => !(q.1 == i) && !(q.1 + 1 == i && q.2.category == 2)) = loc') (k : RC b ad0 n0 n1 A1 w1 l fr C S y cc nL n A kc ks (pc + 3) rest loc' w) : RC b ad0 n0 n1 A1 w1 l fr C S y cc nL n A kc ks pc rest loc w := by
  intro ad had p e s m args below meth c H locs ls hC hP hD hS hl
  obtain ⟨hx, hb, hr, hml, hown, hts, hlk, hin, hK, hE, hO, hF⟩ := id hC
  refine lv_iinc (k := q) (lv' := loc'.map (trp (gsA b ad n A))) hx hb hdg hl (by rw [List.getElem?_map, hq]; rfl) hv hn ?_ (fun ls' hl9 => k ad had p e s m args below meth c H locs ls' hC hP hD hS hl9)
  rw [← hl', List.map_cons, trp_filter (gsA b ad n A) loc _ (fun q => by simp only [trp, tr_cat])]
  rfl
theorem c_drop {loc' : List (Nat × Value)} (ks9 : List Nat) (h : lv_pick loc ks9 = loc') (k : RC b ad0 n0 n1 A1 w1 l fr C S y cc nL n A kc ks pc rest loc' w) : RC b ad0 n0 n1 A1 w1 l fr C S y cc nL n A kc ks pc rest loc w := by
  intro ad had p e s m args below meth c H locs ls hC hP hD hS hl
  obtain ⟨hx, hb, hr, hml, hown, hts, hlk, hin, hK, hE, hO, hF⟩ := id hC
  refine k ad had p e s m args below meth c H locs ls hC hP hD hS (lv_sub hl ks9 ?_)
  subst h
  unfold lv_pick
  rw [List.map_filterMap]
  congr 1
  funext i
  rw [List.getElem?_map]
theorem c_iadd {x z : Int32} (hdg : decode cc pc = .ok (.iadd, 1))  (k : RC b ad0 n0 n1 A1 w1 l fr C S y cc nL n A kc ks (pc + 1) (.int (x + z) :: rest) loc w) : RC b ad0 n0 n1 A1 w1 l fr C S y cc nL n A kc ks pc (.int z :: .int x :: rest) loc w := by
  intro ad had p e s m args below meth c H locs ls hC hP hD hS hl
  obtain ⟨hx, hb, hr, hml, hown, hts, hlk, hin, hK, hE, hO, hF⟩ := id hC
  exact lv_iadd hx hb hdg  (k ad had p e s m args below meth c H locs ls hC hP hD hS hl)
theorem c_isub {x z : Int32} (hdg : decode cc pc = .ok (.isub, 1))  (k : RC b ad0 n0 n1 A1 w1 l fr C S y cc nL n A kc ks (pc + 1) (.int (x - z) :: rest) loc w) : RC b ad0 n0 n1 A1 w1 l fr C S y cc nL n A kc ks pc (.int z :: .int x :: rest) loc w := by
  intro ad had p e s m args below meth c H locs ls hC hP hD hS hl
  obtain ⟨hx, hb, hr, hml, hown, hts, hlk, hin, hK, hE, hO, hF⟩ := id hC
  exact lv_isub hx hb hdg  (k ad had p e s m args below meth c H locs ls hC hP hD hS hl)
theorem c_imul {x z : Int32} (hdg : decode cc pc = .ok (.imul, 1))  (k : RC b ad0 n0 n1 A1 w1 l fr C S y cc nL n A kc ks (pc + 1) (.int (x * z) :: rest) loc w) : RC b ad0 n0 n1 A1 w1 l fr C S y cc nL n A kc ks pc (.int z :: .int x :: rest) loc w := by
  intro ad had p e s m args below meth c H locs ls hC hP hD hS hl
  obtain ⟨hx, hb, hr, hml, hown, hts, hlk, hin, hK, hE, hO, hF⟩ := id hC
  exact lv_imul hx hb hdg  (k ad had p e s m args below meth c H locs ls hC hP hD hS hl)
theorem c_iand {x z : Int32} (hdg : decode cc pc = .ok (.iand, 1))  (k : RC b ad0 n0 n1 A1 w1 l fr C S y cc nL n A kc ks (pc + 1) (.int (x &&& z) :: rest) loc w) : RC b ad0 n0 n1 A1 w1 l fr C S y cc nL n A kc ks pc (.int z :: .int x :: rest) loc w := by
  intro ad had p e s m args below meth c H locs ls hC hP hD hS hl
  obtain ⟨hx, hb, hr, hml, hown, hts, hlk, hin, hK, hE, hO, hF⟩ := id hC
  exact lv_iand hx hb hdg  (k ad had p e s m args below meth c H locs ls hC hP hD hS hl)
theorem c_ior {x z : Int32} (hdg : decode cc pc = .ok (.ior, 1))  (k : RC b ad0 n0 n1 A1 w1 l fr C S y cc nL n A kc ks (pc + 1) (.int (x ||| z) :: rest) loc w) : RC b ad0 n0 n1 A1 w1 l fr C S y cc nL n A kc ks pc (.int z :: .int x :: rest) loc w := by
  intro ad had p e s m args below meth c H locs ls hC hP hD hS hl
  obtain ⟨hx, hb, hr, hml, hown, hts, hlk, hin, hK, hE, hO, hF⟩ := id hC
  exact lv_ior hx hb hdg  (k ad had p e s m args below meth c H locs ls hC hP hD hS hl)
theorem c_ladd {x z : Int64} (hdg : decode cc pc = .ok (.ladd, 1))  (k : RC b ad0 n0 n1 A1 w1 l fr C S y cc nL n A kc ks (pc + 1) (.long (x + z) :: rest) loc w) : RC b ad0 n0 n1 A1 w1 l fr C S y cc nL n A kc ks pc (.long z :: .long x :: rest) loc w := by
  intro ad had p e s m args below meth c H locs ls hC hP hD hS hl
  obtain ⟨hx, hb, hr, hml, hown, hts, hlk, hin, hK, hE, hO, hF⟩ := id hC
  exact lv_ladd hx hb hdg  (k ad had p e s m args below meth c H locs ls hC hP hD hS hl)
theorem c_lsub {x z : Int64} (hdg : decode cc pc = .ok (.lsub, 1))  (k : RC b ad0 n0 n1 A1 w1 l fr C S y cc nL n A kc ks (pc + 1) (.long (x - z) :: rest) loc w) : RC b ad0 n0 n1 A1 w1 l fr C S y cc nL n A kc ks pc (.long z :: .long x :: rest) loc w := by
  intro ad had p e s m args below meth c H locs ls hC hP hD hS hl
  obtain ⟨hx, hb, hr, hml, hown, hts, hlk, hin, hK, hE, hO, hF⟩ := id hC
  exact lv_lsub hx hb hdg  (k ad had p e s m args below meth c H locs ls hC hP hD hS hl)
theorem c_lmul {x z : Int64} (hdg : decode cc pc = .ok (.lmul, 1))  (k : RC b ad0 n0 n1 A1 w1 l fr C S y cc nL n A kc ks (pc + 1) (.long (x * z) :: rest) loc w) : RC b ad0 n0 n1 A1 w1 l fr C S y cc nL n A kc ks pc (.long z :: .long x :: rest) loc w := by
  intro ad had p e s m args below meth c H locs ls hC hP hD hS hl
  obtain ⟨hx, hb, hr, hml, hown, hts, hlk, hin, hK, hE, hO, hF⟩ := id hC
  exact lv_lmul hx hb hdg  (k ad had p e s m args below meth c H locs ls hC hP hD hS hl)
theorem c_land {x z : Int64} (hdg : decode cc pc = .ok (.land, 1))  (k : RC b ad0 n0 n1 A1 w1 l fr C S y cc nL n A kc ks (pc + 1) (.long (x &&& z) :: rest) loc w) : RC b ad0 n0 n1 A1 w1 l fr C S y cc nL n A kc ks pc (.long z :: .long x :: rest) loc w := by
  intro ad had p e s m args below meth c H locs ls hC hP hD hS hl
  obtain ⟨hx, hb, hr, hml, hown, hts, hlk, hin, hK, hE, hO, hF⟩ := id hC
  exact lv_land hx hb hdg  (k ad had p e s m args below meth c H locs ls hC hP hD hS hl)
theorem c_lor {x z : Int64} (hdg : decode cc pc = .ok (.lor, 1))  (k : RC b ad0 n0 n1 A1 w1 l fr C S y cc nL n A kc ks (pc + 1) (.long (x ||| z) :: rest) loc w) : RC b ad0 n0 n1 A1 w1 l fr C S y cc nL n A kc ks pc (.long z :: .long x :: rest) loc w := by
  intro ad had p e s m args below meth c H locs ls hC hP hD hS hl
  obtain ⟨hx, hb, hr, hml, hown, hts, hlk, hin, hK, hE, hO, hF⟩ := id hC
  exact lv_lor hx hb hdg  (k ad had p e s m args below meth c H locs ls hC hP hD hS hl)
theorem c_lxor {x z : Int64} (hdg : decode cc pc = .ok (.lxor, 1))  (k : RC b ad0 n0 n1 A1 w1 l fr C S y cc nL n A kc ks (pc + 1) (.long (x ^^^ z) :: rest) loc w) : RC b ad0 n0 n1 A1 w1 l fr C S y cc nL n A kc ks pc (.long z :: .long x :: rest) loc w := by
  intro ad had p e s m args below meth c H locs ls hC hP hD hS hl
  obtain ⟨hx, hb, hr, hml, hown, hts, hlk, hin, hK, hE, hO, hF⟩ := id hC
  exact lv_lxor hx hb hdg  (k ad had p e s m args below meth c H locs ls hC hP hD hS hl)
theorem c_idiv {x z : Int32} (hdg : decode cc pc = .ok (.idiv, 1)) (hne : ¬ z = 0) (k : RC b ad0 n0 n1 A1 w1 l fr C S y cc nL n A kc ks (pc + 1) (.int (x / z) :: rest) loc w) : RC b ad0 n0 n1 A1 w1 l fr C S y cc nL n A kc ks pc (.int z :: .int x :: rest) loc w := by
  intro ad had p e s m args below meth c H locs ls hC hP hD hS hl
  obtain ⟨hx, hb, hr, hml, hown, hts, hlk, hin, hK, hE, hO, hF⟩ := id hC
  exact lv_idiv hx hb hdg hne (k ad had p e s m args below meth c H locs ls hC hP hD hS hl)
theorem c_irem {x z : Int32} (hdg : decode cc pc = .ok (.irem, 1)) (hne : ¬ z = 0) (k : RC b ad0 n0 n1 A1 w1 l fr C S y cc nL n A kc ks (pc + 1) (.int (x - x / z * z) :: rest) loc w) : RC b ad0 n0 n1 A1 w1 l fr C S y cc nL n A kc ks pc (.int z :: .int x :: rest) loc w := by
  intro ad had p e s m args below meth c H locs ls hC hP hD hS hl
  obtain ⟨hx, hb, hr, hml, hown, hts, hlk, hin, hK, hE, hO, hF⟩ := id hC
  exact lv_irem hx hb hdg hne (k ad had p e s m args below meth c H locs ls hC hP hD hS hl)
theorem c_ldiv {x z : Int64} (hdg : decode cc pc = .ok (.ldiv, 1)) (hne : ¬ z = 0) (k : RC b ad0 n0 n1 A1 w1 l fr C S y cc nL n A kc ks (pc + 1) (.long (x / z) :: rest) loc w) : RC b ad0 n0 n1 A1 w1 l fr C S y cc nL n A kc ks pc (.long z :: .long x :: rest) loc w := by
  intro ad had p e s m args below meth c H locs ls hC hP hD hS hl
  obtain ⟨hx, hb, hr, hml, hown, hts, hlk, hin, hK, hE, hO, hF⟩ := id hC
  exact lv_ldiv hx hb hdg hne (k ad had p e s m args below meth c H locs ls hC hP hD hS hl)
theorem c_lrem {x z : Int64} (hdg : decode cc pc = .ok (.lrem, 1)) (hne : ¬ z = 0) (k : RC b ad0 n0 n1 A1 w1 l fr C S y cc nL n A kc ks (pc + 1) (.long (x - x / z * z) :: rest) loc w) : RC b ad0 n0 n1 A1 w1 l fr C S y cc nL n A kc ks pc (.long z :: .long x :: rest) loc w := by
  intro ad had p e s m args below meth c H locs ls hC hP hD hS hl
  obtain ⟨hx, hb, hr, hml, hown, hts, hlk, hin, hK, hE, hO, hF⟩ := id hC
  exact lv_lrem hx hb hdg hne (k ad had p e s m args below meth c H locs ls hC hP hD hS hl)
theorem c_ineg {x : Int32} (hdg : decode cc pc = .ok (.ineg, 1))  (k : RC b ad0 n0 n1 A1 w1 l fr C S y cc nL n A kc ks (pc + 1) (.int (-x) :: rest) loc w) : RC b ad0 n0 n1 A1 w1 l fr C S y cc nL n A kc ks pc (.int x :: rest) loc w := by
  intro ad had p e s m args below meth c H locs ls hC hP hD hS hl
  obtain ⟨hx, hb, hr, hml, hown, hts, hlk, hin, hK, hE, hO, hF⟩ := id hC
  exact lv_ineg hx hb hdg  (k ad had p e s m args below meth c H locs ls hC hP hD hS hl)
theorem c_lneg {x : Int64} (hdg : decode cc pc = .ok (.lneg, 1))  (k : RC b ad0 n0 n1 A1 w1 l fr C S y cc nL n A kc ks (pc + 1) (.long (-x) :: rest) loc w) : RC b ad0 n0 n1 A1 w1 l fr C S y cc nL n A kc ks pc (.long x :: rest) loc w := by
  intro ad had p e s m args below meth c H locs ls hC hP hD hS hl
  obtain ⟨hx, hb, hr, hml, hown, hts, hlk, hin, hK, hE, hO, hF⟩ := id hC
  exact lv_lneg hx hb hdg  (k ad had p e s m args below meth c H locs ls hC hP hD hS hl)
theorem c_ishl {x z : Int32} (hdg : decode cc pc = .ok (.ishl, 1))  (k : RC b ad0 n0 n1 A1 w1 l fr C S y cc nL n A kc ks (pc + 1) (.int (x <<< (z &&& 31)) :: rest) loc w) : RC b ad0 n0 n1 A1 w1 l fr C S y cc nL n A kc ks pc (.int z :: .int x :: rest) loc w := by
  intro ad had p e s m args below meth c H locs ls hC hP hD hS hl
  obtain ⟨hx, hb, hr, hml, hown, hts, hlk, hin, hK, hE, hO, hF⟩ := id hC
  exact lv_ishl hx hb hdg  (k ad had p e s m args below meth c H locs ls hC hP hD hS hl)
theorem c_ishr {x z : Int32} (hdg : decode cc pc = .ok (.ishr, 1))  (k : RC b ad0 n0 n1 A1 w1 l fr C S y cc nL n A kc ks (pc + 1) (.int (x >>> (z &&& 31)) :: rest) loc w) : RC b ad0 n0 n1 A1 w1 l fr C S y cc nL n A kc ks pc (.int z :: .int x :: rest) loc w := by
  intro ad had p e s m args below meth c H locs ls hC hP hD hS hl
  obtain ⟨hx, hb, hr, hml, hown, hts, hlk, hin, hK, hE, hO, hF⟩ := id hC
  exact lv_ishr hx hb hdg  (k ad had p e s m args below meth c H locs ls hC hP hD hS hl)
theorem c_iushr {x z : Int32} (hdg : decode cc pc = .ok (.iushr, 1))  (k : RC b ad0 n0 n1 A1 w1 l fr C S y cc nL n A kc ks (pc + 1) (.int ((x.toUInt32 >>> (z.toUInt32 &&& Int32.toUInt32 31)).toInt32) :: rest) loc w) : RC b ad0 n0 n1 A1 w1 l fr C S y cc nL n A kc ks pc (.int z :: .int x :: rest) loc w := by
  intro ad had p e s m args below meth c H locs ls hC hP hD hS hl
  obtain ⟨hx, hb, hr, hml, hown, hts, hlk, hin, hK, hE, hO, hF⟩ := id hC
  exact lv_iushr hx hb hdg rfl (k ad had p e s m args below meth c H locs ls hC hP hD hS hl)
theorem c_lshl {x : Int64} {z : Int32} (hdg : decode cc pc = .ok (.lshl, 1))  (k : RC b ad0 n0 n1 A1 w1 l fr C S y cc nL n A kc ks (pc + 1) (.long (x <<< (z.toInt64 &&& 63)) :: rest) loc w) : RC b ad0 n0 n1 A1 w1 l fr C S y cc nL n A kc ks pc (.int z :: .long x :: rest) loc w := by
  intro ad had p e s m args below meth c H locs ls hC hP hD hS hl
  obtain ⟨hx, hb, hr, hml, hown, hts, hlk, hin, hK, hE, hO, hF⟩ := id hC
  exact lv_lshl hx hb hdg rfl (k ad had p e s m args below meth c H locs ls hC hP hD hS hl)
theorem c_lshr {x : Int64} {z : Int32} (hdg : decode cc pc = .ok (.lshr, 1))  (k : RC b ad0 n0 n1 A1 w1 l fr C S y cc nL n A kc ks (pc + 1) (.long (x >>> (z.toInt64 &&& 63)) :: rest) loc w) : RC b ad0 n0 n1 A1 w1 l fr C S y cc nL n A kc ks pc (.int z :: .long x :: rest) loc w := by
  intro ad had p e s m args below meth c H locs ls hC hP hD hS hl
  obtain ⟨hx, hb, hr, hml, hown, hts, hlk, hin, hK, hE, hO, hF⟩ := id hC
  exact lv_lshr hx hb hdg rfl (k ad had p e s m args below meth c H locs ls hC hP hD hS hl)
theorem c_i2l {x : Int32} (hdg : decode cc pc = .ok (.i2l, 1))  (k : RC b ad0 n0 n1 A1 w1 l fr C S y cc nL n A kc ks (pc + 1) (.long x.toInt64 :: rest) loc w) : RC b ad0 n0 n1 A1 w1 l fr C S y cc nL n A kc ks pc (.int x :: rest) loc w := by
  intro ad had p e s m args below meth c H locs ls hC hP hD hS hl
  obtain ⟨hx, hb, hr, hml, hown, hts, hlk, hin, hK, hE, hO, hF⟩ := id hC
  exact lv_i2l hx hb hdg rfl (k ad had p e s m args below meth c H locs ls hC hP hD hS hl)
theorem c_l2i {x : Int64} (hdg : decode cc pc = .ok (.l2i, 1))  (k : RC b ad0 n0 n1 A1 w1 l fr C S y cc nL n A kc ks (pc + 1) (.int x.toInt32 :: rest) loc w) : RC b ad0 n0 n1 A1 w1 l fr C S y cc nL n A kc ks pc (.long x :: rest) loc w := by
  intro ad had p e s m args below meth c H locs ls hC hP hD hS hl
  obtain ⟨hx, hb, hr, hml, hown, hts, hlk, hin, hK, hE, hO, hF⟩ := id hC
  exact lv_l2i hx hb hdg rfl (k ad had p e s m args below meth c H locs ls hC hP hD hS hl)
theorem c_i2b {x : Int32} (hdg : decode cc pc = .ok (.i2b, 1))  (k : RC b ad0 n0 n1 A1 w1 l fr C S y cc nL n A kc ks (pc + 1) (.int x.toInt8.toInt32 :: rest) loc w) : RC b ad0 n0 n1 A1 w1 l fr C S y cc nL n A kc ks pc (.int x :: rest) loc w := by
  intro ad had p e s m args below meth c H locs ls hC hP hD hS hl
  obtain ⟨hx, hb, hr, hml, hown, hts, hlk, hin, hK, hE, hO, hF⟩ := id hC
  exact lv_i2b hx hb hdg rfl (k ad had p e s m args below meth c H locs ls hC hP hD hS hl)
theorem c_i2c {x : Int32} (hdg : decode cc pc = .ok (.i2c, 1))  (k : RC b ad0 n0 n1 A1 w1 l fr C S y cc nL n A kc ks (pc + 1) (.int (x.toUInt32 % 65536).toInt32 :: rest) loc w) : RC b ad0 n0 n1 A1 w1 l fr C S y cc nL n A kc ks pc (.int x :: rest) loc w := by
  intro ad had p e s m args below meth c H locs ls hC hP hD hS hl
  obtain ⟨hx, hb, hr, hml, hown, hts, hlk, hin, hK, hE, hO, hF⟩ := id hC
  exact lv_i2c hx hb hdg rfl (k ad had p e s m args below meth c H locs ls hC hP hD hS hl)
theorem c_lcmp {x z : Int64} (hdg : decode cc pc = .ok (.lcmp, 1))  (k : RC b ad0 n0 n1 A1 w1 l fr C S y cc nL n A kc ks (pc + 1) (.int (lg_cmp x z) :: rest) loc w) : RC b ad0 n0 n1 A1 w1 l fr C S y cc nL n A kc ks pc (.long z :: .long x :: rest) loc w := by
  intro ad had p e s m args below meth c H locs ls hC hP hD hS hl
  obtain ⟨hx, hb, hr, hml, hown, hts, hlk, hin, hK, hE, hO, hF⟩ := id hC
  exact W.lcmp hx hb hdg  (k ad had p e s m args below meth c H locs ls hC hP hD hS hl)
theorem c_dup {va : Value} (hdg : decode cc pc = .ok (.dup, 1)) (ha : va.category = 1) (k : RC b ad0 n0 n1 A1 w1 l fr C S y cc nL n A kc ks (pc + 1) (va :: va :: rest) loc w) : RC b ad0 n0 n1 A1 w1 l fr C S y cc nL n A kc ks pc (va :: rest) loc w := by
  intro ad had p e s m args below meth c H locs ls hC hP hD hS hl
  obtain ⟨hx, hb, hr, hml, hown, hts, hlk, hin, hK, hE, hO, hF⟩ := id hC
  exact lv_dup hx hb hdg (by rw [tr_cat]; exact ha) (k ad had p e s m args below meth c H locs ls hC hP hD hS hl)
theorem c_pop {va : Value} (hdg : decode cc pc = .ok (.pop, 1)) (ha : va.category = 1) (k : RC b ad0 n0 n1 A1 w1 l fr C S y cc nL n A kc ks (pc + 1) rest loc w) : RC b ad0 n0 n1 A1 w1 l fr C S y cc nL n A kc ks pc (va :: rest) loc w := by
  intro ad had p e s m args below meth c H locs ls hC hP hD hS hl
  obtain ⟨hx, hb, hr, hml, hown, hts, hlk, hin, hK, hE, hO, hF⟩ := id hC
  exact lv_pop hx hb hdg (by rw [tr_cat]; exact ha) (k ad had p e s m args below meth c H locs ls hC hP hD hS hl)
theorem c_dup_x1 {va vb : Value} (hdg : decode cc pc = .ok (.dup_x1, 1)) (ha : va.category = 1) (hb9 : vb.category = 1) (k : RC b ad0 n0 n1 A1 w1 l fr C S y cc nL n A kc ks (pc + 1) (va :: vb :: va :: rest) loc w) : RC b ad0 n0 n1 A1 w1 l fr C S y cc nL n A kc ks pc (va :: vb :: rest) loc w := by
  intro ad had p e s m args below meth c H locs ls hC hP hD hS hl
  obtain ⟨hx, hb, hr, hml, hown, hts, hlk, hin, hK, hE, hO, hF⟩ := id hC
  exact lv_dup_x1 hx hb hdg (by rw [tr_cat]; exact ha) (by rw [tr_cat]; exact hb9) (k ad had p e s m args below meth c H locs ls hC hP hD hS hl)
theorem c_dup_x2 {va vb vd : Value} (hdg : decode cc pc = .ok (.dup_x2, 1)) (ha : va.category = 1) (hb9 : vb.category = 1) (hd9 : vd.category = 1) (k : RC b ad0 n0 n1 A1 w1 l fr C S y cc nL n A kc ks (pc + 1) (va :: vb :: vd :: va :: rest) loc w) : RC b ad0 n0 n1 A1 w1 l fr C S y cc nL n A kc ks pc (va :: vb :: vd :: rest) loc w := by
  intro ad had p e s m args below meth c H locs ls hC hP hD hS hl
  obtain ⟨hx, hb, hr, hml, hown, hts, hlk, hin, hK, hE, hO, hF⟩ := id hC
  exact lv_dup_x2 hx hb hdg (by rw [tr_cat]; exact ha) (by rw [tr_cat]; exact hb9) (by rw [tr_cat]; exact hd9) (k ad had p e s m args below meth c H locs ls hC hP hD hS hl)
theorem c_dup2 {va vb : Value} (hdg : decode cc pc = .ok (.dup2, 1)) (ha : va.category = 1) (hb9 : vb.category = 1) (k : RC b ad0 n0 n1 A1 w1 l fr C S y cc nL n A kc ks (pc + 1) (va :: vb :: va :: vb :: rest) loc w) : RC b ad0 n0 n1 A1 w1 l fr C S y cc nL n A kc ks pc (va :: vb :: rest) loc w := by
  intro ad had p e s m args below meth c H locs ls hC hP hD hS hl
  obtain ⟨hx, hb, hr, hml, hown, hts, hlk, hin, hK, hE, hO, hF⟩ := id hC
  exact lv_dup2_11 hx hb hdg (by rw [tr_cat]; exact ha) (by rw [tr_cat]; exact hb9) (k ad had p e s m args below meth c H locs ls hC hP hD hS hl)
theorem c_icmp_eq {x z : Int32} {off : Int} {tgt : Nat} (hdg : decode cc pc = .ok (.if_icmp .eq off, 3)) (ht : (pc : Int) + off = (tgt : Int)) (kt : x = z → RC b ad0 n0 n1 A1 w1 l fr C S y cc nL n A kc ks tgt rest loc w) (kf : ¬ x = z → RC b ad0 n0 n1 A1 w1 l fr C S y cc nL n A kc ks (pc + 3) rest loc w) : RC b ad0 n0 n1 A1 w1 l fr C S y cc nL n A kc ks pc (.int z :: .int x :: rest) loc w := by
  intro ad had p e s m args below meth c H locs ls hC hP hD hS hl
  obtain ⟨hx, hb, hr, hml, hown, hts, hlk, hin, hK, hE, hO, hF⟩ := id hC
  exact lv_icmp_eq hx hb hdg ht (fun h => kt h ad had p e s m args below meth c H locs ls hC hP hD hS hl) (fun h => kf h ad had p e s m args below meth c H locs ls hC hP hD hS hl)
theorem c_icmp_ne {x z : Int32} {off : Int} {tgt : Nat} (hdg : decode cc pc = .ok (.if_icmp .ne off, 3)) (ht : (pc : Int) + off = (tgt : Int)) (kt : ¬ x = z → RC b ad0 n0 n1 A1 w1 l fr C S y cc nL n A kc ks tgt rest loc w) (kf : x = z → RC b ad0 n0 n1 A1 w1 l fr C S y cc nL n A kc ks (pc + 3) rest loc w) : RC b ad0 n0 n1 A1 w1 l fr C S y cc nL n A kc ks pc (.int z :: .int x :: rest) loc w := by
  intro ad had p e s m args below meth c H locs ls hC hP hD hS hl
  obtain ⟨hx, hb, hr, hml, hown, hts, hlk, hin, hK, hE, hO, hF⟩ := id hC
  exact lv_icmp_ne hx hb hdg ht (fun h => kt h ad had p e s m args below meth c H locs ls hC hP hD hS hl) (fun h => kf h ad had p e s m args below meth c H locs ls hC hP hD hS hl)
theorem c_icmp_lt {x z : Int32} {off : Int} {tgt : Nat} (hdg : decode cc pc = .ok (.if_icmp .lt off, 3)) (ht : (pc : Int) + off = (tgt : Int)) (kt : x < z → RC b ad0 n0 n1 A1 w1 l fr C S y cc nL n A kc ks tgt rest loc w) (kf : ¬ x < z → RC b ad0 n0 n1 A1 w1 l fr C S y cc nL n A kc ks (pc + 3) rest loc w) : RC b ad0 n0 n1 A1 w1 l fr C S y cc nL n A kc ks pc (.int z :: .int x :: rest) loc w := by
  intro ad had p e s m args below meth c H locs ls hC hP hD hS hl
  obtain ⟨hx, hb, hr, hml, hown, hts, hlk, hin, hK, hE, hO, hF⟩ := id hC
  exact lv_icmp_lt hx hb hdg ht (fun h => kt h ad had p e s m args below meth c H locs ls hC hP hD hS hl) (fun h => kf h ad had p e s m args below meth c H locs ls hC hP hD hS hl)
theorem c_icmp_ge {x z : Int32} {off : Int} {tgt : Nat} (hdg : decode cc pc = .ok (.if_icmp .ge off, 3)) (ht : (pc : Int) + off = (tgt : Int)) (kt : z ≤ x → RC b ad0 n0 n1 A1 w1 l fr C S y cc nL n A kc ks tgt rest loc w) (kf : ¬ z ≤ x → RC b ad0 n0 n1 A1 w1 l fr C S y cc nL n A kc ks (pc + 3) rest loc w) : RC b ad0 n0 n1 A1 w1 l fr C S y cc nL n A kc ks pc (.int z :: .int x :: rest) loc w := by
  intro ad had p e s m args below meth c H locs ls hC hP hD hS hl
  obtain ⟨hx, hb, hr, hml, hown, hts, hlk, hin, hK, hE, hO, hF⟩ := id hC
  exact lv_icmp_ge hx hb hdg ht (fun h => kt h ad had p e s m args below meth c H locs ls hC hP hD hS hl) (fun h => kf h ad had p e s m args below meth c H locs ls hC hP hD hS hl)
theorem c_icmp_gt {x z : Int32} {off : Int} {tgt : Nat} (hdg : decode cc pc = .ok (.if_icmp .gt off, 3)) (ht : (pc : Int) + off = (tgt : Int)) (kt : z < x → RC b ad0 n0 n1 A1 w1 l fr C S y cc nL n A kc ks tgt rest loc w) (kf : ¬ z < x → RC b ad0 n0 n1 A1 w1 l fr C S y cc nL n A kc ks (pc + 3) rest loc w) : RC b ad0 n0 n1 A1 w1 l fr C S y cc nL n A kc ks pc (.int z :: .int x :: rest) loc w := by
  intro ad had p e s m args below meth c H locs ls hC hP hD hS hl
  obtain ⟨hx, hb, hr, hml, hown, hts, hlk, hin, hK, hE, hO, hF⟩ := id hC
  exact lv_icmp_gt hx hb hdg ht (fun h => kt h ad had p e s m args below meth c H locs ls hC hP hD hS hl) (fun h => kf h ad had p e s m args below meth c H locs ls hC hP hD hS hl)
theorem c_icmp_le {x z : Int32} {off : Int} {tgt : Nat} (hdg : decode cc pc = .ok (.if_icmp .le off, 3)) (ht : (pc : Int) + off = (tgt : Int)) (kt : x ≤ z → RC b ad0 n0 n1 A1 w1 l fr C S y cc nL n A kc ks tgt rest loc w) (kf : ¬ x ≤ z → RC b ad0 n0 n1 A1 w1 l fr C S y cc nL n A kc ks (pc + 3) rest loc w) : RC b ad0 n0 n1 A1 w1 l fr C S y cc nL n A kc ks pc (.int z :: .int x :: rest) loc w := by
  intro ad had p e s m args below meth c H locs ls hC hP hD hS hl
  obtain ⟨hx, hb, hr, hml, hown, hts, hlk, hin, hK, hE, hO, hF⟩ := id hC
  exact lv_icmp_le hx hb hdg ht (fun h => kt h ad had p e s m args below meth c H locs ls hC hP hD hS hl) (fun h => kf h ad had p e s m args below meth c H locs ls hC hP hD hS hl)
theorem c_goto {off : Int} {tgt : Nat} (hdg : decode cc pc = .ok (.goto off, 3)) (ht : (pc : Int) + off = (tgt : Int)) (k : RC b ad0 n0 n1 A1 w1 l fr C S y cc nL n A kc ks tgt rest loc w) : RC b ad0 n0 n1 A1 w1 l fr C S y cc nL n A kc ks pc rest loc w := by
  intro ad had p e s m args below meth c H locs ls hC hP hD hS hl
  obtain ⟨hx, hb, hr, hml, hown, hts, hlk, hin, hK, hE, hO, hF⟩ := id hC
  exact lv_goto hx hb hdg ht (k ad had p e s m args below meth c H locs ls hC hP hD hS hl)
theorem c_tableIn {dflt lo hi : Int} {offs : Array Int} {len : Nat} {x : Int32} {off : Int} {tgt : Nat} (hdg : decode cc pc = .ok (.tableswitch dflt lo hi offs, len)) (h1 : ¬ x.toInt < lo) (h2 : ¬ hi < x.toInt) (ho : offs[(x.toInt - lo).toNat]? = some off) (ht : (pc : Int) + off = (tgt : Int)) (k : RC b ad0 n0 n1 A1 w1 l fr C S y cc nL n A kc ks tgt rest loc w) : RC b ad0 n0 n1 A1 w1 l fr C S y cc nL n A kc ks pc (.int x :: rest) loc w := by
  intro ad had p e s m args below meth c H locs ls hC hP hD hS hl
  obtain ⟨hx, hb, hr, hml, hown, hts, hlk, hin, hK, hE, hO, hF⟩ := id hC
  exact lv_tableIn hx hb hdg h1 h2 ho ht (k ad had p e s m args below meth c H locs ls hC hP hD hS hl)
theorem c_tableOut {dflt lo hi : Int} {offs : Array Int} {len : Nat} {x : Int32} {tgt : Nat} (hdg : decode cc pc = .ok (.tableswitch dflt lo hi offs, len)) (h : x.toInt < lo ∨ hi < x.toInt) (ht : (pc : Int) + dflt = (tgt : Int)) (k : RC b ad0 n0 n1 A1 w1 l fr C S y cc nL n A kc ks tgt rest loc w) : RC b ad0 n0 n1 A1 w1 l fr C S y cc nL n A kc ks pc (.int x :: rest) loc w := by
  intro ad had p e s m args below meth c H locs ls hC hP hD hS hl
  obtain ⟨hx, hb, hr, hml, hown, hts, hlk, hin, hK, hE, hO, hF⟩ := id hC
  exact lv_tableOut hx hb hdg h ht (k ad had p e s m args below meth c H locs ls hC hP hD hS hl)
theorem c_lookup {dflt : Int} {ps : Array (Int × Int)} {len : Nat} {x : Int32} {off : Int} {tgt : Nat} (hdg : decode cc pc = .ok (.lookupswitch dflt ps, len)) (hp : (ps.toList.zip (ps.toList.drop 1)).all (fun (a, next) => a.1 < next.1) = true) (ho : Op.lookupswitch.offset ps.toList dflt x.toInt = off) (ht : (pc : Int) + off = (tgt : Int)) (k : RC b ad0 n0 n1 A1 w1 l fr C S y cc nL n A kc ks tgt rest loc w) : RC b ad0 n0 n1 A1 w1 l fr C S y cc nL n A kc ks pc (.int x :: rest) loc w := by
  intro ad had p e s m args below meth c H locs ls hC hP hD hS hl
  obtain ⟨hx, hb, hr, hml, hown, hts, hlk, hin, hK, hE, hO, hF⟩ := id hC
  exact lv_lookup hx hb hdg hp ho ht (k ad had p e s m args below meth c H locs ls hC hP hD hS hl)
theorem c_if_eq {x : Int32} {off : Int} {tgt : Nat} (hdg : decode cc pc = .ok (.ifCond .eq off, 3)) (ht : (pc : Int) + off = (tgt : Int)) (kt : x = 0 → RC b ad0 n0 n1 A1 w1 l fr C S y cc nL n A kc ks tgt rest loc w) (kf : ¬ x = 0 → RC b ad0 n0 n1 A1 w1 l fr C S y cc nL n A kc ks (pc + 3) rest loc w) : RC b ad0 n0 n1 A1 w1 l fr C S y cc nL n A kc ks pc (.int x :: rest) loc w := by
  intro ad had p e s m args below meth c H locs ls hC hP hD hS hl
  obtain ⟨hx, hb, hr, hml, hown, hts, hlk, hin, hK, hE, hO, hF⟩ := id hC
  exact lv_if_eq hx hb hdg ht (fun h => kt h ad had p e s m args below meth c H locs ls hC hP hD hS hl) (fun h => kf h ad had p e s m args below meth c H locs ls hC hP hD hS hl)
theorem c_if_ne {x : Int32} {off : Int} {tgt : Nat} (hdg : decode cc pc = .ok (.ifCond .ne off, 3)) (ht : (pc : Int) + off = (tgt : Int)) (kt : ¬ x = 0 → RC b ad0 n0 n1 A1 w1 l fr C S y cc nL n A kc ks tgt rest loc w) (kf : x = 0 → RC b ad0 n0 n1 A1 w1 l fr C S y cc nL n A kc ks (pc + 3) rest loc w) : RC b ad0 n0 n1 A1 w1 l fr C S y cc nL n A kc ks pc (.int x :: rest) loc w := by
  intro ad had p e s m args below meth c H locs ls hC hP hD hS hl
  obtain ⟨hx, hb, hr, hml, hown, hts, hlk, hin, hK, hE, hO, hF⟩ := id hC
  exact lv_if_ne hx hb hdg ht (fun h => kt h ad had p e s m args below meth c H locs ls hC hP hD hS hl) (fun h => kf h ad had p e s m args below meth c H locs ls hC hP hD hS hl)
theorem c_if_lt {x : Int32} {off : Int} {tgt : Nat} (hdg : decode cc pc = .ok (.ifCond .lt off, 3)) (ht : (pc : Int) + off = (tgt : Int)) (kt : x < 0 → RC b ad0 n0 n1 A1 w1 l fr C S y cc nL n A kc ks tgt rest loc w) (kf : ¬ x < 0 → RC b ad0 n0 n1 A1 w1 l fr C S y cc nL n A kc ks (pc + 3) rest loc w) : RC b ad0 n0 n1 A1 w1 l fr C S y cc nL n A kc ks pc (.int x :: rest) loc w := by
  intro ad had p e s m args below meth c H locs ls hC hP hD hS hl
  obtain ⟨hx, hb, hr, hml, hown, hts, hlk, hin, hK, hE, hO, hF⟩ := id hC
  exact lv_if_lt hx hb hdg ht (fun h => kt h ad had p e s m args below meth c H locs ls hC hP hD hS hl) (fun h => kf h ad had p e s m args below meth c H locs ls hC hP hD hS hl)
theorem c_if_ge {x : Int32} {off : Int} {tgt : Nat} (hdg : decode cc pc = .ok (.ifCond .ge off, 3)) (ht : (pc : Int) + off = (tgt : Int)) (kt : 0 ≤ x → RC b ad0 n0 n1 A1 w1 l fr C S y cc nL n A kc ks tgt rest loc w) (kf : ¬ 0 ≤ x → RC b ad0 n0 n1 A1 w1 l fr C S y cc nL n A kc ks (pc + 3) rest loc w) : RC b ad0 n0 n1 A1 w1 l fr C S y cc nL n A kc ks pc (.int x :: rest) loc w := by
  intro ad had p e s m args below meth c H locs ls hC hP hD hS hl
  obtain ⟨hx, hb, hr, hml, hown, hts, hlk, hin, hK, hE, hO, hF⟩ := id hC
  exact lv_if_ge hx hb hdg ht (fun h => kt h ad had p e s m args below meth c H locs ls hC hP hD hS hl) (fun h => kf h ad had p e s m args below meth c H locs ls hC hP hD hS hl)
theorem c_if_gt {x : Int32} {off : Int} {tgt : Nat} (hdg : decode cc pc = .ok (.ifCond .gt off, 3)) (ht : (pc : Int) + off = (tgt : Int)) (kt : 0 < x → RC b ad0 n0 n1 A1 w1 l fr C S y cc nL n A kc ks tgt rest loc w) (kf : ¬ 0 < x → RC b ad0 n0 n1 A1 w1 l fr C S y cc nL n A kc ks (pc + 3) rest loc w) : RC b ad0 n0 n1 A1 w1 l fr C S y cc nL n A kc ks pc (.int x :: rest) loc w := by
  intro ad had p e s m args below meth c H locs ls hC hP hD hS hl
  obtain ⟨hx, hb, hr, hml, hown, hts, hlk, hin, hK, hE, hO, hF⟩ := id hC
  exact lv_if_gt hx hb hdg ht (fun h => kt h ad had p e s m args below meth c H locs ls hC hP hD hS hl) (fun h => kf h ad had p e s m args below meth c H locs ls hC hP hD hS hl)
theorem c_if_le {x : Int32} {off : Int} {tgt : Nat} (hdg : decode cc pc = .ok (.ifCond .le off, 3)) (ht : (pc : Int) + off = (tgt : Int)) (kt : x ≤ 0 → RC b ad0 n0 n1 A1 w1 l fr C S y cc nL n A kc ks tgt rest loc w) (kf : ¬ x ≤ 0 → RC b ad0 n0 n1 A1 w1 l fr C S y cc nL n A kc ks (pc + 3) rest loc w) : RC b ad0 n0 n1 A1 w1 l fr C S y cc nL n A kc ks pc (.int x :: rest) loc w := by
  intro ad had p e s m args below meth c H locs ls hC hP hD hS hl
  obtain ⟨hx, hb, hr, hml, hown, hts, hlk, hin, hK, hE, hO, hF⟩ := id hC
  exact lv_if_le hx hb hdg ht (fun h => kt h ad had p e s m args below meth c H locs ls hC hP hD hS hl) (fun h => kf h ad had p e s m args below meth c H locs ls hC hP hD hS hl)
theorem c_w {u : Wd} (e : w = u) (k : RC b ad0 n0 n1 A1 w1 l fr C S y cc nL n A kc ks pc rest loc u) : RC b ad0 n0 n1 A1 w1 l fr C S y cc nL n A kc ks pc rest loc w := by subst e; exact k
theorem c_topi {x z : Int32} (e : x = z) (k : RC b ad0 n0 n1 A1 w1 l fr C S y cc nL n A kc ks pc (.int z :: rest) loc w) : RC b ad0 n0 n1 A1 w1 l fr C S y cc nL n A kc ks pc (.int x :: rest) loc w := by subst e; exact k
theorem c_topl {x z : Int64} (e : x = z) (k : RC b ad0 n0 n1 A1 w1 l fr C S y cc nL n A kc ks pc (.long z :: rest) loc w) : RC b ad0 n0 n1 A1 w1 l fr C S y cc nL n A kc ks pc (.long x :: rest) loc w := by subst e; exact k
theorem c_inc {i : Nat} {n9 : Int} {x v k9 : Int32} {loc' : List (Nat × Value)} (hdg : decode cc pc = .ok (.iinc i n9, 3)) (hk9 : Int32.ofInt n9 = k9) (hv : x + k9 = v) (q : Nat) (hq : loc[q]? = some (i, .int x)) (hn : i < nL) (hl' : (i, Value.int v) :: loc.filter (fun q => !(q.1 == i) && !(q.1 + 1 == i && q.2.category == 2)) = loc') (k : RC b ad0 n0 n1 A1 w1 l fr C S y cc nL n A kc ks (pc + 3) rest loc' w) : RC b ad0 n0 n1 A1 w1 l fr C S y cc nL n A kc ks pc rest loc w := c_iinc hdg hq (by rw [hk9]; exact hv) hn hl' k
theorem c_get {k ci j index : Nat} {Cn : String} {T : u_T} {nf : Nat} {fs : List (Option Nat)} {ty : Nat → FieldType} {f : Option Nat} (hO9 : ∀ ad, OB (gsA b ad n A) k ci Cn T nf fs) (hF9 : CF Cn T nf ty) (hk : Cond.fieldLink y.cls index (T j).1 (T j).2.1 (T j).2.2.1 ∈ TB) (hj : fs[j]? = some f) (hdg : decode cc pc = .ok (.getfield index, 3)) {v : Value} (hv : (match f with | none => Value.int (gi w k j) | some t => if t = 999 then Value.null else Value.ref t) = v)
    (kk : RC b ad0 n0 n1 A1 w1 l fr C S y cc nL n A kc ks (pc + 3) (v :: rest) loc w) : RC b ad0 n0 n1 A1 w1 l fr C S y cc nL n A kc ks pc (.ref k :: rest) loc w := by
  intro ad had p e s m args below meth c H locs ls hC hP hD hS hl
  obtain ⟨hx, hb, hr, hml, hown, hts, hlk, hin, hK, hE, hO, hF⟩ := id hC
  have hO8 := hO9 ad
  have hjn : j < nf := by rw [← hO8.2.2.2]; exact (List.getElem?_eq_some_iff.mp hj).1
  refine va_get (v := tr (gsA b ad n A) v) hx hb hts hF9.1 hown hK hP k hO8.at hO8.2.2.1 j hjn (hts _ hk) (fun x hx => hx) ?_ hdg (kk ad had p e s m args below meth c H locs ls hC hP hD hS hl)
  rw [List.getElem?_mapIdx, hj]
  subst hv
  cases f with
  | none => rfl
  | some t =>
    show some (if t = 999 then Value.null else Value.ref (gad (gsA b ad n A) t)) = some (tr (gsA b ad n A) (if t = 999 then Value.null else Value.ref t))
    by_cases ht : t = 999
    · rw [if_pos ht, if_pos ht]; rfl
    · rw [if_neg ht, if_neg ht]; rfl
theorem c_putI {k ci j index : Nat} {Cn : String} {T : u_T} {nf : Nat} {fs : List (Option Nat)} {ty : Nat → FieldType} {x : Int32} (hO9 : ∀ ad, OB (gsA b ad n A) k ci Cn T nf fs) (hF9 : CF Cn T nf ty) (hk : Cond.fieldLink y.cls index (T j).1 (T j).2.1 (T j).2.2.1 ∈ TB) (hj : fs[j]? = some none) (hfin : (T j).2.2.2 = false) (hnr : narrow (ty j) (.int x) = .int x) (hfi : fits (ty j) (.int x) = true) (hdg : decode cc pc = .ok (.putfield index, 3))
    (kk : RC b ad0 n0 n1 A1 w1 l fr C S y cc nL n A kc ks (pc + 3) rest loc (si w k j x)) : RC b ad0 n0 n1 A1 w1 l fr C S y cc nL n A kc ks pc (.int x :: .ref k :: rest) loc w := by
  intro ad had p e s m args below meth c H locs ls hC hP hD hS hl
  obtain ⟨hx, hb, hr, hml, hown, hts, hlk, hin, hK, hE, hO, hF⟩ := id hC
  have hO8 := hO9 ad
  have hjn : j < nf := by rw [← hO8.2.2.2]; exact (List.getElem?_eq_some_iff.mp hj).1
  have hlen : j < (fs.mapIdx (fun j d => fv (gsA b ad n A) w k j d)).length := by rw [List.length_mapIdx, hO8.2.2.2]; exact hjn
  have hset : (wl (gsA b ad n A) w).set k (gad (gsA b ad n A) k, .inr (ci, (fs.mapIdx (fun j d => fv (gsA b ad n A) w k j d)).set j (.int x))) = wl (gsA b ad n A) (si w k j x) := by
    refine wl_set hO8.1 ?_ (fun i hi => ceOf_si_ne hi)
    unfold ceOf
    rw [hO8.2.1]
    dsimp only
    congr 2
    apply List.ext_getElem?
    intro i
    by_cases hi : i = j
    · subst hi
      rw [List.getElem?_set_self hlen, List.getElem?_mapIdx, hj]
      simp [fv, gi_si]
    · rw [List.getElem?_set_ne (Ne.symm hi), List.getElem?_mapIdx, List.getElem?_mapIdx]
      cases fs[i]? with
      | none => rfl
      | some q =>
        cases q with
        | none => simp [fv, gi_si, hi]
        | some t => rfl
  refine va_put hx hb hts hF9.1 ty hF9.2.1 hF9.2.2 hown hK hP hD hS k hO8.at hO8.2.2.1 j hjn (hts _ hk) (fun x hx => hx) hfin (hF9.2.1 j hjn) hnr hfi hlen hdg (fun H1 locs1 hP1 hD1 hS1 => ?_)
  have hP2 : va_P b.1 b.2.2.1 ((wl (gsA b ad n A) w).set k (gad (gsA b ad n A) k, .inr (ci, (fs.mapIdx (fun j d => fv (gsA b ad n A) w k j d)).set j (.int x)))) H1 := hP1
  have hD2 : va_D (bF b) ((wl (gsA b ad n A) w).set k (gad (gsA b ad n A) k, .inr (ci, (fs.mapIdx (fun j d => fv (gsA b ad n A) w k j d)).set j (.int x)))) := hD1
  rw [hset] at hP2 hD2
  exact kk ad had p e s m args below meth c H1 locs1 ls hC hP2 hD2 hS1 hl
/-- a final field of references is set -/
theorem c_putR {k ci j index t : Nat} {Cn : String} {T : u_T} {nf : Nat} {fs : List (Option Nat)} {ty : Nat → FieldType} (hkn : k < n) (hd : bds b k = .inl (ci, fs)) (hcl : b.2.2.1[ci]? = some (Cn, T, nf)) (hlf : fs.length = nf) (hF9 : CF Cn T nf ty) (hk : Cond.fieldLink y.cls index (T j).1 (T j).2.1 (T j).2.2.1 ∈ TB) (hj : fs[j]? = some (some t)) (ht : t ≠ 999) (hfin : (T j).2.2.2 = true) (hdecl : (T j).1 = y.cls) (hnr : ∀ x, narrow (ty j) (.ref x) = .ref x) (hfi : ∀ x, fits (ty j) (.ref x) = true) (hdg : decode cc pc = .ok (.putfield index, 3))
    (kk : RC b ad0 n0 n1 A1 w1 l fr C S y cc nL n ((k, j) :: A) kc ks (pc + 3) rest loc w) : RC b ad0 n0 n1 A1 w1 l fr C S y cc nL n A kc ks pc (.ref t :: .ref k :: rest) loc w := by
  intro ad had p e s m args below meth c H locs ls hC hP hD hS hl
  obtain ⟨hx, hb, hr, hml, hown, hts, hlk, hin, hK, hE, hO, hF⟩ := id hC
  have hO8 : OB (gsA b ad n A) k ci Cn T nf (fs.mapIdx (gst A k)) := ⟨hkn, by show dsF (bds b) A k = _; unfold dsF; rw [hd], hcl, by rw [List.length_mapIdx]; exact hlf⟩
  have hjn : j < nf := by rw [← hlf]; exact (List.getElem?_eq_some_iff.mp hj).1
  have hlen : j < ((fs.mapIdx (gst A k)).mapIdx (fun j d => fv (gsA b ad n A) w k j d)).length := by rw [List.length_mapIdx, List.length_mapIdx, hlf]; exact hjn
  have hset := wl_put (b := b) (ad := ad) (A := A) (w := w) hkn hd hj ht
  refine va_putF hx hb hts hF9.1 ty hF9.2.1 hF9.2.2 hown hK hP hD hS k hO8.at hO8.2.2.1 j hjn (hts _ hk) (fun x hx => hx) hfin hin hdecl (hF9.2.1 j hjn) (hnr _) (hfi _) hlen hdg (fun H1 locs1 hP1 hD1 hS1 => ?_)
  have hP2 : va_P b.1 b.2.2.1 ((wl (gsA b ad n A) w).set k (ad k, .inr (ci, ((fs.mapIdx (gst A k)).mapIdx (fun j d => fv (gsA b ad n A) w k j d)).set j (.ref (ad t))))) H1 := hP1
  have hD2 : va_D (bF b) ((wl (gsA b ad n A) w).set k (ad k, .inr (ci, ((fs.mapIdx (gst A k)).mapIdx (fun j d => fv (gsA b ad n A) w k j d)).set j (.ref (ad t))))) := hD1
  rw [hset] at hP2 hD2
  exact kk ad had p e s m args below meth c H1 locs1 ls hC hP2 hD2 hS1 hl
theorem c_na_int {len : Nat} {x : Int32} (hA : okA (bds b) A n = true) (hn6 : n < 600) (hn0 : n0 ≤ n) (hd : bds b n = .inr (0, len)) (htl : b.2.2.2.1[0]? = some .int) (harr : Cond.arrayClass .int ∈ TB) (hx0 : ¬ x < 0) (hN : x.toNatClampNeg = len) (hby : len * componentBytes .int ≤ 536870912) (hc : kc + 1 ≤ C) (hs : ks + len ≤ S) (hst : rest.all (vbn n) = true) (hlo : loc.all (fun q => vbn n q.2) = true) (hdg : decode cc pc = .ok (.newarray .int, 2))
    (kk : RC b ad0 n0 n1 A1 w1 l fr C S y cc nL (n + 1) A (kc + 1) (ks + len) (pc + 2) (.ref n :: rest) loc (zr w n)) : RC b ad0 n0 n1 A1 w1 l fr C S y cc nL n A kc ks pc (.int x :: rest) loc w := by
  intro ad had p e s m args below meth c H locs ls hC hP hD hS hl
  obtain ⟨hx, hb, hr, hml, hown, hts, hlk, hin, hK, hE, hO, hF⟩ := id hC
  have hz : gi (zr w n) n = fun _ => 0 := by
    funext j
    show (if n = n then 0 else w.1 n j) = 0
    rw [if_pos rfl]
  refine va_newa (ty := .int) (a0 := (len, .inl (gi (zr w n) n))) (atype := .int) hx hb (hts _ harr) rfl hK hP hD hS hF (fun cA => by rw [hz]; rfl) hx0 hN hby hc hs hdg (fun q cA H1 hK1 hP1 hD1 hS1 => ?_)
  have hcA : cA = b.2.1 0 := by
    have h1 := (hK1.2 (gtyb b).length (cA, .int) (by simp)).2
    have h2 := (hK.2 0 (b.2.1 0, .int) (by simp [gtyb, List.getElem?_mapIdx, htl])).2
    exact Option.some.inj (h1.symm.trans h2)
  subst hcA
  have hg : gds (gsA b (upA ad n q) (n + 1) A) n = .inr (0, len) := by show dsF (bds b) A n = _; unfold dsF; rw [hd]
  have he : ceOf (gsA b (upA ad n q) (n + 1) A) (zr w n) n = .inl (b.2.1 0, (len, .inl (gi (zr w n) n))) := by
    unfold ceOf
    rw [hg]
    rfl
  have hw := wl_new (ad := ad) (q := q) (w := w) hA hn6 he
  rw [hw] at hP1 hD1
  have hu : upA ad n q n = q := by unfold upA; rw [if_pos rfl]
  have hk := kk (upA ad n q) ⟨fun k hk => by unfold upA; rw [if_neg (by omega)]; exact had.1 k hk, fun k hk => by unfold upA; rw [if_neg (by omega)]; exact had.2 k hk⟩ p e s m args below meth c H1 locs ls hC hP1 hD1 hS1 (by rw [loc_up (n'' := n) (A := A) hlo]; exact hl)
  rw [List.map_cons, stk_up (n'' := n) (A := A) hst] at hk
  rw [show tr (gsA b (upA ad n q) (n + 1) A) (.ref n) = .ref q from congrArg Value.ref hu] at hk
  exact hk
theorem c_na_long {len : Nat} {x : Int32} (hA : okA (bds b) A n = true) (hn6 : n < 600) (hn0 : n0 ≤ n) (hd : bds b n = .inr (1, len)) (htl : b.2.2.2.1[1]? = some .long) (harr : Cond.arrayClass .long ∈ TB) (hx0 : ¬ x < 0) (hN : x.toNatClampNeg = len) (hby : len * componentBytes .long ≤ 536870912) (hc : kc + 1 ≤ C) (hs : ks + len ≤ S) (hst : rest.all (vbn n) = true) (hlo : loc.all (fun q => vbn n q.2) = true) (hdg : decode cc pc = .ok (.newarray .long, 2))
    (kk : RC b ad0 n0 n1 A1 w1 l fr C S y cc nL (n + 1) A (kc + 1) (ks + len) (pc + 2) (.ref n :: rest) loc (zr w n)) : RC b ad0 n0 n1 A1 w1 l fr C S y cc nL n A kc ks pc (.int x :: rest) loc w := by
  intro ad had p e s m args below meth c H locs ls hC hP hD hS hl
  obtain ⟨hx, hb, hr, hml, hown, hts, hlk, hin, hK, hE, hO, hF⟩ := id hC
  have hz : gl (zr w n) n = fun _ => 0 := by
    funext j
    show (if n = n then 0 else w.2 n j) = 0
    rw [if_pos rfl]
  refine va_newa (ty := .long) (a0 := (len, .inr (.inl (gl (zr w n) n)))) (atype := .long) hx hb (hts _ harr) rfl hK hP hD hS hF (fun cA => by rw [hz]; rfl) hx0 hN hby hc hs hdg (fun q cA H1 hK1 hP1 hD1 hS1 => ?_)
  have hcA : cA = b.2.1 1 := by
    have h1 := (hK1.2 (gtyb b).length (cA, .long) (by simp)).2
    have h2 := (hK.2 1 (b.2.1 1, .long) (by simp [gtyb, List.getElem?_mapIdx, htl])).2
    exact Option.some.inj (h1.symm.trans h2)
  subst hcA
  have hg : gds (gsA b (upA ad n q) (n + 1) A) n = .inr (1, len) := by show dsF (bds b) A n = _; unfold dsF; rw [hd]
  have he : ceOf (gsA b (upA ad n q) (n + 1) A) (zr w n) n = .inl (b.2.1 1, (len, .inr (.inl (gl (zr w n) n)))) := by
    unfold ceOf
    rw [hg]
    rfl
  have hw := wl_new (ad := ad) (q := q) (w := w) hA hn6 he
  rw [hw] at hP1 hD1
  have hu : upA ad n q n = q := by unfold upA; rw [if_pos rfl]
  have hk := kk (upA ad n q) ⟨fun k hk => by unfold upA; rw [if_neg (by omega)]; exact had.1 k hk, fun k hk => by unfold upA; rw [if_neg (by omega)]; exact had.2 k hk⟩ p e s m args below meth c H1 locs ls hC hP1 hD1 hS1 (by rw [loc_up (n'' := n) (A := A) hlo]; exact hl)
  rw [List.map_cons, stk_up (n'' := n) (A := A) hst] at hk
  rw [show tr (gsA b (upA ad n q) (n + 1) A) (.ref n) = .ref q from congrArg Value.ref hu] at hk
  exact hk
theorem c_na_byte {len : Nat} {x : Int32} (hA : okA (bds b) A n = true) (hn6 : n < 600) (hn0 : n0 ≤ n) (hd : bds b n = .inr (2, len)) (htl : b.2.2.2.1[2]? = some .byte) (harr : Cond.arrayClass .byte ∈ TB) (hx0 : ¬ x < 0) (hN : x.toNatClampNeg = len) (hby : len * componentBytes .byte ≤ 536870912) (hc : kc + 1 ≤ C) (hs : ks + len ≤ S) (hst : rest.all (vbn n) = true) (hlo : loc.all (fun q => vbn n q.2) = true) (hdg : decode cc pc = .ok (.newarray .byte, 2))
    (kk : RC b ad0 n0 n1 A1 w1 l fr C S y cc nL (n + 1) A (kc + 1) (ks + len) (pc + 2) (.ref n :: rest) loc (zr w n)) : RC b ad0 n0 n1 A1 w1 l fr C S y cc nL n A kc ks pc (.int x :: rest) loc w := by
  intro ad had p e s m args below meth c H locs ls hC hP hD hS hl
  obtain ⟨hx, hb, hr, hml, hown, hts, hlk, hin, hK, hE, hO, hF⟩ := id hC
  have hz : gi (zr w n) n = fun _ => 0 := by
    funext j
    show (if n = n then 0 else w.1 n j) = 0
    rw [if_pos rfl]
  refine va_newa (ty := .byte) (a0 := (len, .inl (gi (zr w n) n))) (atype := .byte) hx hb (hts _ harr) rfl hK hP hD hS hF (fun cA => by rw [hz]; rfl) hx0 hN hby hc hs hdg (fun q cA H1 hK1 hP1 hD1 hS1 => ?_)
  have hcA : cA = b.2.1 2 := by
    have h1 := (hK1.2 (gtyb b).length (cA, .byte) (by simp)).2
    have h2 := (hK.2 2 (b.2.1 2, .byte) (by simp [gtyb, List.getElem?_mapIdx, htl])).2
    exact Option.some.inj (h1.symm.trans h2)
  subst hcA
  have hg : gds (gsA b (upA ad n q) (n + 1) A) n = .inr (2, len) := by show dsF (bds b) A n = _; unfold dsF; rw [hd]
  have he : ceOf (gsA b (upA ad n q) (n + 1) A) (zr w n) n = .inl (b.2.1 2, (len, .inl (gi (zr w n) n))) := by
    unfold ceOf
    rw [hg]
    rfl
  have hw := wl_new (ad := ad) (q := q) (w := w) hA hn6 he
  rw [hw] at hP1 hD1
  have hu : upA ad n q n = q := by unfold upA; rw [if_pos rfl]
  have hk := kk (upA ad n q) ⟨fun k hk => by unfold upA; rw [if_neg (by omega)]; exact had.1 k hk, fun k hk => by unfold upA; rw [if_neg (by omega)]; exact had.2 k hk⟩ p e s m args below meth c H1 locs ls hC hP1 hD1 hS1 (by rw [loc_up (n'' := n) (A := A) hlo]; exact hl)
  rw [List.map_cons, stk_up (n'' := n) (A := A) hst] at hk
  rw [show tr (gsA b (upA ad n q) (n + 1) A) (.ref n) = .ref q from congrArg Value.ref hu] at hk
  exact hk
theorem c_na_boolean {len : Nat} {x : Int32} (hA : okA (bds b) A n = true) (hn6 : n < 600) (hn0 : n0 ≤ n) (hd : bds b n = .inr (3, len)) (htl : b.2.2.2.1[3]? = some .boolean) (harr : Cond.arrayClass .boolean ∈ TB) (hx0 : ¬ x < 0) (hN : x.toNatClampNeg = len) (hby : len * componentBytes .boolean ≤ 536870912) (hc : kc + 1 ≤ C) (hs : ks + len ≤ S) (hst : rest.all (vbn n) = true) (hlo : loc.all (fun q => vbn n q.2) = true) (hdg : decode cc pc = .ok (.newarray .boolean, 2))
    (kk : RC b ad0 n0 n1 A1 w1 l fr C S y cc nL (n + 1) A (kc + 1) (ks + len) (pc + 2) (.ref n :: rest) loc (zr w n)) : RC b ad0 n0 n1 A1 w1 l fr C S y cc nL n A kc ks pc (.int x :: rest) loc w := by
  intro ad had p e s m args below meth c H locs ls hC hP hD hS hl
  obtain ⟨hx, hb, hr, hml, hown, hts, hlk, hin, hK, hE, hO, hF⟩ := id hC
  have hz : gi (zr w n) n = fun _ => 0 := by
    funext j
    show (if n = n then 0 else w.1 n j) = 0
    rw [if_pos rfl]
  refine va_newa (ty := .boolean) (a0 := (len, .inl (gi (zr w n) n))) (atype := .boolean) hx hb (hts _ harr) rfl hK hP hD hS hF (fun cA => by rw [hz]; rfl) hx0 hN hby hc hs hdg (fun q cA H1 hK1 hP1 hD1 hS1 => ?_)
  have hcA : cA = b.2.1 3 := by
    have h1 := (hK1.2 (gtyb b).length (cA, .boolean) (by simp)).2
    have h2 := (hK.2 3 (b.2.1 3, .boolean) (by simp [gtyb, List.getElem?_mapIdx, htl])).2
    exact Option.some.inj (h1.symm.trans h2)
  subst hcA
  have hg : gds (gsA b (upA ad n q) (n + 1) A) n = .inr (3, len) := by show dsF (bds b) A n = _; unfold dsF; rw [hd]
  have he : ceOf (gsA b (upA ad n q) (n + 1) A) (zr w n) n = .inl (b.2.1 3, (len, .inl (gi (zr w n) n))) := by
    unfold ceOf
    rw [hg]
    rfl
  have hw := wl_new (ad := ad) (q := q) (w := w) hA hn6 he
  rw [hw] at hP1 hD1
  have hu : upA ad n q n = q := by unfold upA; rw [if_pos rfl]
  have hk := kk (upA ad n q) ⟨fun k hk => by unfold upA; rw [if_neg (by omega)]; exact had.1 k hk, fun k hk => by unfold upA; rw [if_neg (by omega)]; exact had.2 k hk⟩ p e s m args below meth c H1 locs ls hC hP1 hD1 hS1 (by rw [loc_up (n'' := n) (A := A) hlo]; exact hl)
  rw [List.map_cons, stk_up (n'' := n) (A := A) hst] at hk
  rw [show tr (gsA b (upA ad n q) (n + 1) A) (.ref n) = .ref q from congrArg Value.ref hu] at hk
  exact hk
/-- a new object, its fields nought or null -/
theorem c_new {ci index nf : Nat} {Cn : String} {T : u_T} {ty : Nat → FieldType} {fs : List (Option Nat)} (hA : okA (bds b) A n = true) (hA0 : A.all (fun p => !(p.1 == n)) = true) (hn6 : n < 600) (hn0 : n0 ≤ n) (hd : bds b n = .inl (ci, fs)) (hcl : b.2.2.1[ci]? = some (Cn, T, nf)) (hlf : fs.length = nf) (hF9 : CF Cn T nf ty) (hk9 : Cond.classLink y.cls index Cn ∈ TB) (hi9 : Cond.instantiable Cn nf ∈ TB) (hz9 : Cond.initialized Cn ∈ TB) (hdef : ∀ j, j < nf → defaultValue (ty j) = (match fs[j]? with | some none => Value.int 0 | _ => Value.null)) (hc : kc + 1 ≤ C) (hs : ks + nf ≤ S) (hst : rest.all (vbn n) = true) (hlo : loc.all (fun q => vbn n q.2) = true) (hdg : decode cc pc = .ok (.new index, 3))
    (kk : RC b ad0 n0 n1 A1 w1 l fr C S y cc nL (n + 1) A (kc + 1) (ks + nf) (pc + 3) (.ref n :: rest) loc (zr w n)) : RC b ad0 n0 n1 A1 w1 l fr C S y cc nL n A kc ks pc rest loc w := by
  intro ad had p e s m args below meth c H locs ls hC hP hD hS hl
  obtain ⟨hx, hb, hr, hml, hown, hts, hlk, hin, hK, hE, hO, hF⟩ := id hC
  have hno : ∀ j, A.contains (n, j) = false := by
    intro j
    cases h : A.contains (n, j) with
    | false => rfl
    | true =>
      have hm : (n, j) ∈ A := List.contains_iff_mem.mp h
      have := List.all_eq_true.mp hA0 _ hm
      simp at this
  refine va_new (ci := ci) (fs := fs.map (fun f => match f with | none => Value.int 0 | some _ => Value.null)) hx hb hts hF9.1 ty hF9.2.1 hown (hts _ hk9) (hts _ hi9) (hts _ hz9) hK hP hD hS hF hcl (fun j hj => ?_) hc hs hdg (fun q H1 hP1 hD1 hS1 => ?_)
  · rw [hdef j hj]
    unfold vp_V
    rw [List.getD_eq_getElem?_getD, List.getElem?_map]
    have hjl : j < fs.length := by rw [hlf]; exact hj
    rw [List.getElem?_eq_getElem hjl]
    cases fs[j] <;> rfl
  have hg : gds (gsA b (upA ad n q) (n + 1) A) n = .inl (ci, fs.mapIdx (gst A n)) := by show dsF (bds b) A n = _; unfold dsF; rw [hd]
  have he : ceOf (gsA b (upA ad n q) (n + 1) A) (zr w n) n = .inr (ci, fs.map (fun f => match f with | none => Value.int 0 | some _ => Value.null)) := by
    unfold ceOf
    rw [hg]
    show Sum.inr (ci, _) = Sum.inr (ci, _)
    congr 2
    apply List.ext_getElem?
    intro j
    rw [List.getElem?_mapIdx, List.getElem?_mapIdx, List.getElem?_map]
    cases fs[j]? with
    | none => rfl
    | some f =>
      cases f with
      | none =>
        show some (Value.int (if n = n then 0 else w.1 n j)) = some (Value.int 0)
        rw [if_pos rfl]
      | some t =>
        simp only [Option.map_some, gst, hno j]
        rfl
  have hw := wl_new (ad := ad) (q := q) (w := w) hA hn6 he
  rw [hw] at hP1 hD1
  have hu : upA ad n q n = q := by unfold upA; rw [if_pos rfl]
  have hk := kk (upA ad n q) ⟨fun k hk => by unfold upA; rw [if_neg (by omega)]; exact had.1 k hk, fun k hk => by unfold upA; rw [if_neg (by omega)]; exact had.2 k hk⟩ p e s m args below meth c H1 locs ls hC hP1 hD1 hS1 (by rw [loc_up (n'' := n) (A := A) hlo]; exact hl)
  rw [List.map_cons, stk_up (n'' := n) (A := A) hst] at hk
  rw [show tr (gsA b (upA ad n q) (n + 1) A) (.ref n) = .ref q from congrArg Value.ref hu] at hk
  exact hk
theorem c_obj {idx k : Nat} (h1 : Cond.methodLink y.cls idx Lib.objectInit ∈ TB) (h2 : Cond.instanceMethod Lib.objectInit ∈ TB) (h3 : Cond.code Lib.objectInit ⟨#[0xb1]⟩ 1 none ∈ TB) (hfr : 1 ≤ fr) (hroom : (rest.map fun v => v.category).sum ≤ 8) (hdg : decode cc pc = .ok (.invokespecial idx, 3)) (kk : RC b ad0 n0 n1 A1 w1 l fr C S y cc nL n A kc ks (pc + 3) rest loc w) : RC b ad0 n0 n1 A1 w1 l fr C S y cc nL n A kc ks pc (.ref k :: rest) loc w := by
  intro ad had p e s m args below meth c H locs ls hC hP hD hS hl
  obtain ⟨hx, hb, hr, hml, hown, hts, hlk, hin, hK, hE, hO, hF⟩ := id hC
  refine W.objInit hx hb hown (hts _ h1) (hts _ h2) (hts _ h3) rfl (by rw [hml]; exact hl.1) (a := ad k) (rest := rest.map (tr (gsA b ad n A))) rfl hdg hfr ?_ ?_
  · show 2 * 0 + ((rest.map (tr (gsA b ad n A))).map fun v => v.category).sum + 12 ≤ 45 * fr
    rw [List.map_map, show ((fun v => Value.category v) ∘ tr (gsA b ad n A)) = (fun v => Value.category v) from funext fun v => tr_cat _ v]
    omega
  · exact kk ad had p e s m args below meth c H locs ls hC hP hD hS hl
theorem c_ctor {fr' C' S' nL' nn index k n2 : Nat} {y' : MethodName} {cc' : ByteArray} {av stk : List Value} {A2 : List (Nat × Nat)} {w2 : Wd} (hY : CY y' cc' nL' none nn) (hy1 : y'.name = "<init>") (h1 : Cond.methodLink y.cls index y' ∈ TB) (h2 : Cond.instanceMethod y' ∈ TB) (hd : fr' + 1 ≤ fr ∧ nL' ≤ 26) (hc : kc + C' ≤ C) (hs : ks + S' ≤ S) (hn : av.length = nn) (hstk : stk = av.reverse ++ .ref k :: rest) (hroom : (rest.map fun v => v.category).sum ≤ 8) (hst : rest.all (vbn n) = true) (hlo : loc.all (fun q => vbn n q.2) = true) (hn0 : n0 ≤ n) (hdg : decode cc pc = .ok (.invokespecial index, 3))
    (hM : CC b l fr' C' S' y' cc' nL' (.ref k :: av) n A w n2 A2 w2) (kk : RC b ad0 n0 n1 A1 w1 l fr C S y cc nL n2 A2 (kc + C') (ks + S') (pc + 3) rest loc w2) : RC b ad0 n0 n1 A1 w1 l fr C S y cc nL n A kc ks pc stk loc w := by
  intro ad had p e s m args below meth c H locs ls hC hP hD hS hl
  obtain ⟨hx, hb, hr, hml, hown, hts, hlk, hin, hK, hE, hO, hF⟩ := id hC
  have hGI : GoodIn TB (Cond.code y' cc' nL' none :: TB) := fun w hw => (List.mem_cons.mp hw).elim (fun e => e ▸ goodTB hY.1) goodTB
  have cw := cwI (R := rmC fr C S) (s := s) (args := args) (own := y.cls) (index := index) (y := y') (bytes := cc') (maxL := nL') (ws := Cond.code y' cc' nL' none :: TB) (rm := rmC fr' C' S') (mc := C') (ms := S') nn hts hGI rfl rfl rfl (hts _ hY.2.1) (hts _ h1) (hts _ h2) hy1 ⟨hY.2.2.1, hY.2.2.2.1, hY.2.2.2.2⟩ ⟨hd.1, by show 8 + (nL' + 11) + 45 * fr' ≤ 45 * fr; omega⟩
  intro T hT X
  have hcat : ((rest.map (tr (gsA b ad n A))).map fun v => v.category).sum ≤ 8 := by
    rw [List.map_map, show ((fun v => Value.category v) ∘ tr (gsA b ad n A)) = (fun v => Value.category v) from funext fun v => tr_cat _ v]
    exact hroom
  obtain ⟨v, st₀, t, T', L, h0, X', hL, e1, e2, ⟨⟨hv, ad1, hag, hP1, hD1⟩, hFr⟩, st⟩ := va_runI (As := av.map (tr (gsA b ad n A))) (b := ad k) (rest := rest.map (tr (gsA b ad n A))) (g := F0 m pc ls (stk.map (tr (gsA b ad n A)))) ⟨hx, hb, hml, hown, hts⟩ (hM ad had.2) cw ⟨fun a U g mk q => by obtain ⟨q1, q2, q3, q4, q5, q6, q7⟩ := q; exact ⟨q1, q2, q3, va_K.moved (u := U) (U := U.calling g mk a) (Vm.Alike.refl U.vm) q4, q6.1 U (U.calling g mk a) _ (State.WarmedH.refl U) q5, q6, q7⟩, fun U hU hW => ⟨rfl, by rw [hU]; exact hP, hD, va_K.moved hW.alike hK, hO.1 s U _ hW (by rw [hU]; exact hO.2 s s.heap H hS.1 hS.2.1 hE), hO, fun q hq => hF q (Nat.le_trans hS.1 (by rw [hU] at hq; exact hq))⟩⟩ rfl (by rw [List.length_map]; exact hn) hl.1 (by
    show stk.map (tr (gsA b ad n A)) = _
    rw [hstk]
    show List.map (tr (gsA b ad n A)) (av.reverse ++ .ref k :: rest) = _
    simp [tr]
    rfl) (lv_room hcat) hdg ⟨hc, hs⟩ T hT X
  cases hv
  obtain ⟨k1, k2, k3⟩ := vx_keep h0 e1 hS (fun q _ h => h) (fun q h => h) hL hFr
  have hag1 : ∀ k, k < n → ad1 k = ad k := hag.1
  have hk := kk ad1 ⟨fun k hk => (hag.1 k (by omega)).trans (had.1 k hk), hag.2⟩ p e s m args below meth c T'.heap (locs ++ L) ls hC (by rw [e1]; exact hP1) hD1 k3 (by rw [loc_ag (b := b) (ad := ad) (n'' := n) (A := A) hag1 hlo]; exact hl)
  rw [stk_ag (b := b) (ad := ad) (n'' := n) (A := A) hag1 hst] at hk
  obtain ⟨t2, a1, b1⟩ := hk T' rfl X'
  exact ⟨t2, st t2 a1, b1⟩
/-- a private maker of a nest mate -/
theorem c_ctorN {fr' C' S' nL' nn index k n2 : Nat} {y' : MethodName} {host : String} {cc' : ByteArray} {av stk : List Value} {A2 : List (Nat × Nat)} {w2 : Wd} (hY : CY y' cc' nL' none nn) (hy1 : y'.name = "<init>") (h1 : ∀ (U : State) (H : Heap), bE b U H → va_Nw (.methodLinkNest y.cls index y' host) U) (h2 : Cond.instanceMethod y' ∈ TB) (hd : fr' + 1 ≤ fr ∧ nL' ≤ 26) (hc : kc + C' ≤ C) (hs : ks + S' ≤ S) (hn : av.length = nn) (hstk : stk = av.reverse ++ .ref k :: rest) (hroom : (rest.map fun v => v.category).sum ≤ 8) (hst : rest.all (vbn n) = true) (hlo : loc.all (fun q => vbn n q.2) = true) (hn0 : n0 ≤ n) (hdg : decode cc pc = .ok (.invokespecial index, 3))
    (hM : CC b l fr' C' S' y' cc' nL' (.ref k :: av) n A w n2 A2 w2) (kk : RC b ad0 n0 n1 A1 w1 l fr C S y cc nL n2 A2 (kc + C') (ks + S') (pc + 3) rest loc w2) : RC b ad0 n0 n1 A1 w1 l fr C S y cc nL n A kc ks pc stk loc w := by
  intro ad had p e s m args below meth c H locs ls hC hP hD hS hl
  obtain ⟨hx, hb, hr, hml, hown, hts, hlk, hin, hK, hE, hO, hF⟩ := id hC
  have hGI : GoodIn TB (Cond.code y' cc' nL' none :: TB) := fun w hw => (List.mem_cons.mp hw).elim (fun e => e ▸ goodTB hY.1) goodTB
  have hNw := h1 s s.heap hE
  have cw := va_cnB (host := host) (ret := none) (R := rmC fr C S) (s := s) (args := args) (own := y.cls) (index := index) (y := y') (bytes := cc') (maxL := nL') (ws := Cond.code y' cc' nL' none :: TB) (rm := rmC fr' C' S') (mc := C') (ms := S') nn hts hGI rfl rfl rfl hNw (hts _ hY.2.1) ⟨hY.2.2.1, hY.2.2.2.1, hY.2.2.2.2⟩ ⟨hd.1, by show 8 + (nL' + 11) + 45 * fr' ≤ 45 * fr; omega⟩
  intro T hT X
  have hcat : ((rest.map (tr (gsA b ad n A))).map fun v => v.category).sum ≤ 8 := by
    rw [List.map_map, show ((fun v => Value.category v) ∘ tr (gsA b ad n A)) = (fun v => Value.category v) from funext fun v => tr_cat _ v]
    exact hroom
  obtain ⟨v, st₀, t, T', L, h0, X', hL, e1, e2, ⟨⟨hv, ad1, hag, hP1, hD1⟩, hFr⟩, st⟩ := va_runIN (As := av.map (tr (gsA b ad n A))) (b := ad k) (rest := rest.map (tr (gsA b ad n A))) (g := F0 m pc ls (stk.map (tr (gsA b ad n A)))) ⟨hx, hb, hml, hown, hts⟩ (hM ad had.2) ⟨cw, hy1, hts _ h2⟩ ⟨fun a U g mk q => by obtain ⟨q1, q2, q3, q4, q5, q6, q7⟩ := q; exact ⟨q1, q2, q3, va_K.moved (u := U) (U := U.calling g mk a) (Vm.Alike.refl U.vm) q4, q6.1 U (U.calling g mk a) _ (State.WarmedH.refl U) q5, q6, q7⟩, fun U hU hW => ⟨rfl, by rw [hU]; exact hP, hD, va_K.moved hW.alike hK, hO.1 s U _ hW (by rw [hU]; exact hO.2 s s.heap H hS.1 hS.2.1 hE), hO, fun q hq => hF q (Nat.le_trans hS.1 (by rw [hU] at hq; exact hq))⟩⟩ rfl (by rw [List.length_map]; exact hn) hl.1 (by
    show stk.map (tr (gsA b ad n A)) = _
    rw [hstk]
    show List.map (tr (gsA b ad n A)) (av.reverse ++ .ref k :: rest) = _
    simp [tr]
    rfl) (lv_room hcat) hdg ⟨hc, hs⟩ T hT X
  cases hv
  obtain ⟨k1, k2, k3⟩ := vx_keep h0 e1 hS (fun q _ h => h) (fun q h => h) hL hFr
  have hag1 : ∀ k, k < n → ad1 k = ad k := hag.1
  have hk := kk ad1 ⟨fun k hk => (hag.1 k (by omega)).trans (had.1 k hk), hag.2⟩ p e s m args below meth c T'.heap (locs ++ L) ls hC (by rw [e1]; exact hP1) hD1 k3 (by rw [loc_ag (b := b) (ad := ad) (n'' := n) (A := A) hag1 hlo]; exact hl)
  rw [stk_ag (b := b) (ad := ad) (n'' := n) (A := A) hag1 hst] at hk
  obtain ⟨t2, a1, b1⟩ := hk T' rfl X'
  exact ⟨t2, st t2 a1, b1⟩
theorem c_ret (hdg : decode cc pc = .ok (.return_, 1)) (hn : n = n1) (hA : A = A1) (hw : w = w1) (hc : kc ≤ C) (hs : ks ≤ S) : RC b ad0 n0 n1 A1 w1 l fr C S y cc nL n A kc ks pc [] loc w := by
  intro ad had p e s m args below meth c H locs ls hC hP hD hS hl
  obtain ⟨hx, hb, hr, hml, hown, hts, hlk, hin, hK, hE, hO, hF⟩ := id hC
  subst hn hA hw
  refine W.widen (k := C) (n := S) hc hs ?_
  exact W.vret hx hb hr (fun t ht hW => ⟨⟨rfl, ad, had, by rw [ht]; exact hP, hD⟩, hS.F ht⟩) hS.2.2 hdg
end RCR
