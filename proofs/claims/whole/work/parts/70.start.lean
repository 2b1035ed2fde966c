/-! THE LAW'S START: both makers, the answer's cell, then the loop -/
def wZZ : Wd := (fun _ _ => 0, fun _ _ => 0)
theorem wl_one {b : Gb} {ad : Nat → Nat} {ci : Nat} {fs : List (Option Nat)} (hd : bds b 0 = .inl (ci, fs)) : wl (gsA b ad 1 []) wZZ = [(ad 0, .inr (ci, fs.map (fun f => match f with | none => Value.int 0 | some _ => Value.null)))] := by
  have hg : gds (gsA b ad 1 []) 0 = .inl (ci, fs.mapIdx (gst [] 0)) := by show dsF (bds b) [] 0 = _; unfold dsF; rw [hd]
  show [(ad 0, ceOf (gsA b ad 1 []) wZZ 0)] = _
  congr 2
  unfold ceOf
  rw [hg]
  show Sum.inr (ci, _) = Sum.inr (ci, _)
  congr 2
  apply List.ext_getElem?
  intro j
  rw [List.getElem?_mapIdx, List.getElem?_mapIdx, List.getElem?_map]
  cases fs[j]? with
  | none => rfl
  | some f => cases f <;> rfl
theorem EB.narrow {F F' : Nat → Prop} {hi : Nat → Nat} {nz : Bool} {U : State} {H : Heap} (h : EB F hi nz U H) (hF : ∀ q, F' q → F q) : EB F' hi nz U H := by
  obtain ⟨⟨a1, a2, a3⟩, h2, h3, h4, h5, h6⟩ := h
  exact ⟨⟨a1.narrow hF, a2.narrow hF, a3⟩, fun i hi => ⟨va_O.narrow (h2 i hi).1 hF, va_OF.narrow (h2 i hi).2.1 hF, va_OF.narrow (h2 i hi).2.2.1 hF, va_T.narrow (h2 i hi).2.2.2 hF⟩, va_Z.narrow h3 hF, va_Z.narrow h4 hF, h5, h6⟩
theorem arr_of {s : State} {args : Array Value} {ty : FieldType} (h : (Cond.arrayClass ty).before args s = true) (hty : ∀ C, ty ≠ .object C) : ∃ cA : ClassId, ArrOfT s cA ty ∧ va_RA s cA ty := by
  obtain ⟨cA, kA, comp, h1, h2, h3⟩ := Cond.arrayClass_spec h
  refine ⟨cA, fun n z => ⟨fun k h => (by cases h), kA, h2, comp, h3⟩, ?_⟩
  cases ty with
  | object C => exact absurd rfl (hty C)
  | _ => exact h1
theorem arr_str {s : State} (h : va_AO "java/lang/String" s) : ∃ cA : ClassId, ArrOfT s cA (.object "java/lang/String") ∧ va_RA s cA (.object "java/lang/String") := by
  obtain ⟨comp, c, k, h1, h2, h3, h4, h5⟩ := Cond.arrayOver_spec h
  exact ⟨c, fun n z => ⟨fun k h => (by cases h), k, h3, comp, h4⟩, k, comp, h3, h4, h1, h5⟩
theorem it12 : Cond.instantiable RX12 142 ∈ TB := tb1 sg9 28 rfl rfl
theorem itRAE : Cond.instantiable RAE 6 ∈ TB := tb1 sg9 34 rfl rfl
theorem it11 : Cond.instantiable RX11 7 ∈ TB := tb1 sg1 36 rfl rfl
theorem kn_A {s : State} {args : Array Value} (hts : ∀ w ∈ TB, w.before args s = true) : ∃ D : va_G, ∀ (c : Nat) (q : vw_C), clA[c]? = some q → u_Kn s q.1 q.2.1 q.2.2 (D.1 c) (D.2 c) := by
  obtain ⟨c0, i0, h0⟩ := u_known hts cf11.1 (hts _ it11)
  obtain ⟨c1, i1, h1⟩ := u_known hts cf4.1 (hts _ it4)
  obtain ⟨c2, i2, h2⟩ := u_known hts cf3.1 (hts _ it3)
  obtain ⟨c3, i3, h3⟩ := u_known hts cf1.1 (hts _ it1)
  obtain ⟨c4, i4, h4⟩ := u_known hts cf9.1 (hts _ it9)
  obtain ⟨c5, i5, h5⟩ := u_known hts cf8.1 (hts _ it8)
  obtain ⟨c6, i6, h6⟩ := u_known hts cf7.1 (hts _ it7)
  obtain ⟨c7, i7, h7⟩ := u_known hts cf5.1 (hts _ it5)
  obtain ⟨c8, i8, h8⟩ := u_known hts cf0.1 (hts _ it0)
  obtain ⟨c9, i9, h9⟩ := u_known hts cf2.1 (hts _ it2)
  obtain ⟨c10, i10, h10⟩ := u_known hts cf10.1 (hts _ it10)
  refine ⟨(fun k => [c0, c1, c2, c3, c4, c5, c6, c7, c8, c9, c10].getD k 0, fun k => [i0, i1, i2, i3, i4, i5, i6, i7, i8, i9, i10].getD k (fun _ => 0)), fun k q hq => ?_⟩
  match k, hq with
  | 0, hq => cases hq; exact h0
  | 1, hq => cases hq; exact h1
  | 2, hq => cases hq; exact h2
  | 3, hq => cases hq; exact h3
  | 4, hq => cases hq; exact h4
  | 5, hq => cases hq; exact h5
  | 6, hq => cases hq; exact h6
  | 7, hq => cases hq; exact h7
  | 8, hq => cases hq; exact h8
  | 9, hq => cases hq; exact h9
  | 10, hq => cases hq; exact h10
  | k + 11, hq => exact absurd hq (by simp [clA])
theorem kn_M {s : State} {args : Array Value} (hts : ∀ w ∈ TB, w.before args s = true) : ∃ D : va_G, ∀ (c : Nat) (q : vw_C), clM[c]? = some q → u_Kn s q.1 q.2.1 q.2.2 (D.1 c) (D.2 c) := by
  obtain ⟨c0, i0, h0⟩ := u_known hts cf12.1 (hts _ it12)
  obtain ⟨c1, i1, h1⟩ := u_known (C := RAE) (T := TAE) (N := 0) hts (fun w hw => by simp [u_ws] at hw) (hts _ itRAE)
  refine ⟨(fun k => [c0, c1].getD k 0, fun k => [i0, i1].getD k (fun _ => 0)), fun k q hq => ?_⟩
  match k, hq with
  | 0, hq => cases hq; exact h0
  | 1, hq => cases hq; exact h1
  | k + 2, hq => exact absurd hq (by simp [clM])
theorem nlA_in : ∀ w ∈ ([.methodLinkNest RX11 15 yX4_init RX11, .methodLinkNest RX4 11 yX1_init RX11, .methodLinkNest RX1 18 yX8_init RX11, .methodLinkNest RX1 34 yX5_init RX11, .methodLinkNest RX1 41 yX0_init RX11, .methodLinkNest RX2 9 yX10_init RX11, .methodLinkNest RX11 22 yX3_init RX11] : List Cond), w ∈ lw_tbl := by
  intro w hw
  simp only [List.mem_cons, List.not_mem_nil, or_false] at hw
  rcases hw with rfl | rfl | rfl | rfl | rfl | rfl | rfl
  · exact sg1 _ (List.mem_of_getElem? (i := 45) (by decide +kernel))
  · exact sg1 _ (List.mem_of_getElem? (i := 51) (by decide +kernel))
  · exact sg1 _ (List.mem_of_getElem? (i := 159) (by decide +kernel))
  · exact sg2 _ (List.mem_of_getElem? (i := 11) (by decide +kernel))
  · exact sg2 _ (List.mem_of_getElem? (i := 36) (by decide +kernel))
  · exact sg2 _ (List.mem_of_getElem? (i := 93) (by decide +kernel))
  · exact sg2 _ (List.mem_of_getElem? (i := 156) (by decide +kernel))
theorem nlA_at {s : State} {args : Array Value} (hts : ∀ w ∈ lw_tbl, w.before args s = true) : nlA s :=
  ⟨va_Nw.of rfl (hts _ (nlA_in _ (by simp))), va_Nw.of rfl (hts _ (nlA_in _ (by simp))), va_Nw.of rfl (hts _ (nlA_in _ (by simp))), va_Nw.of rfl (hts _ (nlA_in _ (by simp))), va_Nw.of rfl (hts _ (nlA_in _ (by simp))), va_Nw.of rfl (hts _ (nlA_in _ (by simp))), va_Nw.of rfl (hts _ (nlA_in _ (by simp)))⟩
theorem nce_in : (flatC (Jvm.Cond.and given_1 narrow_1))[251]? = some (Cond.not (.castable "java/lang/IllegalStateException" "java/lang/IllegalArgumentException")) := by decide +kernel
section MADE
variable {p : Program} {l : Launch} {e : Env} {s : State} {m : MethodId} {below : List Frame} {meth : Method} {c : Code} {H : Heap} {locs : List Loc} {cells slots : Nat} {Q : State → Prop} {ls : Array Slot} {pc b9 : Nat} {rest : List Value}
/-- the law calls a maker on the object that it has just made -/
theorem l_made {b : Gb} {ad : Nat → Nat} {fr' C' S' nL' index n2 : Nat} {y' : MethodName} {cc' : ByteArray} {A2 : List (Nat × Nat)} {w w2 : Wd} (hx : p.tables.exec = Jvm.exec) (hb : c.code = code) (hml : c.maxLocals = 8) (hown : s.vm.findClass RL = some m.cls) (hts : ∀ w ∈ TB, w.before #[Value.ref b9] s = true) (hY : CY y' cc' nL' none 0) (hy1 : y'.name = "<init>") (h1 : Cond.methodLink RL index y' ∈ TB) (h2 : Cond.instanceMethod y' ∈ TB) (hd : fr' + 1 ≤ 2048 ∧ nL' ≤ 26) (hc : cells + C' ≤ 603072) (hs : slots + S' ≤ 7202922) (hroom : (rest.map fun v => v.category).sum ≤ 8) (hls : ls.size = 8) (hdg : decode code pc = .ok (.invokespecial index, 3))
    (hM : CC b l fr' C' S' y' cc' nL' [.ref 0] 1 [] w n2 A2 w2) (had : ∀ k, 600 ≤ k → ad k = bhi b k) (hP : va_P b.1 b.2.2.1 (wl (gsA b ad 1 []) w) H) (hD : va_D (bF b) (wl (gsA b ad 1 []) w)) (hK : va_K b.1 b.2.2.1 (gtyb b) s) (hE : bE b s H) (hO : EOK b) (hF : ∀ q, H.size ≤ q → bF b q) (hS : va_S (fun z => s.heap.size ≤ z) s.heap H locs) (hbF : ∀ q, bF b q → s.heap.size ≤ q)
    (kk : ∀ (ad1 : Nat → Nat) (H1 : Heap) (locs1 : List Loc), ad1 0 = ad 0 → (∀ k, 600 ≤ k → ad1 k = bhi b k) → va_P b.1 b.2.2.1 (wl (gsA b ad1 n2 A2) w2) H1 → va_D (bF b) (wl (gsA b ad1 n2 A2) w2) → va_S (fun z => s.heap.size ≤ z) s.heap H1 locs1 → H.size ≤ H1.size → (∀ q, q < H.size → ¬ bF b q → H1[q]? = H[q]?) → W p l e room_1 s m #[Value.ref b9] below meth c H1 locs1 (cells + C') (slots + S') Q (F0 m (pc + 3) ls rest)) : W p l e room_1 s m #[Value.ref b9] below meth c H locs cells slots Q (F0 m pc ls (.ref (ad 0) :: rest)) := by
  have hGI : GoodIn TB (Cond.code y' cc' nL' none :: TB) := fun w hw => (List.mem_cons.mp hw).elim (fun e => e ▸ goodTB hY.1) goodTB
  have cw := cwI (R := room_1) (s := s) (args := #[Value.ref b9]) (own := RL) (index := index) (y := y') (bytes := cc') (maxL := nL') (ws := Cond.code y' cc' nL' none :: TB) (rm := rmC fr' C' S') (mc := C') (ms := S') 0 hts hGI rfl rfl rfl (hts _ hY.2.1) (hts _ h1) (hts _ h2) hy1 ⟨hY.2.2.1, hY.2.2.2.1, hY.2.2.2.2⟩ ⟨hd.1, by show 8 + (nL' + 11) + 45 * fr' ≤ 94400; omega⟩
  intro T hT X
  obtain ⟨v, st₀, t, T', L, h0, X', hL, e1, e2, ⟨⟨hv, ad1, hag, hP1, hD1⟩, hFr⟩, st⟩ := va_runI (As := []) (b := ad 0) (rest := rest) (g := F0 m pc ls (.ref (ad 0) :: rest)) ⟨hx, hb, hml, hown, hts⟩ (hM ad had) cw ⟨fun a U g mk q => by obtain ⟨q1, q2, q3, q4, q5, q6, q7⟩ := q; exact ⟨q1, q2, q3, va_K.moved (u := U) (U := U.calling g mk a) (Vm.Alike.refl U.vm) q4, q6.1 U (U.calling g mk a) _ (State.WarmedH.refl U) q5, q6, q7⟩, fun U hU hW => ⟨rfl, by rw [hU]; exact hP, hD, va_K.moved hW.alike hK, by rw [hU]; exact hO.1 s U _ hW hE, hO, fun q hq => hF q (by rw [hU] at hq; exact hq)⟩⟩ rfl rfl hls rfl (lv_room hroom) hdg ⟨hc, hs⟩ T hT X
  cases hv
  obtain ⟨k1, k2, k3⟩ := vx_keep h0 e1 hS (fun q _ h => hbF q h) (fun q h => hbF q h) hL hFr
  obtain ⟨t2, a1, b1⟩ := kk ad1 T'.heap (locs ++ L) (hag.1 0 (by omega)) hag.2 (by rw [e1]; exact hP1) hD1 k3 k1 k2 T' rfl X'
  exact ⟨t2, st t2 a1, b1⟩
end MADE
