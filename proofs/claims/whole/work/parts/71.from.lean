/-! THE LAW'S WALK: it answers true from every start, if both sides' pure faces answer alike -/
theorem cnRL_8 : Cond.classLink RL 8 RX11 ∈ TB := tb1 sg1 35 rfl rfl
theorem cnRL_35 : Cond.classLink RL 35 RX12 ∈ TB := tb1 sg9 27 rfl rfl
def fsA0 : List (Option Nat) := [some 1, some 2, some 48, none, none, none, none]
def f0v (fs : List (Option Nat)) : List Value := fs.map (fun f => match f with | none => Value.int 0 | some _ => Value.null)
theorem dfA : ∀ j, j < 7 → defaultValue (tyX11 j) = vp_V (f0v fsA0) j := by decide +kernel
theorem dfM : ∀ j, j < 142 → defaultValue (tyX12 j) = vp_V (f0v fsM) j := by decide +kernel
section NEW
variable {p : Program} {l : Launch} {e : Env} {R : Room} {s : State} {m : MethodId} {args : Array Value} {below : List Frame} {meth : Method} {c : Code} {H : Heap} {locs : List Loc} {cells slots : Nat} {Q : State → Prop} {cc : ByteArray} {pc : Nat} {ls : Array Slot} {rest : List Value}
theorem l_new {own C : String} {T : u_T} {N index : Nat} {D : va_G} {cl : List vw_C} {ci : Nat} {fs : List Value} (hexec : p.tables.exec = Jvm.exec) (hb : c.code = cc) (hts : ∀ w ∈ TB, w.before args s = true) (hin : ∀ w ∈ u_ws C T N, w ∈ TB) (ty : Nat → FieldType) (hty : ∀ k, k < N → parseFieldDescriptor (T k).2.2.1 = some (ty k)) (hown : s.vm.findClass own = some m.cls) (hcl : (Cond.classLink own index C).before args s = true) (hinst : (Cond.instantiable C N).before args s = true) (hini : (Cond.initialized C).before args s = true) (hc : cl[ci]? = some (C, T, N)) (hKn : u_Kn s C T N (D.1 ci) (D.2 ci)) (hfs : ∀ j, j < N → defaultValue (ty j) = vp_V fs j) (hcells : cells + 1 ≤ R.cells) (hslots : slots + N ≤ R.slots) (hdg : decode cc pc = .ok (.new index, 3))
    (kk : ∀ H1 : Heap, H1.size = H.size + 1 → (∀ q, q < H.size → H1[q]? = H[q]?) → va_at D cl (H.size, .inr (ci, fs)) H1 → W p l e R s m args below meth c H1 locs (cells + 1) (slots + N) Q (F0 m (pc + 3) ls (.ref H.size :: rest))) : W p l e R s m args below meth c H locs cells slots Q (F0 m pc ls rest) := by
  refine W.newcK hexec hb hown hcl hinst hini rfl hdg hcells hslots hKn.2.1 rfl fun H1 kC hkC e1 z1 o1 => ?_
  exact kk H1 z1 o1 ⟨_, hc, (u_born ty hts hin hKn hkC e1 hty).to hfs⟩
end NEW
theorem one_P {D : va_G} {cl : List vw_C} {H : Heap} {x : Nat × va_E} (h : va_at D cl x H) : va_P D cl [x] H := fun k q hq => by
  have hz : k < 1 := (List.getElem?_eq_some_iff.mp hq).1
  rw [show k = 0 by omega] at hq
  cases hq
  exact h
theorem one_D {A : Nat → Prop} {x : Nat × va_E} (h : A x.1) : va_D A [x] := ⟨fun i j p q hi hj _ => by
  have h1 : i < 1 := (List.getElem?_eq_some_iff.mp hi).1
  have h2 : j < 1 := (List.getElem?_eq_some_iff.mp hj).1
  omega, fun k q hq => by
  have hz : k < 1 := (List.getElem?_eq_some_iff.mp hq).1
  rw [show k = 0 by omega] at hq
  cases hq
  exact h⟩
theorem no57 : ∀ k : Nat, k < 57 → (match dsA k with | .inl q => q.2.all (fun f => match f with | some t => !(t == 57) | none => true) | .inr _ => true) = true := by decide +kernel
theorem ceA_ad {dA : va_G} {aA : Nat → ClassId} {ad1 ad2 : Nat → Nat} {E1 E2 : State → Heap → Prop} {w : Wd} (k : Nat) (hk : k < 57) (h : ∀ j, j ≠ 57 → ad2 j = ad1 j) : ceOf (GA (dA, aA, ad2, E2)) w k = ceOf (GA (dA, aA, ad1, E1)) w k := by
  have h7 := no57 k hk
  show (match dsA k with | .inl q => _ | .inr q => _) = (match dsA k with | .inl q => _ | .inr q => _)
  cases hd : dsA k with
  | inr z =>
    have h6 : (fun i => some (ad2 (600 + i))) = (fun i => some (ad1 (600 + i))) := by
      funext i
      rw [h (600 + i) (by omega)]
    show Sum.inl (aA z.1, z.2, if z.1 = 1 then _ else if z.1 = 4 then Sum.inr (Sum.inr (Sum.inr (Sum.inr (fun i => some (ad2 (600 + i)))))) else _) = Sum.inl (aA z.1, z.2, if z.1 = 1 then _ else if z.1 = 4 then Sum.inr (Sum.inr (Sum.inr (Sum.inr (fun i => some (ad1 (600 + i)))))) else _)
    rw [h6]
  | inl z =>
    rw [hd] at h7
    dsimp only at h7 ⊢
    congr 2
    apply List.ext_getElem?
    intro j
    rw [List.getElem?_mapIdx, List.getElem?_mapIdx]
    cases hf : z.2[j]? with
    | none => rfl
    | some f =>
      cases f with
      | none => rfl
      | some t =>
        have ht := List.all_eq_true.mp h7 _ (List.mem_of_getElem? hf)
        have ht : t ≠ 57 := by simpa using ht
        show some (if t = 999 then Value.null else .ref (ad2 t)) = some (if t = 999 then Value.null else .ref (ad1 t))
        rw [h t ht]
set_option maxRecDepth 100000 in
set_option maxHeartbeats 4000000 in
/-- 'INV' holds of the two worlds as their makers leave them, and the faces keep it and answer alike: then the law answers true -/
theorem whole_from {INV : Nat → Wd → Wd → Prop} (hFc : Faces INV) (h0 : INV 512 (WX11_init wZZ) (WX12_init wZZ)) {p : Program} {e : Env} {s : State} {m : MethodId} {below : List Frame} {meth : Method} {c : Code} (l : Launch) (hflags : l.flags = flags0) {b L : Nat} {xs : Nat → Int32} (hL : L ≤ 3072) (C0 : lw_At p s m meth c b L xs) : W p l e room_1 s m #[Value.ref b] below meth c s.heap [] 0 0 (lw_Z below #[Value.ref b] s) (entryFrame m ([Value.ref b] : List Value).toArray 8) := by
  obtain ⟨hx, hb, hr, hml, hown, hta, hX, hbl, hlk, hgv⟩ := id C0
  have hfl : l.stackTraces = false := by
    unfold Launch.stackTraces
    rw [hflags]
    decide
  have hts : ∀ w ∈ TB, w.before #[Value.ref b] s = true := fun w hw => hta w (List.mem_filter.mp hw).1
  have hown : s.vm.findClass RL = some m.cls := hown
  obtain ⟨hi, nz, hEB⟩ := eb_start hta hgv
  obtain ⟨dA, hkA⟩ := kn_A hts
  obtain ⟨dM, hkM⟩ := kn_M hts
  obtain ⟨cI, hcI1, hcI2⟩ := arr_of (hts _ ac_int) (fun C h => by cases h)
  obtain ⟨cJ, hcJ1, hcJ2⟩ := arr_of (hts _ ac_long) (fun C h => by cases h)
  obtain ⟨cB, hcB1, hcB2⟩ := arr_of (hts _ ac_byte) (fun C h => by cases h)
  obtain ⟨cZ, hcZ1, hcZ2⟩ := arr_of (hts _ ac_boolean) (fun C h => by cases h)
  obtain ⟨cS, hcS1, hcS2⟩ := arr_str hEB.2.2.2.2.1
  obtain ⟨aA, haA⟩ : ∃ z : Nat → ClassId, z = fun k => [cI, cJ, cB, cZ, cS].getD k 0 := ⟨_, rfl⟩
  have hKA : va_K dA clA (([.int, .long] : List FieldType).mapIdx (fun i t => (aA i, t))) s := by
    refine ⟨hkA, fun k q hq => ?_⟩
    match k, hq with
    | 0, hq => cases hq; rw [haA]; exact ⟨hcI1, hcI2⟩
    | 1, hq => cases hq; rw [haA]; exact ⟨hcJ1, hcJ2⟩
    | k + 2, hq => exact absurd hq (by simp)
  have hKM : va_K dM clM (([.int, .long, .byte, .boolean, .object "java/lang/String"] : List FieldType).mapIdx (fun i t => (aA i, t))) s := by
    refine ⟨hkM, fun k q hq => ?_⟩
    match k, hq with
    | 0, hq => cases hq; rw [haA]; exact ⟨hcI1, hcI2⟩
    | 1, hq => cases hq; rw [haA]; exact ⟨hcJ1, hcJ2⟩
    | 2, hq => cases hq; rw [haA]; exact ⟨hcB1, hcB2⟩
    | 3, hq => cases hq; rw [haA]; exact ⟨hcZ1, hcZ2⟩
    | 4, hq => cases hq; rw [haA]; exact ⟨hcS1, hcS2⟩
    | k + 5, hq => exact absurd hq (by simp)
  have haL : ∀ cA : ClassId, s.vm.findClass ("[" ++ FieldType.long.toString) = some cA → cA = aA 1 := fun cA h => by
    rw [haA]
    exact Option.some.inj (h.symm.trans hcJ2)
  have hl := lv_entry ([.ref b]) (n := 8) (Nat.le_of_ble_eq_true rfl)
  rw [lg_entry_eq]
  generalize (lg_sl ([.ref b]) ++ List.replicate (8 - (lg_sl ([.ref b])).length) Slot.unset).toArray = ls at hl ⊢
  have hl : lv_has ls 8 [(0, .ref b)] := hl
  have hS0 : va_S (fun z => s.heap.size ≤ z) s.heap s.heap [] := va_S.rf
  -- the class
  refine l_new (pc := 0) (D := dA) (cl := clA) (ci := 0) (fs := f0v fsA0) (C := RX11) (T := TX11) (N := 7) hx hb hts cf11.1 tyX11 cf11.2.1 hown (hts _ cnRL_8) (hts _ it11) (hts _ iz11) rfl (hkA 0 _ rfl) dfA (Nat.le_of_ble_eq_true rfl) (Nat.le_of_ble_eq_true rfl) dL_law_0 (fun H1 z1 o1 p1 => ?_)
  refine lv_dup (pc := 3) hx hb dL_law_3 rfl ?_
  obtain ⟨ad, hadq⟩ : ∃ z : Nat → Nat, z = fun k => if k = 0 then s.heap.size else hi k := ⟨_, rfl⟩
  have had0 : ad 0 = s.heap.size := by rw [hadq]; rfl
  have had6 : ∀ k, 600 ≤ k → ad k = hi k := fun k hk => by rw [hadq]; exact if_neg (by omega)
  obtain ⟨q0, hq0⟩ : ∃ z : Gq, z = (dA, aA, hi, EB (fun z => s.heap.size ≤ z) hi nz) := ⟨_, rfl⟩
  have hS1 : va_S (fun z => s.heap.size ≤ z) s.heap H1 [] := ⟨by omega, fun z h _ => o1 z h, fun z hz => nomatch hz⟩
  have hEB1 : EB (fun z => s.heap.size ≤ z) hi nz s H1 := hEB.kept (fun a h _ => o1 a h)
  have hw1 : wl (gsA (gbA q0 (fun z => s.heap.size ≤ z)) ad 1 []) wZZ = [(s.heap.size, .inr (0, f0v fsA0))] := by
    rw [wl_one (ci := 0) (fs := fsA0) rfl, had0]
    rfl
  rw [← had0]
  have hDA : (gbA q0 (fun z => s.heap.size ≤ z)).1 = dA := by rw [hq0]; rfl
  have hqA : q0.1 = dA ∧ q0.2.1 = aA ∧ q0.2.2.1 = hi ∧ q0.2.2.2 = EB (fun z => s.heap.size ≤ z) hi nz := by rw [hq0]; exact ⟨rfl, rfl, rfl, rfl⟩
  have hE0 : q0.2.2.2 = EB (fun z => s.heap.size ≤ z) q0.2.2.1 nz := by rw [hq0]
  refine l_made (pc := 4) (b := gbA q0 (fun z => s.heap.size ≤ z)) (ad := ad) hx hb hml hown hts wyX11_init rfl mlRL_34 iyX11_init ⟨Nat.le_of_ble_eq_true rfl, Nat.le_of_ble_eq_true rfl⟩ (Nat.le_of_ble_eq_true rfl) (Nat.le_of_ble_eq_true rfl) (Nat.le_of_ble_eq_true rfl) hl.1 dL_law_4 (made_A (w := wZZ) hE0) (fun k hk => by rw [had6 k hk]; exact (congrFun hqA.2.2.1 k).symm) (by rw [hw1]; rw [hq0]; exact one_P p1) (by rw [hw1]; exact one_D (Nat.le_refl _)) (by rw [hq0]; exact hKA) (by rw [hq0]; exact ⟨hEB1, nlA_at hta⟩) (eokA hE0) (fun z hz => by show s.heap.size ≤ z; omega) hS1 (fun z hz => hz) (fun ad1 H2 locs2 b0 b6 hPA hDA2 hS2 zz2 oo2 => ?_)
  refine lv_astore_n (pc := 7) (i := 1) (lv' := [(1, .ref (ad 0)), (0, .ref b)]) hx hb dL_law_7 rfl hl (Nat.le_of_ble_eq_true rfl) rfl (fun ls hl => ?_)
  rw [wl_A] at hPA hDA2
  have hPA : va_P dA clA (wl (GA (dA, aA, ad1, EB (fun z => s.heap.size ≤ z) hi nz)) (WX11_init wZZ)) H2 := by rw [hq0] at hPA; exact hPA
  have hDA2 : va_D (fun z => s.heap.size ≤ z) (wl (GA (dA, aA, ad1, EB (fun z => s.heap.size ≤ z) hi nz)) (WX11_init wZZ)) := by rw [hq0] at hDA2; exact hDA2
  have hb6 : ∀ k, 600 ≤ k → ad1 k = hi k := fun k hk => (b6 k hk).trans (congrFun hqA.2.2.1 k)
  -- the reference
  refine l_new (pc := 8) (D := dM) (cl := clM) (ci := 0) (fs := f0v fsM) (C := RX12) (T := TX12) (N := 142) hx hb hts cf12.1 tyX12 cf12.2.1 hown (hts _ cnRL_35) (hts _ it12) (hts _ iz12) rfl (hkM 0 _ rfl) dfM (Nat.le_of_ble_eq_true rfl) (Nat.le_of_ble_eq_true rfl) dL_law_8 (fun H3 z3 o3 p3 => ?_)
  refine lv_dup (pc := 11) hx hb dL_law_11 rfl ?_
  obtain ⟨bd, hbdq⟩ : ∃ z : Nat → Nat, z = fun k => if k = 0 then H2.size else hi k := ⟨_, rfl⟩
  have hbd0 : bd 0 = H2.size := by rw [hbdq]; rfl
  have hbd6 : ∀ k, 600 ≤ k → bd k = hi k := fun k hk => by rw [hbdq]; exact if_neg (by omega)
  have hsz2 : s.heap.size ≤ H2.size := hS2.1
  obtain ⟨q1, hq1⟩ : ∃ z : Gq, z = (dM, aA, hi, EB (fun z => H2.size ≤ z) hi nz) := ⟨_, rfl⟩
  have hqM : q1.1 = dM ∧ q1.2.1 = aA ∧ q1.2.2.1 = hi ∧ q1.2.2.2 = EB (fun z => H2.size ≤ z) hi nz := by rw [hq1]; exact ⟨rfl, rfl, rfl, rfl⟩
  have hE1 : q1.2.2.2 = EB (fun z => H2.size ≤ z) q1.2.2.1 nz := by rw [hq1]
  have hEBM : EB (fun z => H2.size ≤ z) hi nz s s.heap := hEB.narrow (fun z hz => Nat.le_trans hsz2 hz)
  have hS3 : va_S (fun z => s.heap.size ≤ z) s.heap H3 locs2 := ⟨by omega, fun z h h9 => (o3 z (Nat.lt_of_lt_of_le h hsz2)).trans (hS2.2.1 z h h9), hS2.2.2⟩
  have hEB3 : EB (fun z => H2.size ≤ z) hi nz s H3 := hEBM.kept (fun a h _ => (LWd.kept hS3).2 a h)
  have hw3 : wl (gsA (gbM q1 (fun z => H2.size ≤ z)) bd 1 []) wZZ = [(H2.size, .inr (0, f0v fsM))] := by
    rw [wl_one (ci := 0) (fs := fsM) rfl, hbd0]
    rfl
  rw [← hbd0]
  refine l_made (pc := 12) (b := gbM q1 (fun z => H2.size ≤ z)) (ad := bd) hx hb hml hown hts wyX12_init rfl mlRL_37 iyX12_init ⟨Nat.le_of_ble_eq_true rfl, Nat.le_of_ble_eq_true rfl⟩ (Nat.le_of_ble_eq_true rfl) (Nat.le_of_ble_eq_true rfl) (Nat.le_of_ble_eq_true rfl) hl.1 dL_law_12 (made_M (w := wZZ) hE1 (exi_ok hfl (fun U H h => by rw [hq1] at h; exact h.1))) (fun k hk => by rw [hbd6 k hk]; exact (congrFun hqM.2.2.1 k).symm) (by rw [hw3]; rw [hq1]; exact one_P p3) (by rw [hw3]; exact one_D (Nat.le_refl _)) (by rw [hq1]; exact hKM) (by rw [hq1]; exact hEB3) (eokM hE1) (fun z hz => by show H2.size ≤ z; omega) hS3 (fun z hz => Nat.le_trans hsz2 hz) (fun bd1 H4 locs4 c0 c6 hPM hDM hS4 zz4 oo4 => ?_)
  refine lv_astore_n (pc := 15) (i := 2) (lv' := [(2, .ref (bd 0)), (1, .ref (ad 0)), (0, .ref b)]) hx hb dL_law_15 rfl hl (Nat.le_of_ble_eq_true rfl) rfl (fun ls hl => ?_)
  rw [wl_M] at hPM hDM
  have hPM : va_P dM clM (wl (GM (dM, aA, bd1, EB (fun z => H2.size ≤ z) hi nz)) (WX12_init wZZ)) H4 := by rw [hq1] at hPM; exact hPM
  have hDM : va_D (fun z => H2.size ≤ z) (wl (GM (dM, aA, bd1, EB (fun z => H2.size ≤ z) hi nz)) (WX12_init wZZ)) := by rw [hq1] at hDM; exact hDM
  have hc6 : ∀ k, 600 ≤ k → bd1 k = hi k := fun k hk => (c6 k hk).trans (congrFun hqM.2.2.1 k)
  -- the answer's cell
  refine lv_iconst (pc := 16) hx hb dL_law_16 ki_1 ?_
  refine va_newaK (g := F0 m 17 ls [.int 1]) (n := 1) (N := 1) (rest := []) (atype := .long) (h := H4.size) hx hb (hts _ ac_long) rfl dL_law_17 rfl (by decide) (by decide) (Nat.le_of_ble_eq_true rfl) (Nat.le_of_ble_eq_true rfl) (Nat.le_of_ble_eq_true rfl) rfl (fun H5 cA e5 z5 o5 hAr hNm => ?_)
  obtain rfl := haL cA hNm
  refine lv_astore_n (pc := 19) (i := 3) (lv' := [(3, .ref H4.size), (2, .ref (bd 0)), (1, .ref (ad 0)), (0, .ref b)]) hx hb dL_law_19 rfl hl (Nat.le_of_ble_eq_true rfl) rfl (fun ls hl => ?_)
  refine lv_iconst (pc := 20) hx hb dL_law_20 ki_0 ?_
  refine lv_istore (pc := 21) (lv' := [(4, .int 0), (3, .ref H4.size), (2, .ref (bd 0)), (1, .ref (ad 0)), (0, .ref b)]) hx hb dL_law_21 hl (Nat.le_of_ble_eq_true rfl) rfl (fun ls hl => ?_)
  -- all of it
  have hA2 : ∀ k, k < 57 → s.heap.size ≤ ad1 k ∧ ad1 k < H2.size := fun k hk => by
    have h1 := wl_at (Γ := GA (dA, aA, ad1, EB (fun z => s.heap.size ≤ z) hi nz)) (w := WX11_init wZZ) hk
    exact ⟨hDA2.2 k _ h1, (hPA k _ h1).lt⟩
  have hM2 : ∀ k, k < 99 → H2.size ≤ bd1 k ∧ bd1 k < H4.size := fun k hk => by
    have h1 := wl_at (Γ := GM (dM, aA, bd1, EB (fun z => H2.size ≤ z) hi nz)) (w := WX12_init wZZ) hk
    exact ⟨hDM.2 k _ h1, (hPM k _ h1).lt⟩
  have hsz4 : H2.size < H4.size := Nat.lt_of_le_of_lt (hM2 0 (by omega)).1 (hM2 0 (by omega)).2
  obtain ⟨ad2, had2⟩ : ∃ z : Nat → Nat, z = fun k => if k = 57 then H4.size else ad1 k := ⟨_, rfl⟩
  have ha57 : ad2 57 = H4.size := by rw [had2]; rfl
  have ha9 : ∀ k, k ≠ 57 → ad2 k = ad1 k := fun k hk => by rw [had2]; exact if_neg hk
  obtain ⟨qA, hqA9⟩ : ∃ z : Gq, z = (dA, aA, ad2, fun U H => EB (fun z => s.heap.size ≤ z) hi nz U H ∧ va_Nc "java/lang/IllegalStateException" "java/lang/IllegalArgumentException" U) := ⟨_, rfl⟩
  obtain ⟨qM, hqM9⟩ : ∃ z : Gq, z = (dM, aA, bd1, EB (fun z => H2.size ≤ z) hi nz) := ⟨_, rfl⟩
  have hgA : gad (GH qA) = ad2 := by rw [hqA9]; rfl
  have hgA' : gad (GA qA) = ad2 := by rw [hqA9]; rfl
  have hgM : gad (GM qM) = bd1 := by rw [hqM9]; rfl
  have hwA : ∀ z, gAw (GH qA) z → s.heap.size ≤ z ∧ (z < H2.size ∨ z = H4.size) := fun z hz => by
    obtain ⟨k, hk, rfl⟩ := hz
    have hk : k < 58 := hk
    rw [hgA]
    by_cases h : k = 57
    · rw [h, ha57]; exact ⟨by omega, Or.inr rfl⟩
    · rw [ha9 k h]; exact ⟨(hA2 k (by omega)).1, Or.inl (hA2 k (by omega)).2⟩
  have hwM : ∀ z, gAw (GM qM) z → H2.size ≤ z ∧ z < H4.size := fun z hz => by
    obtain ⟨k, hk, rfl⟩ := hz
    rw [hgM]
    exact hM2 k hk
  have hS5 : va_S (fun z => s.heap.size ≤ z) s.heap H5 locs4 := ⟨by have := hS4.1; omega, fun z h h9 => (o5 z (Nat.lt_of_lt_of_le h hS4.1)).trans (hS4.2.1 z h h9), hS4.2.2⟩
  have hGA : GOK (GH qA) := by
    refine ⟨fun i j hi9 hj9 e9 => ?_, fun u U H hW h => ?_, fun U H Hb hz hk h => ?_⟩
    · have hi9 : i < 58 := hi9
      have hj9 : j < 58 := hj9
      rw [hgA] at e9
      by_cases h1 : i = 57
      · by_cases h2 : j = 57
        · omega
        · rw [h1, ha57, ha9 j h2] at e9
          have := (hA2 j (by omega)).2
          omega
      · by_cases h2 : j = 57
        · rw [h2, ha57, ha9 i h1] at e9
          have := (hA2 i (by omega)).2
          omega
        · rw [ha9 i h1, ha9 j h2] at e9
          exact hDA2.1 i j _ _ (wl_at (Γ := GA (dA, aA, ad1, EB (fun z => s.heap.size ≤ z) hi nz)) (show i < 57 by omega)) (wl_at (Γ := GA (dA, aA, ad1, EB (fun z => s.heap.size ≤ z) hi nz)) (show j < 57 by omega)) e9
    · have h : qA.2.2.2 u H := h
      show qA.2.2.2 U H
      rw [hqA9] at h ⊢
      exact ⟨h.1.warm hW, h.2.moved hW.alike⟩
    · have h : qA.2.2.2 U H := h
      show qA.2.2.2 U Hb
      rw [hqA9] at h ⊢
      exact ⟨h.1.kept (fun a ha hF => hk a ha (fun z => hF (hwA a z).1)), h.2⟩
  have hGM : GOK (GM qM) := by
    refine ⟨fun i j hi9 hj9 e9 => ?_, fun u U H hW h => ?_, fun U H Hb hz hk h => ?_⟩
    · rw [hgM] at e9
      exact hDM.1 i j _ _ (wl_at (Γ := GM (dM, aA, bd1, EB (fun z => H2.size ≤ z) hi nz)) (show i < 99 from hi9)) (wl_at (Γ := GM (dM, aA, bd1, EB (fun z => H2.size ≤ z) hi nz)) (show j < 99 from hj9)) e9
    · have h : qM.2.2.2 u H := h
      show qM.2.2.2 U H
      rw [hqM9] at h ⊢
      exact h.warm hW
    · have h : qM.2.2.2 U H := h
      show qM.2.2.2 U Hb
      rw [hqM9] at h ⊢
      exact h.kept (fun a ha hF => hk a ha (fun z => hF (hwM a z).1))
  have hNC0 : va_Nc "java/lang/IllegalStateException" "java/lang/IllegalArgumentException" s := va_Nc.of (flat_of_before _ hgv _ (List.mem_of_getElem? nce_in))
  have hC : LCx qA qM b L xs p s m meth c := by
    refine ⟨⟨hx, hb, hr, hml, hown, hts, hlk⟩, ⟨hX, hbl⟩, ⟨by rw [hqA9]; exact hKA, by rw [hqM9]; exact hKM⟩, ⟨hGA, hGM⟩, fun z h1 h2 => ?_, ⟨fun z h => (hwA z h).1, fun z h => Nat.le_trans hsz2 (hwM z h).1⟩, ⟨fun H hz hk => ?_, fun H hz hk => ?_⟩⟩
    · have a1 := hwA z h1
      have a2 := hwM z h2
      omega
    · show qA.2.2.2 s H
      rw [hqA9]
      exact ⟨hEB.kept (fun a ha _ => hk a ha), hNC0⟩
    · show qM.2.2.2 s H
      rw [hqM9]
      exact hEBM.kept (fun a ha _ => hk a ha)
  have hW : LWd qA qM s (mrg (WX11_init wZZ) wZZ) (WX12_init wZZ) H5 locs4 := by
    refine ⟨fun k x hx9 => ?_, ?_, hS5⟩
    · obtain ⟨hk, rfl⟩ := wl_inv hx9
      have hk : k < 58 := hk
      by_cases h : k = 57
      · subst h
        rw [ce57, hgA, ha57]
        show H5[H4.size]? = some (vp_cell _ _)
        rw [e5]
        show _ = some (arrV (qA.2.1 1) 1 (fun j => Value.long (gl wZZ 57 j)))
        rw [hqA9]
        rfl
      · have hk8 : k < 57 := by omega
        rw [ceH hk8, ceM hk8, hgA, ha9 k h]
        have h1 := hPA k _ (wl_at (Γ := GA (dA, aA, ad1, EB (fun z => s.heap.size ≤ z) hi nz)) (w := WX11_init wZZ) hk8)
        have h2 : va_at dA clA (ad1 k, ceOf (GA (dA, aA, ad1, EB (fun z => s.heap.size ≤ z) hi nz)) (WX11_init wZZ) k) H5 := h1.kept (by
          show H5[ad1 k]? = H2[ad1 k]?
          have g1 := hA2 k hk8
          rw [o5 _ (by omega), oo4 _ (by omega) (by show ¬ H2.size ≤ ad1 k; omega), o3 _ g1.2])
        have h3 : ceOf (GA qA) (WX11_init wZZ) k = ceOf (GA (dA, aA, ad1, EB (fun z => s.heap.size ≤ z) hi nz)) (WX11_init wZZ) k := by
          rw [hqA9]
          exact ceA_ad k hk8 (fun j hj => ha9 j hj)
        rw [h3, hqA9]
        exact h2
    · rw [hqM9]
      exact hPM.kept (fun k x hx9 => o5 _ ((hPM k x hx9).lt))
  have hIv : INV 512 (mrg (WX11_init wZZ) wZZ) (WX12_init wZZ) := hFc.2 _ _ _ _ h0 (mrg_at _ _)
  have hgo := lw_loop (e := e) (below := below) (F := fun z => s.heap.size ≤ z) (FM := fun z => H2.size ≤ z) hC hL hfl (fun U H h => by rw [hqA9] at h; exact h.1.1) (fun z h => (hwA z (hA_w h)).1) (fun U H h => by rw [hqA9] at h; exact h.2) (sgn_EB (hi := hi) (nz := nz) (fun U H h => by rw [hqA9] at h; exact h.1) (fun z h => (hwA z (hA_w h)).1) (fun k hk => by rw [hqA9]; exact (ha9 k (by omega)).trans (hb6 k hk))) (sgm_EB (hi := hi) (nz := nz) (fun U H h => by rw [hqM9] at h; exact h) (fun z h => (hwM z h).1) (fun k hk => by rw [hqM9]; exact hc6 k hk)) (fun U H h => by rw [hqM9] at h; exact h.1) hFc 512 0 rfl (mrg (WX11_init wZZ) wZZ) (WX12_init wZZ) H5 locs4 ls (0 + 1 + 56 + 1 + 98 + 1) (0 + 7 + 368404 + 142 + 1515487 + 1) hIv hW (by
    have g0 : gad (GH qA) 0 = ad 0 := by rw [hgA, ha9 0 (by omega), b0]
    have g1 : gad (GM qM) 0 = bd 0 := by rw [hgM, c0]
    have g2 : gad (GH qA) 57 = H4.size := by rw [hgA, ha57]
    unfold LL
    rw [g0, g1, g2]
    exact lv_sub hl [4, 3, 2, 1, 0] rfl) (by omega) (by omega)
  exact hgo
