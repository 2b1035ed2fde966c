/-! CALLS OUT OF A MAKER -/
theorem va_D_w {Γ : Gm} {F : Nat → Prop} {w u : Wd} (h : va_D F (wl Γ w)) : va_D F (wl Γ u) := by
  refine ⟨fun i j p q hi hj e => ?_, fun k q hk => ?_⟩
  · obtain ⟨h1, rfl⟩ := wl_inv hi
    obtain ⟨h2, rfl⟩ := wl_inv hj
    exact h.1 i j _ _ (wl_at h1) (wl_at h2) e
  · obtain ⟨h1, rfl⟩ := wl_inv hk
    exact h.2 k (gad Γ k, ceOf Γ w k) (wl_at h1)
theorem gok_of {b : Gb} {ad : Nat → Nat} {n : Nat} {A : List (Nat × Nat)} {w : Wd} (hD : va_D (bF b) (wl (gsA b ad n A) w)) (hO : EOK b) : GOK (gsA b ad n A) ∧ ∀ q, gAw (gsA b ad n A) q → bF b q := by
  have hAF : ∀ q, gAw (gsA b ad n A) q → bF b q := fun q h => by
    obtain ⟨k, hk, rfl⟩ := h
    exact hD.2 k _ (wl_at (Γ := gsA b ad n A) (w := w) hk)
  exact ⟨⟨fun i j hi hj e => hD.1 i j _ _ (wl_at (Γ := gsA b ad n A) (w := w) hi) (wl_at (Γ := gsA b ad n A) (w := w) hj) e, fun u U H hW hE => hO.1 u U H hW hE, fun U H H1 hz hk hE => hO.2 U H H1 hz (fun a ha hF => hk a ha (fun z => hF (hAF a z))) hE⟩, hAF⟩
section RCC
variable {b : Gb} {ad0 : Nat → Nat} {n0 n1 : Nat} {A1 : List (Nat × Nat)} {w1 : Wd} {l : Launch} {fr C S : Nat} {y : MethodName} {cc : ByteArray} {nL : Nat} {n : Nat} {A : List (Nat × Nat)} {kc ks : Nat} {pc : Nat} {rest : List Value} {loc : List (Nat × Value)} {w : Wd}
theorem c_callS {d' nL' nn index : Nat} {y' : MethodName} {cc' : ByteArray} {ret' : Option FieldType} {av stk : List Value} {N9 : Option Value → Wd → Prop} (hY : CY y' cc' nL' ret' nn) (h1 : Cond.methodLink y.cls index y' ∈ TB) (h2 : Cond.static y' ∈ TB) (hd : d' + 1 ≤ fr ∧ nL' ≤ 26) (hn : av.length = nn) (hstk : stk = av.reverse ++ rest) (hroom : (rest.map fun v => v.category).sum ≤ 8) (hks : kc ≤ C ∧ ks ≤ S) (hdg : decode cc pc = .ok (.invokestatic index, 3))
    (hM : ∀ ad : Nat → Nat, Ct (gsA b ad n A) l d' y' cc' nL' ret' av w N9 (fun _ _ => False)) (kk : ∀ v u, N9 v u → RC b ad0 n0 n1 A1 w1 l fr C S y cc nL n A kc ks (pc + 3) (v.toList ++ rest) loc u) : RC b ad0 n0 n1 A1 w1 l fr C S y cc nL n A kc ks pc stk loc w := by
  intro ad had p e s m args below meth c H locs ls hC hP hD hS hl
  obtain ⟨hx, hb, hr, hml, hown, hts, hlk, hin, hK, hE, hO, hF⟩ := id hC
  obtain ⟨hG, hAF⟩ := gok_of hD hO
  have hcat : ((rest.map (tr (gsA b ad n A))).map fun v => v.category).sum ≤ 8 := by
    rw [List.map_map, show ((fun v => Value.category v) ∘ tr (gsA b ad n A)) = (fun v => Value.category v) from funext fun v => tr_cat _ v]
    exact hroom
  have hGI : GoodIn TB (Cond.code y' cc' nL' ret' :: TB) := fun w hw => (List.mem_cons.mp hw).elim (fun e => e ▸ goodTB hY.1) goodTB
  have cb : CallB (rmC fr C S) s args y.cls index y' cc' nL' ret' (Cond.code y' cc' nL' ret' :: TB) (rmD d') 0 0 nn := callB_of nn hts hGI rfl rfl rfl (hts _ hY.2.1) (hts _ h1) ⟨hY.2.2.1, hY.2.2.2.1, hY.2.2.2.2⟩ ⟨hd.1, by show 8 + (nL' + 11) + 45 * d' ≤ 45 * fr; omega⟩
  intro T hT Y
  rcases vx_runS (As := av.map (tr (gsA b ad n A))) (rest := rest.map (tr (gsA b ad n A))) (g := F0 m pc ls (stk.map (tr (gsA b ad n A)))) ⟨hx, hb, hml, hown, hts⟩ (hM ad) ⟨cb, hts _ h2⟩ ⟨pn_blind (gsA b ad n A) _ _, fun U hU hW => ⟨rfl, by rw [hU]; exact hP, va_K.moved hW.alike hK, hG.2.1 s U _ hW (by rw [hU]; exact hO.2 s s.heap H hS.1 hS.2.1 hE), hG⟩⟩ rfl (by rw [List.length_map]; exact hn) hl.1 (by
    show stk.map (tr (gsA b ad n A)) = _
    rw [hstk]
    simp) (lv_room hcat) hdg hks T hT Y with ⟨v, st₀, t, T', L, h0, X', hL, e1, e2, ⟨⟨v', u, hv, hu, hPu⟩, hFr⟩, st⟩ | ⟨q, st₀, t, T', L, E9, ce, h0, X', hL, e1, e2, ⟨⟨u, hu, hPu⟩, hFr⟩, hce, hcv, hcl, st⟩
  · obtain rfl := Outcome.returned.inj hv
    obtain ⟨k1, k2, k3⟩ := vx_keep h0 e1 hS (fun q _ h => hAF q h) (fun q h => hAF q h) hL hFr
    have hk := kk v' u hu ad had p e s m args below meth c T'.heap (locs ++ L) ls hC (by rw [e1]; exact hPu) (va_D_w hD) k3 hl
    obtain ⟨t2, a1, b1⟩ := hk T' rfl X'
    refine ⟨t2, st t2 ?_, b1⟩
    cases v' <;> exact a1
  · exact hu.elim
theorem c_callX {d' nL' nn index k : Nat} {Cn : String} {y' : MethodName} {cc' : ByteArray} {ret' : Option FieldType} {av stk : List Value} {N9 : Option Value → Wd → Prop} (hY : CY y' cc' nL' ret' nn) (hR9 : ∀ ad : Nat → Nat, (∀ k, 600 ≤ k → ad k = bhi b k) → ∀ (U : State) (H : Heap), bE b U H → va_O Cn (ad k) (bF b) U H) (hC9 : y'.cls = Cn) (h1 : Cond.methodLink y.cls index y' ∈ TB) (h2 : Cond.instanceMethod y' ∈ TB) (h3 : Cond.selects Cn y' y' ∈ TB) (hd : d' + 1 ≤ fr ∧ nL' ≤ 26) (hn : av.length = nn) (hstk : stk = av.reverse ++ .ref k :: rest) (hroom : (rest.map fun v => v.category).sum ≤ 8) (hks : kc ≤ C ∧ ks ≤ S) (hdg : decode cc pc = .ok (.invokevirtual index, 3))
    (hM : ∀ ad : Nat → Nat, (∀ k, 600 ≤ k → ad k = bhi b k) → (∀ q, gAw (gsA b ad n A) q → bF b q) → Ct (gsA b ad n A) l d' y' cc' nL' ret' (.ref k :: av) w N9 (fun _ _ => False)) (kk : ∀ v u, N9 v u → RC b ad0 n0 n1 A1 w1 l fr C S y cc nL n A kc ks (pc + 3) (v.toList ++ rest) loc u) : RC b ad0 n0 n1 A1 w1 l fr C S y cc nL n A kc ks pc stk loc w := by
  intro ad had p e s m args below meth c H locs ls hC hP hD hS hl
  obtain ⟨hx, hb, hr, hml, hown, hts, hlk, hin, hK, hE, hO, hF⟩ := id hC
  obtain ⟨hG, hAF⟩ := gok_of hD hO
  have hcat : ((rest.map (tr (gsA b ad n A))).map fun v => v.category).sum ≤ 8 := by
    rw [List.map_map, show ((fun v => Value.category v) ∘ tr (gsA b ad n A)) = (fun v => Value.category v) from funext fun v => tr_cat _ v]
    exact hroom
  have hGI : GoodIn TB (wsV y.cls index Cn y' (Cond.code y' cc' nL' ret' :: TB)) := by
    intro w hw
    unfold wsV at hw
    simp only [List.mem_append, List.mem_cons, List.not_mem_nil, or_false] at hw
    rcases hw with (rfl | rfl | rfl | rfl) | rfl | hw
    · exact goodTB h1
    · exact goodTB h2
    · exact goodTB h3
    · rw [← hC9]; exact goodTB hY.2.1
    · exact goodTB hY.1
    · exact goodTB hw
  have cw : CallW (rmC fr C S) s args y.cls Cn index y' cc' nL' ret' (Cond.code y' cc' nL' ret' :: TB) (rmD d') 0 0 nn := cwV nn hts hGI rfl rfl rfl ⟨hC9, hY.2.2.1, hY.2.2.2.1, hY.2.2.2.2⟩ ⟨hd.1, by show 8 + (nL' + 11) + 45 * d' ≤ 45 * fr; omega⟩
  intro T hT Y
  rcases vx_runV (As := av.map (tr (gsA b ad n A))) (b := ad k) (rest := rest.map (tr (gsA b ad n A))) (g := F0 m pc ls (stk.map (tr (gsA b ad n A)))) ⟨hx, hb, hml, hown, hts⟩ (hM ad had.2 hAF) cw ⟨pn_blind (gsA b ad n A) _ _, (by obtain ⟨cell, g1, g2, g3, -⟩ := (hR9 ad had.2 s s.heap hE).kept hS.2.1; exact ⟨cell, g1, g2, g3⟩), fun U hU hW => ⟨rfl, by rw [hU]; exact hP, va_K.moved hW.alike hK, hG.2.1 s U _ hW (by rw [hU]; exact hO.2 s s.heap H hS.1 hS.2.1 hE), hG⟩⟩ rfl (by rw [List.length_map]; exact hn) hl.1 (by
    show stk.map (tr (gsA b ad n A)) = _
    rw [hstk]
    show List.map (tr (gsA b ad n A)) (av.reverse ++ .ref k :: rest) = _
    simp [tr]
    rfl) (lv_room hcat) hdg hks T hT Y with ⟨v, st₀, t, T', L, h0, X', hL, e1, e2, ⟨⟨v', u, hv, hu, hPu⟩, hFr⟩, st⟩ | ⟨q, st₀, t, T', L, E9, ce, h0, X', hL, e1, e2, ⟨⟨u, hu, hPu⟩, hFr⟩, hce, hcv, hcl, st⟩
  · obtain rfl := Outcome.returned.inj hv
    obtain ⟨k1, k2, k3⟩ := vx_keep h0 e1 hS (fun q _ h => hAF q h) (fun q h => hAF q h) hL hFr
    have hk := kk v' u hu ad had p e s m args below meth c T'.heap (locs ++ L) ls hC (by rw [e1]; exact hPu) (va_D_w hD) k3 hl
    obtain ⟨t2, a1, b1⟩ := hk T' rfl X'
    refine ⟨t2, st t2 ?_, b1⟩
    cases v' <;> exact a1
  · exact hu.elim
theorem c_ldcS {k index : Nat} {tx : String} (hk6 : 600 ≤ k) (hZ : ∀ (U : State) (H : Heap), bE b U H → vk_R y.cls index tx (bhi b k) U) (hdg : decode cc pc = .ok (.ldc index, 2)) (kk : RC b ad0 n0 n1 A1 w1 l fr C S y cc nL n A kc ks (pc + 2) (.ref k :: rest) loc w) : RC b ad0 n0 n1 A1 w1 l fr C S y cc nL n A kc ks pc rest loc w := by
  intro ad had p e s m args below meth c H locs ls hC hP hD hS hl
  obtain ⟨hx, hb, hr, hml, hown, hts, hlk, hin, hK, hE, hO, hF⟩ := id hC
  have h9 := hZ s s.heap hE
  rw [← had.2 k hk6] at h9
  exact va_ldcS hx hb hown h9 hdg (kk ad had p e s m args below meth c H locs ls hC hP hD hS hl)
end RCC
