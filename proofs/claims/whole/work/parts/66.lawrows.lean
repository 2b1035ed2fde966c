/-! THE LAW: both sides and the answer's cell; the rows of its calls -/
/-- what stays as it is all along the law's loop -/
def LCx (qA qM : Gq) (b L : Nat) (xs : Nat → Int32) (p : Program) (s : State) (m : MethodId) (meth : Method) (c : Code) : Prop :=
  (p.tables.exec = Jvm.exec ∧ c.code = code ∧ meth.sig.returnType = ret ∧ c.maxLocals = 8 ∧ s.vm.findClass RL = some m.cls ∧ (∀ w ∈ TB, w.before #[Value.ref b] s = true) ∧ meth.locks = false) ∧
  (va_X b L xs s s.heap ∧ b < s.heap.size) ∧
  (va_K (gD (GH qA)) (gcl (GH qA)) (gty (GH qA)) s ∧ va_K (gD (GM qM)) (gcl (GM qM)) (gty (GM qM)) s) ∧
  (GOK (GH qA) ∧ GOK (GM qM)) ∧
  (∀ z, gAw (GH qA) z → ¬ gAw (GM qM) z) ∧
  ((∀ z, gAw (GH qA) z → s.heap.size ≤ z) ∧ (∀ z, gAw (GM qM) z → s.heap.size ≤ z)) ∧
  ((∀ H : Heap, s.heap.size ≤ H.size → (∀ a : Nat, a < s.heap.size → H[a]? = s.heap[a]?) → gE (GH qA) s H) ∧ (∀ H : Heap, s.heap.size ≤ H.size → (∀ a : Nat, a < s.heap.size → H[a]? = s.heap[a]?) → gE (GM qM) s H))
def LWd (qA qM : Gq) (s : State) (wA wM : Wd) (H : Heap) (locs : List Loc) : Prop :=
  va_P (gD (GH qA)) (gcl (GH qA)) (wl (GH qA) wA) H ∧ va_P (gD (GM qM)) (gcl (GM qM)) (wl (GM qM) wM) H ∧ va_S (fun z => s.heap.size ≤ z) s.heap H locs
theorem LWd.kept {s : State} {H : Heap} {locs : List Loc} (h : va_S (fun z => s.heap.size ≤ z) s.heap H locs) : s.heap.size ≤ H.size ∧ ∀ a : Nat, a < s.heap.size → H[a]? = s.heap[a]? := ⟨h.1, fun a ha => h.2.1 a ha (fun z => Nat.not_lt.mpr z ha)⟩
section LAW
variable {p : Program} {l : Launch} {e : Env} {s : State} {m : MethodId} {below : List Frame} {meth : Method} {c : Code} {H : Heap} {locs : List Loc} {cells slots : Nat} {Q : State → Prop} {ls : Array Slot} {pc b L : Nat} {xs : Nat → Int32} {qA qM : Gq} {wA wM : Wd} {rest stk : List Value}
/-- the call of a helper -/
theorem l_callJ {d' nL' n index : Nat} {y' : MethodName} {cc' : ByteArray} {hh : List (Nat × Nat × Nat × Nat)} {av : List Value} {N9 : Option Value → Wd → Prop} (hC : LCx qA qM b L xs p s m meth c) (hW : LWd qA qM s wA wM H locs) (hcy : Cond.codeWith y' cc' nL' (some .int) hh ∈ TB) (hi9 : Cond.initialized y'.cls ∈ TB) (hst9 : Cond.static y' ∈ TB) (hd9 : y'.cls ≠ "java/lang/invoke/MethodHandle" ∧ y'.cls ≠ "java/lang/invoke/VarHandle" ∧ (parseMethodDescriptor y'.desc).map (fun d => d.parameters.length) = some n) (h1 : Cond.methodLink RL index y' ∈ TB) (hd : d' + 1 ≤ 2048 ∧ nL' ≤ 26) (hn : av.length = n) (hstk : stk = (av.map (tr (GH qA))).reverse ++ rest) (hroom : (rest.map fun v => v.category).sum ≤ 8) (hls : ls.size = 8) (hkc : cells + 1 ≤ 603072 ∧ slots + 6 ≤ 7202922) (hdg : decode code pc = .ok (.invokestatic index, 3))
    (hM : CtJ qA l d' y' cc' nL' hh av wA N9)
    (kk : ∀ v u H1 locs1, N9 v u → LWd qA qM s u wM H1 locs1 → W p l e room_1 s m #[Value.ref b] below meth c H1 locs1 (cells + 1) (slots + 6) Q (F0 m (pc + 3) ls ((v.map (tr (GH qA))).toList ++ rest))) : W p l e room_1 s m #[Value.ref b] below meth c H locs cells slots Q (F0 m pc ls stk) := by
  obtain ⟨⟨hx, hb, hr, hml, hown, hts, hlk⟩, ⟨hX, hbl⟩, ⟨hKA, hKM⟩, ⟨hGA, hGM⟩, hdis, ⟨hFA, hFM⟩, ⟨hEA, hEM⟩⟩ := hC
  obtain ⟨hPA, hPM, hS⟩ := hW
  obtain ⟨z1, z2⟩ := LWd.kept hS
  have hGI : GoodIn TB (va_wsS RL index y' (Cond.codeWith y' cc' nL' (some .int) hh :: TB)) := by
    intro w hw
    unfold va_wsS at hw
    simp only [List.mem_append, List.mem_cons, List.not_mem_nil, or_false] at hw
    rcases hw with (rfl | rfl | rfl) | rfl | hw
    · first | exact goodTB h1 | exact goodTB hst9 | exact goodTB hi9
    · first | exact goodTB h1 | exact goodTB hst9 | exact goodTB hi9
    · first | exact goodTB h1 | exact goodTB hst9 | exact goodTB hi9
    · exact goodTB hcy
    · exact goodTB hw
  have cw : vx_CSW room_1 s #[Value.ref b] RL index y' cc' nL' (some .int) hh (Cond.codeWith y' cc' nL' (some .int) hh :: TB) (rmC d' 1 6) 1 6 n := vx_cwSW n hts hGI rfl rfl rfl hd9 ⟨hd.1, by show 8 + (nL' + 11) + 45 * d' ≤ 94400; omega⟩
  intro T hT Y
  rcases vx_runSX (As := av.map (tr (GH qA))) (rest := rest) (g := F0 m pc ls stk) ⟨hx, hb, hml, hown, hts⟩ hM cw ⟨pn_blind (GH qA) _ _, fun U hU hW => ⟨rfl, by rw [hU]; exact hPA, va_K.moved hW.alike hKA, by rw [hU]; exact hGA.2.1 s U _ hW (hEA H z1 z2), hGA⟩⟩ rfl (by rw [List.length_map]; exact hn) hls hstk (lv_room hroom) hdg hkc T hT Y with ⟨v, st₀, t, T', L9, h0, X', hL, e1, e2, ⟨⟨v', u, hv, hu, hPu⟩, hFr⟩, st⟩ | ⟨q, st₀, t, T', L9, E9, ce, h0, X', hL, e1, e2, ⟨⟨u, hu, hPu⟩, hFr⟩, hce, hcv, hcl, st⟩
  · obtain rfl := Outcome.returned.inj hv
    obtain ⟨k1, k2, k3⟩ := vx_keep h0 e1 hS (fun z _ h => hFA z h) (fun z h => hFA z h) hL hFr
    have hk := kk v' u T'.heap (locs ++ L9) hu ⟨by rw [e1]; exact hPu, hPM.kept (fun k x hx => k2 x.1 ((hPM k x hx).lt) (fun z => by
      obtain ⟨hk9, rfl⟩ := wl_inv hx
      exact hdis _ z ⟨k, hk9, rfl⟩)), k3⟩
    obtain ⟨t2, a1, b1⟩ := hk T' rfl X'
    exact ⟨t2, st t2 a1, b1⟩
  · exact hu.elim
theorem l_words {index : Nat} {C : String} {y' : MethodName} {ws : List Cond} {w0 : Cond} (h0 : w0 ∈ TB) (hi9 : Cond.initialized y'.cls ∈ TB) (hC9 : y'.cls = C) (h1 : Cond.methodLink RL index y' ∈ TB) (h2 : Cond.instanceMethod y' ∈ TB) (h3 : Cond.selects C y' y' ∈ TB) (hws : ws = w0 :: TB) : GoodIn TB (wsV RL index C y' ws) := by
  subst hws
  intro w hw
  unfold wsV at hw
  simp only [List.mem_append, List.mem_cons, List.not_mem_nil, or_false] at hw
  rcases hw with (rfl | rfl | rfl | rfl) | rfl | hw
  · exact goodTB h1
  · exact goodTB h2
  · exact goodTB h3
  · rw [← hC9]; exact goodTB hi9
  · exact goodTB h0
  · exact goodTB hw
/-- behind a call on the reference's side -/
theorem l_backM (hC : LCx qA qM b L xs p s m meth c) (hW : LWd qA qM s wA wM H locs) {st₀ t T' : State} {L9 : List Loc} {u : Wd} (h0 : st₀.heap = H) (e1 : T'.heap = t.heap) (hL : ∀ q ∈ L9, gAw (GM qM) q.base) (hFr : va_F (gAw (GM qM)) st₀ t) (hPu : va_P (gD (GM qM)) (gcl (GM qM)) (wl (GM qM) u) t.heap) : LWd qA qM s wA u T'.heap (locs ++ L9) := by
  obtain ⟨⟨hx, hb, hr, hml, hown, hts, hlk⟩, ⟨hX, hbl⟩, ⟨hKA, hKM⟩, ⟨hGA, hGM⟩, hdis, ⟨hFA, hFM⟩, ⟨hEA, hEM⟩⟩ := hC
  obtain ⟨hPA, hPM, hS⟩ := hW
  obtain ⟨k1, k2, k3⟩ := vx_keep h0 e1 hS (fun z _ h => hFM z h) (fun z h => hFM z h) hL hFr
  exact ⟨hPA.kept (fun k x hx => k2 x.1 ((hPA k x hx).lt) (fun z => by
      obtain ⟨hk9, rfl⟩ := wl_inv hx
      exact hdis _ ⟨k, hk9, rfl⟩ z)), by rw [e1]; exact hPu, k3⟩
/-- the call of a method of the reference -/
theorem l_callM {d' nL' n index : Nat} {y' : MethodName} {cc' : ByteArray} {ret' : Option FieldType} {av : List Value} {N9 : Option Value → Wd → Prop} (hC : LCx qA qM b L xs p s m meth c) (hW : LWd qA qM s wA wM H locs) (hY : CY y' cc' nL' ret' n) (hC9 : y'.cls = RX12) (h1 : Cond.methodLink RL index y' ∈ TB) (h2 : Cond.instanceMethod y' ∈ TB) (h3 : Cond.selects RX12 y' y' ∈ TB) (hd : d' + 1 ≤ 2048 ∧ nL' ≤ 26) (hn : av.length = n) (hstk : stk = (av.map (tr (GM qM))).reverse ++ .ref (gad (GM qM) 0) :: rest) (hroom : (rest.map fun v => v.category).sum ≤ 8) (hls : ls.size = 8) (hkc : cells ≤ 603072 ∧ slots ≤ 7202922) (hdg : decode code pc = .ok (.invokevirtual index, 3))
    (hM : Ct (GM qM) l d' y' cc' nL' ret' (.ref 0 :: av) wM N9 (fun _ _ => False))
    (kk : ∀ v u H1 locs1, N9 v u → LWd qA qM s wA u H1 locs1 → W p l e room_1 s m #[Value.ref b] below meth c H1 locs1 cells slots Q (F0 m (pc + 3) ls ((v.map (tr (GM qM))).toList ++ rest))) : W p l e room_1 s m #[Value.ref b] below meth c H locs cells slots Q (F0 m pc ls stk) := by
  have hC0 := hC
  have hW0 := hW
  obtain ⟨⟨hx, hb, hr, hml, hown, hts, hlk⟩, ⟨hX, hbl⟩, ⟨hKA, hKM⟩, ⟨hGA, hGM⟩, hdis, ⟨hFA, hFM⟩, ⟨hEA, hEM⟩⟩ := hC
  obtain ⟨hPA, hPM, hS⟩ := hW
  obtain ⟨z1, z2⟩ := LWd.kept hS
  have cw : CallW room_1 s #[Value.ref b] RL RX12 index y' cc' nL' ret' (Cond.code y' cc' nL' ret' :: TB) (rmD d') 0 0 n := cwV n hts (l_words hY.1 hY.2.1 hC9 h1 h2 h3 rfl) rfl rfl rfl ⟨hC9, hY.2.2.1, hY.2.2.2.1, hY.2.2.2.2⟩ ⟨hd.1, by show 8 + (nL' + 11) + 45 * d' ≤ 94400; omega⟩
  intro T hT Y
  rcases vx_runV (As := av.map (tr (GM qM))) (b := gad (GM qM) 0) (rest := rest) (g := F0 m pc ls stk) ⟨hx, hb, hml, hown, hts⟩ hM cw ⟨pn_blind (GM qM) _ _, va_recv hKM hPM (oM0 (q := qM)).2.2.1 (oM0 (q := qM)).at, fun U hU hW => ⟨rfl, by rw [hU]; exact hPM, va_K.moved hW.alike hKM, by rw [hU]; exact hGM.2.1 s U _ hW (hEM H z1 z2), hGM⟩⟩ rfl (by rw [List.length_map]; exact hn) hls hstk (lv_room hroom) hdg hkc T hT Y with ⟨v, st₀, t, T', L9, h0, X', hL, e1, e2, ⟨⟨v', u, hv, hu, hPu⟩, hFr⟩, st⟩ | ⟨q, st₀, t, T', L9, E9, ce, h0, X', hL, e1, e2, ⟨⟨u, hu, hPu⟩, hFr⟩, hce, hcv, hcl, st⟩
  · obtain rfl := Outcome.returned.inj hv
    have hk := kk v' u T'.heap (locs ++ L9) hu (l_backM hC0 hW0 h0 e1 hL hFr hPu)
    obtain ⟨t2, a1, b1⟩ := hk T' rfl X'
    exact ⟨t2, st t2 a1, b1⟩
  · exact hu.elim
/-- the call of a method with handlers of the reference -/
theorem l_callMH {d' nL' n index : Nat} {y' : MethodName} {cc' : ByteArray} {ret' : Option FieldType} {hh : List (Nat × Nat × Nat × Nat)} {av : List Value} {N9 : Option Value → Wd → Prop} (hC : LCx qA qM b L xs p s m meth c) (hW : LWd qA qM s wA wM H locs) (hcy : Cond.codeWith y' cc' nL' ret' hh ∈ TB) (hi9 : Cond.initialized y'.cls ∈ TB) (hd9 : y'.cls ≠ "java/lang/invoke/MethodHandle" ∧ y'.cls ≠ "java/lang/invoke/VarHandle" ∧ (parseMethodDescriptor y'.desc).map (fun d => d.parameters.length) = some n) (hC9 : y'.cls = RX12) (h1 : Cond.methodLink RL index y' ∈ TB) (h2 : Cond.instanceMethod y' ∈ TB) (h3 : Cond.selects RX12 y' y' ∈ TB) (hd : d' + 1 ≤ 2048 ∧ nL' ≤ 26) (hn : av.length = n) (hstk : stk = (av.map (tr (GM qM))).reverse ++ .ref (gad (GM qM) 0) :: rest) (hroom : (rest.map fun v => v.category).sum ≤ 8) (hls : ls.size = 8) (hkc : cells ≤ 603072 ∧ slots ≤ 7202922) (hdg : decode code pc = .ok (.invokevirtual index, 3))
    (hM : CtH (GM qM) l d' y' cc' nL' ret' hh (.ref 0 :: av) wM N9 (fun _ _ => False))
    (kk : ∀ v u H1 locs1, N9 v u → LWd qA qM s wA u H1 locs1 → W p l e room_1 s m #[Value.ref b] below meth c H1 locs1 cells slots Q (F0 m (pc + 3) ls ((v.map (tr (GM qM))).toList ++ rest))) : W p l e room_1 s m #[Value.ref b] below meth c H locs cells slots Q (F0 m pc ls stk) := by
  have hC0 := hC
  have hW0 := hW
  obtain ⟨⟨hx, hb, hr, hml, hown, hts, hlk⟩, ⟨hX, hbl⟩, ⟨hKA, hKM⟩, ⟨hGA, hGM⟩, hdis, ⟨hFA, hFM⟩, ⟨hEA, hEM⟩⟩ := hC
  obtain ⟨hPA, hPM, hS⟩ := hW
  obtain ⟨z1, z2⟩ := LWd.kept hS
  have cw : vx_CVW room_1 s #[Value.ref b] RL RX12 index y' cc' nL' ret' hh (Cond.codeWith y' cc' nL' ret' hh :: TB) (rmD d') 0 0 n := vx_cwVW n hts (l_words hcy hi9 hC9 h1 h2 h3 rfl) rfl rfl rfl ⟨hC9, hd9⟩ ⟨hd.1, by show 8 + (nL' + 11) + 45 * d' ≤ 94400; omega⟩
  intro T hT Y
  rcases vx_runVX (As := av.map (tr (GM qM))) (b := gad (GM qM) 0) (rest := rest) (g := F0 m pc ls stk) ⟨hx, hb, hml, hown, hts⟩ hM cw ⟨pn_blind (GM qM) _ _, va_recv hKM hPM (oM0 (q := qM)).2.2.1 (oM0 (q := qM)).at, fun U hU hW => ⟨rfl, by rw [hU]; exact hPM, va_K.moved hW.alike hKM, by rw [hU]; exact hGM.2.1 s U _ hW (hEM H z1 z2), hGM⟩⟩ rfl (by rw [List.length_map]; exact hn) hls hstk (lv_room hroom) hdg hkc T hT Y with ⟨v, st₀, t, T', L9, h0, X', hL, e1, e2, ⟨⟨v', u, hv, hu, hPu⟩, hFr⟩, st⟩ | ⟨q, st₀, t, T', L9, E9, ce, h0, X', hL, e1, e2, ⟨⟨u, hu, hPu⟩, hFr⟩, hce, hcv, hcl, st⟩
  · obtain rfl := Outcome.returned.inj hv
    have hk := kk v' u T'.heap (locs ++ L9) hu (l_backM hC0 hW0 h0 e1 hL hFr hPu)
    obtain ⟨t2, a1, b1⟩ := hk T' rfl X'
    exact ⟨t2, st t2 a1, b1⟩
  · exact hu.elim
/-- the call of a method of the class that doesn't throw -/
theorem l_callA {d' nL' n index : Nat} {y' : MethodName} {cc' : ByteArray} {ret' : Option FieldType} {av : List Value} {N9 : Option Value → Wd → Prop} (hC : LCx qA qM b L xs p s m meth c) (hW : LWd qA qM s wA wM H locs) (hY : CY y' cc' nL' ret' n) (hC9 : y'.cls = RX11) (h1 : Cond.methodLink RL index y' ∈ TB) (h2 : Cond.instanceMethod y' ∈ TB) (h3 : Cond.selects RX11 y' y' ∈ TB) (hd : d' + 1 ≤ 2048 ∧ nL' ≤ 26) (hn : av.length = n) (hstk : stk = (av.map (tr (GA qA))).reverse ++ .ref (gad (GA qA) 0) :: rest) (hroom : (rest.map fun v => v.category).sum ≤ 8) (hls : ls.size = 8) (hkc : cells ≤ 603072 ∧ slots ≤ 7202922) (hdg : decode code pc = .ok (.invokevirtual index, 3))
    (hM : Ct (GA qA) l d' y' cc' nL' ret' (.ref 0 :: av) wA N9 (fun _ _ => False))
    (kk : ∀ v u H1 locs1, N9 v u → LWd qA qM s (mrg u wA) wM H1 locs1 → W p l e room_1 s m #[Value.ref b] below meth c H1 locs1 cells slots Q (F0 m (pc + 3) ls ((v.map (tr (GA qA))).toList ++ rest))) : W p l e room_1 s m #[Value.ref b] below meth c H locs cells slots Q (F0 m pc ls stk) := by
  obtain ⟨⟨hx, hb, hr, hml, hown, hts, hlk⟩, ⟨hX, hbl⟩, ⟨hKA, hKM⟩, ⟨hGA, hGM⟩, hdis, ⟨hFA, hFM⟩, ⟨hEA, hEM⟩⟩ := hC
  obtain ⟨hPA, hPM, hS⟩ := hW
  obtain ⟨z1, z2⟩ := LWd.kept hS
  have cw : CallW room_1 s #[Value.ref b] RL RX11 index y' cc' nL' ret' (Cond.code y' cc' nL' ret' :: TB) (rmD d') 0 0 n := cwV n hts (l_words hY.1 hY.2.1 hC9 h1 h2 h3 rfl) rfl rfl rfl ⟨hC9, hY.2.2.1, hY.2.2.2.1, hY.2.2.2.2⟩ ⟨hd.1, by show 8 + (nL' + 11) + 45 * d' ≤ 94400; omega⟩
  intro T hT Y
  rcases vx_runV (As := av.map (tr (GA qA))) (b := gad (GA qA) 0) (rest := rest) (g := F0 m pc ls stk) ⟨hx, hb, hml, hown, hts⟩ hM cw ⟨pn_blind (GA qA) _ _, va_recv hKA (hA_P hPA) (oA0 (q := qA)).2.2.1 (oA0 (q := qA)).at, fun U hU hW => ⟨rfl, by rw [hU]; exact hA_P hPA, va_K.moved hW.alike hKA, by rw [hU]; exact hGA.2.1 s U _ hW (hEA H z1 z2), hA_G hGA⟩⟩ rfl (by rw [List.length_map]; exact hn) hls hstk (lv_room hroom) hdg hkc T hT Y with ⟨v, st₀, t, T', L9, h0, X', hL, e1, e2, ⟨⟨v', u, hv, hu, hPu⟩, hFr⟩, st⟩ | ⟨q, st₀, t, T', L9, E9, ce, h0, X', hL, e1, e2, ⟨⟨u, hu, hPu⟩, hFr⟩, hce, hcv, hcl, st⟩
  · obtain rfl := Outcome.returned.inj hv
    obtain ⟨k1, k2, k3⟩ := vx_keep h0 e1 hS (fun z _ h => hFA z (hA_w h)) (fun z h => hFA z (hA_w h)) hL hFr
    have hk := kk v' u T'.heap (locs ++ L9) hu ⟨hA_back hGA hPA (by rw [e1]; exact hPu) k2, hPM.kept (fun k x hx => k2 x.1 ((hPM k x hx).lt) (fun z => by
      obtain ⟨hk9, rfl⟩ := wl_inv hx
      exact hdis _ (hA_w z) ⟨k, hk9, rfl⟩)), k3⟩
    obtain ⟨t2, a1, b1⟩ := hk T' rfl X'
    exact ⟨t2, st t2 a1, b1⟩
  · exact hu.elim
end LAW
