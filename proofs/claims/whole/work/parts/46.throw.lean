/-! THROWS: what stands in the heap for them, and the row of a throw -/
def xbad : List Cond := [.declares (Bundle.init0 "java/lang/RuntimeException"), .declares (Bundle.init0 "java/lang/Exception"), .declares (Bundle.init0 "java/lang/Throwable"), .castable "java/lang/IndexOutOfBoundsException" "java/lang/IndexOutOfBoundsException", .castable "java/lang/IllegalArgumentException" "java/lang/IllegalArgumentException", .castable "java/lang/IllegalStateException" "java/lang/IllegalStateException", .castable "java/lang/ArithmeticException" "java/lang/ArithmeticException"]
def ENV (F : Nat → Prop) (U : State) (H : Heap) : Prop := vx_Zq Bundle.tN "UNASSIGNED_STACK" Bundle.steD F U H ∧ vx_Zq Bundle.tN "SUPPRESSED_SENTINEL" Bundle.listD F U H ∧ ∀ w ∈ xbad, w.before #[] U = true
theorem xbad_ok : ∀ w ∈ xbad, w.onTables = true ∧ ∀ (u U : State), u.vm.Alike U.vm → w.before #[] u = true → w.before #[] U = true := by
  intro w hw
  have tb : ∀ {w : Cond} {u U : State}, w.onTables = true → w.before #[] (u.setVm U.vm) = true → w.before #[] U = true := fun {w u U} h1 h2 => va_tabs h1 (rfl : (u.setVm U.vm).vm = U.vm) h2
  unfold xbad at hw
  simp only [List.mem_cons, List.not_mem_nil, or_false] at hw
  rcases hw with rfl | rfl | rfl | rfl | rfl | rfl | rfl
  · exact ⟨rfl, fun u U h hb => tb (u := u) rfl (by rw [Cond.declares_setVm h]; exact hb)⟩
  · exact ⟨rfl, fun u U h hb => tb (u := u) rfl (by rw [Cond.declares_setVm h]; exact hb)⟩
  · exact ⟨rfl, fun u U h hb => tb (u := u) rfl (by rw [Cond.declares_setVm h]; exact hb)⟩
  · exact ⟨rfl, fun u U h hb => tb (u := u) rfl (by rw [Cond.castable_setVm h]; exact hb)⟩
  · exact ⟨rfl, fun u U h hb => tb (u := u) rfl (by rw [Cond.castable_setVm h]; exact hb)⟩
  · exact ⟨rfl, fun u U h hb => tb (u := u) rfl (by rw [Cond.castable_setVm h]; exact hb)⟩
  · exact ⟨rfl, fun u U h hb => tb (u := u) rfl (by rw [Cond.castable_setVm h]; exact hb)⟩
theorem ENV.alike {F : Nat → Prop} {u U : State} {H : Heap} (h : u.vm.Alike U.vm) (hE : ENV F u H) : ENV F U H := ⟨hE.1.moved h, hE.2.1.moved h, fun w hw => (xbad_ok w hw).2 u U h (hE.2.2 w hw)⟩
theorem ENV.kept {F : Nat → Prop} {U : State} {H H1 : Heap} (hE : ENV F U H) (hq : ∀ a : Nat, a < H.size → ¬ F a → H1[a]? = H[a]?) : ENV F U H1 := ⟨hE.1.kept hq, hE.2.1.kept hq, hE.2.2⟩
theorem ENV.at {F : Nat → Prop} {U : State} {H : Heap} {A : Array Value} (hE : ENV F U H) : ∀ w ∈ xbad, w.before A U = true := fun w hw => va_tabs (xbad_ok w hw).1 rfl (hE.2.2 w hw)
/-- a throw of a new exception, in a method without handlers -/
theorem x_throw {Γ : Gm} {l : Launch} {d : Nat} {y : MethodName} {cc : ByteArray} {nL : Nat} {ret : Option FieldType} {N : Option Value → Wd → Prop} {X : String → Wd → Prop} {pc : Nat} {rest : List Value} {loc : List (Nat × Value)} {w : Wd} {α : Type} {E : String} {names : List String} {ik ic : Nat} {R : Option α × Wd} {F : Nat → Prop} {bads : List Cond} (hfl : l.stackTraces = false) (hF : ∀ (U : State) (H : Heap), gE Γ U H → ENV F U H) (hAF : ∀ q, gAw Γ q → F q) (hfit : Bundle.fit E = true) (hnm : ∀ n ∈ names, Bundle.fit n = true) (hk : Cond.classLink y.cls ik E ∈ TB) (hini : Cond.initialized E ∈ TB) (hl : ∀ w ∈ vx_at0 y.cls ic E names, w ∈ lw_tbl) (hg : (vx_at0 y.cls ic E names).filter (fun w => !goodWord w) = bads) (hbs : ∀ w ∈ bads, w ∈ xbad) (hot : (Cond.classLink y.cls ik E :: Cond.initialized E :: vx_at0 y.cls ic E names).all vx_ot = true) (d0 : decode cc pc = .ok (.new ik, 3)) (d3 : decode cc (pc + 3) = .ok (.dup, 1)) (d4 : decode cc (pc + 4) = .ok (.invokespecial ic, 3)) (d7 : decode cc (pc + 7) = .ok (.athrow, 1)) (hd : 8 ≤ d ∧ names.length = 2) (hroom : (rest.map fun v => v.category).sum ≤ 8) (h : some ((none : Option α), w) = some R) (hX : R.1 = none → X E R.2) : RX Γ l d y cc nL ret N X pc rest loc w := by
  intro p e s m args below meth c H locs ls hC hP hS hl9
  obtain ⟨hx, hb, hr, hml, hown, hts, hlk, het, hK, hE, hG⟩ := id hC
  obtain rfl := Option.some.inj h
  have hEN := hF s s.heap hE
  have hcat : ((rest.map (tr Γ)).map fun v => v.category).sum ≤ 8 := by
    rw [List.map_map, show ((fun v => Value.category v) ∘ tr Γ) = (fun v => Value.category v) from funext fun v => tr_cat _ v]
    exact hroom
  refine vx_throw0 (A := gAw Γ) (names := names) hx hb hfl hown hfit hnm (hts _ hk) (hts _ hini) (vx_hat (B := bads) (fun w hw => hts w (List.mem_filter.mpr ⟨hl w (List.mem_filter.mp hw).1, (List.mem_filter.mp hw).2⟩)) (fun w hw => by rw [← hg]; exact hw) (fun w hw => hEN.at w (hbs w hw))) (fun w hw => List.all_eq_true.mp hot w hw) (hEN.1.narrow hAF) (hEN.2.1.narrow hAF) hS (hl9.1.trans hml.symm) d0 d3 d4 d7 (fun x q => (het x q).elim) ?_ ?_ (Nat.le_of_ble_eq_true rfl) (Nat.le_of_ble_eq_true rfl) hlk (fun t ha hz hk9 => ?_) hS.2.2 (Nat.le_of_ble_eq_true rfl) (Nat.le_of_ble_eq_true rfl)
  · show names.length + 3 < d
    omega
  · show ((rest.map (tr Γ)).map fun v => v.category).sum + (13 * (names.length + 1) + 42) ≤ 45 * d
    rw [hd.2]
    omega
  · exact ⟨⟨w, hX rfl, hP.kept (fun k q hq => hk9 q.1 (hP k q hq).lt)⟩, Nat.le_trans hS.1 hz, fun q h1 h2 => (hk9 q (Nat.lt_of_lt_of_le h1 hS.1)).trans (hS.2.1 q h1 h2)⟩
theorem ceRX11_34 : Cond.classLink RX11 34 "java/lang/IndexOutOfBoundsException" ∈ TB := tb1 sg3 94 rfl rfl
theorem ieRX11_34 : Cond.initialized "java/lang/IndexOutOfBoundsException" ∈ TB := tb1 sg1 22 rfl rfl
theorem oeRX11_34 : (Cond.classLink RX11 34 "java/lang/IndexOutOfBoundsException" :: Cond.initialized "java/lang/IndexOutOfBoundsException" :: vx_at0 RX11 36 "java/lang/IndexOutOfBoundsException" ["java/lang/RuntimeException", "java/lang/Exception"]).all vx_ot = true := by decide +kernel
theorem beRX11_34 : ∀ w ∈ ([.declares (Bundle.init0 "java/lang/RuntimeException"), .declares (Bundle.init0 "java/lang/Exception"), .declares (Bundle.init0 "java/lang/Throwable"), .castable "java/lang/IndexOutOfBoundsException" "java/lang/IndexOutOfBoundsException"] : List Cond), w ∈ xbad := by decide +kernel
theorem ceRX11_47 : Cond.classLink RX11 47 "java/lang/IllegalArgumentException" ∈ TB := tb1 sg3 130 rfl rfl
theorem ieRX11_47 : Cond.initialized "java/lang/IllegalArgumentException" ∈ TB := tb1 sg1 24 rfl rfl
theorem oeRX11_47 : (Cond.classLink RX11 47 "java/lang/IllegalArgumentException" :: Cond.initialized "java/lang/IllegalArgumentException" :: vx_at0 RX11 49 "java/lang/IllegalArgumentException" ["java/lang/RuntimeException", "java/lang/Exception"]).all vx_ot = true := by decide +kernel
theorem beRX11_47 : ∀ w ∈ ([.declares (Bundle.init0 "java/lang/RuntimeException"), .declares (Bundle.init0 "java/lang/Exception"), .declares (Bundle.init0 "java/lang/Throwable"), .castable "java/lang/IllegalArgumentException" "java/lang/IllegalArgumentException"] : List Cond), w ∈ xbad := by decide +kernel
theorem ceRX11_62 : Cond.classLink RX11 62 "java/lang/IllegalStateException" ∈ TB := tb1 sg8 20 rfl rfl
theorem ieRX11_62 : Cond.initialized "java/lang/IllegalStateException" ∈ TB := tb1 sg1 34 rfl rfl
theorem oeRX11_62 : (Cond.classLink RX11 62 "java/lang/IllegalStateException" :: Cond.initialized "java/lang/IllegalStateException" :: vx_at0 RX11 64 "java/lang/IllegalStateException" ["java/lang/RuntimeException", "java/lang/Exception"]).all vx_ot = true := by decide +kernel
theorem beRX11_62 : ∀ w ∈ ([.declares (Bundle.init0 "java/lang/RuntimeException"), .declares (Bundle.init0 "java/lang/Exception"), .declares (Bundle.init0 "java/lang/Throwable"), .castable "java/lang/IllegalStateException" "java/lang/IllegalStateException"] : List Cond), w ∈ xbad := by decide +kernel
