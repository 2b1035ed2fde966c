/-! BOTH MACHINES: the class's words of an ACTUAL by name, while a call is pending -/
section TW3
variable {E : SENV} {K : CXT} {Lim n p nx m a a1 a2 b b1 b2 h sp sc i el j k ev : Nat} {x x1 : Int} {wA wM uA uM : Wd} {A B : ACT}
theorem JPS.thk (hE : EOKS E) (H : JPS E K el a b ev h sp sc x i wA wM) (hA : K.1[K.2.2 0]? = some A) (w1 : gl (cA E) 41 a = jwC 33 a1) (w2 : gl (cA E) 41 a1 = wdC 23 0 (Int32.ofNat (a + 1))) (ha : a < eNo E 5 0 ∧ a1 < eNo E 5 0) (L : LOWK K h sp) (hsp : sp ≤ h) (hh : h + 2 ≤ 30622) (hx : x + 2 ≤ x1 ∧ x1 ≤ KK) (g : ∀ uA, JPS E K el (a1 + 1) b ev (h + 2) sp sc x1 (i + 2) uA wM → gl uA 51 h = Int64.ofNat (a + 1) → gl uA 51 (h + 1) = Int64.ofNat (aF A) → OFF (PSK h) uA wA → GD E (i + 2) uA wM) : GD E i wA wM := by
  have hN := hE.1
  obtain ⟨C, M⟩ := H.2.2.2.cka hA
  have hd := H.2.2.2.dep
  have w1' : gl (cA E) 41 a = wdC 33 0 (Int32.ofNat a1) := w1.trans (jwC_wdC (x := 33) (by omega) (by omega))
  have t1 := k_jump C ha.1 w1' (by omega)
  have C1 : CK (cA E) (eNo E 5 0) a1 (aF A) (K.2.2 1) h (K.2.2 3) el (si (si wA 48 11 (Int32.ofNat (a + 1))) 48 11 (Int32.ofNat a1)) := (C.nx (a + 1)).nx a1
  have t2 := k_thunk (s := a + 1) C1 ha.2 w2 (by omega) (by omega)
  have O1 : OFF (PSK h) (si (si wA 48 11 (Int32.ofNat (a + 1))) 48 11 (Int32.ofNat a1)) wA := OFF.tr (OFF.si (Or.inl ⟨rfl, Or.inl rfl⟩)) (OFF.si (Or.inl ⟨rfl, Or.inl rfl⟩))
  generalize si (si wA 48 11 (Int32.ofNat (a + 1))) 48 11 (Int32.ofNat a1) = y1 at t1 C1 t2 O1
  have OA : OFF (PSK h) (si (sl (pshW y1 (a1 + 1) h (Int64.ofNat (a + 1))) 51 (h + 1) (Int64.ofNat (aF A))) 48 14 (Int32.ofNat (h + 2))) wA := OFF.tr (OFF.si (Or.inl ⟨rfl, Or.inr rfl⟩)) (OFF.tr (OFF.sl (Or.inr ⟨rfl, by omega⟩)) (OFF.tr pshW_off O1))
  refine JPS.stp (k := 2) (h1 := h + 2) (x1 := x1) hE H (TKS.tr (TKS.one hd.2.2.2.2 t1) (TKS.one C1.2.1 t2)) L OA ?_ (gi_si0 _ _ _ _) ⟨hh, by omega, by omega⟩ hx (fun J => g _ J ?_ ?_ OA)
  · unfold pshW pshQ; rw [gi_si1 (by omega), gi_sl, gi_si1 (by omega), gi_sl, gi_si0]
  · rw [gl_si, gl_sl1 (by omega), pshW_v]
  · rw [gl_si, gl_sl0]
end TW3
