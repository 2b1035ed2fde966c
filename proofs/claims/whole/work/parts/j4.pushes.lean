/-! BOTH MACHINES: the class's words of other ACTUALS, while a call is pending -/
section TW4
variable {E : SENV} {K : CXT} {Lim n p nx m a a1 a2 b b1 b2 h sp sc i el j k ev : Nat} {x x1 : Int} {wA wM uA uM : Wd} {A B : ACT}
/-- a word of the code's beginning and a frame -/
theorem JPS.at_ (hE : EOKS E) (H : JPS E K el a b ev h sp sc x i wA wM) (hA : K.1[K.2.2 0]? = some A) {u s xx f : Nat} (hw : gl (cA E) 41 a = wdC 22 (Int32.ofNat u) (Int32.ofNat s)) (hs : s < eNo E 5 0) (hx' : gl (cA E) 41 s = Int64.ofNat xx) (hx9 : xx < 40000) (hy : HOP wA (K.2.2 1) (aF A) u f) (hf : f ≤ K.2.2 1) (ha : a < eNo E 5 0) (L : LOWK K h sp) (hsp : sp ≤ h) (hh : h + 2 ≤ 30622) (hx : x + 1 ≤ x1 ∧ x1 ≤ KK) (g : ∀ uA, JPS E K el (a + 1) b ev (h + 2) sp sc x1 (i + 1) uA wM → gl uA 51 h = Int64.ofNat xx → gl uA 51 (h + 1) = Int64.ofNat f → OFF (PSK h) uA wA → GD E (i + 1) uA wM) : GD E i wA wM := by
  obtain ⟨g1, g2, g3, g4, g5⟩ := AT_ok hE H.2.2.2 hA hw hs hx' hx9 hy hf ha hh
  exact JPS.stp (k := 1) (h1 := h + 2) (x1 := x1) hE H g1 L g2 g3 (gi_si0 _ _ _ _) ⟨hh, by omega, by omega⟩ hx (fun J => g _ J g4 g5 g2)
/-- two words of a frame -/
theorem JPS.pair (hE : EOKS E) (H : JPS E K el a b ev h sp sc x i wA wM) (hA : K.1[K.2.2 0]? = some A) {y f s q q2 : Nat} {va vm va2 vm2 : Int64} {t t2 : Int32} (hw : gl (cA E) 41 a = wdC 21 (Int32.ofNat y) (Int32.ofNat s)) (hy : HOP wA (K.2.2 1) (aF A) y f) (hG : K.2.1 1 (f + s) q t va vm) (hG2 : K.2.1 1 (f + s + 1) q2 t2 va2 vm2) (ha : a < eNo E 5 0) (L : LOWK K h sp) (hsp : sp ≤ h) (hh : h + 2 ≤ 30622) (hx : x + 1 ≤ x1 ∧ x1 ≤ KK) (g : ∀ uA, JPS E K el (a + 1) b ev (h + 2) sp sc x1 (i + 1) uA wM → gl uA 51 h = va → gl uA 51 (h + 1) = va2 → OFF (PSK h) uA wA → GD E (i + 1) uA wM) : GD E i wA wM := by
  have J := H.2.2.2
  have hd := J.dep
  obtain ⟨C, M⟩ := J.cka hA
  obtain ⟨hM, hD⟩ := J.mem
  have e1 := (hM _ _ _ _ _ _ hG).2.1 (Or.inl rfl)
  have e2 := (hM _ _ _ _ _ _ hG2).2.1 (Or.inl rfl)
  have l2 := ((hD.2.2 _ _ _ _ _ _ hG2).2.1 (by omega)).1
  have tku := k_pair C ha hw hy l2 (by omega)
  have OA : OFF (PSK h) (si (sl (pshW wA (a + 1) h (gl wA 50 (f + s))) 51 (h + 1) (gl wA 50 (f + s + 1))) 48 14 (Int32.ofNat (h + 2))) wA := OFF.tr (OFF.si (Or.inl ⟨rfl, Or.inr rfl⟩)) (OFF.tr (OFF.sl (Or.inr ⟨rfl, by omega⟩)) pshW_off)
  refine JPS.stp (k := 1) (h1 := h + 2) (x1 := x1) hE H (TKS.one hd.2.2.2.2 tku) L OA ?_ (gi_si0 _ _ _ _) ⟨hh, by omega, by omega⟩ hx (fun J => g _ J ?_ ?_ OA)
  · unfold pshW pshQ; rw [gi_si1 (by omega), gi_sl, gi_si1 (by omega), gi_sl, gi_si0]
  · rw [gl_si, gl_sl1 (by omega), pshW_v]; exact e1
  · rw [gl_si, gl_sl0]; exact e2
/-- an ARRAY's words, where they lie -/
theorem JPS.plc (hE : EOKS E) (H : JPS E K el a b ev h sp sc x i wA wM) (hA : K.1[K.2.2 0]? = some A) {y f s q : Nat} {va vm : Int64} {t : Int32} (hw : gl (cA E) 41 a = wdC 20 (Int32.ofNat y) (Int32.ofNat s)) (hy : HOP wA (K.2.2 1) (aF A) y f) (hG : K.2.1 1 (f + s) q t va vm) (ha : a < eNo E 5 0) (L : LOWK K h sp) (hsp : sp ≤ h) (hh : h + 1 ≤ 30622) (hx : x + 1 ≤ x1 ∧ x1 ≤ KK) (g : ∀ uA, JPS E K el (a + 1) b ev (h + 1) sp sc x1 (i + 1) uA wM → gl uA 51 h = Int64.ofNat (f + s) → OFF (PSK h) uA wA → GD E (i + 1) uA wM) : GD E i wA wM := by
  have J := H.2.2.2
  have hd := J.dep
  obtain ⟨C, M⟩ := J.cka hA
  obtain ⟨hM, hD⟩ := J.mem
  have l2 := ((hD.2.2 _ _ _ _ _ _ hG).2.1 (by omega)).1
  refine JPS.stp (k := 1) (h1 := h + 1) (x1 := x1) hE H (TKS.one hd.2.2.2.2 (k_plc C ha hw hy l2 (by omega))) L pshW_off ?_ (gi_si0 _ _ _ _) ⟨hh, by omega, by omega⟩ hx (fun J => g _ J pshW_v pshW_off)
  unfold pshW pshQ; rw [gi_si1 (by omega), gi_sl, gi_si0]
/-- .. of a formal -/
theorem JPS.val (hE : EOKS E) (H : JPS E K el a b ev h sp sc x i wA wM) (hA : K.1[K.2.2 0]? = some A) {y f s q : Nat} {va vm : Int64} {t : Int32} (hw : gl (cA E) 41 a = wdC 19 (Int32.ofNat y) (Int32.ofNat s)) (hy : HOP wA (K.2.2 1) (aF A) y f) (hG : K.2.1 1 (f + s) q t va vm) (ha : a < eNo E 5 0) (L : LOWK K h sp) (hsp : sp ≤ h) (hh : h + 1 ≤ 30622) (hx : x + 1 ≤ x1 ∧ x1 ≤ KK) (g : ∀ uA, JPS E K el (a + 1) b ev (h + 1) sp sc x1 (i + 1) uA wM → gl uA 51 h = va → OFF (PSK h) uA wA → GD E (i + 1) uA wM) : GD E i wA wM := by
  have J := H.2.2.2
  have hd := J.dep
  obtain ⟨C, M⟩ := J.cka hA
  obtain ⟨hM, hD⟩ := J.mem
  have e1 := (hM _ _ _ _ _ _ hG).2.1 (Or.inl rfl)
  have l2 := ((hD.2.2 _ _ _ _ _ _ hG).2.1 (by omega)).1
  refine JPS.stp (k := 1) (h1 := h + 1) (x1 := x1) hE H (TKS.one hd.2.2.2.2 (k_val C ha hw hy l2 (by omega))) L pshW_off ?_ (gi_si0 _ _ _ _) ⟨hh, by omega, by omega⟩ hx (fun J => g _ J (pshW_v.trans e1) pshW_off)
  unfold pshW pshQ; rw [gi_si1 (by omega), gi_sl, gi_si0]
end TW4
