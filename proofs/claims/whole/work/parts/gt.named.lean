/-! BOTH MACHINES: what's passed by name is used -/
section UN
/-- a LABEL, on both stacks -/
def PL (E : SENV) (K : CXT) (h sp : Nat) (uA uM : Wd) : Prop := ∃ (l j : Nat) (B : ACT) (s : Nat) (r : List Nat), K.1[j]? = some B ∧ aOn B ∧ (s :: r) <:+ aK B ∧ own E s (aP B) ∧ l ∈ eSL E s ∧ gi (vM E) 19 l = 4 ∧ gl uA 51 h = gl (cA E) 41 (l + 1) ∧ gl uA 51 (h + 1) = Int64.ofNat (aF B) ∧ gl uM 85 sp = Int64.ofNat l ∧ gl uM 85 (sp + 1) = Int64.ofNat j
/-- what a node leaves, by modes -/
def PMD (E : SENV) (stk : List Nat) (p k md n : Nat) : CXT → Nat → Nat → Wd → Wd → Prop := if md = 0 then PV (TYX (vM E) (eLU E stk) k n) else if md = 1 then PP (tyP (vM E) (eLU E stk) p 0 n) else PL E
def cnP (md : Nat) : Nat := if md = 2 then 2 else 1
/-- all nodes, with fewer than Lim STEPS left -/
def ALLk (E : SENV) (Lim k : Nat) : Prop := ∀ (md n : Nat) (stk : List Nat) (p a a1 b b1 : Nat), md ≤ 2 → SCE E stk → CDC (vM E) (vA E) (eLU E stk) (eLV E p) k md n 0 a a1 (cA E) → CDM (vM E) (eLU E stk) (eLV E p) k md n 0 0 b b1 (dM E) → FLX (vM E) (eLU E stk) p k md n 0 = [] → OKN (vM E) k md n → a1 < eNo E 5 0 → b1 < 60000 → SIG E Lim stk p (PMD E stk p k md n) (cnP md) (NDX (vM E) k md n) a a1 b b1
def ALLX (E : SENV) (Lim : Nat) : Prop := ∀ k, ALLk E Lim k
/-- a use: m: mode; ta: the class's word, t: the reference's entry -/
def USX (E : SENV) (Lim : Nat) (K : CXT) (A B : ACT) (a b h sp sc : Nat) (x : Int) (i : Nat) (wA wM : Wd) (ta t q j : Nat) (m : Int32) : Prop := JS E K (K.2.2 5) a b (h + 2) sp sc x i wA wM ∧ K.1[K.2.2 0]? = some A ∧ aOn A ∧ RUNS wM ∧ gl wA 51 h = Int64.ofNat ta ∧ gl wA 51 (h + 1) = Int64.ofNat (aF B) ∧ gl wM 83 q = Int64.ofNat t ∧ gl wM 83 (q + 1) = Int64.ofNat j ∧ q + 1 < 200000 ∧ K.1[j]? = some B ∧ aOn B ∧ a < eNo E 5 0 ∧ b < 60000 ∧ LOWD K h sp (K.2.2 3) (K.2.2 4) ∧ sp ≤ h ∧ HND E K Lim ∧ eNo E 5 5 ≤ Lim + sc ∧ h + 2 ≤ 502 * (K.2.2 3 + 1) ∧ (∀ (j : Nat) (B : ACT), K.1[j]? = some B → x + 1 ≤ aX B) ∧ x + 1 ≤ KK ∧ fX3_tick wA = some (fX3_use m (si wA 48 11 (Int32.ofNat (a + 1))))
def USD (E : SENV) (Lim : Nat) : Prop := ∀ K A B a b h sp sc x i wA wM ta t q j m ty, USX E Lim K A B a b h sp sc x i wA wM ta t q j m → fX12_step wM = fX12_use (Int32.ofNat q) m (si wM 0 128 (Int32.ofNat (b + 1))) → THV E ta t ty B → m = 0 ∨ m = 1 →
  CTG E K (if m = 0 then PV ty else PP ty) 1 (a + 1) (b + 1) h sp sc (x + 1) wA wM → GD E i wA wM
variable {E : SENV} {K : CXT} {Lim p nx a a1 b b1 h sp sc i el n j : Nat} {x x1 : Int} {stk : List Nat} {ty : Int32} {wA wM uA uM : Wd} {v : Int64} {A B : ACT}
/-- two words of a frame are pushed, by the class alone -/
theorem JS.pair (hE : EOKS E) (H : JS E K el a b h sp sc x i wA wM) (hA : K.1[K.2.2 0]? = some A) {y f s q q2 : Nat} {va vm va2 vm2 : Int64} {t t2 : Int32} (hw : gl (cA E) 41 a = wdC 21 (Int32.ofNat y) (Int32.ofNat s)) (hy : HOP wA (K.2.2 1) (aF A) y f) (hG : K.2.1 1 (f + s) q t va vm) (hG2 : K.2.1 1 (f + s + 1) q2 t2 va2 vm2) (ha : a < eNo E 5 0) (hh : h + 2 ≤ 30622) (hx : x + 1 ≤ x1 ∧ x1 ≤ KK) (g : ∀ uA, OFF (PSK h) uA wA → JS E K el (a + 1) b (h + 2) sp sc x1 (i + 1) uA wM → gl uA 51 h = va → gl uA 51 (h + 1) = va2 → GD E (i + 1) uA wM) : GD E i wA wM := by
  have hd := H.dep
  obtain ⟨C, M⟩ := H.cka hA
  obtain ⟨hM, hD⟩ := H.mem
  have e1 := (hM _ _ _ _ _ _ hG).2.1 (Or.inl rfl)
  have e2 := (hM _ _ _ _ _ _ hG2).2.1 (Or.inl rfl)
  have l2 := ((hD.2.2 _ _ _ _ _ _ hG2).2.1 (by omega)).1
  have tku := k_pair C ha hw hy l2 (by omega)
  have OA : OFF (PSK h) (si (sl (pshW wA (a + 1) h (gl wA 50 (f + s))) 51 (h + 1) (gl wA 50 (f + s + 1))) 48 14 (Int32.ofNat (h + 2))) wA := OFF.tr (OFF.si (Or.inl ⟨rfl, Or.inr rfl⟩)) (OFF.tr (OFF.sl (Or.inr ⟨rfl, by omega⟩)) pshW_off)
  refine JS.stp (k := 1) (j := 0) hE H (TKS.one hd.2.2.2.2 tku) (show SPS 0 wM wM from rfl) (by omega) H.low OA (OFF.rf : OFF (PSO sp) wM wM) ?_ (gi_si0 _ _ _ _) M.2.2.1 M.2.2.2.2.1 ⟨hd.2.1, hh, by omega, Nat.le_refl _, by omega⟩ hx (fun J => g _ OA J ?_ ?_)
  · unfold pshW pshQ; rw [gi_si1 (by omega), gi_sl, gi_si1 (by omega), gi_sl, gi_si0]
  · rw [gl_si, gl_sl1 (by omega), pshW_v]; exact e1
  · rw [gl_si, gl_sl0]; exact e2
/-- a formal's words -/
theorem FNDS.fml (hS : SYS E) {y : Nat} (F : FNDS E K wA wM A y j n B) (h6 : gi (vM E) 19 y = 6) : hpC (vA E) (eLV E (aP A)) (y + 1) = Int32.ofNat n ∧ gi (vA E) 18 (y + 1) = Int32.ofNat (sA E y) ∧ gi (vM E) 26 y = Int32.ofNat (sM E y) ∧ HOP wA (K.2.2 1) (aF A) n (aF B) ∧ SLT wM (K.2.2 0) (upI (vM E) (eLV E (aP A)) y) (sM E y) (aB B + sM E y) := by
  obtain ⟨f1, f2, f3, f4, f5, f6, f7, f8, f9, f10, f11, f12, f13s, f17⟩ := F
  obtain ⟨f13, f14, f15, f16⟩ := f13s (Or.inr (Or.inr h6))
  obtain ⟨kd, m, C, c1, c2, c3, c4, c5, c6, c7, c8, c9, c10, c11⟩ := hS
  obtain ⟨_, _, _, _, _, _, _, ⟨p, l, q1, q2, q3, q4⟩, hK⟩ := c6 y (by omega)
  have h16 : gi (vA E) 16 (y + 1) ≠ 1 := by
    rcases hK with k | k | k | k | k | k
    · exact absurd (h6.symm.trans k.1) (by decide)
    · exact absurd (h6.symm.trans k.1) (by decide)
    · exact absurd (h6.symm.trans k.1) (by decide)
    · exact absurd (h6.symm.trans k.1) (by decide)
    · exact absurd (h6.symm.trans k.1) (by decide)
    · rcases k.2.2.2.2.1 with e | e
      · rw [e.2]; decide
      · rw [e.2.1]; decide
  refine ⟨?_, f15, f13, Or.inl ⟨by omega, f5⟩, Or.inl ⟨n, j, aB B, f8, by omega, f6, f10, f11, rfl⟩⟩
  unfold hpC
  rw [if_neg h16]; exact f9
theorem HND.use (h : HND E K Lim) : HND E (useK K j) Lim := h
/-- a formal by name is used -/
theorem USD.fml (hE : EOKS E) (hS : SYS E) {y : Nat} {m : Int32} {X : Int32} (F : FNDS E K wA wM A y j n B) (hU : USD E Lim) (h6 : FO (vM E) y 1) (h28 : gi (vM E) 28 y = 0) (hw : gl (cA E) 41 a = wdC 21 (hpC (vA E) (eLV E (aP A)) (y + 1)) (gi (vA E) 18 (y + 1))) (ho : opW (dM E) b 4 (upI (vM E) (eLV E (aP A)) y) (gi (vM E) 26 y) X)
    (hmA : ∀ uA, JS E K (K.2.2 5) (a + 1) b (h + 2) sp sc (x + 1) (i + 1) uA wM → OFF (PSK h) uA wA → fX3_tick uA = some (fX3_use m (si uA 48 11 (Int32.ofNat (a + 2))))) (hmM : X = 2 ∧ gi wM 95 (K.2.2 4 - 1) = m ∧ 1 ≤ K.2.2 4 ∨ X ≠ 2 ∧ X = m)
    (H : JS E K (K.2.2 5) a b h sp sc x i wA wM) (hA : K.1[K.2.2 0]? = some A) (hon : aOn A) (ha : a + 1 < eNo E 5 0) (hb : b < 60000) (hH : HND E K Lim) (hL : eNo E 5 5 ≤ Lim + sc) (hh : h + 2 ≤ 502 * (K.2.2 3 + 1)) (hxa : ∀ (j : Nat) (B : ACT), K.1[j]? = some B → x + 2 ≤ aX B) (hxk : x + 2 ≤ KK) (hm : m = 0 ∨ m = 1)
    (hc : CTG E K (if m = 0 then PV (gi (vM E) 20 y) else PP (gi (vM E) 20 y)) 1 (a + 2) (b + 1) h sp sc (x + 2) wA wM) : GD E i wA wM := by
  have hd := H.dep
  obtain ⟨e1, e2, e3, e4, e5⟩ := F.fml hS h6.1
  obtain ⟨ta, t, j', B', s1, s2, s3, s4, s5⟩ := F.2.2.2.1.2.2.2.2.1 h6.1 h6.2 h28
  rw [e1, e2] at hw
  refine JS.pair hE H hA hw e4 s3 s4 (by omega) (by omega) (x1 := x + 1) ⟨Int.le_refl _, by omega⟩ (fun uA OA J v1 v2 => ?_)
  obtain ⟨C, M⟩ := J.cka hA
  obtain ⟨hM, hD⟩ := J.mem
  have m1 := (hM _ _ _ _ _ _ s3).2.2 (Or.inl rfl)
  have m2 := (hM _ _ _ _ _ _ s4).2.2 (Or.inl rfl)
  have hq : aB B + sM E y + 1 < 200000 := by
    rcases (hD.2.2 _ _ _ _ _ _ s4).2.2.1 (by omega) with c | c
    · have := M.2.2.2.2.2.2.2.2.2.2.2.2.2.2.2.1
      omega
    · omega
  unfold RMq at m1 m2
  rw [if_pos (by omega)] at m1 m2
  have st : fX12_step wM = fX12_use (Int32.ofNat (aB B + sM E y)) m (si wM 0 128 (Int32.ofNat (b + 1))) := by
    rw [e3] at ho
    rcases hmM with ⟨c1, c2, c3⟩ | ⟨c1, c2⟩
    · subst c1
      have M' := M
      rw [show K.2.2 4 = K.2.2 4 - 1 + 1 by omega] at M'
      rw [rm_use2 M' hb ho e5, c2]
    · subst c2
      exact rm_use M hb ho e5 c1
  refine hU K A B' (a + 1) b h sp sc (x + 1) (i + 1) uA wM ta t _ j' m _ ⟨J, hA, hon, M.runs ho hb (by decide), v1, v2, m1, m2, hq, s1, s2, ha, hb, H.lod, hd.2.2.1, hH, hL, hh, fun j B hB => by have := hxa j B hB; omega, by omega, hmA uA J OA⟩ st s5 hm ?_
  intro yA yM sc' i' J' h1 hp hk
  have e : x + 1 + 1 = x + 2 := by omega
  rw [e] at J'
  exact hc yA yM sc' i' J' h1 hp ((KEE.st OA (OFF.rf : OFF (PSO sp) wM wM)).tr hk)
end UN
