/-! BOTH MACHINES: values -/
section SV
/-- LABELS: what goes to one of them ends alike, with fewer than Lim STEPS left -/
def HND (E : SENV) (K : CXT) (Lim : Nat) : Prop := ∀ (j : Nat) (A : ACT) (s : Nat) (r : List Nat) (l : Nat), K.1[j]? = some A → aOn A → (s :: r) <:+ aK A → own E s (aP A) → l ∈ eSL E s → gi (vM E) 19 l = 4 →
  ∃ K' : CXT, (K'.1 = K.1.take j ++ [(A.1, s :: r, A.2.2)] ∧ K'.2.2 0 = j ∧ K'.2.2 1 = aF A + eNo E 1 (aP A) ∧ K'.2.2 2 = aB A + eNo E 3 (aP A) ∧ K'.2.2 3 = A.1 4 ∧ K'.2.2 4 = A.1 7 ∧ K'.2.2 5 = kvO E A (s :: r)) ∧
    (∀ k x q ty va vm, K'.2.1 k x q ty va vm → K.2.1 k x q ty va vm) ∧ DIS K'.2.1 (K'.2.2 1) (K'.2.2 2) (K'.2.2 5) ∧ (∀ i B, K'.1[i]? = some B → aOn B → SEA E K'.1 K'.2.1 i B) ∧ (A.1 6 ≤ A.1 5 ∧ A.1 7 ≤ 4 * A.1 4 + 4 ∧ aX A ≤ KK ∧ K'.1.length ≤ A.1 4 + 1 ∧ K'.2.2 2 ≤ eNo E 5 1 + K'.1.length * eNo E 5 7 ∧ K'.2.2 1 ≤ 6096 + 1690 * cnO K'.1 ∧ K'.2.2 5 ≤ 2000 ∧ ∀ (q : Nat) (B' : ACT), K'.1[q]? = some B' → B'.1 5 ≤ A.1 5 ∧ B'.1 6 ≤ A.1 6 ∧ B'.1 4 ≤ A.1 4 ∧ B'.1 7 ≤ A.1 7) ∧
    ∀ a c el uA uM sc i, gl (cA E) 41 (l + 1) = Int64.ofNat a → gi (dM E) 55 l = Int32.ofNat c → JS E K' el a c (A.1 5) (A.1 6) sc (aX A - KK) i uA uM → eNo E 5 5 < Lim + sc → GD E i uA uM
theorem HND.le {E : SENV} {K : CXT} {Lim Lim' : Nat} (h : HND E K Lim) (hl : Lim' ≤ Lim) : HND E K Lim' := fun j A s r l h1 h2 h3 h4 h5 h6 => by
  obtain ⟨K', k1, k2, k3, k4, k5, k6⟩ := h j A s r l h1 h2 h3 h4 h5 h6
  exact ⟨K', k1, k2, k3, k4, k5, fun a c el uA uM sc i g1 g2 g3 g4 => k6 a c el uA uM sc i g1 g2 g3 (by omega)⟩
/-- how it goes on with a value -/
def CTV (E : SENV) (K : CXT) (ty : Int32) (a b h sp sc : Nat) (x : Int) (wA wM : Wd) : Prop :=
  ∀ uA uM v sc' i, JS E K (K.2.2 5) a b (h + 1) (sp + 1) sc' x i uA uM → sc ≤ sc' → gl uA 51 h = v → gl uM 85 sp = v → VT ty v → KEE h (K.2.2 3) sp (K.2.2 4) wA wM uA uM → GD E i uA uM
/-- words a .. a1 and codes b .. b1 leave the same value, of TYPE ty -/
def SIV (E : SENV) (Lim : Nat) (stk : List Nat) (p : Nat) (ty : Int32) (nx a a1 b b1 : Nat) : Prop :=
  ∀ (K : CXT) (A : ACT) (h sp sc : Nat) (x : Int) (i : Nat) (wA wM : Wd), K.1[K.2.2 0]? = some A → aOn A → (∀ s ∈ stk, s ∈ aK A) → aP A = p → JS E K (K.2.2 5) a b h sp sc x i wA wM → HND E K Lim → eNo E 5 5 ≤ Lim + sc → h + nx ≤ 502 * (K.2.2 3 + 1) → (∀ (j : Nat) (B : ACT), K.1[j]? = some B → x + (a1 - a) ≤ aX B) → x + (a1 - a) ≤ KK →
    CTV E K ty a1 b1 h sp sc (x + (a1 - a)) wA wM → GD E i wA wM
variable {E : SENV} {K : CXT} {Lim p nx a a1 a2 b b1 b2 h sp sc i el : Nat} {x : Int} {stk : List Nat} {ty ty1 : Int32} {wA wM uA uM : Wd} {v : Int64}
theorem JS.dep (H : JS E K el a b h sp sc x i wA wM) : K.2.2 3 ≤ 60 ∧ b ≤ 60000 ∧ sp ≤ h ∧ h ≤ 30622 ∧ gi wA 48 10 = -2 := by
  obtain ⟨A, pr, de, fu, j1, j2, j3, j4, j5, j6, j7, j8, j9, j10, ⟨j11, j12⟩, o1⟩ := H
  exact ⟨j3.2.2.2.2.2.2.2.2.2.2.2.1, j5.2.2.2.2.2.2.2.2.2.2.1, j11, j3.2.2.2.2.2.2.2.2.2.2.1, j3.2.1⟩
theorem JS.ck (H : JS E K el a b h sp sc x i wA wM) : ∃ A, K.1[K.2.2 0]? = some A ∧ aOn A ∧ CK (cA E) (eNo E 5 0) a (aF A) (K.2.2 1) h (K.2.2 3) el wA ∧ MK (dM E) b (K.2.2 0) sp (K.2.2 4) K.1.length (K.2.2 2) (K.2.2 5) (K.2.2 3) wM := by
  obtain ⟨A, pr, de, fu, j1, j2, j3, j4, j5, j6⟩ := H
  exact ⟨A, j1, j2, j3, j5⟩
/-- one value pushed on both sides: k words, one code -/
theorem CTV.psh (hE : EOKS E) (H : JS E K (K.2.2 5) a b h sp sc x i wA wM) (hc : CTV E K ty a1 b1 h sp sc (x + (a1 - a)) wA wM) {k j : Nat} (hA : TKS k wA uA) (hM : SPS j wM uM) (hj : j ≤ 4 * k) (hk : a + k ≤ a1) (OA : OFF (PSK h) uA wA) (OM : OFF (PSO sp) uM wM) (q1 : gi uA 48 11 = Int32.ofNat a1) (q2 : gi uA 48 14 = Int32.ofNat (h + 1)) (q3 : gi uM 0 128 = Int32.ofNat b1) (q4 : gi uM 0 130 = Int32.ofNat (sp + 1)) (hb : b1 ≤ 60000 ∧ h < 30622) (hx : x + (a1 - a) ≤ KK) (v1 : gl uA 51 h = v) (v2 : gl uM 85 sp = v) (hv : VT ty v) : GD E i wA wM := by
  have hd := H.dep
  have J : JS E K (K.2.2 5) a1 b1 (h + 1) (sp + 1) sc (x + (a1 - a)) (i + k) uA uM := H.mv H.low OA OM q1 q2 q3 q4 (by omega) ⟨by omega, hx⟩
  exact J.go hE hA hM hj (hc uA uM v sc (i + k) J (Nat.le_refl _) v1 v2 hv (KEE.st OA OM))
/-- a literal -/
theorem SIV.lit (hE : EOKS E) {tk : Nat} (ho : opW (dM E) b 1 (Int32.ofNat tk) 0 0) (hw : gl (cA E) 41 a = wdC 18 0 0) (hv : gl (cA E) 41 (a + 1) = gl (dM E) 4 tk) (ht : tk < 8194) (ha : a + 1 < eNo E 5 0) (hb : b < 60000) (hn : 1 ≤ nx) (hr : R36 (gl (dM E) 4 tk)) : SIV E Lim stk p 1 nx a (a + 2) b (b + 1) := by
  intro K A h sp sc x i wA wM hA hon hstk hp H hH hl hh hxa hxk hc
  have hd := H.dep
  obtain ⟨A', e1, e2, C, M⟩ := H.ck
  have O1 : OFF (PSK h) (si (pshW wA (a + 1) h (gl (cA E) 41 (a + 1))) 48 11 (Int32.ofNat (a + 2))) wA := OFF.tr (OFF.si (Or.inl ⟨rfl, Or.inl rfl⟩)) pshW_off
  refine CTV.psh (k := 1) (j := 1) hE H hc (TKS.one hd.2.2.2.2 (k_lit C ha hw (by omega))) (SPS.one (M.runs ho hb (by decide)) (rm_lit M hb ho ht)) (by omega) (by omega) O1 (OFF.tr pshM_off (OFF.si (Or.inl ⟨rfl, Or.inl rfl⟩))) (gi_si0 _ _ _ _) ?_ ?_ ?_ (by omega) hxk (v := gl (dM E) 4 tk) ?_ pshM_v (Or.inr ⟨rfl, hr⟩)
  · rw [gi_si1 (by omega)]; exact gi_si0 _ _ _ _
  · unfold pshM; rw [gi_si1 (by omega), gi_sl, gi_si0]
  · exact gi_si0 _ _ _ _
  · rw [gl_si, pshW_v, hv]
/-- true, false -/
theorem SIV.tru (hE : EOKS E) {tv : Int32} (ho : opW (dM E) b 1 (-1) tv 0) (hw : gl (cA E) 41 a = wdC 18 0 0) (ht : tv = 0 ∨ tv = 1) (hv : gl (cA E) 41 (a + 1) = if tv = 1 then 1 else 0) (ha : a + 1 < eNo E 5 0) (hb : b < 60000) (hn : 1 ≤ nx) : SIV E Lim stk p 2 nx a (a + 2) b (b + 1) := by
  intro K A h sp sc x i wA wM hA hon hstk hp H hH hl hh hxa hxk hc
  have hd := H.dep
  obtain ⟨A', e1, e2, C, M⟩ := H.ck
  have O1 : OFF (PSK h) (si (pshW wA (a + 1) h (gl (cA E) 41 (a + 1))) 48 11 (Int32.ofNat (a + 2))) wA := OFF.tr (OFF.si (Or.inl ⟨rfl, Or.inl rfl⟩)) pshW_off
  have et : tv.toInt64 = if tv = 1 then 1 else 0 := by rcases ht with h | h <;> subst h <;> decide
  refine CTV.psh (k := 1) (j := 1) hE H hc (TKS.one hd.2.2.2.2 (k_lit C ha hw (by omega))) (SPS.one (M.runs ho hb (by decide)) (rm_lit1 M hb ho)) (by omega) (by omega) O1 (OFF.tr pshM_off (OFF.si (Or.inl ⟨rfl, Or.inl rfl⟩))) (gi_si0 _ _ _ _) ?_ ?_ ?_ (by omega) hxk (v := tv.toInt64) ?_ pshM_v (Or.inl ⟨rfl, ?_⟩)
  · rw [gi_si1 (by omega)]; exact gi_si0 _ _ _ _
  · unfold pshM; rw [gi_si1 (by omega), gi_sl, gi_si0]
  · exact gi_si0 _ _ _ _
  · rw [gl_si, pshW_v, hv, et]
  · rw [et]
    rcases ht with h | h <;> subst h
    · exact Or.inl rfl
    · exact Or.inr rfl
/-- a sign for one operand -/
theorem SIV.one (hE : EOKS E) {sg : Int32} (hs : SIV E Lim stk p ty nx a a1 b b1) (ho : opW (dM E) b1 9 sg 0 0) (hw : gl (cA E) 41 a1 = wdC (if sg = 281 then 17 else 16) 0 0) (ha : a1 < eNo E 5 0) (hb : b1 < 60000) (hty : ty = if sg = 281 then 2 else 1) : SIV E Lim stk p ty nx a (a1 + 1) b (b1 + 1) := by
  intro K A h sp sc x i wA wM hA hon hstk hp H hH hl hh hxa hxk hc
  refine hs K A h sp sc x i wA wM hA hon hstk hp H hH hl hh (fun j B hB => by have := hxa j B hB; omega) (by omega) ?_
  intro uA uM v sc' i' J h1 v1 v2 hv hk
  have hd := J.dep
  obtain ⟨A', e1, e2, C, M⟩ := J.ck
  have e : (x + (a1 - a) + ((a1 + 1 : Nat) - (a1 : Int))) = x + ((a1 + 1 : Nat) - (a : Int)) := by omega
  have tkc : fX3_tick uA = some (pshQ (popW uA (a1 + 1) h) h (if sg = 281 then 1 - v else wr36 (-v))) := by
    by_cases q : sg = 281
    · rw [if_pos q] at hw ⊢
      rw [k_not C ha hw, v1]
    · rw [if_neg q] at hw ⊢
      rw [k_neg C ha hw, v1]
      rfl
  have stc : fX12_step uM = some (pshM (si (si uM 0 128 (Int32.ofNat (b1 + 1))) 0 130 (Int32.ofNat sp)) sp (if sg = 281 then 1 - v else wr36 (-v))) := by
    rw [rm_one M hb ho, v2]
    rfl
  have OA : OFF (PSK h) (pshQ (popW uA (a1 + 1) h) h (if sg = 281 then 1 - v else wr36 (-v))) uA := OFF.tr pshQ_off (popW_off.mono fun k j p => Or.inl p)
  have OM : OFF (PSO sp) (pshM (si (si uM 0 128 (Int32.ofNat (b1 + 1))) 0 130 (Int32.ofNat sp)) sp (if sg = 281 then 1 - v else wr36 (-v))) uM := OFF.tr pshM_off (OFF.tr (OFF.si (Or.inl ⟨rfl, Or.inr rfl⟩)) (OFF.si (Or.inl ⟨rfl, Or.inl rfl⟩)))
  have hlow : LOWK K h sp := H.low
  have J2 : JS E K (K.2.2 5) (a1 + 1) (b1 + 1) (h + 1) (sp + 1) sc' (x + ((a1 + 1 : Nat) - (a : Int))) (i' + 1) (pshQ (popW uA (a1 + 1) h) h (if sg = 281 then 1 - v else wr36 (-v))) (pshM (si (si uM 0 128 (Int32.ofNat (b1 + 1))) 0 130 (Int32.ofNat sp)) sp (if sg = 281 then 1 - v else wr36 (-v))) := by
    refine J.mv hlow OA OM ?_ ?_ ?_ ?_ (by omega) ⟨by omega, hxk⟩
    · unfold pshQ popW; rw [gi_si1 (by omega), gi_sl, gi_si1 (by omega), gi_si0]
    · exact gi_si0 _ _ _ _
    · unfold pshM; rw [gi_si1 (by omega), gi_sl, gi_si1 (by omega), gi_si0]
    · exact gi_si0 _ _ _ _
  refine J2.go hE (TKS.one hd.2.2.2.2 tkc) (SPS.one (M.runs ho hb (by decide)) stc) (by omega) (hc _ _ (if sg = 281 then 1 - v else wr36 (-v)) sc' _ J2 h1 pshQ_v pshM_v ?_ (hk.tr (KEE.st OA OM)))
  by_cases q : sg = 281
  · rw [if_pos q] at hty ⊢
    subst hty
    rcases hv with ⟨_, hv | hv⟩ | ⟨hv, _⟩
    · rw [hv]; exact Or.inl ⟨rfl, Or.inr (by decide)⟩
    · rw [hv]; exact Or.inl ⟨rfl, Or.inl (by decide)⟩
    · exact absurd hv (by decide)
  · rw [if_neg q] at hty ⊢
    exact Or.inr ⟨hty, wr36_r _⟩
end SV
