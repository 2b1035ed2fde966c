/-! BOTH MACHINES: what's left, in general; choices -/
section SG
/-- how it goes on: n words are left on both sides, and Po is known of them -/
def CTG (E : SENV) (K : CXT) (Po : CXT → Nat → Nat → Wd → Wd → Prop) (n a b h sp sc : Nat) (x : Int) (wA wM : Wd) : Prop :=
  ∀ uA uM sc' i, JS E K (K.2.2 5) a b (h + n) (sp + n) sc' x i uA uM → sc ≤ sc' → Po K h sp uA uM → KEE h (K.2.2 3) sp (K.2.2 4) wA wM uA uM → GD E i uA uM
/-- words a .. a1 and codes b .. b1 leave n words each with Po -/
def SIG (E : SENV) (Lim : Nat) (stk : List Nat) (p : Nat) (Po : CXT → Nat → Nat → Wd → Wd → Prop) (n nx a a1 b b1 : Nat) : Prop :=
  ∀ (K : CXT) (A : ACT) (h sp sc : Nat) (x : Int) (i : Nat) (wA wM : Wd), K.1[K.2.2 0]? = some A → aOn A → (∀ s ∈ stk, s ∈ aK A) → aP A = p → JS E K (K.2.2 5) a b h sp sc x i wA wM → HND E K Lim → eNo E 5 5 ≤ Lim + sc → h + nx ≤ 502 * (K.2.2 3 + 1) → (∀ (j : Nat) (B : ACT), K.1[j]? = some B → x + (a1 - a) ≤ aX B) → x + (a1 - a) ≤ KK →
    CTG E K Po n a1 b1 h sp sc (x + (a1 - a)) wA wM → GD E i wA wM
/-- a value of a TYPE -/
def PV (ty : Int32) (_ : CXT) (h sp : Nat) (uA uM : Wd) : Prop := gl uA 51 h = gl uM 85 sp ∧ VT ty (gl uA 51 h)
variable {E : SENV} {K : CXT} {Lim p n nx n1 n2 n3 a a1 a2 a3 b b1 b2 b3 h sp sc i el : Nat} {x x1 : Int} {stk : List Nat} {ty ty1 : Int32} {wA wM uA uM : Wd} {v : Int64} {Po : CXT → Nat → Nat → Wd → Wd → Prop}
/-- what's known is known of the words below -/
def POS (Po : CXT → Nat → Nat → Wd → Wd → Prop) (n : Nat) : Prop := ∀ K h sp uA uM vA vM, OFF (PSK (h + n)) vA uA → OFF (PSO (sp + n)) vM uM → Po K h sp uA uM → Po K h sp vA vM
theorem PV_pos : POS (PV ty) 1 := fun K h sp uA uM vA vM OA OM hp => by
  unfold PV at hp ⊢
  rw [(OA 51 h (by unfold PSK; omega)).2, (OM 85 sp (by unfold PSO; omega)).2]
  exact hp
theorem SIV_g : SIV E Lim stk p ty nx a a1 b b1 ↔ SIG E Lim stk p (PV ty) 1 nx a a1 b b1 :=
  ⟨fun H K A h sp sc x i wA wM q1 q2 q3 q4 q5 q6 q7 q8 q9 q10 hc => H K A h sp sc x i wA wM q1 q2 q3 q4 q5 q6 q7 q8 q9 q10 fun uA uM v sc' i' J h1 v1 v2 hv hk => hc uA uM sc' i' J h1 ⟨v1.trans v2.symm, v1.symm ▸ hv⟩ hk,
   fun H K A h sp sc x i wA wM q1 q2 q3 q4 q5 q6 q7 q8 q9 q10 hc => H K A h sp sc x i wA wM q1 q2 q3 q4 q5 q6 q7 q8 q9 q10 fun uA uM sc' i' J h1 hp hk => hc uA uM _ sc' i' J h1 rfl hp.1.symm hp.2 hk⟩
/-- more room, the same code -/
theorem SIG.wid (H : SIG E Lim stk p Po n n1 a a1 b b1) (hn : n1 ≤ nx) : SIG E Lim stk p Po n nx a a1 b b1 := fun K A h sp sc x i wA wM q1 q2 q3 q4 q5 q6 q7 q8 => H K A h sp sc x i wA wM q1 q2 q3 q4 q5 q6 q7 (by omega)
theorem SIG.im {Pq : CXT → Nat → Nat → Wd → Wd → Prop} (H : SIG E Lim stk p Po n nx a a1 b b1) (hp : ∀ K h sp uA uM, Po K h sp uA uM → Pq K h sp uA uM) : SIG E Lim stk p Pq n nx a a1 b b1 := fun K A h sp sc x i wA wM q1 q2 q3 q4 q5 q6 q7 q8 q9 q10 hc => H K A h sp sc x i wA wM q1 q2 q3 q4 q5 q6 q7 q8 q9 q10 fun uA uM sc' i' J h1 p1 hk => hc uA uM sc' i' J h1 (hp _ _ _ _ _ p1) hk
/-- k words, j codes that touch the stack and the pile alone -/
theorem JS.stp (hE : EOKS E) (H : JS E K el a b h sp sc x i wA wM) {k j h0 sp0 h1 sp1 : Nat} (hA : TKS k wA uA) (hM : SPS j wM uM) (hj : j ≤ 4 * k) (L : LOWK K h0 sp0) (OA : OFF (PSK h0) uA wA) (OM : OFF (PSO sp0) uM wM) (q1 : gi uA 48 11 = Int32.ofNat a1) (q2 : gi uA 48 14 = Int32.ofNat h1) (q3 : gi uM 0 128 = Int32.ofNat b1) (q4 : gi uM 0 130 = Int32.ofNat sp1) (hb : b1 ≤ 60000 ∧ h1 ≤ 30622 ∧ h0 ≤ h1 ∧ sp0 ≤ sp1 ∧ sp1 ≤ h1) (hx : x + k ≤ x1 ∧ x1 ≤ KK) (g : JS E K el a1 b1 h1 sp1 sc x1 (i + k) uA uM → GD E (i + k) uA uM) : GD E i wA wM := by
  have J := H.mv L OA OM q1 q2 q3 q4 hb hx
  exact J.go hE hA hM hj (g J)
/-- both jump -/
theorem JS.jmp (hE : EOKS E) (H : JS E K el a b h sp sc x i wA wM) (L : LOWK K h sp) (hw : gl (cA E) 41 a = jwC 33 a1) (ho : opW (dM E) b 10 (Int32.ofNat b1) 0 0) (ha : a < eNo E 5 0) (hb : b < 60000 ∧ b1 ≤ 60000 ∧ a1 ≤ 36872) (hx : x + 1 ≤ x1 ∧ x1 ≤ KK) (g : ∀ uA uM, OFF (PSK h) uA wA → OFF (PSO sp) uM wM → JS E K el a1 b1 h sp sc x1 (i + 1) uA uM → GD E (i + 1) uA uM) : GD E i wA wM := by
  have hd := H.dep
  obtain ⟨A', e1, e2, C, M⟩ := H.ck
  have hw' : gl (cA E) 41 a = wdC 33 0 (Int32.ofNat a1) := hw.trans (jwC_wdC (x := 33) (by omega) (by omega))
  have OA : OFF (PSK h) (si (si wA 48 11 (Int32.ofNat (a + 1))) 48 11 (Int32.ofNat a1)) wA := OFF.tr (OFF.si (Or.inl ⟨rfl, Or.inl rfl⟩)) (OFF.si (Or.inl ⟨rfl, Or.inl rfl⟩))
  have OM : OFF (PSO sp) (si (si wM 0 128 (Int32.ofNat (b + 1))) 0 128 (Int32.ofNat b1)) wM := OFF.tr (OFF.si (Or.inl ⟨rfl, Or.inl rfl⟩)) (OFF.si (Or.inl ⟨rfl, Or.inl rfl⟩))
  refine JS.stp (k := 1) (j := 1) hE H (TKS.one hd.2.2.2.2 (k_jump C ha hw' (by omega))) (SPS.one (M.runs ho hb.1 (by decide)) (rm_jump M hb.1 ho)) (by omega) L OA OM (gi_si0 _ _ _ _) ?_ (gi_si0 _ _ _ _) ?_ (by omega) hx (g _ _ OA OM)
  · rw [gi_si1 (by omega), gi_si1 (by omega)]; exact C.2.2.2.2.2.1
  · rw [gi_si1 (by omega), gi_si1 (by omega)]; exact M.2.2.2.2.1
/-- both look at a truth value -/
theorem JS.cho (hE : EOKS E) (H : JS E K el a b (h + 1) (sp + 1) sc x i wA wM) (L : LOWK K h sp) (hv : gl wA 51 h = gl wM 85 sp) (hw : gl (cA E) 41 a = jwC 34 a1) (ho : opW (dM E) b 11 (Int32.ofNat b1) 0 0) (ha : a < eNo E 5 0) (hb : b < 60000 ∧ b1 ≤ 60000 ∧ a1 ≤ 36872) (hx : x + 1 ≤ x1 ∧ x1 ≤ KK) (g1 : ∀ uA uM, OFF (PSK h) uA wA → OFF (PSO sp) uM wM → JS E K el (a + 1) (b + 1) h sp sc (x + 1) (i + 1) uA uM → gl wA 51 h ≠ 0 → GD E (i + 1) uA uM) (g0 : ∀ uA uM, OFF (PSK h) uA wA → OFF (PSO sp) uM wM → JS E K el a1 b1 h sp sc x1 (i + 1) uA uM → gl wA 51 h = 0 → GD E (i + 1) uA uM) : GD E i wA wM := by
  have hd := H.dep
  obtain ⟨A', e1, e2, C, M⟩ := H.ck
  have hw' : gl (cA E) 41 a = wdC 34 0 (Int32.ofNat a1) := hw.trans (jwC_wdC (x := 34) (by omega) (by omega))
  have tkc := k_jf C ha hw' (by omega)
  have stc := rm_unless M hb.1 ho
  have OA : ∀ y : Int32, OFF (PSK h) (si (popW wA (a + 1) h) 48 11 y) wA := fun y => OFF.tr (OFF.si (Or.inl ⟨rfl, Or.inl rfl⟩)) (popW_off.mono fun k j p => Or.inl p)
  have O1 : OFF (PSO sp) (si (si wM 0 128 (Int32.ofNat (b + 1))) 0 130 (Int32.ofNat sp)) wM := OFF.tr (OFF.si (Or.inl ⟨rfl, Or.inr rfl⟩)) (OFF.si (Or.inl ⟨rfl, Or.inl rfl⟩))
  have OM : ∀ y : Int32, OFF (PSO sp) (si (si (si wM 0 128 (Int32.ofNat (b + 1))) 0 130 (Int32.ofNat sp)) 0 128 y) wM := fun y => OFF.tr (OFF.si (Or.inl ⟨rfl, Or.inl rfl⟩)) O1
  have q2 : ∀ y : Int32, gi (si (popW wA (a + 1) h) 48 11 y) 48 14 = Int32.ofNat h := fun y => by rw [gi_si1 (by omega)]; exact gi_si0 _ _ _ _
  by_cases z : gl wA 51 h = 0
  · rw [if_pos z] at tkc
    rw [if_pos (hv.symm.trans z)] at stc
    refine JS.stp (k := 1) (j := 1) hE H (TKS.one hd.2.2.2.2 tkc) (SPS.one (M.runs ho hb.1 (by decide)) stc) (by omega) L (OA _) (OM _) (gi_si0 _ _ _ _) (q2 _) (gi_si0 _ _ _ _) ?_ (by omega) hx (fun J => g0 _ _ (OA _) (OM _) J z)
    rw [gi_si1 (by omega)]; exact gi_si0 _ _ _ _
  · rw [if_neg z] at tkc
    rw [if_neg (fun e => z (hv.trans e))] at stc
    refine JS.stp (k := 1) (j := 1) hE H (TKS.one hd.2.2.2.2 tkc) (SPS.one (M.runs ho hb.1 (by decide)) stc) (by omega) L (OA _) O1 (gi_si0 _ _ _ _) (q2 _) ?_ (gi_si0 _ _ _ _) (by omega) ⟨by omega, by omega⟩ (fun J => g1 _ _ (OA _) O1 J z)
    rw [gi_si1 (by omega)]; exact gi_si0 _ _ _ _
/-- one of two -/
theorem SIG.if3 (hE : EOKS E) (hP : POS Po n) (h1 : SIG E Lim stk p (PV 2) 1 n1 a a1 b b1) (h2 : SIG E Lim stk p Po n n2 (a1 + 1) a2 (b1 + 1) b2) (h3 : SIG E Lim stk p Po n n3 (a2 + 1) a3 (b2 + 1) b3) (ha : a ≤ a1 ∧ a1 + 1 ≤ a2 ∧ a2 + 1 ≤ a3 ∧ a3 < eNo E 5 0) (hb : b1 < 60000 ∧ b2 < 60000 ∧ b3 ≤ 60000) (hn : n1 ≤ nx ∧ n2 ≤ nx ∧ n3 ≤ nx)
    (w1 : gl (cA E) 41 a1 = jwC 34 (a2 + 1)) (w2 : gl (cA E) 41 a2 = jwC 33 a3) (o1 : opW (dM E) b1 11 (Int32.ofNat (b2 + 1)) 0 0) (o2 : opW (dM E) b2 10 (Int32.ofNat b3) 0 0) : SIG E Lim stk p Po n nx a a3 b b3 := by
  intro K A h sp sc x i wA wM hA hon hstk hp H hH hL hh hxa hxk hc
  have hN := hE.1
  refine h1 K A h sp sc x i wA wM hA hon hstk hp H hH hL (by omega) (fun j B hB => by have := hxa j B hB; omega) (by omega) ?_
  intro uA uM sc1 i1 J1 s1 p1 k1
  refine J1.cho hE H.low p1.1 w1 o1 (by omega) (by omega) (x1 := x + ((a2 + 1 : Nat) - (a : Int))) (by omega) (fun yA yM OA OM J2 z => ?_) (fun yA yM OA OM J2 z => ?_)
  · refine h2 K A h sp sc1 _ _ yA yM hA hon hstk hp J2 hH (by omega) (by omega) (fun j B hB => by have := hxa j B hB; omega) (by omega) ?_
    intro zA zM sc2 i2 J3 s2 p2 k2
    refine J3.jmp hE (fun j B hB => by have := H.low j B hB; omega) w2 o2 (by omega) (by omega) (x1 := x + (a3 - a)) (by omega) (fun vA vM PA PM J4 => ?_)
    have e : x + (a1 - a) + 1 + (a2 - (a1 + 1 : Nat)) = x + (a2 - a) := by omega
    exact hc vA vM sc2 _ J4 (by omega) (hP _ _ _ _ _ _ _ PA PM p2) (k1.tr ((KEE.st OA OM).tr (k2.tr ((KEE.st PA PM).le (by omega) (Nat.le_refl _) (by omega) (Nat.le_refl _)))))
  · refine h3 K A h sp sc1 _ _ yA yM hA hon hstk hp J2 hH (by omega) (by omega) (fun j B hB => by have := hxa j B hB; omega) (by omega) ?_
    intro zA zM sc2 i2 J3 s2 p2 k2
    have e : x + ((a2 + 1 : Nat) - (a : Int)) + (a3 - (a2 + 1 : Nat)) = x + (a3 - a) := by omega
    rw [e] at J3
    exact hc zA zM sc2 i2 J3 (by omega) p2 (k1.tr ((KEE.st OA OM).tr k2))
end SG
