/-! BOTH MACHINES: parts of a for that are gone to -/
section ME4
variable {E : SENV} {K : CXT} {Lim p a a0 a1 b b0 b1 h sp sc i el n n1 m m1 j q y nx : Nat} {x x1 : Int} {stk : List Nat} {ty : Int32} {wA wM uA uM : Wd} {A B : ACT} {Po : CXT → Nat → Nat → Wd → Wd → Prop}
/-- one control more -/
def gsK (K : CXT) : CXT := (K.1, K.2.1, fun k => if k = 4 then K.2.2 4 + 1 else K.2.2 k)
theorem JS.gsb (hE : EOKS E) (H : JS E K (K.2.2 5) a b h sp sc x i wA wM) (hA : K.1[K.2.2 0]? = some A) (hon : aOn A) (hw : gl (cA E) 41 a = wdC 35 0 (Int32.ofNat n)) {Y Z : Int32} (ho : opW (dM E) b 31 (Int32.ofNat m) Y Z) (ha : a < eNo E 5 0 ∧ n ≤ 36872) (hb : b < 60000 ∧ m ≤ 60000) (hc : K.2.2 4 + 1 ≤ 4 * K.2.2 3 + 4) (hh : h < 30622) (hx : x + 1 ≤ x1 ∧ x1 ≤ KK)
    (g : ∀ uA uM, JS E (gsK K) (K.2.2 5) n m (h + 1) sp sc x1 (i + 1) uA uM → gl uA 51 h = Int64.ofNat (a + 1) → CTM (K.2.2 4) (b + 1) (K.2.2 0) 0 (-1) (K.2.2 3) uM → KEE h (K.2.2 3) sp (K.2.2 4) wA wM uA uM → GD E (i + 1) uA uM) : GD E i wA wM := by
  obtain ⟨C, M⟩ := H.cka hA
  have hd := H.dep
  obtain ⟨_, pr, de, fu, j1, j2, j3, j4, j5, j6, j7, j8, j9, j10, ⟨j11, j12, j13, j14, j15, j16, j17⟩, o1, o2⟩ := id H
  have tk := k_gosub C ha.1 hw (by omega) hh
  have st := rm_gosub M hb.1 ho
  have OA : OFF (PSK h) (si (pshW wA (a + 1) h (Int64.ofNat (a + 1))) 48 11 (Int32.ofNat n)) wA := OFF.tr (OFF.si (Or.inl ⟨rfl, Or.inl rfl⟩)) pshW_off
  have OM : OFF (fun k j => (k = 0 ∧ (j = 127 ∨ j = 128)) ∨ (92 ≤ k ∧ k ≤ 97 ∧ j = K.2.2 4)) (si (ctlW (si wM 0 128 (Int32.ofNat (b + 1))) (K.2.2 4) 2 (Int32.ofNat (b + 1)) (Int32.ofNat (K.2.2 0)) 0 (-1) (Int32.ofNat (K.2.2 3))) 0 128 (Int32.ofNat m)) wM := OFF.tr (OFF.si (by omega)) (OFF.tr (ctlW_off.mono fun k j p => by omega) (OFF.si (by omega)))
  have v1 : gl (si (pshW wA (a + 1) h (Int64.ofNat (a + 1))) 48 11 (Int32.ofNat n)) 51 h = Int64.ofNat (a + 1) := by rw [gl_si]; exact pshW_v
  have q11 : gi (si (pshW wA (a + 1) h (Int64.ofNat (a + 1))) 48 11 (Int32.ofNat n)) 48 11 = Int32.ofNat n := gi_si0 _ _ _ _
  have q14 : gi (si (pshW wA (a + 1) h (Int64.ofNat (a + 1))) 48 11 (Int32.ofNat n)) 48 14 = Int32.ofNat (h + 1) := by
    rw [gi_si1 (by omega)]; exact gi_si0 _ _ _ _
  obtain ⟨c1, c2, c3, c4, c5, c6⟩ := ctlW_v (w := si wM 0 128 (Int32.ofNat (b + 1))) (cp := K.2.2 4) (kd_ := 2) (bb := Int32.ofNat (b + 1)) (ev := Int32.ofNat (K.2.2 0)) (md := 0) (sto := -1) (us := Int32.ofNat (K.2.2 3))
  have hC : CTM (K.2.2 4) (b + 1) (K.2.2 0) 0 (-1) (K.2.2 3) (si (ctlW (si wM 0 128 (Int32.ofNat (b + 1))) (K.2.2 4) 2 (Int32.ofNat (b + 1)) (Int32.ofNat (K.2.2 0)) 0 (-1) (Int32.ofNat (K.2.2 3))) 0 128 (Int32.ofNat m)) := ⟨by rw [gi_si1 (by omega)]; exact c1, by rw [gi_si1 (by omega)]; exact c2, by rw [gi_si1 (by omega)]; exact c3, by rw [gi_si1 (by omega)]; exact c4, by rw [gi_si1 (by omega)]; exact c5⟩
  have q127 : gi (si (ctlW (si wM 0 128 (Int32.ofNat (b + 1))) (K.2.2 4) 2 (Int32.ofNat (b + 1)) (Int32.ofNat (K.2.2 0)) 0 (-1) (Int32.ofNat (K.2.2 3))) 0 128 (Int32.ofNat m)) 0 127 = Int32.ofNat (K.2.2 4 + 1) := by rw [gi_si1 (by omega)]; exact c6
  have q128 : gi (si (ctlW (si wM 0 128 (Int32.ofNat (b + 1))) (K.2.2 4) 2 (Int32.ofNat (b + 1)) (Int32.ofNat (K.2.2 0)) 0 (-1) (Int32.ofNat (K.2.2 3))) 0 128 (Int32.ofNat m)) 0 128 = Int32.ofNat m := gi_si0 _ _ _ _
  generalize si (ctlW (si wM 0 128 (Int32.ofNat (b + 1))) (K.2.2 4) 2 (Int32.ofNat (b + 1)) (Int32.ofNat (K.2.2 0)) 0 (-1) (Int32.ofNat (K.2.2 3))) 0 128 (Int32.ofNat m) = uM at st OM hC q127 q128
  generalize si (pshW wA (a + 1) h (Int64.ofNat (a + 1))) 48 11 (Int32.ofNat n) = uA at tk OA v1 q11 q14
  have e0 : ∀ j, j ≠ 127 → j ≠ 128 → gi uM 0 j = gi wM 0 j := fun j p r => (OM 0 j (by omega)).1
  have C1 : CK (cA E) (eNo E 5 0) n (aF A) (K.2.2 1) (h + 1) (K.2.2 3) (K.2.2 5) uA := C.ps OA q11 q14 (by omega)
  have M1 : MK (dM E) m (K.2.2 0) sp (K.2.2 4 + 1) K.1.length (K.2.2 2) (K.2.2 5) (K.2.2 3) uM := by
    obtain ⟨n1, n2, n3, n4, n5, n6, n7, n8, n9, n10, n11, n12, n13, n14, n15, n16, n17, n18⟩ := id M
    exact M.nw (OM.mono fun k j p => by omega) q128 ((e0 129 (by omega) (by omega)).trans n4) ((e0 130 (by omega) (by omega)).trans n5) q127 ((e0 131 (by omega) (by omega)).trans n7) ((e0 132 (by omega) (by omega)).trans n8) ((e0 133 (by omega) (by omega)).trans n9) ((e0 134 (by omega) (by omega)).trans n10) ⟨hb.2, n12, n13, by omega, n15, n16, n17, n18⟩
  have hP : PSD wA uA := PSD.eq (OA 56 3 (by unfold PSK; omega)).1 (OA 56 4 (by unfold PSK; omega)).1
  have OA' : OFF (PTA h (K.2.2 3)) uA wA := OA.mono fun k j p => by unfold PSK at p; unfold PTA; omega
  have OM' : OFF (PTM sp (K.2.2 4)) uM wM := OM.mono fun k j p => by unfold PTM; omega
  have J : JS E (gsK K) (K.2.2 5) n m (h + 1) sp sc x1 (i + 1) uA uM := JS.tf (K' := gsK K) (A := A) H H.lod rfl rfl ⟨rfl, rfl, rfl⟩ OA' OM' hP hA hon C1 (j4.off OA (fun k j p => by unfold PSK at p; omega)) M1 (j6.off OM (fun k j p => by omega)) (fun pr0 de0 fu0 T' => T'.uq j4) ⟨by omega, Nat.le_refl _, Nat.le_refl _, by show K.2.2 4 ≤ K.2.2 4 + 1; omega, by omega, hc, j15⟩ ⟨by omega, hx.2⟩
  exact J.go hE (TKS.one hd.2.2.2.2 tk) (SPS.one (M.runs ho hb.1 (by decide)) st) (by omega) (g uA uM J v1 hC (KEE.pt OA' OM' hP))
/-- .. and come back -/
theorem JS.esb (hE : EOKS E) (J : JS E (gsK K) (K.2.2 5) a b (h + 2) (sp + 1) sc x i wA wM) (hA : K.1[K.2.2 0]? = some A) (hon : aOn A) (N : NUM K A) (L : LOWD K h sp (K.2.2 3) (K.2.2 4)) (hsp : sp ≤ h) (hw : gl (cA E) 41 a = wdC 36 0 0) {X Y Z : Int32} (ho : opW (dM E) b 32 X Y Z) (ha : a < eNo E 5 0) (hb : b < 60000 ∧ b0 ≤ 60000) (v1 : gl wA 51 h = Int64.ofNat a0) (hC : CTM (K.2.2 4) b0 (K.2.2 0) 0 (-1) (K.2.2 3) wM) (hx : x + 1 ≤ x1 ∧ x1 ≤ KK)
    (g : ∀ uA uM, JS E K (K.2.2 5) a0 b0 (h + 1) (sp + 1) sc x1 (i + 1) uA uM → gl uA 51 h = gl wA 51 (h + 1) → OFF (fun k j => k = 48 ∨ (k = 51 ∧ h ≤ j)) uA wA → OFF (fun k j => k = 0) uM wM → GD E (i + 1) uA uM) : GD E i wA wM := by
  have hd := J.dep
  obtain ⟨n1, n2, n3, n4, n5⟩ := id N
  obtain ⟨C, M⟩ := J.cka (A := A) hA
  obtain ⟨_, pr, de, fu, j1, j2, j3, j4, j5, j6, j7, j8, j9, j10, ⟨j11, j12, j13, j14, j15, j16, j17⟩, o1, o2⟩ := id J
  have tk := k_esub C ha hw v1
  have st := rm_retq M hb.1 ho
  have M1 := M.nx (b1 := b + 1) (by omega)
  have hC1 : CTM (K.2.2 4) b0 (K.2.2 0) 0 (-1) (K.2.2 3) (si wM 0 128 (Int32.ofNat (b + 1))) := hC.off (OFF.si (P := fun k j => k = 0 ∧ j = 128) ⟨rfl, rfl⟩) (fun k p q r => by omega)
  obtain ⟨u, u1, u2, u3⟩ := fin_use (pl := false) M1 hC1 (fun c => absurd c (by decide)) ⟨hb.2, n3, n4⟩
  have OA : OFF (fun k j => (k = 48 ∧ (j = 11 ∨ j = 14)) ∨ (k = 51 ∧ h ≤ j)) (pshQ (si (si (popW wA (a + 1) (h + 1)) 48 14 (Int32.ofNat h)) 48 11 (Int32.ofNat a0)) h (gl wA 51 (h + 1))) wA := OFF.tr (pshQ_off.mono fun k j p => by unfold PSK at p; omega) (OFF.tr (OFF.si (by omega)) (OFF.tr (OFF.si (by omega)) (popW_off.mono fun k j p => by omega)))
  have OM : OFF (fun k j => k = 0 ∧ (j = 127 ∨ j = 128 ∨ j = 129 ∨ j = 134)) u wM := OFF.tr (u3.mono fun k j p => by unfold PFM2 at p; omega) (OFF.si (by omega))
  have q11 : gi (pshQ (si (si (popW wA (a + 1) (h + 1)) 48 14 (Int32.ofNat h)) 48 11 (Int32.ofNat a0)) h (gl wA 51 (h + 1))) 48 11 = Int32.ofNat a0 := by
    unfold pshQ; rw [gi_si1 (by omega), gi_sl, gi_si0]
  have q14 : gi (pshQ (si (si (popW wA (a + 1) (h + 1)) 48 14 (Int32.ofNat h)) 48 11 (Int32.ofNat a0)) h (gl wA 51 (h + 1))) 48 14 = Int32.ofNat (h + 1) := gi_si0 _ _ _ _
  have qv : gl (pshQ (si (si (popW wA (a + 1) (h + 1)) 48 14 (Int32.ofNat h)) 48 11 (Int32.ofNat a0)) h (gl wA 51 (h + 1))) 51 h = gl wA 51 (h + 1) := pshQ_v
  generalize pshQ (si (si (popW wA (a + 1) (h + 1)) 48 14 (Int32.ofNat h)) 48 11 (Int32.ofNat a0)) h (gl wA 51 (h + 1)) = uA at tk OA q11 q14 qv
  have e4 : ∀ j, j ≠ 11 → j ≠ 14 → gi uA 48 j = gi wA 48 j := fun j p r => (OA 48 j (by omega)).1
  have C1 : CK (cA E) (eNo E 5 0) a0 (aF A) (K.2.2 1) (h + 1) (K.2.2 3) (K.2.2 5) uA := C.nw (OA.mono fun k j p => by omega) q11 ((e4 12 (by omega) (by omega)).trans C.2.2.2.1) ((e4 13 (by omega) (by omega)).trans C.2.2.2.2.1) q14 ((e4 15 (by omega) (by omega)).trans C.2.2.2.2.2.2.1) ((e4 16 (by omega) (by omega)).trans C.2.2.2.2.2.2.2.1) ⟨n5, C.2.2.2.2.2.2.2.2.2.1, by omega, n4, C.2.2.2.2.2.2.2.2.2.2.2.2⟩
  have hP : PSD wA uA := PSD.eq (OA 56 3 (by omega)).1 (OA 56 4 (by omega)).1
  have JJ : JS E K (K.2.2 5) a0 b0 (h + 1) (sp + 1) sc x1 (i + 1) uA u := JS.tf (K' := K) (A := A) J (L : LOWD (gsK K) h sp (K.2.2 3) (K.2.2 4)) rfl rfl ⟨rfl, rfl, rfl⟩ (OA.mono fun k j p => by unfold PTA; omega) (OM.mono fun k j p => by unfold PTM; omega) hP hA hon C1 (j4.off OA (fun k j p => by omega)) u2 (j6.off OM (fun k j p => by omega)) (fun pr0 de0 fu0 T' => T'.uq j4) ⟨by omega, by omega, Nat.le_refl _, Nat.le_refl _, by omega, n1, n2⟩ ⟨by omega, hx.2⟩
  exact JJ.go hE (TKS.one hd.2.2.2.2 tk) (SPS.one (M.runs ho hb.1 (by decide)) (st.trans u1)) (by omega) (g uA u JJ qv (OA.mono fun k j p => by omega) (OM.mono fun k j p => p.1))
/-- what's known speaks of two words alone -/
def POV (Po : CXT → Nat → Nat → Wd → Wd → Prop) : Prop := ∀ (K K' : CXT) (h h' sp : Nat) (uA uM yA yM : Wd), K'.2.1 = K.2.1 → gl yA 51 h' = gl uA 51 h → (∀ j, gl yA 50 j = gl uA 50 j) → gl yM 85 sp = gl uM 85 sp → Po K h sp uA uM → Po K' h' sp yA yM
theorem PV.pov : POV (PV ty) := fun K K' h h' sp uA uM yA yM e1 e2 e3 e4 hp => by
  unfold PV at hp ⊢
  rw [e2, e4]; exact hp
theorem PP.pov : POV (PP ty) := fun K K' h h' sp uA uM yA yM e1 e2 e3 e4 hp => by
  unfold PP at hp ⊢
  rw [e2, e4, e1]; exact hp
theorem PMX.pov : POV (PMX ty) := fun K K' h h' sp uA uM yA yM e1 e2 e3 e4 ⟨x, q, h1, h2, h3⟩ => ⟨x, q, e2.trans h1, by rw [e1]; exact h2, by rw [e4, e3]; exact h3⟩
/-- the class alone goes, and comes back -/
theorem JS.gsc (hE : EOKS E) (H : JS E K (K.2.2 5) a b h sp sc x i wA wM) (hA : K.1[K.2.2 0]? = some A) (hw : gl (cA E) 41 a = wdC 35 0 (Int32.ofNat n)) (ha : a < eNo E 5 0 ∧ n ≤ 36872) (hh : h < 30622) (hx : x + 1 ≤ x1 ∧ x1 ≤ KK) (g : ∀ uA, JS E K (K.2.2 5) n b (h + 1) sp sc x1 (i + 1) uA wM → gl uA 51 h = Int64.ofNat (a + 1) → OFF (PSK h) uA wA → GD E (i + 1) uA wM) : GD E i wA wM := by
  obtain ⟨C, M⟩ := H.cka hA
  have hd := H.dep
  have tk := k_gosub C ha.1 hw (by omega) hh
  have OA : OFF (PSK h) (si (pshW wA (a + 1) h (Int64.ofNat (a + 1))) 48 11 (Int32.ofNat n)) wA := OFF.tr (OFF.si (Or.inl ⟨rfl, Or.inl rfl⟩)) pshW_off
  refine JS.stp (k := 1) (j := 0) (h0 := h) (sp0 := sp) (h1 := h + 1) (sp1 := sp) (a1 := n) (b1 := b) (x1 := x1) hE H (TKS.one hd.2.2.2.2 tk) (show SPS 0 wM wM from rfl) (by omega) H.low OA OFF.rf (gi_si0 _ _ _ _) ?_ M.2.2.1 M.2.2.2.2.1 (by omega) hx (fun J => g _ J ?_ OA)
  · rw [gi_si1 (by omega)]; exact gi_si0 _ _ _ _
  · rw [gl_si]; exact pshW_v
theorem JS.esc (hE : EOKS E) {spx : Nat} (H : JS E K (K.2.2 5) a b (h + 2) spx sc x i wA wM) (hA : K.1[K.2.2 0]? = some A) (L : LOWK K h sp) (hw : gl (cA E) 41 a = wdC 36 0 0) (ha : a < eNo E 5 0) (hsp : sp ≤ spx ∧ spx ≤ h + 1) (v1 : gl wA 51 h = Int64.ofNat a0) (hx : x + 1 ≤ x1 ∧ x1 ≤ KK) (g : ∀ uA, JS E K (K.2.2 5) a0 b (h + 1) spx sc x1 (i + 1) uA wM → gl uA 51 h = gl wA 51 (h + 1) → OFF (PSK h) uA wA → GD E (i + 1) uA wM) : GD E i wA wM := by
  obtain ⟨C, M⟩ := H.cka hA
  have hd := H.dep
  have tk := k_esub C ha hw v1
  have OA : OFF (PSK h) (pshQ (si (si (popW wA (a + 1) (h + 1)) 48 14 (Int32.ofNat h)) 48 11 (Int32.ofNat a0)) h (gl wA 51 (h + 1))) wA := OFF.tr pshQ_off (OFF.tr (OFF.si (Or.inl ⟨rfl, Or.inl rfl⟩)) (OFF.tr (OFF.si (Or.inl ⟨rfl, Or.inr rfl⟩)) (popW_off.mono fun k j p => Or.inl p)))
  refine JS.stp (k := 1) (j := 0) (h0 := h) (sp0 := sp) (h1 := h + 1) (sp1 := spx) (a1 := a0) (b1 := b) (x1 := x1) hE H (TKS.one hd.2.2.2.2 tk) (show SPS 0 wM wM from rfl) (by omega) L OA OFF.rf ?_ (gi_si0 _ _ _ _) M.2.2.1 M.2.2.2.2.1 (by omega) hx (fun J => g _ J pshQ_v OA)
  unfold pshQ; rw [gi_si1 (by omega), gi_sl, gi_si0]
/-- a part that both have -/
theorem SUB.both (hE : EOKS E) (hs : SIG E Lim stk p Po 1 nx n n1 m m1) (hPo : POV Po) (w1 : gl (cA E) 41 a = wdC 35 0 (Int32.ofNat n)) {Y Z : Int32} (o1 : opW (dM E) b 31 (Int32.ofNat m) Y Z) (w2 : gl (cA E) 41 n1 = wdC 36 0 0) {X2 Y2 Z2 : Int32} (o2 : opW (dM E) m1 32 X2 Y2 Z2) (ha : a < eNo E 5 0 ∧ n ≤ n1 ∧ n1 < eNo E 5 0) (hb : b < 60000 ∧ m ≤ 60000 ∧ m1 < 60000) (hA : K.1[K.2.2 0]? = some A) (hon : aOn A) (hst : ∀ s ∈ stk, s ∈ aK A) (hp : aP A = p) (H : JS E K (K.2.2 5) a b h sp sc x i wA wM) (hH : HND E K Lim) (hL : eNo E 5 5 ≤ Lim + sc) (hh : h + 1 + nx ≤ 502 * (K.2.2 3 + 1)) (hc : K.2.2 4 + 1 ≤ 4 * K.2.2 3 + 4) (hxa : ∀ (j : Nat) (B : ACT), K.1[j]? = some B → x + (n1 - n + 2) ≤ aX B) (hxk : x + (n1 - n + 2) ≤ KK)
    (g : CTG E K Po 1 (a + 1) (b + 1) h sp sc (x + (n1 - n + 2)) wA wM) : GD E i wA wM := by
  have hd := H.dep
  have hEN := hE.1
  have hr : h < 30622 := by omega
  refine JS.gsb (x1 := x + 1) hE H hA hon w1 o1 ⟨ha.1, by omega⟩ ⟨hb.1, hb.2.1⟩ hc hr ⟨Int.le_refl _, by omega⟩ (fun uA uM J v1 hC k1 => ?_)
  refine hs (gsK K) A (h + 1) sp sc (x + 1) _ uA uM hA hon hst hp J hH hL hh (fun j B hB => by have := hxa j B hB; omega) (by omega) (fun yA yM sc' i' J' s1 hp' k2 => ?_)
  have v1' : gl yA 51 h = Int64.ofNat (a + 1) := (k2.1 h (by omega)).trans v1
  have hC' : CTM (K.2.2 4) (b + 1) (K.2.2 0) 0 (-1) (K.2.2 3) yM := KEE.ctm (cp := K.2.2 4) k2 hC
  refine JS.esb (x1 := x + (n1 - n + 2)) hE J' hA hon (H.num hA) H.lod hd.2.2.1 w2 o2 ha.2.2 ⟨hb.2.2, by omega⟩ v1' hC' ⟨by omega, hxk⟩ (fun zA zM JJ e1 OA OM => ?_)
  refine g zA zM sc' _ JJ s1 (hPo (gsK K) K (h + 1) h sp yA yM zA zM rfl e1 (fun j => (OA 50 j (by omega)).2) (OM 85 sp (by omega)).2 hp') ?_
  have k2' : KEE h (K.2.2 3) sp (K.2.2 4) uA uM yA yM := k2.le (by omega) (Nat.le_refl _) (Nat.le_refl _) (show K.2.2 4 ≤ K.2.2 4 + 1 by omega)
  exact k1.tr (k2'.tr ⟨fun j hj => (OA 51 j (by omega)).2, fun k j p q r => (OA k j (by omega)).1, fun j hj => (OM 85 j (by omega)).2, fun k j p q r => (OM k j (by omega)).1, PSD.eq (OA 56 3 (by omega)).1 (OA 56 4 (by omega)).1⟩)
/-- a part that the class alone has -/
theorem SUB.one (hE : EOKS E) (hs : SIG E Lim stk p Po 1 nx n n1 b b1) (hPo : POV Po) (w1 : gl (cA E) 41 a = wdC 35 0 (Int32.ofNat n)) (w2 : gl (cA E) 41 n1 = wdC 36 0 0) (ha : a < eNo E 5 0 ∧ n ≤ n1 ∧ n1 < eNo E 5 0) (hA : K.1[K.2.2 0]? = some A) (hon : aOn A) (hst : ∀ s ∈ stk, s ∈ aK A) (hp : aP A = p) (H : JS E K (K.2.2 5) a b h sp sc x i wA wM) (hH : HND E K Lim) (hL : eNo E 5 5 ≤ Lim + sc) (hh : h + 1 + nx ≤ 502 * (K.2.2 3 + 1)) (hxa : ∀ (j : Nat) (B : ACT), K.1[j]? = some B → x + (n1 - n + 2) ≤ aX B) (hxk : x + (n1 - n + 2) ≤ KK)
    (g : CTG E K Po 1 (a + 1) b1 h sp sc (x + (n1 - n + 2)) wA wM) : GD E i wA wM := by
  have hd := H.dep
  have hEN := hE.1
  have hr : h < 30622 := by omega
  refine JS.gsc (x1 := x + 1) hE H hA w1 ⟨ha.1, by omega⟩ hr ⟨Int.le_refl _, by omega⟩ (fun uA J v1 OA => ?_)
  refine hs K A (h + 1) sp sc (x + 1) _ uA wM hA hon hst hp J hH hL hh (fun j B hB => by have := hxa j B hB; omega) (by omega) (fun yA yM sc' i' J' s1 hp' k2 => ?_)
  have v1' : gl yA 51 h = Int64.ofNat (a + 1) := (k2.1 h (by omega)).trans v1
  refine JS.esc (x1 := x + (n1 - n + 2)) hE J' hA H.low w2 ha.2.2 ⟨by omega, by omega⟩ v1' ⟨by omega, hxk⟩ (fun zA JJ e1 OA2 => ?_)
  refine g zA yM sc' _ JJ s1 (hPo K K (h + 1) h sp yA yM zA yM rfl e1 (fun j => (OA2 50 j (by unfold PSK; omega)).2) rfl hp') ?_
  exact (KEE.st OA (OFF.rf : OFF (PSO sp) wM wM)).tr ((k2.le (by omega) (Nat.le_refl _) (Nat.le_refl _) (Nat.le_refl _)).tr (KEE.st OA2 (OFF.rf : OFF (PSO sp) yM yM)))
end ME4
