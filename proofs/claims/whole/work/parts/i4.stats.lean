/-! BOTH MACHINES: STATEMENTS, what all have in common; print, goto -/
section ST4
variable {E : SENV} {K : CXT} {Lim k n p nx n1 n2 a a1 a2 b b1 b2 y tk h sp sc i el j : Nat} {x x1 : Int} {wA wM uA uM : Wd} {stk : List Nat} {ty : Int32} {A B : ACT} {v : Int64} {Po : CXT → Nat → Nat → Wd → Wd → Prop}
/-- nothing is left -/
def P0 (_ : CXT) (_ _ : Nat) (_ _ : Wd) : Prop := True
/-- a STATEMENT -/
abbrev SIS (E : SENV) (Lim : Nat) (stk : List Nat) (p nx a a1 b b1 : Nat) : Prop := SIG E Lim stk p P0 0 nx a a1 b b1
theorem P0_pos : POS P0 0 := fun _ _ _ _ _ _ _ _ _ _ => trivial
/-- one behind the other -/
theorem SIS.seq (h1 : SIS E Lim stk p n1 a a1 b b1) (h2 : SIG E Lim stk p Po n n2 a1 a2 b1 b2) (ha : a ≤ a1 ∧ a1 ≤ a2) (hn : n1 ≤ nx ∧ n2 ≤ nx) : SIG E Lim stk p Po n nx a a2 b b2 := by
  intro K A h sp sc x i wA wM hA hon hst hp H hH hL hh hxa hxk hc
  refine h1 K A h sp sc x i wA wM hA hon hst hp H hH hL (by omega) (fun j B hB => by have := hxa j B hB; omega) (by omega) ?_
  intro uA uM sc1 i1 J1 s1 _ k1
  refine h2 K A h sp sc1 _ i1 uA uM hA hon hst hp J1 hH (by omega) (by omega) (fun j B hB => by have := hxa j B hB; omega) (by omega) ?_
  intro yA yM sc2 i2 J2 s2 hp2 k2
  have e : x + (a1 - a) + ((a2 : Int) - a1) = x + (a2 - a) := by omega
  rw [e] at J2
  exact hc yA yM sc2 i2 J2 (by omega) hp2 (k1.tr k2)
/-- nothing at all -/
theorem SIS.no : SIS E Lim stk p nx a a b b := by
  intro K A h sp sc x i wA wM hA hon hst hp H hH hL hh hxa hxk hc
  have e : x + ((a : Int) - a) = x := by omega
  rw [e] at hc
  exact hc wA wM sc i H (Nat.le_refl _) trivial KEE.rf
/-- a STEP is paid -/
theorem JS.pay (hE : EOKS E) (H : JS E K (K.2.2 5) a b h sp sc x i wA wM) (hA : K.1[K.2.2 0]? = some A) (hon : aOn A) (hw : gl (cA E) 41 a = wdC 40 0 0) {X Y Z : Int32} (ho : opW (dM E) b 12 X Y Z) (ha : a < eNo E 5 0) (hb : b < 60000) (hx : x + 1 ≤ x1 + KK ∧ x1 ≤ KK) (g : ∀ uA uM, sc < eNo E 5 5 → JS E K (K.2.2 5) (a + 1) (b + 1) h sp (sc + 1) x1 (i + 1) uA uM → KEE h (K.2.2 3) sp (K.2.2 4) wA wM uA uM → (∃ pr de fu, TLY (eNo E 5 5) sc pr de fu wA ∧ TLY (eNo E 5 5) (sc + 1) pr de fu uA) → GD E (i + 1) uA uM) : GD E i wA wM := by
  have hd := H.dep
  obtain ⟨C, M⟩ := H.cka hA
  obtain ⟨_, pr, de, fu, j1, j2, j3, j4, j5, j6, j7, j8, j9, j10, ⟨j11, j12, j13, j14, j15, j16, j17⟩, o1, o2⟩ := id H
  have M1 := M.nx (b1 := b + 1) (by omega)
  have T1 : TLM (eNo E 5 5) sc pr de fu (si wM 0 128 (Int32.ofNat (b + 1))) := j6.nx
  have st := rm_step M hb ho
  have hN := hE.2.1
  obtain ⟨_, _, _, _, _, _, t7, t8, t9, t10, t11⟩ := id j4
  by_cases hs : sc = eNo E 5 5
  · rw [payM0 T1 hs] at st
    have OA : OFF (fun k j => k = 48 ∧ (j = 10 ∨ j = 11)) (si (si wA 48 11 (Int32.ofNat (a + 1))) 48 10 (-1)) wA := OFF.tr (OFF.si (by omega)) (OFF.si (by omega))
    have OM : OFF (fun k j => k = 0 ∧ (j = 128 ∨ j = 140)) (si (si wM 0 128 (Int32.ofNat (b + 1))) 0 140 100) wM := OFF.tr (OFF.si (by omega)) (OFF.si (by omega))
    refine H.fin hE (k := 1) (by decide) (TKS.one hd.2.2.2.2 (k_step0 C j4 ha hw hs)) (SPS.one (M.runs ho hb (by decide)) st) (by omega) (f := -1) ⟨gi_si0 _ _ _ _, by decide⟩ (Or.inl ⟨gi_si0 _ _ _ _, rfl⟩) (j4.off OA (fun k j p => by omega)) (j6.off OM (fun k j p => by omega)) (fun j p1 p2 => ?_) (OA.mono fun k j p => by unfold PZA; omega) (OM.mono fun k j p => by unfold PZR; omega)
    rw [(OA 55 j (by omega)).2, (OM 86 j (by omega)).2]; exact j7 j p1 p2
  · have hs' : sc < eNo E 5 5 := by omega
    rw [payM1 T1 hs' hN] at st
    have T2 := (j4.nx (x := Int32.ofNat (a + 1))).pay hs'
    have C2 : CK (cA E) (eNo E 5 0) (a + 1) (aF A) (K.2.2 1) h (K.2.2 3) (K.2.2 5) (si (si wA 48 11 (Int32.ofNat (a + 1))) 56 4 (Int32.ofNat (sc + 1))) := by
      have C1 := C.nx (a + 1)
      exact C1.nw (OFF.si (by omega)) (by rw [gi_si1 (by omega)]; exact C1.2.2.1) (by rw [gi_si1 (by omega)]; exact C1.2.2.2.1) (by rw [gi_si1 (by omega)]; exact C1.2.2.2.2.1) (by rw [gi_si1 (by omega)]; exact C1.2.2.2.2.2.1) (by rw [gi_si1 (by omega)]; exact C1.2.2.2.2.2.2.1) (by rw [gi_si1 (by omega)]; exact C1.2.2.2.2.2.2.2.1) C1.2.2.2.2.2.2.2.2
    have OA : OFF (PTA h (K.2.2 3)) (si (si wA 48 11 (Int32.ofNat (a + 1))) 56 4 (Int32.ofNat (sc + 1))) wA := OFF.tr (OFF.si (by unfold PTA; omega)) (OFF.si (by unfold PTA; omega))
    have OM : OFF (PTM sp (K.2.2 4)) (si (si wM 0 128 (Int32.ofNat (b + 1))) 0 137 (Int32.ofNat (sc + 1))) wM := OFF.tr (OFF.si (by unfold PTM; omega)) (OFF.si (by unfold PTM; omega))
    have hP : PSD wA (si (si wA 48 11 (Int32.ofNat (a + 1))) 56 4 (Int32.ofNat (sc + 1))) := j4.psd T2 (by omega)
    have J : JS E K (K.2.2 5) (a + 1) (b + 1) h sp (sc + 1) x1 (i + 1) (si (si wA 48 11 (Int32.ofNat (a + 1))) 56 4 (Int32.ofNat (sc + 1))) (si (si wM 0 128 (Int32.ofNat (b + 1))) 0 137 (Int32.ofNat (sc + 1))) := by
      refine JS.tf (K' := K) (A := A) H H.lod rfl rfl ⟨rfl, rfl, rfl⟩ OA OM hP hA hon C2 T2 M1.pay T1.pay (fun pr0 de0 fu0 T => T.uq j4) ⟨Nat.le_refl _, Nat.le_refl _, Nat.le_refl _, Nat.le_refl _, j11, j12, j15⟩ ⟨?_, hx.2⟩
      have e : (KK : Int) * ((sc + 1 : Nat) : Int) = KK * sc + KK := by
        have := Int.mul_add (KK : Int) sc 1
        rw [Int.mul_one] at this
        exact this
      rw [e]; omega
    exact J.go hE (TKS.one hd.2.2.2.2 (k_step C j4 ha hw hs')) (SPS.one (M.runs ho hb (by decide)) st) (by omega) (g _ _ hs' J (KEE.pt OA OM hP) ⟨pr, de, fu, j4, T2⟩)
end ST4
