/-! BOTH MACHINES: two operands, a choice -/
section SW
variable {E : SENV} {K : CXT} {Lim p nx n1 n2 n3 a a1 a2 a3 b b1 b2 b3 h sp sc i el k : Nat} {x x1 : Int} {stk : List Nat} {ty ty1 ty2 : Int32} {wA wM uA uM : Wd} {v : Int64}
theorem TLY.psk {al pr de fu : Nat} {u w : Wd} (T : TLY al sc pr de fu w) (hO : OFF (PSK h) u w) : TLY al sc pr de fu u := T.off hO (fun k j p => by unfold PSK at p; omega)
theorem TLM.pso {al pr de fu : Nat} {u w : Wd} (T : TLM al sc pr de fu w) (hO : OFF (PSO sp) u w) : TLM al sc pr de fu u := T.off hO (fun k j p => by unfold PSO at p; omega)
theorem twR_ty {sg : Nat} {q : Int64} {r : Int64} (hs : SG2 sg) (h : twR sg v q = some r) : VT (sgY (Int32.ofNat (kM sg))) r := by
  unfold twR at h
  by_cases c1 : sg = 33
  · rw [if_pos c1] at h
    rw [← Option.some.inj h, c1]; exact Or.inr ⟨by decide, wr36_r _⟩
  rw [if_neg c1] at h
  by_cases c2 : sg = 34
  · rw [if_pos c2] at h
    rw [← Option.some.inj h, c2]; exact Or.inr ⟨by decide, wr36_r _⟩
  rw [if_neg c2] at h
  by_cases c3 : sg = 35
  · rw [if_pos c3] at h
    rw [← Option.some.inj h, c3]; exact Or.inr ⟨by decide, wr36_r _⟩
  rw [if_neg c3] at h
  by_cases c4 : sg = 30
  · rw [if_pos c4] at h
    by_cases z : q = 0
    · rw [if_pos z] at h; exact absurd h (by simp)
    · rw [if_neg z] at h
      rw [← Option.some.inj h, c4]; exact Or.inr ⟨by decide, wr36_r _⟩
  rw [if_neg c4] at h
  by_cases c5 : sg = 31
  · rw [if_pos c5] at h
    by_cases z : q = 0
    · rw [if_pos z] at h; exact absurd h (by simp)
    · rw [if_neg z] at h
      rw [← Option.some.inj h, c5]; exact Or.inr ⟨by decide, wr36_r _⟩
  rw [if_neg c5] at h
  by_cases c6 : sg = 36
  · rw [if_pos c6] at h
    by_cases z : 0 ≤ q
    · rw [if_pos z] at h
      rw [← Option.some.inj h, c6]; exact Or.inr ⟨by decide, pw36_r _ _ _ _ (R36.nat (n := 1) (by omega))⟩
    · rw [if_neg z] at h; exact absurd h (by simp)
  rw [if_neg c6] at h
  have hr : r = 0 ∨ r = 1 := by
    rw [← Option.some.inj h]
    by_cases z : twP sg v q
    · rw [if_pos z]; exact Or.inr rfl
    · rw [if_neg z]; exact Or.inl rfl
  refine Or.inl ⟨?_, hr⟩
  rcases hs with e | e | e | e | e | e | e | e | e | e | e | e | e | e | e | e
  all_goals first
    | exact absurd e c1
    | exact absurd e c2
    | exact absurd e c3
    | exact absurd e c4
    | exact absurd e c5
    | exact absurd e c6
    | (rw [e]; decide)
/-- two operands -/
theorem SIV.two (hE : EOKS E) {sg : Nat} {g : Wd} (hs : SG2 sg) (hl : SIV E Lim stk p ty1 n1 a a1 b b1) (hr : SIV E Lim stk p ty2 n2 a1 a2 b1 b2) (ha1 : a ≤ a1 ∧ a1 ≤ a2) (hn : n1 ≤ nx ∧ n2 + 1 ≤ nx) (ho : opW (dM E) b2 8 (Int32.ofNat (kM sg)) 0 0) (hw : gl (cA E) 41 a2 = wdC (fX2_operation (Int32.ofNat sg) g) 0 0) (ha : a2 < eNo E 5 0) (hb : b2 < 60000) (hty : ty = sgY (Int32.ofNat (kM sg))) : SIV E Lim stk p ty nx a (a2 + 1) b (b2 + 1) := by
  intro K A h sp sc x i wA wM hA hon hstk hp H hH hL hh hxa hxk hc
  refine hl K A h sp sc x i wA wM hA hon hstk hp H hH hL (by omega) (fun j B hB => by have := hxa j B hB; omega) (by omega) ?_
  intro uA uM v1 sc1 i1 J1 s1 u1 u2 hv1 k1
  refine hr K A (h + 1) (sp + 1) sc1 _ i1 uA uM hA hon hstk hp J1 hH (by omega) (by omega) (fun j B hB => by have := hxa j B hB; omega) (by omega) ?_
  intro yA yM v2 sc2 i2 J2 s2 u3 u4 hv2 k2
  have hd := J2.dep
  obtain ⟨A', e1, e2, C, M⟩ := J2.ck
  have g1 : gl yA 51 h = v1 := (k2.1 h (by omega)).trans u1
  have g2 : gl yM 85 sp = v1 := (k2.2.2.1 sp (by omega)).trans u2
  have hlow : LOWK K h sp := H.low
  have hx' : fX2_operation (Int32.ofNat sg) g = Int32.ofNat (fX2_operation (Int32.ofNat sg) g).toNatClampNeg ∧ (fX2_operation (Int32.ofNat sg) g).toNatClampNeg < 16 := by
    rcases hs with e | e | e | e | e | e | e | e | e | e | e | e | e | e | e | e <;> subst e <;> (refine ⟨rfl, ?_⟩; unfold fX2_operation; decide)
  have O1 : OFF (fun k j => k = 48 ∧ (j = 11 ∨ j = 14)) (si (si (si yA 48 11 (Int32.ofNat (a2 + 1))) 48 14 (Int32.ofNat (h + 1))) 48 14 (Int32.ofNat h)) yA := OFF.tr (OFF.si (by omega)) (OFF.tr (OFF.si (by omega)) (OFF.si (by omega)))
  have q11 : gi (si (si (si yA 48 11 (Int32.ofNat (a2 + 1))) 48 14 (Int32.ofNat (h + 1))) 48 14 (Int32.ofNat h)) 48 11 = Int32.ofNat (a2 + 1) := by rw [gi_si1 (by omega), gi_si1 (by omega), gi_si0]
  have tkc : fX3_tick yA = some (match twR sg v1 v2 with | some v => pshQ (si (si (si yA 48 11 (Int32.ofNat (a2 + 1))) 48 14 (Int32.ofNat (h + 1))) 48 14 (Int32.ofNat h)) h v | none => si (si (si (si yA 48 11 (Int32.ofNat (a2 + 1))) 48 14 (Int32.ofNat (h + 1))) 48 14 (Int32.ofNat h)) 48 10 2) := by
    have hw' := hw
    rw [hx'.1] at hw'
    rw [tk_calc (x := (fX2_operation (Int32.ofNat sg) g).toNatClampNeg) C ha hw' hx'.2, ← hx'.1, g1, u3]
    exact twA hs (gi_si0 _ _ _ _) (by omega) hv2.r
  have stc : fX12_step yM = some (match twR sg v1 v2 with | some v => pshM (si (si (si yM 0 128 (Int32.ofNat (b2 + 1))) 0 130 (Int32.ofNat (sp + 1))) 0 130 (Int32.ofNat sp)) sp v | none => si (si (si (si yM 0 128 (Int32.ofNat (b2 + 1))) 0 130 (Int32.ofNat (sp + 1))) 0 130 (Int32.ofNat sp)) 0 140 2) := by
    rw [stM_eq M ho hb]
    have M1 := M.nx (b1 := b2 + 1) (by omega)
    unfold stpB
    rw [if_neg (show ¬ ((8 : Int32) = 1) by decide), if_neg (show ¬ ((8 : Int32) = 2) by decide), if_neg (show ¬ ((8 : Int32) = 3) by decide), if_neg (show ¬ ((8 : Int32) = 4) by decide), if_neg (show ¬ ((8 : Int32) = 5) by decide), if_neg (show ¬ ((8 : Int32) = 6) by decide), if_neg (show ¬ ((8 : Int32) = 7) by decide), if_pos (show (8 : Int32) = 8 from rfl), twM hs (p := v1) (q := v2) M1.2.2.2.2.1 (by omega) (by rw [gl_si]; exact g2) (by rw [gl_si]; exact u4) hv2.r M1.2.1, bn_so]
    rfl
  have O2 : OFF (fun k j => k = 0 ∧ (j = 128 ∨ j = 130)) (si (si (si yM 0 128 (Int32.ofNat (b2 + 1))) 0 130 (Int32.ofNat (sp + 1))) 0 130 (Int32.ofNat sp)) yM := OFF.tr (OFF.si (by omega)) (OFF.tr (OFF.si (by omega)) (OFF.si (by omega)))
  have q28 : gi (si (si (si yM 0 128 (Int32.ofNat (b2 + 1))) 0 130 (Int32.ofNat (sp + 1))) 0 130 (Int32.ofNat sp)) 0 128 = Int32.ofNat (b2 + 1) := by rw [gi_si1 (by omega), gi_si1 (by omega), gi_si0]
  have hR := M.runs ho hb (by decide)
  generalize si (si (si yA 48 11 (Int32.ofNat (a2 + 1))) 48 14 (Int32.ofNat (h + 1))) 48 14 (Int32.ofNat h) = zA at tkc O1 q11
  generalize si (si (si yM 0 128 (Int32.ofNat (b2 + 1))) 0 130 (Int32.ofNat (sp + 1))) 0 130 (Int32.ofNat sp) = zM at stc O2 q28
  cases ht : twR sg v1 v2 with
  | none =>
    rw [ht] at tkc stc
    dsimp only at tkc stc
    obtain ⟨B, pr, de, fu, j1, j2, j3, j4, j5, j6, j7, j8⟩ := id J2
    refine J2.fin hE (k := 1) (by decide) (TKS.one hd.2.2.2.2 tkc) (SPS.one hR stc) (by omega) (f := 2) ⟨gi_si0 _ _ _ _, by decide⟩ (Or.inr (Or.inl ⟨gi_si0 _ _ _ _, by decide, by decide⟩)) (j4.off (OFF.tr (OFF.si (P := fun k j => k = 48 ∧ (j = 10 ∨ j = 11 ∨ j = 14)) (by omega)) (O1.mono fun k j p => by omega)) (fun k j p => by omega)) (j6.off (OFF.tr (OFF.si (P := fun k j => k = 0 ∧ (j = 140 ∨ j = 128 ∨ j = 130)) (by omega)) (O2.mono fun k j p => by omega)) (fun k j p => by omega)) (fun j p1 p2 => ?_) (OFF.tr (OFF.si (by unfold PZA; omega)) (O1.mono fun k j p => by unfold PZA; omega)) (OFF.tr (OFF.si (by unfold PZR; omega)) (O2.mono fun k j p => by unfold PZR; omega))
    rw [gl_si, gl_si, (O1 55 j (by omega)).2, (O2 86 j (by omega)).2]
    exact j7 j p1 p2
  | some v =>
    rw [ht] at tkc stc
    dsimp only at tkc stc
    have OA : OFF (PSK h) (pshQ zA h v) yA := OFF.tr pshQ_off (O1.mono fun k j p => Or.inl p)
    have OM : OFF (PSO sp) (pshM zM sp v) yM := OFF.tr pshM_off (O2.mono fun k j p => Or.inl p)
    have J3 : JS E K (K.2.2 5) (a2 + 1) (b2 + 1) (h + 1) (sp + 1) sc2 (x + ((a2 + 1 : Nat) - (a : Int))) (i2 + 1) (pshQ zA h v) (pshM zM sp v) := by
      refine J2.mv hlow OA OM ?_ (gi_si0 _ _ _ _) ?_ (gi_si0 _ _ _ _) (by omega) ⟨by omega, hxk⟩
      · unfold pshQ; rw [gi_si1 (by omega), gi_sl]; exact q11
      · unfold pshM; rw [gi_si1 (by omega), gi_sl]; exact q28
    refine J3.go hE (TKS.one hd.2.2.2.2 tkc) (SPS.one hR stc) (by omega) (hc _ _ v sc2 _ J3 (by omega) pshQ_v pshM_v ?_ ((k1.tr (k2.le (by omega) (Nat.le_refl _) (by omega) (Nat.le_refl _))).tr (KEE.st OA OM)))
    rw [hty]; exact twR_ty hs ht
end SW
