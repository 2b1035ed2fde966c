/-! THE CLASS'S MACHINE: what a word does (3): uses, returns, goto -/
section M2
variable {gA : Wd} {N a fr tp h dp el a1 fr1 tp1 h1 dp1 el1 al sp pr de fu : Nat} {w u v : Wd}
/-- what a use changes -/
def PUS (dp k j : Nat) : Prop := (k = 48 ∧ (j = 11 ∨ j = 12 ∨ j = 14 ∨ j = 15)) ∨ (k = 56 ∧ (j = 4 ∨ j = 5)) ∨ ((k = 52 ∨ k = 53 ∨ k = 54) ∧ j = dp + 1)
/-- where the RUN ends -/
def PEN (k j : Nat) : Prop := (k = 48 ∧ 10 ≤ j ∧ j ≤ 16) ∨ k = 51 ∨ (k = 56 ∧ (j = 4 ∨ j = 5)) ∨ (52 ≤ k ∧ k ≤ 54) ∨ k = 50
theorem TLY.en (T : TLY al sp pr de fu w) {x : Int32} : TLY al sp pr de fu (si w 48 10 x) := T.off (OFF.si (P := fun k j => k = 48 ∧ j = 10) ⟨rfl, rfl⟩) (fun k j p => by omega)
theorem us1 (H : CK gA N a fr tp (h + 2) dp el w) (T : TLY al sp pr de fu w) {m : Int32} {a' fr' : Nat} (v1 : gl w 51 h = Int64.ofNat a') (v2 : gl w 51 (h + 1) = Int64.ofNat fr') (hs : sp < al) (hd : dp < 60) (hf : fr' ≤ 109186) :
    ∃ u, fX3_use m w = u ∧ CK gA N a' fr' tp h (dp + 1) el u ∧ TLY al (sp + 1) pr (max de (dp + 1)) fu u ∧ gi u 52 (dp + 1) = m ∧ gi u 53 (dp + 1) = Int32.ofNat a ∧ gi u 54 (dp + 1) = Int32.ofNat fr ∧ OFF (PUS dp) u w := by
  have hb := H.2.2.2.2.2.2.2.2.2.2.1
  have h14 := H.2.2.2.2.2.1
  refine ⟨_, rfl, ?_⟩
  unfold fX3_use
  rw [pop_ok (h := h + 1) h14 (by omega), lt2q, ltq, pop_ok (h := h) (gi_si0 _ _ _ _) (by omega), gl_si, lt2q, ltq, v1, v2, tl_iN, tl_iN]
  have O1 : OFF (fun k j => k = 48 ∧ j = 14) (si (si w 48 14 (Int32.ofNat (h + 1))) 48 14 (Int32.ofNat h)) w := OFF.tr (OFF.si ⟨rfl, rfl⟩) (OFF.si ⟨rfl, rfl⟩)
  have e14 : gi (si (si w 48 14 (Int32.ofNat (h + 1))) 48 14 (Int32.ofNat h)) 48 14 = Int32.ofNat h := gi_si0 _ _ _ _
  generalize si (si w 48 14 (Int32.ofNat (h + 1))) 48 14 (Int32.ofNat h) = y at O1 e14 ⊢
  have T1 : TLY al sp pr de fu y := T.off O1 (fun k j p => by omega)
  have e : ∀ j, j ≠ 14 → gi y 48 j = gi w 48 j := fun j p => (O1 48 j (by omega)).1
  have T2 := T1.deep (dp := dp) hs hd (x := Int32.ofNat (dp + 1))
  rw [deep1 T1 hs ((e 15 (by omega)).trans H.2.2.2.2.2.2.1) hd, lt2q, if_pos rfl, gi_si1 (by omega), gi_si0, rsi_iN (by omega) (by omega), ltq, ltq]
  have O2 : OFF (fun k j => (k = 48 ∧ j = 15) ∨ (k = 56 ∧ (j = 4 ∨ j = 5)) ∨ (k = 52 ∧ j = dp + 1)) (si (si (si (si y 56 4 (Int32.ofNat (sp + 1))) 48 15 (Int32.ofNat (dp + 1))) 56 5 (Int32.ofNat (max de (dp + 1)))) 52 (dp + 1) m) y := OFF.tr (OFF.si (by omega)) (OFF.tr (OFF.si (by omega)) (OFF.tr (OFF.si (by omega)) (OFF.si (by omega))))
  have T3 : TLY al (sp + 1) pr (max de (dp + 1)) fu (si (si (si (si y 56 4 (Int32.ofNat (sp + 1))) 48 15 (Int32.ofNat (dp + 1))) 56 5 (Int32.ofNat (max de (dp + 1)))) 52 (dp + 1) m) := T2.off (OFF.si (P := fun k j => k = 52 ∧ j = dp + 1) ⟨rfl, rfl⟩) (fun k j p => by omega)
  have e15 : gi (si (si (si (si y 56 4 (Int32.ofNat (sp + 1))) 48 15 (Int32.ofNat (dp + 1))) 56 5 (Int32.ofNat (max de (dp + 1)))) 52 (dp + 1) m) 48 15 = Int32.ofNat (dp + 1) := by rw [gi_si1 (by omega), gi_si1 (by omega), gi_si0]
  have e52 : gi (si (si (si (si y 56 4 (Int32.ofNat (sp + 1))) 48 15 (Int32.ofNat (dp + 1))) 56 5 (Int32.ofNat (max de (dp + 1)))) 52 (dp + 1) m) 52 (dp + 1) = m := gi_si0 _ _ _ _
  generalize si (si (si (si y 56 4 (Int32.ofNat (sp + 1))) 48 15 (Int32.ofNat (dp + 1))) 56 5 (Int32.ofNat (max de (dp + 1)))) 52 (dp + 1) m = z at O2 T3 e15 e52 ⊢
  rw [gthere (dp := dp + 1) e15 (by omega)]
  have f : ∀ j, j ≠ 14 → j ≠ 15 → gi z 48 j = gi w 48 j := fun j p q => ((O2 48 j (by omega)).1).trans (e j p)
  have O3 : OFF (fun k j => (k = 48 ∧ (j = 11 ∨ j = 12)) ∨ ((k = 53 ∨ k = 54) ∧ j = dp + 1)) (si (si (si (si z 53 (dp + 1) (gi z 48 11)) 54 (dp + 1) (gi z 48 12)) 48 11 (Int32.ofNat a')) 48 12 (Int32.ofNat fr')) z := OFF.tr (OFF.si (by omega)) (OFF.tr (OFF.si (by omega)) (OFF.tr (OFF.si (by omega)) (OFF.si (by omega))))
  have OA : OFF (PUS dp) (si (si (si (si z 53 (dp + 1) (gi z 48 11)) 54 (dp + 1) (gi z 48 12)) 48 11 (Int32.ofNat a')) 48 12 (Int32.ofNat fr')) w := OFF.tr (O3.mono fun k j p => by unfold PUS; omega) (OFF.tr (O2.mono fun k j p => by unfold PUS; omega) (O1.mono fun k j p => by unfold PUS; omega))
  refine ⟨H.nw (OA.mono fun k j p => by unfold PUS at p; omega) (by rw [gi_si1 (by omega), gi_si0]) (gi_si0 _ _ _ _) ?_ ?_ ?_ ?_ ⟨hf, H.2.2.2.2.2.2.2.2.2.1, by omega, by omega, H.2.2.2.2.2.2.2.2.2.2.2.2⟩, T3.off O3 (fun k j p => by omega), ?_, ?_, ?_, OA⟩
  · exact (O3 48 13 (by omega)).1.trans ((f 13 (by omega) (by omega)).trans H.2.2.2.2.1)
  · exact (O3 48 14 (by omega)).1.trans ((O2 48 14 (by omega)).1.trans e14)
  · exact (O3 48 15 (by omega)).1.trans e15
  · exact (O3 48 16 (by omega)).1.trans ((f 16 (by omega) (by omega)).trans H.2.2.2.2.2.2.2.1)
  · exact (O3 52 _ (by omega)).1.trans e52
  · rw [gi_si1 (by omega), gi_si1 (by omega), gi_si1 (by omega), gi_si0, f 11 (by omega) (by omega)]; exact H.2.2.1
  · rw [gi_si1 (by omega), gi_si1 (by omega), gi_si0, f 12 (by omega) (by omega)]; exact H.2.2.2.1
theorem us6 (H : CK gA N a fr tp (h + 2) 60 el w) (T : TLY al sp pr de fu w) {m : Int32} (hs : sp < al) :
    ∃ u, fX3_use m w = u ∧ ENDA 6 u ∧ TLY al (sp + 1) pr de fu u ∧ OFF PEN u w := by
  have hb := H.2.2.2.2.2.2.2.2.2.2.1
  have h14 := H.2.2.2.2.2.1
  refine ⟨_, rfl, ?_⟩
  unfold fX3_use
  rw [pop_ok (h := h + 1) h14 (by omega), lt2q, ltq, pop_ok (h := h) (gi_si0 _ _ _ _) (by omega), gl_si, lt2q, ltq]
  have O1 : OFF (fun k j => k = 48 ∧ j = 14) (si (si w 48 14 (Int32.ofNat (h + 1))) 48 14 (Int32.ofNat h)) w := OFF.tr (OFF.si ⟨rfl, rfl⟩) (OFF.si ⟨rfl, rfl⟩)
  generalize si (si w 48 14 (Int32.ofNat (h + 1))) 48 14 (Int32.ofNat h) = y at O1 ⊢
  have T1 : TLY al sp pr de fu y := T.off O1 (fun k j p => by omega)
  rw [deep6 T1 hs ((O1 48 15 (by omega)).1.trans H.2.2.2.2.2.2.1), lt2q, if_neg (show ¬ (false = true) by decide)]
  exact ⟨⟨gi_si0 _ _ _ _, by decide⟩, (T1.pay hs).en, OFF.tr (OFF.si (by unfold PEN; omega)) (OFF.tr (OFF.si (by unfold PEN; omega)) (O1.mono fun k j p => by unfold PEN; omega))⟩
theorem us0 (H : CK gA N a fr tp (h + 2) dp el w) (T : TLY al sp pr de fu w) {m : Int32} (hs : sp = al) :
    ∃ u, fX3_use m w = u ∧ ENDA (-1) u ∧ TLY al sp pr de fu u ∧ OFF PEN u w := by
  have hb := H.2.2.2.2.2.2.2.2.2.2.1
  have h14 := H.2.2.2.2.2.1
  refine ⟨_, rfl, ?_⟩
  unfold fX3_use
  rw [pop_ok (h := h + 1) h14 (by omega), lt2q, ltq, pop_ok (h := h) (gi_si0 _ _ _ _) (by omega), gl_si, lt2q, ltq]
  have O1 : OFF (fun k j => k = 48 ∧ j = 14) (si (si w 48 14 (Int32.ofNat (h + 1))) 48 14 (Int32.ofNat h)) w := OFF.tr (OFF.si ⟨rfl, rfl⟩) (OFF.si ⟨rfl, rfl⟩)
  generalize si (si w 48 14 (Int32.ofNat (h + 1))) 48 14 (Int32.ofNat h) = y at O1 ⊢
  have T1 : TLY al sp pr de fu y := T.off O1 (fun k j p => by omega)
  rw [deep0 T1 hs, lt2q, if_neg (show ¬ (false = true) by decide)]
  exact ⟨⟨gi_si0 _ _ _ _, by decide⟩, T1.en, OFF.tr (OFF.si (by unfold PEN; omega)) (O1.mono fun k j p => by unfold PEN; omega)⟩
theorem k_use {m : Nat} (H : CK gA N a fr tp h dp el w) (ha : a < N) (hw : gl gA 41 a = wdC 44 0 (Int32.ofNat m)) (hm : m ≤ 2) : fX3_tick w = some (fX3_use (Int32.ofNat m) (si w 48 11 (Int32.ofNat (a + 1)))) := by
  rw [tk_flow (x := 44) (c := m) H ha hw (by omega) (by omega)]
  unfold fX3_flow
  rw [if_neg (show ¬ (Int32.ofNat 44 = 40) by decide), if_neg (show ¬ (Int32.ofNat 44 = 41) by decide), if_neg (show ¬ (Int32.ofNat 44 = 42) by decide), if_neg (show ¬ (Int32.ofNat 44 = 43) by decide), if_pos (show Int32.ofNat 44 = 44 from rfl), ltq]
theorem k_same (H : CK gA N a fr tp h dp el w) (ha : a < N) (hw : gl gA 41 a = wdC 45 0 0) : fX3_tick w = some (fX3_use (gi w 52 dp) (si w 48 11 (Int32.ofNat (a + 1)))) := by
  have hd := H.2.2.2.2.2.2.2.2.2.2.2.1
  rw [tk_flow (x := 45) (c := 0) H ha hw (by omega) (by omega)]
  unfold fX3_flow
  rw [if_neg (show ¬ (Int32.ofNat 45 = 40) by decide), if_neg (show ¬ (Int32.ofNat 45 = 41) by decide), if_neg (show ¬ (Int32.ofNat 45 = 42) by decide), if_neg (show ¬ (Int32.ofNat 45 = 43) by decide), if_neg (show ¬ (Int32.ofNat 45 = 44) by decide), if_pos (show Int32.ofNat 45 = 45 from rfl), gi_si1 (by omega), H.2.2.2.2.2.2.1, rgi_iN (by omega) (by omega), gi_si1 (by omega), ltq, ltq]
/-- END_PLACE -/
theorem k_eplace (H : CK gA N a fr tp (h + 1) (dp + 1) el w) (ha : a < N) (hw : gl gA 41 a = wdC 47 0 0) {x : Nat} (hv : gi w 52 (dp + 1) = 0 → gl w 51 h = Int64.ofNat x ∧ x < tp) : ∃ y, (gi w 52 (dp + 1) = 0 ∧ y = si (sl (si (si w 48 11 (Int32.ofNat (a + 1))) 48 14 (Int32.ofNat h)) 51 h (gl w 50 x)) 48 14 (Int32.ofNat (h + 1)) ∨ gi w 52 (dp + 1) ≠ 0 ∧ y = si w 48 11 (Int32.ofNat (a + 1))) ∧ fX3_tick w = some (si (si (si y 48 11 (gi w 53 (dp + 1))) 48 12 (gi w 54 (dp + 1))) 48 15 (Int32.ofNat dp)) := by
  have hd := H.2.2.2.2.2.2.2.2.2.2.2.1
  have hb := H.2.2.2.2.2.2.2.2.2.2.1
  have h15 := H.2.2.2.2.2.2.1
  rw [tk_flow (x := 47) (c := 0) H ha hw (by omega) (by omega)]
  unfold fX3_flow
  rw [if_neg (show ¬ (Int32.ofNat 47 = 40) by decide), if_neg (show ¬ (Int32.ofNat 47 = 41) by decide), if_neg (show ¬ (Int32.ofNat 47 = 42) by decide), if_neg (show ¬ (Int32.ofNat 47 = 43) by decide), if_neg (show ¬ (Int32.ofNat 47 = 44) by decide), if_neg (show ¬ (Int32.ofNat 47 = 45) by decide), if_neg (show ¬ (Int32.ofNat 47 = 46) by decide), if_pos (show Int32.ofNat 47 = 47 from rfl), gi_si1 (by omega), h15, rgi_iN (by omega) (by omega), gi_si1 (by omega), ltq]
  by_cases q : gi w 52 (dp + 1) = 0
  · obtain ⟨v1, v2⟩ := hv q
    have H2 := (H.nx (a + 1)).ps (h0 := 0) (u := si (si w 48 11 (Int32.ofNat (a + 1))) 48 14 (Int32.ofNat h)) (a1 := a + 1) (h1 := h) (OFF.si (Or.inl ⟨rfl, Or.inr rfl⟩)) (by rw [gi_si1 (by omega), gi_si0]) (gi_si0 _ _ _ _) (by omega)
    refine ⟨_, Or.inl ⟨q, rfl⟩, ?_⟩
    rw [if_pos q, pop_ok (h := h) (by rw [gi_si1 (by omega)]; exact H.2.2.2.2.2.1) (by omega), gl_si, lt2q, v1, H2.read v2, lt2q, push_ok (h := h) (gi_si0 _ _ _ _) (by omega), gl_si, gl_si, ltq, gback (dp := dp) (by rw [gi_si1 (by omega), gi_sl, gi_si1 (by omega), gi_si1 (by omega)]; exact h15) (by omega), ltq]
    rw [gi_si1 (by omega), gi_sl, gi_si1 (by omega), gi_si1 (by omega), gi_si1 (by omega), gi_sl, gi_si1 (by omega), gi_si1 (by omega)]
  · refine ⟨_, Or.inr ⟨q, rfl⟩, ?_⟩
    rw [if_neg q, gback (dp := dp) (by rw [gi_si1 (by omega)]; exact h15) (by omega), ltq, gi_si1 (by omega), gi_si1 (by omega)]
/-- NO_PLACE -/
theorem k_nplace (H : CK gA N a fr tp h dp el w) (ha : a < N) (hw : gl gA 41 a = wdC 48 0 0) : fX3_tick w = some (if gi w 52 dp = 1 then si (si w 48 11 (Int32.ofNat (a + 1))) 48 10 4 else si w 48 11 (Int32.ofNat (a + 1))) := by
  have hd := H.2.2.2.2.2.2.2.2.2.2.2.1
  rw [tk_flow (x := 48) (c := 0) H ha hw (by omega) (by omega)]
  unfold fX3_flow
  rw [if_neg (show ¬ (Int32.ofNat 48 = 40) by decide), if_neg (show ¬ (Int32.ofNat 48 = 41) by decide), if_neg (show ¬ (Int32.ofNat 48 = 42) by decide), if_neg (show ¬ (Int32.ofNat 48 = 43) by decide), if_neg (show ¬ (Int32.ofNat 48 = 44) by decide), if_neg (show ¬ (Int32.ofNat 48 = 45) by decide), if_neg (show ¬ (Int32.ofNat 48 = 46) by decide), if_neg (show ¬ (Int32.ofNat 48 = 47) by decide), if_pos (show Int32.ofNat 48 = 48 from rfl), gi_si1 (by omega), H.2.2.2.2.2.2.1, rgi_iN (by omega) (by omega), gi_si1 (by omega), ltq]
  by_cases q : gi w 52 dp = 1
  · rw [if_pos q, if_pos q]
    rfl
  · rw [if_neg q, if_neg q]
end M2
