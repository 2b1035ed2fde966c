/-! THE CLASS'S MACHINE: what a word does (2) -/
section M1
variable {gA : Wd} {N a fr tp h dp el a1 fr1 tp1 h1 dp1 el1 al sp pr de fu : Nat} {w u v : Wd}
/-- of a world that differs at next only -/
def PNX (k j : Nat) : Prop := k = 48 ∧ j = 11
theorem CK.nx (H : CK gA N a fr tp h dp el w) (a1 : Nat) : CK gA N a1 fr tp h dp el (si w 48 11 (Int32.ofNat a1)) :=
  H.ps (h0 := 0) (OFF.si (Or.inl ⟨rfl, Or.inl rfl⟩)) (gi_si0 _ _ _ _) (by rw [gi_si1 (by omega)]; exact H.2.2.2.2.2.1) H.2.2.2.2.2.2.2.2.2.2.1
theorem TLY.nx (T : TLY al sp pr de fu w) {x : Int32} : TLY al sp pr de fu (si w 48 11 x) := T.off (OFF.si (P := fun k j => k = 48 ∧ j = 11) ⟨rfl, rfl⟩) (fun k j p => by omega)
theorem pay1 (T : TLY al sp pr de fu w) (hs : sp < al) : fX3_pay w = (true, si w 56 4 (Int32.ofNat (sp + 1))) := by
  obtain ⟨t1, t2, t3, t4, t5, t6, t7, t8, t9⟩ := T
  have h4 : fX3_tally 4 w = Int32.ofNat sp := (tal_ok (j := 4) (by omega) (by omega)).trans t2
  unfold fX3_pay fX3_countOne
  rw [h4, ltq, t1, if_pos ((lt_iN (by omega) (by omega)).mpr hs), ltq, ltq, ltq, ad1_iN, show (4 : Int32) = Int32.ofNat 4 from rfl, rsi_iN (by omega) (by omega)]
theorem pay0 (T : TLY al sp pr de fu w) (hs : sp = al) : fX3_pay w = (false, si w 48 10 (-1)) := by
  obtain ⟨t1, t2, t3, t4, t5, t6, t7, t8, t9⟩ := T
  have h4 : fX3_tally 4 w = Int32.ofNat sp := (tal_ok (j := 4) (by omega) (by omega)).trans t2
  unfold fX3_pay
  rw [h4, ltq, t1, if_neg (nlt_iN (by omega) (by omega)), ltq]
theorem TLY.pay (T : TLY al sp pr de fu w) (hs : sp < al) : TLY al (sp + 1) pr de fu (si w 56 4 (Int32.ofNat (sp + 1))) := by
  obtain ⟨t1, t2, t3, t4, t5, t6, t7, t8, t9, t10⟩ := T
  exact ⟨by rw [gi_si1 (by omega)]; exact t1, gi_si0 _ _ _ _, by rw [gi_si1 (by omega)]; exact t3, by rw [gi_si1 (by omega)]; exact t4, by rw [gi_si1 (by omega)]; exact t5, by rw [gi_si1 (by omega)]; exact t6, by omega, t8, by omega, t10⟩
theorem mx_iN {x y : Nat} (hx : x < 2147483648) (hy : y < 2147483648) : fJ9_max_7cf53 (Int32.ofNat x) (Int32.ofNat y) = Int32.ofNat (max x y) := by
  unfold fJ9_max_7cf53
  by_cases q : x < y
  · rw [if_pos ((lt_iN hx hy).mpr q), Nat.max_eq_right (by omega)]
  · rw [if_neg (nlt_iN (by omega) hx), Nat.max_eq_left (by omega)]
theorem deep1 (T : TLY al sp pr de fu w) (hs : sp < al) (h15 : gi w 48 15 = Int32.ofNat dp) (hd : dp < 60) : fX3_deeper w = (true, si (si (si w 56 4 (Int32.ofNat (sp + 1))) 48 15 (Int32.ofNat (dp + 1))) 56 5 (Int32.ofNat (max de (dp + 1)))) := by
  have T1 := T.pay hs
  obtain ⟨t1, t2, t3, t4, t5, t6, t7, t8, t9, t10⟩ := T1
  unfold fX3_deeper
  rw [pay1 T hs, lt2q, if_pos rfl, gi_si1 (by omega), h15, if_pos (show Int32.ofNat dp < 60 from (lt_iN (a := dp) (b := 60) (by omega) (by omega)).mpr hd), ad1_iN, ltq]
  unfold fX3_countMost
  have h5 : fX3_tally 5 (si (si w 56 4 (Int32.ofNat (sp + 1))) 48 15 (Int32.ofNat (dp + 1))) = Int32.ofNat de := (tal_ok (j := 5) (by omega) (by omega)).trans (by rw [gi_si1 (by omega)]; exact t4)
  rw [h5, ltq, ltq, gi_si0, mx_iN (by omega) (by omega), ltq, ltq, show (5 : Int32) = Int32.ofNat 5 from rfl, rsi_iN (by omega) (by omega)]
theorem deep6 (T : TLY al sp pr de fu w) (hs : sp < al) (h15 : gi w 48 15 = Int32.ofNat 60) : fX3_deeper w = (false, si (si w 56 4 (Int32.ofNat (sp + 1))) 48 10 6) := by
  unfold fX3_deeper
  rw [pay1 T hs, lt2q, if_pos rfl, gi_si1 (by omega), h15, if_neg (show ¬ (Int32.ofNat 60 < 60) by decide), ltq]
  rfl
theorem deep0 (T : TLY al sp pr de fu w) (hs : sp = al) : fX3_deeper w = (false, si w 48 10 (-1)) := by
  unfold fX3_deeper
  rw [pay0 T hs, lt2q, if_neg (show ¬ (false = true) by decide)]
theorem TLY.deep (T : TLY al sp pr de fu w) (hs : sp < al) (hd : dp < 60) {x : Int32} : TLY al (sp + 1) pr (max de (dp + 1)) fu (si (si (si w 56 4 (Int32.ofNat (sp + 1))) 48 15 x) 56 5 (Int32.ofNat (max de (dp + 1)))) := by
  obtain ⟨t1, t2, t3, t4, t5, t6, t7, t8, t9, t10, t11⟩ := T.pay hs
  refine ⟨by rw [gi_si1 (by omega), gi_si1 (by omega)]; exact t1, by rw [gi_si1 (by omega), gi_si1 (by omega)]; exact t2, by rw [gi_si1 (by omega), gi_si1 (by omega)]; exact t3, gi_si0 _ _ _ _, by rw [gi_si1 (by omega), gi_si1 (by omega)]; exact t5, by rw [gi_si1 (by omega), gi_si1 (by omega)]; exact t6, t7, t8, t9, by omega, t11⟩
/-- how it ends: by a fault f of the RUN (1 .. 6), by want of STEPS (-1) or well (0) -/
def ENDA (f : Int32) (w : Wd) : Prop := gi w 48 10 = f ∧ f ≠ -2
/-- STEP -/
theorem k_step (H : CK gA N a fr tp h dp el w) (T : TLY al sp pr de fu w) (ha : a < N) (hw : gl gA 41 a = wdC 40 0 0) (hs : sp < al) : fX3_tick w = some (si (si w 48 11 (Int32.ofNat (a + 1))) 56 4 (Int32.ofNat (sp + 1))) := by
  rw [tk_flow (x := 40) (c := 0) H ha hw (by omega) (by omega)]
  unfold fX3_flow
  rw [if_pos (show Int32.ofNat 40 = 40 from rfl), pay1 T.nx hs, lt2q]
theorem k_step0 (H : CK gA N a fr tp h dp el w) (T : TLY al sp pr de fu w) (ha : a < N) (hw : gl gA 41 a = wdC 40 0 0) (hs : sp = al) : fX3_tick w = some (si (si w 48 11 (Int32.ofNat (a + 1))) 48 10 (-1)) := by
  rw [tk_flow (x := 40) (c := 0) H ha hw (by omega) (by omega)]
  unfold fX3_flow
  rw [if_pos (show Int32.ofNat 40 = 40 from rfl), pay0 T.nx hs, lt2q]
/-- MARK -/
theorem k_mark (H : CK gA N a fr tp h dp el w) (ha : a < N) (hw : gl gA 41 a = wdC 41 0 0) : fX3_tick w = some (fX3_deeper (si w 48 11 (Int32.ofNat (a + 1)))).2 := by
  rw [tk_flow (x := 41) (c := 0) H ha hw (by omega) (by omega)]
  unfold fX3_flow
  rw [if_neg (show ¬ (Int32.ofNat 41 = 40) by decide), if_pos (show Int32.ofNat 41 = 41 from rfl), lt2q]
theorem k_halt (H : CK gA N a fr tp h dp el w) (ha : a < N) (hw : gl gA 41 a = wdC 51 0 0) : fX3_tick w = some (si (si w 48 11 (Int32.ofNat (a + 1))) 48 10 0) := by
  rw [tk_flow (x := 51) (c := 0) H ha hw (by omega) (by omega)]
  unfold fX3_flow
  rw [if_neg (show ¬ (Int32.ofNat 51 = 40) by decide), if_neg (show ¬ (Int32.ofNat 51 = 41) by decide), if_neg (show ¬ (Int32.ofNat 51 = 42) by decide), if_neg (show ¬ (Int32.ofNat 51 = 43) by decide), if_neg (show ¬ (Int32.ofNat 51 = 44) by decide), if_neg (show ¬ (Int32.ofNat 51 = 45) by decide), if_neg (show ¬ (Int32.ofNat 51 = 46) by decide), if_neg (show ¬ (Int32.ofNat 51 = 47) by decide), if_neg (show ¬ (Int32.ofNat 51 = 48) by decide), if_neg (show ¬ (Int32.ofNat 51 = 49) by decide), if_neg (show ¬ (Int32.ofNat 51 = 50) by decide), if_pos (show Int32.ofNat 51 = 51 from rfl), ltq]
/-- going there, back -/
theorem gthere {x : Nat} (h15 : gi w 48 15 = Int32.ofNat dp) (hd : dp ≤ 60) {t : Int32} : fX3_goThere (Int32.ofNat x) t w = si (si (si (si w 53 dp (gi w 48 11)) 54 dp (gi w 48 12)) 48 11 (Int32.ofNat x)) 48 12 t := by
  unfold fX3_goThere
  rw [h15, rsi_iN (by omega) (by omega), ltq, gi_si1 (by omega), h15, rsi_iN (by omega) (by omega), gi_si1 (by omega), ltq, ltq, ltq]
theorem gback (h15 : gi w 48 15 = Int32.ofNat (dp + 1)) (hd : dp < 60) : fX3_goBack w = si (si (si w 48 11 (gi w 53 (dp + 1))) 48 12 (gi w 54 (dp + 1))) 48 15 (Int32.ofNat dp) := by
  unfold fX3_goBack
  rw [h15, rgi_iN (by omega) (by omega), ltq, ltq, gi_si1 (by omega), h15, rgi_iN (by omega) (by omega), gi_si1 (by omega), ltq, ltq, gi_si1 (by omega), gi_si1 (by omega), h15, sb1_iN (by omega) (by omega), Nat.add_sub_cancel, ltq]
/-- END_USE -/
theorem k_euse (H : CK gA N a fr tp h (dp + 1) el w) (ha : a < N) (hw : gl gA 41 a = wdC 46 0 0) : fX3_tick w = some (si (si (si (si w 48 11 (Int32.ofNat (a + 1))) 48 11 (gi w 53 (dp + 1))) 48 12 (gi w 54 (dp + 1))) 48 15 (Int32.ofNat dp)) := by
  have hd := H.2.2.2.2.2.2.2.2.2.2.2.1
  rw [tk_flow (x := 46) (c := 0) H ha hw (by omega) (by omega)]
  unfold fX3_flow
  rw [if_neg (show ¬ (Int32.ofNat 46 = 40) by decide), if_neg (show ¬ (Int32.ofNat 46 = 41) by decide), if_neg (show ¬ (Int32.ofNat 46 = 42) by decide), if_neg (show ¬ (Int32.ofNat 46 = 43) by decide), if_neg (show ¬ (Int32.ofNat 46 = 44) by decide), if_neg (show ¬ (Int32.ofNat 46 = 45) by decide), if_pos (show Int32.ofNat 46 = 46 from rfl), gback (dp := dp) (by rw [gi_si1 (by omega)]; exact H.2.2.2.2.2.2.1) (by omega), ltq, gi_si1 (by omega), gi_si1 (by omega)]
end M1
