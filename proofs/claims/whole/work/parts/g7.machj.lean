/-! THE CLASS'S MACHINE: what a word does (8): switches -/
section M7
variable {gA : Wd} {N a fr tp h dp el a1 fr1 tp1 h1 dp1 el1 al sp pr de fu : Nat} {w u v : Wd}
/-- entries of a switch: n further on -/
def SWC (gA : Wd) (N : Nat) : Nat → Nat → Nat → Prop
  | 0, e, g => g = e
  | n + 1, e, g => e < N ∧ ∃ e1, e1 < 100000 ∧ gl gA 41 e = Int64.ofNat e1 ∧ SWC gA N n e1 g
theorem cho_lp {th dq : Nat} (hq : dq ≤ 60) : ∀ (n i e g fo : Nat), SWC gA N n e g → CK gA N a fr tp h dq el w → i + n ≤ 100000 → e < 100000 → oX3_choose_54 (fo + n + 1) (Int32.ofNat th) (Int32.ofNat e) (Int64.ofNat (i + n)) (Int32.ofNat i) w = some (si (si (si (si (si w 52 dq 2) 53 dq (Int32.ofNat a)) 54 dq (Int32.ofNat fr)) 48 11 (Int32.ofNat (g + 1))) 48 12 (Int32.ofNat th)) := by
  intro n
  induction n with
  | zero =>
    intro i e g fo h H hi he
    have h : g = e := h
    subst h
    show fX3_choose_54 _ _ _ (Int64.ofNat (i + 0)) _ _ = _
    unfold fX3_choose_54
    rw [i64_iN (by omega), if_pos ((le64 (by omega) (by omega)).mpr (by omega)), H.2.2.2.2.2.2.1, rsi_iN (by omega) (by omega), ltq, ad1_iN, gthere (dp := dq) (by rw [gi_si1 (by omega)]; exact H.2.2.2.2.2.2.1) hq, gi_si1 (by omega), gi_si1 (by omega), H.2.2.1, H.2.2.2.1, ltq]
  | succ n ih =>
    intro i e g fo h H hi he
    obtain ⟨h1, e1, h9, h2, h3⟩ := h
    show fX3_choose_54 (oX3_choose_54 (fo + n + 1)) _ _ _ _ _ = _
    unfold fX3_choose_54
    rw [i64_iN (by omega), if_neg (fun hh => absurd ((le64 (by omega) (by omega)).mp hh) (by omega)), H.codeAt h1 h2, lt2q, ad1_iN, ltq, show i + (n + 1) = i + 1 + n by omega]
    exact ih (i + 1) e1 g fo h3 H (by omega) h9

/-- SWITCH: the index lies below the address and the frame -/
theorem k_swi (H : CK gA N a fr tp (h + 3) dp el w) (T : TLY al sp pr de fu w) (ha : a < N) (hw : gl gA 41 a = wdC 49 0 0) {ad th n : Nat} (v1 : gl w 51 (h + 1) = Int64.ofNat ad) (v2 : gl w 51 (h + 2) = Int64.ofNat th) (had : ad < N) (hn : gl gA 41 ad = Int64.ofNat n) (hn9 : n ≤ 90000) (hth : th ≤ 109186) :
    (sp = al → ∃ u, fX3_tick w = some u ∧ ENDA (-1) u ∧ TLY al sp pr de fu u ∧ OFF PEN u w) ∧
    (sp < al → dp = 60 → ∃ u, fX3_tick w = some u ∧ ENDA 6 u ∧ TLY al (sp + 1) pr de fu u ∧ OFF PEN u w) ∧
    (sp < al → dp < 60 → (gl w 51 h < 1 ∨ Int64.ofNat n < gl w 51 h) → ∃ u, fX3_tick w = some u ∧ ENDA 1 u ∧ TLY al (sp + 1) pr (max de (dp + 1)) fu u ∧ OFF PEN u w) ∧
    (∀ i g, sp < al → dp < 60 → gl w 51 h = Int64.ofNat (i + 1) → i + 1 ≤ n → SWC gA N i (ad + 1) g → ∃ u, fX3_tick w = some u ∧ CK gA N (g + 1) th tp h (dp + 1) el u ∧ TLY al (sp + 1) pr (max de (dp + 1)) fu u ∧ gi u 52 (dp + 1) = 2 ∧ gi u 53 (dp + 1) = Int32.ofNat (a + 1) ∧ gi u 54 (dp + 1) = Int32.ofNat fr ∧ OFF (PUS dp) u w) := by
  have hb := H.2.2.2.2.2.2.2.2.2.2.1
  have hN := H.1.2.1
  have hdp := H.2.2.2.2.2.2.2.2.2.2.2.1
  have hE : ∃ y, CK gA N (a + 1) fr tp h dp el y ∧ OFF (fun k j => k = 48 ∧ (j = 11 ∨ j = 14)) y w ∧ fX3_tick w = (lt2 (fX3_deeper y) fun x9 w10 => if x9 = true then (if gl w 51 h < 1 then (lt (fX3_error 1 w10) fun w13 => some w13) else (lt2 (fX3_codeAt (Int32.ofNat ad) w10) fun x14 w15 => if gl w 51 h ≤ (Int32.toInt64 x14) then (lt (Int32.ofNat ad + 1) fun x17 => oX3_choose_54 FU (Int32.ofNat th) x17 (gl w 51 h) 1 w15) else (lt (fX3_error 1 w15) fun w18 => some w18))) else (some w10)) := by
    refine ⟨si (si (si (si w 48 11 (Int32.ofNat (a + 1))) 48 14 (Int32.ofNat (h + 2))) 48 14 (Int32.ofNat (h + 1))) 48 14 (Int32.ofNat h), ?_, OFF.tr (OFF.si (by omega)) (OFF.tr (OFF.si (by omega)) (OFF.tr (OFF.si (by omega)) (OFF.si (by omega)))), ?_⟩
    · exact H.ps (h0 := 0) (OFF.tr (OFF.si (by unfold PSK; omega)) (OFF.tr (OFF.si (by unfold PSK; omega)) (OFF.tr (OFF.si (by unfold PSK; omega)) (OFF.si (by unfold PSK; omega))))) (by rw [gi_si1 (by omega), gi_si1 (by omega), gi_si1 (by omega), gi_si0]) (gi_si0 _ _ _ _) (by omega)
    · rw [tk_flow (x := 49) (c := 0) H ha hw (by omega) (by omega)]
      unfold fX3_flow fX3_choose
      rw [if_neg (show ¬ (Int32.ofNat 49 = 40) by decide), if_neg (show ¬ (Int32.ofNat 49 = 41) by decide), if_neg (show ¬ (Int32.ofNat 49 = 42) by decide), if_neg (show ¬ (Int32.ofNat 49 = 43) by decide), if_neg (show ¬ (Int32.ofNat 49 = 44) by decide), if_neg (show ¬ (Int32.ofNat 49 = 45) by decide), if_neg (show ¬ (Int32.ofNat 49 = 46) by decide), if_neg (show ¬ (Int32.ofNat 49 = 47) by decide), if_neg (show ¬ (Int32.ofNat 49 = 48) by decide), if_pos (show Int32.ofNat 49 = 49 from rfl), pop_ok (h := h + 2) (by rw [gi_si1 (by omega)]; exact H.2.2.2.2.2.1) (by omega), gl_si, lt2q, v2, tl_iN, ltq]
      dsimp only
      rw [pop_ok (h := h + 1) (gi_si0 _ _ _ _) (by omega), gl_si, gl_si, lt2q, v1, tl_iN, ltq]
      dsimp only
      rw [pop_ok (h := h) (gi_si0 _ _ _ _) (by omega), gl_si, gl_si, gl_si, lt2q]
      dsimp only
      generalize (lt2 (fX3_deeper _) fun x9 w10 => _) = z
      cases z <;> rfl
  obtain ⟨y, H1, O1, hE⟩ := hE
  have T1 : TLY al sp pr de fu y := T.off O1 (fun k j p => by omega)
  rw [hE]
  refine ⟨fun hs => ?_, fun hs h6 => ?_, fun hs h6 hx => ?_, fun i g hs h6 hi hin hg => ?_⟩
  · rw [deep0 T1 hs, lt2q, if_neg (show ¬ (false = true) by decide)]
    exact ⟨_, rfl, ⟨gi_si0 _ _ _ _, by decide⟩, T1.en, OFF.tr (OFF.si (by unfold PEN; omega)) (O1.mono fun k j p => by unfold PEN; omega)⟩
  · subst h6
    rw [deep6 T1 hs H1.2.2.2.2.2.2.1, lt2q, if_neg (show ¬ (false = true) by decide)]
    exact ⟨_, rfl, ⟨gi_si0 _ _ _ _, by decide⟩, (T1.pay hs).en, OFF.tr (OFF.si (by unfold PEN; omega)) (OFF.tr (OFF.si (by unfold PEN; omega)) (O1.mono fun k j p => by unfold PEN; omega))⟩
  · have T2 := T1.deep (dp := dp) hs h6 (x := Int32.ofNat (dp + 1))
    rw [deep1 T1 hs H1.2.2.2.2.2.2.1 h6, lt2q, if_pos rfl]
    have O2 : OFF PEN (si (si (si y 56 4 (Int32.ofNat (sp + 1))) 48 15 (Int32.ofNat (dp + 1))) 56 5 (Int32.ofNat (max de (dp + 1)))) w := OFF.tr (OFF.si (by unfold PEN; omega)) (OFF.tr (OFF.si (by unfold PEN; omega)) (OFF.tr (OFF.si (by unfold PEN; omega)) (O1.mono fun k j p => by unfold PEN; omega)))
    have H2 : CK gA N (a + 1) fr tp h (dp + 1) el (si (si (si y 56 4 (Int32.ofNat (sp + 1))) 48 15 (Int32.ofNat (dp + 1))) 56 5 (Int32.ofNat (max de (dp + 1)))) := H1.nw (OFF.tr (OFF.si (by omega)) (OFF.tr (OFF.si (by omega)) (OFF.si (by omega)))) (by rw [gi_si1 (by omega), gi_si1 (by omega), gi_si1 (by omega)]; exact H1.2.2.1) (by rw [gi_si1 (by omega), gi_si1 (by omega), gi_si1 (by omega)]; exact H1.2.2.2.1) (by rw [gi_si1 (by omega), gi_si1 (by omega), gi_si1 (by omega)]; exact H1.2.2.2.2.1) (by rw [gi_si1 (by omega), gi_si1 (by omega), gi_si1 (by omega)]; exact H1.2.2.2.2.2.1) (by rw [gi_si1 (by omega), gi_si0]) (by rw [gi_si1 (by omega), gi_si1 (by omega), gi_si1 (by omega)]; exact H1.2.2.2.2.2.2.2.1) ⟨H1.2.2.2.2.2.2.2.2.1, H1.2.2.2.2.2.2.2.2.2.1, by omega, by omega, H1.2.2.2.2.2.2.2.2.2.2.2.2⟩
    dsimp only
    generalize si (si (si y 56 4 (Int32.ofNat (sp + 1))) 48 15 (Int32.ofNat (dp + 1))) 56 5 (Int32.ofNat (max de (dp + 1))) = z at O2 T2 H2 ⊢
    have hz : ∃ u, some (fX3_error 1 z) = some u ∧ ENDA 1 u ∧ TLY al (sp + 1) pr (max de (dp + 1)) fu u ∧ OFF PEN u w := ⟨_, rfl, ⟨gi_si0 _ _ _ _, by decide⟩, T2.en, OFF.tr (OFF.si (by unfold PEN; omega)) O2⟩
    by_cases q1 : gl w 51 h < 1
    · rw [if_pos q1, ltq]
      exact hz
    · rw [if_neg q1, H2.codeAt had hn, lt2q, i64_iN (by omega), if_neg (fun hh => by
        have g := hx.resolve_left q1
        rw [Int64.lt_iff_toInt_lt] at g
        rw [Int64.le_iff_toInt_le] at hh
        omega), ltq]
      exact hz
  · have T2 := T1.deep (dp := dp) hs h6 (x := Int32.ofNat (dp + 1))
    rw [deep1 T1 hs H1.2.2.2.2.2.2.1 h6, lt2q, if_pos rfl]
    have O2 : OFF (PUS dp) (si (si (si y 56 4 (Int32.ofNat (sp + 1))) 48 15 (Int32.ofNat (dp + 1))) 56 5 (Int32.ofNat (max de (dp + 1)))) w := OFF.tr (OFF.si (by unfold PUS; omega)) (OFF.tr (OFF.si (by unfold PUS; omega)) (OFF.tr (OFF.si (by unfold PUS; omega)) (O1.mono fun k j p => by unfold PUS; omega)))
    have H2 : CK gA N (a + 1) fr tp h (dp + 1) el (si (si (si y 56 4 (Int32.ofNat (sp + 1))) 48 15 (Int32.ofNat (dp + 1))) 56 5 (Int32.ofNat (max de (dp + 1)))) := H1.nw (OFF.tr (OFF.si (by omega)) (OFF.tr (OFF.si (by omega)) (OFF.si (by omega)))) (by rw [gi_si1 (by omega), gi_si1 (by omega), gi_si1 (by omega)]; exact H1.2.2.1) (by rw [gi_si1 (by omega), gi_si1 (by omega), gi_si1 (by omega)]; exact H1.2.2.2.1) (by rw [gi_si1 (by omega), gi_si1 (by omega), gi_si1 (by omega)]; exact H1.2.2.2.2.1) (by rw [gi_si1 (by omega), gi_si1 (by omega), gi_si1 (by omega)]; exact H1.2.2.2.2.2.1) (by rw [gi_si1 (by omega), gi_si0]) (by rw [gi_si1 (by omega), gi_si1 (by omega), gi_si1 (by omega)]; exact H1.2.2.2.2.2.2.2.1) ⟨H1.2.2.2.2.2.2.2.2.1, H1.2.2.2.2.2.2.2.2.2.1, by omega, by omega, H1.2.2.2.2.2.2.2.2.2.2.2.2⟩
    dsimp only
    generalize si (si (si y 56 4 (Int32.ofNat (sp + 1))) 48 15 (Int32.ofNat (dp + 1))) 56 5 (Int32.ofNat (max de (dp + 1))) = z at O2 T2 H2 ⊢
    rw [hi, if_neg (show ¬ (Int64.ofNat (i + 1) < 1) from fun hh => absurd ((lt64 (b := 1) (by omega) (by omega)).mp hh) (by omega)), H2.codeAt had hn, lt2q, i64_iN (by omega), if_pos ((le64 (by omega) (by omega)).mpr hin), ad1_iN, ltq]
    obtain ⟨fo, hf⟩ := FU_ge (k := i + 1) (by omega)
    have hL := cho_lp (th := th) (dq := dp + 1) (w := z) (by omega) i 1 (ad + 1) g fo hg H2 (by omega) (by omega)
    rw [hf, ← Nat.add_assoc, show i + 1 = 1 + i by omega, show (1 : Int32) = Int32.ofNat 1 from rfl, show fo + i + 1 = fo + i + 1 from rfl]
    dsimp only
    have O3 : OFF (fun k j => ((k = 52 ∨ k = 53 ∨ k = 54) ∧ j = dp + 1) ∨ (k = 48 ∧ (j = 11 ∨ j = 12))) (si (si (si (si (si z 52 (dp + 1) 2) 53 (dp + 1) (Int32.ofNat (a + 1))) 54 (dp + 1) (Int32.ofNat fr)) 48 11 (Int32.ofNat (g + 1))) 48 12 (Int32.ofNat th)) z := OFF.tr (OFF.si (by omega)) (OFF.tr (OFF.si (by omega)) (OFF.tr (OFF.si (by omega)) (OFF.tr (OFF.si (by omega)) (OFF.si (by omega)))))
    refine ⟨_, hL, H2.nw (O3.mono fun k j p => by omega) (by rw [gi_si1 (by omega), gi_si0]) (gi_si0 _ _ _ _) ((O3 48 13 (by omega)).1.trans H2.2.2.2.2.1) ((O3 48 14 (by omega)).1.trans H2.2.2.2.2.2.1) ((O3 48 15 (by omega)).1.trans H2.2.2.2.2.2.2.1) ((O3 48 16 (by omega)).1.trans H2.2.2.2.2.2.2.2.1) ⟨hth, H2.2.2.2.2.2.2.2.2.2⟩, T2.off O3 (fun k j p => by omega), ?_, ?_, ?_, OFF.tr (O3.mono fun k j p => by unfold PUS; omega) O2⟩
    · rw [gi_si1 (by omega), gi_si1 (by omega), gi_si1 (by omega), gi_si1 (by omega), gi_si0]
    · rw [gi_si1 (by omega), gi_si1 (by omega), gi_si1 (by omega), gi_si0]
    · rw [gi_si1 (by omega), gi_si1 (by omega), gi_si0]
end M7
