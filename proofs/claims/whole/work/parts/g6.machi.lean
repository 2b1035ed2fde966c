/-! THE CLASS'S MACHINE: what a word does (7): calls, returns, goto, switches -/
section M6
variable {gA : Wd} {N a fr tp h dp el a1 fr1 tp1 h1 dp1 el1 al sp pr de fu : Nat} {w u v : Wd}

/-- words of the stack copied into the store -/
def cpyW : Nat → Nat → Nat → Wd → Wd
  | _, _, 0, w => w
  | x, q, n + 1, w => cpyW (x + 1) (q + 1) n (sl w 50 x (gl w 51 q))
theorem cpyW_off {Q : Nat → Nat → Prop} : ∀ (n x q : Nat) (w : Wd), (∀ j, x ≤ j → j < x + n → Q 50 j) → OFF Q (cpyW x q n w) w := by
  intro n
  induction n with
  | zero => exact fun _ _ _ _ => OFF.rf
  | succ n ih => exact fun x q w h => OFF.tr (ih (x + 1) (q + 1) _ (fun j h1 h2 => h j (by omega) (by omega))) (OFF.sl (h x (Nat.le_refl _) (by omega)))
theorem cpyW_v : ∀ (n x q : Nat) (w : Wd) (j : Nat), j < n → gl (cpyW x q n w) 50 (x + j) = gl w 51 (q + j) := by
  intro n
  induction n with
  | zero => intro x q w j h; omega
  | succ n ih =>
    intro x q w j h
    by_cases e : j = 0
    · subst e
      exact ((cpyW_off (Q := fun k i => k = 50 ∧ x + 1 ≤ i) n (x + 1) (q + 1) _ (fun i g _ => ⟨rfl, g⟩)) 50 x (by omega)).2.trans (gl_sl0 _ _ _ _)
    · have := ih (x + 1) (q + 1) (sl w 50 x (gl w 51 q)) (j - 1) (by omega)
      rw [show x + 1 + (j - 1) = x + j by omega, show q + 1 + (j - 1) = q + j by omega, gl_sl1 (by omega)] at this
      exact this
/-- the first words of a frame -/
def frmW (f lk dp el h tp : Nat) (w : Wd) : Wd := sl (sl (sl (sl (sl (sl w 50 f (Int64.ofNat lk)) 50 (f + 1) (Int64.ofNat dp)) 50 (f + 2) (Int64.ofNat el)) 50 (f + 3) (Int64.ofNat h)) 50 (f + 4) (Int64.ofNat tp)) 50 (f + 5) 0
theorem frmW_off {f lk dp el h tp : Nat} : OFF (fun k j => k = 50 ∧ f ≤ j ∧ j < f + 6) (frmW f lk dp el h tp w) w := OFF.tr (OFF.sl (by omega)) (OFF.tr (OFF.sl (by omega)) (OFF.tr (OFF.sl (by omega)) (OFF.tr (OFF.sl (by omega)) (OFF.tr (OFF.sl (by omega)) (OFF.sl (by omega))))))
theorem frmW_v {f lk dp el h tp : Nat} : gl (frmW f lk dp el h tp w) 50 f = Int64.ofNat lk ∧ gl (frmW f lk dp el h tp w) 50 (f + 1) = Int64.ofNat dp ∧ gl (frmW f lk dp el h tp w) 50 (f + 2) = Int64.ofNat el ∧ gl (frmW f lk dp el h tp w) 50 (f + 3) = Int64.ofNat h ∧ gl (frmW f lk dp el h tp w) 50 (f + 4) = Int64.ofNat tp ∧ gl (frmW f lk dp el h tp w) 50 (f + 5) = 0 := by
  unfold frmW
  refine ⟨?_, ?_, ?_, ?_, ?_, gl_sl0 _ _ _ _⟩
  · rw [gl_sl1 (by omega), gl_sl1 (by omega), gl_sl1 (by omega), gl_sl1 (by omega), gl_sl1 (by omega), gl_sl0]
  · rw [gl_sl1 (by omega), gl_sl1 (by omega), gl_sl1 (by omega), gl_sl1 (by omega), gl_sl0]
  · rw [gl_sl1 (by omega), gl_sl1 (by omega), gl_sl1 (by omega), gl_sl0]
  · rw [gl_sl1 (by omega), gl_sl1 (by omega), gl_sl0]
  · rw [gl_sl1 (by omega), gl_sl0]
theorem ent_lp {hd lk nf : Nat} (hb : lk ≤ 109186) (hh9 : hd < 40000) : ∀ (n i fo : Nat) (w : Wd), CK gA N a fr tp h dp el w → i + n = nf → fr + 6 + nf ≤ tp → h + nf ≤ 30622 →
    oX3_enterFrame_81 (fo + n + 1) (Int32.ofNat hd) (Int32.ofNat lk) (Int32.ofNat nf) (Int32.ofNat i) w = some (si (frmW fr lk dp el h tp (cpyW (fr + 6 + i) (h + i) n w)) 48 11 (Int32.ofNat (hd + 2))) := by
  intro n
  induction n with
  | zero =>
    intro i fo w H h1 h2 h3
    have ht := H.2.2.2.2.2.2.2.2.2.1
    show fX3_enterFrame_81 _ _ _ _ _ _ = _
    unfold fX3_enterFrame_81
    have z : ∀ x, Int32.ofNat fr + Int32.ofNat x = Int32.ofNat (fr + x) := fun x => add_iN fr x
    have hdp := H.2.2.2.2.2.2.2.2.2.2.2.1
    have hel := H.2.2.2.2.2.2.2.2.2.2.2.2
    have s1 := H.st50 (x := fr) (v := Int64.ofNat lk)
    have s2 := s1.st50 (x := fr + 1) (v := Int64.ofNat dp)
    have s3 := s2.st50 (x := fr + 2) (v := Int64.ofNat el)
    have s4 := s3.st50 (x := fr + 3) (v := Int64.ofNat h)
    have s5 := s4.st50 (x := fr + 4) (v := Int64.ofNat tp)
    rw [if_pos ((le_iN (by omega) (by omega)).mpr (by omega)), H.2.2.2.1, show Int32.ofNat fr + 0 = Int32.ofNat fr from z 0, i64_iN (by omega), i64_iN (by omega), H.write (by omega), ltq,
      s1.2.2.2.1, s1.2.2.2.2.2.2.1, show Int32.ofNat fr + 1 = Int32.ofNat (fr + 1) from z 1, i64_iN (by omega), i64_iN (by omega), s1.write (by omega), ltq,
      s2.2.2.2.1, s2.2.2.2.2.2.2.2.1, show Int32.ofNat fr + 2 = Int32.ofNat (fr + 2) from z 2, i64_iN (by omega), i64_iN (by omega), s2.write (by omega), ltq,
      s3.2.2.2.1, s3.2.2.2.2.2.1, show Int32.ofNat fr + 3 = Int32.ofNat (fr + 3) from z 3, i64_iN (by omega), i64_iN (by omega), s3.write (by omega), ltq,
      s4.2.2.2.1, s4.2.2.2.2.1, show Int32.ofNat fr + 4 = Int32.ofNat (fr + 4) from z 4, i64_iN (by omega), i64_iN (by omega), s4.write (by omega), ltq,
      s5.2.2.2.1, show Int32.ofNat fr + 5 = Int32.ofNat (fr + 5) from z 5, i64_iN (by omega), s5.write (by omega), ltq, ltq, show Int32.ofNat hd + 2 = Int32.ofNat (hd + 2) from add_iN hd 2]
    rfl
  | succ n ih =>
    intro i fo w H h1 h2 h3
    have ht := H.2.2.2.2.2.2.2.2.2.1
    show fX3_enterFrame_81 (oX3_enterFrame_81 (fo + n + 1)) _ _ _ _ _ = _
    unfold fX3_enterFrame_81
    rw [if_neg (nle_iN (by omega) (by omega)), H.2.2.2.2.2.1, add_iN, rgl_iN (by omega) (by omega), ltq, H.2.2.2.1, show Int32.ofNat fr + 6 = Int32.ofNat (fr + 6) from add_iN fr 6, add_iN, i64_iN (by omega), H.write (by omega), ltq, ad1_iN, ltq, ih (i + 1) fo _ H.st50 (by omega) h2 h3]
    rfl
theorem CK.codeAt (H : CK gA N a fr tp h dp el w) {j x : Nat} (hj : j < N) (hx : gl gA 41 j = Int64.ofNat x) : fX3_codeAt (Int32.ofNat j) w = (Int32.ofNat x, w) := by
  unfold fX3_codeAt
  rw [H.word hj, lt2q, hx, tl_iN]
/-- CALL -/
theorem k_call {hd lk nf Z : Nat} (H : CK gA N a fr tp (h + nf + 2) dp el w) (ha : a < N) (hw : gl gA 41 a = wdC 42 0 0) (v1 : gl w 51 (h + nf) = Int64.ofNat hd) (v2 : gl w 51 (h + nf + 1) = Int64.ofNat lk) (hd1 : hd + 1 < N) (c1 : gl gA 41 hd = Int64.ofNat nf) (c2 : gl gA 41 (hd + 1) = Int64.ofNat Z) (hZ : tp + Z ≤ 109186) (hZ6 : 6 + nf ≤ Z) (hlk : lk ≤ 109186) :
    ∃ u, fX3_tick w = some u ∧ CK gA N (hd + 2) tp (tp + Z) h dp el u ∧ OFF (fun k j => (k = 48 ∧ 11 ≤ j ∧ j ≤ 14) ∨ ((k = 53 ∨ k = 54) ∧ j = dp) ∨ (k = 50 ∧ tp ≤ j ∧ j < tp + Z)) u w ∧ gi u 53 dp = Int32.ofNat (a + 1) ∧ gi u 54 dp = Int32.ofNat fr ∧
      (gl u 50 tp = Int64.ofNat lk ∧ gl u 50 (tp + 1) = Int64.ofNat dp ∧ gl u 50 (tp + 2) = Int64.ofNat el ∧ gl u 50 (tp + 3) = Int64.ofNat h ∧ gl u 50 (tp + 4) = Int64.ofNat (tp + Z) ∧ gl u 50 (tp + 5) = 0) ∧ ∀ j, j < nf → gl u 50 (tp + 6 + j) = gl w 51 (h + j) := by
  have hb := H.2.2.2.2.2.2.2.2.2.2.1
  have hN := H.1.2.1
  have hdp := H.2.2.2.2.2.2.2.2.2.2.2.1
  rw [tk_flow (x := 42) (c := 0) H ha hw (by omega) (by omega)]
  unfold fX3_flow fX3_call
  rw [if_neg (show ¬ (Int32.ofNat 42 = 40) by decide), if_neg (show ¬ (Int32.ofNat 42 = 41) by decide), if_pos (show Int32.ofNat 42 = 42 from rfl), pop_ok (h := h + nf + 1) (by rw [gi_si1 (by omega)]; exact H.2.2.2.2.2.1) (by omega), gl_si, lt2q, ltq, pop_ok (h := h + nf) (gi_si0 _ _ _ _) (by omega), gl_si, gl_si, lt2q, ltq, v1, v2, tl_iN, tl_iN]
  have O1 : OFF (fun k j => k = 48 ∧ (j = 11 ∨ j = 14)) (si (si (si w 48 11 (Int32.ofNat (a + 1))) 48 14 (Int32.ofNat (h + nf + 1))) 48 14 (Int32.ofNat (h + nf))) w := OFF.tr (OFF.si (by omega)) (OFF.tr (OFF.si (by omega)) (OFF.si (by omega)))
  have H1 : CK gA N (a + 1) fr tp (h + nf) dp el (si (si (si w 48 11 (Int32.ofNat (a + 1))) 48 14 (Int32.ofNat (h + nf + 1))) 48 14 (Int32.ofNat (h + nf))) := H.ps (h0 := 0) (O1.mono fun k j p => Or.inl p) (by rw [gi_si1 (by omega), gi_si1 (by omega), gi_si0]) (gi_si0 _ _ _ _) (by omega)
  dsimp only
  generalize si (si (si w 48 11 (Int32.ofNat (a + 1))) 48 14 (Int32.ofNat (h + nf + 1))) 48 14 (Int32.ofNat (h + nf)) = y at O1 H1 ⊢
  rw [gthere (dp := dp) H1.2.2.2.2.2.2.1 (by omega), H1.2.2.1, H1.2.2.2.1, ltq]
  have O2 : OFF (fun k j => (k = 48 ∧ (j = 11 ∨ j = 12)) ∨ ((k = 53 ∨ k = 54) ∧ j = dp)) (si (si (si (si y 53 dp (Int32.ofNat (a + 1))) 54 dp (Int32.ofNat fr)) 48 11 (Int32.ofNat hd)) 48 12 (Int32.ofNat fr)) y := OFF.tr (OFF.si (by omega)) (OFF.tr (OFF.si (by omega)) (OFF.tr (OFF.si (by omega)) (OFF.si (by omega))))
  have H2 : CK gA N hd fr tp (h + nf) dp el (si (si (si (si y 53 dp (Int32.ofNat (a + 1))) 54 dp (Int32.ofNat fr)) 48 11 (Int32.ofNat hd)) 48 12 (Int32.ofNat fr)) := H1.nw (O2.mono fun k j p => by omega) (by rw [gi_si1 (by omega), gi_si0]) (gi_si0 _ _ _ _) ((O2 48 13 (by omega)).1.trans H1.2.2.2.2.1) ((O2 48 14 (by omega)).1.trans H1.2.2.2.2.2.1) ((O2 48 15 (by omega)).1.trans H1.2.2.2.2.2.2.1) ((O2 48 16 (by omega)).1.trans H1.2.2.2.2.2.2.2.1) H1.2.2.2.2.2.2.2.2
  have e53 : gi (si (si (si (si y 53 dp (Int32.ofNat (a + 1))) 54 dp (Int32.ofNat fr)) 48 11 (Int32.ofNat hd)) 48 12 (Int32.ofNat fr)) 53 dp = Int32.ofNat (a + 1) := by rw [gi_si1 (by omega), gi_si1 (by omega), gi_si1 (by omega), gi_si0]
  have e54 : gi (si (si (si (si y 53 dp (Int32.ofNat (a + 1))) 54 dp (Int32.ofNat fr)) 48 11 (Int32.ofNat hd)) 48 12 (Int32.ofNat fr)) 54 dp = Int32.ofNat fr := by rw [gi_si1 (by omega), gi_si1 (by omega), gi_si0]
  generalize si (si (si (si y 53 dp (Int32.ofNat (a + 1))) 54 dp (Int32.ofNat fr)) 48 11 (Int32.ofNat hd)) 48 12 (Int32.ofNat fr) = z at O2 H2 e53 e54 ⊢
  unfold fX3_enterFrame
  rw [H2.codeAt (by omega) c1, lt2q, ad1_iN]
  dsimp only
  rw [H2.codeAt hd1 c2, lt2q]
  dsimp only
  rw [if_neg (nn_iN (by omega)), H2.2.2.2.2.2.1, if_neg (nlt_iN (by omega) (by omega)), if_neg (nn_iN (by omega)), H2.2.2.2.2.1, show (109186 : Int32) - Int32.ofNat tp = Int32.ofNat (109186 - tp) from sub_iN (a := 109186) (by omega) (by omega), if_pos ((le_iN (by omega) (by omega)).mpr (by omega)), ltq, gi_si1 (by omega), H2.2.2.2.2.1, add_iN, ltq, gi_si1 (by omega), gi_si1 (by omega), H2.2.2.2.2.2.1, sub_iN (by omega) (by omega), Nat.add_sub_cancel, ltq]
  have O3 : OFF (fun k j => k = 48 ∧ 12 ≤ j ∧ j ≤ 14) (si (si (si z 48 12 (Int32.ofNat tp)) 48 13 (Int32.ofNat (tp + Z))) 48 14 (Int32.ofNat h)) z := OFF.tr (OFF.si (by omega)) (OFF.tr (OFF.si (by omega)) (OFF.si (by omega)))
  have H3 : CK gA N hd tp (tp + Z) h dp el (si (si (si z 48 12 (Int32.ofNat tp)) 48 13 (Int32.ofNat (tp + Z))) 48 14 (Int32.ofNat h)) := H2.nw (O3.mono fun k j p => by omega) ((O3 48 11 (by omega)).1.trans H2.2.2.1) (by rw [gi_si1 (by omega), gi_si1 (by omega), gi_si0]) (by rw [gi_si1 (by omega), gi_si0]) (gi_si0 _ _ _ _) ((O3 48 15 (by omega)).1.trans H2.2.2.2.2.2.2.1) ((O3 48 16 (by omega)).1.trans H2.2.2.2.2.2.2.2.1) ⟨by omega, hZ, by omega, by omega, H2.2.2.2.2.2.2.2.2.2.2.2.2⟩
  generalize si (si (si z 48 12 (Int32.ofNat tp)) 48 13 (Int32.ofNat (tp + Z))) 48 14 (Int32.ofNat h) = q at O3 H3 ⊢
  obtain ⟨fo, hf⟩ := FU_ge (k := nf + 1) (by omega)
  rw [hf, ← Nat.add_assoc]
  have hL := ent_lp (hd := hd) (lk := lk) (nf := nf) hlk (by omega) nf 0 fo q H3 (by omega) (by omega) (by omega)
  rw [show (0 : Int32) = Int32.ofNat 0 from rfl, hL, bn_so, bn_so, Nat.add_zero, Nat.add_zero]
  have O4 : OFF (fun k j => k = 50 ∧ tp + 6 ≤ j ∧ j < tp + 6 + nf) (cpyW (tp + 6) h nf q) q := cpyW_off nf _ _ _ (fun j g1 g2 => ⟨rfl, g1, g2⟩)
  have V4 := cpyW_v nf (tp + 6) h q
  generalize cpyW (tp + 6) h nf q = r at O4 V4 ⊢
  have O5 := frmW_off (w := r) (f := tp) (lk := lk) (dp := dp) (el := el) (h := h) (tp := tp + Z)
  obtain ⟨V0, V1, V2, V3, V5, V6⟩ := frmW_v (w := r) (f := tp) (lk := lk) (dp := dp) (el := el) (h := h) (tp := tp + Z)
  generalize frmW tp lk dp el h (tp + Z) r = s at O5 V0 V1 V2 V3 V5 V6 ⊢
  have OA : OFF (fun k j => (k = 48 ∧ 11 ≤ j ∧ j ≤ 14) ∨ ((k = 53 ∨ k = 54) ∧ j = dp) ∨ (k = 50 ∧ tp ≤ j ∧ j < tp + Z)) (si s 48 11 (Int32.ofNat (hd + 2))) w := OFF.tr (OFF.si (by omega)) (OFF.tr (O5.mono fun k j p => by omega) (OFF.tr (O4.mono fun k j p => by omega) (OFF.tr (O3.mono fun k j p => by omega) (OFF.tr (O2.mono fun k j p => by omega) (O1.mono fun k j p => by omega)))))
  have OB : OFF (fun k j => k = 50 ∧ tp ≤ j ∧ j < tp + Z) s q := OFF.tr (O5.mono fun k j p => by omega) (O4.mono fun k j p => by omega)
  have eq48 : ∀ j, gi s 48 j = gi q 48 j := fun j => (OB 48 j (by omega)).1
  refine ⟨_, rfl, H3.nw (u := si s 48 11 (Int32.ofNat (hd + 2))) (OFF.tr (OFF.si (by omega)) (OB.mono fun k j p => by omega)) (gi_si0 _ _ _ _) ?_ ?_ ?_ ?_ ?_ H3.2.2.2.2.2.2.2.2, OA, ?_, ?_, ⟨V0, V1, V2, V3, V5, V6⟩, fun j hj => ?_⟩
  · rw [gi_si1 (by omega), eq48]; exact H3.2.2.2.1
  · rw [gi_si1 (by omega), eq48]; exact H3.2.2.2.2.1
  · rw [gi_si1 (by omega), eq48]; exact H3.2.2.2.2.2.1
  · rw [gi_si1 (by omega), eq48]; exact H3.2.2.2.2.2.2.1
  · rw [gi_si1 (by omega), eq48]; exact H3.2.2.2.2.2.2.2.1
  · rw [gi_si1 (by omega), (OB 53 _ (by omega)).1, (O3 53 _ (by omega)).1]; exact e53
  · rw [gi_si1 (by omega), (OB 54 _ (by omega)).1, (O3 54 _ (by omega)).1]; exact e54
  · rw [gl_si, (O5 50 _ (by omega)).2, V4 j hj, (O3 51 _ (by omega)).2, (O2 51 _ (by omega)).2, (O1 51 _ (by omega)).2]
/-- RETURN -/
theorem k_ret (H : CK gA N a fr tp h (dp + 1) el w) (ha : a < N) (hw : gl gA 41 a = wdC 43 0 0) (hf : fr + 5 < tp) (hh : h < 30622) : fX3_tick w = some (pshQ (si (si (si (si (si w 48 11 (Int32.ofNat (a + 1))) 48 13 (Int32.ofNat fr)) 48 11 (gi w 53 (dp + 1))) 48 12 (gi w 54 (dp + 1))) 48 15 (Int32.ofNat dp)) h (gl w 50 (fr + 5))) := by
  have hd := H.2.2.2.2.2.2.2.2.2.2.2.1
  have ht := H.2.2.2.2.2.2.2.2.2.1
  rw [tk_flow (x := 43) (c := 0) H ha hw (by omega) (by omega)]
  unfold fX3_flow
  rw [if_neg (show ¬ (Int32.ofNat 43 = 40) by decide), if_neg (show ¬ (Int32.ofNat 43 = 41) by decide), if_neg (show ¬ (Int32.ofNat 43 = 42) by decide), if_pos (show Int32.ofNat 43 = 43 from rfl), gi_si1 (by omega), H.2.2.2.1, show Int32.ofNat fr + 5 = Int32.ofNat (fr + 5) from add_iN fr 5, i64_iN (by omega), (H.nx (a + 1)).read hf, lt2q, ltq, gi_si1 (by omega), H.2.2.2.1, gback (dp := dp) (by rw [gi_si1 (by omega), gi_si1 (by omega)]; exact H.2.2.2.2.2.2.1) (by omega), ltq, gi_si1 (by omega), gi_si1 (by omega), gi_si1 (by omega), gi_si1 (by omega), push_ok (h := h) (by rw [gi_si1 (by omega), gi_si1 (by omega), gi_si1 (by omega), gi_si1 (by omega), gi_si1 (by omega)]; exact H.2.2.2.2.2.1) hh, ltq, gl_si]
  rfl
/-- GOTO -/
theorem k_goto {x f d' h' t' : Nat} (H : CK gA N a fr tp (h + 2) dp el w) (ha : a < N) (hw : gl gA 41 a = wdC 50 0 0) (v1 : gl w 51 h = Int64.ofNat x) (v2 : gl w 51 (h + 1) = Int64.ofNat f) (hf : f + 4 < tp) (d1 : gl w 50 (f + 1) = Int64.ofNat d') (d3 : gl w 50 (f + 3) = Int64.ofNat h') (d4 : gl w 50 (f + 4) = Int64.ofNat t') (hb' : d' ≤ 60 ∧ h' ≤ 30622 ∧ t' ≤ 109186) :
    ∃ u, fX3_tick w = some u ∧ CK gA N x f t' h' d' el u ∧ OFF (fun k j => k = 48 ∧ 11 ≤ j ∧ j ≤ 15) u w := by
  have hb := H.2.2.2.2.2.2.2.2.2.2.1
  have ht := H.2.2.2.2.2.2.2.2.2.1
  rw [tk_flow (x := 50) (c := 0) H ha hw (by omega) (by omega)]
  unfold fX3_flow fX3_goTo
  rw [if_neg (show ¬ (Int32.ofNat 50 = 40) by decide), if_neg (show ¬ (Int32.ofNat 50 = 41) by decide), if_neg (show ¬ (Int32.ofNat 50 = 42) by decide), if_neg (show ¬ (Int32.ofNat 50 = 43) by decide), if_neg (show ¬ (Int32.ofNat 50 = 44) by decide), if_neg (show ¬ (Int32.ofNat 50 = 45) by decide), if_neg (show ¬ (Int32.ofNat 50 = 46) by decide), if_neg (show ¬ (Int32.ofNat 50 = 47) by decide), if_neg (show ¬ (Int32.ofNat 50 = 48) by decide), if_neg (show ¬ (Int32.ofNat 50 = 49) by decide), if_pos (show Int32.ofNat 50 = 50 from rfl), pop_ok (h := h + 1) (by rw [gi_si1 (by omega)]; exact H.2.2.2.2.2.1) (by omega), gl_si, lt2q, v2, tl_iN, ltq, ltq]
  dsimp only
  rw [pop_ok (h := h) (by rw [gi_si1 (by omega), gi_si0]) (by omega), gl_si, gl_si, gl_si, lt2q, v1, tl_iN, ltq]
  dsimp only
  have O1 : OFF (fun k j => k = 48 ∧ 11 ≤ j ∧ j ≤ 15) (si (si (si (si (si w 48 11 (Int32.ofNat (a + 1))) 48 14 (Int32.ofNat (h + 1))) 48 12 (Int32.ofNat f)) 48 14 (Int32.ofNat h)) 48 11 (Int32.ofNat x)) w := OFF.tr (OFF.si (by omega)) (OFF.tr (OFF.si (by omega)) (OFF.tr (OFF.si (by omega)) (OFF.tr (OFF.si (by omega)) (OFF.si (by omega)))))
  have H1 : CK gA N x f tp h dp el (si (si (si (si (si w 48 11 (Int32.ofNat (a + 1))) 48 14 (Int32.ofNat (h + 1))) 48 12 (Int32.ofNat f)) 48 14 (Int32.ofNat h)) 48 11 (Int32.ofNat x)) := H.nw (O1.mono fun k j p => by omega) (gi_si0 _ _ _ _) (by rw [gi_si1 (by omega), gi_si1 (by omega), gi_si0]) (by rw [gi_si1 (by omega), gi_si1 (by omega), gi_si1 (by omega), gi_si1 (by omega), gi_si1 (by omega)]; exact H.2.2.2.2.1) (by rw [gi_si1 (by omega), gi_si0]) (by rw [gi_si1 (by omega), gi_si1 (by omega), gi_si1 (by omega), gi_si1 (by omega), gi_si1 (by omega)]; exact H.2.2.2.2.2.2.1) (by rw [gi_si1 (by omega), gi_si1 (by omega), gi_si1 (by omega), gi_si1 (by omega), gi_si1 (by omega)]; exact H.2.2.2.2.2.2.2.1) ⟨by omega, ht, by omega, H.2.2.2.2.2.2.2.2.2.2.2⟩
  generalize si (si (si (si (si w 48 11 (Int32.ofNat (a + 1))) 48 14 (Int32.ofNat (h + 1))) 48 12 (Int32.ofNat f)) 48 14 (Int32.ofNat h)) 48 11 (Int32.ofNat x) = y at O1 H1 ⊢
  have r : ∀ q, gl y 50 q = gl w 50 q := fun q => (O1 50 q (by omega)).2
  rw [H1.2.2.2.1, show Int32.ofNat f + 1 = Int32.ofNat (f + 1) from add_iN f 1, i64_iN (by omega), H1.read (by omega), lt2q, r, d1, tl_iN, ltq]
  dsimp only
  have O2 : OFF (fun k j => k = 48 ∧ j = 15) (si y 48 15 (Int32.ofNat d')) y := OFF.si ⟨rfl, rfl⟩
  have H2 : CK gA N x f tp h d' el (si y 48 15 (Int32.ofNat d')) := H1.nw (O2.mono fun k j p => by omega) (by rw [gi_si1 (by omega)]; exact H1.2.2.1) (by rw [gi_si1 (by omega)]; exact H1.2.2.2.1) (by rw [gi_si1 (by omega)]; exact H1.2.2.2.2.1) (by rw [gi_si1 (by omega)]; exact H1.2.2.2.2.2.1) (gi_si0 _ _ _ _) (by rw [gi_si1 (by omega)]; exact H1.2.2.2.2.2.2.2.1) ⟨H1.2.2.2.2.2.2.2.2.1, ht, H1.2.2.2.2.2.2.2.2.2.2.1, hb'.1, H1.2.2.2.2.2.2.2.2.2.2.2.2⟩
  rw [H2.2.2.2.1, show Int32.ofNat f + 3 = Int32.ofNat (f + 3) from add_iN f 3, i64_iN (by omega), H2.read (by omega), lt2q, gl_si, r, d3, tl_iN, ltq]
  dsimp only
  have H3 : CK gA N x f tp h' d' el (si (si y 48 15 (Int32.ofNat d')) 48 14 (Int32.ofNat h')) := H2.ps (h0 := 0) (OFF.si (Or.inl ⟨rfl, Or.inr rfl⟩)) (by rw [gi_si1 (by omega)]; exact H2.2.2.1) (gi_si0 _ _ _ _) hb'.2.1
  rw [H3.2.2.2.1, show Int32.ofNat f + 4 = Int32.ofNat (f + 4) from add_iN f 4, i64_iN (by omega), H3.read (by omega), lt2q, gl_si, gl_si, r, d4, tl_iN, ltq]
  dsimp only
  have O3 : OFF (fun k j => k = 48 ∧ j = 13) (si (si (si y 48 15 (Int32.ofNat d')) 48 14 (Int32.ofNat h')) 48 13 (Int32.ofNat t')) (si (si y 48 15 (Int32.ofNat d')) 48 14 (Int32.ofNat h')) := OFF.si ⟨rfl, rfl⟩
  refine ⟨_, rfl, H3.nw (O3.mono fun k j p => by omega) (by rw [gi_si1 (by omega)]; exact H3.2.2.1) (by rw [gi_si1 (by omega)]; exact H3.2.2.2.1) (gi_si0 _ _ _ _) (by rw [gi_si1 (by omega)]; exact H3.2.2.2.2.2.1) (by rw [gi_si1 (by omega)]; exact H3.2.2.2.2.2.2.1) (by rw [gi_si1 (by omega)]; exact H3.2.2.2.2.2.2.2.1) ⟨H3.2.2.2.2.2.2.2.2.1, hb'.2.2, H3.2.2.2.2.2.2.2.2.2.2⟩, OFF.tr (OFF.si (by omega)) (OFF.tr (OFF.si (by omega)) (OFF.tr (OFF.si (by omega)) O1))⟩
end M6
