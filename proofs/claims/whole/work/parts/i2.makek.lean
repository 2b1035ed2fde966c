/-! AN ARRAY IS MADE: the class's word -/
section MKK
variable {lo hi : Nat → Int64} {gA : Wd} {N a fr tp h dp el x nb sz fu s al sp pr de : Nat} {w : Wd}
/-- sizes that fit, or don't -/
theorem sz_fit {B : Int} {c : Int64} {P : Int} (hB : B ≤ 1000000000) (h : SZI P c.toInt B) (hP : 0 ≤ P) (hel : el ≤ 2000) : ((el : Int) + P ≤ 2000 → c = Int64.ofNat P.toNat ∧ Int64.ofNat el + c ≤ 2000) ∧ (¬ (el : Int) + P ≤ 2000 → ¬ Int64.ofNat el + c ≤ 2000) := by
  obtain ⟨h1, h2, h3, h4, h5⟩ := h
  have e : (Int64.ofNat el + c).toInt = el + c.toInt := by
    rw [Int64.toInt_add, ti64 (by omega), Int.bmod_eq_of_le] <;> omega
  have e2 : (2000 : Int64).toInt = 2000 := by decide
  have hc : P ≤ 2000 → c.toInt = P := fun hp => by
    by_cases z : P = 0
    · rw [h3 z, z]
    · exact h4 (by omega) hp
  refine ⟨fun hp => ⟨?_, ?_⟩, fun hp => ?_⟩
  · apply Int64.toInt_inj.mp
    rw [ti64 (by omega), hc (by omega)]
    omega
  · rw [Int64.le_iff_toInt_le, e, e2, hc (by omega)]; exact hp
  · rw [Int64.le_iff_toInt_le, e, e2]
    by_cases z : P ≤ 2000
    · rw [hc z]; exact hp
    · have := h5 (by omega)
      omega
theorem mkc_lp (htp : 4096 + el + sz ≤ tp) (h9 : tp ≤ 109186) (he : el + sz ≤ 2000) : ∀ (m j fo : Nat) (w : Wd), j + m = sz → CK gA N a fr tp h dp el w → gi w 56 6 = Int32.ofNat fu → fu ≤ 2000 → oX3_make_178 (fo + m + 1) (Int64.ofNat sz) (Int32.ofNat j) w = some (si (si (clrW (4096 + el + j) m w) 48 16 (Int32.ofNat (el + sz))) 56 6 (Int32.ofNat (max fu (el + sz)))) := by
  intro m
  induction m with
  | zero =>
    intro j fo w hj H hf hf9
    have : j = sz := by omega
    subst this
    show fX3_make_178 _ _ _ _ = _
    unfold fX3_make_178 fX3_countMost
    rw [i64_iN (by omega), if_pos ((le64 (by omega) (by omega)).mpr (Nat.le_refl _)), H.2.2.2.2.2.2.2.1, tl_iN, add_iN, ltq, gi_si0, show (6 : Int32) = Int32.ofNat 6 from rfl, tal_ok (by omega) (by omega), ltq, gi_si1 (by omega), hf, ltq, mx_iN (by omega) (by omega), ltq, rsi_iN (by omega) (by omega), ltq]
    rfl
  | succ m ih =>
    intro j fo w hj H hf hf9
    show fX3_make_178 (oX3_make_178 (fo + (m + 1))) _ _ _ = _
    unfold fX3_make_178
    rw [i64_iN (by omega), if_neg (fun c => absurd ((le64 (by omega) (by omega)).mp c) (by omega)), H.2.2.2.2.2.2.2.1, show (4096 : Int32) = Int32.ofNat 4096 from rfl, add_iN, add_iN, i64_iN (by omega), H.write (by omega), ltq, ltq, ad1_iN, show fo + (m + 1) = fo + m + 1 by omega]
    exact ih (j + 1) fo _ (by omega) H.st50 (by rw [gi_sl]; exact hf) hf9
/-- what's told of it: its words -/
def mkeW (lo hi : Nat → Int64) (x nb el : Nat) (w : Wd) : Wd := bndW lo hi x 0 nb (sl (sl w 50 x (Int64.ofNat nb)) 50 (x + 1) (Int64.ofNat (4096 + el)))
theorem mkeW_off {Q : Nat → Nat → Prop} (hQ : ∀ j, x ≤ j → j < x + 2 + 2 * nb → Q 50 j) : OFF Q (mkeW lo hi x nb el w) w := OFF.tr (bndW_off nb 0 _ (fun j h1 h2 => hQ j (by omega) (by omega))) (OFF.tr (OFF.sl (hQ _ (by omega) (by omega))) (OFF.sl (hQ _ (by omega) (by omega))))
theorem mkeW_v : gl (mkeW lo hi x nb el w) 50 x = Int64.ofNat nb ∧ gl (mkeW lo hi x nb el w) 50 (x + 1) = Int64.ofNat (4096 + el) ∧ ∀ k, k < nb → gl (mkeW lo hi x nb el w) 50 (x + 2 + 2 * k) = lo k ∧ gl (mkeW lo hi x nb el w) 50 (x + 3 + 2 * k) = hi k := by
  have O := bndW_off (lo := lo) (hi := hi) (x := x) (Q := fun k i => k = 50 ∧ x + 2 ≤ i) nb 0 (sl (sl w 50 x (Int64.ofNat nb)) 50 (x + 1) (Int64.ofNat (4096 + el))) (fun i h3 h4 => ⟨rfl, by omega⟩)
  refine ⟨?_, ?_, fun k hk => bndW_v nb 0 _ k (Nat.zero_le _) (by omega)⟩
  · unfold mkeW
    rw [(O 50 x (by omega)).2, gl_sl1 (by omega), gl_sl0]
  · unfold mkeW
    rw [(O 50 (x + 1) (by omega)).2, gl_sl0]
theorem k_make (H : CK gA N a fr tp (h + 2 * nb) dp el w) (T : TLY al sp pr de fu w) (ha : a < N) (hw : gl gA 41 a = wdC 30 (Int32.ofNat nb) (Int32.ofNat s)) (hs : fr + s + 2 + 2 * nb ≤ tp) (hn : nb ≤ 3) (htp : 6096 ≤ tp) (hv : ∀ q, q < nb → gl w 51 (h + 2 * q) = lo q ∧ gl w 51 (h + 2 * q + 1) = hi q) (hR : ∀ k, k < nb → R36 (lo k) ∧ R36 (hi k)) :
    ((el : Int) + PRZ lo hi nb ≤ 2000 → fX3_tick w = some (si (si (clrW (4096 + el) (PRZ lo hi nb).toNat (mkeW lo hi (fr + s) nb el (si w 48 11 (Int32.ofNat (a + 1))))) 48 16 (Int32.ofNat (el + (PRZ lo hi nb).toNat))) 56 6 (Int32.ofNat (max fu (el + (PRZ lo hi nb).toNat))))) ∧
    (¬ (el : Int) + PRZ lo hi nb ≤ 2000 → fX3_tick w = some (si (mkeW lo hi (fr + s) nb el (si w 48 11 (Int32.ofNat (a + 1)))) 48 10 3)) := by
  have h9 := H.2.2.2.2.2.2.2.2.2.1
  have hh := H.2.2.2.2.2.2.2.2.2.2.1
  have hel := H.2.2.2.2.2.2.2.2.2.2.2.2
  have H1 := H.nx (a + 1)
  have H2 : CK gA N (a + 1) fr tp (h + 2 * nb) dp el (sl (si w 48 11 (Int32.ofNat (a + 1))) 50 (fr + s) (Int64.ofNat nb)) := H1.st50
  have H3 : CK gA N (a + 1) fr tp (h + 2 * nb) dp el (sl (sl (si w 48 11 (Int32.ofNat (a + 1))) 50 (fr + s) (Int64.ofNat nb)) 50 (fr + s + 1) (Int64.ofNat (4096 + el))) := H2.st50
  obtain ⟨fo, hf⟩ := FU_ge (k := nb + 1) (by omega)
  have L := mk_lp (lo := lo) (hi := hi) (x := fr + s) hs hn h9 hh nb 0 fo _ (by omega) H3 (fun q hq => by rw [gl_sl1 (by omega), gl_sl1 (by omega), gl_sl1 (by omega), gl_sl1 (by omega), gl_si, gl_si]; exact hv q hq)
  have E : fX3_tick w = bn (if Int64.ofNat el + szA lo hi nb ≤ 2000 then oX3_make_178 FU (szA lo hi nb) 0 (mkeW lo hi (fr + s) nb el (si w 48 11 (Int32.ofNat (a + 1)))) else some (si (mkeW lo hi (fr + s) nb el (si w 48 11 (Int32.ofNat (a + 1)))) 48 10 3)) fun w2 => some w2 := by
    rw [tk_jump (x := 30) (y := nb) (c := s) H ha hw (by omega) (by omega) (by omega)]
    unfold fX3_jump fX3_make
    rw [if_pos (show Int32.ofNat 30 = 30 from rfl), H1.2.2.2.1, add_iN, ltq, i64_iN (by omega), i64_iN (by omega), H1.write (by omega), ltq, ad1_iN, H2.2.2.2.2.2.2.2.1, show (4096 : Int32) = Int32.ofNat 4096 from rfl, add_iN, i64_iN (by omega), i64_iN (by omega), H2.write (by omega), ltq]
    have hf' : FU = fo + nb + 1 := by rw [hf, Nat.add_assoc]
    exact congrArg (fun z => bn z fun w2 => some w2) ((congrArg (fun z => oX3_make_38 z (Int32.ofNat nb) (Int32.ofNat (fr + s)) 1 0 (sl (sl (si w 48 11 (Int32.ofNat (a + 1))) 50 (fr + s) (Int64.ofNat nb)) 50 (fr + s + 1) (Int64.ofNat (4096 + el)))) hf').trans L)
  have S := sz_fit (el := el) (by omega) (szA_ok (n := nb) hR) PRZ_nn hel
  rw [E]
  refine ⟨fun hp => ?_, fun hp => ?_⟩
  · obtain ⟨s1, s2⟩ := S.1 hp
    have hnn := PRZ_nn (lo := lo) (hi := hi) (n := nb)
    obtain ⟨fo2, hf2⟩ := FU_ge (k := (PRZ lo hi nb).toNat + 1) (by omega)
    have O := mkeW_off (lo := lo) (hi := hi) (x := fr + s) (nb := nb) (el := el) (w := si w 48 11 (Int32.ofNat (a + 1))) (Q := fun k _ => k = 50) (fun _ _ _ => rfl)
    have H4 : CK gA N (a + 1) fr tp (h + 2 * nb) dp el (mkeW lo hi (fr + s) nb el (si w 48 11 (Int32.ofNat (a + 1)))) := H1.nw (O.mono fun k j p => Or.inr (by omega)) (by rw [(O 48 11 (by omega)).1]; exact H1.2.2.1) (by rw [(O 48 12 (by omega)).1]; exact H1.2.2.2.1) (by rw [(O 48 13 (by omega)).1]; exact H1.2.2.2.2.1) (by rw [(O 48 14 (by omega)).1]; exact H1.2.2.2.2.2.1) (by rw [(O 48 15 (by omega)).1]; exact H1.2.2.2.2.2.2.1) (by rw [(O 48 16 (by omega)).1]; exact H1.2.2.2.2.2.2.2.1) H1.2.2.2.2.2.2.2.2
    have L2 := mkc_lp (sz := (PRZ lo hi nb).toNat) (fu := fu) (by omega) h9 (by omega) (PRZ lo hi nb).toNat 0 fo2 _ (by omega) H4 (by rw [(O 56 6 (by omega)).1, gi_si1 (by omega)]; exact T.2.2.2.2.1) T.2.2.2.2.2.2.2.2.2.2
    rw [if_pos s2, s1, hf2, ← Nat.add_assoc]
    exact congrArg (fun z => bn z fun w2 => some w2) L2
  · rw [if_neg (S.2 hp)]
    rfl
end MKK
