/-! ELEMENTS: the class's word, the reference's code -/
section EL6
variable {lo hi ix : Nat → Int64} {gA gM : Wd} {N a fr tp h dp el x n nb : Nat} {w : Wd} {b ev sp cp na mt us q s : Nat} {X : Int32}
theorem ELA.nx (H : ELA w tp x h n lo hi ix) {k j : Nat} {v : Int32} : ELA (si w k j v) tp x h n lo hi ix := by
  obtain ⟨h1, h2, h3, h4, h5⟩ := H
  refine ⟨h1, h2, h3, h4, fun k hk => ?_⟩
  rw [gl_si, gl_si, gl_si]; exact h5 k hk
theorem k_elem (H : CK gA N a fr tp (h + 1 + n) dp el w) (ha : a < N) (hw : gl gA 41 a = wdC 25 0 (Int32.ofNat n)) (hn : n ≤ 5000) (hx : gl w 51 h = Int64.ofNat x) (hx9 : x < tp) (hnb : gl w 50 x = Int64.ofNat nb) (hnb3 : nb ≤ 3) :
    (nb = n → ELA w tp x h n lo hi ix → (∀ q, q < n → INR lo hi ix q) → fX3_tick w = some (pshQ (si (si w 48 11 (Int32.ofNat (a + 1))) 48 14 (Int32.ofNat h)) h (gl w 50 (x + 1) + ofE lo hi ix n))) ∧
    (nb = n → ELA w tp x h n lo hi ix → (∃ q, q < n ∧ ¬ INR lo hi ix q) → fX3_tick w = some (si (si w 48 11 (Int32.ofNat (a + 1))) 48 10 1)) ∧
    (nb ≠ n → fX3_tick w = some (si (si w 48 11 (Int32.ofNat (a + 1))) 48 10 1)) := by
  have hb := H.2.2.2.2.2.2.2.2.2.2.1
  have H1 := H.nx (a + 1)
  have E : fX3_tick w = (bn (if Int64.ofNat nb = Int64.ofNat n then oX3_element_42 FU (Int32.ofNat n) (Int32.ofNat (h + 1)) (Int64.ofNat x) true 0 0 (si w 48 11 (Int32.ofNat (a + 1))) else oX3_element_42 FU (Int32.ofNat n) (Int32.ofNat (h + 1)) (Int64.ofNat x) false 0 0 (si w 48 11 (Int32.ofNat (a + 1)))) fun w52 => some w52) := by
    rw [tk_move (x := 25) (y := 0) (c := n) H ha hw (by omega) (by omega) (by omega)]
    unfold fX3_move fX3_element
    rw [if_neg (show ¬ (Int32.ofNat 25 = 16) by decide), if_neg (show ¬ (Int32.ofNat 25 = 17) by decide), if_neg (show ¬ (Int32.ofNat 25 = 18) by decide), if_neg (show ¬ (Int32.ofNat 25 = 19) by decide), if_neg (show ¬ (Int32.ofNat 25 = 20) by decide), if_neg (show ¬ (Int32.ofNat 25 = 21) by decide), if_neg (show ¬ (Int32.ofNat 25 = 22) by decide), if_neg (show ¬ (Int32.ofNat 25 = 23) by decide), if_neg (show ¬ (Int32.ofNat 25 = 24) by decide), if_pos (show Int32.ofNat 25 = 25 from rfl), show gi (si w 48 11 (Int32.ofNat (a + 1))) 48 14 = Int32.ofNat (h + 1 + n) by rw [gi_si1 (by omega)]; exact H.2.2.2.2.2.1, sub_iN (by omega) (by omega), Nat.add_sub_cancel, ltq, show Int32.ofNat (h + 1) - 1 = Int32.ofNat h by rw [show (1 : Int32) = Int32.ofNat 1 from rfl, sub_iN (by omega) (by omega)]; rfl, rgl_iN (by omega) (by omega), gl_si, hx, ltq, H1.read hx9, lt2q, gl_si, hnb, i64_iN (by omega)]
  have F : ∀ (g : Nat) (y : Wd), oX3_element_42 (g + 1) (Int32.ofNat n) (Int32.ofNat (h + 1)) (Int64.ofNat x) false 0 0 y = some (si y 48 10 1) := fun g y => by
    show fX3_element_42 _ _ _ _ _ _ _ _ = _
    unfold fX3_element_42 fX3_element_147
    rw [if_neg (by decide), if_neg (by decide)]
    rfl
  rw [E]
  obtain ⟨fo, hf⟩ := FU_ge (k := n + 1) (by omega)
  refine ⟨fun e hE hI => ?_, fun e hE hI => ?_, fun e => ?_⟩
  · have := (elA_lp H1 hE.nx n 0 fo (by omega)).1 (fun q _ h2 => hI q h2)
    rw [if_pos (by rw [e]), hf, ← Nat.add_assoc]
    exact congrArg (fun z => bn z fun w52 => some w52) this
  · obtain ⟨q, q1, q2⟩ := hI
    have := (elA_lp H1 hE.nx n 0 fo (by omega)).2 ⟨q, Nat.zero_le _, q1, q2⟩
    rw [if_pos (by rw [e]), hf, ← Nat.add_assoc]
    exact congrArg (fun z => bn z fun w52 => some w52) this
  · rw [if_neg (fun c => e ((eq64 (by omega) (by omega)).mp c)), hf, ← Nat.add_assoc, F]
    rfl
/-- the reference's row of indices -/
def ELM (w : Wd) (q sp n : Nat) (lo hi ix : Nat → Int64) : Prop := n ≤ 3 ∧ q + 10 < 200000 ∧ ∀ k, k < n → gl w 83 (q + 2 + 2 * k) = lo k ∧ gl w 83 (q + 3 + 2 * k) = hi k ∧ gl w 85 (sp + k) = ix k
theorem ng_le {s : Nat} (hs : s < 100000) : ¬ (0 : Int32) ≤ -1 - Int32.ofNat s := by
  rw [Int32.le_iff_toInt_le, Int32.toInt_sub, ti_iN (by omega), show (0 : Int32).toInt = 0 by decide, show (-1 : Int32).toInt = -1 by decide]
  intro hh
  have : ((-1 - (s : Int)).bmod (2 ^ 32)) = -1 - (s : Int) := by
    rw [Int.bmod_def]
    omega
  rw [this] at hh
  omega
theorem ng_sub {s : Nat} : (-1 : Int32) - (-1 - Int32.ofNat s) = Int32.ofNat s := by
  apply Int32.toBitVec_inj.mp
  rw [Int32.toBitVec_sub, Int32.toBitVec_sub]
  generalize (Int32.ofNat s).toBitVec = p
  generalize (-1 : Int32).toBitVec = q
  apply BitVec.eq_of_toInt_eq
  rw [BitVec.toInt_sub, BitVec.toInt_sub, Int.sub_bmod_bmod, show q.toInt - (q.toInt - p.toInt) = p.toInt by omega]
  exact BitVec.toInt_bmod_cancel p
theorem elM_lp (h130 : gi w 0 130 = Int32.ofNat (sp + n)) (h140 : gi w 0 140 = 0) (hsp : sp + n ≤ 100000) (hE : ELM w q sp n lo hi ix) : ∀ (m k fo : Nat) (ok : Bool), k + m = n → (ok = true → (∀ j, k ≤ j → j < n → INR lo hi ix j) → oX12_element__39 (fo + m + 1) (Int32.ofNat n) (Int32.ofNat q) (ofE lo hi ix k) ok (Int32.ofNat k) w = some (pshM (si w 0 130 (Int32.ofNat sp)) sp (1048576 + gl w 83 (q + 1) + ofE lo hi ix n))) ∧
    (ok = false ∨ (∃ j, k ≤ j ∧ j < n ∧ ¬ INR lo hi ix j) → oX12_element__39 (fo + m + 1) (Int32.ofNat n) (Int32.ofNat q) (ofE lo hi ix k) ok (Int32.ofNat k) w = some (si (si w 0 130 (Int32.ofNat sp)) 0 140 1)) := by
  obtain ⟨e1, e2, e3⟩ := hE
  intro m
  induction m with
  | zero =>
    intro k fo ok hk
    have : k = n := by omega
    subst this
    have E : oX12_element__39 (fo + 0 + 1) (Int32.ofNat k) (Int32.ofNat q) (ofE lo hi ix k) ok (Int32.ofNat k) w = (if ok = true then some (pshM (si w 0 130 (Int32.ofNat sp)) sp (1048576 + gl w 83 (q + 1) + ofE lo hi ix k)) else some (si (si w 0 130 (Int32.ofNat sp)) 0 140 1)) := by
      show fX12_element__39 (oX12_element__39 (fo + 0)) _ _ _ _ _ _ = _
      unfold fX12_element__39
      rw [if_pos ((le_iN (by omega) (by omega)).mpr (Nat.le_refl _)), h130, sub_iN (by omega) (by omega), Nat.add_sub_cancel, ltq, ad1_iN]
      cases ok with
      | true => rw [if_pos rfl, if_pos rfl, if_pos (inb_iN (by omega) (by omega)), tc_iN (by omega), gl_si, pushM (gi_si0 _ _ _ _) (by omega), bn_so]
      | false =>
        rw [if_neg (by decide), if_neg (by decide)]
        unfold fX12_fail
        rw [show gi (si w 0 130 (Int32.ofNat sp)) 0 140 = 0 by rw [gi_si1 (by omega)]; exact h140, if_pos rfl, ltq, ltq]
    rw [E]
    exact ⟨fun h _ => if_pos h, fun h => h.elim (fun c => if_neg (by rw [c]; decide)) (fun ⟨j, j1, j2, _⟩ => by omega)⟩
  | succ m ih =>
    intro k fo ok hk
    obtain ⟨r1, r2, r3⟩ := e3 k (by omega)
    have E : oX12_element__39 (fo + (m + 1) + 1) (Int32.ofNat n) (Int32.ofNat q) (ofE lo hi ix k) ok (Int32.ofNat k) w = if ix k < lo k then oX12_element__39 (fo + (m + 1)) (Int32.ofNat n) (Int32.ofNat q) (ofE lo hi ix (k + 1)) false (Int32.ofNat (k + 1)) w else if ix k ≤ hi k then oX12_element__39 (fo + (m + 1)) (Int32.ofNat n) (Int32.ofNat q) (ofE lo hi ix (k + 1)) ok (Int32.ofNat (k + 1)) w else oX12_element__39 (fo + (m + 1)) (Int32.ofNat n) (Int32.ofNat q) (ofE lo hi ix (k + 1)) false (Int32.ofNat (k + 1)) w := by
      show fX12_element__39 (oX12_element__39 (fo + (m + 1))) _ _ _ _ _ _ = _
      unfold fX12_element__39 fX12_element__110
      rw [if_neg (fun c => absurd ((le_iN (by omega) (by omega)).mp c) (by omega)), h130, sub_iN (by omega) (by omega), Nat.add_sub_cancel, add_iN, if_pos (inb_iN (by omega) (by omega)), tc_iN (by omega), r3, show (2 : Int32) * Int32.ofNat k = Int32.ofNat (2 * k) from mul_iN 2 k, show (2 : Int32) = Int32.ofNat 2 from rfl, add_iN, add_iN, ltq, if_pos (inb_iN (by omega) (by omega)), tc_iN (by omega), r1, show (3 : Int32) = Int32.ofNat 3 from rfl, add_iN, add_iN, ltq, if_pos (inb_iN (by omega) (by omega)), tc_iN (by omega), r2, ltq, ltq, ltq, ltq, ad1_iN]
      rfl
    have ih' := fun ok => ih (k + 1) fo ok (by omega)
    rw [E]
    by_cases q1 : ix k < lo k
    · rw [if_pos q1]
      exact ⟨fun _ hq => absurd q1 (nl64.mpr (hq k (Nat.le_refl _) (by omega)).1), fun _ => by rw [show fo + (m + 1) = fo + m + 1 by omega]; exact (ih' false).2 (Or.inl rfl)⟩
    rw [if_neg q1]
    by_cases q2 : ix k ≤ hi k
    · rw [if_pos q2, show fo + (m + 1) = fo + m + 1 by omega]
      refine ⟨fun h hq => (ih' ok).1 h (fun j a b => hq j (by omega) b), fun h => (ih' ok).2 (h.imp id fun ⟨j, a, b, c⟩ => ⟨j, ?_, b, c⟩)⟩
      by_cases e : j = k
      · subst e
        exact absurd ⟨nl64.mp q1, q2⟩ c
      · omega
    · rw [if_neg q2]
      exact ⟨fun _ hq => absurd (hq k (Nat.le_refl _) (by omega)).2 q2, fun _ => by rw [show fo + (m + 1) = fo + m + 1 by omega]; exact (ih' false).2 (Or.inl rfl)⟩
theorem rm_elem1 {n : Nat} (H : MK gM b ev sp cp na mt el us w) (hb : b < 60000) (ho : opW gM b 5 X (Int32.ofNat s) (Int32.ofNat n)) (hs : SLT w ev X s q) (hs9 : s < 2147483648) : fX12_step w = fX12_element_ (Int32.ofNat q) (Int32.ofNat n) (si w 0 128 (Int32.ofNat (b + 1))) := by
  have hs1 := hs.nx (i := Int32.ofNat (b + 1))
  rw [stM_eq H ho hb]
  have H1 := H.nx (b1 := b + 1) (by omega)
  generalize hy : si w 0 128 (Int32.ofNat (b + 1)) = y0 at H1 hs1 ⊢
  unfold stpB
  rw [if_neg (show ¬ ((5 : Int32) = 1) by decide), if_neg (show ¬ ((5 : Int32) = 2) by decide), if_neg (show ¬ ((5 : Int32) = 3) by decide), if_neg (show ¬ ((5 : Int32) = 4) by decide), if_pos (show (5 : Int32) = 5 from rfl), if_pos (zl_iN (by omega)), hs1.ok H1, bn2_so, bn_sm]
theorem rm_elem2 {n q' : Nat} (H : MK gM b ev sp cp na mt el us w) (hb : b < 60000) (ho : opW gM b 5 X (-1 - Int32.ofNat s) (Int32.ofNat n)) (hs : SLT w ev X s q') (hs9 : s < 100000) (hq : q' < 200000) (hv : gl w 83 q' = Int64.ofNat q) : fX12_step w = fX12_element_ (Int32.ofNat q) (Int32.ofNat n) (si w 0 128 (Int32.ofNat (b + 1))) := by
  have hs1 := hs.nx (i := Int32.ofNat (b + 1))
  rw [stM_eq H ho hb]
  have H1 := H.nx (b1 := b + 1) (by omega)
  have hv1 : gl (si w 0 128 (Int32.ofNat (b + 1))) 83 q' = Int64.ofNat q := by rw [gl_si]; exact hv
  generalize hy : si w 0 128 (Int32.ofNat (b + 1)) = y0 at H1 hs1 hv1 ⊢
  unfold stpB
  rw [if_neg (show ¬ ((5 : Int32) = 1) by decide), if_neg (show ¬ ((5 : Int32) = 2) by decide), if_neg (show ¬ ((5 : Int32) = 3) by decide), if_neg (show ¬ ((5 : Int32) = 4) by decide), if_pos (show (5 : Int32) = 5 from rfl), if_neg (ng_le hs9), ng_sub, hs1.ok H1, bn2_so, if_pos (inb_iN hq (by omega)), tc_iN (by omega), hv1, tl_iN, bn_sm]
theorem e_elem {n : Nat} (h130 : gi w 0 130 = Int32.ofNat (sp + n)) (h140 : gi w 0 140 = 0) (hsp : sp + n ≤ 100000) (hn : n ≤ 5000) (hq : q < 200000) (hnb : gl w 83 q = Int64.ofNat nb) (hnb3 : nb ≤ 3) :
    (nb = n → ELM w q sp n lo hi ix → (∀ j, j < n → INR lo hi ix j) → fX12_element_ (Int32.ofNat q) (Int32.ofNat n) w = some (pshM (si w 0 130 (Int32.ofNat sp)) sp (1048576 + gl w 83 (q + 1) + ofE lo hi ix n))) ∧
    (nb = n → ELM w q sp n lo hi ix → (∃ j, j < n ∧ ¬ INR lo hi ix j) → fX12_element_ (Int32.ofNat q) (Int32.ofNat n) w = some (si (si w 0 130 (Int32.ofNat sp)) 0 140 1)) ∧
    (nb ≠ n → fX12_element_ (Int32.ofNat q) (Int32.ofNat n) w = some (si (si w 0 130 (Int32.ofNat sp)) 0 140 1)) := by
  unfold fX12_element_
  rw [if_pos (inb_iN hq (by omega)), tc_iN (by omega), hnb, i64_iN (by omega)]
  obtain ⟨fo, hf⟩ := FU_ge (k := n + 1) (by omega)
  refine ⟨fun e hE hI => ?_, fun e hE hI => ?_, fun e => ?_⟩
  · rw [if_pos (by rw [e]), hf, ← Nat.add_assoc]
    exact (elM_lp h130 h140 hsp hE n 0 fo true (by omega)).1 rfl (fun j _ b => hI j b)
  · obtain ⟨j, j1, j2⟩ := hI
    rw [if_pos (by rw [e]), hf, ← Nat.add_assoc]
    exact (elM_lp h130 h140 hsp hE n 0 fo true (by omega)).2 (Or.inr ⟨j, Nat.zero_le _, j1, j2⟩)
  · rw [if_neg (fun c => e ((eq64 (by omega) (by omega)).mp c)), h130, sub_iN (by omega) (by omega), Nat.add_sub_cancel, ltq]
    unfold fX12_fail
    rw [show gi (si w 0 130 (Int32.ofNat sp)) 0 140 = 0 by rw [gi_si1 (by omega)]; exact h140, if_pos rfl, ltq, ltq]
end EL6
