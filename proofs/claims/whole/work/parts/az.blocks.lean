/-! BOTH SIDES: a BLOCK -/
section JT
variable {kd wr nm : Nat → Nat} {vv : Nat → Int64} {m z : Nat} {gA gM : Wd} {lv : Bool} {sl us B : Nat} {stk obl stkF : List Nat} {prs : PRL} {C TK : Nat → Nat} {SL : Nat → List Nat} {t d b : Nat} {fa : Int32} {wA wM : Wd} {γ α : Type} {wd : γ → Wd} {S : γ → α → Wd → Prop} {P : (Nat → Nat) → Nat → Wd → Wd → Prop}
/-- the class behind the DECLS of a BLOCK -/
def blA (N : Nat) (rc : TX4_block) (a2 a3 a4 : Int32) (K : Int32 → Wd → Option γ) (w2 : Wd) : Option γ := bn2 (if gi (fX0_put_ 31 a3 w2).2 3 5 = 0 then oX4_block_140 rc N a2 a3 a4 0 (fX7_words (fX5_slot (fX0_put_ 31 a3 w2).2 - a3) (fX0_put_ 31 a3 w2).2) else oX4_block_140 rc N a2 a3 a4 0 (fX0_put_ 31 a3 w2).2) K
theorem bl_eq {rc : TX4_block} {a1 : Int32} {w : Wd} {K : Int32 → Wd → Option γ} : bn2 (fX4_block rc a1 w) K = lt2 (fX9_open a1 w) fun x1 w2 => bn (fX7_enter w2) fun w5 => bn2 (if gi w5 3 5 = 0 then fX4_block_54 rc 1 x1 (fX5_slot w2) (fX5_keep w2) w5 else fX4_block_54 rc (fX7_words_ w5) x1 (fX5_slot w2) (fX5_keep w2) w5) K := by
  unfold fX4_block
  rcases fX9_open a1 w with ⟨x1, w2⟩
  rw [lt2q, lt2q, ltq, ltq, bn2_bn]
  rfl
theorem bl_54 {rc : TX4_block} {a2 a3 a4 : Int32} {w : Wd} {K : Int32 → Wd → Option γ} : bn2 (fX4_block_54 rc 1 a2 a3 a4 w) K = bn2 (rc 1 a2 0 0 (fX5_keepAt (fX5_take (Int32.ofNat 1) w).1 (fX5_take (Int32.ofNat 1) w).2)) fun _ w2 => blA FU rc a2 a3 a4 K w2 := by
  unfold fX4_block_54
  rw [show (1 : Int32) = Int32.ofNat 1 from rfl, lt2q, ltq, if_pos (show Int32.ofNat 1 ≤ Int32.ofNat 1 by decide)]
  unfold fX4_block_95 blA
  generalize FU = N
  rw [bn2_bn2]
  rfl
theorem bl_140 {rc : TX4_block} {n : Nat} {a2 a3 a4 : Int32} {w : Wd} : oX4_block_140 rc (n + 1) a2 a3 a4 0 w = bn2 (rc 5 a2 0 0 w) fun _ w4 => oX4_block_140 rc n a2 a3 a4 (Int32.ofNat (0 + 1)) w4 := by
  show fX4_block_140 rc (oX4_block_140 rc n) a2 a3 a4 0 w = _
  unfold fX4_block_140
  rw [if_neg (by decide), if_pos rfl]
  rfl
theorem a_176 {rc : TX4_block} {a3 a4 : Int32} {w : Wd} {K : Int32 → Wd → Option γ} : bn2 (fX4_block_176 rc a3 a4 w) K = lt (fX9_need (Int32.ofNat 5) w) fun w1 => bn (fX7_leave w1) fun w2 => K 0 (fX0_put_ 32 a4 (fX5_keepAt a4 (fX5_giveBack a3 w2))).2 := by
  unfold fX4_block_176
  rw [show (5 : Int32) = Int32.ofNat 5 from rfl, ltq, ltq, bn2_bn]
  rfl
theorem e_words {a : Int32} {w : Wd} : OFF PS7 (fX7_words a w) w := OFF.rsi (fun _ => Or.inl rfl)
/-- the words of a SCOPE -/
theorem J.words {s p sg q sg0 : Nat} {r : PRL} {a3 : Int32} (h : STJ kd wr nm vv m z gA gM lv 0 us (s :: stk) ((p, sg, q) :: r) C TK SL t d b fa wA wM) (ha : lv = true → a3 = Int32.ofNat sg0 ∧ sg0 ≤ sg) : STJ kd wr nm vv m z gA gM lv 0 us (s :: stk) ((p, sg, q) :: r) C TK SL t d b fa (fX7_words (fX5_slot wA - a3) wA) wM ∧ (lv = true → OFF (fun k j => k = 33 ∧ j = s + 1) (fX7_words (fX5_slot wA - a3) wA) wA ∧ gi (fX7_words (fX5_slot wA - a3) wA) 33 (s + 1) = Int32.ofNat (sg - sg0)) := by
  refine ⟨h.slot7 e_words (fun hl => ?_), fun hl => ?_⟩
  · obtain ⟨h1, h2, h3, h4⟩ := (h.jl hl).2.top
    have e : ∀ l, gi (fX7_words (fX5_slot wA - a3) wA) 36 l = gi wA 36 l := fun l => ((OFF.rsi (P := fun k _ => k = 33) (fun _ => rfl) : OFF _ (fX7_words (fX5_slot wA - a3) wA) wA) 36 l (by omega)).1
    exact ⟨fun l _ => e l, (e _).trans h3, h4⟩
  · obtain ⟨h1, h2, h3, h4⟩ := (h.jl hl).2.top
    obtain ⟨g1, g2⟩ := ha hl
    have hJ := (h.jl hl).2
    have hs : s < C 2 := hJ.2.2.2.2.2.2.2.1.2.2.1.2.1
    have hc2 : C 2 ≤ 4000 := by have := hJ.2.2.2.2.2.1.2.2.1; have := hJ.1.1.2.2.2.2.2.1 t hJ.1.tz; omega
    have h26 : gi wA 26 9 = Int32.ofNat (s + 1) := hJ.2.2.2.2.2.2.1.2.2.1.2.1
    have e : fX5_slot wA - a3 = Int32.ofNat (sg - sg0) := by
      unfold fX5_slot
      have hc1 := hJ.2.2.2.2.2.1
      have hwt := (hJ.1.1.2.2.2.2.2.1 t hJ.1.tz).2.2
      have hz9 := hJ.1.z9
      have htz := hJ.1.tz
      rw [h1, rgi_iN (n := r.length) (m := 64) (by omega) (by omega), h3, g1, ltq]
      exact sub_iN g2 (by omega)
    unfold fX7_words
    rw [h26, e, ltq, rsi_iN (n := s + 1) (m := 4096) (by omega) (by omega)]
    exact ⟨OFF.si ⟨rfl, rfl⟩, gi_si0 _ _ _ _⟩
/-- what both functions of a BLOCK come to -/
def SPB (kd wr nm : Nat → Nat) (vv : Nat → Int64) (m z : Nat) (gA gM : Wd) (rA : Wd → Option (Int32 × Wd)) (rM : Wd → Option (Option Int32 × Wd)) (d β : Nat) (W : Wd → Wd → PSTT) : Prop :=
  ∀ (γ α : Type) (wd : γ → Wd) (S : γ → α → Wd → Prop) (stkF : List Nat) (B : Nat) (stk obl : List Nat) (p sg q : Nat) (r : PRL) (C TK : Nat → Nat) (SL : Nat → List Nat) (t b : Nat) (fa : Int32) (wA wM : Wd) (P : (Nat → Nat) → Nat → Wd → Wd → Prop) (KA : Int32 → Wd → Option γ) (KM : Int32 → Wd → Option (Option α × Wd)),
    STBJ stk ((p, sg, q) :: r) obl P → STJ kd wr nm vv m z gA gM true 0 (C 1) stk ((p, sg, q) :: r) C TK SL t d b fa wA wM → P C t wA wM → (kd t = 4 ∧ C 0 ≤ 2 * t + 98 ∧ (d ≤ 40 ∨ kd t = 5) ∧ OBK d r C obl) → 2800 ≤ b → b + β ≤ 3900 →
    (∀ lv' x t' fa' uA uM n C' TK' SL' q', STJ kd wr nm vv m z gA gM lv' 0 (C' 1) stk ((p, sg, q') :: r) C' TK' SL' t' d (b + β) fa' uA uM → (lv' = true → true = true ∧ t ≤ t' ∧ t' ≤ m ∧ LEC C C' ∧ C' 0 + 2 * t ≤ C 0 + 2 * t' + 1 ∧ C' 6 + C 4 = C' 4 + C 6 ∧ P C' t' uA uM ∧ gi uM 11 n = -1 ∧ n < C' 0 ∧ C 0 ≤ n ∧ FACT stk ((p, sg, q') :: r) obl (C 0) C' t' n (fun fA fM => ∀ v, BLKX kd fA (si fM 44 n v) (W fA (si fM 44 n v)) d t t' n stk ((p, sg, q) :: r) q q' C C') uA uM) → (lv' = false → t' = z - 1) → GLJ kd wr nm z gA gM wd lv' stkF fa' B (KA x uA) (KM (Int32.ofNat n) uM) S) →
    GLJ kd wr nm z gA gM wd true stkF fa B (bn2 (rA wA) KA) (be (rM wM) KM) S
end JT
