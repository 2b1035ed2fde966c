/-! LEXING, the class's side: all of it -/
theorem forget_lp {c : Nat} (hc : c ≤ 8193) : ∀ (m i f : Nat) (w : Wd), i + m = c → gi w 4 8 = Int32.ofNat c → (∀ p, p < 8192 → gl w 12 p ≠ 0 → ∃ j, i ≤ j ∧ j < c ∧ gi w 5 j = 2 ∧ gl w 7 j = Int64.ofNat p) →
    ∃ u, oX9_forget_2 (f + m + 1) (Int32.ofNat i) w = some u ∧ gi u 4 8 = 0 ∧ gi u 4 10 = -1 ∧ (∀ p, p < 8192 → gl u 12 p = 0) ∧ OFF (fun k j => k = 12 ∨ (k = 4 ∧ (j = 8 ∨ j = 10))) u w := by
  intro m
  induction m with
  | zero =>
    intro i f w hi h8 hn
    show ∃ u, fX9_forget_2 (oX9_forget_2 f) _ _ = some u ∧ _
    unfold fX9_forget_2
    rw [h8, if_pos (yle_iN (by omega) (by omega))]
    dsimp only [lt]
    refine ⟨_, rfl, by rw [gi_si1 (by omega), gi_si0], gi_si0 _ _ _ _, fun p hp => ?_, (OFF.si (Or.inr ⟨rfl, Or.inr rfl⟩)).tr (OFF.si (Or.inr ⟨rfl, Or.inl rfl⟩))⟩
    rw [gl_si, gl_si]
    by_cases h0 : gl w 12 p = 0
    · exact h0
    · obtain ⟨j, j1, j2, -⟩ := hn p hp h0
      omega
  | succ m ih =>
    intro i f w hi h8 hn
    show ∃ u, fX9_forget_2 (oX9_forget_2 (f + m + 1)) _ _ = some u ∧ _
    unfold fX9_forget_2
    rw [h8, if_neg (nle_iN (by omega) (by omega))]
    have hk : fX9_kindOf (Int32.ofNat i) w = gi w 5 i := by
      unfold fX9_kindOf
      rw [h8, if_neg (nle_iN (by omega) (by omega))]
      dsimp only [lt]
      rw [rgi_iN (by omega) (by omega)]
    dsimp only [lt]
    rw [hk, ad1_iN]
    by_cases h2 : gi w 5 i = 2
    · rw [if_pos h2]
      obtain ⟨W, hW⟩ : ∃ W, W = rsl w 12 8192 (fX9_nameOf (Int32.ofNat i) w) 0 := ⟨_, rfl⟩
      rw [← hW]
      have hO : OFF (fun k j => k = 12) W w := by
        rw [hW]
        unfold rsl
        split
        · exact OFF.sl rfl
        · exact OFF.rf
      have hz : ∀ q, gl W 12 q ≠ 0 → gl w 12 q ≠ 0 := by
        intro q hq
        rw [hW] at hq
        unfold rsl at hq
        split at hq
        · rw [gl_sl] at hq
          split at hq
          · exact absurd rfl hq
          · exact hq
        · exact hq
      obtain ⟨u, e1, e2, e3, e4, e5⟩ := ih (i + 1) f W (by omega) (by rw [(hO 4 8 (by omega)).1]; exact h8) (fun p hp hne => by
        obtain ⟨j, j1, j2, j3, j4⟩ := hn p hp (hz p hne)
        refine ⟨j, ?_, j2, by rw [(hO 5 j (by omega)).1]; exact j3, by rw [(hO 7 j (by omega)).2]; exact j4⟩
        by_cases hji : j = i
        · exfalso
          subst hji
          apply hne
          have e : fX9_nameOf (Int32.ofNat j) w = Int32.ofNat p := by
            unfold fX9_nameOf
            dsimp only [lt]
            rw [rgl_iN (by omega) (by omega), j4, toI_lN]
          rw [hW, e, rsl_iN hp (by omega), gl_sl0]
        · omega)
      exact ⟨u, e1, e2, e3, e4, e5.tr (hO.mono (fun _ _ => Or.inl))⟩
    · rw [if_neg h2]
      obtain ⟨u, e1, e2, e3, e4, e5⟩ := ih (i + 1) f w (by omega) h8 (fun p hp hne => by
        obtain ⟨j, j1, j2, j3, j4⟩ := hn p hp hne
        refine ⟨j, ?_, j2, j3, j4⟩
        by_cases hji : j = i
        · subst hji
          exact absurd j3 h2
        · omega)
      exact ⟨u, e1, e2, e3, e4, e5⟩
theorem forget_ok {c : Nat} {w : Wd} (hc : c ≤ 8193) (h8 : gi w 4 8 = Int32.ofNat c) (hn : NMI w c) : ∃ u, fX9_forget w = some u ∧ gi u 4 8 = 0 ∧ gi u 4 10 = -1 ∧ (∀ p, p < 8192 → gl u 12 p = 0) ∧ OFF XR u w := by
  unfold fX9_forget
  obtain ⟨f, hf⟩ := FU_ge (k := c + 1) (by omega)
  rw [hf, ← Nat.add_assoc]
  obtain ⟨u, e1, e2, e3, e4, e5⟩ := forget_lp hc c 0 f w (by omega) h8 (fun p hp hne => by
    obtain ⟨j, j1, j2⟩ := hn p hp hne
    exact ⟨j, Nat.zero_le _, j1, j2⟩)
  exact ⟨u, e1, e2, e3, e4, e5.mono (fun k j h => by unfold XR; omega)⟩
theorem tks_fuel (B : Nat → Nat) (n : Nat) : ∀ (f g a : Nat), n - a ≤ f → n - a ≤ g → tks B n f a = tks B n g a := by
  intro f
  induction f with
  | zero =>
    intro g a hf hg
    cases g with
    | zero => rfl
    | succ g =>
      show [] = tks B n (g + 1) a
      unfold tks
      rw [if_neg (by omega)]
  | succ f ih =>
    intro g a hf hg
    cases g with
    | zero =>
      show tks B n (f + 1) a = []
      unfold tks
      rw [if_neg (by omega)]
    | succ g =>
      unfold tks
      by_cases h : a < n
      · rw [if_pos h, if_pos h]
        have := tkS_gt (B := B) h
        rw [ih g (a + 1) (by omega) (by omega), ih g (tkS B n a).2.2 (by omega) (by omega)]
      · rw [if_neg h, if_neg h]
theorem LA.si49 {B : Nat → Nat} {n : Nat} {w : Wd} {ts : List (Nat × Nat × Nat)} (h : LA B n w ts) (v : Int32) : LA B n (si w 4 9 v) ts := by
  obtain ⟨h1, h2, h3, h4, h5, h6, h7⟩ := h
  have e : ∀ k j, ¬ (k = 4 ∧ j = 9) → gi (si w 4 9 v) k j = gi w k j := fun k j hk => gi_si1 hk
  refine ⟨⟨h1.1, fun i hi => ⟨(h1.2 i hi).1, by rw [e 1 i (by omega)]; exact (h1.2 i hi).2⟩⟩, h2, h3, by rw [e 4 8 (by omega)]; exact h4, by rw [e 4 10 (by omega)]; exact h5, fun i t ht => ?_, fun p hp hne => ?_⟩
  · obtain ⟨b1, b2, b3, b4, b5, b6, b7⟩ := h6 i t ht
    exact ⟨by rw [e 5 i (by omega)]; exact b1, by rw [e 6 i (by omega)]; exact b2, b3, b4, by rw [e 8 i (by omega)]; exact b5, by rw [e 9 i (by omega)]; exact b6, by rw [e 10 i (by omega)]; exact b7⟩
  · obtain ⟨i, c1, c2, c3⟩ := h7 p hp hne
    exact ⟨i, c1, by rw [e 5 i (by omega)]; exact c2, c3⟩
theorem read_lp {B : Nat → Nat} {n : Nat} : ∀ (k m a f : Nat) (w : Wd) (ts : List (Nat × Nat × Nat)), m ≤ k → a + m = n → LA B n w ts → ts.length ≤ a →
    ∃ u, oX9_read_6 (f + m + 1) (Int32.ofNat n) (Int32.ofNat a) w = some u ∧ LA B n u (ts ++ tks B n m a ++ [(0, n, 0)]) ∧ gi u 4 9 = 0 ∧ OFF XR u w := by
  intro k
  induction k with
  | zero =>
    intro m a f w ts hm ha h hl
    have hn := h.1.1
    obtain rfl : m = 0 := by omega
    obtain rfl : a = n := by omega
    show ∃ u, fX9_read_6 (oX9_read_6 f) _ _ _ = some u ∧ _
    unfold fX9_read_6
    rw [if_pos (yle_iN (by omega) (by omega))]
    unfold fX9_rewind
    dsimp only [lt]
    obtain ⟨g1, g2⟩ := h.add (k := 0) (a := a) (v := 0) (x := 0) (by omega) (fun q => absurd q (by omega)) (fun q => absurd q (by omega))
    refine ⟨_, rfl, ?_, gi_si0 _ _ _ _, ?_⟩
    · rw [show tks B a 0 a = [] from rfl, List.append_nil]
      exact g1.si49 0
    · exact (OFF.si (Or.inl ⟨rfl, Or.inr (Or.inl rfl)⟩)).tr g2
  | succ k ih =>
    intro m a f w ts hm ha h hl
    have hn := h.1.1
    cases m with
    | zero => exact ih 0 a f w ts (by omega) ha h hl
    | succ m =>
      show ∃ u, fX9_read_6 (oX9_read_6 (f + m + 1)) _ _ _ = some u ∧ _
      unfold fX9_read_6
      have hb := (h.1.2 a (by omega)).1
      have hx : ∀ c : Nat, c < 256 → (Int32.ofNat (B a) = Int32.ofNat c ↔ B a = c) := fun c hc => eq_iN (by omega) (by omega)
      rw [if_neg (nle_iN (by omega) (by omega))]
      dsimp only [lt]
      rw [byA h.1 (by omega), ad1_iN]
      unfold tks
      rw [if_pos (show a < n by omega)]
      by_cases h32 : B a = 32
      · have hc : Int32.ofNat (B a) = 32 := (hx 32 (by omega)).mpr h32
        have hd : B a = 32 ∨ B a = 10 := Or.inl h32
        rw [if_pos hc, if_pos hd]
        exact ih m (a + 1) f w ts (by omega) (by omega) h (by omega)
      · have hc : ¬ Int32.ofNat (B a) = 32 := fun q => h32 ((hx 32 (by omega)).mp q)
        rw [if_neg hc]
        by_cases h10 : B a = 10
        · have hc : Int32.ofNat (B a) = 10 := (hx 10 (by omega)).mpr h10
          have hd : B a = 32 ∨ B a = 10 := Or.inr h10
          rw [if_pos hc, if_pos hd]
          exact ih m (a + 1) f w ts (by omega) (by omega) h (by omega)
        · have hc : ¬ Int32.ofNat (B a) = 10 := fun q => h10 ((hx 10 (by omega)).mp q)
          have hd : ¬ (B a = 32 ∨ B a = 10) := fun q => q.elim h32 h10
          rw [if_neg hc, if_neg hd]
          obtain ⟨u, e1, e2, e3⟩ := token_ok h (show a < n by omega) hl
          have hgt := tkS_gt (B := B) (show a < n by omega)
          have hle := tkS_le (B := B) (show a < n by omega)
          rw [e1]
          dsimp only [bn2]
          have e4 : fJ9_max_7cf53 (Int32.ofNat a) (Int32.ofNat ((tkS B n a).2.2 - 1)) = Int32.ofNat ((tkS B n a).2.2 - 1) := by
            unfold fJ9_max_7cf53
            by_cases q : a < (tkS B n a).2.2 - 1
            · rw [if_pos (ylt_iN q (by omega))]
            · rw [if_neg (nlt_iN (by omega) (by omega)), show (tkS B n a).2.2 - 1 = a by omega]
          rw [e4, ad1_iN, show (tkS B n a).2.2 - 1 + 1 = (tkS B n a).2.2 by omega]
          obtain ⟨f', hf'⟩ : ∃ f', f + m + 1 = f' + (n - (tkS B n a).2.2) + 1 := ⟨f + m - (n - (tkS B n a).2.2), by omega⟩
          obtain ⟨z, z1, z2, z3, z4⟩ := ih (n - (tkS B n a).2.2) (tkS B n a).2.2 f' u _ (by omega) (by omega) e2 (by simp; omega)
          rw [hf']
          refine ⟨z, z1, ?_, z3, z4.tr e3⟩
          rw [tks_fuel B n m (n - (tkS B n a).2.2) _ (by omega) (by omega)]
          simpa using z2
/-- the class has read the TEXT -/
theorem read_ok {B : Nat → Nat} {n c : Nat} {w : Wd} (hB : BT B n w) (hW : WT w) (hc : c ≤ 8193) (h8 : gi w 4 8 = Int32.ofNat c) (hN : NMI w c) : ∃ u, fX9_read (Int32.ofNat n) w = some u ∧ LA B n u (tks B n n 0 ++ [(0, n, 0)]) ∧ gi u 4 9 = 0 ∧ OFF XR u w := by
  obtain ⟨v, v1, v2, v3, v4, v5⟩ := forget_ok hc h8 hN
  unfold fX9_read
  rw [v1]
  dsimp only [bn]
  obtain ⟨f, hf⟩ := FU_ge (k := n + 1) (by have := hB.1; omega)
  rw [hf, ← Nat.add_assoc]
  have hLA : LA B n v [] := by
    refine ⟨⟨hB.1, fun i hi => ⟨(hB.2 i hi).1, by rw [(v5 1 i (by unfold XR; omega)).1]; exact (hB.2 i hi).2⟩⟩, fun k hk => by rw [(v5 11 (4 + k) (by unfold XR; omega)).2]; exact hW k hk, ⟨fun p hp hne => absurd (v4 p hp) hne, [], Nat.le_refl _, fun p hp hne => absurd (v4 p hp) hne⟩, v2, v3, fun i t ht => by simp at ht, fun p hp hne => absurd (v4 p hp) hne⟩
  obtain ⟨u, u1, u2, u3, u4⟩ := read_lp n n 0 f v [] (Nat.le_refl _) (by omega) hLA (Nat.le_refl _)
  exact ⟨u, u1, by simpa using u2, u3, u4.tr v5⟩
