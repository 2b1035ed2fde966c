/-! PASS 2, THE REFERENCE: operands on the left, one in the other -/
section SG
variable {kd wr nm : Nat → Nat} {vv : Nat → Int64} {m lev cur sp : Nat} {fA fM : Wd} {c c1 c2 C TK : Nat → Nat} {SL : Nat → List Nat} {w u v : Wd} {L L1 L2 : List (Nat × Int32)} {P P1 P2 : Nat → Nat → Wd → Prop} {a0 a1 a2 a3 b0 b1 b2 b3 : Nat} {lu : Nat → Nat}
/-- what going down the left operands of node n does -/
def DS (kd wr : Nat → Nat) (m : Nat) (fM : Wd) (lu : Nat → Nat) (lev cur k M n T : Nat) : Prop :=
  ∀ c sp w, GCS kd wr m fM lev cur c sp w → FIT c sp T → ∃ p u c', p ≤ T ∧ EM kd wr m fM lev cur sp c c' w u (FLX fM lu cur k 0 n 0) (fun b b' g => FLX fM lu cur k 0 n 0 = [] → CDM fM lu lev k 0 n 0 0 b b' g) (2 * T - 1) ((T - 1) / 2) ((T + 1) / 2) ((T - 1) / 2) ∧
    ∀ G fo f, FU = G + p → f ≤ sp → oX12_two_7 (RX12_mustBe M) (fo + p + 1) (Int32.ofNat f) (Int32.ofNat n) w = oX12_two_55 (RX12_mustBe M) G (Int32.ofNat f) (Int32.ofNat n) (TYX fM lu k n) u
theorem ds_one {k M n T : Nat} (hV : VS kd wr m fM lu lev cur k M n T) (hn : n < 24000) (h7 : gi fM 7 n ≠ 6) : DS kd wr m fM lu lev cur k M n T := by
  intro c sp w h hf
  obtain ⟨u, c', u1, u2⟩ := hV c sp w h hf
  refine ⟨0, u, c', Nat.zero_le _, u2, fun G fo f hG hfs => ?_⟩
  have hG' : G = FU := by omega
  show fX12_two_7 (RX12_mustBe M) (oX12_two_7 (RX12_mustBe M) (fo + 0)) (Int32.ofNat f) (Int32.ofNat n) w = _
  unfold fX12_two_7
  rw [if_pos (inb_iN hn (by omega)), tc_iN (by omega), (h.fx (k := 7) (by unfold PGM PGX; omega)).1, if_neg h7, u1, bn2_so, hG']
/-- the spine, one more -/
theorem EM.spine {n : Nat} (hsp : sp < 24000) (h0 : GCS kd wr m fM lev cur c sp w) (h : EM kd wr m fM lev cur (sp + 1) c c1 (si (si w 59 sp (Int32.ofNat n)) 0 84 (Int32.ofNat (sp + 1))) u L P a0 a1 a2 a3) : gi u 0 84 = Int32.ofNat (sp + 1) ∧ gi u 59 sp = Int32.ofNat n ∧ EM kd wr m fM lev cur sp c c1 w (si u 0 84 (Int32.ofNat sp)) L P a0 a1 a2 a3 := by
  obtain ⟨h1, h2, h3, h4, h5, h6, h7, h8⟩ := h
  have hO : OFF (fun k j => k = 0 ∧ j = 84) (si u 0 84 (Int32.ofNat sp)) u := OFF.si ⟨rfl, rfl⟩
  have hP : OFF (fun k j => (k = 59 ∧ j = sp) ∨ (k = 0 ∧ j = 84)) (si (si w 59 sp (Int32.ofNat n)) 0 84 (Int32.ofNat (sp + 1))) w := OFF.tr (OFF.si (by omega)) (OFF.si (by omega))
  refine ⟨h1.2.2.2.2.2, ?_, ?_, ?_, ?_, ?_, fun j hj => ?_, h6, h7, fun g hg => h8 g fun k j hk => ?_⟩
  · rw [h5 sp (by omega), gi_si1 (by omega), gi_si0]
  · obtain ⟨g1, g2, ⟨g3, g4, g5, g6⟩, g7, g8, g9⟩ := h1
    have f0 : ∀ k j, ¬ (k = 0 ∧ j = 84) → gi (si u 0 84 (Int32.ofNat sp)) k j = gi u k j := fun k j hk => (hO k j hk).1
    refine ⟨?_, OFF.tr (hO.mono fun k j hk => by unfold PGM PGX; omega) g2, ⟨by rw [f0 0 64 (by omega)]; exact g3, by rw [f0 0 69 (by omega)]; exact g4, by rw [f0 0 73 (by omega)]; exact g5, by rw [f0 0 77 (by omega)]; exact g6⟩, by rw [f0 0 65 (by omega)]; exact g7, by rw [f0 0 66 (by omega)]; exact g8, gi_si0 _ _ _ _⟩
    obtain ⟨⟨a1, a2, a3, a4, a5⟩, a6, a7, a8, a9⟩ := g1
    exact ⟨⟨a1, a2, a3, a4, fun i hi => by rw [f0 2 i (by omega), f0 3 i (by omega)]; exact a5 i hi⟩, a6, a7, by rw [f0 0 7 (by omega)]; exact a8, by rw [f0 0 8 (by omega)]; exact a9⟩
  · show (gi _ 0 10, gi _ 0 11) = _
    rw [(hO 0 10 (by omega)).1, (hO 0 11 (by omega)).1]
    have : FLM (si (si w 59 sp (Int32.ofNat n)) 0 84 (Int32.ofNat (sp + 1))) = FLM w := by
      unfold FLM
      rw [(hP 0 10 (by omega)).1, (hP 0 11 (by omega)).1]
    rw [← this]
    exact h2
  · exact OFF.tr (hO.mono fun k j hk => by unfold PGX; omega) (OFF.tr h3 (hP.mono fun k j hk => by unfold PGX; omega))
  · exact fun k j hk => ((hO k j (by omega)).1.trans (h4 k j hk)).trans (hP k j (by omega)).1
  · exact ((hO 59 j (by omega)).1.trans (h5 j (by omega))).trans (hP 59 j (by omega)).1
  · exact (hg k j hk).trans (hO k j (by omega)).1
theorem GCS.push {n : Nat} (h : GCS kd wr m fM lev cur c sp w) : GCS kd wr m fM lev cur c (sp + 1) (si (si w 59 sp (Int32.ofNat n)) 0 84 (Int32.ofNat (sp + 1))) := by
  obtain ⟨g1, g2, ⟨g3, g4, g5, g6⟩, g7, g8, g9⟩ := h
  have hP : OFF (fun k j => (k = 59 ∧ j = sp) ∨ (k = 0 ∧ j = 84)) (si (si w 59 sp (Int32.ofNat n)) 0 84 (Int32.ofNat (sp + 1))) w := OFF.tr (OFF.si (by omega)) (OFF.si (by omega))
  have f0 : ∀ k j, ¬ ((k = 59 ∧ j = sp) ∨ (k = 0 ∧ j = 84)) → gi (si (si w 59 sp (Int32.ofNat n)) 0 84 (Int32.ofNat (sp + 1))) k j = gi w k j := fun k j hk => (hP k j hk).1
  refine ⟨?_, OFF.tr (hP.mono fun k j hk => by unfold PGM PGX; omega) g2, ⟨by rw [f0 0 64 (by omega)]; exact g3, by rw [f0 0 69 (by omega)]; exact g4, by rw [f0 0 73 (by omega)]; exact g5, by rw [f0 0 77 (by omega)]; exact g6⟩, by rw [f0 0 65 (by omega)]; exact g7, by rw [f0 0 66 (by omega)]; exact g8, gi_si0 _ _ _ _⟩
  obtain ⟨⟨a1, a2, a3, a4, a5⟩, a6, a7, a8, a9⟩ := g1
  exact ⟨⟨a1, a2, a3, a4, fun i hi => by rw [f0 2 i (by omega), f0 3 i (by omega)]; exact a5 i hi⟩, a6, a7, by rw [f0 0 7 (by omega)]; exact a8, by rw [f0 0 8 (by omega)]; exact a9⟩
/-- node n: a sign for two -/
def TWN (fM : Wd) (m n x y tx ty sg : Nat) : Prop := n < 24000 ∧ x < 24000 ∧ y < 24000 ∧ gi fM 7 n = 6 ∧ gi fM 8 n = Int32.ofNat x ∧ gi fM 10 n = Int32.ofNat y ∧ gi fM 9 n = Int32.ofNat (kM sg) ∧ stb sg ≠ 0 ∧ sg < 51 ∧ gi fM 12 x = Int32.ofNat tx ∧ gi fM 12 y = Int32.ofNat ty ∧ tx ≤ m ∧ ty ≤ m
theorem two_eqs {k n x y tx ty sg : Nat} (h : TWN fM m n x y tx ty sg) : TYX fM lu (k + 1) n = sgY (gi fM 9 n) ∧ (FLX fM lu cur (k + 1) 0 n 0 = FLX fM lu cur k 0 x 0 ++ (if gi fM 9 n = 61 ∨ gi fM 9 n = 289 then FLX fM lu cur k 0 y 0 ++ (if TYX fM lu k x ≠ 0 then misT (TYX fM lu k y) (TYX fM lu k x) (nd fM 12 y) else []) else misT (TYX fM lu k x) (if gi fM 9 n = 280 ∨ gi fM 9 n = 279 ∨ gi fM 9 n = 278 ∨ gi fM 9 n = 277 then 2 else 1) (nd fM 12 x) ++ (FLX fM lu cur k 0 y 0 ++ misT (TYX fM lu k y) (if gi fM 9 n = 280 ∨ gi fM 9 n = 279 ∨ gi fM 9 n = 278 ∨ gi fM 9 n = 277 then 2 else 1) (nd fM 12 y)))) ∧
    ∀ b b' g, (CDM fM lu lev (k + 1) 0 n 0 0 b b' g ↔ ∃ b1 b2, CDM fM lu lev k 0 x 0 0 b b1 g ∧ CDM fM lu lev k 0 y 0 0 b1 b2 g ∧ opW g b2 8 (gi fM 9 n) 0 0 ∧ b' = b2 + 1) := by
  obtain ⟨hn, hx, hy, h7, h8, h10, h9, _⟩ := h
  have e8 : nd fM 8 n = x := by
    unfold nd
    rw [h8, tc_iN (by omega)]
  have e10 : nd fM 10 n = y := by
    unfold nd
    rw [h10, tc_iN (by omega)]
  have hne : ∀ i : Nat, i < 2147483648 → i ≠ 6 → ¬ gi fM 7 n = Int32.ofNat i := fun i hi h6 e => by
    rw [h7] at e
    exact of_ne (n := 6) (k := i) (by omega) hi (by omega) e
  have n1 : ¬ gi fM 7 n = 1 := hne 1 (by omega) (by omega)
  have n2 : ¬ gi fM 7 n = 2 := hne 2 (by omega) (by omega)
  have n3 : ¬ gi fM 7 n = 3 := hne 3 (by omega) (by omega)
  have n4 : ¬ gi fM 7 n = 4 := hne 4 (by omega) (by omega)
  have n5 : ¬ gi fM 7 n = 5 := hne 5 (by omega) (by omega)
  have n7 : ¬ gi fM 7 n = 7 := hne 7 (by omega) (by omega)
  have n8 : ¬ gi fM 7 n = 8 := hne 8 (by omega) (by omega)
  have n9 : ¬ gi fM 7 n = 9 := hne 9 (by omega) (by omega)
  refine ⟨?_, ?_, fun b b' g => ?_⟩
  · unfold TYX
    rw [if_neg n1, if_neg n2, if_neg n9, if_neg n3, if_neg n4, if_neg n5, if_neg n8, if_neg n7]
  · rw [FLX]
    dsimp only
    rw [if_pos rfl, if_neg (fun g => g.elim n1 n2), if_neg n9, if_neg n3, if_neg n4, if_neg n5, if_neg n8, if_neg n7, e8, e10]
  · rw [CDM]
    dsimp only
    rw [if_pos rfl, if_neg n1, if_neg n2, if_neg n9, if_neg n3, if_neg n4, if_neg n5, if_neg n8, if_neg n7, e8, e10]
theorem ds_two {k N n x y tx ty sg Tx Ty : Nat} (h : TWN fM m n x y tx ty sg) (hX : DS kd wr m fM lu lev cur k (N + 2) x Tx) (hY : ∀ N', N ≤ N' → VS kd wr m fM lu lev cur k N' y Ty) (hx1 : 1 ≤ Tx) (hy1 : 1 ≤ Ty) : DS kd wr m fM lu lev cur (k + 1) (N + 2) n (Tx + Ty + 1) := by
  obtain ⟨e1, e2, e3⟩ := two_eqs (lu := lu) (cur := cur) (lev := lev) (k := k) h
  obtain ⟨hn, hx, hy, h7, h8, h10, h9, hs, hs5, hxt, hyt, htx, hty⟩ := h
  intro c sp w hg hf
  have hf' := hf
  unfold FIT at hf
  obtain ⟨p, u1, c1, hp, x1, x2⟩ := hX c (sp + 1) _ (hg.push (n := n)) (by unfold FIT; omega)
  obtain ⟨y1, y2, y3⟩ := EM.spine (by omega) hg x1
  have hb := y3.2.2.2.2.2.2.1
  obtain ⟨u2, c2, z1, z2⟩ := g_joined (first := TYX fM lu k x) hY y3.1 (by unfold FIT; omega) (by omega) hy1 hn hx hy h10 h9 hs hs5 hxt hyt htx hty
  refine ⟨p + 1, u2, c2, by omega, ?_, fun G fo f hG hfs => ?_⟩
  · refine ((y3.seq z2).fls e2.symm).wk (fun b b' g hg hnil => ?_) (by omega)
    obtain ⟨b1, g1, b2, g2, g3, g4⟩ := hg
    rw [e2] at hnil
    obtain ⟨k1, k2⟩ := List.append_eq_nil_iff.mp hnil
    refine (e3 b b' g).mpr ⟨b1, b2, g1 k1, g2 ?_, g3, g4⟩
    by_cases q : gi fM 9 n = 61 ∨ gi fM 9 n = 289
    · rw [if_pos q] at k2
      exact (List.append_eq_nil_iff.mp k2).1
    · rw [if_neg q] at k2
      exact (List.append_eq_nil_iff.mp (List.append_eq_nil_iff.mp k2).2).1
  · have hsp : gi w 0 84 = Int32.ofNat sp := hg.2.2.2.2.2
    have e7 : gi w 7 n = 6 := ((hg.fx (k := 7) (by unfold PGM PGX; omega)).1).trans h7
    have e8 : gi (si (si w 59 sp (Int32.ofNat n)) 0 84 (Int32.ofNat (sp + 1))) 8 n = Int32.ofNat x := by
      rw [gi_si1 (by omega), gi_si1 (by omega)]
      exact ((hg.fx (k := 8) (by unfold PGM PGX; omega)).1).trans h8
    rw [show fo + (p + 1) + 1 = (fo + p + 1) + 1 by omega]
    show fX12_two_7 (RX12_mustBe (N + 2)) (oX12_two_7 (RX12_mustBe (N + 2)) (fo + p + 1)) (Int32.ofNat f) (Int32.ofNat n) w = _
    unfold fX12_two_7
    rw [if_pos (inb_iN hn (by omega)), tc_iN (by omega), e7, if_pos rfl, hsp, if_pos (inb_iN (by omega) (by omega)), tc_iN (by omega), ltq, gi_si1 (by omega), hsp, ad1_iN, ltq, if_pos (inb_iN hn (by omega)), e8, ltq, x2 (G + 1) fo f (by omega) (by omega)]
    show fX12_two_55 (RX12_mustBe (N + 2)) (oX12_two_55 (RX12_mustBe (N + 2)) G) (Int32.ofNat f) (Int32.ofNat x) (TYX fM lu k x) u1 = _
    unfold fX12_two_55
    rw [y1, if_neg (nle_iN (by omega) (by omega)), sb1_iN (by omega) (by omega), Nat.add_sub_cancel, ltq, gi_si0, if_pos (inb_iN (by omega) (by omega)), tc_iN (by omega), gi_si1 (by omega), y2, ltq, z1, bn2_so, e1]
theorem vs_two {k M n T : Nat} (hD : DS kd wr m fM lu lev cur k M n T) (hn : n < 24000) (h7 : gi fM 7 n = 6) (hT : T ≤ 8200) : VS kd wr m fM lu lev cur k (M + 2) n T := by
  intro c sp w h hf
  obtain ⟨p, u, c', hp, u1, u2⟩ := hD c sp w h hf
  refine ⟨u, c', ?_, u1⟩
  have e : RX12_mustBe (M + 2) 1 (Int32.ofNat n) 0 0 w = fX12_value (RX12_mustBe (M + 1)) (Int32.ofNat n) w := rfl
  have e2 : RX12_mustBe (M + 1) 2 (Int32.ofNat n) 0 0 w = fX12_two (RX12_mustBe M) (Int32.ofNat n) w := rfl
  have e7 : gi w 7 n = 6 := ((h.fx (k := 7) (by unfold PGM PGX; omega)).1).trans h7
  have hsp : gi w 0 84 = Int32.ofNat sp := h.2.2.2.2.2
  rw [e]
  unfold fX12_value
  rw [if_pos (inb_iN hn (by omega)), tc_iN (by omega), e7, ltq, if_neg (show ¬ ((6 : Int32) = 1) by decide), if_neg (show ¬ ((6 : Int32) = 2) by decide), if_neg (show ¬ ((6 : Int32) = 3) by decide), if_neg (show ¬ ((6 : Int32) = 4) by decide), if_neg (show ¬ ((6 : Int32) = 5) by decide), if_neg (show ¬ ((6 : Int32) = 7) by decide), if_neg (show ¬ ((6 : Int32) = 8) by decide), if_neg (show ¬ ((6 : Int32) = 9) by decide), e2]
  have hgo : fX12_two (RX12_mustBe M) (Int32.ofNat n) w = some (TYX fM lu k n, u) := by
    unfold fX12_two
    obtain ⟨F, hF⟩ := FU_ge (k := p + 2) (by omega)
    rw [hsp, ltq]
    have h7 := u2 (F + 2) (F + 1) sp (by omega) (Nat.le_refl _)
    rw [show F + 1 + p + 1 = FU by omega] at h7
    rw [h7]
    show fX12_two_55 (RX12_mustBe M) (oX12_two_55 (RX12_mustBe M) (F + 1)) (Int32.ofNat sp) (Int32.ofNat n) (TYX fM lu k n) u = _
    unfold fX12_two_55
    rw [u1.1.2.2.2.2.2, if_pos (ofle (Nat.le_refl _) (by unfold FIT at hf; omega))]
  rw [hgo]
  rfl
end SG
