/-! THE REFERENCE: a BLOCK's beginning, and at DEPTH 41 -/
section JT
variable {kd wr nm : Nat → Nat} {m : Nat}
/-- behind begin -/
def blkM (rm : TX12_block) (N : Nat) (x1 : Int32) (w4 : Wd) : Option (Option Int32 × Wd) := lt (gi w4 0 59) fun x5 => lt (si w4 0 59 ((gi w4 0 59) + 1)) fun w6 => lt (gi w6 0 29) fun x7 => bn2 (fX12_newScope (gi w6 0 29) x5 w6) fun x8 w9 => lt (si w9 0 29 x8) fun w10 => bn2 (fX12_node 27 x5 0 0 x1 w10) fun x12 w13 => bn2 (fX12_slots 2 w13) fun x14 w15 => if inb x5 9000 = true then lt (si w15 41 (Int32.toNatClampNeg x5) x14) fun w17 => if inb x5 9000 = true then lt (si w17 39 (Int32.toNatClampNeg x5) (-1)) fun w19 => if inb x5 9000 = true then lt (si w19 40 (Int32.toNatClampNeg x5) (-1)) fun w21 => if inb x5 9000 = true then lt (si w21 42 (Int32.toNatClampNeg x5) (gi w21 0 29)) fun w23 => oX12_block_107 rm N x5 x7 x12 (-1) w23 else none else none else none else none
theorem m_block {rm : TX12_block} {w : Wd} : fX12_block rm w = be (fX12_expect 256 w) fun x1 w2 => lt (si w2 0 8 ((gi w2 0 8) + 1)) (blkM rm FU x1) := by
  unfold fX12_block
  generalize FU = N
  rfl
theorem sl_ok {w : Wd} {p : Nat} {a : Int32} (h : gi w 0 30 = Int32.ofNat p) (hp : p < 1200) : fX12_slots a w = some (gi w 35 p, si w 35 p (gi w 35 p + a)) := by
  unfold fX12_slots
  rw [h, if_pos (inb_iN hp (by omega)), tc_iN (by omega), ltq, if_pos (inb_iN hp (by omega)), if_pos (inb_iN hp (by omega))]
  rfl
/-- DECLS and STATEMENTS of a BLOCK at DEPTH 41 -/
theorem dn_107 {rm : TX12_block} (h1 : ∀ a, DEP kd wr m (fun w => rm 1 a 0 0 w)) (h4 : DN kd wr m (fun w => rm 4 0 0 0 w)) {N t c3 c0 : Nat} {a3 a5 : Int32} {w : Wd} (hN : 1 ≤ N) (h : SM kd wr m w t 41) (h5 : kd t ≠ 5) (hc3 : c3 < 9000) (hc : gi w 0 23 = Int32.ofNat c0) (hc2 : c0 < 24000) {F : Nat} (hF : F = FU) : ∃ v, fX12_block_107 rm (oX12_block_107 rm N) (Int32.ofNat c3) a3 a5 (-1) w = some (none, v) ∧ gi v 0 9 = Int32.ofNat (wr t) ∧ OFF PMM v w := by
  have h50 := h.1.2.2.2.1
  have h154 : fX12_block_154 rm (oX12_block_107 rm N) (Int32.ofNat c3) a3 a5 (-1) w = some (none, si w 0 9 (Int32.ofNat (wr t))) := by
    unfold fX12_block_154
    rw [show rm 1 a3 0 0 w = _ from h1 a3 w t h]
    rfl
  have hq : (∃ v, some ((none : Option Int32), si w 0 9 (Int32.ofNat (wr t))) = some (none, v) ∧ gi v 0 9 = Int32.ofNat (wr t) ∧ OFF PMM v w) := ⟨_, rfl, gi_si0 _ _ _ _, OFF.si (by unfold PMM; omega)⟩
  unfold fX12_block_107
  rw [m_isType h]
  show ∃ v, (if decide (kd t = 7 ∨ kd t = 8) = true then _ else _) = _ ∧ _
  by_cases q7 : kd t = 7 ∨ kd t = 8
  · rw [decide_eq_true q7, if_pos rfl, h154]; exact hq
  rw [decide_eq_false q7, if_neg (by decide), m_kif h (k := 6) (x := 258) rfl (by omega)]
  by_cases q6 : kd t = 6
  · rw [if_pos q6, h154]; exact hq
  rw [if_neg q6, m_kif h (k := 9) (x := 261) rfl (by omega)]
  by_cases q9 : kd t = 9
  · rw [if_pos q9, h154]; exact hq
  rw [if_neg q9, m_kif h (k := 10) (x := 262) rfl (by omega)]
  by_cases q10 : kd t = 10
  · rw [if_pos q10, h154]; exact hq
  rw [if_neg q10, m_kif h (k := 13) (x := 265) rfl (by omega)]
  by_cases q13 : kd t = 13
  · rw [if_pos q13, h154]; exact hq
  rw [if_neg q13, ← hF]
  obtain ⟨n, hn⟩ := FU_ge (k := 1) (by omega)
  rw [hF, hn]
  show ∃ v, fX12_block_212 rm (oX12_block_212 rm n) (Int32.ofNat c3) a3 a5 (-1) w = _ ∧ _
  unfold fX12_block_212
  rcases h4 w t c0 h hc hc2 with e | ⟨u, e1, e2, e3⟩
  · rw [show rm 4 0 0 0 w = _ from e]; exact hq
  · rw [show rm 4 0 0 0 w = _ from e1, be_so, if_neg (by decide), if_pos (inb_iN hc3 (by omega)), tc_iN (by omega), ltq]
    have e4 : SM kd wr m (si u 39 c3 (Int32.ofNat c0)) t 41 := e2.si (by omega) (by omega)
    have e5 : OFF PMM (si u 39 c3 (Int32.ofNat c0)) w := OFF.tr (OFF.si (by unfold PMM; omega)) e3
    unfold fX12_block_243
    by_cases q41 : kd t = 41
    · rw [dp_skip (k := 41) (x := 59) rfl e4 q41]
      exact ⟨_, rfl, gi_si0 _ _ _ _, OFF.tr (OFF.si (by unfold PMM; omega)) e5⟩
    · rw [m_skip_no e4 (k := 41) (x := 59) rfl (by omega) q41, be_so, if_neg (by decide)]
      have e6 : gi (si u 39 c3 (Int32.ofNat c0)) 0 8 = Int32.ofNat 41 := e4.2.2.2.2
      rw [e6, show Int32.ofNat 41 - 1 = Int32.ofNat 40 from rfl, ltq]
      have e7 : SM kd wr m (si (si u 39 c3 (Int32.ofNat c0)) 0 8 (Int32.ofNat 40)) t 40 := e4.goD (by omega)
      rw [m_kif e7 (k := 5) (x := 257) rfl (by omega) (A := fun w7 => be (fX12_taken w7) fun x9 w10 => lt (si w10 0 29 a3) fun w12 => some (some a5, w12)) (B := fun w7 => bn (fX12_bad w7) fun w13 => some (none, w13)), if_neg h5, m_bad e7]
      exact ⟨_, rfl, gi_si0 _ _ _ _, OFF.tr (OFF.si (by unfold PMM; omega)) (OFF.tr (OFF.si (by unfold PMM; omega)) e5)⟩
theorem blk_doom {rm : TX12_block} (h1 : ∀ a, DEP kd wr m (fun w => rm 1 a 0 0 w)) (h4 : DN kd wr m (fun w => rm 4 0 0 0 w)) {t c3 c2 c0 p : Nat} {x1 : Int32} {w : Wd} (h : SM kd wr m w t 41) (h5 : kd t ≠ 5) (hc3 : gi w 0 59 = Int32.ofNat c3 ∧ c3 < 9000) (hc2 : gi w 0 28 = Int32.ofNat c2 ∧ c2 < 9000) (hc0 : gi w 0 23 = Int32.ofNat c0 ∧ c0 + 1 < 24000) (hp : gi w 0 30 = Int32.ofNat p ∧ p < 1200) {N : Nat} (hN : N = FU) : ∃ v, blkM rm N x1 w = some (none, v) ∧ gi v 0 9 = Int32.ofNat (wr t) ∧ OFF PMM v w := by
  unfold blkM
  rw [hc3.1, ltq, ltq, ltq]
  have g1 : OFF (fun k j => k = 0 ∧ j = 59) (si w 0 59 (Int32.ofNat c3 + 1)) w := OFF.si ⟨rfl, rfl⟩
  obtain ⟨v1, f1, f2, f3, f4, f5, f6, f7⟩ := ns_ok (w := si w 0 59 (Int32.ofNat c3 + 1)) (n := c2) (a1 := gi (si w 0 59 (Int32.ofNat c3 + 1)) 0 29) (a2 := Int32.ofNat c3) (by rw [gi_si1 (by omega)]; exact hc2.1) hc2.2
  rw [f1, bn2_so, ltq]
  have g2 : OFF (fun k j => (k = 0 ∧ (j = 28 ∨ j = 29 ∨ j = 59)) ∨ 14 ≤ k ∧ k ≤ 17) (si v1 0 29 (Int32.ofNat c2)) w := OFF.tr (OFF.si (by omega)) (OFF.tr (f7.mono (fun k j hk => by omega)) (g1.mono (fun k j hk => by omega)))
  have s2 : SM kd wr m (si v1 0 29 (Int32.ofNat c2)) t 41 := h.ofP g2 (fun k j hk => by omega)
  obtain ⟨v2, n1, n2, n3, _, _, _, _, _, _, _, g3⟩ := nd_ok (a1 := 27) (a2 := Int32.ofNat c3) (a3 := 0) (a4 := 0) (a5 := x1) s2 (by rw [(g2 0 23 (by omega)).1]; exact hc0.1) (by omega)
  rw [n1, bn2_so]
  have g4 : OFF PMM v2 w := OFF.tr (g3.mono (fun k j hk => by unfold PN at hk; unfold PMM; omega)) (g2.mono (fun k j hk => by unfold PMM; omega))
  have e30 : gi v2 0 30 = Int32.ofNat p := by rw [(g3 0 30 (by unfold PN; omega)).1, (g2 0 30 (by omega)).1]; exact hp.1
  rw [show (2 : Int32) = Int32.ofNat 2 from rfl, sl_ok e30 hp.2, bn2_so, if_pos (inb_iN hc3.2 (by omega)), tc_iN (by omega), ltq, if_pos (inb_iN hc3.2 (by omega)), ltq, if_pos (inb_iN hc3.2 (by omega)), ltq, if_pos (inb_iN hc3.2 (by omega)), ltq]
  generalize hW : si (si (si (si (si v2 35 p (gi v2 35 p + Int32.ofNat 2)) 41 c3 (gi v2 35 p)) 39 c3 (-1)) 40 c3 (-1)) 42 c3 _ = W
  have g5 : OFF (fun k j => k = 35 ∨ 39 ≤ k ∧ k ≤ 42) W v2 := by
    rw [← hW]
    exact OFF.tr (OFF.si (by omega)) (OFF.tr (OFF.si (by omega)) (OFF.tr (OFF.si (by omega)) (OFF.tr (OFF.si (by omega)) (OFF.si (by omega)))))
  obtain ⟨n, hn⟩ := FU_ge (k := 1 + 1) (by omega)
  rw [hN, hn]
  show ∃ v, fX12_block_107 rm (oX12_block_107 rm (n + 1)) (Int32.ofNat c3) _ _ (-1) W = _ ∧ _
  obtain ⟨v, w1, w2, w3⟩ := dn_107 (a3 := gi (si w 0 59 (Int32.ofNat c3 + 1)) 0 29) (a5 := Int32.ofNat c0) h1 h4 (N := n + 1) (by omega) (n2.ofP g5 (fun k j hk => by omega)) h5 hc3.2 (c0 := c0 + 1) (by rw [(g5 0 23 (by omega)).1]; exact n3) (by omega) rfl
  exact ⟨v, w1, w2, OFF.tr w3 (OFF.tr (g5.mono (fun k j hk => by unfold PMM; omega)) g4)⟩
end JT
