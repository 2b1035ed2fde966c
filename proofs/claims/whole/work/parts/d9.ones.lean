/-! PASS 2, THE REFERENCE: a sign for one, brackets, a choice, numbers -/
theorem si_swap {w : Wd} {k j k' j' : Nat} {v v' : Int32} (h : ¬ (k = k' ∧ j = j')) : si (si w k j v) k' j' v' = si (si w k' j' v') k j v := by
  refine Prod.ext ?_ rfl
  funext a b
  show (if a = k' ∧ b = j' then v' else if a = k ∧ b = j then v else gi w a b) = (if a = k ∧ b = j then v else if a = k' ∧ b = j' then v' else gi w a b)
  by_cases q1 : a = k' ∧ b = j'
  · by_cases q2 : a = k ∧ b = j
    · exact absurd ⟨q2.1.symm.trans q1.1, q2.2.symm.trans q1.2⟩ h
    · rw [if_pos q1, if_neg q2, if_pos q1]
  · rw [if_neg q1]
    by_cases q2 : a = k ∧ b = j
    · rw [if_pos q2, if_pos q2]
    · rw [if_neg q2, if_neg q2, if_neg q1]
/-- a world with one code more -/
def opU (w : Wd) (n : Nat) (a x y z : Int32) : Wd := si (si (si (si (si w 46 (4 * n) a) 46 (4 * n + 1) x) 46 (4 * n + 2) y) 46 (4 * n + 3) z) 0 64 (Int32.ofNat (n + 1))
theorem op_eq {w : Wd} {n : Nat} {a x y z : Int32} (h3 : gi w 0 64 = Int32.ofNat n) (hn : n < 60000) : fX12_op a x y z w = some (Int32.ofNat n, opU w n a x y z) := by
  unfold fX12_op
  have e1 : ∀ n : Nat, Int32.ofNat (4 * n) + 2 = Int32.ofNat (4 * n + 2) := fun n => add_iN _ 2
  have e3 : ∀ n : Nat, Int32.ofNat (4 * n) + 3 = Int32.ofNat (4 * n + 3) := fun n => add_iN _ 3
  rw [h3, four_op, if_pos (inb_iN (by omega) (by omega)), tc_iN (by omega), ltq, gi_si1 (by omega), h3, four_op, ad1_iN, if_pos (inb_iN (by omega) (by omega)), tc_iN (by omega), ltq, gi_si1 (by omega), gi_si1 (by omega), h3, four_op, e1, if_pos (inb_iN (by omega) (by omega)), tc_iN (by omega), ltq, gi_si1 (by omega), gi_si1 (by omega), gi_si1 (by omega), h3, four_op, e3, if_pos (inb_iN (by omega) (by omega)), tc_iN (by omega), ltq, gi_si1 (by omega), gi_si1 (by omega), gi_si1 (by omega), gi_si1 (by omega), h3, ad1_iN, ltq, gi_si0, sb1_iN (by omega) (by omega)]
  rfl
theorem opU_comm {w : Wd} {n i : Nat} {a x y z t : Int32} (h : i < n) : opU (si w 46 (4 * i + 1) t) n a x y z = si (opU w n a x y z) 46 (4 * i + 1) t := by
  unfold opU
  rw [si_swap (k := 46) (j := 4 * i + 1) (k' := 46) (j' := 4 * n) (by omega), si_swap (k := 46) (j := 4 * i + 1) (k' := 46) (j' := 4 * n + 1) (by omega), si_swap (k := 46) (j := 4 * i + 1) (k' := 46) (j' := 4 * n + 2) (by omega), si_swap (k := 46) (j := 4 * i + 1) (k' := 46) (j' := 4 * n + 3) (by omega), si_swap (k := 46) (j := 4 * i + 1) (k' := 0) (j' := 64) (by omega)]
section SG
variable {kd wr nm : Nat → Nat} {vv : Nat → Int64} {m lev cur sp : Nat} {fA fM : Wd} {c c1 c2 C TK : Nat → Nat} {SL : Nat → List Nat} {w u v : Wd} {L L1 L2 : List (Nat × Int32)} {P P1 P2 : Nat → Nat → Wd → Prop} {a0 a1 a2 a3 b0 b1 b2 b3 : Nat} {lu : Nat → Nat}
/-- one code whose jump is set later -/
theorem EM.set {a y z : Int32} (τ : Nat → Int32) (h0 : EM kd wr m fM lev cur sp c (upC c 0 (c 0 + 1)) w u [] (fun b b' g => opW g b a 0 y z ∧ b' = b + 1) 1 0 0 0) (h : EM kd wr m fM lev cur sp (upC c 0 (c 0 + 1)) c2 u v L P a0 a1 a2 a3) :
    EM kd wr m fM lev cur sp c c2 w (si v 46 (4 * c 0 + 1) (τ (c2 0))) L (fun b b' g => opW g b a (τ b') y z ∧ P (b + 1) b' g) (a0 + 1) a1 a2 a3 := by
  obtain ⟨h1, h2, h3, h4, h5, h6, h7, h8⟩ := h
  obtain ⟨g1, g2, g3, g4, g5, g6, g7, g8⟩ := h0
  have e0 : upC c 0 (c 0 + 1) 0 = c 0 + 1 := upC_s
  have e1 : ∀ i, i ≠ 0 → upC c 0 (c 0 + 1) i = c i := fun i hi => upC_n hi
  have l0 := h6 0
  rw [e0] at h7 l0
  rw [e1 1 (by omega), e1 2 (by omega), e1 3 (by omega)] at h7
  have hO : OFF (fun k j => k = 46 ∧ j = 4 * c 0 + 1) (si v 46 (4 * c 0 + 1) (τ (c2 0))) v := OFF.si ⟨rfl, rfl⟩
  have hLE : LEC c c2 := fun i => Nat.le_trans (g6 i) (h6 i)
  refine ⟨h1.off hO (fun k j hk => by unfold PGM PGX; omega), ?_, OFF.tr (hO.mono fun k j hk => by unfold PGX; omega) (OFF.tr h3 g3), ?_, fun j hj => ((hO 59 j (by omega)).1.trans (h5 j hj)).trans (g5 j hj), hLE, by omega, fun g hg => ⟨?_, ?_⟩⟩
  · show (gi _ 0 10, gi _ 0 11) = _
    rw [(hO 0 10 (by omega)).1, (hO 0 11 (by omega)).1]
    exact h2.trans (by rw [g2]; rfl)
  · intro k j hk
    have := h4.tr g4 g6 k j hk
    exact ((hO k j (by omega)).1).trans this
  · have hq := (g8 u SAM.rf).1
    obtain ⟨q1, q2, q3, q4⟩ := hq
    have hk : ∀ j, (4 * c 0 ≤ j ∧ j < 4 * c 0 + 4) → j ≠ 4 * c 0 + 1 → gi g 46 j = gi u 46 j := fun j hj hn => by
      rw [hg 46 j (Or.inl ⟨rfl, by omega, by omega⟩), (hO 46 j (by omega)).1]
      exact h4 46 j (Or.inl ⟨rfl, by rw [e0]; omega⟩)
    refine ⟨(hk _ (by omega) (by omega)).trans q1, ?_, (hk _ (by omega) (by omega)).trans q3, (hk _ (by omega) (by omega)).trans q4⟩
    rw [hg 46 _ (Or.inl ⟨rfl, by omega, by omega⟩), gi_si0]
  · have := h8 g (fun k j hk => by
      rw [e0] at hk
      rw [e1 1 (by omega), e1 2 (by omega), e1 3 (by omega)] at hk
      have hz := hg k j (by omega)
      exact hz.trans (hO k j (by omega)).1)
    rw [e0] at this
    exact this
theorem v_eq {N n s : Nat} (h : GCS kd wr m fM lev cur c sp w) (hn : n < 24000) (h7 : gi fM 7 n = Int32.ofNat s) (hs : s < 10) : RX12_mustBe (N + 1) 1 (Int32.ofNat n) 0 0 w = fX12_value (RX12_mustBe N) (Int32.ofNat n) w ∧ gi w 7 n = Int32.ofNat s ∧ inb (Int32.ofNat n) 24000 = true ∧ (Int32.ofNat n).toNatClampNeg = n := ⟨rfl, ((h.fx (k := 7) (by unfold PGM PGX; omega)).1).trans h7, inb_iN hn (by omega), tc_iN (by omega)⟩
theorem vs_num {k N n : Nat} (hn : n < 24000) (h7 : gi fM 7 n = 1) : VS kd wr m fM lu lev cur (k + 1) (N + 1) n 1 := by
  intro c sp w h hf
  unfold FIT at hf
  obtain ⟨e1, e2, e3, e4⟩ := v_eq (N := N) (s := 1) h hn h7 (by omega)
  obtain ⟨u, u1, u2⟩ := EM.op h (by omega) (a := 1) (x := gi fM 12 n) (y := 0) (z := 0)
  have hty : TYX fM lu (k + 1) n = 1 := by
    unfold TYX
    rw [if_pos h7]
  have hfl : FLX fM lu cur (k + 1) 0 n 0 = [] := by
    rw [FLX]
    dsimp only
    rw [if_pos rfl, if_pos (Or.inl h7)]
  refine ⟨u, upC c 0 (c 0 + 1), ?_, ?_⟩
  · rw [e1, hty]
    unfold fX12_value
    rw [if_pos e3, e4, e2, ltq, if_pos (show Int32.ofNat 1 = 1 from rfl), (h.fx (k := 12) (by unfold PGM PGX; omega)).1, u1, if_pos e3]
    rfl
  · rw [hfl]
    refine u2.wk (fun b b' g hg _ => ?_) (by omega)
    rw [CDM]
    dsimp only
    rw [if_pos rfl, if_pos h7]
    exact hg
theorem vs_truth {k N n : Nat} (hn : n < 24000) (h7 : gi fM 7 n = 2) : VS kd wr m fM lu lev cur (k + 1) (N + 1) n 1 := by
  intro c sp w h hf
  unfold FIT at hf
  obtain ⟨e1, e2, e3, e4⟩ := v_eq (N := N) (s := 2) h hn h7 (by omega)
  obtain ⟨u, u1, u2⟩ := EM.op h (by omega) (a := 1) (x := -1) (y := gi fM 8 n) (z := 0)
  have n1 : ¬ gi fM 7 n = 1 := by rw [h7]; decide
  have hty : TYX fM lu (k + 1) n = 2 := by
    unfold TYX
    rw [if_neg n1, if_pos h7]
  have hfl : FLX fM lu cur (k + 1) 0 n 0 = [] := by
    rw [FLX]
    dsimp only
    rw [if_pos rfl, if_pos (Or.inr h7)]
  refine ⟨u, upC c 0 (c 0 + 1), ?_, ?_⟩
  · rw [e1, hty]
    unfold fX12_value
    rw [if_pos e3, e4, e2, ltq, if_neg (show ¬ (Int32.ofNat 2 = 1) by decide), if_pos (show Int32.ofNat 2 = 2 from rfl), (h.fx (k := 8) (by unfold PGM PGX; omega)).1, u1, if_pos e3]
    rfl
  · rw [hfl]
    refine u2.wk (fun b b' g hg _ => ?_) (by omega)
    rw [CDM]
    dsimp only
    rw [if_pos rfl, if_neg n1, if_pos h7]
    exact hg
theorem vs_group {k N n x T : Nat} (hn : n < 24000) (hx : x < 24000) (h7 : gi fM 7 n = 9) (h8 : gi fM 8 n = Int32.ofNat x) (hV : VS kd wr m fM lu lev cur k N x T) : VS kd wr m fM lu lev cur (k + 1) (N + 1) n (T + 2) := by
  intro c sp w h hf
  unfold FIT at hf
  obtain ⟨e1, e2, e3, e4⟩ := v_eq (N := N) (s := 9) h hn h7 (by omega)
  obtain ⟨u, c', u1, u2⟩ := hV c sp w h (by unfold FIT; omega)
  have n1 : ¬ gi fM 7 n = 1 := by rw [h7]; decide
  have n2 : ¬ gi fM 7 n = 2 := by rw [h7]; decide
  have e8 : nd fM 8 n = x := by
    unfold nd
    rw [h8, tc_iN (by omega)]
  have hty : TYX fM lu (k + 1) n = TYX fM lu k x := by
    rw [TYX, if_neg n1, if_neg n2, if_pos h7, e8]
  have hfl : FLX fM lu cur (k + 1) 0 n 0 = FLX fM lu cur k 0 x 0 := by
    rw [FLX]
    dsimp only
    rw [if_pos rfl, if_neg (fun g => g.elim n1 n2), if_pos h7, e8]
  refine ⟨u, c', ?_, ?_⟩
  · rw [e1, hty]
    unfold fX12_value
    rw [if_pos e3, e4, e2, ltq, if_neg (show ¬ (Int32.ofNat 9 = 1) by decide), if_neg (show ¬ (Int32.ofNat 9 = 2) by decide), if_neg (show ¬ (Int32.ofNat 9 = 3) by decide), if_neg (show ¬ (Int32.ofNat 9 = 4) by decide), if_neg (show ¬ (Int32.ofNat 9 = 5) by decide), if_neg (show ¬ (Int32.ofNat 9 = 7) by decide), if_neg (show ¬ (Int32.ofNat 9 = 8) by decide), if_pos (show Int32.ofNat 9 = 9 from rfl), (h.fx (k := 8) (by unfold PGM PGX; omega)).1, h8, u1, if_pos e3]
    rfl
  · rw [hfl]
    refine u2.wk (fun b b' g hg hnil => ?_) (by omega)
    rw [CDM]
    dsimp only
    rw [if_pos rfl, if_neg n1, if_neg n2, if_pos h7, e8]
    exact hg hnil
theorem vs_one {k N n x T tx : Nat} (hn : n < 24000) (hx : x < 24000) (h7 : gi fM 7 n = 7) (h8 : gi fM 8 n = Int32.ofNat x) (hxt : gi fM 12 x = Int32.ofNat tx) (htx : tx ≤ m) (hT : 1 ≤ T) (hV : VS kd wr m fM lu lev cur k N x T) : VS kd wr m fM lu lev cur (k + 1) (N + 2) n (T + 1) := by
  intro c sp w h hf
  unfold FIT at hf
  obtain ⟨e1, e2, e3, e4⟩ := v_eq (N := N + 1) (s := 7) h hn h7 (by omega)
  have n1 : ¬ gi fM 7 n = 1 := by rw [h7]; decide
  have n2 : ¬ gi fM 7 n = 2 := by rw [h7]; decide
  have n3 : ¬ gi fM 7 n = 3 := by rw [h7]; decide
  have n4 : ¬ gi fM 7 n = 4 := by rw [h7]; decide
  have n5 : ¬ gi fM 7 n = 5 := by rw [h7]; decide
  have n8 : ¬ gi fM 7 n = 8 := by rw [h7]; decide
  have n9 : ¬ gi fM 7 n = 9 := by rw [h7]; decide
  have e8 : nd fM 8 n = x := by
    unfold nd
    rw [h8, tc_iN (by omega)]
  have hty : TYX fM lu (k + 1) n = if gi fM 9 n = 281 then 2 else 1 := by
    rw [TYX, if_neg n1, if_neg n2, if_neg n9, if_neg n3, if_neg n4, if_neg n5, if_neg n8, if_pos h7]
  have hfl : FLX fM lu cur (k + 1) 0 n 0 = FLX fM lu cur k 0 x 0 ++ misT (TYX fM lu k x) (if gi fM 9 n = 281 then 2 else 1) (nd fM 12 x) := by
    rw [FLX]
    dsimp only
    rw [if_pos rfl, if_neg (fun g => g.elim n1 n2), if_neg n9, if_neg n3, if_neg n4, if_neg n5, if_neg n8, if_pos h7, e8]
  have hcd : ∀ b b' g, (CDM fM lu lev (k + 1) 0 n 0 0 b b' g ↔ (gi fM 9 n = 43 ∧ CDM fM lu lev k 0 x 0 0 b b' g) ∨ (gi fM 9 n ≠ 43 ∧ ∃ b1, CDM fM lu lev k 0 x 0 0 b b1 g ∧ opW g b1 9 (gi fM 9 n) 0 0 ∧ b' = b1 + 1)) := fun b b' g => by
    rw [CDM]
    dsimp only
    rw [if_pos rfl, if_neg n1, if_neg n2, if_neg n9, if_neg n3, if_neg n4, if_neg n5, if_neg n8, if_pos h7, e8]
  -- one TYPE
  have h262 : ∀ s0, ∃ u c', fX12_value_262 (RX12_mustBe (N + 1)) s0 (Int32.ofNat n) w = some (s0, u) ∧ EM kd wr m fM lev cur sp c c' w u (FLX fM lu cur k 0 x 0 ++ misT (TYX fM lu k x) s0 (nd fM 12 x)) (fun b b' g => FLX fM lu cur k 0 x 0 = [] → CDM fM lu lev (k + 1) 0 n 0 0 b b' g) (2 * (T + 1) - 1) ((T + 1 - 1) / 2) ((T + 1 + 1) / 2) ((T + 1 - 1) / 2) := fun s0 => by
    obtain ⟨u, c', u1, u2⟩ := g_mb hV h (by unfold FIT; omega) hx hxt htx (ty := s0)
    have hb := u2.2.2.2.2.2.2.1
    unfold fX12_value_262
    rw [if_pos e3, e4, (h.fx (k := 8) (by unfold PGM PGX; omega)).1, h8, u1, bn2_so, if_pos e3, (u2.1.fx (k := 9) (by unfold PGM PGX; omega)).1]
    by_cases q : gi fM 9 n = 43
    · rw [if_pos q]
      exact ⟨u, c', rfl, u2.wk (fun b b' g hg hnil => (hcd b b' g).mpr (Or.inl ⟨q, hg hnil⟩)) (by omega)⟩
    · obtain ⟨u', v1, v2⟩ := EM.op u2.1 (by omega) (a := 9) (x := gi fM 9 n) (y := 0) (z := 0)
      rw [if_neg q, if_pos e3, v1]
      refine ⟨u', upC c' 0 (c' 0 + 1), rfl, ((u2.seq v2).fls (List.append_nil _)).wk (fun b b' g hg hnil => ?_) (by omega)⟩
      obtain ⟨b1, g1, g2⟩ := hg
      exact (hcd b b' g).mpr (Or.inr ⟨q, b1, g1 hnil, g2⟩)
  have hfin : ∀ s0, (if gi fM 9 n = 281 then (2 : Int32) else 1) = s0 → ∃ u c', fX12_value_262 (RX12_mustBe (N + 1)) s0 (Int32.ofNat n) w = some (TYX fM lu (k + 1) n, u) ∧ EM kd wr m fM lev cur sp c c' w u (FLX fM lu cur (k + 1) 0 n 0) (fun b b' g => FLX fM lu cur (k + 1) 0 n 0 = [] → CDM fM lu lev (k + 1) 0 n 0 0 b b' g) (2 * (T + 1) - 1) ((T + 1 - 1) / 2) ((T + 1 + 1) / 2) ((T + 1 - 1) / 2) := fun s0 hs => by
    obtain ⟨u, c', u1, u2⟩ := h262 s0
    rw [hty, hfl, hs]
    exact ⟨u, c', u1, u2.wk (fun b b' g hg hnil => hg (List.append_eq_nil_iff.mp hnil).1) (by omega)⟩
  rw [show N + 2 = N + 1 + 1 by omega, e1]
  unfold fX12_value
  rw [if_pos e3, e4, e2, ltq, if_neg (show ¬ (Int32.ofNat 7 = 1) by decide), if_neg (show ¬ (Int32.ofNat 7 = 2) by decide), if_neg (show ¬ (Int32.ofNat 7 = 3) by decide), if_neg (show ¬ (Int32.ofNat 7 = 4) by decide), if_neg (show ¬ (Int32.ofNat 7 = 5) by decide), if_pos (show Int32.ofNat 7 = 7 from rfl), if_pos e3, (h.fx (k := 9) (by unfold PGM PGX; omega)).1]
  by_cases q : gi fM 9 n = 281
  · rw [if_pos q]
    exact hfin 2 (if_pos q)
  · rw [if_neg q]
    exact hfin 1 (if_neg q)
end SG
