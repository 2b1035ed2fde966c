/-! PASS 2, THE REFERENCE: an ELEMENT, as a place and as an EXPR -/
/-- faults of an ELEMENT -/
def elF (fM : Wd) (lu : Nat → Nat) (cur k n : Nat) : List (Nat × Int32) :=
  notD (lu (nd fM 12 n)) (nd fM 12 n) ++ (nxL fM k (gi fM 8 n)).flatMap (fun x => FLX fM lu cur k 0 x 0 ++ misT (TYX fM lu k x) 1 (nd fM 12 x)) ++
    (if lu (nd fM 12 n) = 0 then [] else if gi fM 19 (lu (nd fM 12 n) - 1) = 2 ∨ FO fM (lu (nd fM 12 n) - 1) 2 then (if (gi fM 19 (lu (nd fM 12 n) - 1) = 2 ∧ gi fM 24 (lu (nd fM 12 n) - 1) ≠ gi fM 9 n) ∨ (FO fM (lu (nd fM 12 n) - 1) 2 ∧ ¬ gi fM 9 n ≤ 3) then [(nd fM 12 n, 5)] else []) else misS fM (lu (nd fM 12 n)) (nd fM 12 n))
/-- codes of an ELEMENT's place -/
def elCM (fM : Wd) (lu : Nat → Nat) (lev k n b b' : Nat) (g : Wd) : Prop := ∃ b1, rwM (fun x _ b b' => CDM fM lu lev k 0 x 0 0 b b' g) (nxL fM k (gi fM 8 n)) 0 b b1 ∧ cdE fM lev (lu (nd fM 12 n)) n b1 b' g
section SG
variable {kd wr nm : Nat → Nat} {vv : Nat → Int64} {m lev cur sp : Nat} {fA fM : Wd} {c c1 c2 C TK : Nat → Nat} {SL : Nat → List Nat} {w u v : Wd} {L L1 L2 : List (Nat × Int32)} {P P1 P2 : Nat → Nat → Wd → Prop} {a0 a1 a2 a3 b0 b1 b2 b3 : Nat} {lu : Nat → Nat}
theorem smT_len {k N : Nat} : ∀ ps : List (Nat × Nat), (∀ p ∈ ps, RWN kd wr m fM lu lev cur k N p) → 2 * ps.length ≤ smT ps := by
  intro ps
  induction ps with
  | nil => exact fun _ => Nat.le_refl _
  | cons q r ih =>
    intro h
    have h1 := (h q List.mem_cons_self).2.2
    have h2 := ih (fun q hq => h q (List.mem_cons_of_mem _ hq))
    show 2 * (r.length + 1) ≤ q.2 + 1 + smT r
    omega
theorem g_elem (hT : TBM kd wr nm vv m C TK SL fA fM) {k N n tk : Nat} {stk : List Nat} {ps : List (Nat × Nat)} (h : GCS kd wr m fM lev cur c sp w) (hU : UPM (C 2) fM stk) (hl : stk.length < 9000) (hn : n < 24000) (h12 : gi fM 12 n = Int32.ofNat tk) (h13 : gi fM 13 n = hdM stk) (ht : tk < m) (hk : kd tk = 2) (hx : nxC fM (ps.map Prod.fst) (gi fM 8 n)) (hps : ∀ p ∈ ps, RWN kd wr m fM (luN nm TK SL stk) lev cur k N p) (hlen : ps.length ≤ k) (hf : FIT c sp (smT ps + 1)) :
    ∃ u c', fX12_element (RX12_mustBe (N + 1)) (Int32.ofNat n) w = some (tyE fM (luN nm TK SL stk (nd fM 12 n)), u) ∧ EM kd wr m fM lev cur sp c c' w u (elF fM (luN nm TK SL stk) cur k n) (fun b b' g => elF fM (luN nm TK SL stk) cur k n = [] → elCM fM (luN nm TK SL stk) lev k n b b' g) (2 * smT ps - 3 * ps.length + 1) (smT ps / 2) (smT ps / 2) (smT ps / 2) := by
  have hm := h.1.1.1
  have hC := hT.2.2.2.1
  have hf' := hf
  unfold FIT at hf
  have et : nd fM 12 n = tk := by
    unfold nd
    rw [h12, tc_iN (by omega)]
  have hnx : nxL fM k (gi fM 8 n) = ps.map Prod.fst := nxL_eq _ _ _ hx (by rw [List.length_map]; exact hlen)
  have h2l := smT_len ps hps
  have hle := luN_le hT hU (tk := tk)
  obtain ⟨w2, s1, s2, s3, s4⟩ := g_seen hT h hU hl hn h12 h13 ht hk
  obtain ⟨F, hF⟩ := FU_ge (k := ps.length + 1) (by omega)
  obtain ⟨u1, d1, r1, r2⟩ := el_row (n := n) (x1 := if luN nm TK SL stk tk = 0 then -1 else Int32.ofNat (luN nm TK SL stk tk - 1)) ps hps (gi fM 8 n) c w2 F 0 hx s2 (by unfold FIT; omega)
  have hb := r2.2.2.2.2.2.2.1
  obtain ⟨u, c', f1, f2⟩ := el_fin hT r2.1 (N := N + 1) (fo := F) hn h12 (by omega) hle (by omega)
  refine ⟨u, c', ?_, ?_⟩
  · unfold fX12_element
    rw [s1, bn2_so, if_pos (inb_iN hn (by omega)), tc_iN (by omega), (s2.fx (k := 8) (by unfold PGM PGX; omega)).1, ltq, hF, ← Nat.add_assoc, r1, f1, et]
  · have hall := EM.after (L1 := notD (luN nm TK SL stk tk) tk) (by
      unfold notD
      exact s3) s4 (r2.seq f2)
    unfold elF elCM
    rw [hnx, et]
    refine (hall.fls (by rw [List.append_assoc])).wk (fun b b' g hg hnil => ?_) (by omega)
    obtain ⟨m1, m2⟩ := List.append_eq_nil_iff.mp hnil
    obtain ⟨m3, m4⟩ := List.append_eq_nil_iff.mp m1
    obtain ⟨b1, g1, g2⟩ := hg
    have hl0 : luN nm TK SL stk tk ≠ 0 := fun e => by
      unfold notD at m3
      rw [if_pos e] at m3
      exact absurd m3 (by simp)
    refine ⟨b1, g1 m4, g2 hl0 ?_⟩
    rw [if_neg hl0] at m2
    by_cases q : gi fM 19 (luN nm TK SL stk tk - 1) = 2 ∨ FO fM (luN nm TK SL stk tk - 1) 2
    · rcases q with q | q
      · exact Or.inl q
      · exact Or.inr (Or.inl q)
    · rw [if_neg q] at m2
      unfold misS at m2
      by_cases q2 : FO fM (luN nm TK SL stk tk - 1) 0
      · exact Or.inr (Or.inr q2)
      · rw [if_neg q2] at m2
        exact absurd m2 (by simp)
theorem vs_index (hT : TBM kd wr nm vv m C TK SL fA fM) {k N n tk : Nat} {stk : List Nat} {ps : List (Nat × Nat)} (hU : UPM (C 2) fM stk) (hl : stk.length < 9000) (hn : n < 24000) (h7 : gi fM 7 n = 4) (h12 : gi fM 12 n = Int32.ofNat tk) (h13 : gi fM 13 n = hdM stk) (ht : tk < m) (hk : kd tk = 2) (hx : nxC fM (ps.map Prod.fst) (gi fM 8 n)) (hps : ∀ p ∈ ps, RWN kd wr m fM (luN nm TK SL stk) lev cur k N p) (hlen : ps.length ≤ k) : VS kd wr m fM (luN nm TK SL stk) lev cur (k + 1) (N + 3) n (smT ps + 2) := by
  intro c sp w h hf
  unfold FIT at hf
  obtain ⟨e1, e2, e3, e4⟩ := v_eq (N := N + 2) (s := 4) h hn h7 (by omega)
  have e5 : ∀ v, RX12_mustBe (N + 2) 4 (Int32.ofNat n) 0 0 v = fX12_element (RX12_mustBe (N + 1)) (Int32.ofNat n) v := fun _ => rfl
  have n1 : ¬ gi fM 7 n = 1 := by rw [h7]; decide
  have n2 : ¬ gi fM 7 n = 2 := by rw [h7]; decide
  have n3 : ¬ gi fM 7 n = 3 := by rw [h7]; decide
  have n9 : ¬ gi fM 7 n = 9 := by rw [h7]; decide
  have h2l := smT_len ps hps
  obtain ⟨u1, d1, r1, r2⟩ := g_elem hT h hU hl hn h12 h13 ht hk hx hps hlen (by unfold FIT; omega)
  have hb := r2.2.2.2.2.2.2.1
  obtain ⟨u, v1, v2⟩ := EM.op r2.1 (by omega) (a := 6) (x := 0) (y := 0) (z := 0)
  have hty : TYX fM (luN nm TK SL stk) (k + 1) n = tyE fM (luN nm TK SL stk (nd fM 12 n)) := by
    rw [TYX, if_neg n1, if_neg n2, if_neg n9, if_neg n3, if_pos h7]
  have hfl : FLX fM (luN nm TK SL stk) cur (k + 1) 0 n 0 = elF fM (luN nm TK SL stk) cur k n := by
    rw [FLX]
    dsimp only
    rw [if_pos rfl, if_neg (fun g => g.elim n1 n2), if_neg n9, if_neg n3, if_pos h7]
    rfl
  refine ⟨u, _, ?_, ((r2.seq v2).fls (by rw [hfl, List.append_nil])).wk (fun b b' g hg hnil => ?_) (by omega)⟩
  · rw [show N + 3 = N + 2 + 1 by omega, e1, hty]
    unfold fX12_value
    rw [if_pos e3, e4, e2, ltq, if_neg (show ¬ (Int32.ofNat 4 = 1) by decide), if_neg (show ¬ (Int32.ofNat 4 = 2) by decide), if_neg (show ¬ (Int32.ofNat 4 = 3) by decide), if_pos (show Int32.ofNat 4 = 4 from rfl), e5, r1, bn2_so, v1]
    rfl
  · rw [hfl] at hnil
    obtain ⟨b1, g1, g2, g3⟩ := hg
    obtain ⟨b2, g4, g5⟩ := g1 hnil
    rw [CDM]
    dsimp only
    rw [if_pos rfl, if_neg n1, if_neg n2, if_neg n9, if_neg n3, if_pos h7]
    exact ⟨b1, ⟨b2, g4, g5⟩, g2, g3⟩
end SG
