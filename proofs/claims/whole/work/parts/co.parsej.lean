/-! BOTH SIDES: the first pass, whole -/
section TOP
variable {kd wr nm : Nat → Nat} {vv : Nat → Int64} {m z : Nat} {gA gM : Wd}
theorem restart_ok {w : Wd} {bb : Bool} : ∃ u, fX1_restart bb w = u ∧ gi u 3 5 = b2i bb ∧ gi u 4 9 = 0 ∧ gi u 26 8 = 0 ∧ gi u 26 9 = 0 ∧ gi u 26 10 = 0 ∧ gi u 34 5 = 0 ∧ gi u 35 0 = 0 ∧ gi u 36 0 = 6 ∧ gi u 37 0 = 6 ∧ gi u 38 0 = 0 ∧ gi u 39 0 = 2 ∧ gi u 40 1 = gi w 13 12 ∧ OFF (fun k j => (k = 3 ∧ j = 5) ∨ (k = 4 ∧ j = 9) ∨ k = 26 ∨ (34 ≤ k ∧ k ≤ 40)) u w := by
  have r : ∀ (u : Wd) (k : Nat) (v : Int32), rsi u k 64 0 v = si u k 0 v := fun u k v => rsi_iN (n := 0) (m := 64) (by omega) (by omega)
  refine ⟨_, rfl, ?_⟩
  unfold fX1_restart fX9_rewind fX7_restart fX5_restart fX8_size fX0_restart
  rw [ltq, ltq, ltq, ltq, ltq, ltq, ltq, ltq, ltq, ltq, ltq, ltq, ltq]
  have o1 : OFF (fun k j => (k = 3 ∧ j = 5) ∨ (k = 4 ∧ j = 9) ∨ k = 26 ∨ (34 ≤ k ∧ k ≤ 40)) (si (si (si (si (si (si w 3 5 (b2i bb)) 4 9 0) 26 8 0) 26 9 0) 26 10 0) 34 5 (-1)) w := OFF.tr (OFF.si (by omega)) (OFF.tr (OFF.si (by omega)) (OFF.tr (OFF.si (by omega)) (OFF.tr (OFF.si (by omega)) (OFF.tr (OFF.si (by omega)) (OFF.si (by omega))))))
  have a35 : gi (si (si (si (si (si (si w 3 5 (b2i bb)) 4 9 0) 26 8 0) 26 9 0) 26 10 0) 34 5 (-1)) 3 5 = b2i bb := by rw [gi_si1 (by omega), gi_si1 (by omega), gi_si1 (by omega), gi_si1 (by omega), gi_si1 (by omega), gi_si0]
  have a49 : gi (si (si (si (si (si (si w 3 5 (b2i bb)) 4 9 0) 26 8 0) 26 9 0) 26 10 0) 34 5 (-1)) 4 9 = 0 := by rw [gi_si1 (by omega), gi_si1 (by omega), gi_si1 (by omega), gi_si1 (by omega), gi_si0]
  have a8 : gi (si (si (si (si (si (si w 3 5 (b2i bb)) 4 9 0) 26 8 0) 26 9 0) 26 10 0) 34 5 (-1)) 26 8 = 0 := by rw [gi_si1 (by omega), gi_si1 (by omega), gi_si1 (by omega), gi_si0]
  have a9 : gi (si (si (si (si (si (si w 3 5 (b2i bb)) 4 9 0) 26 8 0) 26 9 0) 26 10 0) 34 5 (-1)) 26 9 = 0 := by rw [gi_si1 (by omega), gi_si1 (by omega), gi_si0]
  have a10 : gi (si (si (si (si (si (si w 3 5 (b2i bb)) 4 9 0) 26 8 0) 26 9 0) 26 10 0) 34 5 (-1)) 26 10 = 0 := by rw [gi_si1 (by omega), gi_si0]
  have a34 : gi (si (si (si (si (si (si w 3 5 (b2i bb)) 4 9 0) 26 8 0) 26 9 0) 26 10 0) 34 5 (-1)) 34 5 = -1 := gi_si0 _ _ _ _
  generalize si (si (si (si (si (si w 3 5 (b2i bb)) 4 9 0) 26 8 0) 26 9 0) 26 10 0) 34 5 (-1) = w1 at o1 a35 a49 a8 a9 a10 a34 ⊢
  have e : fX5_enter 0 w1 = si (si (si (si (si (si w1 34 5 0) 35 0 0) 36 0 6) 37 0 6) 38 0 0) 39 0 2 := by
    unfold fX5_enter
    rw [ltq, ltq, ltq, ltq, ltq, ltq, a34, show (-1 : Int32) + 1 = 0 by decide, gi_si0, r, gi_si1 (by omega), gi_si0, r, gi_si1 (by omega), gi_si1 (by omega), gi_si0, r, gi_si1 (by omega), gi_si1 (by omega), gi_si1 (by omega), gi_si0, r, gi_si1 (by omega), gi_si1 (by omega), gi_si1 (by omega), gi_si1 (by omega), gi_si0, r]
  rw [e]
  have o2 : OFF (fun k j => 34 ≤ k ∧ k ≤ 39) (si (si (si (si (si (si w1 34 5 0) 35 0 0) 36 0 6) 37 0 6) 38 0 0) 39 0 2) w1 := OFF.tr (OFF.si (by omega)) (OFF.tr (OFF.si (by omega)) (OFF.tr (OFF.si (by omega)) (OFF.tr (OFF.si (by omega)) (OFF.tr (OFF.si (by omega)) (OFF.si (by omega))))))
  have b34 : gi (si (si (si (si (si (si w1 34 5 0) 35 0 0) 36 0 6) 37 0 6) 38 0 0) 39 0 2) 34 5 = 0 := by rw [gi_si1 (by omega), gi_si1 (by omega), gi_si1 (by omega), gi_si1 (by omega), gi_si1 (by omega), gi_si0]
  have b35 : gi (si (si (si (si (si (si w1 34 5 0) 35 0 0) 36 0 6) 37 0 6) 38 0 0) 39 0 2) 35 0 = 0 := by rw [gi_si1 (by omega), gi_si1 (by omega), gi_si1 (by omega), gi_si1 (by omega), gi_si0]
  have b36 : gi (si (si (si (si (si (si w1 34 5 0) 35 0 0) 36 0 6) 37 0 6) 38 0 0) 39 0 2) 36 0 = 6 := by rw [gi_si1 (by omega), gi_si1 (by omega), gi_si1 (by omega), gi_si0]
  have b37 : gi (si (si (si (si (si (si w1 34 5 0) 35 0 0) 36 0 6) 37 0 6) 38 0 0) 39 0 2) 37 0 = 6 := by rw [gi_si1 (by omega), gi_si1 (by omega), gi_si0]
  have b38 : gi (si (si (si (si (si (si w1 34 5 0) 35 0 0) 36 0 6) 37 0 6) 38 0 0) 39 0 2) 38 0 = 0 := by rw [gi_si1 (by omega), gi_si0]
  have b39 : gi (si (si (si (si (si (si w1 34 5 0) 35 0 0) 36 0 6) 37 0 6) 38 0 0) 39 0 2) 39 0 = 2 := gi_si0 _ _ _ _
  generalize si (si (si (si (si (si w1 34 5 0) 35 0 0) 36 0 6) 37 0 6) 38 0 0) 39 0 2 = w2 at o2 b34 b35 b36 b37 b38 b39 ⊢
  have hn : ∀ k j, ¬ (k = 40 ∧ j = 1) → gi (si w2 40 1 (gi w2 13 12)) k j = gi w2 k j := fun k j hk => gi_si1 (by omega)
  refine ⟨?_, ?_, ?_, ?_, ?_, by rw [hn 34 5 (by omega)]; exact b34, by rw [hn 35 0 (by omega)]; exact b35, by rw [hn 36 0 (by omega)]; exact b36, by rw [hn 37 0 (by omega)]; exact b37, by rw [hn 38 0 (by omega)]; exact b38, by rw [hn 39 0 (by omega)]; exact b39, ?_, OFF.tr (OFF.si (by omega)) (OFF.tr (o2.mono fun k j h => by omega) o1)⟩
  · rw [hn 3 5 (by omega), (o2 3 5 (by omega)).1]; exact a35
  · rw [hn 4 9 (by omega), (o2 4 9 (by omega)).1]; exact a49
  · rw [hn 26 8 (by omega), (o2 26 8 (by omega)).1]; exact a8
  · rw [hn 26 9 (by omega), (o2 26 9 (by omega)).1]; exact a9
  · rw [hn 26 10 (by omega), (o2 26 10 (by omega)).1]; exact a10
  · rw [gi_si0, (o2 13 12 (by omega)).1, (o1 13 12 (by omega)).1]
/-- the reference as it begins -/
def prg (w : Wd) : Wd := si (si (si (si (si (si (si (si (si (si (si (si (si (si (si w 0 7 0) 0 8 0) 0 23 0) 0 28 0) 0 42 0) 0 59 0) 0 53 1) 0 30 0) 0 54 0) 0 10 0) 37 0 (-1)) 30 0 0) 34 0 0) 35 0 1) 0 29 (-1)
theorem prg_ok {w : Wd} : fX12_program w = be (RX12_block 900 0 0 0 0 (prg w)) fun x w21 => bn2 (fX12_kind w21) fun x23 w24 => if x23 = 291 then (some (some x, w24)) else (bn (fX12_bad w24) fun w26 => some (none, w26)) := by
  have hb : inb 0 1200 = true := by decide
  have ht : Int32.toNatClampNeg 0 = 0 := by decide
  unfold fX12_program prg
  generalize RX12_block 900 = R
  rw [ltq, ltq, ltq, ltq, ltq, ltq, ltq, ltq, ltq, ltq, if_pos hb, ltq, if_pos hb, ltq, if_pos hb, ltq, if_pos hb, ltq, ltq, ht]
theorem prg_at {w : Wd} : gi (prg w) 0 7 = 0 ∧ gi (prg w) 0 8 = 0 ∧ gi (prg w) 0 23 = 0 ∧ gi (prg w) 0 28 = 0 ∧ gi (prg w) 0 42 = 0 ∧ gi (prg w) 0 59 = 0 ∧ gi (prg w) 0 53 = 1 ∧ gi (prg w) 0 30 = 0 ∧ gi (prg w) 0 54 = 0 ∧ gi (prg w) 0 10 = 0 ∧ gi (prg w) 37 0 = -1 ∧ gi (prg w) 30 0 = 0 ∧ gi (prg w) 34 0 = 0 ∧ gi (prg w) 35 0 = 1 ∧ gi (prg w) 0 29 = -1 ∧ OFF (fun k j => (k = 0 ∧ (j = 7 ∨ j = 8 ∨ j = 23 ∨ j = 28 ∨ j = 42 ∨ j = 59 ∨ j = 53 ∨ j = 30 ∨ j = 54 ∨ j = 10 ∨ j = 29)) ∨ ((k = 37 ∨ k = 30 ∨ k = 34 ∨ k = 35) ∧ j = 0)) (prg w) w := by
  unfold prg
  refine ⟨?_, ?_, ?_, ?_, ?_, ?_, ?_, ?_, ?_, ?_, ?_, ?_, ?_, ?_, ?_, ?_⟩
  · repeat (first | rw [gi_si0] | rw [gi_si1 (by omega)])
  · repeat (first | rw [gi_si0] | rw [gi_si1 (by omega)])
  · repeat (first | rw [gi_si0] | rw [gi_si1 (by omega)])
  · repeat (first | rw [gi_si0] | rw [gi_si1 (by omega)])
  · repeat (first | rw [gi_si0] | rw [gi_si1 (by omega)])
  · repeat (first | rw [gi_si0] | rw [gi_si1 (by omega)])
  · repeat (first | rw [gi_si0] | rw [gi_si1 (by omega)])
  · repeat (first | rw [gi_si0] | rw [gi_si1 (by omega)])
  · repeat (first | rw [gi_si0] | rw [gi_si1 (by omega)])
  · repeat (first | rw [gi_si0] | rw [gi_si1 (by omega)])
  · repeat (first | rw [gi_si0] | rw [gi_si1 (by omega)])
  · repeat (first | rw [gi_si0] | rw [gi_si1 (by omega)])
  · repeat (first | rw [gi_si0] | rw [gi_si1 (by omega)])
  · repeat (first | rw [gi_si0] | rw [gi_si1 (by omega)])
  · repeat (first | rw [gi_si0] | rw [gi_si1 (by omega)])
  · repeat (first | exact OFF.si (by omega) | refine OFF.tr (OFF.si (by omega)) ?_)
def Cb0 : Nat → Nat := upC (fun _ => 0) 4 1
theorem Cb0_n {i : Nat} (h : i ≠ 4) : Cb0 i = 0 := upC_n h
theorem Cb0_4 : Cb0 4 = 1 := upC_s
/-- both at their first TOKEN -/
theorem start_ok {wA wM yA : Wd} (hT : TOKS kd wr nm vv m z wA wM) (hV : TV kd wr m wM) (hz : gi wA 4 8 = Int32.ofNat z) (hz1 : 1 ≤ z) (hk50 : ∀ i, kd i ≤ 50) (hk0 : ∀ i, z ≤ i + 1 → kd i = 0) (hti : ∀ i, i < z → gi wA 5 i = Int32.ofNat (kd i) ∧ gi wA 6 i = Int32.ofNat (wr i) ∧ wr i ≤ 8192 ∧ gi wA 8 i = 0 ∧ gi wA 9 i = 0 ∧ gi wA 10 i = Int32.ofNat i) (hf : gi wA 4 10 = -1) (hC : CLR z wA)
    (hO : OFF (fun k j => (k = 3 ∧ j = 5) ∨ (k = 4 ∧ j = 9) ∨ k = 26 ∨ (34 ≤ k ∧ k ≤ 47)) yA wA) (a1 : gi yA 3 5 = 0) (a2 : gi yA 4 9 = 0) (a3 : gi yA 26 8 = 0) (a4 : gi yA 26 9 = 0) (a5 : gi yA 26 10 = 0) (a6 : gi yA 34 5 = 0) (a7 : gi yA 36 0 = 6) (a8 : gi yA 38 0 = 0) (a9 : gi yA 43 4 = 0) :
    JL kd wr nm vv m z wA wM 0 0 [] [(0, 6, 1)] Cb0 (fun _ => 0) (fun _ => []) 0 0 yA (prg wM) := by
  obtain ⟨c1, c2, c3, c4, c5, c6, c7, c8⟩ := hC
  obtain ⟨p1, p2, p3, p4, p5, p6, p7, p8, p9, p10, p11, p12, p13, p14, p15, p16⟩ := prg_at (w := wM)
  have fA : ∀ k j, ¬ ((k = 3 ∧ j = 5) ∨ (k = 4 ∧ j = 9) ∨ k = 26 ∨ (34 ≤ k ∧ k ≤ 47)) → gi yA k j = gi wA k j := fun k j hk => (hO k j hk).1
  have fM : ∀ k j, (2 ≤ k ∧ k ≤ 29) → gi (prg wM) k j = gi wM k j := fun k j hk => (p16 k j (by omega)).1
  have n1 : Cb0 1 = 0 := Cb0_n (by omega)
  have n2 : Cb0 2 = 0 := Cb0_n (by omega)
  have n0 : Cb0 0 = 0 := Cb0_n (by omega)
  have n3 : Cb0 3 = 0 := Cb0_n (by omega)
  have n5 : Cb0 5 = 0 := Cb0_n (by omega)
  have n6 : Cb0 6 = 0 := Cb0_n (by omega)
  have n7 : Cb0 7 = 0 := Cb0_n (by omega)
  have n4 : Cb0 4 = 1 := Cb0_4
  refine ⟨⟨⟨hz1, hT.2.2.2.1, hk50, hk0, by rw [fA 4 8 (by omega)]; exact hz, fun i hi => by rw [fA 5 i (by omega), fA 6 i (by omega)]; exact ⟨(hti i hi).1, (hti i hi).2.1, (hti i hi).2.2.1⟩, by omega, a2, by rw [fA 4 10 (by omega)]; exact hf, fun _ j hj1 hj2 => ?_⟩, a1, by show gi yA 14 0 = 0; rw [fA 14 0 (by omega)]; exact c5, a9⟩, ⟨⟨hV.1, hV.2.1, hV.2.2.1, hV.2.2.2.1, fun i hi => by rw [fM 2 i (by omega), fM 3 i (by omega)]; exact hV.2.2.2.2 i hi⟩, Nat.zero_le _, by omega, p1, p2⟩, hO.mono fun k j hk => by unfold PAA; omega, p16.mono fun k j hk => by unfold PMM; omega, ?_, by rw [n0, n1, n2, n3, n4, n5]; omega, ?_, ?_, p15, ?_, fun i hi => absurd hi (by omega), ⟨0, rfl, a6, by omega, 0, 6, 1, [], rfl, p8⟩, ?_, fun j _ hj => by rw [fA 25 j (by omega)]; exact c6 j hj, ?_⟩
  · obtain ⟨_, _, _, h8, h9, h10⟩ := hti j hj2
    rw [fA 8 j (by omega), fA 9 j (by omega), fA 10 j (by omega)]
    exact ⟨Or.inl h8, h9, h10⟩
  · rw [n7]
    refine ⟨Nat.le_refl _, ?_⟩
    rw [if_pos rfl]
    unfold FLA FLM FAU
    have e : gi yA 3 6 = 0 := by rw [fA 3 6 (by omega)]; exact c1
    exact ⟨e.trans p10.symm, fun h => absurd e h⟩
  · rw [n1, n2]
    refine ⟨fun x hx => ?_, trivial, ⟨a3, a4, a5⟩, fun s hs => absurd hs (by omega), fun s _ => ⟨rfl, fun hs => ?_⟩, fun s => ⟨trivial, by simp, fun i hi => absurd hi (by simp)⟩, fun i hi => absurd hi (by omega), by omega, by omega⟩
    · rw [fA 27 x (by omega)]; exact c8 x hx
    · rw [fA 31 _ (by omega)]; exact c7 _ hs
  · refine ⟨by rw [n2]; exact p4, by rw [n1]; exact p5, trivial, fun s hs => absurd hs (by omega), fun i hi => absurd hi (by omega)⟩
  · rw [n0, n3, n4, n5, n6, n1, fA 13 14 (by omega), fA 13 13 (by omega), fA 13 12 (by omega)]
    exact ⟨p3, p6, p7, c4, p9, c3, c2⟩
  · refine ⟨a7, p14, ⟨0, a8, p13, Nat.zero_le _⟩, p12, by rw [n4]; omega, p11, fun y hy => absurd hy (by simp), by omega, by omega, trivial⟩
  · unfold OVF
    rw [n1, n4]
    refine ⟨fun p => ⟨fun hp => ?_, fun hp _ => rfl⟩, fun i hi => absurd hi (by omega), fun p nf g1 g2 => absurd g2 (by omega), fun i hi => absurd hi (by omega)⟩
    have e : p = 0 := by omega
    rw [e, p13]
    exact ⟨rfl, fun h => absurd h (by show ¬ 200 < 0; omega)⟩
end TOP
