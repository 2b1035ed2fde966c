/-! PASS 2, THE CLASS: the pass as a whole, out of its BLOCK -/
section ES
variable {kd wr nm TK : Nat → Nat} {m z : Nat} {SL : Nat → List Nat} {NS ns SZ t nsc' i1 T : Nat} {L : List (Nat × Int32)} {P : Nat → Nat → Nat → Wd → Prop}
theorem pass2 {uA : Wd} (hCT : CT kd wr true z uA t (-1)) (hC : CSC (fun i => nm (TK i)) SL [] NS ns 0 uA) (h12 : gi uA 13 12 = Int32.ofNat (ns + 1)) (hnm : ∀ tk, kd tk = 2 → Int64.toInt32 (gl uA 7 tk) = Int32.ofNat (nm tk) ∧ nm tk < 8192) (hSZ : SZ ≤ 100000 ∧ 6 ≤ SZ) (h4 : kd 0 = 4) (h0 : kd m = 0) (hT : ns + 4 + T ≤ 36872)
    (hB : SSC kd wr nm TK z uA SL NS ns SZ 0 (fun _ => 0) 6 2 0 nsc' 0 i1 0 m [] L P T (fun w => RX4_block 900 0 0 0 0 w)) :
    ∃ v a' sz', fX4_pass true uA = some v ∧ FLA v = FNL wr L (FLA uA) ∧ gi v 40 1 = Int32.ofNat (a' + 1) ∧ a' < 36872 ∧ sz' ≤ SZ ∧ gl v 41 0 = Int32.toInt64 (Int32.ofNat (ns + 1)) ∧ gl v 41 (ns + 2) = Int32.toInt64 (Int32.ofNat sz') ∧ P (ns + 3) a' sz' v ∧ gl v 41 a' = wdC 51 0 0 ∧ OFF (fun k j => FS2 0 0 0 i1 k j ∨ (k = 3 ∧ j = 5) ∨ k = 26 ∨ (34 ≤ k ∧ k ≤ 40) ∨ k = 43) v uA ∧ ∀ x ∈ L, x.2 ≠ 0 := by
  obtain ⟨y, y1, hG, y3, y4⟩ := start2 (SL := SL) (NS := NS) (SZ := SZ) hCT hC h12 hnm hSZ
  have hcf := hG.cfit
  -- the head
  have hG0 := hG.ovr (x := Int32.toInt64 (Int32.ofNat (ns + 1))) (j := 0)
  obtain ⟨w1, p1, p2⟩ := EC.word (x := Int32.toInt64 (fX8_slot 0 (sl y 41 0 (Int32.toInt64 (Int32.ofNat (ns + 1)))))) hG0.gc (by omega)
  have E1 := ESC.ec (i := 0) hG0 p2 (by omega)
  obtain ⟨w2, q1, q2⟩ := EC.word (x := 0) E1.1.gc (by omega)
  have E2 := ESC.ec (i := 0) E1.1 q2 (by omega)
  have hhead : fX4_head 0 y = (Int32.ofNat (ns + 1), w2) := by
    unfold fX4_head fX0_setCell fX0_set
    rw [hG.2.2.1, show (0 : Int32) = Int32.ofNat 0 from rfl, rsl_iN (by omega) (by omega)]
    simp only [ltq]
    have p1' : fX0_word (Int32.toInt64 (fX8_slot (Int32.ofNat 0) (sl y 41 0 (Int32.toInt64 (Int32.ofNat (ns + 1)))))) (sl y 41 0 (Int32.toInt64 (Int32.ofNat (ns + 1)))) = (Int32.ofNat (ns + 1), w1) := p1
    rw [p1', lt2q, q1, lt2q]
    have : (Int32.ofNat (ns + 1 + 1) : Int32) - 1 = Int32.ofNat (ns + 1) := by
      rw [← ad1_iN (ns + 1)]
      simp
    rw [this]
  obtain ⟨v5, a1, sz5, z1, z2⟩ := hB w2 (ns + 1 + 1 + 1) 6 E2.1 (by omega)
  have hb5 := z2.2.2.2.2.1
  have hcs := z2.1.cfit
  obtain ⟨v6, m1, m2⟩ := EC.put1 (x := 51) z2.1.gc (by omega)
  have E6 := ESC.ec (i := i1) z2.1 m2 (by omega)
  have EO := ESC.over (Q := fun _ _ _ x' => x' = Int32.toInt64 (Int32.ofNat sz5)) (x := Int32.toInt64 (Int32.ofNat sz5)) E2 (z2.fix.seq E6) (fun _ _ => rfl)
  have EA := E1.seq EO
  have z1' : RX4_block 900 0 0 0 0 w2 = some (0, v5) := z1
  have hk0 : fX9_kind w2 = 4 := by
    rw [a_kind E2.1.1, h4]
    rfl
  have hk5 : fX9_kind v5 = 0 := by
    rw [a_kind z2.1.1, h0]
    rfl
  have hpass : fX4_pass true uA = some (sl v6 41 (ns + 1 + 1) (Int32.toInt64 (Int32.ofNat sz5))) := by
    unfold fX4_pass
    rw [ltq, y1, ltq, hhead, lt2q, hk0, ltq, if_pos rfl, z1', bn2_so]
    unfold fX4_pass_47
    rw [hk5, ltq, if_pos rfl]
    unfold fX4_pass_64
    rw [m1, lt2q, E6.1.slot.2.1, ltq, ad1_iN]
    unfold fX0_set
    rw [rsl_iN (by omega) (by omega), ltq, ltq]
  obtain ⟨b1, g1, g2, b2, g3, g4, g5⟩ := EA.2.2.2.2.2 (sl v6 41 (ns + 1 + 1) (Int32.toInt64 (Int32.ofNat sz5))) sz5 (fun j _ => rfl) (Nat.le_refl _)
  have hb1 : b1 = ns + 1 + 1 := g1.2
  subst hb1
  have hb2 : b2 = a1 := by omega
  subst hb2
  have hOv := EA.2.2.2.1
  refine ⟨_, b2, sz5, hpass, ?_, EA.1.2.2.1, by omega, hcs.2.2.2.2.2.1, ?_, g2, g3, g4, ?_, z2.2.1⟩
  · have := EA.2.2.1
    rw [this, show FLA (sl y 41 0 (Int32.toInt64 (Int32.ofNat (ns + 1)))) = FLA y from rfl, y3]
    simp
  · rw [(hOv 41 0 (by unfold FS2 F2; omega)).2, gl_sl0]
  · have hs : OFF (fun k j => k = 41 ∧ j = 0) (sl y 41 0 (Int32.toInt64 (Int32.ofNat (ns + 1)))) y := OFF.sl ⟨rfl, rfl⟩
    exact OFF.tr (hOv.mono fun k j hk => Or.inl (hk.le (Nat.zero_le _) (Nat.le_refl _) (Nat.le_refl _))) (OFF.tr (hs.mono fun k j hk => Or.inl (Or.inl (by unfold F2; omega))) (y4.mono fun k j hk => by
      rcases hk with h | h | h | h | h
      · exact Or.inr (by omega)
      · exact Or.inl (Or.inl (by unfold F2; omega))
      · exact Or.inr (by omega)
      · exact Or.inr (by omega)
      · exact Or.inr (by omega)))
end ES
