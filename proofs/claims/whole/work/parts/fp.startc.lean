/-! PASS 2, THE CLASS: how it begins -/
section ES
variable {kd wr nm TK : Nat → Nat} {z : Nat} {SL : Nat → List Nat} {NS ns SZ t : Nat}
theorem start2 {uA : Wd} (hCT : CT kd wr true z uA t (-1)) (hC : CSC (fun i => nm (TK i)) SL [] NS ns 0 uA) (h12 : gi uA 13 12 = Int32.ofNat (ns + 1)) (hnm : ∀ tk, kd tk = 2 → Int64.toInt32 (gl uA 7 tk) = Int32.ofNat (nm tk) ∧ nm tk < 8192) (hSZ : SZ ≤ 100000 ∧ 6 ≤ SZ) :
    ∃ y, fX2_clear (fX1_restart true uA) = y ∧ GTC kd wr nm TK z uA SL NS ns SZ 0 (fun _ => 0) 0 (ns + 1) 6 6 2 0 [] 0 y ∧ FLA y = FLA uA ∧ OFF (fun k j => (k = 3 ∧ j = 5) ∨ (k = 4 ∧ j = 9) ∨ k = 26 ∨ (34 ≤ k ∧ k ≤ 40) ∨ k = 43) y uA := by
  obtain ⟨u, h0, r1, r2, r3, r4, r5, r6, r7, r8, r9, r10, r11, r12, r13⟩ := restart_ok (w := uA) (bb := true)
  have hO1 : OFF (fun k j => k = 43) (si (si u 43 4 0) 43 5 0) u := OFF.tr (OFF.si rfl) (OFF.si rfl)
  have hO : OFF (fun k j => (k = 3 ∧ j = 5) ∨ (k = 4 ∧ j = 9) ∨ k = 26 ∨ (34 ≤ k ∧ k ≤ 40) ∨ k = 43) (si (si u 43 4 0) 43 5 0) uA := OFF.tr (hO1.mono fun k j hk => by omega) (r13.mono fun k j hk => by omega)
  have e1 : ∀ k j, k ≠ 43 → gi (si (si u 43 4 0) 43 5 0) k j = gi u k j := fun k j hk => (hO1 k j hk).1
  obtain ⟨c1, c2, c3, c4, c5, c6, c7, c8, c9, c10⟩ := hCT
  obtain ⟨a, b, _, d, _, g, i, j⟩ := hC
  refine ⟨si (si u 43 4 0) 43 5 0, by rw [h0]; rfl, ⟨⟨c1, c2, c3, c4, by rw [(hO 4 8 (by omega)).1]; exact c5, fun q hq => by rw [(hO 5 q (by omega)).1, (hO 6 q (by omega)).1]; exact c6 q hq, by omega, by rw [e1 4 9 (by omega), r2]; rfl, by rw [(hO 4 10 (by omega)).1]; exact c9, fun h => absurd h (by decide)⟩, by rw [e1 3 5 (by omega), r1]; decide, by rw [e1 40 1 (by omega), r12]; exact h12, gi_si0 _ _ _ _, by rw [gi_si1 (by omega), gi_si0], ⟨fun x hx => by rw [(hO 27 x (by omega)).1]; exact a x hx, trivial, ⟨by rw [e1 26 8 (by omega), r3]; rfl, by rw [e1 26 9 (by omega), r4]; rfl, by rw [e1 26 10 (by omega), r5]⟩, fun s hs => ?_, fun s => ⟨(g s).1, (g s).2.1, fun q hq => ?_⟩, fun q hq => by rw [(hO 22 _ (by omega)).1]; exact i q hq, j.1, j.2, Nat.zero_le _⟩, ⟨fun k j hk => (hO k j (by omega)).1, fun j => (hO 7 j (by omega)).2, fun j => by rw [(hO 8 j (by omega)).1, (hO 9 j (by omega)).1, (hO 10 j (by omega)).1]; exact ⟨rfl, rfl, Iff.rfl⟩⟩, ⟨by rw [e1 34 5 (by omega), r6]; rfl, by omega, fun l hl => by rw [show l = 0 by omega, e1 35 0 (by omega), r7]⟩, ⟨by rw [e1 36 0 (by omega), r8]; rfl, by rw [e1 37 0 (by omega), r9]; rfl, by rw [e1 39 0 (by omega), r11]; rfl⟩, by omega, hnm⟩, ?_, hO⟩
  · rw [(hO 31 _ (by omega)).1]
    exact (d s hs).agr (fun i _ => (hO 30 _ (by omega)).1)
  · rw [(hO 29 _ (by omega)).1]
    exact (g s).2.2 q hq
  · show (gi _ 3 6, gi _ 3 7) = (gi uA 3 6, gi uA 3 7)
    rw [(hO 3 6 (by omega)).1, (hO 3 7 (by omega)).1]
end ES
