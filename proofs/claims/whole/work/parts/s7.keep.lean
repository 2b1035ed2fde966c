/-! THE REFERENCE KEEPS WHAT IT MADE: copies -/
section SF7
variable {w u : Wd}
theorem copy_lp {k1 n1 k2 n2 c : Nat} (h12 : k1 ≠ k2) (hc : c ≤ n1 ∧ c ≤ n2 ∧ n1 ≤ 300000 ∧ n2 ≤ 300000) : ∀ (n i fo : Nat) (w : Wd), i + n = c → ∃ u, oX12_copy_3 k1 n1 k2 n2 (fo + n + 1) (Int32.ofNat c) (Int32.ofNat i) w = some u ∧ (∀ j, i ≤ j → j < c → gi u k2 j = gi w k1 j) ∧ OFF (fun k j => k = k2 ∧ i ≤ j ∧ j < c) u w := by
  intro n
  induction n with
  | zero =>
    intro i fo w h
    refine ⟨w, ?_, fun j a b => absurd b (by omega), OFF.rf⟩
    show fX12_copy_3 _ k1 n1 k2 n2 _ _ w = _
    unfold fX12_copy_3
    rw [if_pos ((le_iN (by omega) (by omega)).mpr (by omega))]
  | succ n ih =>
    intro i fo w h
    obtain ⟨u, h1, h2, h3⟩ := ih (i + 1) fo (si w k2 i (gi w k1 i)) (by omega)
    refine ⟨u, ?_, fun j a b => ?_, ?_⟩
    · show fX12_copy_3 (oX12_copy_3 k1 n1 k2 n2 (fo + n + 1)) k1 n1 k2 n2 _ _ w = _
      unfold fX12_copy_3
      rw [if_neg (fun q => by have := (le_iN (by omega) (by omega)).mp q; omega), if_pos (inb_iN (by omega) (by omega)), if_pos (inb_iN (by omega) (by omega)), tc_iN (by omega), ltq, ad1_iN, ltq]
      exact h1
    · by_cases q : j = i
      · subst q
        rw [(h3 k2 j (by omega)).1, gi_si0]
      · rw [h2 j (by omega) b, gi_si1 (by omega)]
    · exact OFF.tr (h3.mono fun k j hk => by omega) (OFF.si (by omega))
theorem copy_ok {k1 n1 k2 n2 c : Nat} (h12 : k1 ≠ k2) (hc : c ≤ n1 ∧ c ≤ n2 ∧ n1 ≤ 300000 ∧ n2 ≤ 300000) : ∃ u, fX12_copy k1 n1 k2 n2 (Int32.ofNat c) w = some u ∧ (∀ j, j < c → gi u k2 j = gi w k1 j) ∧ OFF (fun k j => k = k2 ∧ j < c) u w := by
  obtain ⟨fo, hfo⟩ := FU_ge (k := c + 1) (by omega)
  obtain ⟨u, h1, h2, h3⟩ := copy_lp (k1 := k1) (n1 := n1) (k2 := k2) (n2 := n2) h12 hc c 0 fo w (by omega)
  refine ⟨u, ?_, fun j a => h2 j (Nat.zero_le _) a, h3.mono fun k j hk => by omega⟩
  unfold fX12_copy
  rw [hfo, ← Nat.add_assoc]
  exact h1
end SF7
