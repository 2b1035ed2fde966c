/-! THE REFERENCE JUMPS OVER ACTUALS -/
section JU2
variable {gM : Wd} {ev sp cp na mt el us : Nat}
theorem jms {W : Nat → Nat → Nat → Nat → Prop} : ∀ (xs : List Nat) (i b b1 : Nat) (w : Wd), (∀ q x, xs[q]? = some x → ∀ b b', W x (i + q) b b' → b ≤ b' ∧ (b' = b ∨ opW gM b 10 (Int32.ofNat b') 0 0)) → rwM W xs i b b1 → b1 < 60000 → MK gM b ev sp cp na mt el us w → ∃ q y, q ≤ xs.length ∧ SPS q w y ∧ OFF (fun k j => k = 0 ∧ j = 128) y w ∧ MK gM b1 ev sp cp na mt el us y := by
  intro xs
  induction xs with
  | nil =>
    intro i b b1 w _ h _ M
    have h : b1 = b := h
    subst h
    exact ⟨0, w, Nat.le_refl _, rfl, OFF.rf, M⟩
  | cons x r ih =>
    intro i b b1 w hW ⟨b2, h1, h2⟩ hb M
    obtain ⟨l1, l2⟩ := hW 0 x rfl b b2 h1
    have hW' : ∀ q y, r[q]? = some y → ∀ b b', W y (i + 1 + q) b b' → b ≤ b' ∧ (b' = b ∨ opW gM b 10 (Int32.ofNat b') 0 0) := fun q y hy c c' hc => hW (q + 1) y (by simpa using hy) c c' (by rw [show i + (q + 1) = i + 1 + q by omega]; exact hc)
    have l3 := rwM_le r (i + 1) b2 b1 (fun q y hy c c' hc => (hW' q y hy c c' hc).1) h2
    rcases l2 with e | o
    · subst e
      obtain ⟨q, y, q1, q2, q3, q4⟩ := ih (i + 1) b2 b1 w hW' h2 hb M
      exact ⟨q, y, by rw [List.length_cons]; omega, q2, q3, q4⟩
    · have hb0 : b < 60000 := by omega
      have st := rm_jump M hb0 o
      have O : OFF (fun k j => k = 0 ∧ j = 128) (si (si w 0 128 (Int32.ofNat (b + 1))) 0 128 (Int32.ofNat b2)) w := OFF.tr (OFF.si ⟨rfl, rfl⟩) (OFF.si ⟨rfl, rfl⟩)
      have M2 : MK gM b2 ev sp cp na mt el us (si (si w 0 128 (Int32.ofNat (b + 1))) 0 128 (Int32.ofNat b2)) := M.ps (s0 := 0) (O.mono fun k j p => by unfold PSO; omega) (gi_si0 _ _ _ _) (by rw [gi_si1 (by omega), gi_si1 (by omega)]; exact M.2.2.2.2.1) (by omega) M.2.2.2.2.2.2.2.2.2.2.2.2.1
      obtain ⟨q, y, q1, q2, q3, q4⟩ := ih (i + 1) b2 b1 _ hW' h2 hb M2
      refine ⟨1 + q, y, by rw [List.length_cons]; omega, SPS.tr (SPS.one (M.runs o hb0 (by decide)) st) q2, OFF.tr q3 O, q4⟩
end JU2
