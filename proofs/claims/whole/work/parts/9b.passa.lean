/-! THE CLASS, first pass: what a function of EXPRS is to what's gone over by f -/
section A1
variable {kd wr : Nat → Nat} {z : Nat}
/-- W: what's told of the forms where it ends at e -/
def A1 (kd wr : Nat → Nat) (z d : Nat) (f : Nat → Sum Nat Nat) (W : Nat → Nat → Wd → Prop) (r : Wd → Option (Int32 × Wd)) : Prop := ∀ (w : Wd) (t base : Nat) (fa : Int32), CT kd wr true z w t fa → gi w 3 5 = 0 → SY0 w → gi w 43 4 = Int32.ofNat base → base ≤ 10 * d → d ≤ 40 ∨ d ≤ 41 ∧ kd t = 0 →
  ∃ x u, r w = some (x, u) ∧ (∀ p, f t = .inl p → CT kd wr true z u (z - 1) (FA wr fa p)) ∧ (∀ e, f t = .inr e → CT kd wr true z u e fa ∧ W t e u) ∧ gi u 43 4 = Int32.ofNat base ∧ LOW base u w ∧ OFF (PE1 t) u w
theorem PE1.k35 {t : Nat} {u w : Wd} (h : OFF (PE1 t) u w) : gi u 3 5 = gi w 3 5 := (h 3 5 (by unfold PE1; omega)).1
theorem PE1.sy {t : Nat} {u w : Wd} (h : OFF (PE1 t) u w) (hs : SY0 w) : SY0 u := (h 14 0 (by unfold PE1; omega)).1.trans hs
theorem a1_typed {d : Nat} {f : Nat → Sum Nat Nat} {W : Nat → Nat → Wd → Prop} {rc : TX2_typed} {a2 : Int32} (h : A1 kd wr z d f W (rc 2 (Int32.ofNat d) 0 0)) : A1 kd wr z d f W (fun w => fX2_typed rc (Int32.ofNat d) a2 w) := by
  intro w t base fa hT h0 hs hw hb hd
  obtain ⟨x, u, u1, u2, u3, u4, u5, u6⟩ := h w t base fa hT h0 hs hw hb hd
  refine ⟨0, u, ?_, u2, u3, u4, u5, u6⟩
  show fX2_typed rc (Int32.ofNat d) a2 w = _
  unfold fX2_typed
  rw [ltq, u1, bn2_so, check_0 ((PE1.k35 u6).trans h0), ltq]
end A1
