/-! FAULTS OF BOTH SIDES, at the end -/
section SF4
variable {wr : Nat → Nat} {p q r : Int32 × Int32} {L L' LA LR : List (Nat × Int32)}
/-- noted before, or as soon -/
def LEQ (r q : Int32 × Int32) : Prop := r.1 ≠ 0 ∧ (r.2 < q.2 ∨ r.2 = q.2 ∧ r.1 ≤ q.1)
theorem LEQ.fn {a x : Int32} (ha : a ≠ 0) (h : LEQ r q) : LEQ (FN r a x) q := by
  obtain ⟨h1, h2⟩ := h
  rcases r with ⟨r1, r2⟩
  dsimp only at h1 h2
  have e : FN (r1, r2) a x = if x < r2 then (a, x) else if x = r2 then (if r1 ≤ a then (r1, r2) else (a, x)) else (r1, r2) := if_neg h1
  rw [e]
  by_cases g1 : x < r2
  · rw [if_pos g1]
    refine ⟨ha, Or.inl ?_⟩
    show x < q.2
    rcases h2 with h2 | h2
    · exact Int32.lt_trans g1 h2
    · rw [← h2.1]; exact g1
  · rw [if_neg g1]
    by_cases g2 : x = r2
    · rw [if_pos g2]
      by_cases g3 : r1 ≤ a
      · rw [if_pos g3]; exact ⟨h1, h2⟩
      · rw [if_neg g3]
        refine ⟨ha, ?_⟩
        show x < q.2 ∨ x = q.2 ∧ a ≤ q.1
        rw [g2]
        refine h2.imp id (fun k => ⟨k.1, Int32.le_trans (Int32.le_of_lt (Int32.not_le.mp g3)) k.2⟩)
    · rw [if_neg g2]; exact ⟨h1, h2⟩
theorem FNL_leq (h : q.1 ≠ 0) : ∀ (L : List (Nat × Int32)) (r : Int32 × Int32), (∀ x ∈ L, x.2 ≠ 0) → LEQ r q → LEQ (FNL wr L r) q := by
  intro L
  induction L with
  | nil => exact fun r _ h => h
  | cons x l ih => exact fun r h0 h => ih _ (fun y hy => h0 y (List.mem_cons_of_mem _ hy)) (h.fn (h0 x List.mem_cons_self))
theorem FNL_late (hwr : ∀ i, wr i ≤ 8192) (hL : ∀ x ∈ L, x.2 ≠ 0) : ∀ (L' : List (Nat × Int32)), (∀ x ∈ L', x.2 ≠ 0 ∧ (dmP wr q x ∨ ∃ y ∈ L, dmF wr y x)) → FNL wr (L ++ L') q = FNL wr L q := by
  intro L' h
  rw [FNL_app]
  have key : ∀ (l : List (Nat × Int32)), (∀ x ∈ l, x.2 ≠ 0 ∧ (dmP wr q x ∨ ∃ y ∈ L, dmF wr y x)) → FNL wr l (FNL wr L q) = FNL wr L q := by
    intro l
    induction l with
    | nil => exact fun _ => rfl
    | cons x l ih =>
      intro hl
      obtain ⟨x1, x2⟩ := hl x List.mem_cons_self
      have e : FN (FNL wr L q) x.2 (Int32.ofNat (wr x.1)) = FNL wr L q := by
        rcases x2 with x2 | ⟨y, y1, y2⟩
        · obtain ⟨q1, q2⟩ := x2
          obtain ⟨g1, g2⟩ := FNL_leq (wr := wr) q1 L q hL ⟨q1, Or.inr ⟨rfl, Int32.le_refl _⟩⟩
          refine FN_keep g1 ?_
          rcases g2 with g2 | ⟨g2, g3⟩
          · rcases q2 with q2 | ⟨q2, _⟩
            · exact Or.inl (Int32.lt_trans g2 q2)
            · exact Or.inl (by rw [← q2]; exact g2)
          · rcases q2 with q2 | ⟨q2, q3⟩
            · exact Or.inl (by rw [g2]; exact q2)
            · exact Or.inr ⟨g2.trans q2, Int32.le_trans g3 q3⟩
        · exact FNL_dm1 hwr y2 L q hL x1 y1
      show FNL wr l (FN (FNL wr L q) x.2 (Int32.ofNat (wr x.1))) = _
      rw [e]
      exact ih (fun z hz => hl z (List.mem_cons_of_mem _ hz))
  exact key L' h
theorem FLR.same (hwr : ∀ i, wr i ≤ 8192) (h : FLR wr q LA LR) (h0 : ∀ x ∈ LA, x.2 ≠ 0) : FNL wr LA q = FNL wr LR q ∧ ∀ x ∈ LR, x.2 ≠ 0 := by
  obtain ⟨h1, h2⟩ := h h0
  have hR : ∀ x ∈ LR, x.2 ≠ 0 := fun x hx => (h1 x hx).1
  refine ⟨?_, hR⟩
  rw [← FNL_late hwr h0 LR h1, FNL_perm (List.perm_append_comm) (fun x hx => (List.mem_append.mp hx).elim (h0 x) (hR x)), FNL_late hwr hR LA (fun x hx => ⟨h0 x hx, h2 x hx⟩)]
theorem FAU.fnl : ∀ (L : List (Nat × Int32)) {p q : Int32 × Int32}, FAU p q → FAU (FNL wr L p) (FNL wr L q) := by
  intro L
  induction L with
  | nil => exact fun h => h
  | cons x l ih => exact fun h => ih h.fn
/-- both notes are alike at the end -/
theorem faults_same (hwr : ∀ i, wr i ≤ 8192) {c t : Nat} (hX : FAX wr c t p q) (h : FLR wr q LA LR) (h0 : ∀ x ∈ LA, x.2 ≠ 0) (h7 : c ≠ 0 → (c - 1, (5 : Int32)) ∈ LA) : FAU (FNL wr LA p) (FNL wr LR q) := by
  rw [← (h.same hwr h0).1]
  obtain ⟨_, hf⟩ := hX
  by_cases q0 : c = 0
  · rw [if_pos q0] at hf
    exact hf.fnl LA
  · rw [if_neg q0] at hf
    have e : FNL wr LA (FN p 5 (Int32.ofNat (wr (c - 1)))) = FNL wr LA p := by
      rw [← FNL_FN (by decide) LA p h0]
      exact FNL_dm1 hwr (x := (c - 1, 5)) dmF.rf LA p h0 (by show (5 : Int32) ≠ 0; decide) (h7 q0)
    rw [← e]
    exact hf.fnl LA
theorem FN_n0 {x : Nat × Int32} (hx : x.2 ≠ 0) : (FN p x.2 (Int32.ofNat (wr x.1))).1 ≠ 0 := (FN_le hx).1
theorem FNL_0 : ∀ (L : List (Nat × Int32)) (q : Int32 × Int32), (∀ x ∈ L, x.2 ≠ 0) → (FNL wr L q).1 = 0 → L = [] ∧ q.1 = 0 := by
  intro L
  induction L with
  | nil => exact fun q _ h => ⟨rfl, h⟩
  | cons x l ih =>
    intro q h0 h
    have := (ih _ (fun y hy => h0 y (List.mem_cons_of_mem _ hy)) h).2
    exact absurd this (FN_n0 (h0 x List.mem_cons_self))
end SF4
