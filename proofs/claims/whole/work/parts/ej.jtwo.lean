/-! PASS 2, THE CLASS: what's kept while signs are worked out -/
/-- events that fit: no operand is wanting, none too many -/
def evOK (z ob : Nat) (pT : Nat → Nat → Int32) : List EV → List (Int32 × Nat) → Prop
  | [], _ => True
  | (0, t, d) :: r, S => (t < z ∧ ob + S.length + 1 < 512) ∧ evOK z ob pT r ((pT t d, t) :: S)
  | (1, k, tk) :: r, S => (1 ≤ S.length ∧ tk < z) ∧ evOK z ob pT r ((on1T k, tk) :: S.tail)
  | (_, k, _) :: r, S => 2 ≤ S.length ∧ evOK z ob pT r ((tw2T k, (S.getD 1 (0, 0)).2) :: S.tail.tail)
/-- operands that fit -/
def stOK (z ob : Nat) (S : List (Int32 × Nat)) : Prop := ob + S.length < 512 ∧ ∀ x ∈ S, x.2 < z
/-- most words -/
def evB (pB : Nat → Nat → Nat) : List EV → Nat
  | [] => 0
  | (0, t, d) :: r => pB t d + evB pB r
  | _ :: r => 1 + evB pB r
section EV9
variable {wr : Nat → Nat} {z ob : Nat} {pT : Nat → Nat → Int32} {pL : Nat → Nat → List (Nat × Int32)} {pP : Nat → Nat → Nat → Nat → Wd → Prop} {pB : Nat → Nat → Nat}
theorem evB_app : ∀ (a b : List EV), evB pB (a ++ b) = evB pB a + evB pB b := by
  intro a
  induction a with
  | nil => exact fun b => (Nat.zero_add _).symm
  | cons x r ih =>
    intro b
    obtain ⟨m, k, tk⟩ := x
    match m with
    | 0 =>
      show pB k tk + evB pB (r ++ b) = pB k tk + evB pB r + evB pB b
      rw [ih, Nat.add_assoc]
    | m + 1 =>
      show 1 + evB pB (r ++ b) = 1 + evB pB r + evB pB b
      rw [ih, Nat.add_assoc]
theorem evOK_app : ∀ (a b : List EV) (S : List (Int32 × Nat)), evOK z ob pT (a ++ b) S ↔ evOK z ob pT a S ∧ evOK z ob pT b (evStk pT a S) := by
  intro a
  induction a with
  | nil => exact fun b S => ⟨fun h => ⟨trivial, h⟩, fun h => h.2⟩
  | cons x r ih =>
    intro b S
    obtain ⟨m, k, tk⟩ := x
    match m with
    | 0 => exact ⟨fun h => ⟨⟨h.1, ((ih b _).mp h.2).1⟩, ((ih b _).mp h.2).2⟩, fun h => ⟨h.1.1, (ih b _).mpr ⟨h.1.2, h.2⟩⟩⟩
    | 1 => exact ⟨fun h => ⟨⟨h.1, ((ih b _).mp h.2).1⟩, ((ih b _).mp h.2).2⟩, fun h => ⟨h.1.1, (ih b _).mpr ⟨h.1.2, h.2⟩⟩⟩
    | m + 2 => exact ⟨fun h => ⟨⟨h.1, ((ih b _).mp h.2).1⟩, ((ih b _).mp h.2).2⟩, fun h => ⟨h.1.1, (ih b _).mpr ⟨h.1.2, h.2⟩⟩⟩
theorem evOK_st : ∀ (ev : List EV) (S : List (Int32 × Nat)), evOK z ob pT ev S → stOK z ob S → stOK z ob (evStk pT ev S) := by
  intro ev
  induction ev with
  | nil => exact fun S _ h => h
  | cons x r ih =>
    intro S h hS
    obtain ⟨m, k, tk⟩ := x
    match m with
    | 0 =>
      refine ih _ h.2 ⟨by have := h.1.2; show ob + (S.length + 1) < 512; omega, fun y hy => ?_⟩
      rcases List.mem_cons.mp hy with rfl | hy
      · exact h.1.1
      · exact hS.2 y hy
    | 1 =>
      match S, h, hS with
      | [], h, _ => exact absurd h.1.1 (by decide)
      | y0 :: S, h, hS =>
        refine ih _ h.2 ⟨hS.1, fun y hy => ?_⟩
        rcases List.mem_cons.mp hy with rfl | hy
        · exact h.1.2
        · exact hS.2 y (List.mem_cons_of_mem _ hy)
    | m + 2 =>
      match S, h, hS with
      | [], h, _ => exact absurd h.1 (by decide)
      | [y0], h, _ => exact absurd (show 2 ≤ 1 from h.1) (by decide)
      | y0 :: y1 :: S, h, hS =>
        refine ih _ h.2 ⟨by have := hS.1; show ob + (S.length + 1) < 512; rw [List.length_cons, List.length_cons] at this; omega, fun y hy => ?_⟩
        rcases List.mem_cons.mp hy with rfl | hy
        · exact hS.2 y1 (List.mem_cons_of_mem _ List.mem_cons_self)
        · exact hS.2 y (List.mem_cons_of_mem _ (List.mem_cons_of_mem _ hy))
end EV9
