/-! PASS 2, THE CLASS: events, one after the other; faults in any order -/
/-- events leave operands; pT: TYPES of PRIMARIES -/
def evStk (pT : Nat → Nat → Int32) : List EV → List (Int32 × Nat) → List (Int32 × Nat)
  | [], S => S
  | (0, t, d) :: r, S => evStk pT r ((pT t d, t) :: S)
  | (1, k, tk) :: r, S => evStk pT r ((on1T k, tk) :: S.tail)
  | (_, k, _) :: r, S => evStk pT r ((tw2T k, (S.getD 1 (0, 0)).2) :: S.tail.tail)
/-- and faults -/
def evL (pT : Nat → Nat → Int32) (pL : Nat → Nat → List (Nat × Int32)) : List EV → List (Int32 × Nat) → List (Nat × Int32)
  | [], _ => []
  | (0, t, d) :: r, S => pL t d ++ evL pT pL r ((pT t d, t) :: S)
  | (1, k, tk) :: r, S => difT (on1T k) (S.getD 0 (0, 0)).1 (S.getD 0 (0, 0)).2 ++ evL pT pL r ((on1T k, tk) :: S.tail)
  | (_, k, _) :: r, S => tw2L k (S.getD 0 (0, 0)) (S.getD 1 (0, 0)) ++ evL pT pL r ((tw2T k, (S.getD 1 (0, 0)).2) :: S.tail.tail)
/-- and words -/
def evP (pP : Nat → Nat → Nat → Nat → Wd → Prop) : List EV → Nat → Nat → Wd → Prop
  | [], a, a', _ => a' = a
  | (0, t, d) :: r, a, a', g => ∃ a1, pP t d a a1 g ∧ evP pP r a1 a' g
  | (1, k, _) :: r, a, a', g => (k ≠ 33 → gl g 41 a = wdC (if k = 29 then 17 else 16) 0 0) ∧ evP pP r (a + on1N k) a' g
  | (_, k, _) :: r, a, a', g => gl g 41 a = wdC (fX2_operation (Int32.ofNat k) g) 0 0 ∧ evP pP r (a + 1) a' g
section EV9
variable {wr : Nat → Nat} {pT : Nat → Nat → Int32} {pL : Nat → Nat → List (Nat × Int32)} {pP : Nat → Nat → Nat → Nat → Wd → Prop}
theorem FNL_perm {L L' : List (Nat × Int32)} (h : L.Perm L') : (∀ x ∈ L, x.2 ≠ 0) → ∀ p, FNL wr L p = FNL wr L' p := by
  induction h with
  | nil => exact fun _ _ => rfl
  | cons x h ih => exact fun hz p => ih (fun y hy => hz y (List.mem_cons_of_mem _ hy)) _
  | swap x y l =>
    intro hz p
    show FNL wr l (FN (FN p y.2 _) x.2 _) = FNL wr l (FN (FN p x.2 _) y.2 _)
    rw [FN_comm (hz y List.mem_cons_self) (hz x (List.mem_cons_of_mem _ List.mem_cons_self))]
  | trans h1 h2 ih1 ih2 => exact fun hz p => (ih1 hz p).trans (ih2 (fun x hx => hz x (h1.mem_iff.mpr hx)) p)
theorem evStk_app : ∀ (a b : List EV) (S : List (Int32 × Nat)), evStk pT (a ++ b) S = evStk pT b (evStk pT a S) := by
  intro a
  induction a with
  | nil => exact fun _ _ => rfl
  | cons x r ih =>
    intro b S
    obtain ⟨m, k, tk⟩ := x
    match m with
    | 0 => exact ih b _
    | 1 => exact ih b _
    | m + 2 => exact ih b _
theorem evL_app : ∀ (a b : List EV) (S : List (Int32 × Nat)), evL pT pL (a ++ b) S = evL pT pL a S ++ evL pT pL b (evStk pT a S) := by
  intro a
  induction a with
  | nil => exact fun _ _ => rfl
  | cons x r ih =>
    intro b S
    obtain ⟨m, k, tk⟩ := x
    match m with
    | 0 =>
      show pL k tk ++ evL pT pL (r ++ b) _ = (pL k tk ++ _) ++ _
      rw [ih, List.append_assoc]
      rfl
    | 1 =>
      show _ ++ evL pT pL (r ++ b) _ = (_ ++ _) ++ _
      rw [ih, List.append_assoc]
      rfl
    | m + 2 =>
      show _ ++ evL pT pL (r ++ b) _ = (_ ++ _) ++ _
      rw [ih, List.append_assoc]
      rfl
theorem evP_app : ∀ (x y : List EV) (a a' : Nat) (g : Wd), evP pP (x ++ y) a a' g ↔ ∃ a1, evP pP x a a1 g ∧ evP pP y a1 a' g := by
  intro x
  induction x with
  | nil => exact fun y a a' g => ⟨fun h => ⟨a, rfl, h⟩, fun ⟨a1, h1, h2⟩ => by rw [show a1 = a from h1] at h2; exact h2⟩
  | cons e r ih =>
    intro y a a' g
    obtain ⟨m, k, tk⟩ := e
    match m with
    | 0 =>
      show (∃ a1, pP k tk a a1 g ∧ evP pP (r ++ y) a1 a' g) ↔ ∃ a1, (∃ a2, pP k tk a a2 g ∧ evP pP r a2 a1 g) ∧ evP pP y a1 a' g
      constructor
      · rintro ⟨a1, h1, h2⟩
        obtain ⟨a2, h3, h4⟩ := (ih y a1 a' g).mp h2
        exact ⟨a2, ⟨a1, h1, h3⟩, h4⟩
      · rintro ⟨a2, ⟨a1, h1, h3⟩, h4⟩
        exact ⟨a1, h1, (ih y a1 a' g).mpr ⟨a2, h3, h4⟩⟩
    | 1 =>
      show (_ ∧ evP pP (r ++ y) (a + on1N k) a' g) ↔ ∃ a1, (_ ∧ evP pP r (a + on1N k) a1 g) ∧ evP pP y a1 a' g
      rw [ih]
      constructor
      · rintro ⟨h1, a1, h2, h3⟩
        exact ⟨a1, ⟨h1, h2⟩, h3⟩
      · rintro ⟨a1, ⟨h1, h2⟩, h3⟩
        exact ⟨h1, a1, h2, h3⟩
    | m + 2 =>
      show (_ ∧ evP pP (r ++ y) (a + 1) a' g) ↔ ∃ a1, (_ ∧ evP pP r (a + 1) a1 g) ∧ evP pP y a1 a' g
      rw [ih]
      constructor
      · rintro ⟨h1, a1, h2, h3⟩
        exact ⟨a1, ⟨h1, h2⟩, h3⟩
      · rintro ⟨a1, ⟨h1, h2⟩, h3⟩
        exact ⟨h1, a1, h2, h3⟩
end EV9
