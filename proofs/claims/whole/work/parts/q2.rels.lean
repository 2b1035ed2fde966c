/-! WHAT'S TOLD OF BOTH SIDES' CODES AND FAULTS: sums, faults, procedures -/
section QC2
/-- the sum of f from a to n -/
def rsm (f : Nat → Nat) (a : Nat) : Nat → Nat
  | 0 => 0
  | n + 1 => if a ≤ n then rsm f a n + f n else 0
variable {f g : Nat → Nat} {a b c n : Nat}
theorem rsm_z (h : n ≤ a) : rsm f a n = 0 := by
  cases n with
  | zero => rfl
  | succ n => exact if_neg (by omega)
theorem rsm_s (h : a ≤ n) : rsm f a (n + 1) = rsm f a n + f n := if_pos h
theorem rsm_app (h : a ≤ b) : ∀ k, rsm f a (b + k) = rsm f a b + rsm f b (b + k) := by
  intro k
  induction k with
  | zero => rw [Nat.add_zero, rsm_z (Nat.le_refl b), Nat.add_zero]
  | succ k ih =>
    rw [show b + (k + 1) = b + k + 1 by omega, rsm_s (by omega), rsm_s (by omega), ih]
    omega
theorem rsm_two (h : a ≤ b) (h2 : b ≤ c) : rsm f a c = rsm f a b + rsm f b c := by
  have := rsm_app (f := f) h (c - b)
  rw [show b + (c - b) = c by omega] at this
  exact this
theorem rsm_cg : ∀ n, (∀ j, a ≤ j → j < n → f j = g j) → rsm f a n = rsm g a n := by
  intro n
  induction n with
  | zero => exact fun _ => rfl
  | succ n ih =>
    intro h
    by_cases c : a ≤ n
    · rw [rsm_s c, rsm_s c, ih (fun j h1 h2 => h j h1 (by omega)), h n c (by omega)]
    · rw [rsm_z (by omega), rsm_z (by omega)]
theorem rsm_one : rsm f a (a + 1) = f a := by
  rw [rsm_s (Nat.le_refl a), rsm_z (Nat.le_refl a)]
  omega
/-- a procedure: its TOKENS and fors; faults; codes of the class, of the reference -/
abbrev PIF : Type := (Nat × Nat) × List (Nat × Int32) × (Nat → Nat → Nat → Wd → Prop) × (Nat → Nat → Nat → Nat → Wd → Prop)
def mgP (c : Nat) (f1 f2 : Nat → PIF) : Nat → PIF := fun t => if t < c then f1 t else f2 t
theorem mgP_l {c t : Nat} {f1 f2 : Nat → PIF} (h : t < c) : mgP c f1 f2 t = f1 t := if_pos h
theorem mgP_r {c t : Nat} {f1 f2 : Nat → PIF} (h : c ≤ t) : mgP c f1 f2 t = f2 t := if_neg (by omega)
/-- procedures' faults, one after the other -/
def prF (pi : Nat → PIF) (a : Nat) : Nat → List (Nat × Int32)
  | 0 => []
  | n + 1 => if a ≤ n then prF pi a n ++ (pi n).2.1 else []
variable {pi pi1 pi2 : Nat → PIF}
theorem prF_z (h : n ≤ a) : prF pi a n = [] := by
  cases n with
  | zero => rfl
  | succ n => exact if_neg (by omega)
theorem prF_s (h : a ≤ n) : prF pi a (n + 1) = prF pi a n ++ (pi n).2.1 := if_pos h
theorem prF_app (h : a ≤ b) : ∀ k, prF pi a (b + k) = prF pi a b ++ prF pi b (b + k) := by
  intro k
  induction k with
  | zero => rw [Nat.add_zero, prF_z (Nat.le_refl b), List.append_nil]
  | succ k ih => rw [show b + (k + 1) = b + k + 1 by omega, prF_s (by omega), prF_s (by omega), ih, List.append_assoc]
theorem prF_two (h : a ≤ b) (h2 : b ≤ c) : prF pi a c = prF pi a b ++ prF pi b c := by
  have := prF_app (pi := pi) h (c - b)
  rw [show b + (c - b) = c by omega] at this
  exact this
theorem prF_cg : ∀ n, (∀ j, a ≤ j → j < n → pi1 j = pi2 j) → prF pi1 a n = prF pi2 a n := by
  intro n
  induction n with
  | zero => exact fun _ => rfl
  | succ n ih =>
    intro h
    by_cases c : a ≤ n
    · rw [prF_s c, prF_s c, ih (fun j h1 h2 => h j h1 (by omega)), h n c (by omega)]
    · rw [prF_z (by omega), prF_z (by omega)]
theorem prF_nil : ∀ n, (∀ j, a ≤ j → j < n → (pi j).2.1 = []) → prF pi a n = [] := by
  intro n
  induction n with
  | zero => exact fun _ => rfl
  | succ n ih =>
    intro h
    by_cases c : a ≤ n
    · rw [prF_s c, ih (fun j h1 h2 => h j h1 (by omega)), h n c (by omega)]; rfl
    · exact prF_z (by omega)
theorem prF_no : ∀ n, prF pi a n = [] → ∀ j, a ≤ j → j < n → (pi j).2.1 = [] := by
  intro n
  induction n with
  | zero => exact fun _ j _ h => absurd h (by omega)
  | succ n ih =>
    intro h j h1 h2
    rw [prF_s (by omega)] at h
    obtain ⟨e1, e2⟩ := app_nil h
    by_cases c : j = n
    · rw [c]; exact e2
    · exact ih e1 j h1 (by omega)
theorem rsm_mgP (F : PIF → Nat) (h : a ≤ c) (h2 : c ≤ n) : rsm (fun j => F (mgP c pi1 pi2 j)) a n = rsm (fun j => F (pi1 j)) a c + rsm (fun j => F (pi2 j)) c n := by
  rw [rsm_two h h2]
  congr 1
  · exact rsm_cg _ (fun j _ q => congrArg F (mgP_l q))
  · exact rsm_cg _ (fun j q _ => congrArg F (mgP_r q))
theorem prF_mgP (h : a ≤ c) (h2 : c ≤ n) : prF (mgP c pi1 pi2) a n = prF pi1 a c ++ prF pi2 c n := by
  rw [prF_two h h2, prF_cg c (fun j _ q => mgP_l q), prF_cg n (fun j q _ => mgP_r q)]
variable {wr : Nat → Nat} {q0 : Int32 × Int32} {LA LR LA1 LA2 LR1 LR2 L : List (Nat × Int32)}
/-- a fault that an earlier one hides -/
def dmP (wr : Nat → Nat) (q : Int32 × Int32) (x : Nat × Int32) : Prop := q.1 ≠ 0 ∧ (q.2 < Int32.ofNat (wr x.1) ∨ q.2 = Int32.ofNat (wr x.1) ∧ q.1 ≤ x.2)
/-- faults of the class and of the reference belong together, where q0 was noted before -/
def FLR (wr : Nat → Nat) (q0 : Int32 × Int32) (LA LR : List (Nat × Int32)) : Prop := (∀ x ∈ LA, x.2 ≠ 0) → (∀ x ∈ LR, x.2 ≠ 0 ∧ (dmP wr q0 x ∨ ∃ y ∈ LA, dmF wr y x)) ∧ ∀ x ∈ LA, dmP wr q0 x ∨ ∃ y ∈ LR, dmF wr y x
theorem FLR.rf : FLR wr q0 L L := fun h => ⟨fun x hx => ⟨h x hx, Or.inr ⟨x, hx, dmF.rf⟩⟩, fun x hx => Or.inr ⟨x, hx, dmF.rf⟩⟩
theorem FLR.set (h : ∀ x, x ∈ LA ↔ x ∈ LR) : FLR wr q0 LA LR := fun h0 => ⟨fun x hx => ⟨h0 x ((h x).mpr hx), Or.inr ⟨x, (h x).mpr hx, dmF.rf⟩⟩, fun x hx => Or.inr ⟨x, (h x).mp hx, dmF.rf⟩⟩
theorem FLR.app (h : FLR wr q0 LA1 LR1) (g : FLR wr q0 LA2 LR2) : FLR wr q0 (LA1 ++ LA2) (LR1 ++ LR2) := fun h0 => by
  obtain ⟨a1, a2⟩ := h (fun x hx => h0 x (List.mem_append_left _ hx))
  obtain ⟨b1, b2⟩ := g (fun x hx => h0 x (List.mem_append_right _ hx))
  refine ⟨fun x hx => ?_, fun x hx => ?_⟩
  · rcases List.mem_append.mp hx with hx | hx
    · obtain ⟨e1, e2⟩ := a1 x hx
      exact ⟨e1, e2.imp id fun ⟨y, y1, y2⟩ => ⟨y, List.mem_append_left _ y1, y2⟩⟩
    · obtain ⟨e1, e2⟩ := b1 x hx
      exact ⟨e1, e2.imp id fun ⟨y, y1, y2⟩ => ⟨y, List.mem_append_right _ y1, y2⟩⟩
  · rcases List.mem_append.mp hx with hx | hx
    · exact (a2 x hx).imp id fun ⟨y, y1, y2⟩ => ⟨y, List.mem_append_left _ y1, y2⟩
    · exact (b2 x hx).imp id fun ⟨y, y1, y2⟩ => ⟨y, List.mem_append_right _ y1, y2⟩
theorem FLR.cgA (h : FLR wr q0 LA LR) (hm : ∀ x, x ∈ LA ↔ x ∈ LA1) : FLR wr q0 LA1 LR := fun h0 => by
  obtain ⟨a1, a2⟩ := h (fun x hx => h0 x ((hm x).mp hx))
  exact ⟨fun x hx => ⟨(a1 x hx).1, (a1 x hx).2.imp id fun ⟨y, y1, y2⟩ => ⟨y, (hm y).mp y1, y2⟩⟩, fun x hx => a2 x ((hm x).mpr hx)⟩
theorem FLR.cgR (h : FLR wr q0 LA LR) (hm : ∀ x, x ∈ LR ↔ x ∈ LR1) : FLR wr q0 LA LR1 := fun h0 => by
  obtain ⟨a1, a2⟩ := h h0
  exact ⟨fun x hx => a1 x ((hm x).mpr hx), fun x hx => (a2 x hx).imp id fun ⟨y, y1, y2⟩ => ⟨y, (hm y).mp y1, y2⟩⟩
/-- faults that are hidden by what was noted before don't count -/
theorem FLR.hid (h : FLR wr q0 LA LR) (hx : ∀ x ∈ LA1, dmP wr q0 x) : FLR wr q0 (LA ++ LA1) LR := fun h0 => by
  obtain ⟨a1, a2⟩ := h (fun x hx => h0 x (List.mem_append_left _ hx))
  refine ⟨fun x hx => ⟨(a1 x hx).1, (a1 x hx).2.imp id fun ⟨y, y1, y2⟩ => ⟨y, List.mem_append_left _ y1, y2⟩⟩, fun x hx' => ?_⟩
  rcases List.mem_append.mp hx' with hx' | hx'
  · exact a2 x hx'
  · exact Or.inl (hx x hx')
/-- the over-20th VARIABLE of an assignment is noted by the class -/
def F7X (C C' : CV) (LA : List (Nat × Int32)) : Prop := C 7 = 0 → C' 7 ≠ 0 → (C' 7 - 1, (5 : Int32)) ∈ LA
theorem F7X.rf {C C' : CV} (h : C' 7 = C 7) : F7X C C' LA := fun h1 h2 => absurd (h.trans h1) h2
theorem F7X.app {C C1 C' : CV} (h : F7X C C1 LA1) (g : F7X C1 C' LA2) (h7 : C1 7 ≠ 0 → C' 7 = C1 7) : F7X C C' (LA1 ++ LA2) := fun h1 h2 => by
  by_cases c : C1 7 = 0
  · exact List.mem_append_right _ (g c h2)
  · rw [h7 c]
    exact List.mem_append_left _ (h h1 c)
theorem F7X.cg {C C' D D' : CV} (h : F7X C C' LA) (h1 : D 7 = C 7) (h2 : D' 7 = C' 7) (hm : ∀ x ∈ LA, x ∈ LA1) : F7X D D' LA1 := fun a b => by
  rw [h2] at b ⊢
  exact hm _ (h (h1.symm.trans a) b)
end QC2
