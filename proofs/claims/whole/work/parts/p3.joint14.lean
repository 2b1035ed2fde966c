/-! BOTH SIDES: switches of a BLOCK, in the order of its list -/
section PD3
variable {nm TK : Nat → Nat} {SL : Nat → List Nat} {fA fM : Wd} {p K cur lo hi i h : Nat} {st : List Nat} {slu : Nat → Nat → Nat} {swl : List (Nat × List (Nat × Nat))} {ps : List (Nat × Nat)}
theorem swD_of (hlo : lo ≤ hi) : ∀ {l : List Nat} {hi : Nat}, lo ≤ hi → l.Pairwise (fun a b => b < a) → (∀ i ∈ l, gi fM 19 i = 5 → lo ≤ i ∧ i < hi) → swD fM l lo hi := by
  intro l
  induction l with
  | nil => exact fun h _ _ => h
  | cons i r ih =>
    intro hi hlo hp hl
    obtain ⟨p1, p2⟩ := List.pairwise_cons.mp hp
    refine ⟨fun h5 => ?_, fun h5 => ih hlo p2 (fun j hj q => hl j (List.mem_cons_of_mem _ hj) q)⟩
    obtain ⟨a, b⟩ := hl i List.mem_cons_self h5
    exact ⟨a, b, ih a p2 (fun j hj q => ⟨(hl j (List.mem_cons_of_mem _ hj) q).1, p1 j hj⟩)⟩
/-- AIMS of switch i -/
def swFind : List (Nat × List (Nat × Nat)) → Nat → List (Nat × Nat)
  | [], _ => []
  | y :: r, i => if y.1 = i then y.2 else swFind r i
theorem swFind_mem : ∀ (swl : List (Nat × List (Nat × Nat))), swl.Pairwise (fun a b => a.1 < b.1) → (i, ps) ∈ swl → swFind swl i = ps := by
  intro swl
  induction swl with
  | nil => exact fun _ h => absurd h (by simp)
  | cons y r ih =>
    intro hp hm
    obtain ⟨p1, p2⟩ := List.pairwise_cons.mp hp
    show (if y.1 = i then y.2 else swFind r i) = ps
    rcases List.mem_cons.mp hm with e | e
    · rw [← e, if_pos rfl]
    · have := p1 _ e
      rw [if_neg (by show ¬ y.1 = i; have : y.1 < i := this; omega)]
      exact ih p2 e
def swU (h : Nat) : List (Nat × List (Nat × Nat)) → Nat
  | [] => 0
  | y :: r => (if y.1 < h then smT y.2 + 1 else 0) + swU h r
theorem swU_le (hh : i ≤ h) : ∀ swl, swU i swl ≤ swU h swl := by
  intro swl
  induction swl with
  | nil => exact Nat.le_refl _
  | cons y r ih =>
    show (if y.1 < i then smT y.2 + 1 else 0) + swU i r ≤ (if y.1 < h then smT y.2 + 1 else 0) + swU h r
    by_cases c : y.1 < i
    · rw [if_pos c, if_pos (by omega)]; omega
    · rw [if_neg c]; omega
theorem swU_in (hh : i < h) : ∀ swl, (i, ps) ∈ swl → swU i swl + (smT ps + 1) ≤ swU h swl := by
  intro swl
  induction swl with
  | nil => exact fun h => absurd h (by simp)
  | cons y r ih =>
    intro hm
    show (if y.1 < i then smT y.2 + 1 else 0) + swU i r + (smT ps + 1) ≤ (if y.1 < h then smT y.2 + 1 else 0) + swU h r
    rcases List.mem_cons.mp hm with e | e
    · subst e
      have := swU_le (Nat.le_of_lt hh) r
      rw [if_neg (Nat.lt_irrefl i), if_pos hh]
      show 0 + swU i r + (smT ps + 1) ≤ smT ps + 1 + swU h r
      omega
    · have := ih e
      by_cases c : y.1 < i
      · rw [if_pos c, if_pos (by omega)]; omega
      · rw [if_neg c]; omega
theorem swU_T : ∀ swl, swU h swl ≤ swT swl := by
  intro swl
  induction swl with
  | nil => exact Nat.le_refl _
  | cons y r ih =>
    show (if y.1 < h then smT y.2 + 1 else 0) + swU h r ≤ smT y.2 + 1 + swT r
    split <;> omega
theorem swkT_le (hs : swl.Pairwise (fun a b => a.1 < b.1)) : ∀ (l : List Nat) (h : Nat), l.Pairwise (fun a b => b < a) → (∀ i ∈ l, i < h) → (∀ i ∈ l, gi fM 19 i = 5 → ∃ ps, (i, ps) ∈ swl) → swkT fM (swFind swl) l ≤ swU h swl := by
  intro l
  induction l with
  | nil => exact fun h _ _ _ => Nat.zero_le _
  | cons i r ih =>
    intro h hp hl hm
    obtain ⟨p1, p2⟩ := List.pairwise_cons.mp hp
    have h1 := ih i p2 p1 (fun j hj q => hm j (List.mem_cons_of_mem _ hj) q)
    have hi := hl i List.mem_cons_self
    show (if gi fM 19 i = 5 then smT (swFind swl i) + 1 else 0) + swkT fM (swFind swl) r ≤ _
    by_cases c : gi fM 19 i = 5
    · obtain ⟨ps, hps⟩ := hm i List.mem_cons_self c
      rw [if_pos c, swFind_mem swl hs hps]
      have := swU_in hi swl hps
      omega
    · rw [if_neg c]
      have := swU_le (Nat.le_of_lt hi) swl
      omega
/-- no faults in switches -/
theorem swkL_no {sps : Nat → List (Nat × Nat)} : ∀ (l : List Nat), swkL fM slu cur K sps l = [] → ∀ i ∈ l, gi fM 19 i = 5 → (((sps i).map Prod.fst).flatMap fun x => FLX fM (slu i) cur K 2 x 0) = [] := by
  intro l
  induction l with
  | nil => exact fun _ i h => absurd h (by simp)
  | cons j r ih =>
    intro h i hi h5
    obtain ⟨f1, f2⟩ := app_nil (show (if gi fM 19 j = 5 then ((sps j).map Prod.fst).flatMap fun x => FLX fM (slu j) cur K 2 x 0 else []) ++ swkL fM slu cur K sps r = [] from h)
    rcases List.mem_cons.mp hi with rfl | hi
    · rw [if_pos h5] at f1
      exact f1
    · exact ih f2 i hi h5
end PD3
