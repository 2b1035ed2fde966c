/-! WORDS ARE PARTED: bytes, with one more behind words -/
section SF6
variable {B : Nat → Nat} {n : Nat}
theorem nmS_end (B : Nat → Nat) (n fr : Nat) : ∀ (f a p : Nat), a ≤ n → n ≤ a + f → (nmS B n fr f a p).1 < n → cdN (B (nmS B n fr f a p).1) = 0 := by
  intro f
  induction f with
  | zero => intro a p h1 h2 h3; exact absurd h3 (by show ¬ a < n; omega)
  | succ f ih =>
    intro a p h1 h2 h3
    unfold nmS at h3 ⊢
    by_cases c : a < n ∧ cdN (B a) ≠ 0
    · rw [if_pos c] at h3 ⊢
      exact ih (a + 1) _ (by omega) (by omega) h3
    · rw [if_neg c] at h3 ⊢
      have h3 : a < n := h3
      show cdN (B a) = 0
      refine Classical.byContradiction fun q => c ⟨h3, q⟩
/-- bytes of words that matter -/
def elT (k : Nat) : Nat := if k = 4 then 5 else if k = 5 then 3 else if k = 18 then 3 else if k = 19 then 2 else 1
theorem elT_pk : ∀ k : Nat, k < 29 → 37 ^ (elT (4 + k) - 1) ≤ wpk k := by decide
/-- a word -/
theorem word_end {a : Nat} (ha : a < n) (hk : (tkS B n a).1 = 2 ∨ (tkS B n a).1 = 4 ∨ (tkS B n a).1 = 5 ∨ (tkS B n a).1 = 18 ∨ (tkS B n a).1 = 19) : cdN (B a) ≠ 0 ∧ a + elT (tkS B n a).1 ≤ (tkS B n a).2.2 ∧ ((tkS B n a).2.2 < n → cdN (B (tkS B n a).2.2) = 0) := by
  have hgt := tkS_gt (B := B) ha
  unfold tkS at hk hgt ⊢
  by_cases c1 : 48 ≤ B a ∧ B a ≤ 57
  · rw [if_pos c1] at hk
    exfalso
    by_cases c2 : (dgS B n (n - a) a 0).2 < 34359738368
    · rw [if_pos c2] at hk
      have hk : 3 = 2 ∨ 3 = 4 ∨ 3 = 5 ∨ 3 = 18 ∨ 3 = 19 := hk
      omega
    · rw [if_neg c2] at hk
      have hk : 1 = 2 ∨ 1 = 4 ∨ 1 = 5 ∨ 1 = 18 ∨ 1 = 19 := hk
      omega
  · rw [if_neg c1] at hk hgt ⊢
    by_cases c3 : cdN (B a) ≠ 0
    · rw [if_pos c3] at hk hgt ⊢
      refine ⟨c3, ?_, nmS_end B n a (n - a) a 0 (by omega) (by omega)⟩
      by_cases c4 : 10 < (nmS B n a (n - a) a 0).1 - a
      · rw [if_pos c4] at hk
        have hk : 1 = 2 ∨ 1 = 4 ∨ 1 = 5 ∨ 1 = 18 ∨ 1 = 19 := hk
        omega
      · rw [if_neg c4] at hgt ⊢
        have hgt' : a < (nmS B n a (n - a) a 0).1 := hgt
        rcases hw : wdS (nmS B n a (n - a) a 0).2 29 with _ | k
        · show a + elT 2 ≤ (nmS B n a (n - a) a 0).1
          unfold elT
          rw [if_neg (by omega), if_neg (by omega), if_neg (by omega), if_neg (by omega)]
          omega
        · have hk := wdS_lt hw
          have hp := wdS_eq hw
          have hb := nm_pk (B := B) (n := n) a (n - a) a 0 (Nat.le_refl _) (by omega) (by rw [Nat.sub_self]; decide)
          rw [← hp] at hb
          have h2 := Nat.lt_of_le_of_lt (elT_pk k hk) hb
          have h3 := (Nat.pow_lt_pow_iff_right (a := 37) (by decide)).mp h2
          show a + elT (4 + k) ≤ (nmS B n a (n - a) a 0).1
          omega
    · rw [if_neg c3] at hk
      exfalso
      have hs := sgS_b (B a)
      by_cases c5 : a + 1 < n ∧ lgS (sgS (B a)) (B (a + 1)) ≠ sgS (B a)
      · rw [if_pos c5] at hk
        have hk : lgS (sgS (B a)) (B (a + 1)) = 2 ∨ lgS (sgS (B a)) (B (a + 1)) = 4 ∨ lgS (sgS (B a)) (B (a + 1)) = 5 ∨ lgS (sgS (B a)) (B (a + 1)) = 18 ∨ lgS (sgS (B a)) (B (a + 1)) = 19 := hk
        have hge : 33 ≤ lgS (sgS (B a)) (B (a + 1)) := by
          have := c5.2
          unfold lgS at this ⊢
          repeat (first | omega | split at * )
        omega
      · rw [if_neg c5] at hk
        have hk : sgS (B a) = 2 ∨ sgS (B a) = 4 ∨ sgS (B a) = 5 ∨ sgS (B a) = 18 ∨ sgS (B a) = 19 := hk
        omega
theorem tks_from : ∀ (f a i : Nat) (t : Nat × Nat × Nat), (tks B n f a)[i]? = some t → a ≤ t.2.1 ∧ t.2.1 < n ∧ t.1 = (tkS B n t.2.1).1 ∧ ∀ t', (tks B n f a)[i + 1]? = some t' → (tkS B n t.2.1).2.2 ≤ t'.2.1 := by
  intro f
  induction f with
  | zero => intro a i t h; exact absurd h (by simp [tks])
  | succ f ih =>
    intro a i t h
    unfold tks at h ⊢
    by_cases c : a < n
    · rw [if_pos c] at h ⊢
      by_cases c2 : B a = 32 ∨ B a = 10
      · rw [if_pos c2] at h ⊢
        obtain ⟨g1, g2, g3, g4⟩ := ih _ _ _ h
        exact ⟨by omega, g2, g3, g4⟩
      · rw [if_neg c2] at h ⊢
        cases i with
        | zero =>
          have e : ((tkS B n a).1, a, (tkS B n a).2.1) = t := by simpa using h
          subst e
          refine ⟨Nat.le_refl _, c, rfl, fun t' h' => ?_⟩
          have h2 : (tks B n f (tkS B n a).2.2)[0]? = some t' := by simpa using h'
          exact (ih _ _ _ h2).1
        | succ i =>
          have h2 : (tks B n f (tkS B n a).2.2)[i]? = some t := by simpa using h
          obtain ⟨g1, g2, g3, g4⟩ := ih _ _ _ h2
          have := tkS_gt (B := B) c
          exact ⟨by omega, g2, g3, fun t' h' => g4 t' (by simpa using h')⟩
    · rw [if_neg c] at h
      exact absurd h (by simp)
/-- bytes, with one more where no word begins -/
def phT (B : Nat → Nat) (n i : Nat) : Nat := wrT B n i + (if wrT B n i < n ∧ cdN (B (wrT B n i)) ≠ 0 then 0 else 1)
theorem phw_T {m : Nat} (hm : ∀ i, i < m → kdT B n i ≠ 0) : PHW (kdT B n) (phT B n) m := by
  intro i hi
  have hk0 := hm i hi
  obtain ⟨k0, hk0'⟩ : ∃ k, k = (tks B n n 0).length := ⟨_, rfl⟩
  have hik : i < k0 := by
    refine Classical.byContradiction fun c => hk0 ?_
    unfold kdT tsL
    by_cases c2 : i = k0
    · rw [List.getElem?_append_right (by omega), c2, hk0', Nat.sub_self]
      rfl
    · rw [List.getElem?_eq_none (by rw [List.length_append]; show (tks B n n 0).length + 1 ≤ i; omega)]
      rfl
  have hlo : ∀ i, i < k0 → (tsL B n)[i]? = (tks B n n 0)[i]? := fun i hi => List.getElem?_append_left (by omega)
  obtain ⟨t, ht⟩ : ∃ t, (tks B n n 0)[i]? = some t := ⟨(tks B n n 0)[i]'(by omega), List.getElem?_eq_getElem (by omega)⟩
  obtain ⟨_, g2, g3, g4⟩ := tks_from n 0 i t ht
  have e1 : kdT B n i = (tkS B n t.2.1).1 := by
    unfold kdT
    rw [hlo i hik, ht]
    exact g3
  have e2 : wrT B n i = t.2.1 := by
    unfold wrT
    rw [hlo i hik, ht]
    rfl
  have hgt := tkS_gt (B := B) g2
  have hle := tkS_le (B := B) g2
  have hnx : (tkS B n t.2.1).2.2 ≤ wrT B n (i + 1) := by
    by_cases c : i + 1 < k0
    · obtain ⟨t', ht'⟩ : ∃ t', (tks B n n 0)[i + 1]? = some t' := ⟨(tks B n n 0)[i + 1]'(by omega), List.getElem?_eq_getElem (by omega)⟩
      have := g4 t' ht'
      unfold wrT
      rw [hlo _ c, ht']
      exact this
    · have : wrT B n (i + 1) = n := by
        unfold wrT tsL
        rw [List.getElem?_append_right (by omega), show i + 1 - (tks B n n 0).length = 0 by omega]
        rfl
      omega
  have hge : wrT B n (i + 1) ≤ phT B n (i + 1) := by unfold phT; omega
  have hword : (tkS B n t.2.1).1 = 2 ∨ (tkS B n t.2.1).1 = 4 ∨ (tkS B n t.2.1).1 = 5 ∨ (tkS B n t.2.1).1 = 18 ∨ (tkS B n t.2.1).1 = 19 → phT B n i + elT (kdT B n i) + 1 ≤ phT B n (i + 1) := fun hw => by
    obtain ⟨w1, w2, w3⟩ := word_end g2 hw
    have p1 : phT B n i = t.2.1 := by
      unfold phT
      rw [e2, if_pos ⟨g2, w1⟩]
      rfl
    rw [p1, e1]
    by_cases c : wrT B n (i + 1) = (tkS B n t.2.1).2.2
    · have : phT B n (i + 1) = wrT B n (i + 1) + 1 := by
        unfold phT
        rw [if_neg (fun q => q.2 (by rw [c]; exact w3 (by rw [← c]; exact q.1)))]
      omega
    · omega
  have hpi : phT B n i ≤ t.2.1 + 1 := by
    unfold phT
    rw [e2]
    split <;> omega
  refine ⟨by omega, fun h => ?_, fun h => ?_, fun h => ?_, fun h => ?_, fun h => ?_⟩
  · have := hword (by rw [← e1]; omega)
    rw [h, show elT 4 = 5 from rfl] at this
    omega
  · have := hword (by rw [← e1]; omega)
    rw [h, show elT 5 = 3 from rfl] at this
    omega
  · have := hword (by rw [← e1]; omega)
    rw [h, show elT 18 = 3 from rfl] at this
    omega
  · have := hword (by rw [← e1]; omega)
    rw [h, show elT 19 = 2 from rfl] at this
    omega
  · have := hword (by rw [← e1]; omega)
    rw [h, show elT 2 = 1 from rfl] at this
    omega
end SF6
