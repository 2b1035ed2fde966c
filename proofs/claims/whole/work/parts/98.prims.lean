/-! The PRIMARIES of a level lie in it -/
section PQ
variable {kd : Nat → Nat} {pr : Nat → Nat → Sum Nat Nat}
theorem lpR_pq {f : Nat → RS} {l : Nat} (hf : ∀ t r, f t = .inr r → t < r.1 ∧ PQ pr t r.1 r.2) {t0 : Nat} : ∀ (n t : Nat) (ev : List EV) (r : Nat × List EV), t0 ≤ t → PQ pr t0 t ev → lpR kd f l n t ev = .inr r → PQ pr t0 r.1 r.2 := by
  intro n
  induction n with
  | zero => intro t ev r _ hq h; injection h with h; rw [← h]; exact hq
  | succ n ih =>
    intro t ev r ht hq h
    unfold lpR at h
    by_cases q : stb (kd t) = l
    · rw [if_pos q] at h
      rcases hx : f (t + 1) with p | r2
      · rw [hx] at h; exact nomatch h
      · rw [hx] at h
        obtain ⟨h1, h2⟩ := hf _ _ hx
        have hq2 : PQ pr t0 r2.1 (ev ++ r2.2 ++ [(2, kd t, t)]) := ((hq.wk (Nat.le_refl _) (by omega)).app (h2.wk (by omega) (Nat.le_refl _))).app (PQ.sg (by show 2 ≠ 0; omega))
        dsimp only at h
        by_cases q6 : l = 6
        · rw [if_pos q6] at h
          injection h with h
          rw [← h]
          exact hq2
        · rw [if_neg q6] at h
          exact ih _ _ _ (by omega) hq2 h
    · rw [if_neg q] at h
      injection h with h
      rw [← h]
      exact hq
theorem rdN_pq {f : Nat → Nat → RS} (hf : ∀ d t r, f d t = .inr r → PQ pr t r.1 r.2) : ∀ (m d t : Nat) (r : Nat × List EV), rdN kd f m d t = .inr r → PQ pr t r.1 r.2 := by
  intro m
  induction m with
  | zero => exact fun d t r h => hf d t r h
  | succ m ih =>
    intro d t r h
    unfold rdN at h
    by_cases q : kd t = 29
    · rw [if_pos q] at h
      by_cases q2 : 40 ≤ d
      · rw [if_pos q2] at h; exact nomatch h
      · rw [if_neg q2] at h
        rcases hx : rdN kd f m (d + 1) (t + 1) with p | r2
        · rw [hx] at h; exact nomatch h
        · rw [hx] at h
          have h1 := ih _ _ _ hx
          injection h with h
          rw [← h]
          exact (h1.wk (by omega) (Nat.le_refl _)).app (PQ.sg (by show 1 ≠ 0; omega))
    · rw [if_neg q] at h
      exact hf _ _ _ h
theorem rd_pq (hp : ∀ d t e, pr d t = .inr e → t < e) : ∀ (j d t : Nat) (r : Nat × List EV), rd kd pr j d t = .inr r → PQ pr t r.1 r.2 := by
  intro j
  induction j with
  | zero =>
    intro d t r h
    unfold rd at h
    rcases hx : pr d t with p | e
    · rw [hx] at h; exact nomatch h
    · rw [hx] at h
      injection h with h
      rw [← h]
      intro x hx' _
      rw [List.mem_singleton.mp hx']
      exact ⟨Nat.le_refl _, e, hx, Nat.le_refl _⟩
  | succ j ih =>
    intro d t r h
    have hlt := rd_lt (kd := kd) hp j
    unfold rd at h
    by_cases q : j = 4
    · rw [if_pos q] at h
      exact rdN_pq ih _ _ _ _ h
    · rw [if_neg q] at h
      by_cases q2 : j = 2 ∧ (kd t = 33 ∨ kd t = 34)
      · rw [if_pos q2] at h
        rcases hx : rd kd pr j d (t + 1) with p | r2
        · rw [hx] at h; exact nomatch h
        · rw [hx] at h
          have h1 := hlt _ _ _ hx
          exact lpR_pq (fun t r h => ⟨hlt d t r h, ih d t r h⟩) _ _ _ _ (by omega) (((ih _ _ _ hx).wk (by omega) (Nat.le_refl _)).app (PQ.sg (by show 1 ≠ 0; omega))) h
      · rw [if_neg q2] at h
        rcases hx : rd kd pr j d t with p | r2
        · rw [hx] at h; exact nomatch h
        · rw [hx] at h
          have h1 := hlt _ _ _ hx
          exact lpR_pq (fun t r h => ⟨hlt d t r h, ih d t r h⟩) _ _ _ _ (by omega) (ih _ _ _ hx) h
end PQ
