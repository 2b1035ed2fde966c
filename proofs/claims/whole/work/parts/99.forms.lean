/-! FORMS stay where their TOKENS' stay -/
section FA9
variable {kd : Nat → Nat} {u w : Wd}
def AG9 (u w : Wd) (s e : Nat) : Prop := ∀ k j, 8 ≤ k → k ≤ 10 → s ≤ j → j < e → gi u k j = gi w k j
theorem AG9.sub {s e s' e' : Nat} (h : AG9 u w s e) (h1 : s ≤ s') (h2 : e' ≤ e) : AG9 u w s' e' := fun k j a b c d => h k j a b (by omega) (by omega)
theorem rowF_agr {f : Nat → Sum Nat Nat} {W W' : Nat → Prop} (hf : ∀ t e, f t = .inr e → t < e) (hW : ∀ t e, f t = .inr e → W t → AG9 u w t e → W' t) : ∀ (n t e : Nat), rw_ kd f n t = .inr e → rowF kd f W n t → AG9 u w t e → rowF kd f W' n t := by
  intro n
  induction n with
  | zero => exact fun _ _ _ _ _ => trivial
  | succ n ih =>
    intro t e h hr hA
    unfold rw_ at h
    rcases hx : f t with p | e1
    · rw [hx] at h; exact nomatch h
    · rw [hx] at h
      dsimp only at h
      have h1 := hf _ _ hx
      have hle : e1 ≤ e := by
        by_cases q : kd e1 = 40
        · rw [if_pos q] at h
          have := rw_lt hf _ _ _ h
          omega
        · rw [if_neg q] at h
          injection h with h
          omega
      refine ⟨hW t e1 hx hr.1 (hA.sub (Nat.le_refl _) hle), fun e2 he2 hk => ?_⟩
      rw [hx] at he2
      injection he2 with he2
      subst he2
      rw [if_pos hk] at h
      exact ih _ _ h (hr.2 e1 hx hk) (hA.sub (by omega) (Nat.le_refl _))
theorem inP_agr {k : Nat} {W W' : Nat → Nat → Prop} (hW : ∀ d s e, xw kd k d s = .inr e → W d s → AG9 u w s e → W' d s) {d t e : Nat} (h : xp kd k d t = .inr e) (hP : inP kd k W d t) (hA : AG9 u w t e) : inP kd k W' d t := by
  refine ⟨fun q => ?_, fun q q2 => ?_⟩
  · have h1 := hP.1 q
    have h' : prX kd (xw kd k) d t = .inr e := h
    unfold prX at h'
    rw [if_neg (by omega), if_pos q] at h'
    by_cases q40 : 40 ≤ d
    · rw [if_pos q40] at h'; exact nomatch h'
    · rw [if_neg q40] at h'
      rcases hx : xw kd k (d + 1) (t + 1) with p | e1
      · rw [hx] at h'; exact nomatch h'
      · rw [hx] at h'
        dsimp only at h'
        by_cases q44 : kd e1 = 44
        · rw [if_pos q44] at h'
          injection h' with h'
          exact hW _ _ _ hx h1 (hA.sub (by omega) (by omega))
        · rw [if_neg q44] at h'; exact nomatch h'
  · have h1 := hP.2 q q2
    have hb : ∃ c, br_ kd (xw kd k (d + 1)) c (t + 2) = .inr e := by
      have h' : prX kd (xw kd k) d t = .inr e := h
      unfold prX at h'
      rw [if_neg (by omega), if_neg (by omega), if_pos q] at h'
      rcases q2 with q2 | q2
      · rw [if_pos q2] at h'
        by_cases q40 : 40 ≤ d
        · rw [if_pos q40] at h'; exact nomatch h'
        · rw [if_neg q40] at h'; exact ⟨44, h'⟩
      · rw [if_neg (by omega), if_pos q2] at h'
        by_cases q40 : 40 ≤ d
        · rw [if_pos q40] at h'; exact nomatch h'
        · rw [if_neg q40] at h'; exact ⟨46, h'⟩
    obtain ⟨c, hb⟩ := hb
    unfold br_ at hb
    rcases hx : rw_ kd (xw kd k (d + 1)) (9000 - (t + 2)) (t + 2) with p | e1
    · rw [hx] at hb; exact nomatch hb
    · rw [hx] at hb
      dsimp only at hb
      by_cases qc : kd e1 = c
      · rw [if_pos qc] at hb
        injection hb with hb
        exact rowF_agr (xw_lt k (d + 1)) (fun t e => hW (d + 1) t e) _ _ _ hx h1 (hA.sub (by omega) (by omega))
      · rw [if_neg qc] at hb; exact nomatch hb
theorem fmX_4 {k d t : Nat} (h : fmX kd k d t = 4) : kd t = 43 := by
  unfold fmX at h
  by_cases q : kd t = 43
  · exact q
  · rw [if_neg q] at h
    split at h
    · split at h
      · exact absurd h (by decide)
      · split at h
        · split at h <;> exact absurd h (by decide)
        · exact absurd h (by decide)
    · exact absurd h (by decide)
theorem xp_43 {k d t e : Nat} (h : xp kd k d t = .inr e) (q : kd t = 43) : t + 2 < e := by
  have h' : prX kd (xw kd k) d t = .inr e := h
  unfold prX at h'
  rw [if_neg (by omega), if_pos q] at h'
  by_cases q40 : 40 ≤ d
  · rw [if_pos q40] at h'; exact nomatch h'
  · rw [if_neg q40] at h'
    rcases hx : xw kd k (d + 1) (t + 1) with p | e1
    · rw [hx] at h'; exact nomatch h'
    · rw [hx] at h'
      dsimp only at h'
      have := xw_lt k _ _ _ hx
      by_cases q44 : kd e1 = 44
      · rw [if_pos q44] at h'
        injection h' with h'
        omega
      · rw [if_neg q44] at h'; exact nomatch h'
theorem fmS_agr {k : Nat} {W W' : Nat → Nat → Prop} (hW : ∀ d s e, xw kd k d s = .inr e → W d s → AG9 u w s e → W' d s) {d s e : Nat} (h : smX kd (xp kd k) d s = .inr e) (hF : fmS kd k W w d s) (hA : AG9 u w s e) : fmS kd k W' u d s := by
  intro r hr
  unfold smX at h
  rw [hr] at h
  injection h with h
  obtain ⟨a, b, c, f⟩ := hF r hr
  have hlt := rd_lt (kd := kd) (xp_lt (kd := kd) k) _ _ _ _ hr
  have hpq := rd_pq (kd := kd) (xp_lt (kd := kd) k) _ _ _ _ hr
  have g : ∀ kk, 8 ≤ kk → kk ≤ 10 → gi u kk s = gi w kk s := fun kk h1 h2 => hA kk s h1 h2 (Nat.le_refl _) (by omega)
  rw [g 10 (by omega) (by omega), g 8 (by omega) (by omega), g 9 (by omega) (by omega)]
  refine ⟨a, b, ?_, fun x hx h0 => ?_⟩
  · by_cases q4 : gi w 8 s = 4
    · have hsing : r.2 = [(0, s, d)] ∧ fmX kd k d s = 4 := by
        rw [q4] at b
        by_cases q : r.2 = [(0, s, d)]
        · rw [if_pos q] at b; exact ⟨q, b.symm⟩
        · rw [if_neg q] at b; exact absurd b (by decide)
      obtain ⟨_, e', he', hle⟩ := hpq (0, s, d) (by rw [hsing.1]; exact List.mem_singleton.mpr rfl) rfl
      have := xp_43 he' (fmX_4 hsing.2)
      rw [hA 9 (s + 1) (by omega) (by omega) (by omega) (by omega)]
      exact c
    · constructor
      · intro h9
        rcases c.mp h9 with h8 | h8 | h8
        · exact Or.inl h8
        · exact Or.inr (Or.inl h8)
        · exact absurd h8.1 q4
      · intro h8
        refine c.mpr ?_
        rcases h8 with h8 | h8 | h8
        · exact Or.inl h8
        · exact Or.inr (Or.inl h8)
        · exact absurd h8.1 q4
  · obtain ⟨h1, e', he', hle⟩ := hpq x hx h0
    exact inP_agr hW he' (f x hx h0) (hA.sub h1 (by omega))
theorem fmW_agr : ∀ (k d s e : Nat), xw kd k d s = .inr e → fmW kd w k d s → AG9 u w s e → fmW kd u k d s := by
  intro k
  induction k with
  | zero => exact fun _ _ _ _ _ _ => trivial
  | succ k ih =>
    intro d s e h hF hA
    have h' : whX kd (xp kd k) (xw kd k) d s = .inr e := h
    unfold whX at h'
    refine ⟨fun q => ?_, fun q e1 e2 e3 h1 h2 h3 => ?_⟩
    · rw [if_neg q] at h'
      exact fmS_agr ih h' (hF.1 q) hA
    · rw [if_pos q] at h'
      by_cases q40 : 40 ≤ d
      · rw [if_pos q40] at h'; exact nomatch h'
      · rw [if_neg q40, h1] at h'
        dsimp only at h'
        by_cases q16 : kd e1 = 16
        · rw [if_pos q16, h2] at h'
          dsimp only at h'
          by_cases q17 : kd e2 = 17
          · rw [if_pos q17, h3] at h'
            injection h' with h'
            subst h'
            obtain ⟨a, b, c, d1, e4, f⟩ := hF.2 q e1 e2 e3 h1 h2 h3
            have l1 := xw_lt k _ _ _ h1
            have l2 := smX_lt (xp_lt (kd := kd) k) h2
            have l3 := xw_lt k _ _ _ h3
            refine ⟨ih _ _ _ h1 a (hA.sub (by omega) (by omega)), fmS_agr ih h2 b (hA.sub (by omega) (by omega)), ih _ _ _ h3 c (hA.sub (by omega) (by omega)), ?_, ?_, ?_⟩
            · rw [hA 8 s (by omega) (by omega) (by omega) (by omega)]; exact d1
            · rw [hA 10 s (by omega) (by omega) (by omega) (by omega)]; exact e4
            · rw [hA 9 s (by omega) (by omega) (by omega) (by omega), hA 9 (e1 + 1) (by omega) (by omega) (by omega) (by omega), hA 9 (e2 + 1) (by omega) (by omega) (by omega) (by omega)]
              exact f
          · rw [if_neg q17] at h'; exact nomatch h'
        · rw [if_neg q16] at h'; exact nomatch h'
end FA9
