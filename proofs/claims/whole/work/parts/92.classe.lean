/-! THE CLASS GOES OVER EXPRS: between operands, and all of a simple one -/
theorem redS_chn {g : Nat} : ∀ {S : List EV} (ev : List EV), CHN S → CHN (redS g S ev).1 ∧ notS (redS g S ev).1 ≤ notS S ∧ (0 < g → topS (redS g S ev).1 < g) := by
  intro S
  induction S with
  | nil => intro ev h; exact ⟨h, Nat.le_refl _, fun h => h⟩
  | cons s S ih =>
    intro ev h
    unfold redS
    by_cases q : g ≤ stg s.2.1
    · rw [if_pos q]
      obtain ⟨a, b, c⟩ := ih (ev ++ [s]) h.2
      exact ⟨a, Nat.le_trans b (Nat.le_add_right _ _), c⟩
    · rw [if_neg q]
      exact ⟨h, Nat.le_refl _, fun _ => by show stg s.2.1 < g; omega⟩
theorem redS_0 (S ev : List EV) : redS 0 S ev = ([], ev ++ S) := by
  have h := redS_all (g := 0) (S' := S) (S := []) (fun _ _ => Nat.zero_le _) (Or.inr rfl) ev
  rw [List.append_nil] at h
  exact h
def LOW (b : Nat) (u w : Wd) : Prop := ∀ j, j < b → gi u 44 j = gi w 44 j ∧ gi u 45 j = gi w 45 j
theorem LOW.tr {b : Nat} {u v w : Wd} (h : LOW b u v) (g : LOW b v w) : LOW b u w := fun j hj => ⟨(h j hj).1.trans (g j hj).1, (h j hj).2.trans (g j hj).2⟩
theorem LOW.prs {b : Nat} {u w : Wd} (h : OFF PRS u w) : LOW b u w := fun j _ => ⟨(h 44 j (fun hp => by have := hp.sg; omega)).1, (h 45 j (fun hp => by have := hp.sg; omega)).1⟩
theorem LOW.psg {b : Nat} {u w : Wd} (h : OFF (PSG b) u w) : LOW b u w := fun j hj => ⟨(h 44 j (by unfold PSG; omega)).1, (h 45 j (by unfold PSG; omega)).1⟩
theorem LOW.le {b b' : Nat} {u w : Wd} (h : LOW b u w) (hb : b' ≤ b) : LOW b' u w := fun j hj => h j (by omega)
section PQS
variable {pr : Nat → Nat → Sum Nat Nat}
/-- operands of ev begin from t on, and end up to e -/
def PQ (pr : Nat → Nat → Sum Nat Nat) (t e : Nat) (ev : List EV) : Prop := ∀ x ∈ ev, x.1 = 0 → t ≤ x.2.1 ∧ ∃ e', pr x.2.2 x.2.1 = .inr e' ∧ e' ≤ e
theorem PQ.wk {t t' e e' : Nat} {ev : List EV} (h : PQ pr t e ev) (ht : t' ≤ t) (he : e ≤ e') : PQ pr t' e' ev := fun x hx h0 => by
  obtain ⟨a, e1, b, c⟩ := h x hx h0
  exact ⟨by omega, e1, b, by omega⟩
theorem PQ.app {t e : Nat} {a b : List EV} (ha : PQ pr t e a) (hb : PQ pr t e b) : PQ pr t e (a ++ b) := fun x hx h0 => (List.mem_append.mp hx).elim (fun h => ha x h h0) (fun h => hb x h h0)
theorem PQ.sg {t e : Nat} {s : EV} (h : s.1 ≠ 0) : PQ pr t e [s] := fun x hx h0 => absurd (by rw [List.mem_singleton.mp hx] at h0; exact h0) h
end PQS
section CB
variable {kd wr : Nat → Nat} {gb : Bool} {z base d0 : Nat} {pr : Nat → Nat → Sum Nat Nat} {J : List EV → Wd → Prop}
theorem c_reduce (hJ : JX base J) {g : Nat} {gi' : Int32} (hgi : gi' = Int32.ofNat g) (hg : g ≤ 9) {S ev : List EV} {w : Wd} {t : Nat} {fa : Int32} (hT : CT kd wr gb z w t fa) (hW : CW J base d0 S ev w) : ∃ u, fX2_reduce (Int32.ofNat base) gi' w = some u ∧ CT kd wr gb z u t fa ∧ CW J base d0 (redS g S ev).1 (redS g S ev).2 u ∧ LOW base u w := by
  have hb := hW.b
  obtain ⟨h1, h2, h3, h4, h5, h6, h7⟩ := hW
  unfold fX2_reduce
  obtain ⟨f, hf⟩ := FU_ge (k := S.length + 1) (by omega)
  rw [hf, ← Nat.add_assoc, hgi]
  obtain ⟨u, a1, a2, a3, a4, a5, a6, a7⟩ := c_red hJ hg S ev w 0 f h1 h2 h3 h5 (by omega) (by omega)
  obtain ⟨r1, r2, r3⟩ := redS_chn (g := g) ev h4
  exact ⟨u, a1, hT.off a7 (fun k j hp => by have := hp.sg; omega), ⟨a3, a4, fun s hs => h3 s (a5 s hs), r1, a2, h6, by omega⟩, LOW.prs a7⟩
theorem c_between (hJ : JX base J) {n t : Nat} {S ev : List EV} {w : Wd} {fa : Int32} (hT : CT kd wr gb z w t fa) (hW : CW J base d0 S ev w) (hn : 9000 ≤ t + n) :
    (opX kd pr d0 n false S t ev = .inr (t, ev ++ S) ∧ ∃ u, fX2_between (Int32.ofNat base) w = some (false, u) ∧ CT kd wr gb z u t fa ∧ CW J base d0 [] (ev ++ S) u ∧ LOW base u w)
    ∨ (kd t ≠ 0 ∧ ∃ n' S' ev' u, opX kd pr d0 n false S t ev = opX kd pr d0 n' true S' (t + 1) ev' ∧ 9000 ≤ t + 1 + n' ∧ fX2_between (Int32.ofNat base) w = some (true, u) ∧ CT kd wr gb z u (t + 1) fa ∧ CW J base d0 S' ev' u ∧ notS S' ≤ notS S ∧ S' ≠ [] ∧ (∀ x ∈ ev', x ∈ ev ++ S) ∧ LOW base u w) := by
  have hz := hT.2.1
  have htz := hT.2.2.2.2.2.2.1
  have hk50 := hT.2.2.1 t
  obtain ⟨n1, rfl⟩ : ∃ n1, n = n1 + 1 := ⟨n - 1, by omega⟩
  have hs9 := stb_le (kd t)
  -- what comes of the strength
  have h35 : ∀ (g : Nat) (gi' : Int32), gi' = Int32.ofNat g → g = (if stb (kd t) = 6 then 7 else stb (kd t)) →
      (opX kd pr d0 (n1 + 1) false S t ev = .inr (t, ev ++ S) ∧ ∃ u, fX2_between_35 gi' (Int32.ofNat base) (Int32.ofNat (kd t)) (Int32.ofNat (stb (kd t))) w = some (false, u) ∧ CT kd wr gb z u t fa ∧ CW J base d0 [] (ev ++ S) u ∧ LOW base u w)
      ∨ (kd t ≠ 0 ∧ ∃ n' S' ev' u, opX kd pr d0 (n1 + 1) false S t ev = opX kd pr d0 n' true S' (t + 1) ev' ∧ 9000 ≤ t + 1 + n' ∧ fX2_between_35 gi' (Int32.ofNat base) (Int32.ofNat (kd t)) (Int32.ofNat (stb (kd t))) w = some (true, u) ∧ CT kd wr gb z u (t + 1) fa ∧ CW J base d0 S' ev' u ∧ notS S' ≤ notS S ∧ S' ≠ [] ∧ (∀ x ∈ ev', x ∈ ev ++ S) ∧ LOW base u w) := by
    intro g gi' hgi hg
    have hg9 : g ≤ 9 := by rw [hg]; split <;> omega
    obtain ⟨u1, a1, a2, a3, a4⟩ := c_reduce hJ hgi hg9 hT hW
    obtain ⟨u2, b1, b2, b3, b4⟩ := c_reduce hJ (g := 0) (gi' := 0) rfl (by omega) a2 a3
    rw [redS_0] at b3
    have hsum : (redS g S ev).2 ++ (redS g S ev).1 = ev ++ S := redS_sum ev
    have b3' : CW J base d0 [] (ev ++ S) u2 := by
      have h := b3
      dsimp only at h
      rw [hsum] at h
      exact h
    unfold fX2_between_35
    rw [a1]
    dsimp only [bn]
    rw [opX, ← hg]
    by_cases q0 : stb (kd t) = 0
    · rw [if_pos (Or.inl q0), if_pos (show Int32.ofNat (stb (kd t)) = 0 by rw [q0]; rfl), b1]
      exact Or.inl ⟨rfl, u2, rfl, b2, b3', b4.tr a4⟩
    · have hc0 : ¬ (Int32.ofNat (stb (kd t)) = 0) := fun e => q0 ((eq_iN (a := stb (kd t)) (b := 0) (by omega) (by omega)).mp e)
      have hb3 := a3.b
      rw [if_neg hc0]
      dsimp only [lt]
      rw [c_strongest a3.1 a3.2.1 (by omega) a3.2.2.1]
      obtain ⟨r1, r2, r3⟩ := redS_chn (g := g) ev hW.2.2.2.1
      have htop := r3 (by rw [hg]; split <;> omega)
      by_cases q1 : stb (kd t) = topS (redS g S ev).1
      · rw [if_pos (Or.inr q1), if_pos (by rw [← q1]), b1]
        exact Or.inl ⟨rfl, u2, rfl, b2, b3', b4.tr a4⟩
      · have hc1 : ¬ (Int32.ofNat (stb (kd t)) = Int32.ofNat (topS (redS g S ev).1)) := fun e => q1 ((eq_iN (by omega) (by omega)).mp e)
        have hor : ¬ (stb (kd t) = 0 ∨ stb (kd t) = topS (redS g S ev).1) := by omega
        rw [if_neg hor, if_neg hc1, a_at a2]
        obtain ⟨hst, h29⟩ := stb_stg (k := kd t) rfl q0
        have hk0 : kd t ≠ 0 := fun h => q0 (by rw [h]; rfl)
        obtain ⟨c1, c2⟩ := CW.hold (s := (2, kd t, t)) (x := Int32.ofNat (kd t)) (tk := Int32.ofNat t) hJ a3 (by
          unfold sgI
          rw [if_neg (fun h => by have h1 : 2 = 1 := h.1; omega)]) rfl ⟨hk50, by show stg (kd t) ≠ 0; omega, by show t ≤ 8193; omega, Or.inr ⟨rfl, h29⟩⟩ (Or.inl (by
          show topS (redS g S ev).1 < stg (kd t)
          rw [hst]
          rw [hg] at htop ⊢
          rw [hg] at q1
          split at htop <;> rename_i h6
          · rw [if_pos h6] at q1 ⊢; omega
          · rw [if_neg h6]; omega)) (by
          have := hW.2.2.2.2.2.2
          show d0 + (notS (redS g S ev).1 + (if kd t = 29 then 1 else 0)) ≤ 41
          rw [if_neg h29]
          omega)
        have hT1 : CT kd wr gb z (fX10_hold (Int32.ofNat (kd t)) (Int32.ofNat t) u1) t fa := a2.psg c2 (hold_4 9) (hold_4 10)
        obtain ⟨e1, e2⟩ := a_take (k := Int32.ofNat (kd t)) hT1 hk0 rfl
        rw [e1]
        have hO1 : OFF (fun k j => k = 4 ∧ (j = 9 ∨ j = 10)) (si (fX10_hold (Int32.ofNat (kd t)) (Int32.ofNat t) u1) 4 9 (Int32.ofNat (t + 1))) (fX10_hold (Int32.ofNat (kd t)) (Int32.ofNat t) u1) := OFF.si ⟨rfl, Or.inl rfl⟩
        refine Or.inr ⟨hk0, n1, _, _, _, rfl, by omega, rfl, e2, c1.tok hJ hO1, ?_, by simp, (fun x hx => by rw [← hsum]; exact List.mem_append_left _ hx), (LOW.psg (OFF.tr (hO1.mono (fun _ _ hp => Or.inl hp)) c2)).tr a4⟩
        show notS (redS g S ev).1 + (if kd t = 29 then 1 else 0) ≤ notS S
        rw [if_neg h29]
        omega
  unfold fX2_between
  dsimp only [lt]
  rw [a_kind hT]
  by_cases q29 : kd t = 29
  · rw [if_pos (show Int32.ofNat (kd t) = 29 by rw [q29]; rfl), if_neg (show ¬ ((0 : Int32) = 6) by decide)]
    have hs0 : stb (kd t) = 0 := by rw [q29]; rfl
    have h := h35 0 0 rfl (by rw [hs0]; rfl)
    rw [hs0] at h
    exact h
  · have hc29 : ¬ (Int32.ofNat (kd t) = 29) := fun e => q29 ((eq_iN (a := kd t) (b := 29) (by omega) (by omega)).mp e)
    have hsb : stb (kd t) = stg (kd t) := if_neg q29
    rw [if_neg hc29, strength_n hk50, ← hsb]
    by_cases q6 : stb (kd t) = 6
    · rw [if_pos (show Int32.ofNat (stb (kd t)) = 6 by rw [q6]; rfl)]
      exact h35 7 7 rfl (by rw [if_pos q6])
    · have hc6 : ¬ (Int32.ofNat (stb (kd t)) = 6) := fun e => q6 ((eq_iN (a := stb (kd t)) (b := 6) (by omega) (by omega)).mp e)
      rw [if_neg hc6]
      exact h35 _ _ rfl (by rw [if_neg q6])
end CB
