/-! THE CLASS GOES OVER EXPRS: simple ones, as a whole -/
section CS
variable {kd wr : Nat → Nat} {gb : Bool} {z base d0 : Nat} {pr : Nat → Nat → Sum Nat Nat} {J : List EV → Wd → Prop} {rc : TX2_typed} {fmP : Nat → Nat → Int32}
theorem c_simple (hJ : JX base J) (hwr : ∀ i, wr i ≤ 8192) (hz0 : ∀ d t, kd t = 0 → pr d t = .inl t) (hlt : ∀ d t e, pr d t = .inr e → t < e) {t : Nat} (hP : PRM kd wr gb z base d0 t pr J rc fmP) {w : Wd} {fa : Int32} (hT : CT kd wr gb z w t fa) (hW : CW J base d0 [] [] w) (hd : d0 ≤ 40) :
    (∀ p, rd kd pr 9 d0 t = .inl p → ∃ w' fm ev', fX2_simple rc (Int32.ofNat d0) w = fX2_simple_129 rc (Int32.ofNat t) fm w' ∧ CT kd wr gb z w' (z - 1) (FA wr fa p) ∧ CW J base d0 [] ev' w' ∧ LOW base w' w ∧ (t = z - 1 → fm = 6))
    ∧ ∀ r, rd kd pr 9 d0 t = .inr r → ∃ w' fm, fX2_simple rc (Int32.ofNat d0) w = fX2_simple_129 rc (Int32.ofNat t) fm w' ∧ CT kd wr gb z w' r.1 fa ∧ CW J base d0 [] r.2 w' ∧ LOW base w' w ∧ fm = (if r.2 = [(0, t, d0)] then fmP d0 t else 6) := by
  have hz := hT.2.1
  have htz := hT.2.2.2.2.2.2.1
  have hk : ∀ t, 9000 ≤ t → kd t = 0 := fun t ht => hT.2.2.2.1 t (by omega)
  have h1 : opX kd pr d0 9000 true [] t [] = rd kd pr 9 d0 t := lv_one hk hlt (fun d t ht => hz0 d t (hk t ht)) hd (by omega)
  obtain ⟨f, hf⟩ := FU_ge (k := 9001) (by omega)
  have h2 : fX2_simple rc (Int32.ofNat d0) w = oX2_simple_26 rc (f + 9000 + 1) (Int32.ofNat d0) (Int32.ofNat t) (Int32.ofNat base) 6 true (Int32.ofNat 0) w := by
    unfold fX2_simple
    rw [ltq, ltq, a_at hT, show fX10_waiting w = Int32.ofNat base from hW.1, hf]
    rfl
  rw [h2, ← h1]
  exact c_simple_lp hJ hwr hz0 hlt hP 9000 9000 t [] [] w fa 0 f 6 (by omega) hT hW (by omega) hd (by omega) (Nat.le_refl _) (fun _ => ⟨rfl, rfl⟩) (fun x hx => absurd hx (by simp))
/-- a form, whether it may be an AIM -/
def amB (fm : Int32) (s : Nat) (w : Wd) : Bool := if fm = 1 ∨ fm = 2 then true else if fm = 4 then fX9_isAim (Int32.ofNat (s + 1)) w else false
theorem c_129 {s : Nat} {fm : Int32} {w : Wd} : fX2_simple_129 rc (Int32.ofNat s) fm w = some ((fX10_pop (fX9_form (Int32.ofNat s) fm (amB fm s w) w)).1, (fX10_pop (fX9_form (Int32.ofNat s) fm (amB fm s w) w)).2) := by
  have h165 : ∀ b : Bool, fX2_simple_165 rc b (Int32.ofNat s) fm w = some ((fX10_pop (fX9_form (Int32.ofNat s) fm b w)).1, (fX10_pop (fX9_form (Int32.ofNat s) fm b w)).2) := by
    intro b
    unfold fX2_simple_165
    rw [ltq, lt2q]
  unfold fX2_simple_129 amB
  by_cases q1 : fm = 1
  · rw [if_pos q1, if_pos (Or.inl q1), h165]
  · rw [if_neg q1]
    by_cases q2 : fm = 2
    · rw [if_pos q2, if_pos (Or.inr q2), h165]
    · have hor : ¬ (fm = 1 ∨ fm = 2) := fun h => h.elim q1 q2
      rw [if_neg q2, if_neg hor]
      by_cases q4 : fm = 4
      · rw [if_pos q4, if_pos q4, ltq, ad1_iN]
        cases fX9_isAim (Int32.ofNat (s + 1)) w
        · rw [if_neg (by decide), h165]
        · rw [if_pos rfl, h165]
      · rw [if_neg q4, if_neg q4, h165]
end CS
