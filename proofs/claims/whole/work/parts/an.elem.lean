/-! BOTH SIDES: the elements of a for; the class's functions -/
section JT
variable {kd wr nm : Nat → Nat} {vv : Nat → Int64} {m z : Nat} {gA gM : Wd} {lv : Bool} {sl us B : Nat} {stk obl stkF : List Nat} {prs : PRL} {C TK : Nat → Nat} {SL : Nat → List Nat} {t d b : Nat} {fa : Int32} {wA wM : Wd} {γ α : Type} {wd : γ → Wd} {S : γ → α → Wd → Prop} {P : (Nat → Nat) → Nat → Wd → Wd → Prop}
def elA (a2 : Int32) (w : Wd) : Wd := (fX0_put_ 35 a2 (fX0_put__ 40 w).2).2
def elB (w : Wd) : Wd := (fX0_put_ 26 1 w).2
def elC (x1 a3 a4 : Int32) (w : Wd) : Int32 × Wd := lt2 (fX0_put__ 34 w) fun x20 w21 => lt2 (fX4_body a3 a4 w21) fun x22 w23 => lt2 (fX0_put_ 33 x1 w23) fun _ w25 => lt2 (fX0_patch x20 w25) fun _ w27 => (x22, w27)
def stA (w : Wd) : Wd := (fX0_put__ 33 w).2
def stB (w : Wd) : Wd := (fX0_put__ 36 w).2
def stC (x1 x3 a2 : Int32) (w : Wd) : Wd := (fX0_put__ 24 (fX0_put_ 35 a2 (fX0_put_ 35 x3 (fX0_patch x1 w).2).2).2).2
def stD (x3 x9 a2 a3 a4 : Int32) (w19 : Wd) : Int32 × Wd := lt2 (fX0_put__ 39 w19) fun _ w21 => lt2 (fX0_put__ 34 w21) fun x22 w23 => lt2 (fX4_body a3 a4 w23) fun x24 w25 => lt2 (fX0_put__ 40 w25) fun _ w27 => lt2 (fX0_put_ 35 a2 w27) fun _ w29 => lt2 (fX0_put_ 35 a2 w29) fun _ w31 => lt2 (fX0_put__ 24 w31) fun _ w33 => lt2 (fX0_put_ 35 x3 w33) fun _ w35 => lt2 (fX0_put__ 1 w35) fun _ w37 => lt2 (fX0_put_ 26 1 w37) fun _ w39 => lt2 (fX0_put_ 33 x9 w39) fun _ w41 => lt2 (fX0_patch x22 w41) fun _ w43 => (x24, w43)
theorem e_body {a b : Int32} {w : Wd} : OFF PRE (fX4_body a b w).2 w := by
  unfold fX4_body
  exact OFF.tr e_put_ e_put_
theorem e_elA {a2 : Int32} {w : Wd} : OFF PRE (elA a2 w) w := OFF.tr e_put_ e_put__
theorem e_elB {w : Wd} : OFF PRE (elB w) w := e_put_
theorem e_elC {x1 a3 a4 : Int32} {w : Wd} : OFF PRE (elC x1 a3 a4 w).2 w := OFF.tr e_patch (OFF.tr e_put_ (OFF.tr e_body e_put__))
theorem e_stA {w : Wd} : OFF PRE (stA w) w := e_put__
theorem e_stB {w : Wd} : OFF PRE (stB w) w := e_put__
theorem e_stC {x1 x3 a2 : Int32} {w : Wd} : OFF PRE (stC x1 x3 a2 w) w := OFF.tr e_put__ (OFF.tr e_put_ (OFF.tr e_put_ e_patch))
theorem e_stD {x3 x9 a2 a3 a4 : Int32} {w : Wd} : OFF PRE (stD x3 x9 a2 a3 a4 w).2 w := by
  unfold stD
  simp only [lt2q]
  refine OFF.tr e_patch ?_
  refine OFF.tr e_put_ ?_
  refine OFF.tr e_put_ ?_
  refine OFF.tr e_put__ ?_
  refine OFF.tr e_put_ ?_
  refine OFF.tr e_put__ ?_
  refine OFF.tr e_put_ ?_
  refine OFF.tr e_put_ ?_
  refine OFF.tr e_put__ ?_
  refine OFF.tr e_body ?_
  refine OFF.tr e_put__ ?_
  exact e_put__
theorem bn2_no {α β γ : Type} (f : α → β → Option γ) : bn2 none f = none := rfl
theorem st_eq {a1 a2 a3 a4 : Int32} {w : Wd} {K : Int32 → Wd → Option γ} : bn2 (fX4_stepping a1 a2 a3 a4 w) K = bn2 (RX2_typed 900 0 a1 1 0 (stA w)) fun _ w5 => lt (fX9_need (Int32.ofNat 21) (stB w5)) fun w8 => bn2 (RX2_typed 900 0 a1 1 0 (stC (fX0_put__ 33 w).1 (fX0_here (stA w)) a2 w8)) fun _ w19 => K (stD (fX0_here (stA w)) (fX0_here w8) a2 a3 a4 w19).1 (stD (fX0_here (stA w)) (fX0_here w8) a2 a3 a4 w19).2 := by
  unfold fX4_stepping
  rw [lt2q, ltq, bn2_bn2]
  unfold stA
  generalize RX2_typed 900 0 a1 1 0 (fX0_put__ 33 w).2 = R
  rcases R with _ | ⟨y, w5⟩
  · rw [bn2_no, bn2_no]
  · rw [bn2_so, bn2_so, lt2q, ltq, ltq, lt2q, lt2q, lt2q, lt2q, ltq, bn2_bn2]
    unfold stC stB
    generalize (fX0_put__ 36 w5).2 = w7
    rw [show fX9_need 21 w7 = fX9_need (Int32.ofNat 21) w7 from rfl]
    generalize fX9_need (Int32.ofNat 21) w7 = w8
    generalize RX2_typed 900 0 a1 1 0 _ = R
    rcases R with _ | ⟨v, w19⟩
    · rw [bn2_no, bn2_no]
    · rw [bn2_so, bn2_so]
      unfold stD
      simp only [lt2q, bn2_so]
theorem el_eq {a1 a2 a3 a4 : Int32} {w : Wd} {K : Int32 → Wd → Option γ} : bn2 (fX4_element a1 a2 a3 a4 w) K = bn2 (RX2_typed 900 0 a1 1 0 (elA a2 w)) fun _ w7 => lt2 (fX9_take (Int32.ofNat 20) (elB w7)) fun c w11 => if c = true then bn2 (fX4_stepping a1 a2 a3 a4 w11) K else lt2 (fX9_take (Int32.ofNat 22) w11) fun c2 w16 => if c2 = true then (bn2 (RX2_typed 900 0 a1 2 0 w16) fun _ w19 => K (elC (fX0_here w) a3 a4 w19).1 (elC (fX0_here w) a3 a4 w19).2) else K (fX4_body a3 a4 w16).1 (fX4_body a3 a4 w16).2 := by
  unfold fX4_element
  rw [ltq]
  have e : ∀ (f : Wd → Option (Int32 × Wd)), (lt2 (fX0_put__ 40 w) fun x2 w3 => lt2 (fX0_put_ 35 a2 w3) fun x4 w5 => f w5) = f (elA a2 w) := fun f => rfl
  rw [e, bn2_bn2]
  generalize RX2_typed 900 0 a1 1 0 (elA a2 w) = R
  rcases R with _ | ⟨y, w7⟩
  · rw [bn2_no, bn2_no]
  · rw [bn2_so, bn2_so]
    have e2 : ∀ (f : Wd → Option (Int32 × Wd)), (lt2 (fX0_put_ 26 1 w7) fun x8 w9 => f w9) = f (elB w7) := fun f => rfl
    rw [e2, show fX9_take 20 (elB w7) = fX9_take (Int32.ofNat 20) (elB w7) from rfl]
    rcases fX9_take (Int32.ofNat 20) (elB w7) with ⟨c, w11⟩
    have hl : ∀ {δ : Type} (c : Bool) (f : Bool → Wd → δ), lt2 (c, w11) f = f c w11 := fun _ _ => rfl
    rw [hl, hl]
    cases c
    · rw [if_neg (by decide), if_neg (by decide), show fX9_take 22 w11 = fX9_take (Int32.ofNat 22) w11 from rfl]
      rcases fX9_take (Int32.ofNat 22) w11 with ⟨c2, w16⟩
      have hl2 : ∀ {δ : Type} (c : Bool) (f : Bool → Wd → δ), lt2 (c, w16) f = f c w16 := fun _ _ => rfl
      rw [hl2, hl2]
      cases c2
      · rfl
      · rw [if_pos rfl, if_pos rfl, bn2_bn2]
        rfl
    · rw [if_pos rfl, if_pos rfl, bn2_bn2]
      rfl
end JT
