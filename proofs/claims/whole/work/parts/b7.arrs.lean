/-! BOTH SIDES: ARRAYS: bounds of both, places -/
section P1
variable {kd wr : Nat → Nat} {z d : Nat}
/-- bounds, from their bracket on -/
def arX (kd : Nat → Nat) (d t : Nat) : Sum Nat Nat := if kd t = 45 then (if 40 ≤ d then .inl (t + 1) else bdR kd (d + 1) 3 (t + 1)) else .inl t
theorem a_bounds (hwr : ∀ i, wr i ≤ 8192) (hz1 : ∀ i, i + 1 < z → kd i ≠ 0) {t : Nat} {fa : Int32} {w : Wd} (h : IN1 kd wr z w t 0 fa) (h26 : gi w 26 10 = 0) (hd : d ≤ 40 ∨ kd t = 0) :
    RUN kd wr z (fX4_bounds (Int32.ofNat d) w) w t 0 (arX kd d t) fa (fun x _ v => x = Int32.ofNat (bdC kd (d + 1) 3 (t + 1)) ∧ FBD kd v (d + 1) 3 (t + 1)) := by
  have hk50 := h.k50 t
  unfold fX4_bounds arX
  rw [ltq, a_kind h.1]
  by_cases q : kd t = 45
  · have hd40 : d ≤ 40 := by
      rcases hd with hd | hd
      · exact hd
      · omega
    rw [if_pos q, if_pos (show Int32.ofNat (kd t) = 45 by rw [q]; rfl)]
    refine RUN.opn (g := bdR kd (d + 1) 3) (Q2 := fun x e v => x = Int32.ofNat (bdC kd (d + 1) 3 (t + 1)) ∧ FBD kd v (d + 1) 3 (t + 1)) (K := fun x3 w4 => lt (fX7_hide w4) fun w5 => oX4_bounds_39 FU x3 0 w5) hwr h (by omega) (by omega) hd40 ?_ (fun v t' fa' hv hO hc => ?_)
    · obtain ⟨qq, hq⟩ := bdY_0 (d := d + 1) h.zk 3
      refine ⟨qq, ?_⟩
      unfold bdR
      rw [hq]
      rfl
    · have h26' : gi v 26 10 = 0 := (hO 26 10 (by omega)).1.trans h26
      have hr := a_bnds (d := d + 1) hwr hz1 hv h26' (by
        rcases hc with ⟨c1, c2⟩ | ⟨c1, c2⟩
        · exact Or.inl (by omega)
        · exact Or.inr ⟨by omega, by rw [c2]; exact h.zk⟩)
      refine RUN.mono (show RUN kd wr z _ v t' 0 (bdR kd (d + 1) 3 t') fa' _ from hr) (fun x e u he _ hq => ?_)
      rcases hc with ⟨c1, c2⟩ | ⟨c1, c2⟩
      · rw [← c2]; exact hq
      · obtain ⟨qq, hq'⟩ := bdY_0 (d := d + 1) h.zk 3
        rw [c2] at he
        unfold bdR at he
        rw [hq'] at he
        exact nomatch he
  · rw [if_neg q, if_neg (show ¬ (Int32.ofNat (kd t) = 45) from fun e => q ((eq_iN (a := kd t) (b := 45) (by omega) (by omega)).mp e))]
    obtain ⟨f1, f2⟩ := a_fail h.1
    refine ⟨0, fX9_fail w, rfl, LOW.tk f2, f2.mono (fun _ _ hp => PE1.tk hp), fun p hp => ?_, fun e he => nomatch he⟩
    have : t = p := by injection hp
    rw [← this]
    exact h.tok f2 f1
end P1
section JT
variable {kd wr nm : Nat → Nat} {vv : Nat → Int64} {m z : Nat} {gA gM : Wd} {lv : Bool} {sl us B : Nat} {stk obl stkF : List Nat} {prs : PRL} {C TK : Nat → Nat} {SL : Nat → List Nat} {t d b : Nat} {fa : Int32} {wA wM : Wd} {γ α : Type} {wd : γ → Wd} {S : γ → α → Wd → Prop} {P : (Nat → Nat) → Nat → Wd → Wd → Prop}
theorem XPR.ext {sc : Int32} {lo lo0 pd tf n s e cn : Nat} {Cf : Nat → Nat} {uA uM fA fM : Wd} (h : XPR kd sc lo n d s e cn uA uM) (he : e ≤ tf) (hn : n < Cf 0) (hl : lo0 ≤ lo) (hp : pd < lo ∨ n ≤ pd) (hA : EXTA Cf tf stk obl uA fA) (hM : EXTL lo0 Cf stk prs obl pd uM fM) : XPR kd sc lo n d s e cn fA fM := by
  have hx := PWR_xw 41 h.2
  refine ⟨fmW_agr 41 d s e hx h.1 (AG9.ext hA he), (PWR.agr 41 fM uM _ _ _ _ _ _ h.2).2 (fun k j hk hl' hj => (hM k j ?_).1)⟩
  by_cases q : k = 11
  · exact Or.inr (Or.inl ⟨q, by omega, by omega, by omega⟩)
  · exact Or.inl ⟨by omega, by omega, by omega⟩
theorem PRSX.lo {sc : Int32} {fA fM : Wd} : ∀ (n : Nat) (xs : List Nat) (lo s e lo' : Nat), xs.length ≤ n → PRSX kd fA fM sc d xs lo s e lo' → lo + 2 ≤ lo' ∧ s < e := by
  intro n
  induction n using Nat.strongRecOn with
  | ind n ih =>
    intro xs lo s e lo' hn h
    match xs, h with
    | x :: y :: r, h =>
      obtain ⟨e1, e2, c1, c2, h1, h2, h3, h4, h5⟩ := h
      have a1 := (PWR.agr 41 fM fM _ _ _ _ _ _ h1.2).1
      have a2 := (PWR.agr 41 fM fM _ _ _ _ _ _ h3.2).1
      have b1 := xw_lt _ _ _ _ (PWR_xw 41 h1.2)
      have b2 := xw_lt _ _ _ _ (PWR_xw 41 h3.2)
      match r, h5 with
      | [], h5 => omega
      | v :: r', h5 =>
        have := ih (n - 2) (by simp only [List.length_cons] at hn; omega) (v :: r') (y + 1) (e2 + 1) e lo' (by simp only [List.length_cons] at hn ⊢; omega) h5.2.2
        omega
theorem PRSX.ext {sc : Int32} {lo0 pd tf : Nat} {Cf : Nat → Nat} {uA uM fA fM : Wd} (hA : EXTA Cf tf stk obl uA fA) (hM : EXTL lo0 Cf stk prs obl pd uM fM) : ∀ (n : Nat) (xs : List Nat) (lo s e lo' : Nat), xs.length ≤ n → PRSX kd uA uM sc d xs lo s e lo' → e ≤ tf → lo' ≤ Cf 0 → lo0 ≤ lo → pd < lo → PRSX kd fA fM sc d xs lo s e lo' := by
  intro n
  induction n using Nat.strongRecOn with
  | ind n ih =>
    intro xs lo s e lo' hn h he hlo hl0 hp
    match xs, h with
    | x :: y :: r, h =>
      have h' := h
      obtain ⟨e1, e2, c1, c2, h1, h2, h3, h4, h5⟩ := h
      have a1 := (PWR.agr 41 uM uM _ _ _ _ _ _ h1.2).1
      have a2 := (PWR.agr 41 uM uM _ _ _ _ _ _ h3.2).1
      have b1 := xw_lt _ _ _ _ (PWR_xw 41 h1.2)
      have b2 := xw_lt _ _ _ _ (PWR_xw 41 h3.2)
      have g11 : ∀ j, lo ≤ j → j < lo' → gi fM 11 j = gi uM 11 j := fun j j1 j2 => (hM 11 j (Or.inr (Or.inl ⟨rfl, by omega, by omega, by omega⟩))).1
      match r, h5 with
      | [], h5 =>
        obtain ⟨z1, z2, z3⟩ := h5
        exact ⟨e1, e2, c1, c2, h1.ext (by omega) (by omega) hl0 (Or.inl hp) hA hM, h2, h3.ext (by omega) (by omega) (by omega) (Or.inl (by omega)) hA hM, (g11 x (by omega) (by omega)).trans h4, z1, z2, (g11 y (by omega) (by omega)).trans z3⟩
      | v :: r', h5 =>
        obtain ⟨z1, z2, z3⟩ := h5
        have hlt := PRSX.lo (v :: r').length (v :: r') (y + 1) (e2 + 1) e lo' (Nat.le_refl _) z3
        exact ⟨e1, e2, c1, c2, h1.ext (by omega) (by omega) hl0 (Or.inl hp) hA hM, h2, h3.ext (by omega) (by omega) (by omega) (Or.inl (by omega)) hA hM, (g11 x (by omega) (by omega)).trans h4, z1, (g11 y (by omega) (by omega)).trans z2, ih (n - 2) (by simp only [List.length_cons] at hn; omega) (v :: r') (y + 1) (e2 + 1) e lo' (by simp only [List.length_cons] at hn ⊢; omega) z3 he hlo (by omega) (by omega)⟩
end JT
