/-! BOTH MACHINES: all nodes, but for calls -/
section NA
variable {E : SENV} {Lim : Nat}
/-- what stays for the whole RUN, together -/
def STA (E : SENV) : Prop := EOKS E ∧ SYS E ∧ LIT E ∧ SPR E ∧ SAD E ∧ SWT E
/-- calls with ACTUALS -/
def CL5 (E : SENV) (Lim : Nat) : Prop := ∀ (k n : Nat) (stk : List Nat) (p a a1 b b1 : Nat), ALLk E Lim k → gi (vM E) 7 n = 5 → NOD E stk p (k + 1) 0 n a a1 b b1 → SIM E Lim stk p (k + 1) 0 n a a1 b b1
theorem ALLX.of (h : STA E) (hC0 : CL0 E Lim) (hC5 : CL5 E Lim) (hU : USD E Lim) (hL : USL E Lim) (hX : ∀ L, L < Lim → ALLX E L) : ALLX E Lim := by
  obtain ⟨hE, hS, hT, hP, hW, hV⟩ := h
  intro k
  induction k with
  | zero => exact fun md n stk p a a1 b b1 _ _ hc => hc.elim
  | succ k ih =>
    intro md n stk p a a1 b b1 hmd q1 q2 q3 q4 q5 q6 q7
    have H : NOD E stk p (k + 1) md n a a1 b b1 := ⟨q1, q2, q3, q4, q5, q6, q7⟩
    show SIM E Lim stk p (k + 1) md n a a1 b b1
    have hcs : md = 0 ∨ md = 1 ∨ md = 2 := by omega
    rcases hcs with hm | hm | hm <;> subst hm
    · rcases okn0_k q5 with h | h | h | h | h | h | h | h | h
      · exact H.n1 hE hT h
      · exact H.n2 hE hT h
      · exact H.n9 ih h
      · exact H.n3 hE hS hU hC0 h
      · exact H.n4 hE hS ih h
      · exact hC5 k n stk p a a1 b b1 ih h H
      · exact H.n8 hE hS ih h
      · exact H.n7 hE hS ih h
      · exact H.n6 hE hS ih h
    · rcases okn1_k q5 with h | h
      · exact H.p4 hE hS ih h
      · exact H.p3 hE hS hU (rsp_ok hE hS hP) h
    · rcases okn2_k q5 with h | h | h | h
      · exact H.a9 ih h
      · exact H.a8 hE hS ih h
      · exact H.a4 hE hS hW hV hX ih h
      · exact H.a3 hE hS hW hL h
/-- all together, by the STEPS that are left: calls once what's called is known for fewer -/
theorem ALLX.all (h : STA E) {Q : Nat → Prop} (hQ : ∀ Lim, (∀ L, L < Lim → ALLX E L ∧ USD E L ∧ Q L) → USD E Lim → CL0 E Lim ∧ CL5 E Lim ∧ (ALLX E Lim → Q Lim)) : ∀ Lim, ALLX E Lim ∧ USD E Lim ∧ Q Lim := by
  intro Lim
  induction Lim using Nat.strongRecOn with
  | ind Lim ih =>
    have hU : USD E Lim := USD.step h.1 h.2.1 (fun L hL => ⟨(ih L hL).1, (ih L hL).2.1⟩)
    have hL : USL E Lim := USL.step h.1 (fun L hL => (ih L hL).1)
    obtain ⟨c1, c2, c3⟩ := hQ Lim ih hU
    have hX := ALLX.of h c1 c2 hU hL (fun L hL => (ih L hL).1)
    exact ⟨hX, hU, c3 hX⟩
end NA
