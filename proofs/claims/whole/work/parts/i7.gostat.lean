/-! BOTH MACHINES: the STATEMENT goto, the STATEMENT if -/
section GS7
variable {E : SENV} {Lim p nx n1 n2 n3 a a1 a2 a3 b b1 b2 b3 : Nat} {stk : List Nat}
theorem SIS.goto (hE : EOKS E) (hS : SYS E) (hW : SAD E) (hB : SLB E) (hv : SIG E Lim stk p (PL E) 2 nx (a + 1) a1 (b + 1) b1) (w1 : gl (cA E) 41 a = wdC 40 0 0) (w2 : gl (cA E) 41 a1 = wdC 50 0 0) {X Y Z X' Y' Z' : Int32} (o1 : opW (dM E) b 12 X Y Z) (o2 : opW (dM E) b1 19 X' Y' Z') (ha : a + 1 ≤ a1 ∧ a1 < eNo E 5 0) (hb : b < 60000 ∧ b1 < 60000) : SIS E Lim stk p nx a (a1 + 1) b (b1 + 1) := by
  intro K A h sp sc x i wA wM hA hon hst hp H hH hL hh hxa hxk hc
  refine JS.pay (x1 := x + 1 - KK) hE H hA hon w1 o1 (by omega) hb.1 ⟨by omega, by unfold KK at *; omega⟩ (fun uA uM hs J k0 _ => ?_)
  refine hv K A h sp (sc + 1) (x + 1 - KK) _ uA uM hA hon hst hp J hH (by omega) hh (fun j B hB => by have := hxa j B hB; unfold KK at *; omega) (by unfold KK at *; omega) ?_
  intro yA yM sc2 i2 J2 s2 hPL k2
  exact JS.goto hE hS hW hB J2 hA hPL hH (by omega) w2 o2 (by omega) hb.2 (fun j B hB => by have := hxa j B hB; omega)
/-- if .. then .. else .. -/
theorem SIS.if3 (hE : EOKS E) (h1 : SIV E Lim stk p 2 n1 (a + 1) a1 (b + 1) b1) (h2 : SIS E Lim stk p n2 (a1 + 1) a2 (b1 + 1) b2) (h3 : SIS E Lim stk p n3 (a2 + 1) a3 (b2 + 1) b3) (w0 : gl (cA E) 41 a = wdC 40 0 0) {X Y Z : Int32} (o0 : opW (dM E) b 12 X Y Z) (ha : a + 1 ≤ a1 ∧ a1 + 1 ≤ a2 ∧ a2 + 1 ≤ a3 ∧ a3 < eNo E 5 0) (hb : b < 60000 ∧ b1 < 60000 ∧ b2 < 60000 ∧ b3 ≤ 60000) (hn : n1 ≤ nx ∧ n2 ≤ nx ∧ n3 ≤ nx)
    (w1 : gl (cA E) 41 a1 = jwC 34 (a2 + 1)) (w2 : gl (cA E) 41 a2 = jwC 33 a3) (o1 : opW (dM E) b1 11 (Int32.ofNat (b2 + 1)) 0 0) (o2 : opW (dM E) b2 10 (Int32.ofNat b3) 0 0) : SIS E Lim stk p nx a a3 b b3 := by
  intro K A h sp sc x i wA wM hA hon hst hp H hH hL hh hxa hxk hc
  refine JS.pay (x1 := x + 1) hE H hA hon w0 o0 (by omega) hb.1 ⟨by unfold KK at *; omega, by omega⟩ (fun uA uM hs J k0 _ => ?_)
  refine SIG.if3 hE P0_pos (SIV_g.mp h1) h2 h3 ⟨ha.1, ha.2.1, ha.2.2.1, ha.2.2.2⟩ ⟨hb.2.1, hb.2.2.1, hb.2.2.2⟩ hn w1 w2 o1 o2 K A h sp (sc + 1) (x + 1) _ uA uM hA hon hst hp J hH (by omega) hh (fun j B hB => by have := hxa j B hB; omega) (by omega) ?_
  intro yA yM sc2 i2 J2 s2 hP k2
  have e : x + 1 + ((a3 : Int) - ((a + 1 : Nat) : Int)) = x + (a3 - a) := by omega
  rw [e] at J2
  exact hc yA yM sc2 i2 J2 (by omega) hP (k0.tr k2)
end GS7
