/-! BOTH SIDES MAKE A BLOCK'S CODES, AND WHAT THEY DO: its STEP -/
section PE4
variable {E : SENV} {Lim p a a1 b b1 sg m1 s0 m2 : Nat} {stk : List Nat} {kd wr nm TK : Nat → Nat} {z : Nat} {fA : Wd} {SL : Nat → List Nat} {NS ns SZ lev kp nsc nsc1 i0 i1 t e d T : Nat} {pn : Nat → Int32} {L : List (Nat × Int32)} {P : Nat → Nat → Nat → Wd → Prop} {rc rcB : TX4_block}
theorem SIT.pay (hE : EOKS E) (h : SIT E Lim stk p sg m1 s0 m2 (a + 1) a1 (b + 1) b1) (w0 : gl (cA E) 41 a = wdC 40 0 0) {X Y Z : Int32} (o0 : opW (dM E) b 12 X Y Z) (ha : a + 1 ≤ a1 ∧ a1 < eNo E 5 0) (hb : b < 60000) : SIT E Lim stk p sg m1 s0 m2 a a1 b b1 := by
  intro K A sc x i wA wM hA hon hl hr hp hT hF H hH hL hroom hxa hxk hx1 hx2 g
  have hN := hE.1
  refine JS.pay (x1 := x + 1) hE H hA hon w0 o0 (by omega) hb ⟨by unfold KK at *; omega, by omega⟩ (fun uA uM hs J k0 _ => ?_)
  refine h K A (sc + 1) (x + 1) _ uA uM hA hon hl hr hp hT hF J hH (by omega) hroom (fun j B hB => by have := hxa j B hB; omega) (by omega) (by omega) hx2 (fun qA qM sc2 i2 J3 s2 => ?_)
  exact g qA qM sc2 i2 (J3.up (by omega) hxk) (by omega)
theorem s_st4 (h4 : kd t = 4) (h : SSC kd wr nm TK z fA SL NS ns SZ lev pn sg kp nsc nsc1 i0 i1 t e stk L P T (fX4_block rcB (Int32.ofNat d))) (h0 : ∀ w, rc 0 (Int32.ofNat d) 0 0 w = fX4_block rcB (Int32.ofNat d) w) (hi : i0 ≤ ns) : SSC kd wr nm TK z fA SL NS ns SZ lev pn sg kp nsc nsc1 i0 i1 t e stk L (fun b b' Z g => gl g 41 b = wdC 40 0 0 ∧ P (b + 1) b' Z g) (T + 1) (fX4_statement_61 rc (Int32.ofNat d)) := by
  intro w a sz hG ha
  obtain ⟨w1, p1, p2⟩ := EC.put1 (x := 40) hG.gc (by omega)
  have E1 := ESC.ec (i := i0) hG p2 hi
  obtain ⟨u, a', sz', u1, u2⟩ := h w1 (a + 1) sz E1.1 (by omega)
  have hb5 := u2.2.2.2.2.1
  refine ⟨u, a', sz', ?_, ((E1.seq u2).wk (fun b b' Z g ⟨b1, g1, g2⟩ => by rw [g1.2] at g2; exact ⟨g1.1, g2⟩) (by omega)).cL rfl⟩
  unfold fX4_statement_61
  rw [a_kind hG.1, h4, ltq, if_neg (by decide), if_pos (show Int32.ofNat 4 = 4 from rfl), p1, lt2q, h0, u1, bn2_so]
end PE4
