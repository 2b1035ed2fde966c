/-! BOTH SIDES MAKE DECLS' CODES, AND WHAT THEY DO: VARIABLES, ARRAYS, switches -/
section OJ9
variable {kd wr nm TK SG : Nat → Nat} {vv : Nat → Int64} {m z : Nat} {Cf C C1 C' : Nat → Nat} {SL : Nat → List Nat} {fA fM : Wd} {NS ns SZ lev : Nat} {pn : Nat → Int32} {p sg W s e s0 d j s1 ty own i0 y nsc : Nat} {st stk al : List Nat} {R : RTD} {rc rc0 : TX4_block} {E : SENV} {lu : Nat → Nat}
/-- the class goes over VARIABLES -/
theorem s_dvar (ho : own = 1 ∧ kd s = 6 ∧ s1 = s + 2 ∨ own = 0 ∧ s1 = s + 1) (hty : kd (s1 - 1) = 6 + ty) (h1 : 1 ≤ ty) (h2 : ty ≤ 2) (hj : 1 ≤ j) (hN : NMS kd fM s1 j i0) (hk : kd (s1 + 2 * j - 1) ≠ 40) (hj9 : j ≤ 9000) : SPE kd wr z fA lu lev pn d s (s1 + 2 * j - 1) 0 [] (fun b b' _ => b' = b) 0 (fX4_declaration rc (Int32.ofNat d)) := by
  intro w a base ob hw hb ho' ha
  rcases ho with ⟨_, k6, rfl⟩ | ⟨_, rfl⟩
  · obtain ⟨w1, d1, d2⟩ := dc_own (rc := rc) (d := d) hw k6 hty h1 h2
    obtain ⟨u, u1, u2⟩ := c_variables (ty := Int32.ofNat ty) (own := true) hN hj hk d2.1 hj9
    refine ⟨u, a, ?_, ((d2.seq u2).wk (fun b b' g ⟨b1, g1, g2⟩ => by rw [g2, g1]) (by omega)).cL rfl⟩
    rw [d1, u1, bn_so]
  · have hty : kd s = 6 + ty := hty
    obtain ⟨w1, d1, d2⟩ := dc_33 (rc := rc) (d := d) (ty := ty) (t1 := s + 1) hw (by omega) (Or.inr ⟨h1, h2, hty, rfl⟩)
    obtain ⟨u, u1, u2⟩ := c_variables (ty := Int32.ofNat ty) (own := false) hN hj hk d2.1 hj9
    refine ⟨u, a, ?_, ((d2.seq u2).wk (fun b b' g ⟨b1, g1, g2⟩ => by rw [g2, g1]) (by omega)).cL rfl⟩
    rw [d1, dc_var d2.1 (hN 0 (by omega)).1, u1, bn_so]
/-- VARIABLES: no codes -/
theorem jd_var (hR : R (fun b b' _ _ => b' = b) [] [] []) (ho : own = 1 ∧ kd s = 6 ∧ s1 = s + 2 ∨ own = 0 ∧ s1 = s + 1) (hty : kd (s1 - 1) = 6 + ty) (h1 : 1 ≤ ty) (h2 : ty ≤ 2) (hj : 1 ≤ j) (hN : NMS kd fM s1 j (C 1)) (he : e = s1 + 2 * j - 1) (hk : kd e ≠ 40) (hj9 : j ≤ 9000) (hi : C 1 + j ≤ ns) (hC1 : C' 1 = C 1 + j) (hC2 : C' 2 = C 2) (hw : wr s ≤ wr e) (h19 : ∀ i, i < j → gi fM 19 (C 1 + i) = 1)
    (hr : ∀ w, rc 2 (Int32.ofNat d) 0 0 w = fX4_declaration rc0 (Int32.ofNat d) w) : JDX (fun LA PD T => SSC kd wr nm TK z fA SL NS ns SZ lev pn (sg + W) sg (C 2) (C' 2) (C 1) (C' 1) s e (s0 :: st) LA PD T (fun w => rc 2 (Int32.ofNat d) 0 0 w)) kd wr nm TK SG m SL fA fM NS ns lev R p sg W s e s0 st [] C C' 0 := by
  rw [hC1, hC2]
  subst he
  refine ⟨⟨by omega, by omega⟩, ⟨by omega, hw, Nat.zero_le _⟩, _, [], [], [], ?_, ⟨rfl, fun x hx => absurd hx (by simp)⟩, ⟨fun y hy => absurd hy (by simp), List.Pairwise.nil, fun i _ h1 h2 h5 => ?_⟩, Nat.zero_le _, hR, fun E _ _ _ => ⟨fun a a' Z hA => by have hA : a' = a := hA; omega, fun b b' hM => by have hM : b' = b := hM; omega⟩, fun E s1 Lim bk m1 m1' hEQ _ _ _ _ => ?_⟩
  · have h := SSC.ec (SZ := SZ) (kp := sg) (sg := sg + W) (NS := NS) (ns := ns) (nm := nm) (TK := TK) (SL := SL) (nsc := C 2) (stk := s0 :: st) (i := C 1) (s_dvar (wr := wr) (z := z) (fA := fA) (lu := luN nm TK SL (s0 :: st)) (lev := lev) (pn := pn) (d := d) (rc := rc0) ho hty h1 h2 hj hN hk hj9) (by omega)
    have h := h.wk (fun b b' Z g h => h) (i2 := C 1) (i3 := C 1 + j) (Nat.zero_le (4 * (wr (s1 + 2 * j - 1) - wr s))) (by omega)
    intro w a sz hG ha
    have := h w a sz hG ha
    rw [← hr] at this
    exact this
  · have := h19 (i - C 1) (by omega)
    rw [show C 1 + (i - C 1) = i by omega] at this
    exact absurd (this.symm.trans h5) (by decide)
  · exact dcq_no (by omega) (fun y h1 h2 => by
      have q1 : vM E = fM := hEQ.1
      have := h19 (y - C 1) (by omega)
      rw [show C 1 + (y - C 1) = y by omega] at this
      rw [q1, this]
      exact ⟨by decide, by decide⟩)
end OJ9
