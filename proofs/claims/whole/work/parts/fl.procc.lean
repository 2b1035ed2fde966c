/-! PASS 2, THE CLASS: ARRAYS in a BLOCK; procedures -/
/-- a procedure is gone into: level L -/
def nlW (L : Nat) (x : Int32) (w : Wd) : Wd := si (si (si (si (si (si w 34 5 (Int32.ofNat L)) 35 L x) 36 L 6) 37 L 6) 38 L 0) 39 L 2
/-- the procedures round it, with one more -/
def upN (pn : Nat → Int32) (L : Nat) (x : Int32) : Nat → Int32 := fun l => if l = L then x else pn l
theorem off_si2 {Q : Nat → Nat → Prop} {u w : Wd} {k j : Nat} {v : Int32} (h : OFF Q u w) : OFF Q (si u k j v) (si w k j v) := fun a b hp => by
  have := h a b hp
  refine ⟨?_, this.2⟩
  by_cases q : a = k ∧ b = j
  · obtain ⟨rfl, rfl⟩ := q
    rw [gi_si0, gi_si0]
  · rw [gi_si1 q, gi_si1 q]
    exact this.1
theorem off_nl {Q : Nat → Nat → Prop} {u w : Wd} {L : Nat} {x : Int32} (h : OFF Q u w) : OFF Q (nlW L x u) (nlW L x w) := off_si2 (off_si2 (off_si2 (off_si2 (off_si2 (off_si2 h)))))
theorem nl_off {w : Wd} {L : Nat} {x : Int32} : OFF (fun k j => (k = 34 ∧ j = 5) ∨ (35 ≤ k ∧ k ≤ 39 ∧ j = L)) (nlW L x w) w :=
  OFF.tr (OFF.si (Or.inr ⟨by omega, by omega, rfl⟩)) (OFF.tr (OFF.si (Or.inr ⟨by omega, by omega, rfl⟩)) (OFF.tr (OFF.si (Or.inr ⟨by omega, by omega, rfl⟩)) (OFF.tr (OFF.si (Or.inr ⟨by omega, by omega, rfl⟩)) (OFF.tr (OFF.si (Or.inr ⟨by omega, by omega, rfl⟩)) (OFF.si (Or.inl ⟨rfl, rfl⟩))))))
section ES
variable {kd wr nm TK : Nat → Nat} {z : Nat} {fA fM : Wd} {SL : Nat → List Nat} {NS ns SZ lev cur m : Nat} {pn : Nat → Int32} {i i0 i1 t e e1 d K lo lo' sg sg1 sz sz1 kp kp1 nsc nsc1 s s0 y a a1 : Nat} {stk stk1 : List Nat} {hid hid1 : Int32} {C : Nat → Nat} {sc x : Int32} {w u : Wd} {L : List (Nat × Int32)} {P : Nat → Nat → Nat → Wd → Prop} {B T : Nat}
theorem s_arrays {xs : List Nat} {j nb n : Nat} {ty : Int32} (hc : CTX kd wr m z C TK fA fM (luN nm TK SL stk) lev cur pn) (h9 : kd s = 9) (hN : NMS kd fM (s + 1) j y) (hj : 1 ≤ j) (hk45 : kd (s + 1 + 2 * j - 1) = 45) (hSY : ∀ i, i < C 1 → SYM kd m C TK fA fM i) (hy : y + j ≤ C 1) (hC : C 1 ≤ 4100) (hd : d ≤ 39) (hb1 : 1 ≤ nb) (hb3 : nb ≤ 3) (hxs : xs.length = 2 * nb) (h : PRSX kd fA fM sc (d + 1) xs lo (s + 1 + 2 * j) e1 lo') (hlo : lo' ≤ 24000) (hk46 : kd e1 = 46) (he : e1 < m) (hK : 96100 ≤ K) (hi : i ≤ ns) :
    SSC kd wr nm TK z fA SL NS ns SZ lev pn sg kp nsc nsc i i s (e1 + 1) (s0 :: stk) (bdFc fM (luN nm TK SL stk) cur K xs) (PARc fM fA (luN nm TK SL stk) cur lev K y j nb xs) (4 * (wr (e1 + 1) - wr s)) (fun w => bn (fX4_arrays (Int32.ofNat d) ty w) fun w => some (0, w)) := by
  obtain ⟨hS, hFM, hPN, hwr, hz, hW, hz9, hk0⟩ := id hc
  obtain ⟨nb', rfl⟩ : ∃ nb', nb = nb' + 1 := ⟨nb - 1, by omega⟩
  have hlt := bd_lt nb' xs lo (s + 1 + 2 * j) (by omega) h
  have hlen : ∀ k, s + k ≤ m → wr s + k ≤ wr (s + k) := by
    intro k
    induction k with
    | zero => exact fun _ => Nat.le_refl _
    | succ k ih =>
      intro hk
      have h1 := ih (by omega)
      have h2 := hW (s + k) (by omega)
      rw [show s + (k + 1) = s + k + 1 by omega]
      omega
  have m1 := hlen (1 + 2 * j) (by omega)
  rw [show s + (1 + 2 * j) = s + 1 + 2 * j by omega] at m1
  have m2 := wr_mo hW e1 hlt.1 (by omega)
  have m3 := hW e1 he
  have hT : ∀ i, i < j → gi fA 25 (s + 1 + 2 * i) = Int32.ofNat (y + i + 1) := fun i hi => by
    obtain ⟨_, _, l5⟩ := hN i hi
    obtain ⟨y1, y2, y3, y4, y5, _⟩ := hSY (y + i) (by omega)
    have hTK : TK (y + i) = s + 1 + 2 * i := by
      rw [l5] at y4
      exact ((eq_iN (by omega) (by omega)).mp y4).symm
    rw [hTK] at y5
    exact y5
  intro w a sz hG ha
  have hcf := hG.cfit
  obtain ⟨n1, n2⟩ := EC.need hG.gc (k := 9) h9 (by omega)
  obtain ⟨k1, _, _⟩ := hN 0 (by omega)
  obtain ⟨d1, d2⟩ := c_decl (so := 2) (ty := ty) n2.1 k1
  obtain ⟨fo, hf⟩ := FU_ge (k := j + 2) (by omega)
  obtain ⟨u, u1, u2⟩ := c_arn (d := d) (ty := ty) (x3 := Int32.ofNat (s + 1)) hN hk45 (j - 1) 1 (fo + 1) _ (by omega) (by omega) (show GC2 kd wr z fA (luN nm TK SL (s0 :: stk)) lev pn (s + 1 + 2 * 1 - 1) a 0 0 _ from d2.1)
  obtain ⟨o1, o2⟩ := EC.opn u2.1 (d := d) (by omega) (by omega) (by omega)
  have E1 := ESC.ec (i := i) hG (((n2.seq d2).seq u2).seq o2) hi
  have E2 := ESC.hide (i := i) E1.1 hi
  obtain ⟨fo2, hf2⟩ := FU_ge (k := nb' + 2) (by omega)
  obtain ⟨v, a1, v1, v2⟩ := bd_c hc (show e1 ≤ m by omega) hlo hk46 (show d + 1 ≤ 40 by omega) hK hb3 (base := 0) (ob := 0) (by omega) (by omega) nb' xs lo (s + 1 + 2 * j) (by omega) h 0 fo2 a (fX7_hide (si u 4 9 (Int32.ofNat (s + 1 + 2 * j - 1 + 1)))) (by omega) (by
    have := E2.1.gcH
    generalize fX7_hide (si u 4 9 (Int32.ofNat (s + 1 + 2 * j - 1 + 1))) = W9 at this ⊢
    rw [show s + 1 + 2 * j - 1 + 1 = s + 1 + 2 * j by omega] at this
    exact this) (by omega)
  have hb5 := v2.2.2.2.2.1
  have E3 := ESC.ec (i := i) E2.1 v2 hi
  have E4 := ESC.showAll (i := i) E3.1 hi
  obtain ⟨n3, n4⟩ := EC.need E4.1.gc (k := 46) hk46 (by omega)
  obtain ⟨fo3, hf3⟩ := FU_ge (k := j + 1) (by omega)
  obtain ⟨v9, x1, x2⟩ := c_make (x3 := Int32.ofNat (s + 1)) rfl hT (by omega) (by omega) hb3 j 0 fo3 a1 _ (by omega) n4.1 (by omega)
  have E5 := ESC.ec (i := i) E4.1 (n4.seq x2) hi
  refine ⟨v9, _, _, ?_, (((((E1.seq E2).seq E3).seq E4).seq E5).wk (fun b b' Z g hg => ?_) (by omega)).cL (by simp)⟩
  · have hbd : fX4_bounds (Int32.ofNat d) u = some (Int32.ofNat (nb' + 1), si (fX7_showAll v) 4 9 (Int32.ofNat (e1 + 1))) := by
      unfold fX4_bounds
      rw [a_kind u2.1.1, hk45, ltq, if_pos (show Int32.ofNat 45 = 45 from rfl), o1, lt2q, ltq, hf2]
      show oX4_bounds_39 (fo2 + nb' + 1 + 1) _ _ _ = _
      show fX4_bounds_39 (oX4_bounds_39 (fo2 + nb' + 1)) _ _ _ = _
      unfold fX4_bounds_39
      rw [if_neg (by decide), if_pos rfl, show (0 : Int32) = Int32.ofNat 0 from rfl, v1]
      unfold fX4_bounds_93
      rw [ltq, show (46 : Int32) = Int32.ofNat 46 from rfl, n3, ltq]
    show bn (fX4_arrays (Int32.ofNat d) ty w) _ = _
    unfold fX4_arrays
    rw [show (9 : Int32) = Int32.ofNat 9 from rfl, n1, ltq, a_at n2.1.1, ltq]
    have h20 : oX4_arrays_20 FU (Int32.ofNat d) ty (Int32.ofNat (s + 1)) 0 (si w 4 9 (Int32.ofNat (s + 1))) = oX4_arrays_20 (fo + 1 + (j - 1) + 1) (Int32.ofNat d) ty (Int32.ofNat (s + 1)) (Int32.ofNat 1) (si (si w 4 9 (Int32.ofNat (s + 1))) 4 9 (Int32.ofNat (s + 1 + 1))) := by
      rw [hf, show fo + (j + 2) = (fo + 1 + (j - 1) + 1) + 1 by omega]
      show fX4_arrays_20 (oX4_arrays_20 (fo + 1 + (j - 1) + 1)) _ _ _ _ _ = _
      unfold fX4_arrays_20
      rw [if_neg (by decide), if_pos rfl, d1, lt2q]
      rfl
    rw [h20, u1, hbd, bn2_so, hf3, ← Nat.add_assoc]
    have x1' : oX4_arrays_68 (fo3 + j + 1) (Int32.ofNat (s + 1)) (Int32.ofNat j) (Int32.ofNat (nb' + 1)) 0 (si (fX7_showAll v) 4 9 (Int32.ofNat (e1 + 1))) = some v9 := x1
    rw [x1', bn_so]
  · obtain ⟨b1, ⟨b2, ⟨b3, ⟨b4, ⟨b5, ⟨b6, ⟨b7, g1, g2⟩, g3⟩, g4⟩, g5⟩, g6⟩, g7⟩, b8, g8, g9, g10, g11⟩ := hg
    rw [g5, g4, g3, g2, g1] at g6
    rw [g8, g7] at g9 g10 g11
    refine ⟨b2, g6, fun q hq => ?_, g10, g11⟩
    have := g9 q hq
    rw [Nat.zero_add] at this
    exact this
theorem ESC.fix (h : ESC kd wr nm TK z fA SL NS ns SZ lev pn i0 i1 t a a1 sg sz sz1 kp nsc stk hid w u L P B) : ESC kd wr nm TK z fA SL NS ns SZ lev pn i0 i1 t a a1 sg sz sz1 kp nsc stk hid w u L (fun b b' _ g => P b b' sz1 g) B := by
  obtain ⟨h1, h2, h3, h4, h5, h6⟩ := h
  exact ⟨h1, h2, h3, h4, h5, fun g Z hg _ => h6 g sz1 hg (Nat.le_refl _)⟩
theorem GTC.nl (h : GTC kd wr nm TK z fA SL NS ns SZ lev pn t a sg sz kp nsc stk hid w) (hl : lev + 1 ≤ 62) : fX5_enter x w = nlW (lev + 1) x w ∧ GTC kd wr nm TK z fA SL NS ns SZ (lev + 1) (upN pn (lev + 1) x) t a 6 6 2 nsc stk hid (nlW (lev + 1) x w) := by
  have hO := nl_off (w := w) (L := lev + 1) (x := x)
  have h34 : gi (nlW (lev + 1) x w) 34 5 = Int32.ofNat (lev + 1) := by
    unfold nlW
    rw [gi_si1 (by omega), gi_si1 (by omega), gi_si1 (by omega), gi_si1 (by omega), gi_si1 (by omega), gi_si0]
  obtain ⟨h1, h2, h3, h4, h5, h6, h7, ⟨h8, h9, h10⟩, h11, h12, h13⟩ := h
  refine ⟨?_, h1.off hO (fun k j hk => by omega), by rw [(hO 3 5 (by omega)).1]; exact h2, by rw [(hO 40 1 (by omega)).1]; exact h3, by rw [(hO 43 5 (by omega)).1]; exact h4, by rw [(hO 43 4 (by omega)).1]; exact h5, h6.agr (fun k j hk => (hO k j (by unfold PSC at hk; omega)).1), h7.off hO (fun k j hk => by omega), ⟨h34, hl, fun l hl => ?_⟩, ⟨?_, ?_, ?_⟩, ⟨h12.1, by omega⟩, h13⟩
  · unfold fX5_enter nlW
    have e : gi w 34 5 + 1 = Int32.ofNat (lev + 1) := by rw [h8, ad1_iN]
    simp only [ltq]
    rw [e, gi_si0, rsi_iN (by omega) (by omega), gi_si1 (by omega), gi_si0, rsi_iN (by omega) (by omega), gi_si1 (by omega), gi_si1 (by omega), gi_si0, rsi_iN (by omega) (by omega), gi_si1 (by omega), gi_si1 (by omega), gi_si1 (by omega), gi_si0, rsi_iN (by omega) (by omega), gi_si1 (by omega), gi_si1 (by omega), gi_si1 (by omega), gi_si1 (by omega), gi_si0, rsi_iN (by omega) (by omega)]
  · unfold upN
    by_cases q : l = lev + 1
    · rw [if_pos q, q]
      unfold nlW
      rw [gi_si1 (by omega), gi_si1 (by omega), gi_si1 (by omega), gi_si1 (by omega), gi_si0]
    · rw [if_neg q, (hO 35 l (by omega)).1]
      exact h10 l (by omega)
  · unfold nlW
    rw [gi_si1 (by omega), gi_si1 (by omega), gi_si1 (by omega), gi_si0]
    rfl
  · unfold nlW
    rw [gi_si1 (by omega), gi_si1 (by omega), gi_si0]
    rfl
  · unfold nlW
    rw [gi_si0]
    rfl
/-- what's made at a procedure's level, from outside -/
theorem ESC.inner {pn' : Nat → Int32} (hG : GTC kd wr nm TK z fA SL NS ns SZ lev pn t a sg sz kp nsc stk 0 w) (hp : ∀ l, l ≤ lev → pn' l = pn l) (h : ESC kd wr nm TK z fA SL NS ns SZ (lev + 1) pn' i0 i1 e a a1 sg1 6 sz1 kp1 nsc1 stk1 0 (nlW (lev + 1) x w) u L P B) :
    ESC kd wr nm TK z fA SL NS ns SZ lev pn i0 i1 e a a1 sg sz sz kp nsc1 stk1 0 w (si u 34 5 (Int32.ofNat lev)) L (fun b b' _ g => P b b' sz1 g) B := by
  have hcf := hG.cfit
  obtain ⟨g1, g2, g3, g4, g5, g6, g7, ⟨g8, g9, g10⟩, g11, g12, g13⟩ := hG
  obtain ⟨⟨h1, h2, h3, h4, h5, h6, h7, ⟨h8, h9, h10⟩, h11, h12, h13⟩, l2, l3, l4, l5, l6⟩ := h
  have hO : OFF (fun k j => k = 34 ∧ j = 5) (si u 34 5 (Int32.ofNat lev)) u := OFF.si ⟨rfl, rfl⟩
  have hN := nl_off (w := w) (L := lev + 1) (x := x)
  have hrow : ∀ k j, (36 ≤ k ∧ k ≤ 39 ∧ j = lev ∨ k = 35 ∧ j ≤ lev) → gi (si u 34 5 (Int32.ofNat lev)) k j = gi w k j := fun k j hk => by
    rw [(hO k j (by omega)).1, (l4 k j (by unfold FS2 F2; omega)).1, (hN k j (by omega)).1]
  refine ⟨⟨h1.off hO (fun k j hk => by omega), by rw [(hO 3 5 (by omega)).1]; exact h2, by rw [(hO 40 1 (by omega)).1]; exact h3, by rw [(hO 43 5 (by omega)).1]; exact h4, by rw [(hO 43 4 (by omega)).1]; exact h5, h6.agr (fun k j hk => (hO k j (by unfold PSC at hk; omega)).1), h7.off hO (fun k j hk => by omega), ⟨gi_si0 _ _ _ _, g9, fun l hl => ?_⟩, ⟨?_, ?_, ?_⟩, ⟨by omega, g12.2⟩, h13⟩, l2, ?_, ?_, by omega, fun g Z hg _ => l6 g sz1 (fun j hj => (hg j hj).trans rfl) (Nat.le_refl _)⟩
  · rw [hrow 35 l (by omega)]; exact g10 l hl
  · rw [hrow 36 lev (by omega)]; exact g11.1
  · rw [hrow 37 lev (by omega)]; exact g11.2.1
  · rw [hrow 39 lev (by omega)]; exact g11.2.2
  · have e1 : FLA (si u 34 5 (Int32.ofNat lev)) = FLA u := by
      show (gi _ 3 6, gi _ 3 7) = (gi u 3 6, gi u 3 7)
      rw [(hO 3 6 (by omega)).1, (hO 3 7 (by omega)).1]
    have e2 : FLA (nlW (lev + 1) x w) = FLA w := by
      show (gi _ 3 6, gi _ 3 7) = (gi w 3 6, gi w 3 7)
      rw [(hN 3 6 (by omega)).1, (hN 3 7 (by omega)).1]
    rw [e1, l3, e2]
  · exact OFF.tr (hO.mono fun k j hk => Or.inr (by omega)) (OFF.tr (l4.mono fun k j hk => Or.imp (fun h => h) (fun h => by omega) hk) (hN.mono fun k j hk => Or.inr (by omega)))
end ES
