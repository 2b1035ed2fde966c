/-! PASS 2, THE CLASS: BLOCKS -/
/-- a BLOCK: W words for its own, kp: where the BLOCK round it keeps -/
def PBLc (sg kp W : Nat) (PD PS : Nat → Nat → Nat → Wd → Prop) (b b' Z : Nat) (g : Wd) : Prop := sg + W ≤ Z ∧ ∃ b0 b1 b2, (W ≤ 1 ∧ b0 = b ∨ 1 < W ∧ gl g 41 b = wdC 29 0 ((Int32.ofNat sg <<< (11 &&& 31)) ||| Int32.ofNat W) ∧ b0 = b + 1) ∧ PD b0 b1 Z g ∧ gl g 41 b1 = wdC 31 0 (Int32.ofNat sg) ∧ PS (b1 + 1) b2 Z g ∧ gl g 41 b2 = wdC 32 0 (Int32.ofNat kp) ∧ b' = b2 + 1
/-- what follows a STATEMENT of a BLOCK -/
def blR (rc : TX4_block) (f : Nat) (a2 a3 a4 x : Int32) (w : Wd) : Option (Int32 × Wd) := bn2 (rc 5 a2 0 0 w) fun _ w4 => oX4_block_140 rc f a2 a3 a4 (x + 1) w4
section ES
variable {kd wr nm TK : Nat → Nat} {z : Nat} {fA fM : Wd} {SL : Nat → List Nat} {NS ns SZ lev cur m : Nat} {pn : Nat → Int32} {i i0 i1 i2 s s1 t e e1 d sg kp nsc nsc1 nsc2 T1 T2 W : Nat} {stk : List Nat} {L1 L2 : List (Nat × Int32)} {P1 P2 PD PS : Nat → Nat → Nat → Wd → Prop}
/-- STATEMENTS from TOKEN s on, as the loop goes over them: j at most -/
def SBC (kd wr nm TK : Nat → Nat) (z : Nat) (fA : Wd) (SL : Nat → List Nat) (NS ns SZ lev : Nat) (pn : Nat → Int32) (rc : TX4_block) (d j sg kp nsc nsc' i0 i1 s e : Nat) (stk : List Nat) (L : List (Nat × Int32)) (P : Nat → Nat → Nat → Wd → Prop) (T : Nat) : Prop :=
  ∀ (f q : Nat) (a3 a4 : Int32) (w : Wd) (a sz : Nat), j ≤ f → q ≤ s → GTC kd wr nm TK z fA SL NS ns SZ lev pn s a sg sz kp nsc stk 0 w → a + T ≤ 36872 → ∃ u a' sz', blR rc (f + 1) (Int32.ofNat d) a3 a4 (Int32.ofNat q) w = fX4_block_176 rc a3 a4 u ∧ ESC kd wr nm TK z fA SL NS ns SZ lev pn i0 i1 e a a' sg sz sz' kp nsc' stk 0 w u L P T
theorem sbc_one {rc : TX4_block} (h1 : SSC kd wr nm TK z fA SL NS ns SZ lev pn sg kp nsc nsc1 i0 i1 s e stk L1 P1 T1 (fun w => rc 5 (Int32.ofNat d) 0 0 w)) (h41 : kd e ≠ 41) (hs : s + 1 < 8193) : SBC kd wr nm TK z fA SL NS ns SZ lev pn rc d 0 sg kp nsc nsc1 i0 i1 s e stk L1 P1 T1 := by
  intro f q a3 a4 w a sz hf hq hG ha
  obtain ⟨u, a1, sz1, u1, u2⟩ := h1 w a sz hG ha
  refine ⟨u, a1, sz1, ?_, u2⟩
  have u1' : rc 5 (Int32.ofNat d) 0 0 w = some (0, u) := u1
  unfold blR
  rw [u1', bn2_so, ad1_iN]
  show fX4_block_140 rc (oX4_block_140 rc f) _ _ _ _ u = _
  unfold fX4_block_140
  rw [if_neg (show ¬ ((8193 : Int32) ≤ Int32.ofNat (q + 1)) from nle_iN (a := 8193) (by omega) (by omega)), if_neg (show ¬ (Int32.ofNat (q + 1) = 0) from of_ne (k := 0) (by omega) (by omega) (by omega)), show (41 : Int32) = Int32.ofNat 41 from rfl, c_ntake u2.1.gc (by omega) h41, lt2q, if_neg (show ¬ (false = true) from by decide)]
theorem sbc_cons {rc : TX4_block} {j : Nat} (h1 : SSC kd wr nm TK z fA SL NS ns SZ lev pn sg kp nsc nsc1 i0 i1 s e1 stk L1 P1 T1 (fun w => rc 5 (Int32.ofNat d) 0 0 w)) (h41 : kd e1 = 41) (hs : s + 1 < 8193) (hse : s ≤ e1) (h2 : SBC kd wr nm TK z fA SL NS ns SZ lev pn rc d j sg kp nsc1 nsc2 i1 i2 (e1 + 1) e stk L2 P2 T2) : SBC kd wr nm TK z fA SL NS ns SZ lev pn rc d (j + 1) sg kp nsc nsc2 i0 i2 s e stk (L1 ++ L2) (PSQ P1 P2) (T1 + T2) := by
  intro f q a3 a4 w a sz hf hq hG ha
  obtain ⟨f, rfl⟩ : ∃ f', f = f' + 1 := ⟨f - 1, by omega⟩
  obtain ⟨u, a1, sz1, u1, u2⟩ := h1 w a sz hG (by omega)
  have hb5 := u2.2.2.2.2.1
  obtain ⟨t1, t2⟩ := EC.take u2.1.gc (k := 41) (by omega) (by rw [h41]; rfl)
  have E := u2.seq (ESC.ec (i := i1) u2.1 t2 (by omega))
  obtain ⟨v, a2, sz2, v1, v2⟩ := h2 f (q + 1) a3 a4 _ a1 sz1 (by omega) (by omega) E.1 (by omega)
  have hv5 := v2.2.2.2.2.1
  refine ⟨v, a2, sz2, ?_, ((E.seq v2).wk (fun b b' Z g hg => ?_) (by omega)).cL (by simp)⟩
  · have u1' : rc 5 (Int32.ofNat d) 0 0 w = some (0, u) := u1
    unfold blR
    rw [u1', bn2_so, ad1_iN]
    show fX4_block_140 rc (oX4_block_140 rc (f + 1)) _ _ _ _ u = _
    unfold fX4_block_140
    rw [if_neg (show ¬ ((8193 : Int32) ≤ Int32.ofNat (q + 1)) from nle_iN (a := 8193) (by omega) (by omega)), if_neg (show ¬ (Int32.ofNat (q + 1) = 0) from of_ne (k := 0) (by omega) (by omega) (by omega)), t1, lt2q, if_pos rfl]
    exact v1
  · obtain ⟨b1, ⟨b2, g1, g2⟩, g3⟩ := hg
    rw [g2] at g3
    exact ⟨b2, g1, g3⟩
theorem s_block {rc : TX4_block} {j : Nat} (h4 : kd t = 4) (hdd : d < 40 ∨ d = 40 ∧ kd (t + 1) = 5) (hn : nsc < NS) (h33 : gi fA 33 (nsc + 1) = Int32.ofNat W) (hW1 : 1 ≤ W) (hsz : sg + W ≤ SZ) (hi : i0 ≤ ns) (hj : j ≤ 9000)
    (hD : SSC kd wr nm TK z fA SL NS ns SZ lev pn (sg + W) sg (nsc + 1) nsc1 i0 i1 (t + 1) s1 (nsc :: stk) L1 PD T1 (fun w => rc 1 (Int32.ofNat (d + 1)) 0 0 w))
    (hSt : SBC kd wr nm TK z fA SL NS ns SZ lev pn rc (d + 1) j (sg + W) sg nsc1 nsc2 i1 i2 s1 e (nsc :: stk) L2 PS T2) (h5 : kd e = 5) :
    SSC kd wr nm TK z fA SL NS ns SZ lev pn sg kp nsc nsc2 i0 i2 t (e + 1) stk (L1 ++ L2) (PBLc sg kp W PD PS) (T1 + T2 + 3) (fX4_block rc (Int32.ofNat d)) := by
  intro w a sz hG ha
  have hcf := hG.cfit
  obtain ⟨o1, o2⟩ := c_open4 hG.gc h4 hdd
  have E1 := ESC.ec (i := i0) hG o2 hi
  obtain ⟨w1, q1, Q1⟩ := ESC.enter (i := i0) E1.1 hn hi
  obtain ⟨w2, sz2, t1, Q2⟩ := ESC.take (n := W) (i := i0) Q1.1 (by omega) hi
  have Q3 := ESC.keep (n := sg) (i := i0) Q2.1 (by omega) hi
  -- noughts for its own
  have hcl : ∃ w4 a0, fX4_block_54 rc (Int32.ofNat W) (Int32.ofNat (d + 1)) (Int32.ofNat sg) (Int32.ofNat kp) w1 = fX4_block_95 rc (Int32.ofNat (d + 1)) (Int32.ofNat sg) (Int32.ofNat kp) w4 ∧ ESC kd wr nm TK z fA SL NS ns SZ lev pn i0 i0 (t + 1) a a0 (sg + W) sz2 sz2 sg (nsc + 1) (nsc :: stk) 0 (fX5_keepAt (Int32.ofNat sg) w2) w4 [] (fun b b' _ g => W ≤ 1 ∧ b' = b ∨ 1 < W ∧ gl g 41 b = wdC 29 0 ((Int32.ofNat sg <<< (11 &&& 31)) ||| Int32.ofNat W) ∧ b' = b + 1) 1 := by
    by_cases q : W ≤ 1
    · refine ⟨_, a, ?_, (ESC.no Q3.1 hi).wk (fun b b' Z g hg => Or.inl ⟨q, hg⟩) (by omega)⟩
      unfold fX4_block_54
      rw [t1, lt2q, ltq, if_pos (show Int32.ofNat W ≤ 1 from yle_iN (b := 1) q (by omega))]
    · obtain ⟨v, v1, v2⟩ := EC.put2 (x := 29) (c := (Int32.ofNat sg <<< (11 &&& 31)) ||| Int32.ofNat W) Q3.1.gc (by omega)
      refine ⟨v, a + 1, ?_, (ESC.ec (i := i0) Q3.1 v2 hi).wk (fun b b' Z g hg => Or.inr ⟨by omega, hg⟩) (Nat.le_refl _)⟩
      unfold fX4_block_54
      rw [t1, lt2q, ltq, if_neg (show ¬ (Int32.ofNat W ≤ 1) from nle_iN (b := 1) (by omega) (by omega)), v1, lt2q]
  obtain ⟨w4, a0, c1, Q4⟩ := hcl
  have hb4 := Q4.2.2.2.2.1
  obtain ⟨w5, a1, sz5, d1, Q5⟩ := hD w4 a0 sz2 Q4.1 (by omega)
  have hb5 := Q5.2.2.2.2.1
  obtain ⟨w6, p1, p2⟩ := EC.put2 (x := 31) (c := Int32.ofNat sg) Q5.1.gc (by omega)
  have Q6 := ESC.ec (i := i1) Q5.1 p2 (by omega)
  have hz6 := Q6.1.cfit
  obtain ⟨fo, hf⟩ := FU_ge (k := j + 2) (by omega)
  obtain ⟨w7, a2, sz7, s2, Q7⟩ := hSt (fo + j) 0 (Int32.ofNat sg) (Int32.ofNat kp) w6 (a1 + 1) sz5 (by omega) (by omega) Q6.1 (by omega)
  have hb7 := Q7.2.2.2.2.1
  obtain ⟨n1, n2⟩ := EC.need Q7.1.gc (k := 5) h5 (by omega)
  have Q8 := ESC.ec (i := i2) Q7.1 n2 (by omega)
  obtain ⟨w9, l1, Q9⟩ := ESC.leave (i := i2) Q8.1 (by omega)
  have hz9 := Q9.1.cfit
  have hz2 := Q2.2.2.2.2.1
  have Q10 := ESC.give (n := sg) (i := i2) Q9.1 (by omega) (by omega)
  have Q11 := ESC.keep (n := kp) (i := i2) Q10.1 (by omega) (by omega)
  obtain ⟨w12, k1, k2⟩ := EC.put2 (x := 32) (c := Int32.ofNat kp) Q11.1.gc (by omega)
  have Q12 := ESC.ec (i := i2) Q11.1 k2 (by omega)
  refine ⟨w12, _, _, ?_, (((((((((((E1.seq Q1).seq Q2).seq Q3).seq Q4).seq Q5).seq Q6).seq Q7).seq ((Q8.seq Q9).seq (Q10.seq Q11))).seq Q12).wk (fun b b' Z g hg => ?_) (by omega))).cL (by simp)⟩
  · have d1' : rc 1 (Int32.ofNat (d + 1)) 0 0 w4 = some (0, w5) := d1
    have hwd : fX7_words_ w1 = Int32.ofNat W := by
      have hc := Q1.1.2.2.2.2.2.1
      unfold fX7_words_
      rw [hc.2.2.1.2.1]
      show (lt (rgi w1 33 4096 (Int32.ofNat (nsc + 1))) fun x1 => x1) = _
      rw [ltq, rgi_iN (by omega) (by omega), Q1.1.2.2.2.2.2.2.1.1 33 _ (by omega), h33]
    have h140 : oX4_block_140 rc FU (Int32.ofNat (d + 1)) (Int32.ofNat sg) (Int32.ofNat kp) 0 w6 = blR rc (fo + j + 1) (Int32.ofNat (d + 1)) (Int32.ofNat sg) (Int32.ofNat kp) (Int32.ofNat 0) w6 := by
      rw [hf]
      show fX4_block_140 rc (oX4_block_140 rc (fo + j + 1)) _ _ _ _ w6 = _
      unfold fX4_block_140 blR
      rw [if_neg (by decide), if_pos rfl]
      rfl
    unfold fX4_block
    rw [o1, lt2q, E1.1.slot.1, ltq, E1.1.slot.2.2, ltq, q1, bn_so, if_neg Q1.1.2.1, hwd, ltq, c1]
    unfold fX4_block_95
    rw [d1', bn2_so, p1, lt2q, if_neg Q6.1.2.1, h140, s2]
    unfold fX4_block_176
    rw [show (5 : Int32) = Int32.ofNat 5 from rfl, n1, ltq, l1, bn_so, ltq, ltq, k1, lt2q]
  · obtain ⟨b9, ⟨b8, ⟨b7, ⟨b6, ⟨b5, ⟨b4, ⟨b3, ⟨b2, ⟨b1, g1, g2⟩, g3, g3'⟩, g4⟩, g5⟩, g6⟩, g7, g7'⟩, g8⟩, b10, ⟨b11, g9, g10⟩, b12, g11, g12⟩, g13, g14⟩ := hg
    rw [g4, g3, g2, g1] at g5
    rw [g7'] at g8
    rw [g12, g11, g10, g9] at g13 g14
    exact ⟨g3', b5, b6, b8, g5, g6, g7, g8, g13, g14⟩
end ES
