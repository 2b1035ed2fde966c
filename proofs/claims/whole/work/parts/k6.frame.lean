/-! BOTH MACHINES: the frame of a call -/
section KG6
variable {E : SENV} {K : CXT} {Lim p nx a a1 b b1 b2 h sp sc i el S k nf ff ac y th a0 q c c9 s tp mt lk dp : Nat} {x x1 : Int} {wA wM uA uM zA zM : Wd} {A B N L : ACT} {F : Nat → Int64} {G : GHO} {stk : List Nat} {ty : Int32}
/-- cells of a new frame at tp, memory at mt -/
def FRC (E : SENV) (p nf ff tp mt fL dp el h Z : Nat) (uA uM : Wd) : GHO := fun k x q ty va vm =>
  (k = 2 ∧ q = 0 ∧ ty = 0 ∧ vm = 0 ∧ ((x = tp ∧ va = Int64.ofNat fL) ∨ (x = tp + 1 ∧ va = Int64.ofNat dp) ∨ (x = tp + 2 ∧ va = Int64.ofNat el) ∨ (x = tp + 3 ∧ va = Int64.ofNat h) ∨ (x = tp + 4 ∧ va = Int64.ofNat (tp + Z)))) ∨
  (k = 0 ∧ x = tp + 5 ∧ q = mt ∧ va = 0 ∧ vm = 0 ∧ ty = gi (vM E) 20 (nd (vM E) 29 p) ∧ ty ≠ 0) ∨
  (∃ i, i < nf ∧ ((gi (vM E) 24 (ff + i) = 1 ∧ gi (vM E) 28 (ff + i) ≠ 0 ∧ k = 0 ∧ x = tp + 6 + wsum E ff i ∧ q = mt + (1 + 2 * i) ∧ ty = gi (vM E) 20 (ff + i) ∧ va = 0 ∧ vm = 0) ∨
    (¬ (gi (vM E) 24 (ff + i) = 1 ∧ gi (vM E) 28 (ff + i) ≠ 0) ∧ k = 1 ∧ ty = 0 ∧ va = gl uA 50 x ∧ vm = gl uM 83 q ∧ (x = tp + 6 + wsum E ff i ∧ q = mt + (1 + 2 * i) ∨ gi (vM E) 24 (ff + i) ≠ 2 ∧ x = tp + 6 + wsum E ff i + 1 ∧ q = mt + (1 + 2 * i) + 1))))
theorem wdF_1 : 1 ≤ wdF E q ∧ wdF E q ≤ 2 := by
  unfold wdF
  by_cases z : gi (vM E) 24 q = 2 ∨ (gi (vM E) 24 q = 1 ∧ gi (vM E) 28 q ≠ 0)
  · rw [if_pos z]; omega
  · rw [if_neg z]; omega
theorem wsum_lt {i j : Nat} (h : i < j) : wsum E ff i + wdF E (ff + i) ≤ wsum E ff j := by
  have : ∀ (d : Nat), wsum E ff (i + 1) ≤ wsum E ff (i + 1 + d) := by
    intro d
    induction d with
    | zero => exact Nat.le_refl _
    | succ d ih => exact Nat.le_trans ih (Nat.le_add_right _ _)
  have := this (j - (i + 1))
  rw [show i + 1 + (j - (i + 1)) = j by omega] at this
  exact this
theorem wdF_2 (h1 : ¬ (gi (vM E) 24 q = 1 ∧ gi (vM E) 28 q ≠ 0)) (h2 : gi (vM E) 24 q ≠ 2) : wdF E q = 2 := by
  unfold wdF
  rw [if_neg (fun c => c.elim h2 h1)]
/-- where a frame's cells lie -/
theorem FRC.at_ {fL h Z k x q : Nat} {ty : Int32} {va vm : Int64} (g : FRC E p nf ff tp mt fL dp el h Z uA uM k x q ty va vm) : k ≤ 2 ∧ (tp ≤ x ∧ x < tp + 6 + wsum E ff nf) ∧ (k ≠ 2 → mt ≤ q ∧ q < mt + 1 + 2 * nf) ∧ (k = 2 → x ≤ tp + 4) ∧ (k ≠ 2 → tp + 5 ≤ x) ∧ (k = 0 → va = 0 ∧ vm = 0) := by
  rcases g with ⟨g1, g2, g3, g4, g5⟩ | ⟨g1, g2, g3, g4, g5, g6⟩ | ⟨i, hi, g⟩
  · refine ⟨by omega, ⟨by omega, ?_⟩, fun c => absurd g1 c, fun _ => by omega, fun c => absurd g1 c, fun c => by omega⟩
    omega
  · exact ⟨by omega, ⟨by omega, by omega⟩, fun _ => by omega, fun c => by omega, fun _ => by omega, fun _ => ⟨g4, g5⟩⟩
  · have h1 := wsum_lt (E := E) (ff := ff) hi
    have h2 := wdF_1 (E := E) (q := ff + i)
    rcases g with ⟨_, _, g1, g2, g3, g4, g5, g6⟩ | ⟨z1, g1, g2, g3, g4, g5⟩
    · exact ⟨by omega, ⟨by omega, by omega⟩, fun _ => by omega, fun c => by omega, fun _ => by omega, fun _ => ⟨g5, g6⟩⟩
    · rcases g5 with ⟨g5, g6⟩ | ⟨z2, g5, g6⟩
      · exact ⟨by omega, ⟨by omega, by omega⟩, fun _ => by omega, fun c => by omega, fun _ => by omega, fun c => by omega⟩
      · have := wdF_2 z1 z2
        exact ⟨by omega, ⟨by omega, by omega⟩, fun _ => by omega, fun c => by omega, fun _ => by omega, fun c => by omega⟩
theorem FRC.dis {fL h Z k x q k' x' q' : Nat} {ty ty' : Int32} {va vm va' vm' : Int64} (g : FRC E p nf ff tp mt fL dp el h Z uA uM k x q ty va vm) (g' : FRC E p nf ff tp mt fL dp el h Z uA uM k' x' q' ty' va' vm') : (x = x' → k = k' ∧ q = q' ∧ ty = ty' ∧ va = va' ∧ vm = vm') ∧ (k ≠ 2 → k' ≠ 2 → q = q' → k = k' ∧ x = x' ∧ ty = ty' ∧ va = va' ∧ vm = vm') := by
  have A1 := g.at_
  have A2 := g'.at_
  rcases g with ⟨g1, g2, g3, g4, g5⟩ | ⟨g1, g2, g3, g4, g5, g6, g7⟩ | ⟨i, hi, g⟩
  · rcases g' with ⟨r1, r2, r3, r4, r5⟩ | ⟨r1, r2, r3, r4, r5, r6, r7⟩ | ⟨j, hj, r⟩
    · refine ⟨fun e => ⟨by omega, by omega, g3.trans r3.symm, ?_, g4.trans r4.symm⟩, fun c => absurd g1 c⟩
      rcases g5 with ⟨g5, g6⟩ | ⟨g5, g6⟩ | ⟨g5, g6⟩ | ⟨g5, g6⟩ | ⟨g5, g6⟩ <;> rcases r5 with ⟨r5, r6⟩ | ⟨r5, r6⟩ | ⟨r5, r6⟩ | ⟨r5, r6⟩ | ⟨r5, r6⟩ <;> first | exact g6.trans r6.symm | (exfalso; omega)
    · exact ⟨fun e => by omega, fun c => absurd g1 c⟩
    · refine ⟨fun e => ?_, fun c => absurd g1 c⟩
      have : k' ≠ 2 := by rcases r with r | r <;> omega
      omega
  · rcases g' with ⟨r1, r2, r3, r4, r5⟩ | ⟨r1, r2, r3, r4, r5, r6, r7⟩ | ⟨j, hj, r⟩
    · exact ⟨fun e => by omega, fun _ c => absurd r1 c⟩
    · exact ⟨fun e => ⟨by omega, by omega, g6.trans r6.symm, g4.trans r4.symm, g5.trans r5.symm⟩, fun _ _ e => ⟨by omega, by omega, g6.trans r6.symm, g4.trans r4.symm, g5.trans r5.symm⟩⟩
    · have : tp + 6 ≤ x' ∧ mt + 1 ≤ q' := by
        rcases r with ⟨_, _, _, r2, r3, _⟩ | ⟨_, _, _, _, _, r5⟩
        · omega
        · rcases r5 with ⟨r5, r6⟩ | ⟨_, r5, r6⟩ <;> omega
      exact ⟨fun e => by omega, fun _ _ e => by omega⟩
  · rcases g' with ⟨r1, r2, r3, r4, r5⟩ | ⟨r1, r2, r3, r4, r5, r6, r7⟩ | ⟨j, hj, r⟩
    · have : k ≠ 2 := by rcases g with g | g <;> omega
      exact ⟨fun e => by omega, fun _ c => absurd r1 c⟩
    · have : tp + 6 ≤ x ∧ mt + 1 ≤ q := by
        rcases g with ⟨_, _, _, r2, r3, _⟩ | ⟨_, _, _, _, _, r5⟩
        · omega
        · rcases r5 with ⟨r5, r6⟩ | ⟨_, r5, r6⟩ <;> omega
      exact ⟨fun e => by omega, fun _ _ e => by omega⟩
    · -- two formals
      have hx : ∀ {k x q : Nat} {ty : Int32} {va vm : Int64} {i : Nat}, ((gi (vM E) 24 (ff + i) = 1 ∧ gi (vM E) 28 (ff + i) ≠ 0 ∧ k = 0 ∧ x = tp + 6 + wsum E ff i ∧ q = mt + (1 + 2 * i) ∧ ty = gi (vM E) 20 (ff + i) ∧ va = 0 ∧ vm = 0) ∨
        (¬ (gi (vM E) 24 (ff + i) = 1 ∧ gi (vM E) 28 (ff + i) ≠ 0) ∧ k = 1 ∧ ty = 0 ∧ va = gl uA 50 x ∧ vm = gl uM 83 q ∧ (x = tp + 6 + wsum E ff i ∧ q = mt + (1 + 2 * i) ∨ gi (vM E) 24 (ff + i) ≠ 2 ∧ x = tp + 6 + wsum E ff i + 1 ∧ q = mt + (1 + 2 * i) + 1))) → (x = tp + 6 + wsum E ff i ∧ q = mt + (1 + 2 * i)) ∨ (x = tp + 6 + wsum E ff i + 1 ∧ q = mt + (1 + 2 * i) + 1 ∧ wdF E (ff + i) = 2) := fun {k x q ty va vm i} g => by
        rcases g with ⟨_, _, _, r2, r3, _⟩ | ⟨z1, _, _, _, _, r5⟩
        · exact Or.inl ⟨r2, r3⟩
        · rcases r5 with ⟨r5, r6⟩ | ⟨z2, r5, r6⟩
          · exact Or.inl ⟨r5, r6⟩
          · exact Or.inr ⟨r5, r6, wdF_2 z1 z2⟩
      have X1 := hx g
      have X2 := hx r
      have w1 := wdF_1 (E := E) (q := ff + i)
      have w2 := wdF_1 (E := E) (q := ff + j)
      have hij : (x = x' ∨ q = q') → i = j := fun e => by
        by_cases l1 : i < j
        · have := wsum_lt (E := E) (ff := ff) l1
          rcases X1 with X1 | X1 <;> rcases X2 with X2 | X2 <;> rcases e with e | e <;> omega
        · by_cases l2 : j < i
          · have := wsum_lt (E := E) (ff := ff) l2
            rcases X1 with X1 | X1 <;> rcases X2 with X2 | X2 <;> rcases e with e | e <;> omega
          · omega
      have main : i = j → ((x = x' ∨ q = q') → k = k' ∧ x = x' ∧ q = q' ∧ ty = ty' ∧ va = va' ∧ vm = vm') := fun e e2 => by
        subst e
        have exq : x = x' ∧ q = q' := by rcases X1 with X1 | X1 <;> rcases X2 with X2 | X2 <;> rcases e2 with e2 | e2 <;> omega
        obtain ⟨ex, eq⟩ := exq
        subst ex
        subst eq
        rcases g with ⟨g1, g2, g3, g4, g5, g6, g7, g8⟩ | ⟨g1, g2, g3, g4, g5, g6⟩
        · rcases r with ⟨r1, r2, r3, r4, r5, r6, r7, r8⟩ | ⟨r1, r2, r3, r4, r5, r6⟩
          · exact ⟨by omega, rfl, rfl, g6.trans r6.symm, g7.trans r7.symm, g8.trans r8.symm⟩
          · exact absurd ⟨g1, g2⟩ r1
        · rcases r with ⟨r1, r2, r3, r4, r5, r6, r7, r8⟩ | ⟨r1, r2, r3, r4, r5, r6⟩
          · exact absurd ⟨r1, r2⟩ g1
          · exact ⟨by omega, rfl, rfl, g3.trans r3.symm, g4.trans r4.symm, g5.trans r5.symm⟩
      refine ⟨fun e => ?_, fun _ _ e => ?_⟩
      · obtain ⟨m1, m2, m3, m4, m5, m6⟩ := main (hij (Or.inl e)) (Or.inl e)
        exact ⟨m1, m3, m4, m5, m6⟩
      · obtain ⟨m1, m2, m3, m4, m5, m6⟩ := main (hij (Or.inr e)) (Or.inr e)
        exact ⟨m1, m2, m4, m5, m6⟩
/-- cells with a new frame's -/
def onG (G F : GHO) : GHO := fun k x q ty va vm => G k x q ty va vm ∨ F k x q ty va vm
theorem DIS.on {fL h Z mt' : Nat} (hD : DIS G tp mt el) (hz : 6 + wsum E ff nf ≤ Z) (hm : mt + 1 + 2 * nf ≤ mt' ∧ mt' ≤ 1048576) (h20 : ∀ i, i < nf → gi (vM E) 24 (ff + i) = 1 → gi (vM E) 20 (ff + i) = 1 ∨ gi (vM E) 20 (ff + i) = 2) (h29 : gi (vM E) 20 (nd (vM E) 29 p) = 0 ∨ gi (vM E) 20 (nd (vM E) 29 p) = 1 ∨ gi (vM E) 20 (nd (vM E) 29 p) = 2) (ht : 6096 ≤ tp) {el' : Nat} : DIS (onG G (FRC E p nf ff tp mt fL dp el' h Z uA uM)) (tp + Z) mt' el := by
  obtain ⟨d1, d2, d3⟩ := hD
  refine ⟨?_, ?_, ?_⟩
  · intro k x q ty va vm k' x' q' ty' va' vm' g g' hk hk' e
    rcases g with g | g
    · rcases g' with g' | g'
      · exact d1 _ _ _ _ _ _ _ _ _ _ _ _ g g' hk hk' e
      · have := ((d3 _ _ _ _ _ _ g).2.1 hk).1
        have := g'.at_
        omega
    · rcases g' with g' | g'
      · have := ((d3 _ _ _ _ _ _ g').2.1 hk').1
        have := g.at_
        omega
      · exact (g.dis g').1 e
  · intro k x q ty va vm k' x' q' ty' va' vm' g g' hk hk' e
    rcases g with g | g
    · rcases g' with g' | g'
      · exact d2 _ _ _ _ _ _ _ _ _ _ _ _ g g' hk hk' e
      · have := (d3 _ _ _ _ _ _ g).2.2.1 hk
        have := g'.at_.2.2.1 hk'
        omega
    · rcases g' with g' | g'
      · have := (d3 _ _ _ _ _ _ g').2.2.1 hk'
        have := g.at_.2.2.1 hk
        omega
      · exact (g.dis g').2 hk hk' e
  · intro k x q ty va vm g
    rcases g with g | g
    · obtain ⟨b1, b2, b3, b4⟩ := d3 _ _ _ _ _ _ g
      exact ⟨b1, fun hk => ⟨by have := (b2 hk).1; omega, (b2 hk).2⟩, fun hk => (b3 hk).imp (fun z => ⟨by omega, z.2⟩) id, b4⟩
    · obtain ⟨c1, c2, c3, c4, c5, c6⟩ := g.at_
      refine ⟨by omega, fun _ => ⟨by omega, fun c => by omega⟩, fun hk => Or.inl ⟨by have := c3 hk; omega, by have := c3 hk; omega⟩, fun hk => ?_⟩
      rcases g with ⟨g1, _⟩ | ⟨g1, g2, g3, g4, g5, g6, g7⟩ | ⟨i, hi, g⟩
      · omega
      · rw [g6] at g7 ⊢
        rcases h29 with z | z | z
        · exact absurd z g7
        · exact Or.inl z
        · exact Or.inr z
      · rcases g with ⟨r1, r2, g1, g2, g3, g4, _⟩ | ⟨_, g1, _⟩
        · rw [g4]; exact h20 i hi r1
        · omega
end KG6
