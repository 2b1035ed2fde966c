/-! PASS 2, pure: the class's words of a node (modes as FLX has them) -/
section CDC
variable (fM fA : Wd) (lu : Nat → Nat) (lev : Nat)
/-- words from b to b' -/
def CDC : Nat → Nat → Nat → Nat → Nat → Nat → Wd → Prop
  | 0, _, _, _, _, _, _ => False
  | k + 1, md, n, f, b, b', g =>
    let l := lu (nd fM 12 n)
    let el : Nat → Nat → Prop := fun b b' => ∃ b0 b1, puC fA lev l b b0 g ∧ rwM (fun x _ b b' => CDC k 0 x 0 b b' g) (nxL fM k (gi fM 8 n)) 0 b0 b1 ∧ gl g 41 b1 = wdC 25 0 (gi fM 9 n) ∧ b' = b1 + 1
    if md = 0 then
      (if gi fM 7 n = 1 then gl g 41 b = wdC 18 0 0 ∧ gl g 41 (b + 1) = gl fA 7 (nd fM 12 n) ∧ b' = b + 2
      else if gi fM 7 n = 2 then gl g 41 b = wdC 18 0 0 ∧ gl g 41 (b + 1) = (if gi fM 8 n = 1 then 1 else 0) ∧ b' = b + 2
      else if gi fM 7 n = 9 then CDC k 0 (nd fM 8 n) 0 b b' g
      else if gi fM 7 n = 3 then (if gi fA 14 l = 3 then gl g 41 b = wdC 41 0 0 ∧ puC fA lev l (b + 1) (b + 2) g ∧ gl g 41 (b + 2) = wdC 42 0 0 ∧ b' = b + 3 else vaC fA lev l b b' g)
      else if gi fM 7 n = 4 then ∃ b1, el b b1 ∧ gl g 41 b1 = wdC 24 0 0 ∧ b' = b1 + 1
      else if gi fM 7 n = 5 then gi fM 19 (l - 1) = 3 → gl g 41 b = wdC 41 0 0 ∧ ∃ b1, rwM (fun x i b b' => CDC k 5 x (nd fM 32 (nd fM 24 (l - 1)) + i) b b' g) (nxL fM k (gi fM 8 n)) 0 (b + 1) b1 ∧ puC fA lev l b1 (b1 + 1) g ∧ gl g 41 (b1 + 1) = wdC 42 0 0 ∧ b' = b1 + 2
      else if gi fM 7 n = 8 then ∃ b1 b2, CDC k 0 (nd fM 8 n) 0 b b1 g ∧ gl g 41 b1 = jwC 34 (b2 + 1) ∧ CDC k 0 (nd fM 9 n) 0 (b1 + 1) b2 g ∧ gl g 41 b2 = jwC 33 b' ∧ CDC k 0 (nd fM 10 n) 0 (b2 + 1) b' g
      else if gi fM 7 n = 7 then (gi fM 9 n = 43 ∧ CDC k 0 (nd fM 8 n) 0 b b' g) ∨ (gi fM 9 n ≠ 43 ∧ ∃ b1, CDC k 0 (nd fM 8 n) 0 b b1 g ∧ gl g 41 b1 = wdC (if gi fM 9 n = 281 then 17 else 16) 0 0 ∧ b' = b1 + 1)
      else ∃ b1 b2, CDC k 0 (nd fM 8 n) 0 b b1 g ∧ CDC k 0 (nd fM 10 n) 0 b1 b2 g ∧ (∃ sg, gi fM 9 n = Int32.ofNat (kM sg) ∧ stb sg ≠ 0 ∧ gl g 41 b2 = wdC (fX2_operation (Int32.ofNat sg) g) 0 0) ∧ b' = b2 + 1)
    else if md = 1 then (if gi fM 7 n = 4 then el b b' else if gi fA 14 l = 3 then gl g 41 b = wdC 20 (Int32.ofNat lev - (gi fA 17 l + 1)) 5 ∧ b' = b + 1 else plC fA lev l b b' g)
    else if md = 2 then
      (if gi fM 7 n = 9 then CDC k 2 (nd fM 8 n) 0 b b' g
      else if gi fM 7 n = 8 then ∃ b1 b2, CDC k 0 (nd fM 8 n) 0 b b1 g ∧ gl g 41 b1 = jwC 34 (b2 + 1) ∧ CDC k 2 (nd fM 9 n) 0 (b1 + 1) b2 g ∧ gl g 41 b2 = jwC 33 b' ∧ CDC k 2 (nd fM 10 n) 0 (b2 + 1) b' g
      else if gi fM 7 n = 3 then ∃ b1, puC fA lev l b b1 g ∧ (gi fA 16 l = 3 ∧ gl g 41 b1 = wdC 44 0 2 ∧ b' = b1 + 1 ∨ gi fA 16 l ≠ 3 ∧ b' = b1)
      else ∃ b1 b2, CDC k 0 (nd fM 8 n) 0 b b1 g ∧ puC fA lev l b1 b2 g ∧ gl g 41 b2 = wdC 49 0 0 ∧ b' = b2 + 1)
    else if md = 5 then
      (if gi fM 24 f = 1 then
        (if gi fA 16 (f + 1) = 3 then ∃ b1, gl g 41 b = jwC 33 b1 ∧ gl g 41 b1 = wdC 23 0 (Int32.ofNat (b + 1)) ∧ b' = b1 + 1 ∧
          (if gi fM 7 n = 3 ∧ gi fA 14 l = 1 ∧ gi fA 16 l = 3 then gl g 41 (b + 1) = wdC 21 (hpC fA lev l) (gi fA 18 l) ∧ gl g 41 (b + 2) = wdC 45 0 0 ∧ gl g 41 (b + 3) = wdC 46 0 0 ∧ b1 = b + 4
          else if gi fM 7 n = 3 ∧ gi fA 14 l = 1 ∨ gi fM 7 n = 4 ∧ gi fA 14 l = 2 then ∃ b2, CDC k 1 n 0 (b + 1) b2 g ∧ gl g 41 b2 = wdC 47 0 0 ∧ b1 = b2 + 1
          else gl g 41 (b + 1) = wdC 48 0 0 ∧ ∃ b2, CDC k 0 n 0 (b + 2) b2 g ∧ gl g 41 b2 = wdC 46 0 0 ∧ b1 = b2 + 1)
        else CDC k 0 n 0 b b' g)
      else if gi fM 24 f = 4 then ∃ b1 b2, gl g 41 b = jwC 33 b1 ∧ CDC k 2 n 0 (b + 1) b2 g ∧ gl g 41 b2 = wdC 46 0 0 ∧ b1 = b2 + 1 ∧ gl g 41 b1 = wdC 23 0 (Int32.ofNat (b + 1)) ∧ b' = b1 + 1
      else if gi fM 24 f = 0 then True
      else (gi fA 14 l = 0 ∧ b' = b ∨ gi fA 14 l ≠ 0 ∧ puC fA lev l b b' g))
    else True
end CDC
/-! symbols, the class's row and the reference's -/
section SY
variable {kd : Nat → Nat} {m : Nat} {C TK : Nat → Nat} {fA fM : Wd} {i : Nat}
theorem SYM.srt (h : SYM kd m C TK fA fM i) : gi fA 14 (i + 1) = if gi fM 19 i = 6 then gi fM 24 i else gi fM 19 i := by
  obtain ⟨_, _, _, _, _, _, _, _, h⟩ := h
  rcases h with h | h | h | h | h | h
  · rw [h.1, h.2.1]; rfl
  · rw [h.1, h.2.1]; rfl
  · rw [h.1, h.2.1]; rfl
  · rw [h.1, h.2.1]; rfl
  · rw [h.1, h.2.1]; rfl
  · rw [h.1, h.2.2.1, if_pos rfl]
theorem SYM.ty (h : SYM kd m C TK fA fM i) : gi fA 15 (i + 1) = gi fM 20 i := h.2.2.2.2.2.1
/-- SORT x, declared or by SPEC -/
theorem SYM.is (h : SYM kd m C TK fA fM i) {x : Int32} (hx : x ≠ 6) : gi fA 14 (i + 1) = x ↔ gi fM 19 i = x ∨ FO fM i x := by
  rw [h.srt]
  by_cases q : gi fM 19 i = 6
  · rw [if_pos q]
    exact ⟨fun g => Or.inr ⟨q, g⟩, fun g => g.elim (fun g => absurd (g.symm.trans q) hx) (fun g => g.2)⟩
  · rw [if_neg q]
    exact ⟨fun g => Or.inl g, fun g => g.elim id (fun g => absurd g.1 q)⟩
theorem SYM.n0 (h : SYM kd m C TK fA fM i) : gi fM 19 i ≠ 0 := by
  obtain ⟨_, _, _, _, _, _, _, _, h⟩ := h
  rcases h with h | h | h | h | h | h <;> rw [h.1] <;> decide
theorem SYM.is0 (h : SYM kd m C TK fA fM i) : gi fA 14 (i + 1) = 0 ↔ FO fM i 0 := by
  rw [h.is (by decide)]
  exact ⟨fun g => g.elim (fun g => absurd g h.n0) id, Or.inr⟩
/-- by name -/
theorem SYM.fml (h : SYM kd m C TK fA fM i) : gi fA 16 (i + 1) = 3 ↔ gi fM 19 i = 6 ∧ gi fM 28 i = 0 := by
  obtain ⟨_, _, _, _, _, _, _, _, h⟩ := h
  rcases h with h | h | h | h | h | h
  · rcases h.2.2.2 with g | g
    · exact ⟨fun q => absurd (g.2.symm.trans q) (by decide), fun q => absurd (h.1.symm.trans q.1) (by decide)⟩
    · exact ⟨fun q => absurd (g.2.1.symm.trans q) (by decide), fun q => absurd (h.1.symm.trans q.1) (by decide)⟩
  · exact ⟨fun q => absurd (h.2.2.1.symm.trans q) (by decide), fun q => absurd (h.1.symm.trans q.1) (by decide)⟩
  · exact ⟨fun q => absurd (h.2.2.1.symm.trans q) (by decide), fun q => absurd (h.1.symm.trans q.1) (by decide)⟩
  · exact ⟨fun q => absurd (h.2.2.1.symm.trans q) (by decide), fun q => absurd (h.1.symm.trans q.1) (by decide)⟩
  · exact ⟨fun q => absurd (h.2.2.1.symm.trans q) (by decide), fun q => absurd (h.1.symm.trans q.1) (by decide)⟩
  · rcases h.2.2.2.2 with g | g
    · exact ⟨fun _ => ⟨h.1, g.1⟩, fun _ => g.2⟩
    · exact ⟨fun q => absurd (g.2.1.symm.trans q) (by decide), fun q => absurd (g.1.symm.trans q.2) (by decide)⟩
/-- a VALUE has a TYPE -/
theorem SYM.val (h : SYM kd m C TK fA fM i) (h6 : gi fM 19 i = 6) (h28 : gi fM 28 i ≠ 0) : gi fM 24 i = 1 := by
  obtain ⟨_, _, _, _, _, _, _, _, h⟩ := h
  rcases h with h | h | h | h | h | h
  · exact absurd (h.1.symm.trans h6) (by decide)
  · exact absurd (h.1.symm.trans h6) (by decide)
  · exact absurd (h.1.symm.trans h6) (by decide)
  · exact absurd (h.1.symm.trans h6) (by decide)
  · exact absurd (h.1.symm.trans h6) (by decide)
  · rcases h.2.2.2.2 with g | g
    · exact absurd g.1 h28
    · exact g.2.2
end SY
/-- all symbols on both sides; row 0 of the class -/
def SYT (kd : Nat → Nat) (m : Nat) (C TK : Nat → Nat) (lu : Nat → Nat) (fA fM : Wd) : Prop := gi fA 14 0 = 0 ∧ (∀ tk, lu tk ≤ C 1) ∧ (C 1 ≤ 4100 ∧ C 4 ≤ 1200) ∧ (∀ i, i < C 1 → SYM kd m C TK fA fM i)
section SY
variable {kd : Nat → Nat} {m : Nat} {C TK lu : Nat → Nat} {fA fM : Wd} {tk : Nat}
theorem SYT.is (h : SYT kd m C TK lu fA fM) {x : Int32} (hx : x ≠ 6) (h0 : x ≠ 0) : gi fA 14 (lu tk) = x ↔ lu tk ≠ 0 ∧ (gi fM 19 (lu tk - 1) = x ∨ FO fM (lu tk - 1) x) := by
  obtain ⟨h1, h2, h3, h4⟩ := h
  have h2 := h2 tk
  generalize lu tk = l at h2
  by_cases q : l = 0
  · rw [q, h1]
    exact ⟨fun g => absurd g.symm h0, fun g => absurd rfl g.1⟩
  · have := (h4 (l - 1) (by omega)).is hx
    rw [show l - 1 + 1 = l by omega] at this
    rw [this]
    exact ⟨fun g => ⟨q, g⟩, fun g => g.2⟩
theorem SYT.is0 (h : SYT kd m C TK lu fA fM) : gi fA 14 (lu tk) = 0 ↔ lu tk = 0 ∨ FO fM (lu tk - 1) 0 := by
  obtain ⟨h1, h2, h3, h4⟩ := h
  have h2 := h2 tk
  generalize lu tk = l at h2
  by_cases q : l = 0
  · rw [q, h1]
    exact ⟨fun _ => Or.inl rfl, fun _ => rfl⟩
  · have := (h4 (l - 1) (by omega)).is0
    rw [show l - 1 + 1 = l by omega] at this
    rw [this]
    exact ⟨Or.inr, fun g => g.elim (fun g => absurd g q) id⟩
theorem SYT.sy (h : SYT kd m C TK lu fA fM) (q : lu tk ≠ 0) : SYM kd m C TK fA fM (lu tk - 1) := h.2.2.2 _ (by have := h.2.1 tk; omega)
theorem SYT.ty (h : SYT kd m C TK lu fA fM) (q : lu tk ≠ 0) : gi fA 15 (lu tk) = gi fM 20 (lu tk - 1) := by
  have := (h.sy q).ty
  rw [show lu tk - 1 + 1 = lu tk by omega] at this
  exact this
/-- TYPES of what stands as an EXPR -/
theorem SYT.tE (h : SYT kd m C TK lu fA fM) : (if gi fA 14 (lu tk) = 2 then gi fA 15 (lu tk) else 0) = tyE fM (lu tk) := by
  unfold tyE
  by_cases q : lu tk = 0
  · rw [if_neg (fun g => absurd q ((h.is (by decide) (by decide)).mp g).1), if_pos q]
  · rw [if_neg q]
    by_cases q2 : gi fM 19 (lu tk - 1) = 2 ∨ FO fM (lu tk - 1) 2
    · rw [if_pos ((h.is (by decide) (by decide)).mpr ⟨q, q2⟩), if_pos q2, h.ty q]
    · rw [if_neg (fun g => q2 ((h.is (by decide) (by decide)).mp g).2), if_neg q2]
theorem SYT.tC (h : SYT kd m C TK lu fA fM) : (if gi fA 14 (lu tk) = 3 then gi fA 15 (lu tk) else 0) = tyC fM (lu tk) := by
  unfold tyC
  by_cases q : lu tk = 0
  · rw [if_neg (fun g => absurd q ((h.is (by decide) (by decide)).mp g).1), if_pos q]
  · rw [if_neg q]
    by_cases q2 : gi fM 19 (lu tk - 1) = 3 ∨ FO fM (lu tk - 1) 3
    · rw [if_pos ((h.is (by decide) (by decide)).mpr ⟨q, q2⟩), if_pos q2, h.ty q]
    · rw [if_neg (fun g => q2 ((h.is (by decide) (by decide)).mp g).2), if_neg q2]
theorem SYT.tY (h : SYT kd m C TK lu fA fM) : (gi fA 14 (lu tk) = 3 → gi fA 15 (lu tk) = tyY fM (lu tk)) ∧ (gi fA 14 (lu tk) ≠ 3 → (if gi fA 14 (lu tk) = 1 then gi fA 15 (lu tk) else 0) = tyY fM (lu tk)) := by
  unfold tyY
  refine ⟨fun g => ?_, fun g => ?_⟩
  · obtain ⟨g1, g2⟩ := (h.is (by decide) (by decide)).mp g
    rw [if_neg g1, if_pos (Or.inr (Or.inr g2)), h.ty g1]
  · by_cases q : lu tk = 0
    · rw [if_neg (fun g => absurd q ((h.is (by decide) (by decide)).mp g).1), if_pos q]
    · rw [if_neg q]
      by_cases q2 : gi fM 19 (lu tk - 1) = 1 ∨ FO fM (lu tk - 1) 1
      · rw [if_pos ((h.is (by decide) (by decide)).mpr ⟨q, q2⟩), if_pos (q2.elim Or.inl (fun g => Or.inr (Or.inl g))), h.ty q]
      · rw [if_neg (fun g => q2 ((h.is (by decide) (by decide)).mp g).2), if_neg]
        intro g9
        rcases g9 with g9 | g9 | g9
        · exact q2 (Or.inl g9)
        · exact q2 (Or.inr g9)
        · exact g ((h.is (by decide) (by decide)).mpr ⟨q, g9⟩)
/-- of another SORT -/
theorem SYT.mis (h : SYT kd m C TK lu fA fM) {x : Int32} (hx : x ≠ 6) (h0 : x ≠ 0) : (gi fA 14 (lu tk) = x ∨ gi fA 14 (lu tk) = 0) ↔ (lu tk = 0 ∨ gi fM 19 (lu tk - 1) = x ∨ FO fM (lu tk - 1) x ∨ FO fM (lu tk - 1) 0) := by
  rw [h.is hx h0, h.is0]
  constructor
  · rintro (⟨_, g | g⟩ | g | g)
    · exact Or.inr (Or.inl g)
    · exact Or.inr (Or.inr (Or.inl g))
    · exact Or.inl g
    · exact Or.inr (Or.inr (Or.inr g))
  · intro g
    by_cases q : lu tk = 0
    · exact Or.inr (Or.inl q)
    · rcases g with g | g | g | g
      · exact absurd g q
      · exact Or.inl ⟨q, Or.inl g⟩
      · exact Or.inl ⟨q, Or.inr g⟩
      · exact Or.inr (Or.inr g)
end SY
