/-! PASS 2, THE REFERENCE: what a NAME is, and its codes -/
/-- the tables, as they stay -/
def TBM (kd wr nm : Nat → Nat) (vv : Nat → Int64) (m : Nat) (C TK : Nat → Nat) (SL : Nat → List Nat) (fA fM : Wd) : Prop :=
  RSC nm vv C TK SL [] fM ∧ SM kd wr m fM m 0 ∧ (∀ i j, vv (nm i) = vv (nm j) ↔ nm i = nm j) ∧ (C 1 < 5000 ∧ C 2 < 9000 ∧ C 4 ≤ 1200 ∧ C 0 ≤ 24000) ∧
  (∀ s, s < C 2 → (SL s).length ≤ 5000 ∧ ∀ i ∈ SL s, i < C 1) ∧ (∀ i, i < m → kd i = 2 → gl fM 4 i = vv (nm i)) ∧ ∀ i, i < C 1 → SYM kd m C TK fA fM i
/-- what a NAME is: 0, or a symbol's number and 1 -/
def luN (nm : Nat → Nat) (TK : Nat → Nat) (SL : Nat → List Nat) (stk : List Nat) (tk : Nat) : Nat := lk (fun i => nm (TK i)) SL (nm tk) stk
/-- a formal with SPEC x -/
abbrev FO (fM : Wd) (y : Nat) (x : Int32) : Prop := gi fM 19 y = 6 ∧ gi fM 24 y = x
/-- the TYPE of a NAME that stands as an EXPR -/
def tyY (fM : Wd) (l : Nat) : Int32 := if l = 0 then 0 else if gi fM 19 (l - 1) = 1 ∨ FO fM (l - 1) 1 ∨ gi fM 19 (l - 1) = 3 ∨ FO fM (l - 1) 3 then gi fM 20 (l - 1) else 0
/-- its faults -/
def flY (fM : Wd) (l tk : Nat) : List (Nat × Int32) :=
  if l = 0 then [(tk, 2)] else if gi fM 19 (l - 1) = 1 ∨ FO fM (l - 1) 1 then [] else if gi fM 19 (l - 1) = 3 ∨ FO fM (l - 1) 3 then (if gi fM 20 (l - 1) = 0 then [(tk, 4)] else if gi fM 19 (l - 1) = 3 ∧ ¬ gi fM 31 (gi fM 24 (l - 1)).toNatClampNeg ≤ 0 then [(tk, 5)] else []) else if FO fM (l - 1) 0 then [] else [(tk, 4)]
/-- a call without ACTUALS: at code b -/
def cdP (fM : Wd) (lev y : Nat) (want : Int32) (b : Nat) (g : Wd) : Prop :=
  (gi fM 19 y = 6 ∧ opW g b 15 (upI fM lev y) (gi fM 26 y) want) ∨ (gi fM 19 y ≠ 6 ∧ ∃ s, s < 4300 ∧ opW g b 14 (Int32.ofNat s) want 0 ∧ gi g 49 s = gi fM 24 y ∧ gi g 50 s = upI fM lev y)
/-- its codes, from b to b' -/
def cdY (fM : Wd) (lev l : Nat) (b b' : Nat) (g : Wd) : Prop :=
  (l = 0 ∧ b' = b) ∨ (l ≠ 0 ∧
    ((gi fM 19 (l - 1) = 1 ∧ opW g b 2 (if gi fM 27 (l - 1) = 0 then upI fM lev (l - 1) else -1) (gi fM 26 (l - 1)) 0 ∧ b' = b + 1)
    ∨ (FO fM (l - 1) 1 ∧ opW g b (if gi fM 28 (l - 1) = 0 then 4 else 2) (upI fM lev (l - 1)) (gi fM 26 (l - 1)) 0 ∧ b' = b + 1)
    ∨ ((gi fM 19 (l - 1) = 3 ∨ FO fM (l - 1) 3) ∧ (gi fM 20 (l - 1) = 0 ∧ b' = b ∨ gi fM 20 (l - 1) ≠ 0 ∧ cdP fM lev (l - 1) 1 b g ∧ b' = b + 1))
    ∨ (¬ (gi fM 19 (l - 1) = 1 ∨ FO fM (l - 1) 1 ∨ gi fM 19 (l - 1) = 3 ∨ FO fM (l - 1) 3) ∧ b' = b)))
section SG
variable {kd wr nm : Nat → Nat} {vv : Nat → Int64} {m lev cur sp : Nat} {fA fM : Wd} {c C TK : Nat → Nat} {SL : Nat → List Nat} {w : Wd}
theorem nlt0 {n : Nat} (h : n < 2147483648) : ¬ (Int32.ofNat n < 0) := fun q => absurd ((lt_iN (a := n) (b := 0) h (by omega)).mp q) (by omega)
theorem luN_le (hT : TBM kd wr nm vv m C TK SL fA fM) {tk : Nat} : ∀ {stk : List Nat}, UPM (C 2) fM stk → luN nm TK SL stk tk ≤ C 1 := by
  intro stk
  induction stk with
  | nil => exact fun _ => Nat.zero_le _
  | cons s r ih =>
    intro h
    unfold luN lk
    by_cases q : fnd (fun i => nm (TK i)) (nm tk) (SL s) = 0
    · rw [if_pos q]; exact ih h.2.2
    · rw [if_neg q]
      have := (hT.2.2.2.2.1 s h.2.1).2 _ (fnd_in q).1
      omega
theorem g_look (hT : TBM kd wr nm vv m C TK SL fA fM) (h : GCS kd wr m fM lev cur c sp w) {tk : Nat} {stk : List Nat} (hU : UPM (C 2) fM stk) (hl : stk.length < 9000) :
    fX12_lookUp (hdM stk) (vv (nm tk)) w = some (if luN nm TK SL stk tk = 0 then -1 else Int32.ofNat (luN nm TK SL stk tk - 1), w) := by
  obtain ⟨⟨r1, r2, r3, r4, r5⟩, t2, t3, ⟨t4, t5, t6, t7⟩, t8, t9, t10⟩ := hT
  have e : ∀ k j, (14 ≤ k ∧ k ≤ 34) → gi w k j = gi fM k j := fun k j hk => (h.fx (by unfold PGM PGX; omega)).1
  have hgo : ∀ (stk : List Nat) (fo : Nat), UPM (C 2) fM stk → oX12_lookUp_3 (fo + stk.length + 1) (vv (nm tk)) (hdM stk) w = some (if luN nm TK SL stk tk = 0 then -1 else Int32.ofNat (luN nm TK SL stk tk - 1), w) := by
    intro stk
    induction stk with
    | nil =>
      intro fo _
      show fX12_lookUp_3 (oX12_lookUp_3 (fo + 0)) (vv (nm tk)) (-1) w = _
      unfold fX12_lookUp_3
      rw [if_pos (by decide)]
      rfl
    | cons s r ih =>
      intro fo hU
      obtain ⟨u1, u2, u3⟩ := hU
      have hs : s < 9000 := by omega
      have hin := m_inScope (vv := vv) (w := w) (f := fun i => nm (TK i)) (x := nm tk) (s := s) (C1 := C 1) hs (fun i hi => by rw [(h.fx (k := 18) (j := i) (by unfold PGM PGX; omega)).2]; exact r5 i hi) (fun i _ => t3 (TK i) tk) (SL s) (by rw [e 16 s (by omega)]; exact (r4 s u2).agr (fun i _ => e 21 i (by omega))) (t8 s u2).2 t4 (t8 s u2).1
      show fX12_lookUp_3 (oX12_lookUp_3 (fo + (r.length + 1))) (vv (nm tk)) (Int32.ofNat s) w = _
      unfold fX12_lookUp_3
      have hlk : luN nm TK SL (s :: r) tk = if fnd (fun i => nm (TK i)) (nm tk) (SL s) = 0 then luN nm TK SL r tk else fnd (fun i => nm (TK i)) (nm tk) (SL s) := rfl
      rw [if_neg (nlt0 (n := s) (by omega)), hin, bn2_so, hlk]
      by_cases q : fnd (fun i => nm (TK i)) (nm tk) (SL s) = 0
      · rw [if_pos q, if_pos q, if_pos (by decide), if_pos (inb_iN hs (by omega)), tc_iN (by omega), e 14 s (by omega), u1, ltq]
        exact ih fo u3
      · have hlt := (t8 s u2).2 _ (fnd_in q).1
        rw [if_neg q, if_neg q, if_neg (nlt0 (n := fnd (fun i => nm (TK i)) (nm tk) (SL s) - 1) (by omega)), if_neg q]
  unfold fX12_lookUp
  obtain ⟨fo, hf⟩ := FU_ge (k := stk.length + 1) (by omega)
  rw [hf, ← Nat.add_assoc]
  exact hgo stk fo hU
/-- looked for where node n stands -/
theorem g_seen (hT : TBM kd wr nm vv m C TK SL fA fM) (h : GCS kd wr m fM lev cur c sp w) {n tk : Nat} {stk : List Nat} (hU : UPM (C 2) fM stk) (hl : stk.length < 9000) (hn : n < 24000) (h12 : gi fM 12 n = Int32.ofNat tk) (h13 : gi fM 13 n = hdM stk) (ht : tk < m) (hk : kd tk = 2) :
    ∃ u, fX12_seen (Int32.ofNat n) w = some (if luN nm TK SL stk tk = 0 then -1 else Int32.ofNat (luN nm TK SL stk tk - 1), u) ∧ GCS kd wr m fM lev cur c sp u ∧ FLM u = FNL wr (if luN nm TK SL stk tk = 0 then [(tk, 2)] else []) (FLM w) ∧ OFF (fun k j => k = 0 ∧ (j = 10 ∨ j = 11)) u w := by
  have hlk := g_look hT h hU hl (tk := tk)
  have hle := luN_le hT hU (tk := tk)
  have hm := hT.2.1.1.1
  have hC := hT.2.2.2.1.1
  have e12 : gi w 12 n = Int32.ofNat tk := ((h.fx (k := 12) (by unfold PGM PGX; omega)).1).trans h12
  have e13 : gi w 13 n = hdM stk := ((h.fx (k := 13) (by unfold PGM PGX; omega)).1).trans h13
  have e4 : gl w 4 tk = vv (nm tk) := ((h.fx (k := 4) (by unfold PGM PGX; omega)).2).trans (hT.2.2.2.2.2.1 tk ht hk)
  unfold fX12_seen
  rw [if_pos (inb_iN hn (by omega)), if_pos (inb_iN hn (by omega)), tc_iN (by omega), e12, if_pos (inb_iN (by omega) (by omega)), tc_iN (by omega), e13, e4, hlk, bn2_so]
  by_cases q : luN nm TK SL stk tk = 0
  · rw [if_pos q, if_pos q, if_neg (by decide), if_pos (inb_iN hn (by omega)), e12]
    obtain ⟨u, u1, u2, u3, u4⟩ := g_found h (a := tk) (by omega) (num := 2)
    exact ⟨u, by rw [u1]; rfl, u2, u3, u4⟩
  · rw [if_neg q, if_neg q, if_pos (zl_iN (by omega))]
    exact ⟨w, rfl, h, rfl, OFF.rf⟩
end SG
