/-! THE REFERENCE's NODES of EXPRS: which TOKENS each spells. lo: from which number on its parts lie; cn: 1 an EXPR only, 3 an AIM too -/
section ND
variable (kd : Nat → Nat) (w : Wd)
abbrev PWT : Type := Nat → Nat → Nat → Nat → Nat → Nat → Prop
def rowR (W : PWT) : List Nat → Nat → Nat → Nat → Nat → Prop
  | [], _, _, _, _ => False
  | x :: r, lo, d, s, e => match r with
    | [] => (∃ cn, W lo x d s e cn) ∧ gi w 11 x = -1
    | y :: _ => ∃ e1, (∃ cn, W lo x d s e1 cn) ∧ kd e1 = 40 ∧ gi w 11 x = Int32.ofNat y ∧ lo ≤ x ∧ x < y ∧ rowR W r (x + 1) d (e1 + 1) e
def PRI (W : PWT) (sc : Int32) (lo n d s e cn : Nat) : Prop := lo ≤ n ∧ gi w 12 n = Int32.ofNat s ∧ gi w 13 n = sc ∧ gi w 45 n = Int32.ofNat cn ∧
  ((gi w 7 n = 1 ∧ kd s = 3 ∧ e = s + 1 ∧ cn = 1)
  ∨ (gi w 7 n = 2 ∧ (kd s = 23 ∧ gi w 8 n = 1 ∨ kd s = 24 ∧ gi w 8 n = 0) ∧ e = s + 1 ∧ cn = 1)
  ∨ (gi w 7 n = 9 ∧ kd s = 43 ∧ d ≤ 39 ∧ ∃ x e1, gi w 8 n = Int32.ofNat x ∧ x < n ∧ W lo x (d + 1) (s + 1) e1 cn ∧ kd e1 = 44 ∧ e = e1 + 1)
  ∨ (gi w 7 n = 3 ∧ kd s = 2 ∧ kd (s + 1) ≠ 43 ∧ kd (s + 1) ≠ 45 ∧ e = s + 1 ∧ cn = 3)
  ∨ (∃ c xs e1, (gi w 7 n = 4 ∧ kd (s + 1) = 45 ∧ c = 46 ∧ cn = (if xs.length = 1 then 3 else 1) ∨ gi w 7 n = 5 ∧ kd (s + 1) = 43 ∧ c = 44 ∧ cn = 1) ∧ kd s = 2 ∧ d ≤ 39 ∧ gi w 8 n = Int32.ofNat (xs.headD 0) ∧ gi w 9 n = Int32.ofNat xs.length ∧ rowR kd w W xs lo (d + 1) (s + 2) e1 ∧ (∀ x ∈ xs, x < n) ∧ kd e1 = c ∧ e = e1 + 1))
def PEV (W : PWT) (sc : Int32) : Nat → Nat → Nat → Nat → Nat → List EV → Nat → Prop
  | 0, _, _, _, _, _, _ => False
  | q + 1, lo, n, d, s, evs, cn => lo ≤ n ∧
    ((gi w 7 n = 6 ∧ cn = 1 ∧ gi w 45 n = 1 ∧ gi w 12 n = Int32.ofNat s ∧ ∃ x y sg tk s2 ex ey cx cy, gi w 8 n = Int32.ofNat x ∧ gi w 10 n = Int32.ofNat y ∧ gi w 9 n = Int32.ofNat (kM sg) ∧ stb sg ≠ 0 ∧ x < y ∧ y < n ∧ evs = ex ++ ey ++ [(2, sg, tk)] ∧ PEV W sc q lo x d s ex cx ∧ PEV W sc q (x + 1) y d s2 ey cy)
    ∨ (gi w 7 n = 7 ∧ cn = 1 ∧ gi w 45 n = 1 ∧ gi w 12 n = Int32.ofNat s ∧ ∃ x sg ex cx, gi w 8 n = Int32.ofNat x ∧ gi w 9 n = Int32.ofNat (kM sg) ∧ (sg = 29 ∨ sg = 33 ∨ sg = 34) ∧ x < n ∧ evs = ex ++ [(1, sg, s)] ∧ PEV W sc q lo x (if sg = 29 then d + 1 else d) (s + 1) ex cx)
    ∨ (∃ e, evs = [(0, s, d)] ∧ PRI kd w W sc lo n d s e cn))
/-- an EXPR without if -/
def PSM (k : Nat) (W : PWT) (sc : Int32) (lo n d s e cn : Nat) : Prop := ∃ evs q, rd kd (xp kd k) 9 d s = .inr (e, evs) ∧ PEV kd w W sc q lo n d s evs cn
/-- an EXPR -/
def PWR (sc : Int32) : Nat → PWT
  | 0, _, _, _, _, _, _ => False
  | k + 1, lo, n, d, s, e, cn => (kd s = 15 ∧ d ≤ 39 ∧ lo ≤ n ∧ gi w 7 n = 8 ∧ gi w 12 n = Int32.ofNat s ∧ gi w 45 n = Int32.ofNat cn ∧ ∃ c y z e1 e2 cc cy cz, gi w 8 n = Int32.ofNat c ∧ gi w 9 n = Int32.ofNat y ∧ gi w 10 n = Int32.ofNat z ∧ c < y ∧ y < z ∧ z < n ∧ PWR sc k lo c (d + 1) (s + 1) e1 cc ∧ kd e1 = 16 ∧ PSM kd w k (PWR sc k) sc (c + 1) y (d + 1) (e1 + 1) e2 cy ∧ kd e2 = 17 ∧ PWR sc k (y + 1) z (d + 1) (e2 + 1) e cz ∧ cn = (if cy = 3 ∧ cz = 3 then 3 else 1))
    ∨ (kd s ≠ 15 ∧ PSM kd w k (PWR sc k) sc lo n d s e cn)
end ND
section NDT
variable {kd : Nat → Nat} {sc : Int32}
/-- two worlds agree on the nodes from lo to n, but for where n has its next -/
def AGR (lo n : Nat) (u w : Wd) : Prop := ∀ k j, (7 ≤ k ∧ k ≤ 13 ∨ k = 45) → lo ≤ j → j < n ∨ j = n ∧ k ≠ 11 → gi u k j = gi w k j
theorem AGR.sub {lo n lo' n' : Nat} {u w : Wd} (h : AGR lo n u w) (h1 : lo ≤ lo') (h2 : n' ≤ n) : AGR lo' n' u w := fun k j hk hj hn => h k j hk (by omega) (by omega)
def STB (W : Wd → PWT) : Prop := ∀ (u w : Wd) (lo n d s e cn : Nat), W w lo n d s e cn → lo ≤ n ∧ (AGR lo n u w → W u lo n d s e cn)
theorem rowR.agr {W : Wd → PWT} (hW : STB W) {u w : Wd} {m : Nat} : ∀ (xs : List Nat) (lo d s e : Nat), rowR kd w (W w) xs lo d s e → (∀ x ∈ xs, x < m) → (∀ k j, (7 ≤ k ∧ k ≤ 13 ∨ k = 45) → lo ≤ j → j < m → gi u k j = gi w k j) → rowR kd u (W u) xs lo d s e := by
  intro xs
  induction xs with
  | nil => exact fun _ _ _ _ h => h.elim
  | cons x r ih =>
    intro lo d s e h hm hA
    have hx := hm x List.mem_cons_self
    have hB : AGR lo x u w := fun k j hk hl hj => hA k j hk hl (by omega)
    cases r with
    | nil =>
      obtain ⟨⟨cn, h1⟩, h2⟩ := h
      have h3 := hW u w _ _ _ _ _ _ h1
      exact ⟨⟨cn, h3.2 hB⟩, by rw [hA 11 x (by omega) h3.1 (by omega)]; exact h2⟩
    | cons y r =>
      obtain ⟨e1, ⟨cn, h1⟩, h2, h3, h4, h5, h6⟩ := h
      have h7 := hW u w _ _ _ _ _ _ h1
      exact ⟨e1, ⟨cn, h7.2 hB⟩, h2, by rw [hA 11 x (by omega) h4 (by omega)]; exact h3, h4, h5, ih _ _ _ _ h6 (fun z hz => hm z (List.mem_cons_of_mem _ hz)) (fun k j hk hl hj => hA k j hk (by omega) hj)⟩
theorem PRI.agr {W : Wd → PWT} (hW : STB W) {u w : Wd} {lo n d s e cn : Nat} (h : PRI kd w (W w) sc lo n d s e cn) : lo ≤ n ∧ (AGR lo n u w → PRI kd u (W u) sc lo n d s e cn) := by
  obtain ⟨h0, h1, h2, h3, h4⟩ := h
  refine ⟨h0, fun hA => ?_⟩
  have g : ∀ k, (7 ≤ k ∧ k ≤ 13 ∨ k = 45) → k ≠ 11 → gi u k n = gi w k n := fun k hk hn => hA k n hk h0 (Or.inr ⟨rfl, hn⟩)
  unfold PRI
  rw [g 12 (by omega) (by omega), g 13 (by omega) (by omega), g 45 (by omega) (by omega), g 7 (by omega) (by omega), g 8 (by omega) (by omega), g 9 (by omega) (by omega)]
  refine ⟨h0, h1, h2, h3, ?_⟩
  rcases h4 with h4 | h4 | h4 | h4 | h4
  · exact Or.inl h4
  · exact Or.inr (Or.inl h4)
  · obtain ⟨a, b, c, x, e1, f, g1, h, i⟩ := h4
    exact Or.inr (Or.inr (Or.inl ⟨a, b, c, x, e1, f, g1, (hW u w _ _ _ _ _ _ h).2 (hA.sub (Nat.le_refl _) (by omega)), i⟩))
  · exact Or.inr (Or.inr (Or.inr (Or.inl h4)))
  · obtain ⟨c, xs, e1, a, b, c1, d1, f, g1, h, i⟩ := h4
    exact Or.inr (Or.inr (Or.inr (Or.inr ⟨c, xs, e1, a, b, c1, d1, f, rowR.agr hW (m := n) xs _ _ _ _ g1 h (fun k j hk hl hj => hA k j hk hl (Or.inl hj)), h, i⟩)))
theorem PEV_lo {W : PWT} {w : Wd} {q lo n d s : Nat} {evs : List EV} {cn : Nat} (h : PEV kd w W sc q lo n d s evs cn) : lo ≤ n := by
  cases q with
  | zero => exact h.elim
  | succ q => exact h.1
theorem PEV.agr {W : Wd → PWT} (hW : STB W) {u w : Wd} : ∀ (q lo n d s : Nat) (evs : List EV) (cn : Nat), PEV kd w (W w) sc q lo n d s evs cn → AGR lo n u w → PEV kd u (W u) sc q lo n d s evs cn := by
  intro q
  induction q with
  | zero => exact fun _ _ _ _ _ _ h => h.elim
  | succ q ih =>
    intro lo n d s evs cn h hA
    obtain ⟨h0, h4⟩ := h
    have g : ∀ k, (7 ≤ k ∧ k ≤ 13 ∨ k = 45) → k ≠ 11 → gi u k n = gi w k n := fun k hk hn => hA k n hk h0 (Or.inr ⟨rfl, hn⟩)
    unfold PEV
    rw [g 7 (by omega) (by omega), g 8 (by omega) (by omega), g 9 (by omega) (by omega), g 10 (by omega) (by omega), g 45 (by omega) (by omega), g 12 (by omega) (by omega)]
    refine ⟨h0, ?_⟩
    rcases h4 with ⟨a1, a2, a3, a4, x, y, sg, tk, s2, ex, ey, cx, cy, b1, b2, b3, b4, b5, b6, b7, b8, b9⟩ | ⟨a1, a2, a3, a4, x, sg, ex, cx, b1, b2, b3, b4, b5, b6⟩ | ⟨e, h5, h6⟩
    · exact Or.inl ⟨a1, a2, a3, a4, x, y, sg, tk, s2, ex, ey, cx, cy, b1, b2, b3, b4, b5, b6, b7, ih _ _ _ _ _ _ b8 (hA.sub (Nat.le_refl _) (by omega)), ih _ _ _ _ _ _ b9 (hA.sub (by have := (PEV_lo b8); omega) (by omega))⟩
    · exact Or.inr (Or.inl ⟨a1, a2, a3, a4, x, sg, ex, cx, b1, b2, b3, b4, b5, ih _ _ _ _ _ _ b6 (hA.sub (Nat.le_refl _) (by omega))⟩)
    · exact Or.inr (Or.inr ⟨e, h5, (PRI.agr hW h6).2 hA⟩)
theorem PEV.mono {W : PWT} {w : Wd} : ∀ (q q' lo n d s : Nat) (evs : List EV) (cn : Nat), q ≤ q' → PEV kd w W sc q lo n d s evs cn → PEV kd w W sc q' lo n d s evs cn := by
  intro q
  induction q with
  | zero => exact fun _ _ _ _ _ _ _ _ h => h.elim
  | succ q ih =>
    intro q' lo n d s evs cn hq h
    cases q' with
    | zero => omega
    | succ q' =>
      obtain ⟨h0, h4⟩ := h
      refine ⟨h0, ?_⟩
      rcases h4 with ⟨a1, a2, a3, a4, x, y, sg, tk, s2, ex, ey, cx, cy, b1, b2, b3, b4, b5, b6, b7, b8, b9⟩ | ⟨a1, a2, a3, a4, x, sg, ex, cx, b1, b2, b3, b4, b5, b6⟩ | h5
      · exact Or.inl ⟨a1, a2, a3, a4, x, y, sg, tk, s2, ex, ey, cx, cy, b1, b2, b3, b4, b5, b6, b7, ih _ _ _ _ _ _ _ (by omega) b8, ih _ _ _ _ _ _ _ (by omega) b9⟩
      · exact Or.inr (Or.inl ⟨a1, a2, a3, a4, x, sg, ex, cx, b1, b2, b3, b4, b5, ih _ _ _ _ _ _ _ (by omega) b6⟩)
      · exact Or.inr (Or.inr h5)
theorem PSM.agr {k : Nat} {W : Wd → PWT} (hW : STB W) : STB (fun w => PSM kd w k (W w) sc) := by
  intro u w lo n d s e cn h
  obtain ⟨evs, q, h1, h2⟩ := h
  exact ⟨PEV_lo h2, fun hA => ⟨evs, q, h1, PEV.agr hW q _ _ _ _ _ _ h2 hA⟩⟩
theorem PWR.agr : ∀ k, STB (fun w => PWR kd w sc k) := by
  intro k
  induction k with
  | zero => exact fun _ _ _ _ _ _ _ _ h => h.elim
  | succ k ih =>
    intro u w lo n d s e cn h
    rcases h with ⟨a1, a2, h0, a3, a4, a5, c, y, z, e1, e2, cc, cy, cz, b1, b2, b3, b4, b5, b6, c1, c2, c3, c4, c5, c6⟩ | ⟨h1, h2⟩
    · refine ⟨h0, fun hA => ?_⟩
      have g : ∀ k, (7 ≤ k ∧ k ≤ 13 ∨ k = 45) → k ≠ 11 → gi u k n = gi w k n := fun k hk hn => hA k n hk h0 (Or.inr ⟨rfl, hn⟩)
      show PWR kd u sc (k + 1) lo n d s e cn
      unfold PWR
      rw [g 7 (by omega) (by omega), g 8 (by omega) (by omega), g 9 (by omega) (by omega), g 10 (by omega) (by omega), g 45 (by omega) (by omega), g 12 (by omega) (by omega)]
      have l1 := ih u w _ _ _ _ _ _ c1
      have l3 := PSM.agr (kd := kd) (sc := sc) (k := k) ih u w _ _ _ _ _ _ c3
      have l5 := ih u w _ _ _ _ _ _ c5
      exact Or.inl ⟨a1, a2, h0, a3, a4, a5, c, y, z, e1, e2, cc, cy, cz, b1, b2, b3, b4, b5, b6, l1.2 (hA.sub (Nat.le_refl _) (by omega)), c2, l3.2 (hA.sub (by have := l1.1; omega) (by omega)), c4, l5.2 (hA.sub (by have := l1.1; omega) (by omega)), c6⟩
    · have h3 := PSM.agr (kd := kd) (sc := sc) (k := k) ih u w _ _ _ _ _ _ h2
      exact ⟨h3.1, fun hA => Or.inr ⟨h1, h3.2 hA⟩⟩
end NDT
