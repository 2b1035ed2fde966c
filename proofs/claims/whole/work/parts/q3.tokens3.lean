/-! TOKENS of an EXPR's, an AIM's faults of the class lie where its nodes do -/
section GT3
/-- every fault from t on, before u -/
def GL (t u : Nat) (L : List (Nat × Int32)) : Prop := ∀ x ∈ L, t ≤ x.1 ∧ x.1 < u
variable {t u a : Nat} {k0 : Int32} {L L1 L2 : List (Nat × Int32)}
theorem GL.nil : GL t u [] := fun x hx => absurd hx (by simp)
theorem GL.one (h : t ≤ a ∧ a < u) : GL t u [(a, k0)] := fun x hx => by rw [List.mem_singleton.mp hx]; exact h
theorem GL.app (h1 : GL t u L1) (h2 : GL t u L2) : GL t u (L1 ++ L2) := fun x hx => (List.mem_append.mp hx).elim (h1 x) (h2 x)
theorem GL.ite {c : Prop} [Decidable c] (h1 : c → GL t u L1) (h2 : ¬ c → GL t u L2) : GL t u (if c then L1 else L2) := by
  by_cases h : c
  · rw [if_pos h]; exact h1 h
  · rw [if_neg h]; exact h2 h
theorem GL.flat {α : Type} {xs : List α} {f : α → List (Nat × Int32)} (h : ∀ x ∈ xs, GL t u (f x)) : GL t u (xs.flatMap f) := fun z hz => by
  obtain ⟨x, x1, x2⟩ := List.mem_flatMap.mp hz
  exact h x x1 z x2
variable {fM : Wd} {lu : Nat → Nat} {cur : Nat}
/-- nodes within a node lie from t on -/
def GTN (fM : Wd) (t u : Nat) : Nat → Nat → Prop
  | 0, _ => True
  | k + 1, n => (t ≤ nd fM 12 n ∧ nd fM 12 n < u) ∧ (gi fM 7 n = 1 ∨ gi fM 7 n = 2 ∨ gi fM 7 n = 3 ∨ gi fM 7 n = 4 ∨ gi fM 7 n = 5 ∨ gi fM 7 n = 6 ∨ gi fM 7 n = 7 ∨ gi fM 7 n = 8 ∨ gi fM 7 n = 9) ∧ (gi fM 7 n = 9 ∨ gi fM 7 n = 7 ∨ gi fM 7 n = 8 ∨ gi fM 7 n = 4 ∨ gi fM 7 n = 6 → GTN fM t u k (nd fM 8 n)) ∧ (gi fM 7 n = 8 → GTN fM t u k (nd fM 9 n) ∧ GTN fM t u k (nd fM 10 n)) ∧ (gi fM 7 n = 6 → GTN fM t u k (nd fM 10 n)) ∧ (gi fM 7 n = 4 ∨ gi fM 7 n = 5 → ∀ j, ∀ x ∈ nxL fM j (gi fM 8 n), GTN fM t u k x)
def AGT (fM : Wd) (t u n : Nat) : Prop := ∀ k, GTN fM t u k n
theorem GTN.le {s v : Nat} (hs : s ≤ t) (hu : u ≤ v) : ∀ k n, GTN fM t u k n → GTN fM s v k n := by
  intro k
  induction k with
  | zero => exact fun _ _ => trivial
  | succ k ih =>
    intro n ⟨h1, h2, h3, h4, h5, h6⟩
    exact ⟨by omega, h2, fun c => ih _ (h3 c), fun c => ⟨ih _ (h4 c).1, ih _ (h4 c).2⟩, fun c => ih _ (h5 c), fun c j x hx => ih _ (h6 c j x hx)⟩
theorem AGT.le {s v n : Nat} (h : AGT fM t u n) (hs : s ≤ t) (hu : u ≤ v) : AGT fM s v n := fun k => GTN.le hs hu k n (h k)
theorem AGT.mk {n : Nat} (h1 : t ≤ nd fM 12 n ∧ nd fM 12 n < u) (h2 : gi fM 7 n = 1 ∨ gi fM 7 n = 2 ∨ gi fM 7 n = 3 ∨ gi fM 7 n = 4 ∨ gi fM 7 n = 5 ∨ gi fM 7 n = 6 ∨ gi fM 7 n = 7 ∨ gi fM 7 n = 8 ∨ gi fM 7 n = 9) (h3 : gi fM 7 n = 9 ∨ gi fM 7 n = 7 ∨ gi fM 7 n = 8 ∨ gi fM 7 n = 4 ∨ gi fM 7 n = 6 → AGT fM t u (nd fM 8 n)) (h4 : gi fM 7 n = 8 → AGT fM t u (nd fM 9 n) ∧ AGT fM t u (nd fM 10 n)) (h5 : gi fM 7 n = 6 → AGT fM t u (nd fM 10 n)) (h6 : gi fM 7 n = 4 ∨ gi fM 7 n = 5 → ∀ j, ∀ x ∈ nxL fM j (gi fM 8 n), AGT fM t u x) : AGT fM t u n := fun k => by
  cases k with
  | zero => trivial
  | succ k => exact ⟨h1, h2, fun c => h3 c k, fun c => ⟨(h4 c).1 k, (h4 c).2 k⟩, fun c => h5 c k, fun c j x hx => h6 c j x hx k⟩
theorem flY_gl {l : Nat} (h : t ≤ a ∧ a < u) : GL t u (flY fM l a) := by
  unfold flY
  exact GL.ite (fun _ => GL.one h) fun _ => GL.ite (fun _ => GL.nil) fun _ => GL.ite (fun _ => GL.ite (fun _ => GL.one h) fun _ => GL.ite (fun _ => GL.one h) fun _ => GL.nil) fun _ => GL.ite (fun _ => GL.nil) fun _ => GL.one h
theorem misT_gl {x y : Int32} (h : t ≤ a ∧ a < u) : GL t u (misT x y a) := by
  unfold misT
  exact GL.ite (fun _ => GL.one h) fun _ => GL.nil
theorem misS_gl {l : Nat} (h : t ≤ a ∧ a < u) : GL t u (misS fM l a) := by
  unfold misS
  exact GL.ite (fun _ => GL.nil) fun _ => GL.one h
theorem notD_gl {l : Nat} (h : t ≤ a ∧ a < u) : GL t u (notD l a) := by
  unfold notD
  exact GL.ite (fun _ => GL.one h) fun _ => GL.nil
theorem flx_gl : ∀ (K md n f : Nat), AGT fM t u n → GL t u (FLX fM lu cur K md n f) := by
  intro K
  induction K with
  | zero => exact fun _ _ _ _ => GL.nil
  | succ k ih =>
    intro md n f h
    have h0 : t ≤ nd fM 12 n ∧ nd fM 12 n < u := (h 1).1
    have h2 := (h 1).2.1
    have k8 : gi fM 7 n = 9 ∨ gi fM 7 n = 7 ∨ gi fM 7 n = 8 ∨ gi fM 7 n = 4 ∨ gi fM 7 n = 6 → AGT fM t u (nd fM 8 n) := fun c j => (h (j + 1)).2.2.1 c
    have k89 : gi fM 7 n = 8 → AGT fM t u (nd fM 9 n) ∧ AGT fM t u (nd fM 10 n) := fun c => ⟨fun j => ((h (j + 1)).2.2.2.1 c).1, fun j => ((h (j + 1)).2.2.2.1 c).2⟩
    have k6 : gi fM 7 n = 6 → AGT fM t u (nd fM 10 n) := fun c j => (h (j + 1)).2.2.2.2.1 c
    have kx : gi fM 7 n = 4 ∨ gi fM 7 n = 5 → ∀ j, ∀ x ∈ nxL fM j (gi fM 8 n), AGT fM t u x := fun c j x hx i => (h (i + 1)).2.2.2.2.2 c j x hx
    have hb : ∀ x ty, AGT fM t u x → GL t u (FLX fM lu cur k 0 x 0 ++ misT (TYX fM lu k x) ty (nd fM 12 x)) := fun x ty hx => GL.app (ih 0 x 0 hx) (misT_gl (hx 1).1)
    have hz : ∀ {α : Type} {xs : List Nat} {i : Nat} {z : Nat × Nat}, z ∈ xs.zipIdx i → z.1 ∈ xs := fun {α xs i z} hz => by
      have := List.mem_zipIdx hz
      rw [this.2.2]
      exact List.getElem_mem _
    have el : gi fM 7 n = 4 → GL t u (notD (lu (nd fM 12 n)) (nd fM 12 n) ++ (nxL fM k (gi fM 8 n)).flatMap (fun x => FLX fM lu cur k 0 x 0 ++ misT (TYX fM lu k x) 1 (nd fM 12 x)) ++ (if lu (nd fM 12 n) = 0 then [] else if gi fM 19 (lu (nd fM 12 n) - 1) = 2 ∨ FO fM (lu (nd fM 12 n) - 1) 2 then (if (gi fM 19 (lu (nd fM 12 n) - 1) = 2 ∧ gi fM 24 (lu (nd fM 12 n) - 1) ≠ gi fM 9 n) ∨ (FO fM (lu (nd fM 12 n) - 1) 2 ∧ ¬ gi fM 9 n ≤ 3) then [(nd fM 12 n, 5)] else []) else misS fM (lu (nd fM 12 n)) (nd fM 12 n))) := fun c =>
      GL.app (GL.app (notD_gl h0) (GL.flat fun x hx => hb x 1 (kx (Or.inl c) k x hx))) (GL.ite (fun _ => GL.nil) fun _ => GL.ite (fun _ => GL.ite (fun _ => GL.one h0) fun _ => GL.nil) fun _ => misS_gl h0)
    rw [FLX]
    dsimp only
    refine GL.ite (fun _ => ?_) fun _ => GL.ite (fun _ => ?_) fun _ => GL.ite (fun _ => ?_) fun _ => GL.ite (fun _ => ?_) fun _ => GL.ite (fun _ => ?_) fun _ => ?_
    · refine GL.ite (fun _ => GL.nil) fun n12 => GL.ite (fun c => ih 0 _ 0 (k8 (Or.inl c))) fun n9 => GL.ite (fun _ => flY_gl h0) fun n3 => GL.ite (fun c => el c) fun n4 => GL.ite (fun c => ?_) fun n5 => GL.ite (fun c => ?_) fun n8 => GL.ite (fun c => hb _ _ (k8 (Or.inr (Or.inl c)))) fun n7 => ?_
      · refine GL.app (notD_gl h0) (GL.ite (fun _ => GL.app (GL.flat fun x hx => ih 4 x 0 (kx (Or.inr c) k x hx)) (GL.ite (fun _ => GL.nil) fun _ => GL.ite (fun _ => GL.app (GL.one h0) (GL.ite (fun _ => GL.one h0) fun _ => GL.nil)) fun _ => misS_gl h0)) fun _ => GL.app (GL.app (GL.ite (fun _ => GL.one h0) fun _ => GL.nil) (GL.ite (fun _ => GL.one h0) fun _ => GL.nil)) (GL.flat fun x hx => ?_))
        have hx' := kx (Or.inr c) k x.1 (hz (α := Nat) hx)
        exact GL.ite (fun _ => ih 5 _ _ hx') fun _ => ih 4 _ _ hx'
      · obtain ⟨g1, g2⟩ := k89 c
        exact GL.app (GL.app (GL.app (hb _ _ (k8 (Or.inr (Or.inr (Or.inl c))))) (ih 0 _ 0 g1)) (ih 0 _ 0 g2)) (GL.ite (fun _ => misT_gl (g2 1).1) fun _ => GL.nil)
      · have c : gi fM 7 n = 6 := by
          rcases h2 with c | c | c | c | c | c | c | c | c
          · exact absurd (Or.inl c) n12
          · exact absurd (Or.inr c) n12
          · exact absurd c n3
          · exact absurd c n4
          · exact absurd c n5
          · exact c
          · exact absurd c n7
          · exact absurd c n8
          · exact absurd c n9
        have g1 := k8 (Or.inr (Or.inr (Or.inr (Or.inr c))))
        have g2 := k6 c
        exact GL.app (ih 0 _ 0 g1) (GL.ite (fun _ => GL.app (ih 0 _ 0 g2) (GL.ite (fun _ => misT_gl (g2 1).1) fun _ => GL.nil)) fun _ => GL.app (misT_gl (g1 1).1) (hb _ _ g2))
    · exact GL.ite (fun c => el c) fun _ => GL.app (notD_gl h0) (GL.ite (fun _ => GL.nil) fun _ => GL.ite (fun _ => GL.nil) fun _ => misS_gl h0)
    · refine GL.ite (fun c => ih 2 _ 0 (k8 (Or.inl c))) fun _ => GL.ite (fun c => ?_) fun _ => GL.ite (fun _ => ?_) fun _ => GL.ite (fun c => ?_) fun _ => ?_
      · obtain ⟨g1, g2⟩ := k89 c
        exact GL.app (GL.app (hb _ _ (k8 (Or.inr (Or.inr (Or.inl c))))) (ih 2 _ 0 g1)) (ih 2 _ 0 g2)
      · exact GL.app (notD_gl h0) (GL.ite (fun _ => GL.nil) fun _ => misS_gl h0)
      · exact GL.app (GL.app (notD_gl h0) (hb _ _ (k8 (Or.inr (Or.inr (Or.inr (Or.inl c.1))))))) (GL.ite (fun _ => GL.nil) fun _ => misS_gl h0)
      · exact GL.app (GL.one h0) (ih 4 _ 0 h)
    · refine GL.ite (fun c => ih 3 _ 0 (k8 (Or.inl c))) fun _ => GL.ite (fun c => ?_) fun _ => ?_
      · obtain ⟨g1, g2⟩ := k89 c
        exact GL.app (GL.app (hb _ _ (k8 (Or.inr (Or.inr (Or.inl c))))) (ih 3 _ 0 g1)) (ih 3 _ 0 g2)
      · exact GL.app (notD_gl h0) (GL.ite (fun c => hb _ _ (k8 (Or.inr (Or.inr (Or.inr (Or.inl c)))))) fun _ => GL.nil)
    · exact GL.ite (fun _ => ih 0 _ 0 h) fun _ => ih 3 _ 0 h
    · refine GL.ite (fun _ => ?_) fun _ => GL.ite (fun _ => ih 2 _ 0 h) fun _ => GL.ite (fun _ => ih 4 _ 0 h) fun _ => GL.ite (fun _ => GL.app (GL.one h0) (ih 4 _ 0 h)) fun _ => GL.app (notD_gl h0) ?_
      · exact GL.app (GL.ite (fun _ => GL.nil) fun _ => GL.ite (fun _ => ih 1 _ 0 h) fun _ => ih 0 _ 0 h) (misT_gl h0)
      · exact GL.ite (fun _ => GL.nil) fun _ => GL.ite (fun _ => GL.ite (fun _ => GL.one h0) fun _ => GL.nil) fun _ => misS_gl h0
variable {kd : Nat → Nat} {sc : Int32}
theorem nxC_sub : ∀ (xs : List Nat) (j : Nat) (v : Int32), nxC fM xs v → ∀ z ∈ nxL fM j v, z ∈ xs := by
  intro xs
  induction xs with
  | nil =>
    intro j v h z hz
    have h : v = -1 := h
    cases j with
    | zero => exact hz
    | succ j =>
      unfold nxL at hz
      rw [h, if_pos (by decide)] at hz
      exact hz
  | cons a r ih =>
    intro j v ⟨h1, h2, h3⟩ z hz
    cases j with
    | zero => exact absurd hz (by show ¬ z ∈ ([] : List Nat); simp)
    | succ j =>
      unfold nxL at hz
      rw [h1, if_neg (nlt0 (by omega)), tc_iN (by omega)] at hz
      rcases List.mem_cons.mp hz with rfl | hz
      · exact List.mem_cons_self
      · exact List.mem_cons_of_mem _ (ih _ _ h3 z hz)
/-- ELEMENTS of a row lie there -/
theorem row_agt {W : PWT} (hlt : ∀ lo x d s e cn, W lo x d s e cn → s < e) (hW : ∀ lo x d s e cn, W lo x d s e cn → e ≤ 9000 → x < 24000 → AGT fM s e x) : ∀ (xs : List Nat) (lo d s e : Nat), rowR kd fM W xs lo d s e → e ≤ 9000 → (∀ x ∈ xs, x < 24000) → (∀ x ∈ xs, AGT fM s e x) ∧ s < e := by
  intro xs
  induction xs with
  | nil => exact fun _ _ _ _ h => h.elim
  | cons x r ih =>
    intro lo d s e h he hx
    have hxb := hx x List.mem_cons_self
    cases r with
    | nil =>
      obtain ⟨⟨cn, h1⟩, _⟩ := h
      exact ⟨fun z hz => by rw [List.mem_singleton.mp hz]; exact hW _ _ _ _ _ _ h1 he hxb, hlt _ _ _ _ _ _ h1⟩
    | cons y r' =>
      obtain ⟨e1, ⟨cn, h1⟩, _, _, _, _, hr⟩ := h
      obtain ⟨i1, i2⟩ := ih _ _ _ _ hr he (fun z hz => hx z (List.mem_cons_of_mem _ hz))
      have l1 := hlt _ _ _ _ _ _ h1
      refine ⟨fun z hz => ?_, by omega⟩
      rcases List.mem_cons.mp hz with rfl | hz
      · exact (hW _ _ _ _ _ _ h1 (by omega) hxb).le (Nat.le_refl _) (by omega)
      · exact (i1 z hz).le (by omega) (Nat.le_refl _)
theorem pri_agt (hk9 : ∀ i, 9000 ≤ i → kd i = 0) {W : PWT} {lo n d s e cn : Nat} (hlt : ∀ lo x d s e cn, W lo x d s e cn → s < e) (hW : ∀ lo x d s e cn, W lo x d s e cn → e ≤ 9000 → x < 24000 → AGT fM s e x) (h : PRI kd fM W sc lo n d s e cn) (hn : n < 24000) : AGT fM s e n ∧ e ≤ 9000 := by
  obtain ⟨_, h12, _, _, h⟩ := h
  rcases h with ⟨h7, hk, he, _⟩ | ⟨h7, hk, he, _⟩ | ⟨h7, hk, hd, x, e1, h8, hx, hw, h44, ee⟩ | ⟨h7, hk, _, _, he, _⟩ | ⟨c, xs, e1, hkk, hk2, hd, h8, h9, hR, hx, hce, ee⟩
  · have l0 := kd_lt hk9 hk (by decide)
    have e12 : nd fM 12 n = s := nd_of h12 (by omega)
    exact ⟨AGT.mk (by omega) (Or.inl h7) (fun c => absurd c (by rw [h7]; decide)) (fun c => absurd c (by rw [h7]; decide)) (fun c => absurd c (by rw [h7]; decide)) (fun c => absurd c (by rw [h7]; decide)), by omega⟩
  · have l0 : s < 9000 := by rcases hk with hk | hk <;> exact kd_lt hk9 hk.1 (by decide)
    have e12 : nd fM 12 n = s := nd_of h12 (by omega)
    exact ⟨AGT.mk (by omega) (Or.inr (Or.inl h7)) (fun c => absurd c (by rw [h7]; decide)) (fun c => absurd c (by rw [h7]; decide)) (fun c => absurd c (by rw [h7]; decide)) (fun c => absurd c (by rw [h7]; decide)), by omega⟩
  · have l0 := kd_lt hk9 hk (by decide)
    have l1 := kd_lt hk9 h44 (by decide)
    have m1 := hlt _ _ _ _ _ _ hw
    have e12 : nd fM 12 n = s := nd_of h12 (by omega)
    have e8 : nd fM 8 n = x := nd_of h8 (by omega)
    have g := (hW _ _ _ _ _ _ hw (by omega) (by omega)).le (show s ≤ s + 1 by omega) (show e1 ≤ e by omega)
    exact ⟨AGT.mk (by omega) (by simp [h7]) (fun _ => by rw [e8]; exact g) (fun c => absurd c (by rw [h7]; decide)) (fun c => absurd c (by rw [h7]; decide)) (fun c => absurd c (by rw [h7]; decide)), by omega⟩
  · have l0 := kd_lt hk9 hk (by decide)
    have e12 : nd fM 12 n = s := nd_of h12 (by omega)
    exact ⟨AGT.mk (by omega) (by simp [h7]) (fun c => absurd c (by rw [h7]; decide)) (fun c => absurd c (by rw [h7]; decide)) (fun c => absurd c (by rw [h7]; decide)) (fun c => absurd c (by rw [h7]; decide)), by omega⟩
  · have l1 : e1 < 9000 := kd_lt hk9 hce (by rcases hkk with z | z <;> omega)
    have l0 := kd_lt hk9 hk2 (by decide)
    have e12 : nd fM 12 n = s := nd_of h12 (by omega)
    obtain ⟨g1, m1⟩ := row_agt hlt hW xs _ _ _ _ hR (by omega) (fun x h => by have := hx x h; omega)
    obtain ⟨c1, c2, _⟩ := row_nx xs _ _ _ _ hR (fun x h => by have := hx x h; omega)
    have g2 : ∀ x ∈ xs, AGT fM s e x := fun x hx => (g1 x hx).le (by omega) (by omega)
    have gx : ∀ j, ∀ x ∈ nxL fM j (gi fM 8 n), AGT fM s e x := fun j x hx => g2 x (nxC_sub xs j _ (by rw [h8]; exact c1) x hx)
    have g8 : AGT fM s e (nd fM 8 n) := by
      cases xs with
      | nil => exact absurd c2 (by simp)
      | cons x r =>
        have hxb := hx x List.mem_cons_self
        have e8 : nd fM 8 n = x := nd_of h8 (by omega)
        rw [e8]
        exact g2 x List.mem_cons_self
    rcases hkk with ⟨h7, _⟩ | ⟨h7, _⟩
    · exact ⟨AGT.mk (by omega) (by simp [h7]) (fun _ => g8) (fun c => absurd c (by rw [h7]; decide)) (fun c => absurd c (by rw [h7]; decide)) (fun _ => gx), by omega⟩
    · exact ⟨AGT.mk (by omega) (by simp [h7]) (fun _ => g8) (fun c => absurd c (by rw [h7]; decide)) (fun c => absurd c (by rw [h7]; decide)) (fun _ => gx), by omega⟩
theorem pev_evt {W : PWT} : ∀ (q lo n d s : Nat) (evs : List EV) (cn : Nat), PEV kd fM W sc q lo n d s evs cn → ∃ ev ∈ evs, s ≤ tkE ev := by
  intro q
  induction q with
  | zero => exact fun _ _ _ _ _ _ h => h.elim
  | succ q ih =>
    intro lo n d s evs cn ⟨_, h⟩
    rcases h with ⟨_, _, _, _, x, y, sg, tk, s2, ex, ey, cx, cy, _, _, _, _, _, _, he, p1, p2⟩ | ⟨_, _, _, _, x, sg, ex, cx, _, _, _, _, he, p1⟩ | ⟨e, he, _⟩
    · obtain ⟨ev, a1, a2⟩ := ih _ _ _ _ _ _ p1
      exact ⟨ev, by rw [he]; exact List.mem_append_left _ (List.mem_append_left _ a1), a2⟩
    · exact ⟨(1, sg, s), by rw [he]; exact List.mem_append_right _ (List.mem_singleton.mpr rfl), Nat.le_refl _⟩
    · exact ⟨(0, s, d), by rw [he]; exact List.mem_singleton.mpr rfl, Nat.le_refl _⟩
theorem pev_agt (hk9 : ∀ i, 9000 ≤ i → kd i = 0) {k : Nat} (hW : ∀ lo x d s e cn, PWR kd fM sc k lo x d s e cn → e ≤ 9000 → x < 24000 → AGT fM s e x) (hu : u ≤ 9000) : ∀ (q lo n d s : Nat) (evs : List EV) (cn : Nat), PEV kd fM (PWR kd fM sc k) sc q lo n d s evs cn → n < 24000 → (∀ ev ∈ evs, t ≤ tkE ev ∧ tkE ev < u) → (∀ s' d', (0, s', d') ∈ evs → ∀ e', xp kd k d' s' = .inr e' → e' ≤ u) → AGT fM t u n ∧ gi fM 12 n = Int32.ofNat s ∧ t ≤ s ∧ s < u := by
  intro q
  induction q with
  | zero => exact fun _ _ _ _ _ _ h => h.elim
  | succ q ih =>
    intro lo n d s evs cn hP hn hE hX
    obtain ⟨ev0, z1, z2⟩ := pev_evt _ _ _ _ _ _ _ hP
    have hs := hE ev0 z1
    obtain ⟨h0, h⟩ := hP
    rcases h with ⟨h7, _, _, h12, x, y, sg, tk, s2, ex, ey, cx, cy, h8, h10, _, _, hxy, hyn, he, p1, p2⟩ | ⟨h7, _, _, h12, x, sg, ex, cx, h8, _, _, hxn, he, p1⟩ | ⟨e, he, p1⟩
    · have e8 : nd fM 8 n = x := nd_of h8 (by omega)
      have e10 : nd fM 10 n = y := nd_of h10 (by omega)
      have e12 : nd fM 12 n = s := nd_of h12 (by omega)
      rw [he] at hE hX
      obtain ⟨g1, _, g2⟩ := ih _ _ _ _ _ _ p1 (by omega) (fun ev h => hE ev (List.mem_append_left _ (List.mem_append_left _ h))) (fun s' d' h => hX s' d' (List.mem_append_left _ (List.mem_append_left _ h)))
      obtain ⟨g3, _, g4⟩ := ih _ _ _ _ _ _ p2 (by omega) (fun ev h => hE ev (List.mem_append_left _ (List.mem_append_right _ h))) (fun s' d' h => hX s' d' (List.mem_append_left _ (List.mem_append_right _ h)))
      exact ⟨AGT.mk (by omega) (by simp [h7]) (fun _ => by rw [e8]; exact g1) (fun c => absurd c (by rw [h7]; decide)) (fun _ => by rw [e10]; exact g3) (fun c => absurd c (by rw [h7]; decide)), h12, g2⟩
    · have e8 : nd fM 8 n = x := nd_of h8 (by omega)
      have e12 : nd fM 12 n = s := nd_of h12 (by omega)
      rw [he] at hE hX
      have hs9 : t ≤ s ∧ s < u := hE (1, sg, s) (List.mem_append_right _ (List.mem_singleton.mpr rfl))
      obtain ⟨g1, _⟩ := ih _ _ _ _ _ _ p1 (by omega) (fun ev h => hE ev (List.mem_append_left _ h)) (fun s' d' h => hX s' d' (List.mem_append_left _ h))
      exact ⟨AGT.mk (by omega) (by simp [h7]) (fun _ => by rw [e8]; exact g1) (fun c => absurd c (by rw [h7]; decide)) (fun c => absurd c (by rw [h7]; decide)) (fun c => absurd c (by rw [h7]; decide)), h12, hs9⟩
    · rw [he] at hE hX
      have hs9 : t ≤ s ∧ s < u := hE (0, s, d) (List.mem_singleton.mpr rfl)
      obtain ⟨g1, g2⟩ := pri_agt hk9 (fun lo x d s e cn h => PWR_lt9 k lo x d s e cn h) hW p1 hn
      have g3 := hX s d (List.mem_singleton.mpr rfl) e (PRI_xp (k := k) (fun lo x d s e cn h => PWR_xw k h) p1 g2)
      exact ⟨g1.le hs9.1 g3, p1.2.1, hs9⟩
theorem psm_agt (hk9 : ∀ i, 9000 ≤ i → kd i = 0) {k lo n d s e cn : Nat} (hW : ∀ lo x d s e cn, PWR kd fM sc k lo x d s e cn → e ≤ 9000 → x < 24000 → AGT fM s e x) (h : PSM kd fM k (PWR kd fM sc k) sc lo n d s e cn) (he : e ≤ 9000) (hn : n < 24000) : AGT fM s e n ∧ s < e ∧ gi fM 12 n = Int32.ofNat s := by
  obtain ⟨evs, q, hr, hp⟩ := h
  have hlt : ∀ d t e, xp kd k d t = .inr e → t < e := fun d t e h => xp_lt k d t e h
  obtain ⟨⟨hlt', hqt⟩, _⟩ := rd_qt hlt 9 d s (e, evs) hr
  have hpq := rd_pq hlt 9 d s (e, evs) hr
  obtain ⟨g1, g2, _⟩ := pev_agt hk9 hW he q _ _ _ _ _ _ hp hn hqt (fun s' d' hm e' hx => by
    obtain ⟨_, e2, f1, f2⟩ := hpq (0, s', d') hm rfl
    have f1 : xp kd k d' s' = .inr e2 := f1
    rw [hx] at f1
    injection f1 with f1
    omega)
  exact ⟨g1, hlt', g2⟩
theorem pwr_agt (hk9 : ∀ i, 9000 ≤ i → kd i = 0) : ∀ (k lo n d s e cn : Nat), PWR kd fM sc k lo n d s e cn → e ≤ 9000 → n < 24000 → AGT fM s e n := by
  intro k
  induction k with
  | zero => exact fun _ _ _ _ _ _ h => h.elim
  | succ k ih =>
    intro lo n d s e cn h he hn
    rcases h with ⟨h1, hd, _, h7, h12, _, c, y, z, e1, e2, cc, cy, cz, h8, h9, h10, hcy, hyz, hzn, p1, k1, p2, k2, p3, _⟩ | ⟨h1, h2⟩
    · have l0 := kd_lt hk9 h1 (by decide)
      have l1 := kd_lt hk9 k1 (by decide)
      have l2 := kd_lt hk9 k2 (by decide)
      have m1 := PWR_lt9 _ _ _ _ _ _ _ p1
      have m3 := PWR_lt9 _ _ _ _ _ _ _ p3
      have e8 : nd fM 8 n = c := nd_of h8 (by omega)
      have e9 : nd fM 9 n = y := nd_of h9 (by omega)
      have e10 : nd fM 10 n = z := nd_of h10 (by omega)
      have e12 : nd fM 12 n = s := nd_of h12 (by omega)
      obtain ⟨g2, m2, _⟩ := psm_agt hk9 ih p2 (by omega) (by omega)
      have g1 := (ih _ _ _ _ _ _ p1 (by omega) (by omega)).le (show s ≤ s + 1 by omega) (show e1 ≤ e by omega)
      have g3 := (ih _ _ _ _ _ _ p3 he (by omega)).le (show s ≤ e2 + 1 by omega) (Nat.le_refl e)
      exact AGT.mk (by omega) (by simp [h7]) (fun _ => by rw [e8]; exact g1) (fun _ => ⟨by rw [e9]; exact g2.le (by omega) (by omega), by rw [e10]; exact g3⟩) (fun c => absurd c (by rw [h7]; decide)) (fun c => absurd c (by rw [h7]; decide))
    · exact (psm_agt hk9 ih h2 he hn).1
/-- where an EXPR begins -/
theorem pwr_12 (hk9 : ∀ i, 9000 ≤ i → kd i = 0) {k lo n d s e cn : Nat} (h : PWR kd fM sc k lo n d s e cn) (he : e ≤ 9000) (hn : n < 24000) : gi fM 12 n = Int32.ofNat s := by
  cases k with
  | zero => exact h.elim
  | succ k =>
    rcases h with ⟨_, _, _, _, h12, _⟩ | ⟨_, h2⟩
    · exact h12
    · exact (psm_agt hk9 (fun lo x d s e cn h => pwr_agt hk9 k lo x d s e cn h) h2 he hn).2.2
theorem pam_gl (hk9 : ∀ i, 9000 ≤ i → kd i = 0) : ∀ (k lo n d s e : Nat), PAM kd fM sc k lo n d s e → e ≤ 9000 → n < 24000 → ∀ K f, GL s e (FLX fM lu cur K 2 n f) := by
  intro k
  induction k with
  | zero => exact fun _ _ _ _ _ h => h.elim
  | succ k ih =>
    intro lo n d s e ⟨_, h12, _, h⟩ he hn K f
    cases K with
    | zero => exact GL.nil
    | succ K =>
    have hb : ∀ {x ty}, AGT fM s e x → GL s e (FLX fM lu cur K 0 x 0 ++ misT (TYX fM lu K x) ty (nd fM 12 x)) := fun {x ty} hx => GL.app (flx_gl K 0 x 0 hx) (misT_gl (hx 1).1)
    have hmono : ∀ {a b L}, s ≤ a → b ≤ e → GL a b L → GL s e L := fun {a b L} ha hb h x hx => ⟨Nat.le_trans ha (h x hx).1, Nat.lt_of_lt_of_le (h x hx).2 hb⟩
    rw [FLX]
    dsimp only
    rw [if_neg (by decide), if_neg (by decide), if_pos rfl]
    rcases h with ⟨hk, hd9, h7, c, y, z, e1, e2, cc, h8, h9, hz, hcy, hyz, hzn, p1, k1, p2, k2, p3⟩ | ⟨hk, hd9, h7, x, e1, h8, hx, p1, k1, ee⟩ | ⟨hk, _, hd9, h7, h9, x, e1, cx, h8, hx, p1, k1, ee⟩ | ⟨hk, _, h7, he1⟩
    · have l0 := kd_lt hk9 hk (by decide)
      have l1 := kd_lt hk9 k1 (by decide)
      have l2 := kd_lt hk9 k2 (by decide)
      have m1 := PWR_lt9 _ _ _ _ _ _ _ p1
      have m2 := amX_lt _ _ _ _ (PAM_am k p2)
      have m3 := amX_lt _ _ _ _ (PAM_am k p3)
      have e8 : nd fM 8 n = c := nd_of h8 (by omega)
      have e9 : nd fM 9 n = y := nd_of h9 (by omega)
      have e10 : nd fM 10 n = z := nd_of hz (by omega)
      rw [if_neg (by rw [h7]; decide), if_pos h7, e8, e9, e10]
      exact GL.app (GL.app (hb ((pwr_agt hk9 k _ _ _ _ _ _ p1 (by omega) (by omega)).le (by omega) (by omega))) (hmono (by omega) (by omega) (ih _ _ _ _ _ p2 (by omega) (by omega) K 0))) (hmono (by omega) (Nat.le_refl _) (ih _ _ _ _ _ p3 he (by omega) K 0))
    · have l0 := kd_lt hk9 hk (by decide)
      have l1 := kd_lt hk9 k1 (by decide)
      have e8 : nd fM 8 n = x := nd_of h8 (by omega)
      rw [if_pos h7, e8]
      exact hmono (by omega) (by omega) (ih _ _ _ _ _ p1 (by omega) (by omega) K 0)
    · have l0 := kd_lt hk9 hk (by decide)
      have l1 := kd_lt hk9 k1 (by decide)
      have m1 := PWR_lt9 _ _ _ _ _ _ _ p1
      have e8 : nd fM 8 n = x := nd_of h8 (by omega)
      have e12 : nd fM 12 n = s := nd_of h12 (by omega)
      rw [if_neg (by rw [h7]; decide), if_neg (by rw [h7]; decide), if_neg (by rw [h7]; decide), if_pos ⟨h7, h9⟩, e8, e12]
      exact GL.app (GL.app (notD_gl (by omega)) (hb ((pwr_agt hk9 k _ _ _ _ _ _ p1 (by omega) (by omega)).le (by omega) (by omega)))) (GL.ite (fun _ => GL.nil) fun _ => misS_gl (by omega))
    · have l0 := kd_lt hk9 hk (by decide)
      have e12 : nd fM 12 n = s := nd_of h12 (by omega)
      rw [if_neg (by rw [h7]; decide), if_neg (by rw [h7]; decide), if_pos h7, e12]
      exact GL.app (notD_gl (by omega)) (GL.ite (fun _ => GL.nil) fun _ => misS_gl (by omega))
end GT3
