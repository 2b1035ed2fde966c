/-! FAULTS OF BOTH SIDES: assignments, fors -/
section QI8
variable {kd wr nm TK : Nat → Nat} {vv : Nat → Int64} {m : Nat} {Cf : CV} {SL : Nat → List Nat} {fA fM : Wd} {q0 : Int32 × Int32} {p s x y K v : Nat} {stk xs : List Nat} {lu : Nat → Nat} {T t : Int32} {z : Nat × Int32}
theorem lu_in (hT : TBM kd wr nm vv m Cf TK SL fA fM) (hs : ∀ s ∈ stk, s < Cf 2) {tk : Nat} (h : luN nm TK SL stk tk ≠ 0) : luN nm TK SL stk tk - 1 < Cf 1 ∧ ∃ s ∈ stk, luN nm TK SL stk tk - 1 ∈ SL s := by
  obtain ⟨s', h1, h2⟩ := lk_in h
  exact ⟨(hT.2.2.2.2.1 s' (hs s' h1)).2 _ h2, s', h1, h2⟩
/-- a VARIABLE has a TYPE -/
theorem sym_ty (hT : TBM kd wr nm vv m Cf TK SL fA fM) {i : Nat} (hi : i < Cf 1) : (gi fM 19 i = 1 ∨ FO fM i 1 ∨ gi fM 19 i = 2 ∨ FO fM i 2 → gi fM 20 i ≠ 0) ∧ (gi fM 20 i = 0 ∨ gi fM 20 i = 1 ∨ gi fM 20 i = 2) := by
  obtain ⟨_, _, _, _, _, _, ⟨ty, t1, t2⟩, _, hK⟩ := hT.2.2.2.2.2.2 i hi
  refine ⟨fun h => ?_, ?_⟩
  · rcases hK with g | g | g | g | g | g
    · exact g.2.2.1
    · exact g.2.2.2.1
    · exfalso
      rcases h with h | h | h | h
      · exact absurd (g.1.symm.trans h) (by decide)
      · exact absurd (g.1.symm.trans h.1) (by decide)
      · exact absurd (g.1.symm.trans h) (by decide)
      · exact absurd (g.1.symm.trans h.1) (by decide)
    · exfalso
      rcases h with h | h | h | h
      · exact absurd (g.1.symm.trans h) (by decide)
      · exact absurd (g.1.symm.trans h.1) (by decide)
      · exact absurd (g.1.symm.trans h) (by decide)
      · exact absurd (g.1.symm.trans h.1) (by decide)
    · exfalso
      rcases h with h | h | h | h
      · exact absurd (g.1.symm.trans h) (by decide)
      · exact absurd (g.1.symm.trans h.1) (by decide)
      · exact absurd (g.1.symm.trans h) (by decide)
      · exact absurd (g.1.symm.trans h.1) (by decide)
    · refine g.2.2.2.2.2.1 ?_
      rcases h with h | h | h | h
      · exact absurd (g.1.symm.trans h) (by decide)
      · exact Or.inl h.2
      · exact absurd (g.1.symm.trans h) (by decide)
      · exact Or.inr h.2
  · rw [t2]
    rcases (show ty = 0 ∨ ty = 1 ∨ ty = 2 by omega) with e | e | e <;> rw [e]
    · exact Or.inl rfl
    · exact Or.inr (Or.inl rfl)
    · exact Or.inr (Or.inr rfl)
/-- a target without a TYPE is a fault at its NAME, or a formal without SPEC -/
theorem tyP_0 (hT : TBM kd wr nm vv m Cf TK SL fA fM) (hs : ∀ s ∈ stk, s < Cf 2) (h7 : gi fM 7 x = 3 ∨ gi fM 7 x = 4) (h : tyP fM (luN nm TK SL stk) p 0 x = 0) : (∃ k : Int32, (nd fM 12 x, k) ∈ FLX fM (luN nm TK SL stk) p (K + 1) 1 x 0) ∨ (luN nm TK SL stk (nd fM 12 x) ≠ 0 ∧ FO fM (luN nm TK SL stk (nd fM 12 x) - 1) 0) := by
  generalize hl : luN nm TK SL stk (nd fM 12 x) = l at h ⊢
  have hin : l ≠ 0 → l - 1 < Cf 1 := fun h0 => by
    rw [← hl] at h0 ⊢
    exact (lu_in hT hs h0).1
  unfold tyP at h
  rw [hl] at h
  rcases h7 with h7 | h7
  · rw [if_neg (by rw [h7]; decide)] at h
    unfold plT at h
    rw [flx1_3 h7, hl]
    by_cases c0 : l = 0
    · refine Or.inl ⟨2, List.mem_append_left _ ?_⟩
      unfold notD
      rw [if_pos c0]
      exact List.mem_singleton.mpr rfl
    rw [if_neg c0] at h
    have ty := (sym_ty hT (hin c0)).1
    by_cases c1 : gi fM 19 (l - 1) = 1 ∨ FO fM (l - 1) 1
    · rw [if_pos c1] at h
      exact absurd h (ty (c1.imp id Or.inl))
    rw [if_neg c1] at h
    by_cases c2 : (0 : Nat) = 0 ∧ gi fM 19 (l - 1) = 3 ∧ gi fM 20 (l - 1) ≠ 0 ∧ inPr fM (gi fM 24 (l - 1)) 9000 (Int32.ofNat p) = true
    · rw [if_pos c2] at h
      exact absurd h c2.2.2.1
    by_cases c3 : FO fM (l - 1) 0
    · exact Or.inr ⟨c0, c3⟩
    · refine Or.inl ⟨4, List.mem_append_right _ ?_⟩
      rw [if_neg (fun c => c.elim c0 c1), if_neg c2]
      unfold misS
      rw [if_neg c3]
      exact List.mem_singleton.mpr rfl
  · rw [if_pos h7] at h
    unfold tyE at h
    rw [flx1_4 h7 rfl]
    unfold elL
    rw [hl]
    by_cases c0 : l = 0
    · refine Or.inl ⟨2, List.mem_append_left _ (List.mem_append_left _ ?_)⟩
      unfold notD
      rw [if_pos c0]
      exact List.mem_singleton.mpr rfl
    rw [if_neg c0] at h
    have ty := (sym_ty hT (hin c0)).1
    by_cases c1 : gi fM 19 (l - 1) = 2 ∨ FO fM (l - 1) 2
    · rw [if_pos c1] at h
      exact absurd h (ty (Or.inr (Or.inr c1)))
    by_cases c3 : FO fM (l - 1) 0
    · exact Or.inr ⟨c0, c3⟩
    · refine Or.inl ⟨4, List.mem_append_right _ ?_⟩
      rw [if_neg c0, if_neg c1]
      unfold misS
      rw [if_neg c3]
      exact List.mem_singleton.mpr rfl
theorem difT_cm {a b : Int32} {tk : Nat} : difT a b tk = difT b a tk := by
  unfold difT
  by_cases c : a ≠ 0 ∧ b ≠ 0 ∧ a ≠ b
  · rw [if_pos c, if_pos ⟨c.2.1, c.1, fun e => c.2.2 e.symm⟩]
  · rw [if_neg c, if_neg (fun d => c ⟨d.2.1, d.1, fun e => d.2.2 e.symm⟩)]
/-- as TGA, but for the 21st VARIABLE -/
def TGB (fM : Wd) (lu : Nat → Nat) (cur K y : Nat) (T : Int32) : List Nat → List (Nat × Int32)
  | [] => FLX fM lu cur K 0 y 0 ++ difT T (TYX fM lu K y) (nd fM 12 y)
  | x :: r => FLX fM lu cur K 1 x 0 ++ difT T (tyP fM lu cur 0 x) (nd fM 12 x) ++ TGB fM lu cur K y T r
theorem tga_mem : ∀ (r : List Nat) (j : Nat), z ∈ TGA fM lu p K y T j r ↔ z ∈ TGB fM lu p K y T r ∨ ∃ i, j + i = 20 ∧ i < r.length ∧ z = (nd fM 12 (r.getD i 0), 5) := by
  intro r
  induction r with
  | nil => exact fun j => ⟨Or.inl, fun h => h.elim id (fun ⟨i, _, h, _⟩ => absurd h (by simp))⟩
  | cons x r ih =>
    intro j
    show z ∈ FLX fM lu p K 1 x 0 ++ difT T (tyP fM lu p 0 x) (nd fM 12 x) ++ (if j = 20 then [(nd fM 12 x, (5 : Int32))] else []) ++ TGA fM lu p K y T (j + 1) r ↔ z ∈ FLX fM lu p K 1 x 0 ++ difT T (tyP fM lu p 0 x) (nd fM 12 x) ++ TGB fM lu p K y T r ∨ _
    simp only [List.mem_append, ih]
    constructor
    · rintro ((h | h) | (h | ⟨i, h1, h2, h3⟩))
      · exact Or.inl (Or.inl h)
      · by_cases c : j = 20
        · rw [if_pos c] at h
          exact Or.inr ⟨0, by omega, by simp, List.mem_singleton.mp h⟩
        · rw [if_neg c] at h
          exact absurd h (by simp)
      · exact Or.inl (Or.inr h)
      · exact Or.inr ⟨i + 1, by omega, by rw [List.length_cons]; omega, by rw [List.getD_cons_succ]; exact h3⟩
    · rintro ((h | h) | ⟨i, h1, h2, h3⟩)
      · exact Or.inl (Or.inl h)
      · exact Or.inr (Or.inl h)
      · cases i with
        | zero =>
          refine Or.inl (Or.inr ?_)
          rw [if_pos (by omega)]
          rw [List.getD_cons_zero] at h3
          exact List.mem_singleton.mpr h3
        | succ i =>
          rw [List.getD_cons_succ] at h3
          rw [List.length_cons] at h2
          exact Or.inr (Or.inr ⟨i, by omega, by omega, h3⟩)
theorem tgf_b (h : t ≠ 0) : ∀ r : List Nat, TGF fM lu p K y t r = TGB fM lu p K y t r := by
  intro r
  induction r with
  | nil =>
    show FLX fM lu p K 0 y 0 ++ difT (TYX fM lu K y) t (nd fM 12 y) = _
    rw [difT_cm]
    rfl
  | cons x r ih =>
    show FLX fM lu p K 1 x 0 ++ difT (tyP fM lu p 0 x) t (nd fM 12 x) ++ TGF fM lu p K y (if t = 0 then tyP fM lu p 0 x else t) r = _
    rw [difT_cm, if_neg h, ih]
    rfl
theorem tgf_0 : ∀ (r : List Nat) (t : Int32), (z ∈ TGB fM lu p K y 0 r → z ∈ TGF fM lu p K y t r) ∧ (z ∈ TGF fM lu p K y t r → z ∈ TGB fM lu p K y 0 r ∨ ∃ tk, (tk = nd fM 12 y ∨ ∃ v ∈ r, tk = nd fM 12 v) ∧ z = (tk, 4)) := by
  have d0 : ∀ (b : Int32) (tk : Nat), difT 0 b tk = [] := fun b tk => if_neg (fun c => c.1 rfl)
  have d4 : ∀ (a b : Int32) (tk : Nat), z ∈ difT a b tk → z = (tk, 4) := fun a b tk h => by
    unfold difT at h
    split at h
    · exact List.mem_singleton.mp h
    · exact absurd h (by simp)
  intro r
  induction r with
  | nil =>
    intro t
    show (z ∈ FLX fM lu p K 0 y 0 ++ difT 0 (TYX fM lu K y) (nd fM 12 y) → z ∈ FLX fM lu p K 0 y 0 ++ difT (TYX fM lu K y) t (nd fM 12 y)) ∧ (z ∈ FLX fM lu p K 0 y 0 ++ difT (TYX fM lu K y) t (nd fM 12 y) → z ∈ FLX fM lu p K 0 y 0 ++ difT 0 (TYX fM lu K y) (nd fM 12 y) ∨ _)
    rw [d0, List.append_nil]
    refine ⟨fun h => List.mem_append_left _ h, fun h => ?_⟩
    rcases List.mem_append.mp h with h | h
    · exact Or.inl h
    · exact Or.inr ⟨_, Or.inl rfl, d4 _ _ _ h⟩
  | cons x r ih =>
    intro t
    obtain ⟨i1, i2⟩ := ih (if t = 0 then tyP fM lu p 0 x else t)
    show (z ∈ FLX fM lu p K 1 x 0 ++ difT 0 (tyP fM lu p 0 x) (nd fM 12 x) ++ TGB fM lu p K y 0 r → z ∈ FLX fM lu p K 1 x 0 ++ difT (tyP fM lu p 0 x) t (nd fM 12 x) ++ TGF fM lu p K y (if t = 0 then tyP fM lu p 0 x else t) r) ∧ (z ∈ FLX fM lu p K 1 x 0 ++ difT (tyP fM lu p 0 x) t (nd fM 12 x) ++ TGF fM lu p K y (if t = 0 then tyP fM lu p 0 x else t) r → z ∈ FLX fM lu p K 1 x 0 ++ difT 0 (tyP fM lu p 0 x) (nd fM 12 x) ++ TGB fM lu p K y 0 r ∨ _)
    rw [d0, List.append_nil]
    refine ⟨fun h => ?_, fun h => ?_⟩
    · rcases List.mem_append.mp h with h | h
      · exact List.mem_append_left _ (List.mem_append_left _ h)
      · exact List.mem_append_right _ (i1 h)
    · rcases List.mem_append.mp h with h | h
      · rcases List.mem_append.mp h with h | h
        · exact Or.inl (List.mem_append_left _ h)
        · exact Or.inr ⟨_, Or.inr ⟨x, List.mem_cons_self, rfl⟩, d4 _ _ _ h⟩
      · rcases i2 h with h | ⟨tk, h1, h2⟩
        · exact Or.inl (List.mem_append_right _ h)
        · exact Or.inr ⟨tk, h1.imp id fun ⟨v, v1, v2⟩ => ⟨v, List.mem_cons_of_mem _ v1, v2⟩, h2⟩
/-- an assignment -/
theorem asg_flr (hT : TBM kd wr nm vv m Cf TK SL fA fM) (hs : ∀ s ∈ stk, s < Cf 2) (h7 : gi fM 7 x = 3 ∨ gi fM 7 x = 4) (htk : ∀ tk, (tk = nd fM 12 y ∨ ∃ v ∈ xs, tk = nd fM 12 v) → wr (nd fM 12 x) < wr tk) (hF0 : luN nm TK SL stk (nd fM 12 x) ≠ 0 → FO fM (luN nm TK SL stk (nd fM 12 x) - 1) 0 → ∀ tk (k : Int32), wr (nd fM 12 x) < wr tk → dmP wr q0 (tk, k)) (h20 : 20 ≤ xs.length → dmP wr q0 (nd fM 12 (xs.getD 19 0), 5)) : FLR wr q0 (FLX fM (luN nm TK SL stk) p (K + 1) 1 x 0 ++ TGA fM (luN nm TK SL stk) p (K + 1) y (tyP fM (luN nm TK SL stk) p 0 x) 1 xs) (TGF fM (luN nm TK SL stk) p (K + 1) y 0 (x :: xs)) := by
  have e1 : TGF fM (luN nm TK SL stk) p (K + 1) y 0 (x :: xs) = FLX fM (luN nm TK SL stk) p (K + 1) 1 x 0 ++ TGF fM (luN nm TK SL stk) p (K + 1) y (tyP fM (luN nm TK SL stk) p 0 x) xs := by
    show FLX fM (luN nm TK SL stk) p (K + 1) 1 x 0 ++ difT (tyP fM (luN nm TK SL stk) p 0 x) 0 (nd fM 12 x) ++ TGF fM (luN nm TK SL stk) p (K + 1) y (if (0 : Int32) = 0 then tyP fM (luN nm TK SL stk) p 0 x else 0) xs = _
    rw [if_pos rfl, show difT (tyP fM (luN nm TK SL stk) p 0 x) 0 (nd fM 12 x) = [] from if_neg (fun c => c.2.1 rfl), List.append_nil]
  have hz : ∀ z, z ∈ TGA fM (luN nm TK SL stk) p (K + 1) y (tyP fM (luN nm TK SL stk) p 0 x) 1 xs → z ∈ TGB fM (luN nm TK SL stk) p (K + 1) y (tyP fM (luN nm TK SL stk) p 0 x) xs ∨ dmP wr q0 z := fun z h => by
    rcases (tga_mem xs 1).mp h with h | ⟨i, i1, i2, i3⟩
    · exact Or.inl h
    · have : i = 19 := by omega
      subst this
      rw [i3]
      exact Or.inr (h20 (by omega))
  rw [e1]
  intro h0
  by_cases ca : tyP fM (luN nm TK SL stk) p 0 x = 0
  · rw [ca] at h0 hz ⊢
    refine ⟨fun z hz' => ?_, fun z hz' => ?_⟩
    · have hin : z ∈ FLX fM (luN nm TK SL stk) p (K + 1) 1 x 0 ∨ z ∈ TGB fM (luN nm TK SL stk) p (K + 1) y 0 xs → z ∈ FLX fM (luN nm TK SL stk) p (K + 1) 1 x 0 ++ TGA fM (luN nm TK SL stk) p (K + 1) y 0 1 xs := fun h => h.elim (fun h => List.mem_append_left _ h) (fun h => List.mem_append_right _ ((tga_mem xs 1).mpr (Or.inl h)))
      have hgo : (z ∈ FLX fM (luN nm TK SL stk) p (K + 1) 1 x 0 ∨ z ∈ TGB fM (luN nm TK SL stk) p (K + 1) y 0 xs) ∨ ∃ tk, (tk = nd fM 12 y ∨ ∃ v ∈ xs, tk = nd fM 12 v) ∧ z = (tk, 4) := by
        rcases List.mem_append.mp hz' with h | h
        · exact Or.inl (Or.inl h)
        · exact ((tgf_0 xs 0).2 h).imp Or.inr id
      rcases hgo with h | ⟨tk, k1, k2⟩
      · exact ⟨h0 z (hin h), Or.inr ⟨z, hin h, dmF.rf⟩⟩
      · have hw := htk tk k1
        refine ⟨by rw [k2]; show (4 : Int32) ≠ 0; decide, ?_⟩
        rcases tyP_0 (K := K) (p := p) hT hs h7 ca with ⟨k, g⟩ | ⟨g1, g2⟩
        · exact Or.inr ⟨_, List.mem_append_left _ g, by rw [k2]; exact Or.inl hw⟩
        · rw [k2]
          exact Or.inl (hF0 g1 g2 tk 4 hw)
    · rcases List.mem_append.mp hz' with h | h
      · exact Or.inr ⟨z, List.mem_append_left _ h, dmF.rf⟩
      · rcases hz z h with h | h
        · exact Or.inr ⟨z, List.mem_append_right _ ((tgf_0 xs 0).1 h), dmF.rf⟩
        · exact Or.inl h
  · rw [tgf_b ca]
    refine ⟨fun z hz' => ?_, fun z hz' => ?_⟩
    · have hin : z ∈ FLX fM (luN nm TK SL stk) p (K + 1) 1 x 0 ++ TGA fM (luN nm TK SL stk) p (K + 1) y (tyP fM (luN nm TK SL stk) p 0 x) 1 xs := by
        rcases List.mem_append.mp hz' with h | h
        · exact List.mem_append_left _ h
        · exact List.mem_append_right _ ((tga_mem xs 1).mpr (Or.inl h))
      exact ⟨h0 z hin, Or.inr ⟨z, hin, dmF.rf⟩⟩
    · rcases List.mem_append.mp hz' with h | h
      · exact Or.inr ⟨z, List.mem_append_left _ h, dmF.rf⟩
      · rcases hz z h with h | h
        · exact Or.inr ⟨z, List.mem_append_right _ h, dmF.rf⟩
        · exact Or.inl h
/-- ELEMENTS of a for, as sets -/
theorem elf_mem {xx : FEL} {lev cur : Nat} (h : feS kd wr m fM lu lev cur K xx) : z ∈ elFc fM lu p K xx.1 ↔ z ∈ mbL fM lu p K xx.2.2.1.1 1 ∨ xx.2.1 = 1 ∧ z ∈ mbL fM lu p K xx.2.2.2.1.1 2 ∨ 2 ≤ xx.2.1 ∧ (z ∈ mbL fM lu p K xx.2.2.2.1.1 1 ∨ z ∈ mbL fM lu p K xx.2.2.2.2.1 1) := by
  obtain ⟨a1, a2, hk⟩ := h
  have e8 : nd fM 8 xx.1 = xx.2.2.1.1 := by unfold nd; rw [a1, tc_iN (by have := a2.1; omega)]
  unfold elFc
  rw [List.mem_append, e8]
  rcases hk with ⟨k1, k2⟩ | ⟨k1, k2, k3, k4⟩ | ⟨k1, k2, k3, k4, k5, k6⟩
  · rw [if_pos k2]
    exact ⟨fun h => h.elim Or.inl (fun h => absurd h (by simp)), fun h => h.elim Or.inl (fun h => h.elim (fun h => absurd h.1 (by omega)) (fun h => absurd h.1 (by omega)))⟩
  · have e9 : nd fM 9 xx.1 = xx.2.2.2.1.1 := by unfold nd; rw [k3, tc_iN (by have := k4.1; omega)]
    rw [if_neg (by rw [k2]; decide), if_pos k2, e9]
    exact ⟨fun h => h.imp id (fun h => Or.inl ⟨k1, h⟩), fun h => h.imp id (fun h => h.elim (fun h => h.2) (fun h => absurd h.1 (by omega)))⟩
  · have e9 : nd fM 9 xx.1 = xx.2.2.2.1.1 := by unfold nd; rw [k3, tc_iN (by have := k4.1; omega)]
    have e10 : nd fM 10 xx.1 = xx.2.2.2.2.1 := by unfold nd; rw [k5, tc_iN (by have := k6.1; omega)]
    rw [if_neg (by rw [k2]; decide), if_neg (by rw [k2]; decide), e9, e10, List.mem_append]
    exact ⟨fun h => h.imp id (fun h => Or.inr ⟨by omega, h⟩), fun h => h.imp id (fun h => h.elim (fun h => absurd h.1 (by omega)) (fun h => h.2))⟩
theorem fes_mem {ty : Int32} {LT LR : List (Nat × Int32)} {lev cur : Nat} : ∀ l : List FEL, (∀ xx ∈ l, feS kd wr m fM lu lev cur K xx) → (z ∈ elsFc fM lu p K (l.map Prod.fst) → z ∈ fesL fM lu p K v ty LT LR l) ∧ (z ∈ fesL fM lu p K v ty LT LR l → z ∈ elsFc fM lu p K (l.map Prod.fst) ∨ z ∈ LT ∨ z ∈ LR ∨ ty = 2 ∧ z = (nd fM 12 v, 4)) := by
  intro l
  induction l with
  | nil => exact fun _ => ⟨fun h => absurd h (by show ¬ z ∈ ([] : List (Nat × Int32)); simp), fun h => absurd h (by show ¬ z ∈ ([] : List (Nat × Int32)); simp)⟩
  | cons xx r ih =>
    intro h
    obtain ⟨i1, i2⟩ := ih (fun c hc => h c (List.mem_cons_of_mem _ hc))
    have hx := elf_mem (z := z) (p := p) (h xx List.mem_cons_self)
    have e1 : elsFc fM lu p K ((xx :: r).map Prod.fst) = elFc fM lu p K xx.1 ++ elsFc fM lu p K (r.map Prod.fst) := by
      show (xx.1 :: r.map Prod.fst).flatMap (elFc fM lu p K) = _
      rw [List.flatMap_cons]
      rfl
    have e2 : fesL fM lu p K v ty LT LR (xx :: r) = feL fM lu p K v ty LT LR xx ++ fesL fM lu p K v ty LT LR r := rfl
    have hty : z ∈ (if ty = 2 then [(nd fM 12 v, (4 : Int32))] else []) → ty = 2 ∧ z = (nd fM 12 v, 4) := fun h => by
      by_cases c : ty = 2
      · rw [if_pos c] at h
        exact ⟨c, List.mem_singleton.mp h⟩
      · rw [if_neg c] at h
        exact absurd h (by simp)
    have hst : ∀ w, z ∈ stL fM lu p K v w ty LT ↔ (z ∈ LT ∨ z ∈ (if ty = 2 then [(nd fM 12 v, (4 : Int32))] else [])) ∨ z ∈ mbL fM lu p K w 1 := fun w => by
      unfold stL
      rw [List.mem_append, List.mem_append]
    rw [e1, e2, List.mem_append, List.mem_append, hx]
    unfold feL
    refine ⟨fun g => ?_, fun g => ?_⟩
    · rcases g with g | g
      · left
        by_cases c0 : xx.2.1 = 0
        · rw [if_pos c0, hst]
          rcases g with g | g | g
          · exact Or.inr g
          · exact absurd g.1 (by omega)
          · exact absurd g.1 (by omega)
        · rw [if_neg c0]
          by_cases c1 : xx.2.1 = 1
          · rw [if_pos c1, List.mem_append, hst]
            rcases g with g | g | g
            · exact Or.inl (Or.inr g)
            · exact Or.inr g.2
            · exact absurd g.1 (by omega)
          · rw [if_neg c1]
            simp only [List.mem_append, hst]
            rcases g with g | g | g
            · simp [g]
            · exact absurd g.1 (by omega)
            · rcases g.2 with g | g <;> simp [g]
      · exact Or.inr (i1 g)
    · rcases g with g | g
      · by_cases c0 : xx.2.1 = 0
        · rw [if_pos c0, hst] at g
          rcases g with (g | g) | g
          · exact Or.inr (Or.inl g)
          · exact Or.inr (Or.inr (Or.inr (hty g)))
          · exact Or.inl (Or.inl (Or.inl g))
        · rw [if_neg c0] at g
          by_cases c1 : xx.2.1 = 1
          · rw [if_pos c1, List.mem_append, hst] at g
            rcases g with ((g | g) | g) | g
            · exact Or.inr (Or.inl g)
            · exact Or.inr (Or.inr (Or.inr (hty g)))
            · exact Or.inl (Or.inl (Or.inl g))
            · exact Or.inl (Or.inl (Or.inr (Or.inl ⟨c1, g⟩)))
          · rw [if_neg c1] at g
            simp only [List.mem_append, hst] at g
            rcases g with ((((((g | g) | g) | g) | g) | g) | g) | g
            · exact Or.inr (Or.inl g)
            · exact Or.inr (Or.inr (Or.inr (hty g)))
            · exact Or.inl (Or.inl (Or.inl g))
            · exact Or.inl (Or.inl (Or.inr (Or.inr ⟨by omega, Or.inl g⟩)))
            · exact Or.inr (Or.inl g)
            · exact Or.inr (Or.inr (Or.inl g))
            · exact Or.inr (Or.inr (Or.inl g))
            · exact Or.inl (Or.inl (Or.inr (Or.inr ⟨by omega, Or.inr g⟩)))
      · exact (i2 g).imp Or.inr id
theorem fes_LT {ty : Int32} {LT LR : List (Nat × Int32)} {l : List FEL} (hl : l ≠ []) (h : z ∈ LT ∨ ty = 2 ∧ z = (nd fM 12 v, 4)) : z ∈ fesL fM lu p K v ty LT LR l := by
  cases l with
  | nil => exact absurd rfl hl
  | cons xx r =>
    show z ∈ feL fM lu p K v ty LT LR xx ++ _
    have hs : z ∈ stL fM lu p K v xx.2.2.1.1 ty LT := by
      unfold stL
      rw [List.mem_append, List.mem_append]
      refine Or.inl (h.imp id fun h => ?_)
      rw [if_pos h.1]
      exact List.mem_singleton.mpr h.2
    refine List.mem_append_left _ ?_
    unfold feL
    split
    · exact hs
    · split
      · exact List.mem_append_left _ hs
      · simp only [List.mem_append, hs, true_or]
/-- a for with a NAME -/
theorem for_flrn {l : List FEL} {lev cur : Nat} (hT : TBM kd wr nm vv m Cf TK SL fA fM) (hs : ∀ s ∈ stk, s < Cf 2) (h7 : gi fM 7 x = 3) (h12 : nd fM 12 x = s) (hl : l ≠ []) (hS : ∀ xx ∈ l, feS kd wr m fM (luN nm TK SL stk) lev cur (K + 1) xx) (hx : l.map Prod.fst = xs) : FLR wr q0 (FLX fM (luN nm TK SL stk) p (K + 1) 1 x 1 ++ difT 1 (tyP fM (luN nm TK SL stk) p 1 x) s ++ elsFc fM (luN nm TK SL stk) p (K + 1) xs) (fesL fM (luN nm TK SL stk) p (K + 1) x (plT fM p 1 (luN nm TK SL stk s)) (FLX fM (luN nm TK SL stk) p (K + 1) 1 x 1) (flY fM (luN nm TK SL stk s) s) l) := by
  have ety : tyP fM (luN nm TK SL stk) p 1 x = plT fM p 1 (luN nm TK SL stk s) := by
    unfold tyP
    rw [if_neg (by rw [h7]; decide), h12]
  rw [ety]
  have hin : luN nm TK SL stk s ≠ 0 → luN nm TK SL stk s - 1 < Cf 1 := fun h0 => (lu_in hT hs h0).1
  have hLT : FLX fM (luN nm TK SL stk) p (K + 1) 1 x 1 = notD (luN nm TK SL stk s) s ++ (if luN nm TK SL stk s = 0 ∨ gi fM 19 (luN nm TK SL stk s - 1) = 1 ∨ FO fM (luN nm TK SL stk s - 1) 1 then [] else if (1 : Nat) = 0 ∧ gi fM 19 (luN nm TK SL stk s - 1) = 3 ∧ gi fM 20 (luN nm TK SL stk s - 1) ≠ 0 ∧ inPr fM (gi fM 24 (luN nm TK SL stk s - 1)) 9000 (Int32.ofNat p) = true then [] else misS fM (luN nm TK SL stk s) s) := by
    rw [flx1_3 h7, h12]
  generalize luN nm TK SL stk s = y at hin hLT ⊢
  have hdif : ∀ z, z ∈ difT 1 (plT fM p 1 y) s ↔ plT fM p 1 y = 2 ∧ z = (s, 4) := fun z => by
    unfold difT
    have h3 : plT fM p 1 y = 0 ∨ plT fM p 1 y = 1 ∨ plT fM p 1 y = 2 := by
      unfold plT
      by_cases c0 : y = 0
      · rw [if_pos c0]; exact Or.inl rfl
      · rw [if_neg c0]
        have := (sym_ty hT (hin c0)).2
        split
        · exact this
        · split
          · exact this
          · exact Or.inl rfl
    rcases h3 with e | e | e <;> rw [e]
    · exact ⟨fun h => absurd h (by simp), fun h => absurd h.1 (by decide)⟩
    · exact ⟨fun h => absurd h (by simp), fun h => absurd h.1 (by decide)⟩
    · rw [if_pos (by decide)]
      exact ⟨fun h => ⟨rfl, List.mem_singleton.mp h⟩, fun h => List.mem_singleton.mpr h.2⟩
  have hfl : ∀ z, z ∈ flY fM y s → ∃ w ∈ FLX fM (luN nm TK SL stk) p (K + 1) 1 x 1, dmF wr w z ∧ (z.2 = 2 ∨ z.2 = 4 ∨ z.2 = 5) := fun z hz => by
    unfold flY at hz
    rw [hLT]
    by_cases c0 : y = 0
    · rw [if_pos c0] at hz
      refine ⟨(s, 2), List.mem_append_left _ ?_, ?_⟩
      · unfold notD; rw [if_pos c0]; exact List.mem_singleton.mpr rfl
      · rw [List.mem_singleton.mp hz]; exact ⟨dmF.rf, Or.inl rfl⟩
    rw [if_neg c0] at hz
    by_cases c1 : gi fM 19 (y - 1) = 1 ∨ FO fM (y - 1) 1
    · rw [if_pos c1] at hz; exact absurd hz (by simp)
    rw [if_neg c1] at hz
    have hmis : ¬ FO fM (y - 1) 0 → (s, (4 : Int32)) ∈ notD y s ++ (if y = 0 ∨ gi fM 19 (y - 1) = 1 ∨ FO fM (y - 1) 1 then [] else if (1 : Nat) = 0 ∧ gi fM 19 (y - 1) = 3 ∧ gi fM 20 (y - 1) ≠ 0 ∧ inPr fM (gi fM 24 (y - 1)) 9000 (Int32.ofNat p) = true then [] else misS fM y s) := fun h0 => by
      refine List.mem_append_right _ ?_
      rw [if_neg (fun c => c.elim c0 c1), if_neg (fun c => absurd c.1 (by decide))]
      unfold misS
      rw [if_neg h0]
      exact List.mem_singleton.mpr rfl
    by_cases c3 : gi fM 19 (y - 1) = 3 ∨ FO fM (y - 1) 3
    · rw [if_pos c3] at hz
      have h0 : ¬ FO fM (y - 1) 0 := fun h => c3.elim (fun c => absurd (c.symm.trans h.1) (by decide)) (fun c => absurd (c.2.symm.trans h.2) (by decide))
      refine ⟨(s, 4), hmis h0, ?_⟩
      split at hz
      · rw [List.mem_singleton.mp hz]; exact ⟨dmF.rf, Or.inr (Or.inl rfl)⟩
      · split at hz
        · rw [List.mem_singleton.mp hz]; exact ⟨Or.inr ⟨rfl, by show (4 : Int32) ≤ 5; decide⟩, Or.inr (Or.inr rfl)⟩
        · exact absurd hz (by simp)
    · rw [if_neg c3] at hz
      by_cases c4 : FO fM (y - 1) 0
      · rw [if_pos c4] at hz; exact absurd hz (by simp)
      · rw [if_neg c4] at hz
        exact ⟨(s, 4), hmis c4, by rw [List.mem_singleton.mp hz]; exact ⟨dmF.rf, Or.inr (Or.inl rfl)⟩⟩
  intro h0
  refine ⟨fun z hz => ?_, fun z hz => ?_⟩
  · obtain ⟨_, i2⟩ := fes_mem (z := z) (p := p) (v := x) (ty := plT fM p 1 y) (LT := FLX fM (luN nm TK SL stk) p (K + 1) 1 x 1) (LR := flY fM y s) l hS
    rw [hx] at i2
    have key : z ∈ (FLX fM (luN nm TK SL stk) p (K + 1) 1 x 1 ++ difT 1 (plT fM p 1 y) s ++ elsFc fM (luN nm TK SL stk) p (K + 1) xs) ∨ z ∈ flY fM y s := by
      rcases i2 hz with h | h | h | h
      · exact Or.inl (List.mem_append_right _ h)
      · exact Or.inl (List.mem_append_left _ (List.mem_append_left _ h))
      · exact Or.inr h
      · rw [h12] at h
        exact Or.inl (List.mem_append_left _ (List.mem_append_right _ ((hdif z).mpr h)))
    rcases key with h | h
    · exact ⟨h0 z h, Or.inr ⟨z, h, dmF.rf⟩⟩
    · obtain ⟨w, w1, w2, w3⟩ := hfl z h
      refine ⟨?_, Or.inr ⟨w, List.mem_append_left _ (List.mem_append_left _ w1), w2⟩⟩
      rcases w3 with e | e | e <;> rw [e] <;> decide
  · right
    refine ⟨z, ?_, dmF.rf⟩
    rcases List.mem_append.mp hz with h | h
    · rcases List.mem_append.mp h with h | h
      · exact fes_LT hl (Or.inl h)
      · have := (hdif z).mp h
        exact fes_LT hl (Or.inr ⟨this.1, by rw [h12]; exact this.2⟩)
    · rw [← hx] at h
      exact (fes_mem l hS).1 h
/-- a for with an ELEMENT -/
theorem for_flre {l : List FEL} {lev cur : Nat} (hT : TBM kd wr nm vv m Cf TK SL fA fM) (hs : ∀ s ∈ stk, s < Cf 2) (h7 : gi fM 7 x = 4) (h12 : nd fM 12 x = s) (hl : l ≠ []) (hS : ∀ xx ∈ l, feS kd wr m fM (luN nm TK SL stk) lev cur (K + 1) xx) (hx : l.map Prod.fst = xs) : FLR wr q0 (FLX fM (luN nm TK SL stk) p (K + 2) 1 x 1 ++ difT 1 (tyP fM (luN nm TK SL stk) p 1 x) s ++ elsFc fM (luN nm TK SL stk) p (K + 1) xs) (elF fM (luN nm TK SL stk) p (K + 1) x ++ fesL fM (luN nm TK SL stk) p (K + 1) x (tyE fM (luN nm TK SL stk (nd fM 12 x))) [] [] l) := by
  have ety : tyP fM (luN nm TK SL stk) p 1 x = tyE fM (luN nm TK SL stk (nd fM 12 x)) := by
    unfold tyP
    rw [if_pos h7]
  have hLT : FLX fM (luN nm TK SL stk) p (K + 2) 1 x 1 = elF fM (luN nm TK SL stk) p (K + 1) x := flx1_4 h7 rfl
  rw [ety, hLT]
  have hin : luN nm TK SL stk (nd fM 12 x) ≠ 0 → luN nm TK SL stk (nd fM 12 x) - 1 < Cf 1 := fun h0 => (lu_in hT hs h0).1
  generalize luN nm TK SL stk (nd fM 12 x) = y at hin ⊢
  have hdif : ∀ z, z ∈ difT 1 (tyE fM y) s ↔ tyE fM y = 2 ∧ z = (s, 4) := fun z => by
    unfold difT
    have h3 : tyE fM y = 0 ∨ tyE fM y = 1 ∨ tyE fM y = 2 := by
      unfold tyE
      by_cases c0 : y = 0
      · rw [if_pos c0]; exact Or.inl rfl
      · rw [if_neg c0]
        have := (sym_ty hT (hin c0)).2
        split
        · exact this
        · exact Or.inl rfl
    rcases h3 with e | e | e <;> rw [e]
    · exact ⟨fun h => absurd h (by simp), fun h => absurd h.1 (by decide)⟩
    · exact ⟨fun h => absurd h (by simp), fun h => absurd h.1 (by decide)⟩
    · rw [if_pos (by decide)]
      exact ⟨fun h => ⟨rfl, List.mem_singleton.mp h⟩, fun h => List.mem_singleton.mpr h.2⟩
  intro h0
  refine ⟨fun z hz => ?_, fun z hz => ?_⟩
  · obtain ⟨_, i2⟩ := fes_mem (z := z) (p := p) (v := x) (ty := tyE fM y) (LT := []) (LR := []) l hS
    rw [hx] at i2
    have key : z ∈ (elF fM (luN nm TK SL stk) p (K + 1) x ++ difT 1 (tyE fM y) s ++ elsFc fM (luN nm TK SL stk) p (K + 1) xs) := by
      rcases List.mem_append.mp hz with hz | hz
      · exact List.mem_append_left _ (List.mem_append_left _ hz)
      · rcases i2 hz with h | h | h | h
        · exact List.mem_append_right _ h
        · exact absurd h (by simp)
        · exact absurd h (by simp)
        · rw [h12] at h
          exact List.mem_append_left _ (List.mem_append_right _ ((hdif z).mpr h))
    exact ⟨h0 z key, Or.inr ⟨z, key, dmF.rf⟩⟩
  · right
    refine ⟨z, ?_, dmF.rf⟩
    rcases List.mem_append.mp hz with h | h
    · rcases List.mem_append.mp h with h | h
      · exact List.mem_append_left _ h
      · have := (hdif z).mp h
        exact List.mem_append_right _ (fes_LT hl (Or.inr ⟨this.1, by rw [h12]; exact this.2⟩))
    · rw [← hx] at h
      exact List.mem_append_right _ ((fes_mem l hS).1 h)
end QI8
