/-! A WALK: TOKENS and nodes of STATEMENTS and DECLS in a row -/
section PH7
variable {kd : Nat → Nat} {fA fM : Wd} {W : PSTT} {d p sg : Nat} {stk : List Nat} {r : PRL}
/-- STATEMENTS within go on -/
def WTP (W : PSTT) : Prop := ∀ d s e n stk prs q q' C C', W d s e n stk prs q q' C C' → s ≤ e ∧ LEC C C' ∧ C 0 ≤ n ∧ n < C' 0
theorem sts_tp (hW : WTP W) : ∀ (xs : List Nat) (s e q q' : Nat) (C C' : CV), STSX kd fM W d stk p sg r xs s e q q' C C' → s ≤ e ∧ LEC C C' ∧ (∀ x ∈ xs, C 0 ≤ x ∧ x < C' 0) ∧ (C' 0 ≤ 24000 → nxC fM xs (Int32.ofNat (xs.headD 0))) ∧ xs.length + s ≤ e + 1 ∧ kd e ≠ 41 := by
  intro xs
  induction xs with
  | nil => exact fun _ _ _ _ _ _ h => h.elim
  | cons x xr ih =>
    intro s e q q' C C' h
    cases xr with
    | nil =>
      obtain ⟨h1, h2, h3⟩ := h
      obtain ⟨g1, g2, g3, g4⟩ := hW _ _ _ _ _ _ _ _ _ _ h1
      refine ⟨g1, g2, fun y hy => ?_, fun hc => ⟨rfl, by omega, h2⟩, by show 1 + s ≤ e + 1; omega, h3⟩
      rw [List.mem_singleton] at hy
      subst hy
      exact ⟨g3, g4⟩
    | cons y yr =>
      obtain ⟨e1, q1, C1, h1, h2, h3, h4⟩ := h
      obtain ⟨g1, g2, g3, g4⟩ := hW _ _ _ _ _ _ _ _ _ _ h1
      obtain ⟨k1, k2, k3, k4, k5, k6⟩ := ih _ _ _ _ _ _ h4
      have l1 := k2 0
      have l2 := g2 0
      refine ⟨by omega, fun i => Nat.le_trans (g2 i) (k2 i), fun z hz => ?_, fun hc => ⟨rfl, by omega, by rw [h3]; exact k4 hc⟩, ?_, k6⟩
      · rcases List.mem_cons.mp hz with rfl | hz
        · omega
        · have := k3 z hz
          omega
      · have : (x :: y :: yr).length = (y :: yr).length + 1 := rfl
        omega
def hdA : List Nat → Int32
  | [] => -1
  | x :: _ => Int32.ofNat x
theorem LEC.upD {C : CV} {i v : Nat} : LEC C (upD C i v) := upC_le (by omega)
theorem LEC.tr3 {C C1 C2 : CV} (h : LEC C C1) (g : LEC C1 C2) : LEC C C2 := fun i => Nat.le_trans (h i) (g i)
theorem dcl_tp (hW : WTP W) {out : Int32} {s e sg sg' q q' : Nat} {an : Option Nat} {C C' : CV} (h : DCLX kd fA fM W d stk out p r s e sg sg' q q' an C C') : s + 1 ≤ e ∧ LEC C C' ∧ ∀ x, an = some x → C 0 ≤ x ∧ x < C' 0 := by
  rcases h with ⟨s1, j, ty, own, h1, _, _, _, h5, _, h7, h8, _, _, h0, h1'⟩ | ⟨s1, ty, j, n, xs, e1, b, h1, h2, _, _, h5, h6, _, _, _, _, _, h12, h13, _, h15, _, h17, _, _, _, _, hC⟩ | ⟨_, _, _, _, h5, _, ⟨xs, _, h8⟩, _, _, _, hC⟩ | ⟨s1, ty, pn, nf, W0, sb, nb, q1, h1, _, _, _, _, _, _, _, _, _, _, _, _, _, _, _, h17, h18, _, _, _, _, _, _, _, _, _, h28, _⟩
  · refine ⟨by omega, ?_, fun x hx => by rw [h8] at hx; exact absurd hx (by simp)⟩
    by_cases c : own = 0
    · rw [(h0 c).2.2]; exact LEC.upD
    · rw [(h1' (by omega)).2.2]; exact LEC.upD.tr3 LEC.upD
  · obtain ⟨b', rfl⟩ : ∃ b', b = b' + 1 := ⟨b - 1, by omega⟩
    have hlt := bd_lt b' xs (n + 1) (s1 + 2 * j) h12 h15
    refine ⟨by omega, ?_, fun x hx => ?_⟩
    · rw [hC]
      refine LEC.upD.tr3 (upC_le ?_)
      rw [upD_n (by omega)]; omega
    · rw [h6] at hx
      have : n = x := Option.some.inj hx
      omega
  · have hlt := aims_lt _ _ _ h8
    refine ⟨by omega, ?_, fun x hx => by rw [h5] at hx; exact absurd hx (by simp)⟩
    rw [hC]
    refine LEC.upD.tr3 (upC_le ?_)
    rw [upD_n (by omega)]; omega
  · obtain ⟨g1, g2, g3, g4⟩ := hW _ _ _ _ _ _ _ _ _ _ h28
    refine ⟨by omega, (((LEC.upD.tr3 LEC.upD).tr3 LEC.upD).tr3 LEC.upD).tr3 g2, fun x hx => by rw [h18] at hx; exact absurd hx (by simp)⟩
theorem dcs_tp (hW : WTP W) {out : Int32} : ∀ (j s e sg sg' q q' : Nat) (al : List Nat) (C C' : CV), DCSX kd fA fM W d stk out p r j s e sg sg' q q' al C C' → j + s ≤ e ∧ LEC C C' ∧ (∀ x ∈ al, C 0 ≤ x ∧ x < C' 0) ∧ (C' 0 ≤ 24000 → nxC fM al (hdA al)) := by
  intro j
  induction j with
  | zero =>
    intro s e sg sg' q q' al C C' ⟨h1, _, _, h4, h5, _⟩
    rw [h4, h5]
    exact ⟨by omega, LEC.rf, fun x hx => absurd hx (by simp), fun _ => rfl⟩
  | succ j ih =>
    intro s e sg sg' q q' al C C' ⟨e1, sg1, q1, C1, an, al1, h1, _, h3, h4, h5, h2⟩
    obtain ⟨g1, g2, g3⟩ := dcl_tp hW h1
    obtain ⟨k1, k2, k3, k4⟩ := ih _ _ _ _ _ _ _ _ _ h2
    have l1 := k2 0
    have l2 := g2 0
    refine ⟨by omega, g2.tr3 k2, ?_, ?_⟩
    · rw [h3]
      cases an with
      | none => exact fun x hx => by have := k3 x hx; omega
      | some x =>
        intro y hy
        rcases List.mem_cons.mp hy with rfl | hy
        · have := g3 y rfl; omega
        · have := k3 y hy; omega
    · rw [h3]
      cases an with
      | none => exact k4
      | some x =>
        intro hc
        have := g3 x rfl
        refine ⟨rfl, by omega, ?_⟩
        have hk := k4 hc
        cases al1 with
        | nil => exact h5 x rfl rfl
        | cons y l =>
          rw [h4 x y l rfl rfl]
          exact hk
theorem pst_tp : ∀ (k : Nat), WTP (PSTX kd fA fM k) := by
  intro k
  cases k with
  | zero => exact fun _ _ _ _ _ _ _ _ _ _ h => h.elim
  | succ k => exact fun _ _ _ _ _ _ _ _ _ _ h => h.2
end PH7
