/-! BOTH MACHINES: ACTUALS that aren't worked out -/
section KA0
theorem hdM_i {r r' : List Nat} (h : ∀ s ∈ r, s < 9000) (h' : ∀ s ∈ r', s < 9000) (e : hdM r = hdM r') : r = [] ∧ r' = [] ∨ ∃ s t t', r = s :: t ∧ r' = s :: t' := by
  cases r with
  | nil =>
    cases r' with
    | nil => exact Or.inl ⟨rfl, rfl⟩
    | cons s t =>
      have e : (-1 : Int32) = Int32.ofNat s := e
      have := h' s List.mem_cons_self
      exact absurd (show Int32.ofNat s < 0 by rw [← e]; decide) (nn_iN (by omega))
  | cons s t =>
    cases r' with
    | nil =>
      have e : Int32.ofNat s = (-1 : Int32) := e
      have := h s List.mem_cons_self
      exact absurd (show Int32.ofNat s < 0 by rw [e]; decide) (nn_iN (by omega))
    | cons s' t' =>
      have e : Int32.ofNat s = Int32.ofNat s' := e
      have h1 := h s List.mem_cons_self
      have h2 := h' s' List.mem_cons_self
      have := (eq_iN (by omega) (by omega)).mp e
      subst this
      exact Or.inr ⟨s, t, t', rfl, rfl⟩
/-- what's round a SCOPE -/
theorem UPM.uq {c : Nat} {w : Wd} (hc : c ≤ 9000) : ∀ {s : Nat} {r r' : List Nat}, UPM c w (s :: r) → UPM c w (s :: r') → r = r' := by
  intro s r
  induction r generalizing s with
  | nil =>
    intro r' h h'
    rcases hdM_i (fun s hs => by have := UPM.lt h.2.2 s hs; omega) (fun s hs => by have := UPM.lt h'.2.2 s hs; omega) (h.1.symm.trans h'.1) with z | ⟨s, t, t', z, _⟩
    · exact z.2.symm
    · exact absurd z (by simp)
  | cons s1 t ih =>
    intro r' h h'
    rcases hdM_i (fun s hs => by have := UPM.lt h.2.2 s hs; omega) (fun s hs => by have := UPM.lt h'.2.2 s hs; omega) (h.1.symm.trans h'.1) with z | ⟨s2, t2, t3, z1, z2⟩
    · exact absurd z.1 (by simp)
    · injection z1 with z3 z4
      subst z3
      subst z4
      subst z2
      rw [ih h.2.2 h'.2.2]
variable {E : SENV} {K : CXT} {Lim p nx a a1 b b1 h sp sc i el j S k n f ac y th a0 b0 : Nat} {x x1 : Int} {wA wM uA uM : Wd} {A B N : ACT} {F : Nat → Int64} {stk : List Nat}
/-- words of formals, one behind the other -/
def wsum (E : SENV) (ff : Nat) : Nat → Nat
  | 0 => 0
  | q + 1 => wsum E ff q + wdF E (ff + q)
/-- VALUEF of the formals i .. i + n - 1 -/
def VFC (E : SENV) (ff : Nat) : Nat → Nat → Nat → Nat → Prop
  | _, 0, c, c' => c' = c
  | i, n + 1, c, c' => if gi (vM E) 28 (ff + i) ≠ 0 then opW (dM E) c 18 (Int32.ofNat (sM E (ff + i))) 0 0 ∧ VFC E ff (i + 1) n (c + 1) c' else VFC E ff (i + 1) n c c'
/-- static: a procedure that's called -/
def PRF (E : SENV) (p : Nat) : Prop := ∃ nf ff c, (gi (dM E) 31 p = Int32.ofNat nf ∧ gi (dM E) 32 p = Int32.ofNat ff ∧ gi (vM E) 31 p = Int32.ofNat nf ∧ gi (vM E) 32 p = Int32.ofNat ff ∧ nf ≤ 8 ∧ ff + nf ≤ eNo E 5 2 ∧ nd (vM E) 29 p < eNo E 5 2) ∧
  (gl (cA E) 41 (eNo E 0 p) = Int64.ofNat (wsum E ff nf) ∧ gl (cA E) 41 (eNo E 0 p + 1) = Int64.ofNat (eNo E 1 p) ∧ eNo E 0 p + 1 < eNo E 5 0 ∧ 6 + wsum E ff nf ≤ eNo E 1 p ∧ eNo E 1 p ≤ 1690) ∧
  (gi (dM E) 35 p = Int32.ofNat (eNo E 3 p) ∧ 1 + 2 * nf ≤ eNo E 3 p ∧ eNo E 3 p ≤ eNo E 5 7 ∧ gi (dM E) 36 p = Int32.ofNat c ∧ VFC E ff 0 nf c (eNo E 8 p) ∧ eNo E 8 p ≤ 60000) ∧
  (∀ q, q < nf → gi (vM E) 19 (ff + q) = 6 ∧ gi (dM E) 26 (ff + q) = Int32.ofNat (1 + 2 * q) ∧ sM E (ff + q) = 1 + 2 * q ∧ sA E (ff + q) = 6 + wsum E ff q) ∧
  (eNo E 6 p < eNo E 5 6 ∧ own E (eNo E 6 p) p ∧ gi (vM E) 17 (eNo E 6 p) = -1 ∧ (∀ y ∈ eSL E (eNo E 6 p), ∃ q, q < nf ∧ y = ff + q) ∧ UPM (eNo E 5 6) (vM E) (eNo E 6 p :: eDS E p) ∧ (∀ s ∈ eDS E p, ¬ own E s p) ∧ (eDS E p).length < 8000 ∧ ∀ s r p', eDS E p = s :: r → own E s p' → p' < 1200 → eLV E p = eLV E p' + 1) ∧
  (gl (cA E) 41 (eNo E 7 p) = wdC 43 0 0 ∧ opW (dM E) (eNo E 9 p) 16 0 0 0 ∧ eNo E 7 p < eNo E 5 0 ∧ eNo E 9 p < 60000 ∧ eNo E 0 p + 2 ≤ eNo E 7 p)
/-- static: calls -/
def SCA (E : SENV) : Prop := eNo E 5 6 ≤ 9000 ∧ (∀ y, y < eNo E 5 2 → gi (vM E) 19 y = 3 → gl (cA E) 41 (y + 1) = Int64.ofNat (eNo E 0 (nd (vM E) 24 y))) ∧ (∀ y s, y < eNo E 5 2 → gi (vM E) 19 y = 3 → s < eNo E 5 6 → y ∈ eSL E s → ∃ r, eDS E (nd (vM E) 24 y) = s :: r ∧ UPM (eNo E 5 6) (vM E) (s :: r)) ∧ ∀ p, 1 ≤ p → p < eNo E 5 3 → PRF E p
/-- a procedure that a NAME is can be called from where it's declared -/
theorem FNW.cab (hS : SYS E) (hC : SCA E) (H : JS E K el a b h sp sc x i wA wM) {nn : Nat} (F : FNW E K A y j nn B) (h3 : gi (vM E) 19 y = 3) : ∃ p, gi (vM E) 24 y = Int32.ofNat p ∧ nd (vM E) 24 y = p ∧ p < 1200 ∧ 1 ≤ p ∧ p < eNo E 5 3 ∧ nd (vM E) 29 p = y ∧ gi (vM E) 29 p = Int32.ofNat y ∧ CAB E B p ∧ gl (cA E) 41 (y + 1) = Int64.ofNat (eNo E 0 p) := by
  obtain ⟨f1, f2, f3, f4, f5, f6, f7, f8, f9, f10, f11, s, f12, f13, f14⟩ := F
  obtain ⟨p, nf, ff, p1, p2, p3, p4, p5, p6, p7, p8, p9, p10, p11, p12, p13, p14, p15⟩ := hS.pf f1 h3
  obtain ⟨c1, c2, c3, c4⟩ := hC
  obtain ⟨_, _, _, _, _, _, _, u1, _⟩ := (H.act f2).2.2.2.2.2.2.2 f3
  obtain ⟨r, e1, e2⟩ := c3 y s f1 h3 (u1.lt s f12) f14
  rw [p4] at e1
  obtain ⟨r', hr⟩ := suf_in f12
  have := UPM.uq c1 e2 (u1.suf hr)
  subst this
  refine ⟨p, p3, p4, p13, p1, p2, by unfold nd; rw [p5]; exact tc_iN (by omega), p5, ⟨p1, p2, fun t ht => ?_, s, r, e1, f13⟩, ?_⟩
  · rw [e1] at ht
    exact hr.subset ht
  · have := c2 y f1 h3
    rw [p4] at this
    exact this
/-- .. where the reference has a cell -/
theorem JS.rmc (H : JS E K el a b h sp sc x i wA wM) {xx q : Nat} {t : Int32} {va vm : Int64} (hG : K.2.1 1 xx q t va vm) (hq : q < 300000) : gl wM 83 q = vm ∧ q < K.2.2 2 ∧ K.2.2 2 ≤ 199000 := by
  obtain ⟨hM, hD⟩ := H.mem
  obtain ⟨A', e1, e2, C, M⟩ := H.ck
  have m1 := (hM _ _ _ _ _ _ hG).2.2 (Or.inl rfl)
  have hmt := M.2.2.2.2.2.2.2.2.2.2.2.2.2.2.2.1
  unfold RMq at m1
  rw [if_pos (by omega)] at m1
  refine ⟨m1, ?_, hmt⟩
  rcases (hD.2.2 _ _ _ _ _ _ hG).2.2.1 (by omega) with z | z <;> omega
theorem FVL.f1 {as : List ACT} {G : GHO} {v1 v2 m1 m2 : Int64} (h : gi (vM E) 24 f = 1) (h28 : gi (vM E) 28 f = 0) (g : ∃ a t j B, as[j]? = some B ∧ aOn B ∧ v1 = Int64.ofNat a ∧ m1 = Int64.ofNat t ∧ v2 = Int64.ofNat (aF B) ∧ m2 = Int64.ofNat j ∧ THV E a t (gi (vM E) 20 f) B) : FVL E as G f v1 v2 m1 m2 := by
  refine ⟨fun _ g2 => absurd h28 g2, fun _ _ => g, fun e => ?_, fun e => ?_, fun e => ?_, fun e => ?_⟩ <;> rw [h] at e <;> exact absurd e (by decide)
theorem FVL.f2 {as : List ACT} {G : GHO} {v1 v2 m1 m2 : Int64} (h : gi (vM E) 24 f = 2) (g : ∃ x q nb, v1 = Int64.ofNat x ∧ m1 = Int64.ofNat q ∧ DESC G x q (gi (vM E) 20 f) nb) : FVL E as G f v1 v2 m1 m2 := by
  refine ⟨fun e => ?_, fun e => ?_, fun _ => g, fun e => ?_, fun e => ?_, fun e => ?_⟩ <;> rw [h] at e <;> exact absurd e (by decide)
theorem FVL.f3 {as : List ACT} {G : GHO} {v1 v2 m1 m2 : Int64} (h : gi (vM E) 24 f = 3) (g : ∃ p j B, as[j]? = some B ∧ aOn B ∧ v1 = Int64.ofNat (eNo E 0 p) ∧ m1 = Int64.ofNat p ∧ v2 = Int64.ofNat (aF B) ∧ m2 = Int64.ofNat j ∧ CAB E B p ∧ gi (vM E) 31 p = 0 ∧ gi (vM E) 20 (nd (vM E) 29 p) = gi (vM E) 20 f) : FVL E as G f v1 v2 m1 m2 := by
  refine ⟨fun e => ?_, fun e => ?_, fun e => ?_, fun _ => g, fun e => ?_, fun e => ?_⟩ <;> rw [h] at e <;> exact absurd e (by decide)
theorem FVL.f4 {as : List ACT} {G : GHO} {v1 v2 m1 m2 : Int64} (h : gi (vM E) 24 f = 4) (g : ∃ a t j B, as[j]? = some B ∧ aOn B ∧ v1 = Int64.ofNat a ∧ m1 = Int64.ofNat t ∧ v2 = Int64.ofNat (aF B) ∧ m2 = Int64.ofNat j ∧ THL E a t B) : FVL E as G f v1 v2 m1 m2 := by
  refine ⟨fun e => ?_, fun e => ?_, fun e => ?_, fun e => ?_, fun _ => g, fun e => ?_⟩ <;> rw [h] at e <;> exact absurd e (by decide)
theorem FVL.f5 {as : List ACT} {G : GHO} {v1 v2 m1 m2 : Int64} (h : gi (vM E) 24 f = 5) (g : ∃ k j B x, as[j]? = some B ∧ aOn B ∧ gl (cA E) 41 (k + 1) = Int64.ofNat x ∧ v1 = Int64.ofNat x ∧ m1 = Int64.ofNat k ∧ v2 = Int64.ofNat (aF B) ∧ m2 = Int64.ofNat j ∧ SWV E k B) : FVL E as G f v1 v2 m1 m2 := by
  refine ⟨fun e => ?_, fun e => ?_, fun e => ?_, fun e => ?_, fun e => ?_, fun _ => g⟩ <;> rw [h] at e <;> exact absurd e (by decide)
end KA0
