/-! PASS 2, THE REFERENCE: all that's done with a node of an EXPR -/
section SG
variable {kd wr nm : Nat → Nat} {vv : Nat → Int64} {m lev cur : Nat} {fA fM : Wd} {C TK : Nat → Nat} {SL : Nat → List Nat} {lu : Nat → Nat}
/-- node n, of T TOKENS; B: the calls that it needs -/
def ALN (kd wr : Nat → Nat) (m : Nat) (fM : Wd) (lu : Nat → Nat) (lev cur n T cn B : Nat) : Prop :=
  n < 24000 ∧ 1 ≤ T ∧ (∃ tk, gi fM 12 n = Int32.ofNat tk ∧ tk < m) ∧ (∀ K N, 4 * n + 1 ≤ K → B ≤ N → VS kd wr m fM lu lev cur K N n T) ∧ (∀ K N, 4 * n + 2 ≤ K → B + 1 ≤ N → LOS kd wr m fM lu lev cur K N n T) ∧ (∀ K N, 4 * n + 3 ≤ K → B + 2 ≤ N → AIS kd wr m fM lu lev cur K N n T) ∧
  (∀ K N f, 4 * n + 4 ≤ K → B + 4 ≤ N → f < 5000 → (∃ x, x ≤ 5 ∧ gi fM 24 f = Int32.ofNat x) → ACS kd wr m fM lu lev cur K N n f T) ∧ (cn = 3 → ∀ K N, 4 * n + 1 ≤ K → B ≤ N → NS kd wr m fM lu lev cur K N n T) ∧ (gi fM 7 n = 3 ∨ gi fM 7 n = 4 → ∀ K N f, f ≤ 1 → 4 * n + 1 ≤ K → B ≤ N → PS kd wr m fM lu lev cur K N n f T) ∧ (cn = 1 ∨ cn = 3)
theorem ALN.up {n T cn B B' : Nat} (h : ALN kd wr m fM lu lev cur n T cn B) (hb : B ≤ B') : ALN kd wr m fM lu lev cur n T cn B' := by
  obtain ⟨h1, h2, h3, h4, h5, h6, h7, h8, h9, h10⟩ := h
  exact ⟨h1, h2, h3, fun K N hK hN => h4 K N hK (by omega), fun K N hK hN => h5 K N hK (by omega), fun K N hK hN => h6 K N hK (by omega), fun K N f hK hN => h7 K N f hK (by omega), fun hc K N hK hN => h8 hc K N hK (by omega), fun hc K N f hf hK hN => h9 hc K N f hf hK (by omega), h10⟩
theorem aln_mk (hT : TBM kd wr nm vv m C TK SL fA fM) {n tk T cn B : Nat} {stk : List Nat} (hU : UPM (C 2) fM stk) (hl : stk.length < 9000) (hn : n < 24000) (hT1 : 1 ≤ T) (h12 : gi fM 12 n = Int32.ofNat tk) (ht : tk < m) (h45 : gi fM 45 n = Int32.ofNat cn) (hcn : cn = 1 ∨ cn = 3) (h3 : gi fM 7 n = 3 → gi fM 13 n = hdM stk ∧ kd tk = 2)
    (hV : ∀ K N, 4 * n + 1 ≤ K → B ≤ N → VS kd wr m fM (luN nm TK SL stk) lev cur K N n T) (hN : cn = 3 → ∀ K N, 4 * n + 1 ≤ K → B ≤ N → NS kd wr m fM (luN nm TK SL stk) lev cur K N n T) (hP : gi fM 7 n = 3 ∨ gi fM 7 n = 4 → ∀ K N f, f ≤ 1 → 4 * n + 1 ≤ K → B ≤ N → PS kd wr m fM (luN nm TK SL stk) lev cur K N n f T)
    (hA : ∀ K N, 4 * n + 2 ≤ K → B + 1 ≤ N → LOS kd wr m fM (luN nm TK SL stk) lev cur K N n T → AIS kd wr m fM (luN nm TK SL stk) lev cur (K + 1) (N + 1) n T) : ALN kd wr m fM (luN nm TK SL stk) lev cur n T cn B := by
  have hL : ∀ K N, 4 * n + 2 ≤ K → B + 1 ≤ N → LOS kd wr m fM (luN nm TK SL stk) lev cur K N n T := fun K N hK hNN => by
    obtain ⟨k, rfl⟩ : ∃ k, K = k + 1 := ⟨K - 1, by omega⟩
    obtain ⟨N1, rfl⟩ : ∃ N1, N = N1 + 1 := ⟨N - 1, by omega⟩
    refine ls_all hn hT1 (fun _ => hV k N1 (by omega) (by omega)) (fun h => hN ?_ k N1 (by omega) (by omega))
    rcases hcn with g | g
    · rw [h45, g] at h
      exact absurd rfl h
    · exact g
  have hAI : ∀ K N, 4 * n + 3 ≤ K → B + 2 ≤ N → AIS kd wr m fM (luN nm TK SL stk) lev cur K N n T := fun K N hK hNN => by
    obtain ⟨k, rfl⟩ : ∃ k, K = k + 1 := ⟨K - 1, by omega⟩
    obtain ⟨N1, rfl⟩ : ∃ N1, N = N1 + 1 := ⟨N - 1, by omega⟩
    exact hA k N1 (by omega) (by omega) (hL k N1 (by omega) (by omega))
  refine ⟨hn, hT1, ⟨tk, h12, ht⟩, hV, hL, hAI, fun K N f hK hNN hf hx => ?_, hN, hP, hcn⟩
  obtain ⟨k, rfl⟩ : ∃ k, K = k + 2 := ⟨K - 2, by omega⟩
  obtain ⟨N1, rfl⟩ : ∃ N1, N = N1 + 2 := ⟨N - 2, by omega⟩
  exact ac_all hT hU hl hn h12 ht h3 hT1 hf hx (hV _ _ (by omega) (by omega)) (fun h => hP h _ _ 0 (by omega) (by omega) (by omega)) (hAI _ _ (by omega) (by omega)) (hL _ _ (by omega) (by omega)) (hL _ _ (by omega) (by omega))
/-- nodes in a row -/
theorem row_ps {W : PWT} {d B bnd : Nat} (hb : bnd ≤ 24000) (hW : ∀ lo x s e cn, W lo x d s e cn → x < bnd → e ≤ m → lo ≤ x ∧ s < e ∧ ALN kd wr m fM lu lev cur x (e - s) cn B) : ∀ (xs : List Nat) (lo s e : Nat) (X : Int32), rowR kd fM W xs lo d s e → (∀ x ∈ xs, x < bnd) → e ≤ m → X = Int32.ofNat (xs.headD 0) →
    ∃ ps : List (Nat × Nat), ps.map Prod.fst = xs ∧ nxC fM xs X ∧ smT ps = e - s + 1 ∧ s < e ∧ lo + xs.length ≤ bnd ∧ ∀ p ∈ ps, p.1 < bnd ∧ ∃ cn, ALN kd wr m fM lu lev cur p.1 p.2 cn B := by
  intro xs
  induction xs with
  | nil => exact fun _ _ _ _ h => h.elim
  | cons x r ih =>
    intro lo s e X h hx he hX
    have hxb := hx x List.mem_cons_self
    cases r with
    | nil =>
      obtain ⟨⟨cn, h1⟩, h2⟩ := h
      obtain ⟨g1, g2, g3⟩ := hW _ _ _ _ _ h1 hxb he
      refine ⟨[(x, e - s)], rfl, ⟨hX, by omega, h2⟩, ?_, g2, ?_, fun p hp => ?_⟩
      · show e - s + 1 + 0 = _
        omega
      · show lo + 1 ≤ bnd
        omega
      · rw [List.mem_singleton.mp hp]
        exact ⟨hxb, cn, g3⟩
    | cons y r =>
      obtain ⟨e1, ⟨cn, h1⟩, h2, h3, h4, h5, h6⟩ := h
      obtain ⟨ps, p1, p2, p3, p4, p5, p6⟩ := ih _ _ _ (gi fM 11 x) h6 (fun z hz => hx z (List.mem_cons_of_mem _ hz)) he h3
      obtain ⟨g1, g2, g3⟩ := hW _ _ _ _ _ h1 hxb (by omega)
      refine ⟨(x, e1 - s) :: ps, by rw [List.map_cons, p1], ⟨hX, by omega, p2⟩, ?_, by omega, ?_, fun p hp => ?_⟩
      · show e1 - s + 1 + smT ps = _
        omega
      · have : (x :: y :: r).length = (y :: r).length + 1 := rfl
        omega
      · rcases List.mem_cons.mp hp with rfl | hp
        · exact ⟨hxb, cn, g3⟩
        · exact p6 p hp
end SG
