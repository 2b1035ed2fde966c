/-! THE REFERENCE'S LISTS OF SCOPES: they go down, and hold what is declared -/
section PG6
variable {kd wr nm TK : Nat → Nat} {vv : Nat → Int64} {m : Nat} {Cf : Nat → Nat} {SL : Nat → List Nat} {fA fM : Wd} {i s t : Nat}
theorem LNM.down : ∀ (L : List Nat) (x : Int32), LNM fM x L → (∀ i ∈ L, i < 9000 ∧ D21 fM i) → L.Pairwise (fun a b => b < a) := by
  intro L
  induction L with
  | nil => exact fun _ _ _ => List.Pairwise.nil
  | cons i r ih =>
    intro x h hL
    have hr := ih _ h.2 (fun j hj => hL j (List.mem_cons_of_mem _ hj))
    refine List.pairwise_cons.mpr ⟨fun k hk => ?_, hr⟩
    cases r with
    | nil => exact absurd hk (by simp)
    | cons j r' =>
      have h21 : gi fM 21 i = Int32.ofNat j := h.2.1
      have hj := (hL j (List.mem_cons_of_mem _ List.mem_cons_self)).1
      have hi := hL i List.mem_cons_self
      have hji : j < i := by
        rcases hi.2 with e | ⟨j', h1, e⟩
        · rw [h21] at e
          have h2 : (0 : Int32) ≤ Int32.ofNat j := zl_iN (by omega)
          rw [e] at h2
          exact absurd h2 (by decide)
        · have := (eq_iN (by omega) (by omega)).mp (h21.symm.trans e)
          omega
      rcases List.mem_cons.mp hk with rfl | hk
      · exact hji
      · have := (List.pairwise_cons.mp hr).1 k hk
        omega
theorem sl_down (hT : TBM kd wr nm vv m Cf TK SL fA fM) (hs : s < Cf 2) (h : ∀ i ∈ SL s, ∃ t, NIL fM i t) : (SL s).Pairwise (fun a b => b < a) := by
  obtain ⟨⟨r1, r2, r3, r4, r5⟩, _, _, hc, hSL, _⟩ := hT
  refine LNM.down _ _ (r4 s hs) (fun i hi => ⟨by have := (hSL s hs).2 i hi; omega, ?_⟩)
  obtain ⟨t, c1, c2, h1, h2, h3, h4, h5, h6, _⟩ := h i hi
  have e2 : c2 = Cf 2 := (eq_iN (by omega) (by omega)).mp (h5.symm.trans r1)
  exact (h6 s (by omega) ⟨SL s, r4 s hs, fun k hk => by have := (hSL s hs).2 k hk; omega, hi⟩).2
theorem sl_has (hT : TBM kd wr nm vv m Cf TK SL fA fM) (h : NIL fM i t) (h0 : gi fM 0 10 = 0) : i ∈ SL t := by
  obtain ⟨⟨r1, r2, r3, r4, r5⟩, _, _, hc, hSL, _⟩ := hT
  obtain ⟨c1, c2, h1, h2, h3, h4, h5, h6, h7⟩ := h
  have e2 : c2 = Cf 2 := (eq_iN (by omega) (by omega)).mp (h5.symm.trans r1)
  rcases h7 with c | ⟨ht, L, l1, l2, l3⟩
  · exact absurd h0 c
  · have ht : t < Cf 2 := by omega
    rw [LNM.det L (SL t) _ l1 (r4 t ht) l2 (fun k hk => by have := (hSL t ht).2 k hk; omega)] at l3
    exact l3
end PG6
