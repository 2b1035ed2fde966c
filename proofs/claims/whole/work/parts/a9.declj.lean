/-! BOTH SIDES: a NAME is declared -/
section JT
variable {kd wr nm : Nat → Nat} {vv : Nat → Int64} {m z : Nat} {gA gM : Wd} {lv : Bool} {sl us B : Nat} {stk obl stkF : List Nat} {prs : PRL} {C TK : Nat → Nat} {SL : Nat → List Nat} {t d b : Nat} {fa : Int32} {wA wM : Wd} {γ α : Type} {wd : γ → Wd} {S : γ → α → Wd → Prop} {P : (Nat → Nat) → Nat → Wd → Wd → Prop}
/-- the reference's look into one SCOPE -/
theorem m_inScope {f : Nat → Nat} {w : Wd} {x s : Nat} {C1 : Nat} (hs : s < 9000) (hv : ∀ i, i < C1 → gl w 18 i = vv (f i)) (hi : ∀ i, i < C1 → (vv (f i) = vv x ↔ f i = x)) : ∀ (L : List Nat), LNM w (gi w 16 s) L → (∀ i ∈ L, i < C1) → C1 < 5000 → L.length ≤ 5000 → fX12_inScope (Int32.ofNat s) (vv x) w = some (if fnd f x L = 0 then -1 else Int32.ofNat (fnd f x L - 1), w) := by
  intro L hL hC hc hlen
  unfold fX12_inScope
  rw [if_pos (inb_iN hs (by omega)), ltq, tc_iN (by omega)]
  obtain ⟨fo, hf⟩ := FU_ge (k := L.length + 1) (by omega)
  rw [hf, ← Nat.add_assoc]
  have : ∀ (L : List Nat) (y : Int32), LNM w y L → (∀ i ∈ L, i < C1) → ∀ fo, oX12_inScope_8 (fo + L.length + 1) (vv x) y w = some (if fnd f x L = 0 then -1 else Int32.ofNat (fnd f x L - 1), w) := by
    intro L
    induction L with
    | nil =>
      intro y hy _ fo
      show fX12_inScope_8 _ _ _ _ = _
      unfold fX12_inScope_8
      have hy' : y = -1 := hy
      rw [hy', if_pos (by decide)]
      rfl
    | cons i r ih =>
      intro y hy hr fo
      have hi1 := hr i List.mem_cons_self
      have hst : oX12_inScope_8 (fo + (i :: r).length + 1) (vv x) y w = fX12_inScope_8 (oX12_inScope_8 (fo + r.length + 1)) (vv x) y w := rfl
      rw [hst]
      unfold fX12_inScope_8
      rw [hy.1, if_neg (nn_iN (by omega)), if_pos (inb_iN (by omega) (by omega)), tc_iN (by omega), hv i hi1]
      unfold fnd
      by_cases q : f i = x
      · rw [if_pos ((hi i hi1).mpr q), if_pos q, if_neg (by omega)]
        rfl
      · rw [if_neg (fun h => q ((hi i hi1).mp h)), if_neg q, if_pos (inb_iN (by omega) (by omega)), ltq]
        exact ih _ hy.2 (fun j hj => hr j (List.mem_cons_of_mem _ hj)) fo
  exact this L _ hL hC fo
/-- the reference's symbol, its count of NAMES -/
theorem m_decl58 {w : Wd} {tk d kind pr n C1 : Nat} {type : Int32} (hsm : SM kd wr m w tk d) {t : Nat} (ht : t ≤ m) (h42 : gi w 0 42 = Int32.ofNat C1) (hC : C1 < 5000) (h30 : gi w 0 30 = Int32.ofNat pr) (hp : pr < 1200) (h34 : gi w 34 pr = Int32.ofNat n) (hn : n ≤ 5000) (hk : kind ≤ 6) :
    ∃ u, fX12_declare_58 (Int32.ofNat t) (Int32.ofNat kind) type w = some (Int32.ofNat C1, u) ∧ gi u 0 42 = Int32.ofNat (C1 + 1) ∧ gl u 18 C1 = gl w 4 t ∧ (gi u 19 C1 = Int32.ofNat kind ∧ gi u 20 C1 = type ∧ gi u 22 C1 = Int32.ofNat t ∧ gi u 23 C1 = Int32.ofNat pr ∧ gi u 24 C1 = 0 ∧ gi u 25 C1 = -1 ∧ gi u 27 C1 = 0 ∧ gi u 28 C1 = 0) ∧ gi u 34 pr = Int32.ofNat (if kind = 4 then n else n + 1) ∧ FLM u = (if kind ≠ 4 ∧ 200 < n + 1 then FN (FLM w) 5 (Int32.ofNat (wr t)) else FLM w) ∧ OFF (fun k j => (k = 0 ∧ (j = 42 ∨ j = 10 ∨ j = 11)) ∨ (18 ≤ k ∧ k ≤ 28 ∧ k ≠ 21 ∧ k ≠ 26 ∧ j = C1) ∨ (k = 34 ∧ j = pr)) u w := by
  have hm := hsm.1.1
  unfold fX12_declare_58
  rw [ltq, h42, ltq, ad1_iN, if_pos (inb_iN (by omega) (by omega))]
  have e1 : inb (Int32.ofNat C1) 5000 = true := inb_iN hC (by omega)
  have n0 : vp_nar .boolean (0 : Int32) = 0 := by decide
  simp only [e1, if_true, ltq, tc_iN (show C1 < 2147483648 by omega), tc_iN (show t < 2147483648 by omega), n0]
  generalize hw : si (si (si (si (si (si (si (si (sl (si w 0 42 (Int32.ofNat (C1 + 1))) 18 C1 (gl (si w 0 42 (Int32.ofNat (C1 + 1))) 4 t)) 19 C1 (Int32.ofNat kind)) 20 C1 type) 22 C1 (Int32.ofNat t)) 23 C1 (gi (si (si (si (sl (si w 0 42 (Int32.ofNat (C1 + 1))) 18 C1 (gl (si w 0 42 (Int32.ofNat (C1 + 1))) 4 t)) 19 C1 (Int32.ofNat kind)) 20 C1 type) 22 C1 (Int32.ofNat t)) 0 30)) 24 C1 0) 25 C1 (-1)) 27 C1 0) 28 C1 0 = v
  have hv : OFF (fun k j => (k = 0 ∧ j = 42) ∨ (18 ≤ k ∧ k ≤ 28 ∧ k ≠ 21 ∧ k ≠ 26 ∧ j = C1)) v w := by
    rw [← hw]
    repeat (first | exact OFF.rf | refine OFF.tr (OFF.si (by omega)) ?_ | refine OFF.tr (OFF.sl (by omega)) ?_)
  have hvv : gi v 0 42 = Int32.ofNat (C1 + 1) ∧ gl v 18 C1 = gl w 4 t ∧ (gi v 19 C1 = Int32.ofNat kind ∧ gi v 20 C1 = type ∧ gi v 22 C1 = Int32.ofNat t ∧ gi v 23 C1 = Int32.ofNat pr ∧ gi v 24 C1 = 0 ∧ gi v 25 C1 = -1 ∧ gi v 27 C1 = 0 ∧ gi v 28 C1 = 0) := by
    rw [← hw]
    have hsl : ∀ (w : Wd) k j x a b, gi (sl w k j x) a b = gi w a b := fun _ _ _ _ _ _ => rfl
    have hsi : ∀ (w : Wd) k j x a b, gl (si w k j x) a b = gl w a b := fun _ _ _ _ _ _ => rfl
    refine ⟨?_, ?_, ?_, ?_, ?_, ?_, ?_, ?_, ?_, ?_⟩
    · repeat first | rw [gi_si0] | rw [gi_si1 (by omega)] | rw [hsl]
    · repeat rw [hsi]
      rw [gl_sl0]
    · repeat first | rw [gi_si0] | rw [gi_si1 (by omega)] | rw [hsl]
    · repeat first | rw [gi_si0] | rw [gi_si1 (by omega)] | rw [hsl]
    · repeat first | rw [gi_si0] | rw [gi_si1 (by omega)] | rw [hsl]
    · rw [gi_si1 (by omega), gi_si1 (by omega), gi_si1 (by omega), gi_si1 (by omega), gi_si0, gi_si1 (by omega), gi_si1 (by omega), gi_si1 (by omega), hsl, gi_si1 (by omega)]
      exact h30
    · repeat first | rw [gi_si0] | rw [gi_si1 (by omega)] | rw [hsl]
    · repeat first | rw [gi_si0] | rw [gi_si1 (by omega)] | rw [hsl]
    · repeat first | rw [gi_si0] | rw [gi_si1 (by omega)] | rw [hsl]
    · repeat first | rw [gi_si0] | rw [gi_si1 (by omega)] | rw [hsl]
  clear hw
  have hflm : FLM v = FLM w := by
    unfold FLM
    rw [(hv 0 10 (by omega)).1, (hv 0 11 (by omega)).1]
  by_cases q4 : kind = 4
  · rw [if_pos (show Int32.ofNat kind = 4 by rw [q4]; rfl)]
    refine ⟨v, rfl, hvv.1, hvv.2.1, hvv.2.2, ?_, ?_, hv.mono (fun k j hp => by omega)⟩
    · rw [if_pos q4, (hv 34 pr (by omega)).1]; exact h34
    · rw [if_neg (by omega)]; exact hflm
  · rw [if_neg (show ¬ (Int32.ofNat kind = 4) from of_ne (k := 4) (by omega) (by omega) q4)]
    have v30 : gi v 0 30 = Int32.ofNat pr := by rw [(hv 0 30 (by omega)).1]; exact h30
    have e2 : inb (Int32.ofNat pr) 1200 = true := inb_iN hp (by omega)
    rw [v30, if_pos e2, if_pos e2, tc_iN (by omega), (hv 34 pr (by omega)).1, h34, ad1_iN, show gi (si v 34 pr (Int32.ofNat (n + 1))) 0 30 = Int32.ofNat pr by rw [gi_si1 (by omega)]; exact v30, if_pos e2, tc_iN (by omega), gi_si0]
    have hO : OFF (fun k j => (k = 0 ∧ (j = 42 ∨ j = 10 ∨ j = 11)) ∨ (18 ≤ k ∧ k ≤ 28 ∧ k ≠ 21 ∧ k ≠ 26 ∧ j = C1) ∨ (k = 34 ∧ j = pr)) (si v 34 pr (Int32.ofNat (n + 1))) w := OFF.tr (OFF.si (by omega)) (hv.mono (fun k j hp => by omega))
    have hvv' : gi (si v 34 pr (Int32.ofNat (n + 1))) 0 42 = Int32.ofNat (C1 + 1) ∧ gl (si v 34 pr (Int32.ofNat (n + 1))) 18 C1 = gl w 4 t ∧ (gi (si v 34 pr (Int32.ofNat (n + 1))) 19 C1 = Int32.ofNat kind ∧ gi (si v 34 pr (Int32.ofNat (n + 1))) 20 C1 = type ∧ gi (si v 34 pr (Int32.ofNat (n + 1))) 22 C1 = Int32.ofNat t ∧ gi (si v 34 pr (Int32.ofNat (n + 1))) 23 C1 = Int32.ofNat pr ∧ gi (si v 34 pr (Int32.ofNat (n + 1))) 24 C1 = 0 ∧ gi (si v 34 pr (Int32.ofNat (n + 1))) 25 C1 = -1 ∧ gi (si v 34 pr (Int32.ofNat (n + 1))) 27 C1 = 0 ∧ gi (si v 34 pr (Int32.ofNat (n + 1))) 28 C1 = 0) := by
      obtain ⟨a1, a2, a3, a4, a5, a6, a7, a8, a9, a10⟩ := hvv
      refine ⟨by rw [gi_si1 (by omega)]; exact a1, a2, ?_⟩
      refine ⟨?_, ?_, ?_, ?_, ?_, ?_, ?_, ?_⟩
      all_goals rw [gi_si1 (by omega)]
      · exact a3
      · exact a4
      · exact a5
      · exact a6
      · exact a7
      · exact a8
      · exact a9
      · exact a10
    have hflm2 : FLM (si v 34 pr (Int32.ofNat (n + 1))) = FLM w := by
      rw [← hflm]
      unfold FLM
      rw [gi_si1 (by omega), gi_si1 (by omega)]
    by_cases q200 : n + 1 ≤ 200
    · rw [if_pos (show Int32.ofNat (n + 1) ≤ 200 from yle_iN (b := 200) q200 (by omega))]
      refine ⟨_, rfl, hvv'.1, hvv'.2.1, hvv'.2.2, ?_, ?_, hO⟩
      · rw [gi_si0, if_neg q4]
      · rw [if_neg (by omega)]; exact hflm2
    · rw [if_neg (show ¬ (Int32.ofNat (n + 1) ≤ 200) from nle_iN (b := 200) (by omega) (by omega))]
      have hsm2 : SM kd wr m (si v 34 pr (Int32.ofNat (n + 1))) tk d := by
        obtain ⟨⟨a1, a2, a3, a4, a5⟩, a6, a7, a8, a9⟩ := hsm
        exact ⟨⟨a1, a2, a3, a4, fun i hi => by rw [(hO 2 i (by omega)).1, (hO 3 i (by omega)).1]; exact a5 i hi⟩, a6, a7, by rw [(hO 0 7 (by omega)).1]; exact a8, by rw [(hO 0 8 (by omega)).1]; exact a9⟩
      obtain ⟨u, u1, u2, u3⟩ := found_ok (num := 5) hsm2 ht
      rw [u1]
      have g : ∀ k j, ¬ (k = 0 ∧ (j = 10 ∨ j = 11)) → gi u k j = gi (si v 34 pr (Int32.ofNat (n + 1))) k j := fun k j hk => (u3 k j hk).1
      obtain ⟨a1, a2, a3, a4, a5, a6, a7, a8, a9, a10⟩ := hvv'
      refine ⟨u, rfl, by rw [g 0 42 (by omega)]; exact a1, by rw [(u3 18 _ (by omega)).2]; exact a2, ⟨?_, ?_, ?_, ?_, ?_, ?_, ?_, ?_⟩, ?_, ?_, OFF.tr (u3.mono (fun k j hp => by omega)) hO⟩
      · rw [g 19 _ (by omega)]; exact a3
      · rw [g 20 _ (by omega)]; exact a4
      · rw [g 22 _ (by omega)]; exact a5
      · rw [g 23 _ (by omega)]; exact a6
      · rw [g 24 _ (by omega)]; exact a7
      · rw [g 25 _ (by omega)]; exact a8
      · rw [g 27 _ (by omega)]; exact a9
      · rw [g 28 _ (by omega)]; exact a10
      · rw [g 34 _ (by omega), gi_si0, if_neg q4]
      · rw [if_pos ⟨q4, by omega⟩, u2, hflm2]
end JT
theorem FN_late {q : Int32 × Int32} {num : Int32} {x : Nat} (h : FLN q x) (hx : x < 2147483648) : FN q num (Int32.ofNat x) = q := by
  obtain ⟨h1, h2⟩ := h
  unfold FN
  rw [if_neg h1]
  have h3 := ti_iN hx
  rw [if_neg (fun h => by rw [Int32.lt_iff_toInt_lt] at h; omega), if_neg (fun h => by rw [← h] at h2; omega)]
theorem FN_soon {q : Int32 × Int32} {num : Int32} {x y : Nat} (hn : num ≠ 0) (hx : x < 2147483648) (hy : x < y) : FLN (FN q num (Int32.ofNat x)) y := by
  have h3 := ti_iN hx
  unfold FN
  by_cases q0 : q.1 = 0
  · rw [if_pos q0]; exact ⟨hn, by show (Int32.ofNat x).toInt < _; omega⟩
  · rw [if_neg q0]
    by_cases q1 : Int32.ofNat x < q.2
    · rw [if_pos q1]; exact ⟨hn, by show (Int32.ofNat x).toInt < _; omega⟩
    · rw [if_neg q1]
      have h4 : ¬ (Int32.ofNat x).toInt < q.2.toInt := fun h => q1 (Int32.lt_iff_toInt_lt.mpr h)
      by_cases q2 : Int32.ofNat x = q.2
      · rw [if_pos q2]
        by_cases q3 : q.1 ≤ num
        · rw [if_pos q3]; exact ⟨q0, by omega⟩
        · rw [if_neg q3]; exact ⟨hn, by show (Int32.ofNat x).toInt < _; omega⟩
      · rw [if_neg q2]; exact ⟨q0, by omega⟩
theorem FLN.le {q : Int32 × Int32} {x y : Nat} (h : FLN q x) (hy : x ≤ y) : FLN q y := ⟨h.1, by have := h.2; omega⟩
theorem FLN.fn {q : Int32 × Int32} {num : Int32} {x y : Nat} (h : FLN q x) (hy : x < 2147483648) : FLN (FN q num (Int32.ofNat x)) x := by
  rw [FN_late h hy]; exact h
