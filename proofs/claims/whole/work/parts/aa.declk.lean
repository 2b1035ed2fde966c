/-! BOTH SIDES: a NAME is declared, all of it -/
section JT
variable {kd wr nm : Nat → Nat} {vv : Nat → Int64} {m z : Nat} {gA gM : Wd} {lv : Bool} {sl us B : Nat} {stk obl stkF : List Nat} {prs : PRL} {C TK : Nat → Nat} {SL : Nat → List Nat} {t d b : Nat} {fa : Int32} {wA wM : Wd} {γ α : Type} {wd : γ → Wd} {S : γ → α → Wd → Prop} {P : (Nat → Nat) → Nat → Wd → Wd → Prop}
/-- the reference declares -/
theorem m_declare {f : Nat → Nat} {w : Wd} {tk d0 kind pr n C1 C2 x s : Nat} {L : List Nat} {type : Int32} (hsm : SM kd wr m w tk d0) {t : Nat} (ht : t ≤ m) (h42 : gi w 0 42 = Int32.ofNat C1) (hC : C1 < 4900) (h30 : gi w 0 30 = Int32.ofNat pr) (hp : pr < 1200) (h34 : gi w 34 pr = Int32.ofNat n) (hn : n ≤ 5000) (hk : kind ≤ 6) (hs : s < 9000) (hv : ∀ i, i < C1 → gl w 18 i = vv (f i)) (hi : ∀ i, i < C1 → (vv (f i) = vv x ↔ f i = x)) (hL : LNM w (gi w 16 s) L) (hLC : ∀ i ∈ L, i < C1) (hlen : L.length ≤ 5000) (h4 : gl w 4 t = vv x) :
    ∃ u, fX12_declare (Int32.ofNat s) (Int32.ofNat t) (Int32.ofNat kind) type w = some (Int32.ofNat C1, u) ∧ gi u 0 42 = Int32.ofNat (C1 + 1) ∧ gl u 18 C1 = vv x ∧ (gi u 19 C1 = Int32.ofNat kind ∧ gi u 20 C1 = type ∧ gi u 22 C1 = Int32.ofNat t ∧ gi u 23 C1 = Int32.ofNat pr ∧ gi u 24 C1 = 0 ∧ gi u 25 C1 = -1 ∧ gi u 27 C1 = 0 ∧ gi u 28 C1 = 0) ∧ gi u 34 pr = Int32.ofNat (if kind = 4 then n else n + 1) ∧ FLM u = (if kind ≠ 4 ∧ 200 < n + 1 then FN (if fnd f x L = 0 then FLM w else FN (FLM w) 3 (Int32.ofNat (wr t))) 5 (Int32.ofNat (wr t)) else (if fnd f x L = 0 then FLM w else FN (FLM w) 3 (Int32.ofNat (wr t)))) ∧ LNM u (gi u 16 s) (if fnd f x L = 0 then C1 :: L else L) ∧ OFF (fun k j => (k = 0 ∧ (j = 42 ∨ j = 10 ∨ j = 11)) ∨ (18 ≤ k ∧ k ≤ 28 ∧ k ≠ 26 ∧ j = C1) ∨ (k = 34 ∧ j = pr) ∨ (k = 16 ∧ j = s)) u w := by
  have hm := hsm.1.1
  have hlk := m_inScope (vv := vv) (f := f) (x := x) hs hv hi L hL hLC (by omega) hlen
  unfold fX12_declare
  rw [if_pos (inb_iN (by omega) (by omega)), tc_iN (by omega), h4, hlk, bn2_so]
  have sm' : ∀ v, OFF (fun k j => (k = 21 ∧ j = C1) ∨ (k = 16 ∧ j = s) ∨ (k = 0 ∧ (j = 10 ∨ j = 11))) v w → SM kd wr m v tk d0 := fun v hO => by
    obtain ⟨⟨a1, a2, a3, a4, a5⟩, a6, a7, a8, a9⟩ := hsm
    exact ⟨⟨a1, a2, a3, a4, fun i hi => by rw [(hO 2 i (by omega)).1, (hO 3 i (by omega)).1]; exact a5 i hi⟩, a6, a7, by rw [(hO 0 7 (by omega)).1]; exact a8, by rw [(hO 0 8 (by omega)).1]; exact a9⟩
  by_cases q : fnd f x L = 0
  · rw [if_pos q, if_pos (by decide), if_pos (inb_iN hs (by omega)), h42, if_pos (inb_iN (by omega) (by omega)), ltq, tc_iN (by omega), tc_iN (by omega), if_pos (inb_iN hs (by omega)), ltq, show gi (si w 21 C1 (gi w 16 s)) 0 42 = Int32.ofNat C1 by rw [gi_si1 (by omega)]; exact h42]
    have hO : OFF (fun k j => (k = 21 ∧ j = C1) ∨ (k = 16 ∧ j = s) ∨ (k = 0 ∧ (j = 10 ∨ j = 11))) (si (si w 21 C1 (gi w 16 s)) 16 s (Int32.ofNat C1)) w := OFF.tr (OFF.si (by omega)) (OFF.si (by omega))
    obtain ⟨u, u1, u2, u3, u4, u5, u6, u7⟩ := m_decl58 (kind := kind) (type := type) (n := n) (sm' _ hO) ht (by rw [(hO 0 42 (by omega)).1]; exact h42) (by omega) (by rw [(hO 0 30 (by omega)).1]; exact h30) hp (by rw [(hO 34 pr (by omega)).1]; exact h34) hn hk
    have hfl : FLM (si (si w 21 C1 (gi w 16 s)) 16 s (Int32.ofNat C1)) = FLM w := by
      unfold FLM
      repeat rw [gi_si1 (by omega)]
    refine ⟨u, u1, u2, ?_, u4, u5, ?_, ?_, OFF.tr (u7.mono (fun k j hp => by omega)) (fun k j hp => hO k j (by omega))⟩
    · rw [u3, (hO 4 t (by omega)).2]; exact h4
    · rw [u6, hfl, if_pos q]
    · rw [if_pos q, (u7 16 s (by omega)).1, gi_si0]
      refine ⟨rfl, ?_⟩
      rw [(u7 21 C1 (by omega)).1, gi_si1 (by omega), gi_si0]
      exact hL.agr (fun i hi' => by
        have := hLC i hi'
        rw [(u7 21 i (by omega)).1, (hO 21 i (by omega)).1])
  · have hpos : ¬ (Int32.ofNat (fnd f x L - 1) < 0) := by
      have := hLC _ (fnd_in q).1
      exact nn_iN (by omega)
    rw [if_neg q, if_neg hpos]
    obtain ⟨v, v1, v2, v3⟩ := found_ok (num := 3) hsm ht
    rw [v1]
    show ∃ u, (if inb (gi v 0 42) 5000 = true then _ else none) = _ ∧ _
    have hv42 : gi v 0 42 = Int32.ofNat C1 := by rw [(v3 0 42 (by omega)).1]; exact h42
    rw [hv42, if_pos (inb_iN (by omega) (by omega)), ltq, tc_iN (by omega)]
    have hO : OFF (fun k j => (k = 21 ∧ j = C1) ∨ (k = 16 ∧ j = s) ∨ (k = 0 ∧ (j = 10 ∨ j = 11))) (si v 21 C1 (-1)) w := OFF.tr (OFF.si (by omega)) (v3.mono (fun k j hp => by omega))
    obtain ⟨u, u1, u2, u3, u4, u5, u6, u7⟩ := m_decl58 (kind := kind) (type := type) (n := n) (sm' _ hO) ht (by rw [(hO 0 42 (by omega)).1]; exact h42) (by omega) (by rw [(hO 0 30 (by omega)).1]; exact h30) hp (by rw [(hO 34 pr (by omega)).1]; exact h34) hn hk
    have hfl : FLM (si v 21 C1 (-1)) = FN (FLM w) 3 (Int32.ofNat (wr t)) := by
      rw [← v2]
      unfold FLM
      rw [gi_si1 (by omega), gi_si1 (by omega)]
    refine ⟨u, u1, u2, ?_, u4, u5, ?_, ?_, OFF.tr (u7.mono (fun k j hp => by omega)) (fun k j hp => hO k j (by omega))⟩
    · rw [u3, (hO 4 t (by omega)).2]; exact h4
    · rw [u6, hfl, if_neg q]
    · rw [if_neg q, (u7 16 s (by omega)).1, gi_si1 (by omega), (v3 16 s (by omega)).1]
      exact hL.agr (fun i hi' => by
        have := hLC i hi'
        rw [(u7 21 i (by omega)).1, (hO 21 i (by omega)).1])
/-- the class declares -/
theorem a_declare {f : Nat → Nat} {w : Wd} {sort C1 nsc x s l n : Nat} {type : Int32} (hin : IN1 kd wr z w t 0 (-1)) (hk : kd t = 2) (hcs : CSC f SL (s :: stk) nsc C1 0 w) (hC : C1 < 4100) (h12 : gi w 13 12 = Int32.ofNat (C1 + 1)) (h7 : (gl w 7 t).toInt32 = Int32.ofNat x) (hx : x < 8192) (hl : gi w 34 5 = Int32.ofNat l) (hl2 : l ≤ 41) (h38 : gi w 38 l = Int32.ofNat n) (hn : n ≤ 5000) (hs : sort ≤ 5) :
    ∃ u, fX4_declared (Int32.ofNat sort) type w = (Int32.ofNat (C1 + 1), u) ∧ IN1 kd wr z u (t + 1) 0 (-1) ∧ CSC (upF f C1 x) (if fnd f x (SL s) = 0 then upS SL s C1 else SL) (s :: stk) nsc (C1 + 1) 0 u ∧ gi u 13 12 = Int32.ofNat (C1 + 2) ∧ gi u 13 14 = gi w 13 14 + (if sort = 3 then 1 else 0) ∧ (gi u 21 (C1 + 1) = Int32.ofNat t ∧ gi u 14 (C1 + 1) = Int32.ofNat sort ∧ gi u 15 (C1 + 1) = type ∧ gi u 17 (C1 + 1) = Int32.ofNat l ∧ gi u 16 (C1 + 1) = 0 ∧ gi u 18 (C1 + 1) = 0 ∧ gi u 19 (C1 + 1) = 0 ∧ gi u 20 (C1 + 1) = 0 ∧ gi u 23 (C1 + 1) = 0 ∧ gi u 24 (C1 + 1) = 0 ∧ gi u 25 t = Int32.ofNat (C1 + 1)) ∧ gi u 38 l = Int32.ofNat (if sort = 4 then n else n + 1) ∧ FLA u = (if sort ≠ 4 ∧ n + 1 = 201 then FN (if fnd f x (SL s) = 0 then FLA w else FN (FLA w) 3 (Int32.ofNat (wr t))) 5 (Int32.ofNat (wr t)) else (if fnd f x (SL s) = 0 then FLA w else FN (FLA w) 3 (Int32.ofNat (wr t)))) ∧ OFF (fun k j => (k = 3 ∧ (j = 6 ∨ j = 7)) ∨ (k = 4 ∧ (j = 9 ∨ j = 10)) ∨ (k = 13 ∧ (j = 12 ∨ j = 14)) ∨ (14 ≤ k ∧ k ≤ 24 ∧ j = C1 + 1) ∨ (k = 25 ∧ j = t) ∨ (27 ≤ k ∧ k ≤ 31) ∨ (k = 38 ∧ j = l)) u w ∧ (∀ k j, 28 ≤ k → k ≤ 30 → j ≤ C1 → gi u k j = gi w k j) ∧ (∀ j, j ≠ s + 1 → gi u 31 j = gi w 31 j) := by
  have htz := hin.tz
  have hz9 := hin.z9
  obtain ⟨n1, _, n3⟩ := a_need hin.1 (k := 2) (by omega) (by omega)
  have h2 := hin.tok n3 (n1 hk)
  have hcs2 : CSC f SL (s :: stk) nsc C1 0 (fX9_need (Int32.ofNat 2) w) := hcs.agr (fun k j hk => (n3 k j (by unfold PSC at hk; omega)).1)
  have hfl2 : FLA (fX9_need (Int32.ofNat 2) w) = FLA w := by
    unfold FLA
    rw [(n3 3 6 (by omega)).1, (n3 3 7 (by omega)).1]
  have hg2 : ∀ k j, k ≠ 4 → gi (fX9_need (Int32.ofNat 2) w) k j = gi w k j := fun k j hk => (n3 k j (by omega)).1
  have hgl2 : gl (fX9_need (Int32.ofNat 2) w) 7 t = gl w 7 t := (n3 7 t (by omega)).2
  unfold fX4_declared
  rw [ltq, a_at hin.1]
  show ∃ u, (lt (fX9_need (Int32.ofNat 2) w) fun w2 => _) = _ ∧ _
  rw [ltq]
  generalize fX9_need (Int32.ofNat 2) w = w2 at n1 n3 h2 hcs2 hfl2 hg2 hgl2
  rw [if_pos h2.2.1]
  have hfail : fX9_failed w2 = false := by
    unfold fX9_failed
    rw [h2.1.2.2.2.2.2.2.2.2.1, if_pos (by decide)]
  rw [ltq, hfail, if_neg (by decide)]
  have hnm : fX9_nameOf (Int32.ofNat t) w2 = Int32.ofNat x := by
    unfold fX9_nameOf
    rw [ltq, rgl_iN (n := t) (m := 8193) (by omega) (by omega), hgl2, h7]
  rw [ltq, hnm, ltq, show fX5_level w2 = Int32.ofNat l by unfold fX5_level; rw [hg2 34 5 (by omega)]; exact hl]
  obtain ⟨w3, b1, b2, b3, ⟨b4, b5, b6, b7, b8, b9, b10, b11, b12, b13, b14, b15⟩, b16⟩ := a_add (a2 := Int32.ofNat x) (a3 := Int32.ofNat sort) (a4 := type) (a5 := Int32.ofNat l) (t := t) (ns := C1) (w := w2) (by rw [hg2 13 12 (by omega)]; exact h12) (by omega) (by omega)
  rw [b1, lt2q]
  obtain ⟨w4, c1, c2, c3⟩ := a_put (x := x) hcs2 hx (by omega) b5 (b16.mono (fun k j hp => by omega))
  show ∃ u, (lt2 (fX7_add (Int32.ofNat (C1 + 1)) w3) _) = _ ∧ _
  rw [c1, lt2q]
  have h3 : IN1 kd wr z w4 (t + 1) 0 (-1) := by
    have h3' : IN1 kd wr z w3 (t + 1) 0 (-1) := ⟨h2.1.off b16 (fun k j hp => by omega), (b16 3 5 (by omega)).1.trans h2.2.1, (b16 14 0 (by omega)).1.trans h2.2.2.1, (b16 43 4 (by omega)).1.trans h2.2.2.2⟩
    exact h3'.off c3 (fun k j hp => by omega)
  have hO4 : OFF (fun k j => (k = 13 ∧ (j = 12 ∨ j = 14)) ∨ (14 ≤ k ∧ k ≤ 24 ∧ j = C1 + 1) ∨ (k = 25 ∧ j = t) ∨ (27 ≤ k ∧ k ≤ 31)) w4 w2 := OFF.tr (c3.mono (fun k j hp => by omega)) (b16.mono (fun k j hp => by omega))
  have hfl4 : FLA w4 = FLA w := by
    rw [← hfl2]
    unfold FLA
    rw [(hO4 3 6 (by omega)).1, (hO4 3 7 (by omega)).1]
  have hsort3 : (if Int32.ofNat sort = 3 then (1 : Int32) else 0) = (if sort = 3 then 1 else 0) := by
    by_cases q : sort = 3
    · rw [if_pos (show Int32.ofNat sort = 3 by rw [q]; rfl), if_pos q]
    · rw [if_neg (show ¬ (Int32.ofNat sort = 3) from of_ne (k := 3) (by omega) (by omega) q), if_neg q]
  -- the count
  have h93 : ∀ v, OFF (fun k j => k = 3 ∧ (j = 6 ∨ j = 7)) v w4 → ∃ u, fX4_declared_93 (Int32.ofNat sort) (Int32.ofNat t) (Int32.ofNat (C1 + 1)) v = (Int32.ofNat (C1 + 1), u) ∧ gi u 38 l = Int32.ofNat (if sort = 4 then n else n + 1) ∧ FLA u = (if sort ≠ 4 ∧ n + 1 = 201 then FN (FLA v) 5 (Int32.ofNat (wr t)) else FLA v) ∧ OFF (fun k j => (k = 3 ∧ (j = 6 ∨ j = 7)) ∨ (k = 38 ∧ j = l)) u w4 := by
    intro v hv
    have hv38 : gi v 38 l = Int32.ofNat n := by rw [(hv 38 l (by omega)).1, (hO4 38 l (by omega)).1, hg2 38 l (by omega)]; exact h38
    have hv34 : gi v 34 5 = Int32.ofNat l := by rw [(hv 34 5 (by omega)).1, (hO4 34 5 (by omega)).1, hg2 34 5 (by omega)]; exact hl
    unfold fX4_declared_93
    by_cases q4 : sort = 4
    · rw [if_pos (show Int32.ofNat sort = 4 by rw [q4]; rfl), if_pos q4, if_neg (by omega)]
      exact ⟨v, rfl, hv38, rfl, hv.mono (fun k j hp => Or.inl hp)⟩
    · rw [if_neg (show ¬ (Int32.ofNat sort = 4) from of_ne (k := 4) (by omega) (by omega) q4)]
      have hone : fX5_oneNameMore v = (Int32.ofNat (n + 1), si v 38 l (Int32.ofNat (n + 1))) := by
        unfold fX5_oneNameMore
        rw [hv34, rgi_iN (n := l) (m := 64) (by omega) (by omega), hv38, ltq, ad1_iN, rsi_iN (n := l) (m := 64) (by omega) (by omega), ltq, show gi (si v 38 l (Int32.ofNat (n + 1))) 34 5 = Int32.ofNat l by rw [gi_si1 (by omega)]; exact hv34, rgi_iN (n := l) (m := 64) (by omega) (by omega), gi_si0, ltq]
      rw [hone, lt2q]
      have hfv : FLA (si v 38 l (Int32.ofNat (n + 1))) = FLA v := by
        unfold FLA
        rw [gi_si1 (by omega), gi_si1 (by omega)]
      have hO5 : OFF (fun k j => (k = 3 ∧ (j = 6 ∨ j = 7)) ∨ (k = 38 ∧ j = l)) (si v 38 l (Int32.ofNat (n + 1))) w4 := OFF.tr (OFF.si (Or.inr ⟨rfl, rfl⟩)) (hv.mono (fun k j hp => Or.inl hp))
      by_cases q201 : n + 1 = 201
      · rw [if_pos (show Int32.ofNat (n + 1) = 201 by rw [q201]; rfl), ltq, if_neg q4, if_pos ⟨q4, q201⟩]
        have hT5 : CT kd wr true z (si v 38 l (Int32.ofNat (n + 1))) (t + 1) (-1) := h3.1.off hO5 (fun k j hp => by omega)
        obtain ⟨g1, g2⟩ := note_ok (num := 5) (a := t) hT5 htz
        refine ⟨_, rfl, ?_, ?_, OFF.tr (g2.mono (fun k j hp => Or.inl hp)) hO5⟩
        · rw [(g2 38 l (by omega)).1, gi_si0]
        · rw [g1, hfv]
      · rw [if_neg (show ¬ (Int32.ofNat (n + 1) = 201) from of_ne (k := 201) (by omega) (by omega) q201), if_neg q4, if_neg (by omega)]
        exact ⟨_, rfl, gi_si0 _ _ _ _, hfv, hO5⟩
  have hend : ∀ (v u : Wd), OFF (fun k j => (k = 3 ∧ (j = 6 ∨ j = 7)) ∨ (k = 38 ∧ j = l)) u w4 → IN1 kd wr z u (t + 1) 0 (-1) ∧ CSC (upF f C1 x) (if fnd f x (SL s) = 0 then upS SL s C1 else SL) (s :: stk) nsc (C1 + 1) 0 u ∧ gi u 13 12 = Int32.ofNat (C1 + 2) ∧ gi u 13 14 = gi w 13 14 + (if sort = 3 then 1 else 0) ∧ (gi u 21 (C1 + 1) = Int32.ofNat t ∧ gi u 14 (C1 + 1) = Int32.ofNat sort ∧ gi u 15 (C1 + 1) = type ∧ gi u 17 (C1 + 1) = Int32.ofNat l ∧ gi u 16 (C1 + 1) = 0 ∧ gi u 18 (C1 + 1) = 0 ∧ gi u 19 (C1 + 1) = 0 ∧ gi u 20 (C1 + 1) = 0 ∧ gi u 23 (C1 + 1) = 0 ∧ gi u 24 (C1 + 1) = 0 ∧ gi u 25 t = Int32.ofNat (C1 + 1)) ∧ OFF (fun k j => (k = 3 ∧ (j = 6 ∨ j = 7)) ∨ (k = 4 ∧ (j = 9 ∨ j = 10)) ∨ (k = 13 ∧ (j = 12 ∨ j = 14)) ∨ (14 ≤ k ∧ k ≤ 24 ∧ j = C1 + 1) ∨ (k = 25 ∧ j = t) ∨ (27 ≤ k ∧ k ≤ 31) ∨ (k = 38 ∧ j = l)) u w ∧ (∀ k j, 28 ≤ k → k ≤ 30 → j ≤ C1 → gi u k j = gi w k j) ∧ (∀ j, j ≠ s + 1 → gi u 31 j = gi w 31 j) := by
    intro v u hu
    have gu : ∀ k j, k ≠ 3 → k ≠ 38 → gi u k j = gi w4 k j := fun k j h1 h2 => (hu k j (by omega)).1
    have g4 : ∀ k j, ¬ ((k = 27 ∧ j = x) ∨ (28 ≤ k ∧ k ≤ 30 ∧ j = C1 + 1) ∨ (k = 31 ∧ j = s + 1)) → gi w4 k j = gi w3 k j := fun k j hk => (c3 k j hk).1
    have gs : ∀ k j, k ≠ 3 → k ≠ 38 → k < 27 → gi u k j = gi w3 k j := fun k j h1 h2 h3 => by rw [gu k j h1 h2, g4 k j (by omega)]
    refine ⟨⟨h3.1.off hu (fun k j hp => by omega), (hu 3 5 (by omega)).1.trans h3.2.1, (hu 14 0 (by omega)).1.trans h3.2.2.1, (hu 43 4 (by omega)).1.trans h3.2.2.2⟩, c2.agr (fun k j hk => (hu k j (by unfold PSC at hk; omega)).1), ?_, ?_, ⟨?_, ?_, ?_, ?_, ?_, ?_, ?_, ?_, ?_, ?_, ?_⟩, ?_, fun k j h1 h2 h3 => ?_, fun j hj => ?_⟩
    · rw [gs 13 12 (by omega) (by omega) (by omega)]; exact b2
    · rw [gs 13 14 (by omega) (by omega) (by omega), b3, hg2 13 14 (by omega), hsort3]
    · rw [gs 21 _ (by omega) (by omega) (by omega)]; exact b4
    · rw [gs 14 _ (by omega) (by omega) (by omega)]; exact b6
    · rw [gs 15 _ (by omega) (by omega) (by omega)]; exact b7
    · rw [gs 17 _ (by omega) (by omega) (by omega)]; exact b8
    · rw [gs 16 _ (by omega) (by omega) (by omega)]; exact b9
    · rw [gs 18 _ (by omega) (by omega) (by omega)]; exact b10
    · rw [gs 19 _ (by omega) (by omega) (by omega)]; exact b11
    · rw [gs 20 _ (by omega) (by omega) (by omega)]; exact b12
    · rw [gs 23 _ (by omega) (by omega) (by omega)]; exact b13
    · rw [gs 24 _ (by omega) (by omega) (by omega)]; exact b14
    · rw [gs 25 _ (by omega) (by omega) (by omega)]; exact b15
    · exact OFF.tr (hu.mono (fun k j hp => by omega)) (OFF.tr (hO4.mono (fun k j hp => by omega)) (n3.mono (fun k j hp => by omega)))
    · rw [gu k j (by omega) (by omega), g4 k j (by omega), (b16 k j (by omega)).1, hg2 k j (by omega)]
    · rw [gu 31 j (by omega) (by omega), g4 31 j (by omega), (b16 31 j (by omega)).1, hg2 31 j (by omega)]
  by_cases q : fnd f x (SL s) = 0
  · rw [decide_eq_true q, if_pos rfl]
    obtain ⟨u, u1, u2, u3, u4⟩ := h93 w4 OFF.rf
    obtain ⟨e1, e2, e3, e4, e5, e6, e7, e8⟩ := hend w4 u u4
    refine ⟨u, u1, e1, e2, e3, e4, e5, u2, ?_, e6, e7, e8⟩
    rw [u3, hfl4, if_pos q]
  · rw [decide_eq_false q, if_neg (by simp), ltq]
    obtain ⟨g1, g2⟩ := note_ok (num := 3) (a := t) h3.1 htz
    obtain ⟨u, u1, u2, u3, u4⟩ := h93 _ g2
    obtain ⟨e1, e2, e3, e4, e5, e6, e7, e8⟩ := hend w4 u u4
    refine ⟨u, u1, e1, e2, e3, e4, e5, u2, ?_, e6, e7, e8⟩
    rw [u3, g1, hfl4, if_neg q]
end JT
