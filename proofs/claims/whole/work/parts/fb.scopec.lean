/-! PASS 2, THE CLASS: SCOPES, entered again -/
/-- SCOPES of the second pass: all their symbols are known; nsc so far, NS at all -/
def CS2 (f : Nat → Nat) (SL : Nat → List Nat) (stk : List Nat) (nsc NS ns : Nat) (hid : Int32) (w : Wd) : Prop :=
  (∀ x, x < 8192 → gi w 27 x = Int32.ofNat (lk f SL x stk)) ∧ SHD f SL nsc w stk ∧ (gi w 26 8 = Int32.ofNat nsc ∧ gi w 26 9 = Int32.ofNat (hdS stk) ∧ gi w 26 10 = hid) ∧
  (∀ s, s < NS → LNA w (gi w 31 (s + 1)) (SL s)) ∧
  (∀ s, DST f (SL s) ∧ (SL s).length ≤ 4100 ∧ ∀ i ∈ SL s, i < ns ∧ f i < 8192 ∧ gi w 29 (i + 1) = Int32.ofNat (s + 1)) ∧ (∀ i, i < ns → gi w 22 (i + 1) = Int32.ofNat (f i)) ∧ ns ≤ 4100 ∧ NS ≤ 4000 ∧ nsc ≤ NS
section SC
variable {f : Nat → Nat} {SL : Nat → List Nat} {stk : List Nat} {nsc NS ns : Nat} {hid : Int32} {u w : Wd}
theorem CS2.agr (h : CS2 f SL stk nsc NS ns hid w) (hA : ∀ k j, PSC k j → gi u k j = gi w k j) : CS2 f SL stk nsc NS ns hid u := by
  obtain ⟨a, b, ⟨c1, c2, c3⟩, d, g, i, j⟩ := h
  have q : ∀ k j, (k = 22 ∨ 27 ≤ k ∧ k ≤ 32) → gi u k j = gi w k j := fun k j hk => hA k j (by unfold PSC; omega)
  refine ⟨fun x hx => by rw [q 27 x (by omega)]; exact a x hx, b.agr (Nat.le_refl _) (fun _ _ => rfl) (fun s _ => ⟨fun i _ => q 28 _ (by omega), q 32 _ (by omega)⟩), ⟨by rw [hA 26 8 (by unfold PSC; omega)]; exact c1, by rw [hA 26 9 (by unfold PSC; omega)]; exact c2, by rw [hA 26 10 (by unfold PSC; omega)]; exact c3⟩, fun s hs => ?_, fun s => ⟨(g s).1, (g s).2.1, fun i hi => ?_⟩, fun x hx => by rw [q 22 _ (by omega)]; exact i x hx, j⟩
  · rw [q 31 _ (by omega)]
    exact (d s hs).agr (fun i _ => q 30 _ (by omega))
  · rw [q 29 _ (by omega)]
    exact (g s).2.2 i hi
theorem CS2.lk_le {x : Nat} (h : CS2 f SL stk nsc NS ns hid w) : ∀ r : List Nat, lk f SL x r ≤ ns := by
  have hg := h.2.2.2.2.1
  intro r
  induction r with
  | nil => exact Nat.zero_le _
  | cons s r ih =>
    unfold lk
    by_cases q : fnd f x (SL s) = 0
    · rw [if_pos q]; exact ih
    · rw [if_neg q]
      have := ((hg s).2.2 _ (fnd_in q).1).1
      omega
theorem CS2.lts : ∀ {stk : List Nat}, SHD f SL nsc w stk → ∀ s ∈ stk, s < nsc := by
  intro r
  induction r with
  | nil => exact fun _ s hs => absurd hs (by simp)
  | cons s r ih =>
    intro hr y hy
    rcases List.mem_cons.mp hy with rfl | hy
    · exact hr.2.2.1
    · exact ih hr.2.2.2.2 y hy
theorem b_find {x : Nat} (h : CS2 f SL stk nsc NS ns 0 w) (hx : x < 8192) : fX7_find (Int32.ofNat x) w = Int32.ofNat (lk f SL x stk) := by
  unfold fX7_find
  rw [ltq, rgi_iN (by omega) (by omega), h.1 x hx]
  have h40 : ∀ y, fX7_find_40 true y w = y := fun y => by
    unfold fX7_find_40
    exact if_pos rfl
  rw [h40, if_pos h.2.2.1.2.2]
  exact ite_self _
/-- where the innermost SCOPE is hidden -/
theorem b_findH {s x : Nat} (h : CS2 f SL (s :: stk) nsc NS ns (Int32.ofNat (s + 1)) w) (hx : x < 8192) : fX7_find (Int32.ofNat x) w = Int32.ofNat (lk f SL x stk) := by
  have hle := h.lk_le (x := x) (s :: stk)
  have hle2 := h.lk_le (x := x) stk
  have hs := CS2.lts h.2.1
  obtain ⟨a, ⟨b1, b2, b3, b4, b5⟩, ⟨c1, c2, c3⟩, d, g, i, j⟩ := h
  have hlk : lk f SL x (s :: stk) = if fnd f x (SL s) = 0 then lk f SL x stk else fnd f x (SL s) := rfl
  unfold fX7_find
  rw [ltq, rgi_iN (by omega) (by omega), a x hx, c3]
  have h40 : ∀ y, fX7_find_40 true y w = y := fun y => by
    unfold fX7_find_40
    exact if_pos rfl
  rw [h40]
  by_cases q0 : lk f SL x (s :: stk) = 0
  · rw [if_pos (by rw [q0]; rfl), q0]
    by_cases q : fnd f x (SL s) = 0
    · rw [if_pos q] at hlk; rw [← hlk, q0]
    · rw [if_neg q] at hlk; exact absurd (hlk.symm.trans q0) q
  · rw [if_neg (show ¬ (Int32.ofNat (lk f SL x (s :: stk)) = 0) from of_ne (k := 0) (by omega) (by omega) q0), if_neg (show ¬ (Int32.ofNat (s + 1) = 0) from of_ne (k := 0) (by omega) (by omega) (by omega)), rgi_iN (by omega) (by omega), ltq]
    have hno : ∀ r : List Nat, (∀ y ∈ r, y < nsc) → s ∉ r → lk f SL x r ≠ 0 → gi w 29 (lk f SL x r) ≠ Int32.ofNat (s + 1) := by
      intro r
      induction r with
      | nil => exact fun _ _ h => absurd rfl h
      | cons y r ih =>
        intro hy hsr hne
        unfold lk at hne ⊢
        by_cases q : fnd f x (SL y) = 0
        · rw [if_pos q] at hne ⊢
          exact ih (fun z hz => hy z (List.mem_cons_of_mem _ hz)) (fun hz => hsr (List.mem_cons_of_mem _ hz)) hne
        · rw [if_neg q]
          have hm := fnd_in q
          have h29 := ((g y).2.2 _ hm.1).2.2
          rw [show fnd f x (SL y) - 1 + 1 = fnd f x (SL y) by omega] at h29
          rw [h29]
          have hy1 := hy y List.mem_cons_self
          exact fun e => hsr (by
            have : y + 1 = s + 1 := (eq_iN (by omega) (by omega)).mp e
            rw [show s = y by omega]
            exact List.mem_cons_self)
    by_cases q : fnd f x (SL s) = 0
    · rw [if_pos q] at hlk
      rw [hlk] at q0 ⊢
      rw [if_neg (hno stk (fun y hy => hs y (List.mem_cons_of_mem _ hy)) b4 q0)]
    · rw [if_neg q] at hlk
      rw [hlk]
      have hm := fnd_in q
      have hg := (g s).2.2 _ hm.1
      have h29 := hg.2.2
      rw [show fnd f x (SL s) - 1 + 1 = fnd f x (SL s) by omega] at h29
      rw [if_pos h29]
      unfold fX7_find_40
      rw [if_neg (by decide), rgi_iN (by omega) (by omega), ltq]
      have hb := b1 _ hm.1
      rw [show fnd f x (SL s) - 1 + 1 = fnd f x (SL s) by omega, hm.2] at hb
      exact hb
theorem b_hide {s : Nat} (h : CS2 f SL (s :: stk) nsc NS ns 0 w) : fX7_hide w = si w 26 10 (Int32.ofNat (s + 1)) ∧ CS2 f SL (s :: stk) nsc NS ns (Int32.ofNat (s + 1)) (si w 26 10 (Int32.ofNat (s + 1))) := by
  have hO : OFF (fun k j => k = 26 ∧ j = 10) (si w 26 10 (Int32.ofNat (s + 1))) w := OFF.si ⟨rfl, rfl⟩
  obtain ⟨a, b, ⟨c1, c2, c3⟩, d, g, i, j⟩ := h
  refine ⟨?_, fun x hx => by rw [(hO 27 x (by omega)).1]; exact a x hx, b.agr (Nat.le_refl _) (fun _ _ => rfl) (fun s _ => ⟨fun i _ => (hO 28 _ (by omega)).1, (hO 32 _ (by omega)).1⟩), ⟨by rw [(hO 26 8 (by omega)).1]; exact c1, by rw [(hO 26 9 (by omega)).1]; exact c2, gi_si0 _ _ _ _⟩, fun s hs => ?_, fun s => ⟨(g s).1, (g s).2.1, fun i hi => ?_⟩, fun x hx => by rw [(hO 22 _ (by omega)).1]; exact i x hx, j⟩
  · unfold fX7_hide
    rw [c2, ltq]
    rfl
  · rw [(hO 31 _ (by omega)).1]
    exact (d s hs).agr (fun i _ => (hO 30 _ (by omega)).1)
  · rw [(hO 29 _ (by omega)).1]
    exact (g s).2.2 i hi
theorem b_showAll (h : CS2 f SL stk nsc NS ns hid w) : fX7_showAll w = si w 26 10 0 ∧ CS2 f SL stk nsc NS ns 0 (si w 26 10 0) := by
  have hO : OFF (fun k j => k = 26 ∧ j = 10) (si w 26 10 0) w := OFF.si ⟨rfl, rfl⟩
  obtain ⟨a, b, ⟨c1, c2, c3⟩, d, g, i, j⟩ := h
  refine ⟨?_, fun x hx => by rw [(hO 27 x (by omega)).1]; exact a x hx, b.agr (Nat.le_refl _) (fun _ _ => rfl) (fun s _ => ⟨fun i _ => (hO 28 _ (by omega)).1, (hO 32 _ (by omega)).1⟩), ⟨by rw [(hO 26 8 (by omega)).1]; exact c1, by rw [(hO 26 9 (by omega)).1]; exact c2, gi_si0 _ _ _ _⟩, fun s hs => ?_, fun s => ⟨(g s).1, (g s).2.1, fun i hi => ?_⟩, fun x hx => by rw [(hO 22 _ (by omega)).1]; exact i x hx, j⟩
  · unfold fX7_showAll
    rw [ltq]
  · rw [(hO 31 _ (by omega)).1]
    exact (d s hs).agr (fun i _ => (hO 30 _ (by omega)).1)
  · rw [(hO 29 _ (by omega)).1]
    exact (g s).2.2 i hi
/-- a SCOPE is entered again: its symbols are seen at once -/
theorem b_enter (h : CS2 f SL stk nsc NS ns 0 w) (hn : nsc < NS) : ∃ u, fX7_enter w = some u ∧ CS2 f SL (nsc :: stk) (nsc + 1) NS ns 0 u ∧ OFF (fun k j => (k = 26 ∧ (j = 8 ∨ j = 9)) ∨ (k = 32 ∧ j = nsc + 1) ∨ k = 27 ∨ k = 28) u w := by
  have hts := CS2.lts h.2.1
  have hle := fun x => h.lk_le (x := x) stk
  have h9 := h
  obtain ⟨a, b, ⟨c1, c2, c3⟩, d, g, i, j⟩ := h
  have hh : hdS stk ≤ nsc := by
    cases stk with
    | nil => exact Nat.zero_le _
    | cons s r =>
      have := b.2.2.1
      show s + 1 ≤ nsc
      omega
  unfold fX7_enter
  rw [ltq, c1, ad1_iN, ltq, gi_si0, show gi (si w 26 8 (Int32.ofNat (nsc + 1))) 26 9 = Int32.ofNat (hdS stk) by rw [gi_si1 (by omega)]; exact c2, rsi_iN (n := nsc + 1) (m := 4096) (by omega) (by omega), ltq, show gi (si (si w 26 8 (Int32.ofNat (nsc + 1))) 32 (nsc + 1) (Int32.ofNat (hdS stk))) 26 8 = Int32.ofNat (nsc + 1) by rw [gi_si1 (by omega), gi_si0], ltq, gi_si0, rgi_iN (n := nsc + 1) (m := 4096) (by omega) (by omega)]
  have hO : OFF (fun k j => (k = 26 ∧ (j = 8 ∨ j = 9)) ∨ (k = 32 ∧ j = nsc + 1)) (si (si (si w 26 8 (Int32.ofNat (nsc + 1))) 32 (nsc + 1) (Int32.ofNat (hdS stk))) 26 9 (Int32.ofNat (nsc + 1))) w := OFF.tr (OFF.si (Or.inl ⟨rfl, Or.inr rfl⟩)) (OFF.tr (OFF.si (Or.inr ⟨rfl, rfl⟩)) (OFF.si (Or.inl ⟨rfl, Or.inl rfl⟩)))
  have h268 : gi (si (si (si w 26 8 (Int32.ofNat (nsc + 1))) 32 (nsc + 1) (Int32.ofNat (hdS stk))) 26 9 (Int32.ofNat (nsc + 1))) 26 8 = Int32.ofNat (nsc + 1) := by rw [gi_si1 (by omega), gi_si1 (by omega), gi_si0]
  have h269 : gi (si (si (si w 26 8 (Int32.ofNat (nsc + 1))) 32 (nsc + 1) (Int32.ofNat (hdS stk))) 26 9 (Int32.ofNat (nsc + 1))) 26 9 = Int32.ofNat (nsc + 1) := gi_si0 _ _ _ _
  have h32 : gi (si (si (si w 26 8 (Int32.ofNat (nsc + 1))) 32 (nsc + 1) (Int32.ofNat (hdS stk))) 26 9 (Int32.ofNat (nsc + 1))) 32 (nsc + 1) = Int32.ofNat (hdS stk) := by rw [gi_si1 (by omega), gi_si0]
  generalize (si (si (si w 26 8 (Int32.ofNat (nsc + 1))) 32 (nsc + 1) (Int32.ofNat (hdS stk))) 26 9 (Int32.ofNat (nsc + 1))) = w0 at hO h268 h269 h32
  -- D: shown already
  have hlp : ∀ (L D : List Nat) (x : Int32) (v : Wd) (n fo : Nat), LNA w x L → SL nsc = D ++ L → n + L.length ≤ 4103 → OFF (fun k j => k = 27 ∨ k = 28) v w0 → (∀ y, y < 8192 → gi v 27 y = Int32.ofNat (if fnd f y D = 0 then lk f SL y stk else fnd f y D)) → (∀ y ∈ D, gi v 28 (y + 1) = Int32.ofNat (lk f SL (f y) stk)) → (∀ s ∈ stk, ∀ y ∈ SL s, gi v 28 (y + 1) = gi w 28 (y + 1)) →
      ∃ u, oX7_enter_47 (fo + L.length + 1) x (Int32.ofNat n) v = some u ∧ OFF (fun k j => k = 27 ∨ k = 28) u w0 ∧ (∀ y, y < 8192 → gi u 27 y = Int32.ofNat (lk f SL y (nsc :: stk))) ∧ (∀ y ∈ SL nsc, gi u 28 (y + 1) = Int32.ofNat (lk f SL (f y) stk)) ∧ (∀ s ∈ stk, ∀ y ∈ SL s, gi u 28 (y + 1) = gi w 28 (y + 1)) := by
    intro L
    induction L with
    | nil =>
      intro D x v n fo hx hD hnn hV h27 h28 h28'
      have hx0 : x = 0 := hx
      rw [List.append_nil] at hD
      show ∃ u, fX7_enter_47 _ _ _ _ = _ ∧ _
      unfold fX7_enter_47
      rw [if_pos hx0]
      refine ⟨_, rfl, hV, fun y hy => ?_, fun y hy => h28 y (by rw [← hD]; exact hy), h28'⟩
      rw [h27 y hy, ← hD]
      rfl
    | cons y L ih =>
      intro D x v n fo hx hD hnn hV h27 h28 h28'
      have hyS : y ∈ SL nsc := by rw [hD]; exact List.mem_append_right _ List.mem_cons_self
      obtain ⟨y1, y2, y3⟩ := (g nsc).2.2 y hyS
      have hst : oX7_enter_47 (fo + (y :: L).length + 1) x (Int32.ofNat n) v = fX7_enter_47 (oX7_enter_47 (fo + L.length + 1)) x (Int32.ofNat n) v := rfl
      rw [hst]
      unfold fX7_enter_47
      have hln : (y :: L).length = L.length + 1 := rfl
      have hyD : ∀ p ∈ D, f p ≠ f y := by
        have hd := (g nsc).1
        rw [hD] at hd
        have : ∀ (D : List Nat), DST f (D ++ y :: L) → ∀ p ∈ D, f p ≠ f y := by
          intro D
          induction D with
          | nil => exact fun _ p hp => absurd hp (by simp)
          | cons c D ihD =>
            intro hd p hp
            rcases List.mem_cons.mp hp with rfl | hp
            · exact fun e => (hd.1 y (List.mem_append_right _ List.mem_cons_self)).1 e.symm
            · exact ihD hd.2 p hp
        exact this D hd
      rw [hx.1, if_neg (show ¬ (Int32.ofNat (y + 1) = 0) from of_ne (k := 0) (by omega) (by omega) (by omega)), if_neg (show ¬ ((4104 : Int32) ≤ Int32.ofNat n) from nle_iN (a := 4104) (by omega) (by omega))]
      have h22v : gi v 22 (y + 1) = Int32.ofNat (f y) := by rw [(hV 22 _ (by omega)).1, (hO 22 _ (by omega)).1, i y y1]
      have hsh : fX7_show (Int32.ofNat (y + 1)) v = si (si v 28 (y + 1) (Int32.ofNat (lk f SL (f y) stk))) 27 (f y) (Int32.ofNat (y + 1)) := by
        have hnm : fX8_name (Int32.ofNat (y + 1)) v = Int32.ofNat (f y) := by
          unfold fX8_name
          rw [ltq, rgi_iN (n := y + 1) (m := 4104) (by omega) (by omega), h22v]
        unfold fX7_show
        rw [hnm, ltq, rgi_iN (by omega) (by omega), h27 _ y2, fnd_no hyD, if_pos rfl, ltq, rsi_iN (by omega) (by omega), ltq, rsi_iN (by omega) (by omega), ltq]
      rw [ltq, hsh, ltq, rgi_iN (n := y + 1) (m := 4104) (by omega) (by omega), gi_si1 (by omega), gi_si1 (by omega), (hV 30 _ (by omega)).1, (hO 30 _ (by omega)).1, ad1_iN, ltq]
      refine ih (D ++ [y]) _ _ (n + 1) fo hx.2 (by rw [hD, List.append_assoc]; rfl) (by omega) (OFF.tr (OFF.si (Or.inl rfl)) (OFF.tr (OFF.si (Or.inr rfl)) hV)) (fun q hq => ?_) (fun p hp => ?_) (fun s hs p hp => ?_)
      · have hap : ∀ (D : List Nat), fnd f q (D ++ [y]) = if fnd f q D = 0 then (if f y = q then y + 1 else 0) else fnd f q D := by
          intro D
          induction D with
          | nil => rfl
          | cons c D ihD =>
            show (if f c = q then c + 1 else fnd f q (D ++ [y])) = if (if f c = q then c + 1 else fnd f q D) = 0 then _ else (if f c = q then c + 1 else fnd f q D)
            by_cases qc : f c = q
            · rw [if_pos qc, if_pos qc, if_neg (by omega)]
            · rw [if_neg qc, if_neg qc, ihD]
        rw [hap D]
        by_cases qe : q = f y
        · rw [qe, gi_si0, fnd_no hyD, if_pos rfl, if_pos rfl, if_neg (by omega)]
        · rw [gi_si1 (by omega), gi_si1 (by omega), h27 q hq]
          by_cases q0 : fnd f q D = 0
          · rw [if_pos q0, if_pos q0, if_neg (show ¬ f y = q from fun e => qe e.symm), if_pos rfl]
          · rw [if_neg q0, if_neg q0, if_neg q0]
      · rcases List.mem_append.mp hp with hp | hp
        · have hpy : p ≠ y := fun e => hyD p hp (by rw [e])
          rw [gi_si1 (by omega), gi_si1 (by omega)]
          exact h28 p hp
        · rw [List.mem_singleton.mp hp, gi_si1 (by omega), gi_si0]
      · have hpy : p ≠ y := fun e => by
          have h1 := ((g s).2.2 p hp).2.2
          rw [e, y3] at h1
          have h2 := hts s hs
          have := (eq_iN (a := nsc + 1) (b := s + 1) (by omega) (by omega)).mp h1
          omega
        rw [gi_si1 (by omega), gi_si1 (by omega)]
        exact h28' s hs p hp
  obtain ⟨fo, hf⟩ := FU_ge (k := (SL nsc).length + 1) (by have := (g nsc).2.1; omega)
  rw [hf, ← Nat.add_assoc]
  obtain ⟨u, u1, u2, u3, u4, u5⟩ := hlp (SL nsc) [] (gi w0 31 (nsc + 1)) w0 0 fo (by rw [(hO 31 _ (by omega)).1]; exact d nsc hn) rfl (by have := (g nsc).2.1; omega) OFF.rf (fun y hy => by
    rw [(hO 27 _ (by omega)).1, a y hy]
    rfl) (fun y hy => absurd hy (by simp)) (fun s _ y _ => (hO 28 _ (by omega)).1)
  have hO2 : OFF (fun k j => (k = 26 ∧ (j = 8 ∨ j = 9)) ∨ (k = 32 ∧ j = nsc + 1) ∨ k = 27 ∨ k = 28) u w := OFF.tr (u2.mono fun k j hk => by omega) (hO.mono fun k j hk => by omega)
  refine ⟨u, u1, ⟨u3, ⟨u4, ?_, by omega, fun q => by have := hts nsc q; omega, b.agr (by omega) (fun _ _ => rfl) (fun s hs => ⟨fun i hi => u5 s hs i hi, (hO2 32 _ (by have := hts s hs; omega)).1⟩)⟩, ⟨?_, ?_, ?_⟩, fun s hs => ?_, fun s => ⟨(g s).1, (g s).2.1, fun y hy => ?_⟩, fun x hx => ?_, j.1, by omega⟩, hO2⟩
  · rw [(u2 32 _ (by omega)).1]; exact h32
  · rw [(u2 26 _ (by omega)).1]; exact h268
  · rw [(u2 26 _ (by omega)).1]; exact h269
  · rw [(hO2 26 10 (by omega)).1]; exact c3
  · rw [(hO2 31 _ (by omega)).1]
    exact (d s hs).agr (fun i _ => (hO2 30 _ (by omega)).1)
  · rw [(hO2 29 _ (by omega)).1]; exact (g s).2.2 y hy
  · rw [(hO2 22 _ (by omega)).1]; exact i x hx
/-- the SCOPE is left -/
theorem b_leave {s : Nat} (h : CS2 f SL (s :: stk) nsc NS ns 0 w) : ∃ u, fX7_leave w = some u ∧ CS2 f SL stk nsc NS ns 0 u ∧ OFF (fun k j => (k = 26 ∧ j = 9) ∨ k = 27) u w := by
  obtain ⟨a, b, ⟨c1, c2, c3⟩, d, g, i, j⟩ := h
  obtain ⟨b1, b2, b3, b4, b5⟩ := b
  have hlp : ∀ (L : List Nat) (x : Int32) (v : Wd) (n fo : Nat), LNA w x L → (∀ y ∈ L, y ∈ SL s) → DST f L → n + L.length ≤ 4103 → OFF (fun k j => k = 27) v w → (∀ y, y < 8192 → gi v 27 y = Int32.ofNat (if fnd f y L = 0 then lk f SL y stk else fnd f y L)) →
      ∃ u, oX7_leave_14 (fo + L.length + 1) x (Int32.ofNat n) v = some u ∧ gi u 26 9 = Int32.ofNat (hdS stk) ∧ (∀ y, y < 8192 → gi u 27 y = Int32.ofNat (lk f SL y stk)) ∧ OFF (fun k j => (k = 26 ∧ j = 9) ∨ k = 27) u w := by
    intro L
    induction L with
    | nil =>
      intro x v n fo hx hL hD hnn hO hv
      have hx0 : x = 0 := hx
      show ∃ u, fX7_leave_14 _ _ _ _ = _ ∧ _
      unfold fX7_leave_14
      have hc9 : gi v 26 9 = Int32.ofNat (s + 1) := by rw [(hO 26 9 (by omega)).1]; exact c2
      rw [if_pos hx0, ltq, hc9, rgi_iN (n := s + 1) (m := 4096) (by omega) (by omega), (hO 32 _ (by omega)).1, b2, ltq]
      refine ⟨_, rfl, gi_si0 _ _ _ _, fun y hy => ?_, OFF.tr (OFF.si (Or.inl ⟨rfl, rfl⟩)) (hO.mono (fun k j hp => Or.inr hp))⟩
      rw [gi_si1 (by omega), hv y hy]
      rfl
    | cons y L ih =>
      intro x v n fo hx hL hD hnn hO hv
      have hyS := hL y List.mem_cons_self
      obtain ⟨y1, y2, y3⟩ := (g s).2.2 y hyS
      have hst : oX7_leave_14 (fo + (y :: L).length + 1) x (Int32.ofNat n) v = fX7_leave_14 (oX7_leave_14 (fo + L.length + 1)) x (Int32.ofNat n) v := rfl
      rw [hst]
      unfold fX7_leave_14
      have hln : (y :: L).length = L.length + 1 := rfl
      rw [hx.1, if_neg (show ¬ (Int32.ofNat (y + 1) = 0) from of_ne (k := 0) (by omega) (by omega) (by omega)), if_neg (show ¬ ((4104 : Int32) ≤ Int32.ofNat n) from nle_iN (a := 4104) (by omega) (by omega))]
      have hnm : fX8_name (Int32.ofNat (y + 1)) v = Int32.ofNat (f y) := by
        unfold fX8_name
        rw [ltq, rgi_iN (n := y + 1) (m := 4104) (by omega) (by omega), (hO 22 _ (by omega)).1, i y y1]
      rw [ltq, hnm, ltq, rgi_iN (n := y + 1) (m := 4104) (by omega) (by omega), (hO 28 _ (by omega)).1, b1 y hyS, ltq, rsi_iN (n := f y) (m := 8192) y2 (by omega), ltq, rgi_iN (n := y + 1) (m := 4104) (by omega) (by omega), gi_si1 (by omega), (hO 30 _ (by omega)).1, ltq, ad1_iN]
      refine ih _ _ (n + 1) fo hx.2 (fun q hq => hL q (List.mem_cons_of_mem _ hq)) hD.2 (by omega) (OFF.tr (OFF.si rfl) hO) (fun q hq => ?_)
      by_cases qe : q = f y
      · rw [qe, gi_si0, fnd_no (fun p hp => (hD.1 p hp).1), if_pos rfl]
      · rw [gi_si1 (by omega), hv q hq]
        have hfy : fnd f q (y :: L) = fnd f q L := by
          show (if f y = q then y + 1 else fnd f q L) = _
          rw [if_neg (fun h => qe h.symm)]
        rw [hfy]
  unfold fX7_leave
  rw [ltq, c2]
  show ∃ u, oX7_leave_14 FU (rgi w 31 4096 (Int32.ofNat (s + 1))) 0 w = some u ∧ _
  rw [rgi_iN (n := s + 1) (m := 4096) (by omega) (by omega)]
  obtain ⟨fo, hf⟩ := FU_ge (k := (SL s).length + 1) (by have := (g s).2.1; omega)
  rw [hf, ← Nat.add_assoc]
  obtain ⟨u, u1, u2, u3, u4⟩ := hlp (SL s) _ w 0 fo (d s (by omega)) (fun _ h => h) (g s).1 (by have := (g s).2.1; omega) OFF.rf (fun y hy => by
    rw [a y hy]
    show Int32.ofNat (if fnd f y (SL s) = 0 then lk f SL y stk else fnd f y (SL s)) = _
    rfl)
  refine ⟨u, u1, ⟨u3, b5.agr (Nat.le_refl _) (fun _ _ => rfl) (fun s hs => ⟨fun i _ => (u4 28 _ (by omega)).1, (u4 32 _ (by omega)).1⟩), ⟨by rw [(u4 26 8 (by omega)).1]; exact c1, u2, by rw [(u4 26 10 (by omega)).1]; exact c3⟩, fun s hs => ?_, fun s => ⟨(g s).1, (g s).2.1, fun i hi => by rw [(u4 29 _ (by omega)).1]; exact (g s).2.2 i hi⟩, fun x hx => by rw [(u4 22 _ (by omega)).1]; exact i x hx, j⟩, u4⟩
  rw [(u4 31 _ (by omega)).1]
  exact (d s hs).agr (fun i _ => (u4 30 _ (by omega)).1)
end SC
