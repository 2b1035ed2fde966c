/-! THE REFERENCE KEEPS WHAT IT MADE: the VARIABLES of each BLOCK -/
section SF9
variable {w u : Wd}
theorem VLS.agr {ks : List Nat} : ∀ {x : Int32} {u w : Wd}, VLS w ks x → (∀ k ∈ ks, gi u 82 k = gi w 82 k) → VLS u ks x := by
  induction ks with
  | nil => exact fun h _ => h
  | cons k r ih =>
    intro x u w ⟨h1, h2, h3⟩ hA
    refine ⟨h1, h2, ?_⟩
    rw [hA k List.mem_cons_self]
    exact ih h3 (fun y hy => hA y (List.mem_cons_of_mem _ hy))
/-- the list of a SCOPE is gone over -/
theorem list_lp {k9 : Int32 → Wd → Option Wd} {bk : Nat} (hb : bk < 9000) : ∀ (l : List Nat) (ks : List Nat) (fo : Nat) (x : Int32) (w : Wd), LNM w x l → (∀ i ∈ l, i < 5000) → l.Nodup → (∀ i ∈ l, i ∉ ks) → VLS w ks (gi w 81 bk) → ∃ u ks', oX12_keep_376 k9 (fo + l.length + 1) (Int32.ofNat bk) x w = k9 (Int32.ofNat (bk + 1)) u ∧ VLS u ks' (gi u 81 bk) ∧ (∀ k, k ∈ ks' ↔ k ∈ ks ∨ k ∈ l ∧ gi w 19 k = 1 ∧ gi w 27 k = 0) ∧ ks'.length ≤ ks.length + l.length ∧ OFF (fun k j => k = 81 ∧ j = bk ∨ k = 82 ∧ j ∈ l) u w := by
  intro l
  induction l with
  | nil =>
    intro ks fo x w h _ _ _ hV
    have h : x = -1 := h
    refine ⟨w, ks, ?_, hV, fun k => ⟨Or.inl, fun h => h.elim id (fun h => absurd h.1 (by simp))⟩, Nat.le_refl _, OFF.rf⟩
    show fX12_keep_376 k9 _ _ x w = _
    unfold fX12_keep_376
    rw [h, if_pos (by decide), ltq, ad1_iN]
  | cons i r ih =>
    intro ks fo x w ⟨hx, hL⟩ hi hnd hks hV
    have hi5 := hi i List.mem_cons_self
    obtain ⟨hn1, hn2⟩ := List.nodup_cons.mp hnd
    have hrun : oX12_keep_376 k9 (fo + (i :: r).length + 1) (Int32.ofNat bk) x w = fX12_keep_376 k9 (oX12_keep_376 k9 (fo + r.length + 1)) (Int32.ofNat bk) x w := by
      rw [show fo + (i :: r).length + 1 = (fo + r.length + 1) + 1 by rw [List.length_cons]; omega]
      rfl
    rw [hrun]
    unfold fX12_keep_376
    rw [hx, if_neg (nlt0 (by omega)), if_pos (inb_iN hi5 (by omega)), tc_iN (by omega)]
    by_cases c19 : gi w 19 i = 1
    · rw [if_pos c19, if_pos (inb_iN hi5 (by omega))]
      by_cases c27 : gi w 27 i = 0
      · rw [if_pos c27, if_pos (inb_iN hb (by omega)), if_pos (inb_iN hi5 (by omega)), ltq, tc_iN (by omega), if_pos (inb_iN hb (by omega)), ltq, if_pos (inb_iN hi5 (by omega)), ltq]
        have O : OFF (fun k j => k = 81 ∧ j = bk ∨ k = 82 ∧ j = i) (si (si w 82 i (gi w 81 bk)) 81 bk (Int32.ofNat i)) w := OFF.tr (OFF.si (by omega)) (OFF.si (by omega))
        have a81 : gi (si (si w 82 i (gi w 81 bk)) 81 bk (Int32.ofNat i)) 81 bk = Int32.ofNat i := gi_si0 _ _ _ _
        have a82 : gi (si (si w 82 i (gi w 81 bk)) 81 bk (Int32.ofNat i)) 82 i = gi w 81 bk := by rw [gi_si1 (by omega), gi_si0]
        generalize si (si w 82 i (gi w 81 bk)) 81 bk (Int32.ofNat i) = w2 at O a81 a82 ⊢
        have hik : i ∉ ks := hks i List.mem_cons_self
        rw [(O 21 i (by omega)).1]
        obtain ⟨u, ks', h1, h2, h3, h4, h5⟩ := ih (i :: ks) fo (gi w 21 i) w2 (hL.agr fun y _ => (O 21 y (by omega)).1) (fun y hy => hi y (List.mem_cons_of_mem _ hy)) hn2 (fun y hy hm => by
          rcases List.mem_cons.mp hm with rfl | hm
          · exact hn1 hy
          · exact hks y (List.mem_cons_of_mem _ hy) hm) (by
          refine ⟨a81, hi5, ?_⟩
          rw [a82]
          exact hV.agr (fun y hy => (O 82 y (fun q => by
            rcases q with q | q
            · omega
            · rw [q.2] at hy; exact hik hy)).1))
        refine ⟨u, ks', h1, h2, fun k => ?_, by rw [List.length_cons] at h4 ⊢; omega, OFF.tr (h5.mono fun k j q => q.imp id (fun q => ⟨q.1, List.mem_cons_of_mem _ q.2⟩)) (O.mono fun k j q => q.imp id (fun q => ⟨q.1, by rw [q.2]; exact List.mem_cons_self⟩))⟩
        rw [h3, (O 19 k (by omega)).1, (O 27 k (by omega)).1]
        constructor
        · rintro (h | h)
          · rcases List.mem_cons.mp h with rfl | h
            · exact Or.inr ⟨List.mem_cons_self, c19, c27⟩
            · exact Or.inl h
          · exact Or.inr ⟨List.mem_cons_of_mem _ h.1, h.2⟩
        · rintro (h | h)
          · exact Or.inl (List.mem_cons_of_mem _ h)
          · rcases List.mem_cons.mp h.1 with rfl | h'
            · exact Or.inl List.mem_cons_self
            · exact Or.inr ⟨h', h.2⟩
      · rw [if_neg c27, if_pos (inb_iN hi5 (by omega)), ltq]
        obtain ⟨u, ks', h1, h2, h3, h4, h5⟩ := ih ks fo (gi w 21 i) w hL (fun y hy => hi y (List.mem_cons_of_mem _ hy)) hn2 (fun y hy => hks y (List.mem_cons_of_mem _ hy)) hV
        refine ⟨u, ks', h1, h2, fun k => ?_, by rw [List.length_cons]; omega, h5.mono fun k j q => q.imp id (fun q => ⟨q.1, List.mem_cons_of_mem _ q.2⟩)⟩
        rw [h3]
        refine or_congr_right ⟨fun h => ⟨List.mem_cons_of_mem _ h.1, h.2⟩, fun h => ?_⟩
        rcases List.mem_cons.mp h.1 with rfl | h'
        · exact absurd h.2.2 c27
        · exact ⟨h', h.2⟩
    · rw [if_neg c19, if_pos (inb_iN hi5 (by omega)), ltq]
      obtain ⟨u, ks', h1, h2, h3, h4, h5⟩ := ih ks fo (gi w 21 i) w hL (fun y hy => hi y (List.mem_cons_of_mem _ hy)) hn2 (fun y hy => hks y (List.mem_cons_of_mem _ hy)) hV
      refine ⟨u, ks', h1, h2, fun k => ?_, by rw [List.length_cons]; omega, h5.mono fun k j q => q.imp id (fun q => ⟨q.1, List.mem_cons_of_mem _ q.2⟩)⟩
      rw [h3]
      refine or_congr_right ⟨fun h => ⟨List.mem_cons_of_mem _ h.1, h.2⟩, fun h => ?_⟩
      rcases List.mem_cons.mp h.1 with rfl | h'
      · exact absurd h.2.1 c19
      · exact ⟨h', h.2⟩
end SF9
