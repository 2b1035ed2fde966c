/-! FEED, END, OUT, COUNT: both faces alike -/
/-- the TEXT, n bytes of it -/
def TXT (n : Nat) (wA wM : Wd) : Prop := n ≤ 8192 ∧ gi wA 0 3 = Int32.ofNat n ∧ gi wM 0 2 = Int32.ofNat n ∧ ∀ i, i < n → gi wM 1 i &&& 255 = gi wA 1 i ∧ ∃ b : Nat, b < 256 ∧ gi wA 1 i = Int32.ofNat b ∧ (b < 128 → gi wM 1 i = Int32.ofNat b)
def FLT (wA wM : Wd) : Prop := gi wA 0 4 = gi wM 0 12 ∧ gi wA 0 5 = gi wM 0 13
/-- what the latest RUN left -/
def RES (wA wM : Wd) : Prop := (∃ p : Nat, p ≤ 20000 ∧ gi wA 56 3 = Int32.ofNat p ∧ gi wM 0 139 = Int32.ofNat p ∧ ∀ i, i < p → i < 500 → gl wA 55 i = gl wM 86 i) ∧ gi wA 56 4 = gi wM 0 137 ∧ gi wA 56 5 = gi wM 0 135 ∧ gi wA 56 6 = gi wM 0 136 ∧ gi wA 56 7 = 0
/-- four bytes more, on the class's side -/
def XA (n m : Nat) (k j : Nat) : Prop := (k = 0 ∧ j = 3) ∨ (k = 1 ∧ n ≤ j ∧ j < m)
theorem rsi_iN {w : Wd} {k m n : Nat} {v : Int32} (h : n < m) (hm : m < 2147483648) : rsi w k m (Int32.ofNat n) v = si w k n v := by
  unfold rsi
  rw [if_pos (inb_iN h hm), tc_iN (by omega)]
theorem rgi_iN {w : Wd} {k m n : Nat} (h : n < m) (hm : m < 2147483648) : rgi w k m (Int32.ofNat n) = gi w k n := by
  unfold rgi
  rw [if_pos (inb_iN h hm), tc_iN (by omega)]
theorem rsl_iN {w : Wd} {k m n : Nat} {v : Int64} (h : n < m) (hm : m < 2147483648) : rsl w k m (Int32.ofNat n) v = sl w k n v := by
  unfold rsl
  rw [if_pos (inb_iN h hm), tc_iN (by omega)]
theorem rgl_iN {w : Wd} {k m n : Nat} (h : n < m) (hm : m < 2147483648) : rgl w k m (Int32.ofNat n) = gl w k n := by
  unfold rgl
  rw [if_pos (inb_iN h hm), tc_iN (by omega)]
theorem rsi_iNn {w : Wd} {k m n : Nat} {v : Int32} (h : m ≤ n) (hn : n < 2147483648) : rsi w k m (Int32.ofNat n) v = w := by
  unfold rsi
  rw [inb_iNn h hn]
  rfl
theorem FU_ge {k : Nat} (h : k ≤ 1000000000) : ∃ f, FU = f + k := ⟨FU - k, by unfold FU; omega⟩
theorem append_step {n : Nat} {v s s' : Int32} {w : Wd} {K : Int32 → Int32 → Wd → Option Wd} (hn : n < 8192) (h : gi w 0 3 = Int32.ofNat n) (hs : ¬ s < 0) (hs' : s + (-8) = s') : fX11_append_3 K v s w = K v s' (si (si w 1 n (bA v s)) 0 3 (Int32.ofNat (n + 1))) := by
  unfold fX11_append_3
  rw [if_neg hs]
  dsimp only [lt]
  rw [h, rsi_iN hn (by omega), hs']
  show K v s' (si (si w 1 n (bA v s)) 0 3 (gi (si w 1 n (bA v s)) 0 3 + 1)) = _
  rw [gi_si1 (by omega), h, ad1_iN]
theorem append_ok {n : Nat} {v : Int32} {w : Wd} (hn : n + 4 ≤ 8192) (h : gi w 0 3 = Int32.ofNat n) : ∃ u, fX11_append v w = some u ∧ gi u 0 3 = Int32.ofNat (n + 4) ∧ gi u 1 n = bA v 24 ∧ gi u 1 (n + 1) = bA v 16 ∧ gi u 1 (n + 2) = bA v 8 ∧ gi u 1 (n + 3) = bA v 0 ∧ OFF (XA n (n + 4)) u w := by
  unfold fX11_append
  obtain ⟨f, hf⟩ := FU_ge (k := 5) (by omega)
  rw [hf]
  show ∃ u, fX11_append_3 (fX11_append_3 (fX11_append_3 (fX11_append_3 (fX11_append_3 (oX11_append_3 f))))) v 24 w = some u ∧ _
  rw [append_step (s' := 16) (by omega) h (by decide) (by decide), append_step (n := n + 1) (s' := 8) (by omega) (gi_si0 _ _ _ _) (by decide) (by decide), append_step (n := n + 2) (s' := 0) (by omega) (gi_si0 _ _ _ _) (by decide) (by decide), append_step (n := n + 3) (s' := -8) (by omega) (gi_si0 _ _ _ _) (by decide) (by decide)]
  refine ⟨_, by unfold fX11_append_3; rw [if_pos (by decide)], gi_si0 _ _ _ _, ?_, ?_, ?_, ?_, fun k j hp => ?_⟩
  · repeat first | rw [gi_si0] | rw [gi_si1 (by omega)]
  · repeat first | rw [gi_si0] | rw [gi_si1 (by omega)]
  · repeat first | rw [gi_si0] | rw [gi_si1 (by omega)]
  · repeat first | rw [gi_si0] | rw [gi_si1 (by omega)]
  · refine ⟨?_, rfl⟩
    unfold XA at hp
    repeat rw [gi_si1 (by omega)]
def XM (n m : Nat) (k j : Nat) : Prop := (k = 0 ∧ j = 2) ∨ (k = 1 ∧ n ≤ j ∧ j < m)
theorem four_step {n : Nat} {v s s' : Int32} {w : Wd} {K : Int32 → Int32 → Wd → Option Wd} (hn : n < 8192) (h : gi w 0 2 = Int32.ofNat n) (hs : ¬ s < 0) (hs' : s + (-8) = s') : fX12_four_3 K v s w = K v s' (si (si w 1 n (bM v s)) 0 2 (Int32.ofNat (n + 1))) := by
  unfold fX12_four_3
  rw [if_neg hs]
  dsimp only [lt]
  rw [h, if_pos (inb_iN hn (by omega)), tc_iN (by omega), hs']
  show K v s' (si (si w 1 n (bM v s)) 0 2 (gi (si w 1 n (bM v s)) 0 2 + 1)) = _
  rw [gi_si1 (by omega), h, ad1_iN]
theorem four_ok {n : Nat} {v : Int32} {w : Wd} (hn : n + 4 ≤ 8192) (h : gi w 0 2 = Int32.ofNat n) : ∃ u, fX12_four v w = some u ∧ gi u 0 2 = Int32.ofNat (n + 4) ∧ gi u 1 n = bM v 24 ∧ gi u 1 (n + 1) = bM v 16 ∧ gi u 1 (n + 2) = bM v 8 ∧ gi u 1 (n + 3) = bM v 0 ∧ OFF (XM n (n + 4)) u w := by
  unfold fX12_four
  obtain ⟨f, hf⟩ := FU_ge (k := 5) (by omega)
  rw [hf]
  show ∃ u, fX12_four_3 (fX12_four_3 (fX12_four_3 (fX12_four_3 (fX12_four_3 (oX12_four_3 f))))) v 24 w = some u ∧ _
  rw [four_step (s' := 16) (by omega) h (by decide) (by decide), four_step (n := n + 1) (s' := 8) (by omega) (gi_si0 _ _ _ _) (by decide) (by decide), four_step (n := n + 2) (s' := 0) (by omega) (gi_si0 _ _ _ _) (by decide) (by decide), four_step (n := n + 3) (s' := -8) (by omega) (gi_si0 _ _ _ _) (by decide) (by decide)]
  refine ⟨_, by unfold fX12_four_3; rw [if_pos (by decide)], gi_si0 _ _ _ _, ?_, ?_, ?_, ?_, fun k j hp => ?_⟩
  · repeat first | rw [gi_si0] | rw [gi_si1 (by omega)]
  · repeat first | rw [gi_si0] | rw [gi_si1 (by omega)]
  · repeat first | rw [gi_si0] | rw [gi_si1 (by omega)]
  · repeat first | rw [gi_si0] | rw [gi_si1 (by omega)]
  · refine ⟨?_, rfl⟩
    unfold XM at hp
    repeat rw [gi_si1 (by omega)]
/-- both get the four bytes of a number -/
theorem txt_four {n : Nat} {v : Int32} {wA wM : Wd} (h : TXT n wA wM) (hn : n + 4 ≤ 8192) : ∃ u z, fX11_append v wA = some u ∧ fX12_four v wM = some z ∧ TXT (n + 4) u z ∧ OFF (XA n (n + 4)) u wA ∧ OFF (XM n (n + 4)) z wM := by
  obtain ⟨h1, h2, h3, h4⟩ := h
  obtain ⟨u, e1, a0, a1, a2, a3, a4, a5⟩ := append_ok (v := v) hn h2
  obtain ⟨z, e2, b0, b1, b2, b3, b4, b5⟩ := four_ok (v := v) hn h3
  have rg : ∀ s, bM v s &&& 255 = bA v s → ∃ b : Nat, b < 256 ∧ bA v s = Int32.ofNat b ∧ (b < 128 → bM v s = Int32.ofNat b) := fun s hs => by
    obtain ⟨b, hb, h1, h2⟩ := bM_sx v s
    exact ⟨b, hb, hs.symm.trans h1, h2⟩
  refine ⟨u, z, e1, e2, ⟨hn, a0, b0, fun i hi => ?_⟩, a5, b5⟩
  by_cases q : i < n
  · rw [(a5 1 i (by unfold XA; omega)).1, (b5 1 i (by unfold XM; omega)).1]
    exact h4 i q
  · rcases (show i = n ∨ i = n + 1 ∨ i = n + 2 ∨ i = n + 3 by omega) with rfl | rfl | rfl | rfl
    · rw [a1, b1]; exact ⟨bM_24 v, rg _ (bM_24 v)⟩
    · rw [a2, b2]; exact ⟨bM_16 v, rg _ (bM_16 v)⟩
    · rw [a3, b3]; exact ⟨bM_8 v, rg _ (bM_8 v)⟩
    · rw [a4, b4]; exact ⟨bM_0 v, rg _ (bM_0 v)⟩
def YA (k j : Nat) : Prop := (k = 0 ∧ j = 3) ∨ k = 1
def YM (k j : Nat) : Prop := (k = 0 ∧ (j = 0 ∨ j = 2)) ∨ k = 1
theorem XA.Y {n m k j : Nat} (h : XA n m k j) : YA k j := h.elim Or.inl (fun q => Or.inr q.1)
theorem XM.Y {n m k j : Nat} (h : XM n m k j) : YM k j := h.elim (fun q => Or.inl ⟨q.1, Or.inr q.2⟩) (fun q => Or.inr q.1)
theorem face_feed {n : Nat} {a1 a2 a3 a4 a5 : Int32} {wA wM : Wd} (h : TXT n wA wM) : ∃ o u r v n', fX11_feed a1 a2 a3 a4 a5 wA = some (o, u) ∧ fX12_feed a1 a2 a3 a4 a5 wM = some (r, v) ∧ AN 1 o r v ∧ TXT n' u v ∧ OFF YA u wA ∧ OFF YM v wM := by
  have h9 := h
  obtain ⟨h1, h2, h3, h4⟩ := h9
  unfold fX11_feed fX12_feed
  have e20 : (20 : Int32) = Int32.ofNat 20 := rfl
  have e81 : (8192 : Int32) = Int32.ofNat 8192 := rfl
  rw [h2, h3, e20, e81, add_iN]
  by_cases hc : n + 20 ≤ 8192
  · rw [if_pos ((le_iN (by omega) (by omega)).mpr hc), if_pos ((le_iN (by omega) (by omega)).mpr hc)]
    have hM0 : TXT n wA (si wM 0 0 0) := ⟨h1, h2, by rw [gi_si1 (by omega)]; exact h3, fun i hi => by rw [gi_si1 (by omega)]; exact h4 i hi⟩
    obtain ⟨u1, z1, p1, q1, t1, f1, g1⟩ := txt_four (v := a1) hM0 (by omega)
    obtain ⟨u2, z2, p2, q2, t2, f2, g2⟩ := txt_four (v := a2) t1 (by omega)
    obtain ⟨u3, z3, p3, q3, t3, f3, g3⟩ := txt_four (v := a3) t2 (by omega)
    obtain ⟨u4, z4, p4, q4, t4, f4, g4⟩ := txt_four (v := a4) t3 (by omega)
    obtain ⟨u5, z5, p5, q5, t5, f5, g5⟩ := txt_four (v := a5) t4 (by omega)
    rw [show n + 4 + 4 + 4 + 4 + 4 = n + 20 by omega] at t5
    refine ⟨some (Int32.ofNat (n + 20)), u5, Int32.ofNat (n + 20), z5, n + 20, ?_, ?_, Or.inr ⟨rfl, ?_⟩, t5, ?_, ?_⟩
    · rw [← t5.2.1, p1]
      dsimp only [bn]
      rw [p2]
      dsimp only [bn]
      rw [p3]
      dsimp only [bn]
      rw [p4]
      dsimp only [bn]
      rw [p5]
    · rw [← t5.2.2.1]
      dsimp only [lt]
      rw [q1]
      dsimp only [bn]
      rw [q2]
      dsimp only [bn]
      rw [q3]
      dsimp only [bn]
      rw [q4]
      dsimp only [bn]
      rw [q5]
    · show gi z5 0 0 = 0
      rw [(g5 0 0 (by unfold XM; omega)).1, (g4 0 0 (by unfold XM; omega)).1, (g3 0 0 (by unfold XM; omega)).1, (g2 0 0 (by unfold XM; omega)).1, (g1 0 0 (by unfold XM; omega)).1]
      exact gi_si0 _ _ _ _
    · exact (f5.mono (fun _ _ => XA.Y)).tr ((f4.mono (fun _ _ => XA.Y)).tr ((f3.mono (fun _ _ => XA.Y)).tr ((f2.mono (fun _ _ => XA.Y)).tr (f1.mono (fun _ _ => XA.Y)))))
    · exact (g5.mono (fun _ _ => XM.Y)).tr ((g4.mono (fun _ _ => XM.Y)).tr ((g3.mono (fun _ _ => XM.Y)).tr ((g2.mono (fun _ _ => XM.Y)).tr ((g1.mono (fun _ _ => XM.Y)).tr (OFF.si (Or.inl ⟨rfl, Or.inl rfl⟩))))))
  · rw [if_neg (fun q => hc ((le_iN (by omega) (by omega)).mp q)), if_neg (fun q => hc ((le_iN (by omega) (by omega)).mp q))]
    refine ⟨none, wA, 0, si wM 0 0 1, n, rfl, rfl, Or.inl ⟨rfl, gi_si0 _ _ _ _⟩, ⟨h1, h2, by rw [gi_si1 (by omega)]; exact h3, fun i hi => by rw [gi_si1 (by omega)]; exact h4 i hi⟩, OFF.rf, OFF.si (Or.inl ⟨rfl, Or.inl rfl⟩)⟩
theorem face_end {n : Nat} {a1 : Int32} {wA wM : Wd} (h : TXT n wA wM) : ∃ o u r v n', fX11_end a1 wA = some (o, u) ∧ fX12_end a1 wM = (r, v) ∧ AN 1 o r v ∧ TXT n' u v ∧ OFF YA u wA ∧ OFF YM v wM := by
  have h9 := h
  obtain ⟨h1, h2, h3, h4⟩ := h9
  unfold fX11_end fX12_end
  have no : TXT n wA (si wM 0 0 1) := ⟨h1, h2, by rw [gi_si1 (by omega)]; exact h3, fun i hi => by rw [gi_si1 (by omega)]; exact h4 i hi⟩
  by_cases hc : a1 < 0
  · rw [if_pos hc, if_pos hc]
    exact ⟨none, wA, 0, si wM 0 0 1, n, rfl, rfl, Or.inl ⟨rfl, gi_si0 _ _ _ _⟩, no, OFF.rf, OFF.si (Or.inl ⟨rfl, Or.inl rfl⟩)⟩
  rw [if_neg hc, if_neg hc]
  obtain ⟨a, ha, rfl⟩ := of_nn hc
  rw [h2, h3]
  by_cases hd : a ≤ n
  · rw [if_pos ((le_iN (by omega) (by omega)).mpr hd), if_pos ((le_iN (by omega) (by omega)).mpr hd)]
    dsimp only [lt]
    rw [gi_si1 (k := 0) (j := 0) (a := 0) (b := 2) (by omega), h3, sub_iN hd (by omega)]
    refine ⟨some (Int32.ofNat (n - a)), si wA 0 3 (Int32.ofNat (n - a)), Int32.ofNat (n - a), si (si wM 0 0 0) 0 2 (Int32.ofNat (n - a)), n - a, by rw [gi_si0], by rw [gi_si0], Or.inr ⟨rfl, by show gi (si (si wM 0 0 0) 0 2 _) 0 0 = 0; rw [gi_si1 (by omega), gi_si0]⟩, ⟨by omega, gi_si0 _ _ _ _, gi_si0 _ _ _ _, fun i hi => ?_⟩, OFF.si (Or.inl ⟨rfl, rfl⟩), ?_⟩
    · rw [gi_si1 (by omega), gi_si1 (by omega), gi_si1 (by omega)]
      exact h4 i (by omega)
    · exact (OFF.si (Or.inl ⟨rfl, Or.inr rfl⟩)).tr (OFF.si (Or.inl ⟨rfl, Or.inl rfl⟩))
  · rw [if_neg (fun q => hd ((le_iN (by omega) (by omega)).mp q)), if_neg (fun q => hd ((le_iN (by omega) (by omega)).mp q))]
    exact ⟨none, wA, 0, si wM 0 0 1, n, rfl, rfl, Or.inl ⟨rfl, gi_si0 _ _ _ _⟩, no, OFF.rf, OFF.si (Or.inl ⟨rfl, Or.inl rfl⟩)⟩
def YT (k j : Nat) : Prop := k = 0 ∧ j = 0
theorem face_out {a1 : Int32} {wA wM : Wd} (h : RES wA wM) : ∃ o r v, fX11_out a1 wA = some (o, wA) ∧ fX12_out a1 wM = some (r, v) ∧ ANL 1 o r v ∧ OFF YT v wM := by
  obtain ⟨⟨p, hp, h1, h2, h3⟩, -⟩ := h
  unfold fX11_out fX12_out
  by_cases hc : a1 < 0
  · rw [if_pos hc, if_pos hc]
    exact ⟨none, _, si wM 0 0 1, rfl, rfl, Or.inl ⟨rfl, gi_si0 _ _ _ _⟩, OFF.si ⟨rfl, rfl⟩⟩
  rw [if_neg hc, if_neg hc]
  obtain ⟨a, ha, rfl⟩ := of_nn hc
  have e1 : fX3_kept wA = Int32.ofNat (min p 500) := by
    unfold fX3_kept fX3_tally
    rw [if_neg (by decide), if_neg (by decide)]
    dsimp only [lt]
    rw [show (3 : Int32) = Int32.ofNat 3 from rfl, rgi_iN (by omega) (by omega), h1]
    unfold fJ9_min_7cf53
    rw [show (500 : Int32) = Int32.ofNat 500 from rfl]
    by_cases q : 500 < p
    · rw [if_pos ((lt_iN (by omega) (by omega)).mpr q), Nat.min_eq_right (by omega)]
    · rw [if_neg (fun z => q ((lt_iN (by omega) (by omega)).mp z)), Nat.min_eq_left (by omega)]
  have e2 : fJ9_min_7cf53 (gi wM 0 139) 500 = Int32.ofNat (min p 500) := by
    rw [h2]
    unfold fJ9_min_7cf53
    rw [show (500 : Int32) = Int32.ofNat 500 from rfl]
    by_cases q : 500 < p
    · rw [if_pos ((lt_iN (by omega) (by omega)).mpr q), Nat.min_eq_right (by omega)]
    · rw [if_neg (fun z => q ((lt_iN (by omega) (by omega)).mp z)), Nat.min_eq_left (by omega)]
  dsimp only [lt]
  rw [e1, e2]
  have hm := Nat.min_le_right p 500
  have hm' := Nat.min_le_left p 500
  by_cases hd : a < min p 500
  · rw [if_pos ((lt_iN (by omega) (by omega)).mpr hd), if_pos ((lt_iN (by omega) (by omega)).mpr hd), if_pos (inb_iN (by omega) (by omega)), tc_iN ha]
    refine ⟨some (fX3_printed (Int32.ofNat a) wA), gl wM 86 a, si wM 0 0 0, rfl, rfl, Or.inr ⟨?_, gi_si0 _ _ _ _⟩, OFF.si ⟨rfl, rfl⟩⟩
    unfold fX3_printed
    dsimp only [lt]
    rw [rgl_iN (by omega) (by omega), h3 a (by omega) (by omega)]
  · rw [if_neg (fun q => hd ((lt_iN (by omega) (by omega)).mp q)), if_neg (fun q => hd ((lt_iN (by omega) (by omega)).mp q))]
    exact ⟨none, _, si wM 0 0 1, rfl, rfl, Or.inl ⟨rfl, gi_si0 _ _ _ _⟩, OFF.si ⟨rfl, rfl⟩⟩
theorem face_count {n : Nat} {a1 : Int32} {wA wM : Wd} (ht : TXT n wA wM) (hf : FLT wA wM) (hr : RES wA wM) : ∃ r v, fX12_count a1 wM = (r, v) ∧ fX11_count a1 wA = r ∧ OFF YT v wM := by
  obtain ⟨⟨p, hp, h1, h2, h3⟩, r4, r5, r6, r7⟩ := hr
  have hs : ∀ j, j ≠ 0 → gi (si wM 0 0 0) 0 j = gi wM 0 j := fun j hj => gi_si1 (fun q => hj q.2)
  unfold fX12_count fX11_count
  dsimp only [lt]
  simp only [hs 2 (by omega), hs 12 (by omega), hs 13 (by omega), hs 139 (by omega), hs 137 (by omega), hs 135 (by omega), hs 136 (by omega)]
  have tl : ∀ k : Nat, 3 ≤ k → k ≤ 7 → fX3_tally (Int32.ofNat k) wA = gi wA 56 k := fun k g1 g2 => by
    unfold fX3_tally
    dsimp only [lt]
    rw [show (3 : Int32) = Int32.ofNat 3 from rfl, show (7 : Int32) = Int32.ofNat 7 from rfl, if_neg (fun q => absurd ((lt_iN (by omega) (by omega)).mp q) (by omega)), if_neg (fun q => absurd ((lt_iN (by omega) (by omega)).mp q) (by omega)), rgi_iN (by omega) (by omega)]
  by_cases c0 : a1 = 0
  · subst c0
    exact ⟨_, _, rfl, ht.2.1.trans ht.2.2.1.symm, OFF.si ⟨rfl, rfl⟩⟩
  by_cases c1 : a1 = 1
  · subst c1
    exact ⟨_, _, rfl, hf.1, OFF.si ⟨rfl, rfl⟩⟩
  by_cases c2 : a1 = 2
  · subst c2
    exact ⟨_, _, rfl, hf.2, OFF.si ⟨rfl, rfl⟩⟩
  rw [if_neg c0, if_neg c1, if_neg c2, if_neg c0, if_neg c1, if_neg c2]
  by_cases c3 : a1 = 3
  · subst c3
    exact ⟨_, _, rfl, (tl 3 (by omega) (by omega)).trans (h1.trans h2.symm), OFF.si ⟨rfl, rfl⟩⟩
  by_cases c4 : a1 = 4
  · subst c4
    exact ⟨_, _, rfl, (tl 4 (by omega) (by omega)).trans r4, OFF.si ⟨rfl, rfl⟩⟩
  by_cases c5 : a1 = 5
  · subst c5
    exact ⟨_, _, rfl, (tl 5 (by omega) (by omega)).trans r5, OFF.si ⟨rfl, rfl⟩⟩
  by_cases c6 : a1 = 6
  · subst c6
    exact ⟨_, _, rfl, (tl 6 (by omega) (by omega)).trans r6, OFF.si ⟨rfl, rfl⟩⟩
  by_cases c7 : a1 = 7
  · subst c7
    exact ⟨_, _, rfl, (tl 7 (by omega) (by omega)).trans r7, OFF.si ⟨rfl, rfl⟩⟩
  rw [if_neg c3, if_neg c4, if_neg c5, if_neg c6, if_neg c7]
  refine ⟨_, _, rfl, ?_, OFF.si ⟨rfl, rfl⟩⟩
  unfold fX3_tally
  by_cases d1 : a1 < 3
  · rw [if_pos d1]
  rw [if_neg d1]
  by_cases d2 : 7 < a1
  · rw [if_pos d2]
  exfalso
  have z1 := mt Int32.lt_iff_toInt_lt.mpr d1
  have z2 := mt Int32.lt_iff_toInt_lt.mpr d2
  have q3 : (3 : Int32).toInt = 3 := rfl
  have q7 : (7 : Int32).toInt = 7 := rfl
  rcases (show a1.toInt = 3 ∨ a1.toInt = 4 ∨ a1.toInt = 5 ∨ a1.toInt = 6 ∨ a1.toInt = 7 by omega) with z | z | z | z | z
  · exact c3 (Int32.toInt_inj.mp z)
  · exact c4 (Int32.toInt_inj.mp z)
  · exact c5 (Int32.toInt_inj.mp z)
  · exact c6 (Int32.toInt_inj.mp z)
  · exact c7 (Int32.toInt_inj.mp z)
