/-! PURE: the EXPRS, gone over: where one that begins at t, at DEPTH d, ends (inr), or the TOKEN with which it can't go on (inl) -/
section GR
variable (kd : Nat → Nat)
def rw_ (f : Nat → Sum Nat Nat) : Nat → Nat → Sum Nat Nat
  | 0, t => .inl t
  | n + 1, t => match f t with
    | .inl p => .inl p
    | .inr e => if kd e = 40 then rw_ f n (e + 1) else .inr e
/-- brackets: a row of what f goes over, from t on, and the sign c behind it -/
def br_ (f : Nat → Sum Nat Nat) (c t : Nat) : Sum Nat Nat := match rw_ kd f (9000 - t) t with
  | .inl p => .inl p
  | .inr e => if kd e = c then .inr (e + 1) else .inl e
def prX (W : Nat → Nat → Sum Nat Nat) (d t : Nat) : Sum Nat Nat :=
  if kd t = 3 ∨ kd t = 23 ∨ kd t = 24 then .inr (t + 1)
  else if kd t = 43 then (if 40 ≤ d then .inl (t + 1) else (match W (d + 1) (t + 1) with
    | .inl p => .inl p
    | .inr e => if kd e = 44 then .inr (e + 1) else .inl e))
  else if kd t = 2 then
    (if kd (t + 1) = 43 then (if 40 ≤ d then .inl (t + 2) else br_ kd (W (d + 1)) 44 (t + 2))
     else if kd (t + 1) = 45 then (if 40 ≤ d then .inl (t + 2) else br_ kd (W (d + 1)) 46 (t + 2))
     else .inr (t + 1))
  else .inl t
def smX (P : Nat → Nat → Sum Nat Nat) (d t : Nat) : Sum Nat Nat := match rd kd P 9 d t with
  | .inl p => .inl p
  | .inr r => .inr r.1
def whX (P W : Nat → Nat → Sum Nat Nat) (d t : Nat) : Sum Nat Nat :=
  if kd t = 15 then (if 40 ≤ d then .inl (t + 1) else (match W (d + 1) (t + 1) with
    | .inl p => .inl p
    | .inr e1 => if kd e1 = 16 then (match smX kd P (d + 1) (e1 + 1) with
      | .inl p => .inl p
      | .inr e2 => if kd e2 = 17 then W (d + 1) (e2 + 1) else .inl e2) else .inl e1))
  else smX kd P d t
/-- what's whole, with at most k DEPTHS more -/
def xw : Nat → Nat → Nat → Sum Nat Nat
  | 0, _, t => .inl t
  | k + 1, d, t => whX kd (prX kd (xw k)) (xw k) d t
abbrev xp (k : Nat) : Nat → Nat → Sum Nat Nat := prX kd (xw kd k)
end GR
section GRT
variable {kd : Nat → Nat}
theorem rw_lt {f : Nat → Sum Nat Nat} (hf : ∀ t e, f t = .inr e → t < e) : ∀ (n t e : Nat), rw_ kd f n t = .inr e → t < e := by
  intro n
  induction n with
  | zero => exact fun t e h => nomatch h
  | succ n ih =>
    intro t e h
    unfold rw_ at h
    rcases hx : f t with p | e1
    · rw [hx] at h; exact nomatch h
    · rw [hx] at h
      dsimp only at h
      have := hf _ _ hx
      by_cases q : kd e1 = 40
      · rw [if_pos q] at h
        have := ih _ _ h
        omega
      · rw [if_neg q] at h
        injection h with h
        omega
theorem br_lt {f : Nat → Sum Nat Nat} (hf : ∀ t e, f t = .inr e → t < e) {c t e : Nat} (h : br_ kd f c t = .inr e) : t < e := by
  unfold br_ at h
  rcases hx : rw_ kd f (9000 - t) t with p | e1
  · rw [hx] at h; exact nomatch h
  · rw [hx] at h
    dsimp only at h
    have := rw_lt hf _ _ _ hx
    by_cases q : kd e1 = c
    · rw [if_pos q] at h
      injection h with h
      omega
    · rw [if_neg q] at h; exact nomatch h
theorem prX_lt {W : Nat → Nat → Sum Nat Nat} (hW : ∀ d t e, W d t = .inr e → t < e) {d t e : Nat} (h : prX kd W d t = .inr e) : t < e := by
  unfold prX at h
  split at h
  · injection h with h; omega
  · split at h
    · split at h
      · exact nomatch h
      · rcases hx : W (d + 1) (t + 1) with p | e1
        · rw [hx] at h; exact nomatch h
        · rw [hx] at h
          dsimp only at h
          have := hW _ _ _ hx
          split at h
          · injection h with h; omega
          · exact nomatch h
    · split at h
      · split at h
        · split at h
          · exact nomatch h
          · have := br_lt (fun t e => hW (d + 1) t e) h; omega
        · split at h
          · split at h
            · exact nomatch h
            · have := br_lt (fun t e => hW (d + 1) t e) h; omega
          · injection h with h; omega
      · exact nomatch h
theorem smX_lt {P : Nat → Nat → Sum Nat Nat} (hP : ∀ d t e, P d t = .inr e → t < e) {d t e : Nat} (h : smX kd P d t = .inr e) : t < e := by
  unfold smX at h
  rcases hx : rd kd P 9 d t with p | r
  · rw [hx] at h; exact nomatch h
  · rw [hx] at h
    injection h with h
    have := rd_lt hP _ _ _ _ hx
    omega
theorem xw_lt : ∀ k d t e : Nat, xw kd k d t = .inr e → t < e := by
  intro k
  induction k with
  | zero => exact fun d t e h => nomatch h
  | succ k ih =>
    intro d t e h
    have hP : ∀ d t e, prX kd (xw kd k) d t = .inr e → t < e := fun d t e h => prX_lt ih h
    unfold xw at h
    unfold whX at h
    split at h
    · split at h
      · exact nomatch h
      · rcases h1 : xw kd k (d + 1) (t + 1) with p | e1
        · rw [h1] at h; exact nomatch h
        · rw [h1] at h
          dsimp only at h
          have := ih _ _ _ h1
          split at h
          · rcases h2 : smX kd (prX kd (xw kd k)) (d + 1) (e1 + 1) with p | e2
            · rw [h2] at h; exact nomatch h
            · rw [h2] at h
              dsimp only at h
              have := smX_lt hP h2
              split at h
              · have := ih _ _ _ h; omega
              · exact nomatch h
          · exact nomatch h
    · exact smX_lt hP h
theorem xp_lt (k d t e : Nat) (h : xp kd k d t = .inr e) : t < e := prX_lt (xw_lt k) h
theorem prX_0 {W : Nat → Nat → Sum Nat Nat} {d t : Nat} (h : kd t ≤ 1) : prX kd W d t = .inl t := by
  unfold prX
  rw [if_neg (by omega), if_neg (by omega), if_neg (by omega)]
end GRT
/-! THE REFERENCE's TOKENS, and how it takes them -/
theorem kM_inj : ∀ a, a < 51 → ∀ b, b < 51 → kM a = kM b → a = b := by decide +kernel
theorem kM_lt : ∀ a, a < 51 → kM a < 300 := by decide +kernel
theorem kM_eq {a b : Nat} (ha : a ≤ 50) (hb : b ≤ 50) : Int32.ofNat (kM a) = Int32.ofNat (kM b) ↔ a = b := by
  rw [eq_iN (by have := kM_lt a (by omega); omega) (by have := kM_lt b (by omega); omega)]
  exact ⟨kM_inj a (by omega) b (by omega), fun h => by rw [h]⟩
/-- the TOKENS as the reference has them: kinds, places; the one at m is the end or strange -/
def TV (kd wr : Nat → Nat) (m : Nat) (w : Wd) : Prop := m ≤ 8193 ∧ kd m ≤ 1 ∧ (∀ i, i < m → 2 ≤ kd i) ∧ (∀ i, kd i ≤ 50) ∧ ∀ i, i ≤ m → gi w 2 i = Int32.ofNat (kM (kd i)) ∧ gi w 3 i = Int32.ofNat (wr i)
def SM (kd wr : Nat → Nat) (m : Nat) (w : Wd) (t d : Nat) : Prop := TV kd wr m w ∧ t ≤ m ∧ d ≤ 41 ∧ gi w 0 7 = Int32.ofNat t ∧ gi w 0 8 = Int32.ofNat d
section SMR
variable {kd wr : Nat → Nat} {m : Nat} {w : Wd} {t d : Nat}
theorem SM.si (h : SM kd wr m w t d) {k j : Nat} {v : Int32} (h2 : k ≠ 2 ∧ k ≠ 3) (h0 : k = 0 → j ≠ 7 ∧ j ≠ 8) : SM kd wr m (si w k j v) t d := by
  obtain ⟨⟨a1, a2, a3, a4, a5⟩, b, c, e, f⟩ := h
  exact ⟨⟨a1, a2, a3, a4, fun i hi => by rw [gi_si1 (by omega), gi_si1 (by omega)]; exact a5 i hi⟩, b, c, by rw [gi_si1 (by omega)]; exact e, by rw [gi_si1 (by omega)]; exact f⟩
theorem SM.goT (h : SM kd wr m w t d) {t' : Nat} (ht : t' ≤ m) : SM kd wr m (_root_.Jvm.Pilot.CAlgolMillLaw_law_r8408_c9b5e4.si w 0 7 (Int32.ofNat t')) t' d := by
  obtain ⟨⟨a1, a2, a3, a4, a5⟩, b, c, e, f⟩ := h
  exact ⟨⟨a1, a2, a3, a4, fun i hi => by rw [gi_si1 (by omega), gi_si1 (by omega)]; exact a5 i hi⟩, ht, c, gi_si0 _ _ _ _, by rw [gi_si1 (by omega)]; exact f⟩
theorem SM.goD (h : SM kd wr m w t d) {d' : Nat} (hd : d' ≤ 41) : SM kd wr m (_root_.Jvm.Pilot.CAlgolMillLaw_law_r8408_c9b5e4.si w 0 8 (Int32.ofNat d')) t d' := by
  obtain ⟨⟨a1, a2, a3, a4, a5⟩, b, c, e, f⟩ := h
  exact ⟨⟨a1, a2, a3, a4, fun i hi => by rw [gi_si1 (by omega), gi_si1 (by omega)]; exact a5 i hi⟩, b, hd, by rw [gi_si1 (by omega)]; exact e, gi_si0 _ _ _ _⟩
theorem m_kind (h : SM kd wr m w t d) : fX12_kind w = some (Int32.ofNat (kM (kd t)), w) := by
  obtain ⟨⟨a1, a2, a3, a4, a5⟩, b, c, e, f⟩ := h
  unfold fX12_kind
  rw [e, if_pos (inb_iN (by omega) (by omega)), tc_iN (by omega), (a5 t b).1]
theorem m_bad (h : SM kd wr m w t d) : fX12_bad w = some (si w 0 9 (Int32.ofNat (wr t))) := by
  obtain ⟨⟨a1, a2, a3, a4, a5⟩, b, c, e, f⟩ := h
  unfold fX12_bad
  rw [e, if_pos (inb_iN (by omega) (by omega)), tc_iN (by omega), (a5 t b).2]
  rfl
theorem m_taken (h : SM kd wr m w t d) (hd : d ≤ 40) (hk : 2 ≤ kd t) : fX12_taken w = some (some (Int32.ofNat t), si w 0 7 (Int32.ofNat (t + 1))) := by
  have hkk := m_kind h
  obtain ⟨⟨a1, a2, a3, a4, a5⟩, b, c, e, f⟩ := h
  unfold fX12_taken
  have h1 : ¬ ((40 : Int32) < gi w 0 8) := by rw [f]; exact fun q => absurd ((lt_iN (a := 40) (b := d) (by omega) (by omega)).mp q) (by omega)
  rw [if_neg h1, hkk]
  dsimp only [bn2]
  have h2 : ¬ (Int32.ofNat (kM (kd t)) = 291) := fun q => by have := (kM_eq (a4 t) (show 0 ≤ 50 by omega)).mp q; omega
  have h3 : ¬ (Int32.ofNat (kM (kd t)) = 292) := fun q => by have := (kM_eq (a4 t) (show 1 ≤ 50 by omega)).mp q; omega
  rw [if_neg h2, hkk]
  dsimp only
  rw [if_neg h3]
  dsimp only [lt]
  rw [gi_si0, e, ad1_iN, sb1_iN (by omega) (by omega)]
  rfl
theorem m_taken_no (h : SM kd wr m w t d) (hd : d = 41 ∨ kd t ≤ 1) : fX12_taken w = some (none, si w 0 9 (Int32.ofNat (wr t))) := by
  have hkk := m_kind h
  have hb := m_bad h
  obtain ⟨⟨a1, a2, a3, a4, a5⟩, b, c, e, f⟩ := h
  unfold fX12_taken
  by_cases q : d = 41
  · have h1 : (40 : Int32) < gi w 0 8 := by rw [f]; exact (lt_iN (a := 40) (b := d) (by omega) (by omega)).mpr (by omega)
    rw [if_pos h1, hb]
    rfl
  · have h1 : ¬ ((40 : Int32) < gi w 0 8) := by rw [f]; exact fun q => absurd ((lt_iN (a := 40) (b := d) (by omega) (by omega)).mp q) (by omega)
    rw [if_neg h1, hkk]
    dsimp only [bn2]
    by_cases q0 : kd t = 0
    · have h2 : Int32.ofNat (kM (kd t)) = 291 := by rw [q0]; rfl
      rw [if_pos h2, hb]
      rfl
    · have h2 : ¬ (Int32.ofNat (kM (kd t)) = 291) := fun q => by have := (kM_eq (a4 t) (show 0 ≤ 50 by omega)).mp q; omega
      rw [if_neg h2, hkk]
      dsimp only
      have h3 : Int32.ofNat (kM (kd t)) = 292 := by rw [show kd t = 1 by omega]; rfl
      rw [if_pos h3, hb]
      rfl
theorem m_expect (h : SM kd wr m w t d) (hd : d ≤ 40) {k : Nat} {x : Int32} (hx : x = Int32.ofNat (kM k)) (hk : 2 ≤ k) (hkd : kd t = k) : fX12_expect x w = some (some (Int32.ofNat t), si w 0 7 (Int32.ofNat (t + 1))) := by
  unfold fX12_expect
  rw [m_kind h]
  dsimp only [bn2]
  rw [hkd, hx, if_pos rfl, m_taken h hd (by omega)]
  rfl
theorem m_expect_no (h : SM kd wr m w t d) {k : Nat} {x : Int32} (hx : x = Int32.ofNat (kM k)) (hk : k ≤ 50) (hkd : d = 41 ∨ kd t ≠ k) (hk2 : 2 ≤ k) : fX12_expect x w = some (none, si w 0 9 (Int32.ofNat (wr t))) := by
  unfold fX12_expect
  rw [m_kind h]
  dsimp only [bn2]
  by_cases q : kd t = k
  · rw [q, hx, if_pos rfl, m_taken_no h (Or.inl (hkd.resolve_right (fun h => h q)))]
    rfl
  · have h3 : ¬ (Int32.ofNat (kM (kd t)) = x) := fun e => q (by rw [hx] at e; exact (kM_eq (h.1.2.2.2.1 t) hk).mp e)
    rw [if_neg h3, m_bad h]
    rfl
theorem m_skip (h : SM kd wr m w t d) (hd : d ≤ 40) {k : Nat} {x : Int32} (hx : x = Int32.ofNat (kM k)) (hk : 2 ≤ k) (hkd : kd t = k) : fX12_skip x w = some (some true, si w 0 7 (Int32.ofNat (t + 1))) := by
  unfold fX12_skip
  rw [m_kind h]
  dsimp only [bn2]
  rw [hkd, hx, if_pos rfl, m_taken h hd (by omega)]
  rfl
theorem m_skip_no (h : SM kd wr m w t d) {k : Nat} {x : Int32} (hx : x = Int32.ofNat (kM k)) (hk : k ≤ 50) (hkd : kd t ≠ k) : fX12_skip x w = some (some false, w) := by
  unfold fX12_skip
  rw [m_kind h]
  dsimp only [bn2]
  have h3 : ¬ (Int32.ofNat (kM (kd t)) = x) := fun e => hkd (by rw [hx] at e; exact (kM_eq (h.1.2.2.2.1 t) hk).mp e)
  rw [if_neg h3]
end SMR
