/-! THE CLASS GOES OVER EXPRS: what stands before an operand -/
/-- signs that wait bind ever faster, but for nots -/
def CHN : List EV → Prop
  | [] => True
  | s :: S => (topS S < stg s.2.1 ∨ s.2.1 = 29 ∧ topS S = 5) ∧ CHN S
def gS (v : Nat) : Nat := if v < 5 then v else v - 1
theorem CHN.len : ∀ {S : List EV}, CHN S → S.length ≤ notS S + gS (topS S) := by
  intro S
  induction S with
  | nil => exact fun _ => Nat.zero_le _
  | cons s S ih =>
    intro h
    have h1 := ih h.2
    have h9 := stg_le s.2.1
    have e1 : (s :: S).length = S.length + 1 := rfl
    have e2 : notS (s :: S) = notS S + (if s.2.1 = 29 then 1 else 0) := rfl
    have e3 : topS (s :: S) = stg s.2.1 := rfl
    rw [e1, e2, e3]
    unfold gS at *
    by_cases q : s.2.1 = 29
    · rw [if_pos q, q, stg_29]
      have h2 : topS S ≤ 5 := by
        rcases h.1 with h | ⟨_, h⟩
        · rw [q, stg_29] at h; omega
        · omega
      split at h1 <;> split <;> omega
    · rw [if_neg q]
      have h2 : topS S < stg s.2.1 := by
        rcases h.1 with h | ⟨h, _⟩
        · exact h
        · exact absurd h q
      have h5 : stg s.2.1 ≠ 5 := fun h => q (stg_five h)
      split at h1 <;> split <;> omega
theorem CHN.le {S : List EV} (h : CHN S) : S.length ≤ notS S + 8 := by
  have h1 := h.len
  have h2 : topS S ≤ 9 := by
    cases S with
    | nil => exact Nat.zero_le _
    | cons s S => exact stg_le _
  unfold gS at h1
  split at h1 <;> omega
theorem WTS.at {base : Nat} {x : EV} {B : List EV} {w : Wd} : ∀ {T : List EV}, WTS base (T ++ x :: B) w → gi w 44 (base + B.length) = sgI x := by
  intro T
  induction T with
  | nil => exact fun h => h.1
  | cons s T ih => exact fun h => ih h.2.2
theorem sgI_29 {s : EV} (h : okE s) : (sgI s = 29) ↔ s.2.1 = 29 := by
  unfold sgI
  have hk := h.1
  by_cases q : s.1 = 1 ∧ s.2.1 ≠ 29
  · rw [if_pos q]
    rcases h.2.2.2 with ⟨_, h1 | h1 | h1⟩ | ⟨h1, _⟩
    · exact absurd h1 q.2
    · rw [h1]; decide
    · rw [h1]; decide
    · omega
  · rw [if_neg q]
    exact eq_iN (a := s.2.1) (b := 29) (by omega) (by omega)
theorem notS_app (A B : List EV) : notS (A ++ B) = notS A + notS B := by
  induction A with
  | nil => show notS B = 0 + notS B; omega
  | cons s A ih =>
    show notS (A ++ B) + (if s.2.1 = 29 then 1 else 0) = notS A + (if s.2.1 = 29 then 1 else 0) + notS B
    omega
theorem c_nots_lp {base : Nat} {w : Wd} : ∀ (n : Nat) (T B : List EV) (f a : Nat), T.length = n → gi w 43 4 = Int32.ofNat (base + (T ++ B).length) → WTS base (T ++ B) w → (∀ s ∈ T ++ B, okE s) → base + (T ++ B).length ≤ 512 →
    oX10_nots_4 (f + n + 1) (Int32.ofNat a) (Int32.ofNat (base + B.length)) w = some (Int32.ofNat (a + notS T), w) := by
  intro n
  induction n with
  | zero =>
    intro T B f a hT hw hS hok hb
    have : T = [] := List.eq_nil_of_length_eq_zero hT
    subst this
    show fX10_nots_4 (oX10_nots_4 (f + 0)) (Int32.ofNat a) (Int32.ofNat (base + B.length)) w = _
    unfold fX10_nots_4
    have hc : gi w 43 4 ≤ Int32.ofNat (base + B.length) := by
      rw [hw]
      exact yle_iN (Nat.le_refl _) (by simp at hb; omega)
    rw [if_pos hc]
    rfl
  | succ n ih =>
    intro T B f a hT hw hS hok hb
    rcases List.eq_nil_or_concat T with h | ⟨T', x, h⟩
    · rw [h] at hT; simp at hT
    · have hT2 : T = T' ++ [x] := by rw [h]; simp
      have e1 : T ++ B = T' ++ x :: B := by rw [hT2]; simp
      have hl : (T ++ B).length = T'.length + (B.length + 1) := by rw [e1]; simp
      have hln : T'.length = n := by rw [hT2] at hT; simp at hT; exact hT
      have hx := hok x (by rw [e1]; simp)
      rw [e1] at hS hok
      have hst : oX10_nots_4 (f + (n + 1) + 1) (Int32.ofNat a) (Int32.ofNat (base + B.length)) w = fX10_nots_4 (oX10_nots_4 (f + n + 1)) (Int32.ofNat a) (Int32.ofNat (base + B.length)) w := rfl
      rw [hst]
      unfold fX10_nots_4
      have hc : ¬ (gi w 43 4 ≤ Int32.ofNat (base + B.length)) := by
        rw [hw]
        exact nle_iN (by omega) (by omega)
      rw [if_neg hc]
      dsimp only [lt]
      rw [rgi_iN (n := base + B.length) (m := 512) (by omega) (by omega), hS.at, ad1_iN, ad1_iN]
      have hn := fun a' => ih T' (x :: B) f a' hln (by rw [hw, e1]) hS hok (by rw [← e1]; exact hb)
      have e2 : base + (x :: B).length = base + B.length + 1 := rfl
      rw [e2] at hn
      have e3 : notS T = notS T' + (if x.2.1 = 29 then 1 else 0) := by
        rw [hT2, notS_app]
        show notS T' + (0 + (if x.2.1 = 29 then 1 else 0)) = _
        omega
      by_cases q : x.2.1 = 29
      · rw [if_pos ((sgI_29 hx).mpr q), hn, e3, if_pos q, show a + 1 + notS T' = a + (notS T' + 1) by omega]
      · rw [if_neg (fun e => q ((sgI_29 hx).mp e)), show Int32.ofNat a + 0 = Int32.ofNat (a + 0) from add_iN a 0, hn, e3, if_neg q]
        rfl
theorem c_nots {base : Nat} {S : List EV} {w : Wd} (hw : gi w 43 4 = Int32.ofNat (base + S.length)) (hS : WTS base S w) (hok : ∀ s ∈ S, okE s) (hb : base + S.length ≤ 512) : fX10_nots (Int32.ofNat base) w = some (Int32.ofNat (notS S), w) := by
  unfold fX10_nots
  obtain ⟨f, hf⟩ := FU_ge (k := S.length + 1) (by omega)
  rw [hf, ← Nat.add_assoc]
  have h := c_nots_lp (base := base) (w := w) S.length S [] f 0 rfl (by simpa using hw) (by simpa using hS) (by simpa using hok) (by simpa using hb)
  rw [Nat.zero_add] at h
  exact h
/-- a sign is held -/
theorem c_hold {base : Nat} {S : List EV} {w : Wd} {x tk : Int32} {s : EV} (hx : x = sgI s) (htk : tk = Int32.ofNat s.2.2) (hw : gi w 43 4 = Int32.ofNat (base + S.length)) (hS : WTS base S w) (hb : base + S.length < 512) : gi (fX10_hold x tk w) 43 4 = Int32.ofNat (base + (s :: S).length) ∧ WTS base (s :: S) (fX10_hold x tk w) ∧ OFF (PSG base) (fX10_hold x tk w) w := by
  unfold fX10_hold
  dsimp only [lt]
  rw [hw, rsi_iN (n := base + S.length) (m := 512) hb (by omega), show gi (si w 44 (base + S.length) x) 43 4 = Int32.ofNat (base + S.length) by rw [gi_si1 (by omega)]; exact hw, rsi_iN (n := base + S.length) (m := 512) hb (by omega), show gi (si (si w 44 (base + S.length) x) 45 (base + S.length) tk) 43 4 = Int32.ofNat (base + S.length) by rw [gi_si1 (by omega), gi_si1 (by omega)]; exact hw, ad1_iN]
  refine ⟨gi_si0 _ _ _ _, ⟨by rw [gi_si1 (by omega), gi_si1 (by omega), gi_si0, hx], by rw [gi_si1 (by omega), gi_si0, htk], ?_⟩, ?_⟩
  · refine hS.agr (fun j hj => ?_)
    rw [gi_si1 (by omega), gi_si1 (by omega), gi_si1 (by omega), gi_si1 (by omega), gi_si1 (by omega), gi_si1 (by omega)]
    exact ⟨rfl, rfl⟩
  · exact OFF.tr (OFF.si (Or.inr (Or.inl ⟨rfl, rfl⟩))) (OFF.tr (OFF.si (Or.inr (Or.inr ⟨Or.inr rfl, by omega⟩))) (OFF.si (Or.inr (Or.inr ⟨Or.inl rfl, by omega⟩))))
