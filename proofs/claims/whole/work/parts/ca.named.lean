/-! BOTH SIDES: a formal looked up by its NAME -/
section JT
/-- the first of n from i on -/
def fst9 (f : Nat → Nat) (x : Nat) : Nat → Nat → Option Nat
  | 0, _ => none
  | n + 1, i => if f i = x then some i else fst9 f x n (i + 1)
def lk9 (d : Int32) (c0 : Nat) : Option Nat → Int32
  | none => d
  | some j => Int32.ofNat (c0 + j)
theorem fst9_ok {f : Nat → Nat} {x : Nat} : ∀ (n i j : Nat), fst9 f x n i = some j → i ≤ j ∧ j < i + n ∧ f j = x := by
  intro n
  induction n with
  | zero => intro i j h; exact absurd h (by simp [fst9])
  | succ n ih =>
    intro i j h
    unfold fst9 at h
    by_cases q : f i = x
    · rw [if_pos q] at h
      have e : i = j := Option.some.inj h
      subst e
      exact ⟨Nat.le_refl _, by omega, q⟩
    · rw [if_neg q] at h
      obtain ⟨h1, h2, h3⟩ := ih (i + 1) j h
      exact ⟨by omega, by omega, h3⟩
theorem a_fnd {f : Nat → Nat} {x p1 c0 nf : Nat} {w : Wd} (hn : nf ≤ 4200) (hx : x < 8192) (hf : ∀ i, i < nf → f i < 8192) (hsz : fX8_size_ (Int32.ofNat p1) w = Int32.ofNat nf) (hfm : ∀ i, i < nf → fX8_formal (Int32.ofNat p1) (Int32.ofNat i) w = Int32.ofNat (c0 + i)) (hnm : ∀ i, i < nf → fX8_name (Int32.ofNat (c0 + i)) w = Int32.ofNat (f i)) {fo : Nat} :
    ∀ (n i : Nat), i + n = nf → oX8_formalNamed_2 (fo + n + 1) (Int32.ofNat p1) (Int32.ofNat x) (Int32.ofNat i) w = some (lk9 0 c0 (fst9 f x n i), w) := by
  intro n
  induction n with
  | zero =>
    intro i hi
    have e : oX8_formalNamed_2 (fo + 0 + 1) (Int32.ofNat p1) (Int32.ofNat x) (Int32.ofNat i) w = fX8_formalNamed_2 (oX8_formalNamed_2 (fo + 0)) (Int32.ofNat p1) (Int32.ofNat x) (Int32.ofNat i) w := rfl
    rw [e]
    unfold fX8_formalNamed_2
    rw [ltq, hsz, if_pos ((le_iN (by omega) (by omega)).mpr (by omega))]
    rfl
  | succ n ih =>
    intro i hi
    have e : oX8_formalNamed_2 (fo + (n + 1) + 1) (Int32.ofNat p1) (Int32.ofNat x) (Int32.ofNat i) w = fX8_formalNamed_2 (oX8_formalNamed_2 (fo + n + 1)) (Int32.ofNat p1) (Int32.ofNat x) (Int32.ofNat i) w := rfl
    rw [e]
    unfold fX8_formalNamed_2 fst9
    rw [ltq, hsz, if_neg (nle_iN (by omega) (by omega)), ltq, hfm i (by omega), ltq, hnm i (by omega)]
    have hfi := hf i (by omega)
    by_cases q : f i = x
    · rw [if_pos (show Int32.ofNat (f i) = Int32.ofNat x by rw [q]), if_pos q]
      rfl
    · rw [if_neg (show ¬ (Int32.ofNat (f i) = Int32.ofNat x) from fun e => q ((eq_iN (by omega) (by omega)).mp e)), if_neg q, ltq, ad1_iN]
      exact ih (i + 1) (by omega)
theorem m_fnd {f : Nat → Nat} {vv : Nat → Int64} {x s0 nf : Nat} {w : Wd} (hn : s0 + nf ≤ 4999) (hnm : ∀ i, i < nf → gl w 18 (s0 + i) = vv (f i)) (hv : ∀ i, i < nf → (vv (f i) = vv x ↔ f i = x)) {fo : Nat} :
    ∀ (n i : Nat), i + n = nf → oX12_formalOf_11 (fo + n + 1) (vv x) (Int32.ofNat (s0 + nf)) (Int32.ofNat (s0 + i)) w = some (lk9 (-1) s0 (fst9 f x n i), w) := by
  intro n
  induction n with
  | zero =>
    intro i hi
    have e : oX12_formalOf_11 (fo + 0 + 1) (vv x) (Int32.ofNat (s0 + nf)) (Int32.ofNat (s0 + i)) w = fX12_formalOf_11 (oX12_formalOf_11 (fo + 0)) (vv x) (Int32.ofNat (s0 + nf)) (Int32.ofNat (s0 + i)) w := rfl
    rw [e]
    unfold fX12_formalOf_11
    rw [if_pos ((le_iN (by omega) (by omega)).mpr (by omega))]
    rfl
  | succ n ih =>
    intro i hi
    have e : oX12_formalOf_11 (fo + (n + 1) + 1) (vv x) (Int32.ofNat (s0 + nf)) (Int32.ofNat (s0 + i)) w = fX12_formalOf_11 (oX12_formalOf_11 (fo + n + 1)) (vv x) (Int32.ofNat (s0 + nf)) (Int32.ofNat (s0 + i)) w := rfl
    rw [e]
    unfold fX12_formalOf_11 fst9
    rw [if_neg (nle_iN (by omega) (by omega)), if_pos (inb_iN (by omega) (by omega)), tc_iN (by omega), hnm i (by omega)]
    by_cases q : f i = x
    · rw [if_pos ((hv i (by omega)).mpr q), if_pos q]
      rfl
    · rw [if_neg (fun e => q ((hv i (by omega)).mp e)), if_neg q, ltq, ad1_iN]
      exact ih (i + 1) (by omega)
end JT
