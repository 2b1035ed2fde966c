/-! ELEMENTS, on both sides -/
section EL5
/-- where an ELEMENT lies -/
def ofE (lo hi ix : Nat → Int64) : Nat → Int64
  | 0 => 0
  | k + 1 => ofE lo hi ix k * ((hi k - lo k) + 1) + (ix k - lo k)
/-- an index within its bounds -/
def INR (lo hi ix : Nat → Int64) (k : Nat) : Prop := lo k ≤ ix k ∧ ix k ≤ hi k
variable {lo hi ix : Nat → Int64}
theorem PRZ_nn : ∀ {n : Nat}, 0 ≤ PRZ lo hi n := by
  intro n
  induction n with
  | zero => exact Int.zero_le_ofNat 1
  | succ n ih => exact Int.mul_nonneg ih (Int.le_max_right _ _)
theorem ofE_ok : ∀ {n : Nat}, (∀ k, k < n → INR lo hi ix k ∧ R36 (lo k) ∧ R36 (hi k)) → PRZ lo hi n ≤ 2000 → ∃ t : Nat, ofE lo hi ix n = Int64.ofNat t ∧ (t : Int) < PRZ lo hi n := by
  intro n
  induction n with
  | zero => exact fun _ _ => ⟨0, rfl, by show (0 : Int) < 1; omega⟩
  | succ n ih =>
    intro h hp
    obtain ⟨⟨i1, i2⟩, l1, h1⟩ := h n (by omega)
    rw [Int64.le_iff_toInt_le] at i1 i2
    unfold R36 at l1 h1
    have e : PRZ lo hi (n + 1) = PRZ lo hi n * ((hi n).toInt - (lo n).toInt + 1) := by
      show PRZ lo hi n * max ((hi n).toInt - (lo n).toInt + 1) 0 = _
      rw [Int.max_eq_left (by omega)]
    rw [e] at hp ⊢
    have hnn := PRZ_nn (lo := lo) (hi := hi) (n := n)
    generalize hf : (hi n).toInt - (lo n).toInt + 1 = f at hp ⊢
    have hf1 : 1 ≤ f := by omega
    have hle : PRZ lo hi n ≤ PRZ lo hi n * f := by
      have := Int.mul_le_mul_of_nonneg_left hf1 hnn
      rw [Int.mul_one] at this
      exact this
    obtain ⟨t, t1, t2⟩ := ih (fun k hk => h k (by omega)) (by omega)
    have hP1 : 1 ≤ PRZ lo hi n := by omega
    have hf2 : f ≤ PRZ lo hi n * f := by
      have := Int.mul_le_mul_of_nonneg_right hP1 (show 0 ≤ f by omega)
      rw [Int.one_mul] at this
      exact this
    have hf9 : f ≤ 2000 := by omega
    generalize hd : (ix n).toInt - (lo n).toInt = d at *
    have hd0 : 0 ≤ d ∧ d ≤ f - 1 := by omega
    have htf : (t : Int) * f + d < PRZ lo hi n * f := by
      have h3 : ((t : Int) + 1) * f ≤ PRZ lo hi n * f := Int.mul_le_mul_of_nonneg_right (by omega) (by omega)
      rw [Int.add_mul, Int.one_mul] at h3
      omega
    have ht0 : 0 ≤ (t : Int) * f := Int.mul_nonneg (by omega) (by omega)
    refine ⟨((t : Int) * f + d).toNat, ?_, by omega⟩
    show ofE lo hi ix n * ((hi n - lo n) + 1) + (ix n - lo n) = _
    rw [t1]
    apply Int64.toInt_inj.mp
    rw [ti64 (by omega), Int64.toInt_add, Int64.toInt_mul, Int64.toInt_add, Int64.toInt_sub, Int64.toInt_sub, ti64 (by omega), show (1 : Int64).toInt = 1 by decide, hd]
    have b1 : ((hi n).toInt - (lo n).toInt).bmod (2 ^ 64) = (hi n).toInt - (lo n).toInt := by
      rw [Int.bmod_eq_of_le] <;> omega
    have b2 : ((hi n).toInt - (lo n).toInt + 1).bmod (2 ^ 64) = f := by
      rw [hf, Int.bmod_eq_of_le] <;> omega
    have b3 : ((t : Int) * f).bmod (2 ^ 64) = (t : Int) * f := by
      rw [Int.bmod_eq_of_le] <;> omega
    have b4 : d.bmod (2 ^ 64) = d := by
      rw [Int.bmod_eq_of_le] <;> omega
    rw [b1, b2, b3, b4, Int.bmod_eq_of_le] <;> omega
variable {gA : Wd} {N a fr tp h dp el x n : Nat} {w : Wd}
/-- the class's row of indices -/
def ELA (w : Wd) (tp x h n : Nat) (lo hi ix : Nat → Int64) : Prop := n ≤ 3 ∧ x + 1 < tp ∧ h + 1 + n ≤ 30622 ∧ tp ≤ 109186 ∧ ∀ k, k < n → x + 3 + 2 * k < tp ∧ gl w 50 (x + 2 + 2 * k) = lo k ∧ gl w 50 (x + 3 + 2 * k) = hi k ∧ gl w 51 (h + 1 + k) = ix k
theorem elA_end (H : CK gA N a fr tp (h + 1 + n) dp el w) (hx : x + 1 < tp) {off : Int64} (hh : h < 30622) : fX3_element_147 (Int32.ofNat (h + 1)) (Int64.ofNat x) true off w = some (pshQ (si w 48 14 (Int32.ofNat h)) h (gl w 50 (x + 1) + off)) := by
  unfold fX3_element_147
  rw [if_pos rfl, show Int32.ofNat (h + 1) - 1 = Int32.ofNat h by rw [show (1 : Int32) = Int32.ofNat 1 from rfl, sub_iN (by omega) (by omega)]; rfl, show (0 : Int32) = Int32.ofNat 0 from rfl, mx_iN (by omega) (by omega), Nat.max_eq_left (Nat.zero_le _), ltq, ltq, show (1 : Int64) = Int64.ofNat 1 from rfl, i64_add]
  have H1 : CK gA N a fr tp h dp el (si w 48 14 (Int32.ofNat h)) := H.ps (h0 := 0) (OFF.si (Or.inl ⟨rfl, Or.inr rfl⟩)) (by rw [gi_si1 (by omega)]; exact H.2.2.1) (gi_si0 _ _ _ _) (by omega)
  rw [H1.read hx, lt2q, push_ok (gi_si0 _ _ _ _) hh, ltq]
  rfl
theorem elA_lp (H : CK gA N a fr tp (h + 1 + n) dp el w) (hE : ELA w tp x h n lo hi ix) : ∀ (m k fo : Nat), k + m = n → ((∀ q, k ≤ q → q < n → INR lo hi ix q) → oX3_element_42 (fo + m + 1) (Int32.ofNat n) (Int32.ofNat (h + 1)) (Int64.ofNat x) true (ofE lo hi ix k) (Int32.ofNat k) w = some (pshQ (si w 48 14 (Int32.ofNat h)) h (gl w 50 (x + 1) + ofE lo hi ix n))) ∧
    ((∃ q, k ≤ q ∧ q < n ∧ ¬ INR lo hi ix q) → oX3_element_42 (fo + m + 1) (Int32.ofNat n) (Int32.ofNat (h + 1)) (Int64.ofNat x) true (ofE lo hi ix k) (Int32.ofNat k) w = some (si w 48 10 1)) := by
  obtain ⟨e1, e2, e3, e4, e5⟩ := hE
  intro m
  induction m with
  | zero =>
    intro k fo hk
    have : k = n := by omega
    subst this
    refine ⟨fun _ => ?_, fun ⟨q, q1, q2, _⟩ => by omega⟩
    show fX3_element_42 _ _ _ _ _ _ _ _ = _
    unfold fX3_element_42
    rw [if_pos rfl, if_pos ((le_iN (by omega) (by omega)).mpr (Nat.le_refl _)), elA_end H e2 (by omega)]
  | succ m ih =>
    intro k fo hk
    obtain ⟨r1, r2, r3, r4⟩ := e5 k (by omega)
    have E : oX3_element_42 (fo + (m + 1) + 1) (Int32.ofNat n) (Int32.ofNat (h + 1)) (Int64.ofNat x) true (ofE lo hi ix k) (Int32.ofNat k) w = if ix k < lo k then oX3_element_42 (fo + (m + 1)) (Int32.ofNat n) (Int32.ofNat (h + 1)) (Int64.ofNat x) false (ofE lo hi ix (k + 1)) (Int32.ofNat (k + 1)) w else if hi k < ix k then oX3_element_42 (fo + (m + 1)) (Int32.ofNat n) (Int32.ofNat (h + 1)) (Int64.ofNat x) false (ofE lo hi ix (k + 1)) (Int32.ofNat (k + 1)) w else oX3_element_42 (fo + (m + 1)) (Int32.ofNat n) (Int32.ofNat (h + 1)) (Int64.ofNat x) true (ofE lo hi ix (k + 1)) (Int32.ofNat (k + 1)) w := by
      show fX3_element_42 (oX3_element_42 (fo + (m + 1))) _ _ _ _ _ _ _ = _
      unfold fX3_element_42 fX3_element_121
      rw [if_pos rfl, if_neg (fun c => absurd ((le_iN (by omega) (by omega)).mp c) (by omega)), add_iN, rgl_iN (by omega) (by omega), r4, ltq, show (2 : Int32) * Int32.ofNat k = Int32.ofNat (2 * k) from mul_iN 2 k, i64_iN (by omega), show (2 : Int64) = Int64.ofNat 2 from rfl, i64_add, i64_add, H.read (by omega), lt2q, show (3 : Int64) = Int64.ofNat 3 from rfl, i64_add, i64_add, H.read (by omega), lt2q, r2, r3]
      have eo : ofE lo hi ix k * ((hi k - lo k) + 1) + ix k - lo k = ofE lo hi ix (k + 1) := by
        show _ = ofE lo hi ix k * ((hi k - lo k) + 1) + (ix k - lo k)
        rw [Int64.sub_eq_add_neg, Int64.add_assoc, ← Int64.sub_eq_add_neg]
      rw [ltq, ltq, ltq, ltq]
      dsimp only
      rw [eo, ad1_iN]
    have F : ∀ (g : Nat) (off : Int64) (kk : Int32), oX3_element_42 (g + 1) (Int32.ofNat n) (Int32.ofNat (h + 1)) (Int64.ofNat x) false off kk w = some (si w 48 10 1) := fun g off kk => by
      show fX3_element_42 _ _ _ _ _ _ _ _ = _
      unfold fX3_element_42 fX3_element_147
      rw [if_neg (by decide), if_neg (by decide)]
      rfl
    have ih' := ih (k + 1) fo (by omega)
    by_cases q1 : ix k < lo k
    · rw [E, if_pos q1]
      refine ⟨fun hq => absurd q1 (nl64.mpr (hq k (Nat.le_refl _) (by omega)).1), fun _ => F _ _ _⟩
    by_cases q2 : hi k < ix k
    · rw [E, if_neg q1, if_pos q2]
      refine ⟨fun hq => absurd q2 (nl64.mpr (hq k (Nat.le_refl _) (by omega)).2), fun _ => F _ _ _⟩
    rw [E, if_neg q1, if_neg q2, show fo + (m + 1) = fo + m + 1 by omega]
    refine ⟨fun hq => ih'.1 (fun q a b => hq q (by omega) b), fun ⟨q, a, b, c⟩ => ih'.2 ⟨q, ?_, b, c⟩⟩
    by_cases e : q = k
    · subst e
      exact absurd ⟨nl64.mp q1, nl64.mp q2⟩ c
    · omega
end EL5
