/-! THE CLASS'S STRING OF SIGNS -/
def sgb (j : Nat) : Int32 := ([43, 45, 42, 94, 60, 61, 62, 44, 59, 58, 40, 41, 91, 93] : List Int32).getD j 0
def w00 : Wd := (fun _ _ => 0, fun _ _ => 0)
theorem ixo_w {n : Nat} {f : Nat → Int32} (w : Wd) : ∀ (k : Nat) (a3 a4 a5 : Int32), oJ1_indexOfChar_4cfef_7 n f k a3 a4 a5 w = (oJ1_indexOfChar_4cfef_7 n f k a3 a4 a5 w00).map (fun p => (p.1, w)) := by
  intro k
  induction k with
  | zero => intro a3 a4 a5; rfl
  | succ k ih =>
    intro a3 a4 a5
    show fJ1_indexOfChar_4cfef_7 (oJ1_indexOfChar_4cfef_7 n f k) n f a3 a4 a5 w = (fJ1_indexOfChar_4cfef_7 (oJ1_indexOfChar_4cfef_7 n f k) n f a3 a4 a5 w00).map (fun p => (p.1, w))
    unfold fJ1_indexOfChar_4cfef_7 lt
    by_cases h1 : a3 ≤ a5
    · rw [if_pos h1, if_pos h1]; rfl
    · rw [if_neg h1, if_neg h1]
      by_cases h2 : inb a5 n = true
      · rw [if_pos h2, if_pos h2]
        by_cases h3 : f (Int32.toNatClampNeg a5) = a4
        · rw [if_pos h3, if_pos h3]; rfl
        · rw [if_neg h3, if_neg h3]; exact ih _ _ _
      · rw [if_neg h2, if_neg h2]; rfl
theorem sgn_far {c : Int32} (h : c < 0 ∨ 255 < c) : sgn c = -1 := by
  have hk : ∀ k : Int32, ¬ k < 0 → ¬ 255 < k → ¬ c = k := fun k h1 h2 e => by
    subst e
    rcases h with h | h
    · exact h1 h
    · exact h2 h
  unfold sgn
  rw [if_neg (hk 43 (by decide) (by decide)), if_neg (hk 45 (by decide) (by decide)), if_neg (hk 42 (by decide) (by decide)), if_neg (hk 94 (by decide) (by decide)), if_neg (hk 60 (by decide) (by decide)), if_neg (hk 61 (by decide) (by decide)), if_neg (hk 62 (by decide) (by decide)), if_neg (hk 44 (by decide) (by decide)), if_neg (hk 59 (by decide) (by decide)), if_neg (hk 58 (by decide) (by decide)), if_neg (hk 40 (by decide) (by decide)), if_neg (hk 41 (by decide) (by decide)), if_neg (hk 91 (by decide) (by decide)), if_neg (hk 93 (by decide) (by decide))]
theorem sgn_near : ∀ n : Nat, n < 256 → (oJ1_indexOfChar_4cfef_7 14 sgb FU 14 ((Int32.toInt8 (Int32.ofNat n)).toInt32) 0 w00).map (fun p => p.1) = some (sgn (Int32.ofNat n)) := by decide +kernel
theorem i32_small {c : Int32} (h1 : ¬ c < 0) (h2 : ¬ 255 < c) : ∃ n : Nat, n < 256 ∧ c = Int32.ofNat n := by
  have e1 := mt Int32.lt_iff_toInt_lt.mpr h1
  have e2 := mt Int32.lt_iff_toInt_lt.mpr h2
  have z : (0 : Int32).toInt = 0 := rfl
  have t : (255 : Int32).toInt = 255 := rfl
  rw [z] at e1
  rw [t] at e2
  refine ⟨c.toInt.toNat, by omega, Int32.toInt_inj.mp ?_⟩
  rw [Int32.toInt_ofNat_of_lt (by omega)]
  omega
theorem ix_sgn (c : Int32) (w : Wd) : fJ0_indexOf_0f7a4 14 sgb c w = some (sgn c, w) := by
  have hl : fJ0_isLatin1_aae02 14 sgb = true := rfl
  have hn : fJ0_length_8abf5 14 sgb = 14 := rfl
  have h1 : fJ9_max_7cf53 0 0 = 0 := rfl
  have h2 : fJ9_min_7cf53 14 (Int32.ofNat 14) = 14 := rfl
  have key : fJ1_indexOf_4cfef 14 sgb c 0 14 w = some (sgn c, w) := by
    unfold fJ1_indexOf_4cfef lt
    dsimp only
    by_cases hc : fJ1_canEncode_9a6ad c = true
    · rw [if_pos hc, h1, h2, if_pos (by decide)]
      have hr : ¬ c < 0 ∧ ¬ 255 < c := by
        unfold fJ1_canEncode_9a6ad at hc
        by_cases g1 : c < 0
        · rw [if_pos g1] at hc; cases hc
        · rw [if_neg g1] at hc
          by_cases g2 : 255 < c
          · rw [if_pos g2] at hc; cases hc
          · exact ⟨g1, g2⟩
      obtain ⟨n, hn9, rfl⟩ := i32_small hr.1 hr.2
      have hq := sgn_near n hn9
      unfold fJ1_indexOfChar_4cfef lt
      dsimp only
      rw [ixo_w]
      cases ho : oJ1_indexOfChar_4cfef_7 14 sgb FU 14 ((Int32.toInt8 (Int32.ofNat n)).toInt32) 0 w00 with
      | none => rw [ho] at hq; cases hq
      | some p =>
        rw [ho] at hq
        have hp : p.1 = sgn (Int32.ofNat n) := Option.some.inj hq
        show some (p.1, w) = some (sgn (Int32.ofNat n), w)
        rw [hp]
    · rw [if_neg hc]
      have : c < 0 ∨ 255 < c := by
        unfold fJ1_canEncode_9a6ad at hc
        by_cases g1 : c < 0
        · exact Or.inl g1
        · rw [if_neg g1] at hc
          by_cases g2 : 255 < c
          · exact Or.inr g2
          · rw [if_neg g2] at hc; exact absurd rfl hc
      rw [sgn_far this]
  unfold fJ0_indexOf_0f7a4 fJ0_indexOf_7cf53 lt
  dsimp only
  rw [if_pos hl, hn, key]
  rfl
theorem sgn_ok {q : Gq} {l : Launch} {F : Nat → Prop} (hL : ∀ (U : State) (H : Heap), gE (GA q) U H → vk_R RX9 111 "+-*^<=>,;:()[]" (gad (GA q) 700) U) (hs : STK (GA q) F 700 1700 14 sgb) : SGN q l := by
  refine ⟨fun d N X hd rest loc w k => ?_, fun d N X hd x rest loc w hr k => ?_⟩
  · exact r_ldcS (pc := 39) hL dX9_token_39 k
  · exact r_cXi (pc := 44) wyJ0_indexOf_0f7a4 hs.1 (fun U H h => (hs.2.1 U H h).1) rfl mlRX9_113 iyJ0_indexOf_0f7a4 syJ0_indexOf_0f7a4 ⟨Nat.le_trans (Nat.le_of_ble_eq_true rfl) hd, (Nat.le_of_ble_eq_true rfl)⟩ rfl rfl hr dX9_token_44 (mJ0_indexOf_0f7a4 hs (ix_sgn x w) (pI.mk k))
