/-! LEXING, the class's side: TOKENS -/
/-- a TOKEN as the class has it -/
def TKA (w : Wd) (i : Nat) (t : Nat × Nat × Nat) : Prop :=
  gi w 5 i = Int32.ofNat t.1 ∧ gi w 6 i = Int32.ofNat t.2.1 ∧ (t.1 = 3 → gl w 7 i = Int64.ofNat t.2.2) ∧ (t.1 = 2 → ∃ p, p < 8192 ∧ gl w 7 i = Int64.ofNat p ∧ gl w 12 p = Int64.ofNat t.2.2 ∧ 0 < t.2.2 ∧ t.2.2 < 9007199254740992) ∧ gi w 8 i = 0 ∧ gi w 9 i = 0 ∧ gi w 10 i = Int32.ofNat i
/-- a place of the table in use has a TOKEN that holds it -/
def NMI (w : Wd) (c : Nat) : Prop := ∀ p, p < 8192 → gl w 12 p ≠ 0 → ∃ i, i < c ∧ gi w 5 i = 2 ∧ gl w 7 i = Int64.ofNat p
/-- the class while it reads: the TOKENS ts so far -/
def LA (B : Nat → Nat) (n : Nat) (w : Wd) (ts : List (Nat × Nat × Nat)) : Prop :=
  BT B n w ∧ WT w ∧ NT ts.length w ∧ gi w 4 8 = Int32.ofNat ts.length ∧ gi w 4 10 = -1 ∧ (∀ i t, ts[i]? = some t → TKA w i t) ∧ NMI w ts.length
/-- what reading changes -/
def XR (k j : Nat) : Prop := (k = 4 ∧ (j = 8 ∨ j = 9 ∨ j = 10)) ∨ (5 ≤ k ∧ k ≤ 10) ∨ k = 12
theorem LA.add {B : Nat → Nat} {n : Nat} {w : Wd} {ts : List (Nat × Nat × Nat)} (h : LA B n w ts) (hc : ts.length < 8193) {k a v : Nat} {x : Int64} (hk3 : k = 3 → x = Int64.ofNat v) (hk2 : k = 2 → ∃ p, p < 8192 ∧ x = Int64.ofNat p ∧ gl w 12 p = Int64.ofNat v ∧ 0 < v ∧ v < 9007199254740992) : LA B n (fX9_add (Int32.ofNat k) (Int32.ofNat a) x w) (ts ++ [(k, a, v)]) ∧ OFF XR (fX9_add (Int32.ofNat k) (Int32.ofNat a) x w) w := by
  obtain ⟨h1, h2, h3, h4, h5, h6, h7⟩ := h
  obtain ⟨g1, g2, g3, g4, g5, g6, g7, g8⟩ := tadd_ok (k := Int32.ofNat k) (a := Int32.ofNat a) (v := x) hc h4
  have e12 : ∀ p, gl (fX9_add (Int32.ofNat k) (Int32.ofNat a) x w) 12 p = gl w 12 p := fun p => (g8 12 p (by unfold XT; omega)).2
  refine ⟨⟨⟨h1.1, fun i hi => ?_⟩, fun q hq => ?_, ?_, ?_, ?_, fun i t ht => ?_, fun p hp hne => ?_⟩, g8.mono (fun p j hp => ?_)⟩
  · rw [(g8 1 i (by unfold XT; omega)).1]
    exact h1.2 i hi
  · rw [(g8 11 (4 + q) (by unfold XT; omega)).2]
    exact h2 q hq
  · rw [List.length_append]
    obtain ⟨a1, L, a2, a3⟩ := h3
    refine ⟨fun p hp hne => ?_, L, by simp; omega, fun p hp hne => a3 p hp (by rw [← e12]; exact hne)⟩
    obtain ⟨v1, i1, b1, b2, b3, b4, b5⟩ := a1 p hp (by rw [← e12]; exact hne)
    exact ⟨v1, i1, b1, b2, by rw [e12]; exact b3, b4, fun j hj => by rw [e12]; exact b5 j hj⟩
  · rw [List.length_append]
    exact g1
  · rw [(g8 4 10 (by unfold XT; omega)).1]
    exact h5
  · by_cases hi : i < ts.length
    · rw [List.getElem?_append_left hi] at ht
      obtain ⟨b1, b2, b3, b4, b5, b6, b7⟩ := h6 i t ht
      refine ⟨?_, ?_, fun q => ?_, fun q => ?_, ?_, ?_, ?_⟩
      · rw [(g8 5 i (by unfold XT; omega)).1]; exact b1
      · rw [(g8 6 i (by unfold XT; omega)).1]; exact b2
      · rw [(g8 7 i (by unfold XT; omega)).2]; exact b3 q
      · obtain ⟨p, c1, c2, c3⟩ := b4 q
        exact ⟨p, c1, by rw [(g8 7 i (by unfold XT; omega)).2]; exact c2, by rw [e12]; exact c3⟩
      · rw [(g8 8 i (by unfold XT; omega)).1]; exact b5
      · rw [(g8 9 i (by unfold XT; omega)).1]; exact b6
      · rw [(g8 10 i (by unfold XT; omega)).1]; exact b7
    · have hi2 : i = ts.length := by
        have := (List.getElem?_eq_some_iff.mp ht).1
        simp at this
        omega
      subst hi2
      rw [List.getElem?_append_right (Nat.le_refl _), Nat.sub_self] at ht
      cases ht
      exact ⟨g2, g3, fun q => by rw [g4]; exact hk3 q, fun q => by
        obtain ⟨p, c1, c2, c3⟩ := hk2 q
        exact ⟨p, c1, g4.trans c2, by rw [e12]; exact c3⟩, g5, g6, g7⟩
  · obtain ⟨i, c1, c2, c3⟩ := h7 p hp (by rw [← e12]; exact hne)
    exact ⟨i, by rw [List.length_append]; omega, by rw [(g8 5 i (by unfold XT; omega)).1]; exact c2, by rw [(g8 7 i (by unfold XT; omega)).2]; exact c3⟩
  · unfold XT at hp
    unfold XR
    omega
/-- the table of NAMES grown -/
theorem LA.names {B : Nat → Nat} {n : Nat} {w u : Wd} {ts : List (Nat × Nat × Nat)} (h : LA B n w ts) (hN : NT (ts.length + 1) u) (hk : ∀ q, gl w 12 q ≠ 0 → gl u 12 q = gl w 12 q) (hO : OFF (fun k j => k = 12) u w) : (BT B n u ∧ WT u ∧ gi u 4 8 = Int32.ofNat ts.length ∧ gi u 4 10 = -1 ∧ ∀ i t, ts[i]? = some t → TKA u i t) := by
  obtain ⟨h1, h2, h3, h4, h5, h6, h7⟩ := h
  refine ⟨⟨h1.1, fun i hi => ?_⟩, fun q hq => ?_, ?_, ?_, fun i t ht => ?_⟩
  · rw [(hO 1 i (by omega)).1]
    exact h1.2 i hi
  · rw [(hO 11 (4 + q) (by omega)).2]
    exact h2 q hq
  · rw [(hO 4 8 (by omega)).1]; exact h4
  · rw [(hO 4 10 (by omega)).1]; exact h5
  · obtain ⟨b1, b2, b3, b4, b5, b6, b7⟩ := h6 i t ht
    refine ⟨?_, ?_, fun q => ?_, fun q => ?_, ?_, ?_, ?_⟩
    · rw [(hO 5 i (by omega)).1]; exact b1
    · rw [(hO 6 i (by omega)).1]; exact b2
    · rw [(hO 7 i (by omega)).2]; exact b3 q
    · obtain ⟨p, c1, c2, c3, c4, c5⟩ := b4 q
      exact ⟨p, c1, by rw [(hO 7 i (by omega)).2]; exact c2, by rw [hk p (by rw [c3]; exact ln_ne c4 c5)]; exact c3, c4, c5⟩
    · rw [(hO 8 i (by omega)).1]; exact b5
    · rw [(hO 9 i (by omega)).1]; exact b6
    · rw [(hO 10 i (by omega)).1]; exact b7
/-- one TOKEN more, the class's table of NAMES one longer at most -/
theorem LA.add2 {B : Nat → Nat} {n : Nat} {w u : Wd} {ts : List (Nat × Nat × Nat)} (h : LA B n w ts) (hc : ts.length < 8193) (hN : NT (ts.length + 1) u) (hk : ∀ q, gl w 12 q ≠ 0 → gl u 12 q = gl w 12 q) (hO : OFF (fun k j => k = 12) u w) {a p v : Nat} (hnew : ∀ q, gl u 12 q ≠ 0 → q = p ∨ gl w 12 q ≠ 0) (hp : p < 8192) (hv : gl u 12 p = Int64.ofNat v) (hv1 : 0 < v) (hv2 : v < 9007199254740992) : LA B n (fX9_add 2 (Int32.ofNat a) (Int64.ofNat p) u) (ts ++ [(2, a, v)]) ∧ OFF XR (fX9_add 2 (Int32.ofNat a) (Int64.ofNat p) u) w := by
  have h7 := h.2.2.2.2.2.2
  obtain ⟨h1, h2, h4, h5, h6⟩ := h.names hN hk hO
  obtain ⟨g1, g2, g3, g4, g5, g6, g7, g8⟩ := tadd_ok (k := 2) (a := Int32.ofNat a) (v := Int64.ofNat p) hc h4
  have e12 : ∀ p9, gl (fX9_add 2 (Int32.ofNat a) (Int64.ofNat p) u) 12 p9 = gl u 12 p9 := fun p9 => (g8 12 p9 (by unfold XT; omega)).2
  refine ⟨⟨⟨h1.1, fun i hi => ?_⟩, fun q hq => ?_, ?_, ?_, ?_, fun i t ht => ?_, fun q hq hne => ?_⟩, (g8.mono (fun p j hp => ?_)).tr (hO.mono (fun p j hp => ?_))⟩
  · rw [(g8 1 i (by unfold XT; omega)).1]
    exact h1.2 i hi
  · rw [(g8 11 (4 + q) (by unfold XT; omega)).2]
    exact h2 q hq
  · rw [List.length_append]
    obtain ⟨a1, L, a2, a3⟩ := hN
    refine ⟨fun p hp hne => ?_, L, a2, fun p hp hne => a3 p hp (by rw [← e12]; exact hne)⟩
    obtain ⟨v1, i1, b1, b2, b3, b4, b5⟩ := a1 p hp (by rw [← e12]; exact hne)
    exact ⟨v1, i1, b1, b2, by rw [e12]; exact b3, b4, fun j hj => by rw [e12]; exact b5 j hj⟩
  · rw [List.length_append]
    exact g1
  · rw [(g8 4 10 (by unfold XT; omega)).1]
    exact h5
  · by_cases hi : i < ts.length
    · rw [List.getElem?_append_left hi] at ht
      obtain ⟨b1, b2, b3, b4, b5, b6, b7⟩ := h6 i t ht
      refine ⟨?_, ?_, fun q => ?_, fun q => ?_, ?_, ?_, ?_⟩
      · rw [(g8 5 i (by unfold XT; omega)).1]; exact b1
      · rw [(g8 6 i (by unfold XT; omega)).1]; exact b2
      · rw [(g8 7 i (by unfold XT; omega)).2]; exact b3 q
      · obtain ⟨p, c1, c2, c3⟩ := b4 q
        exact ⟨p, c1, by rw [(g8 7 i (by unfold XT; omega)).2]; exact c2, by rw [e12]; exact c3⟩
      · rw [(g8 8 i (by unfold XT; omega)).1]; exact b5
      · rw [(g8 9 i (by unfold XT; omega)).1]; exact b6
      · rw [(g8 10 i (by unfold XT; omega)).1]; exact b7
    · have hi2 : i = ts.length := by
        have := (List.getElem?_eq_some_iff.mp ht).1
        simp at this
        omega
      subst hi2
      rw [List.getElem?_append_right (Nat.le_refl _), Nat.sub_self] at ht
      cases ht
      exact ⟨g2, g3, fun q => absurd q (by omega), fun _ => ⟨p, hp, g4, by rw [e12]; exact hv, hv1, hv2⟩, g5, g6, g7⟩
  · rw [e12] at hne
    rcases hnew q hne with rfl | hne
    · exact ⟨ts.length, by rw [List.length_append]; simp, g2, g4⟩
    · obtain ⟨i, c1, c2, c3⟩ := h7 q hq hne
      exact ⟨i, by rw [List.length_append]; omega, by rw [(g8 5 i (by unfold XT; omega)).1, (hO 5 i (by omega)).1]; exact c2, by rw [(g8 7 i (by unfold XT; omega)).2, (hO 7 i (by omega)).2]; exact c3⟩
  · unfold XT at hp
    unfold XR
    omega
  · unfold XR
    omega
theorem number_lp {B : Nat → Nat} {n fr : Nat} {w : Wd} (hB : BT B n w) : ∀ (m a V f : Nat), a + m = n → oX9_number_6 (f + m + 1) (Int32.ofNat n) (Int32.ofNat fr) (Int64.ofNat (min V 34359738368)) (Int32.ofNat a) w = fX9_number_56 (Int32.ofNat fr) (Int64.ofNat (min (dgS B n m a V).2 34359738368)) (Int32.ofNat (dgS B n m a V).1) w := by
  have hn := hB.1
  intro m
  induction m with
  | zero =>
    intro a V f ha
    show fX9_number_6 (oX9_number_6 f) _ _ _ _ _ = _
    unfold fX9_number_6
    rw [if_pos (yle_iN (by omega) (by omega))]
    rfl
  | succ m ih =>
    intro a V f ha
    show fX9_number_6 (oX9_number_6 (f + m + 1)) _ _ _ _ _ = _
    unfold fX9_number_6
    rw [if_neg (nle_iN (by omega) (by omega))]
    have hb := (hB.2 a (by omega)).1
    dsimp only [lt]
    rw [byA hB (by omega), isDig hb]
    unfold dgS
    by_cases hc : 48 ≤ B a ∧ B a ≤ 57
    · rw [decide_eq_true hc, if_pos rfl, if_pos ⟨by omega, hc⟩, ad1_iN]
      have e : fJ9_min_f86c9 (Int64.ofNat (min V 34359738368) * 10 + Int32.toInt64 (Int32.ofNat (B a)) - 48) 34359738368 = Int64.ofNat (min (V * 10 + (B a - 48)) 34359738368) := by
        rw [toL_iN (by omega), show (10 : Int64) = Int64.ofNat 10 from rfl, show (48 : Int64) = Int64.ofNat 48 from rfl, mul_lN, add_lN, sub_lN (by omega) (by omega)]
        unfold fJ9_min_f86c9
        by_cases h : 34359738368 < min V 34359738368 * 10 + B a - 48
        · have h1 : (34359738368 : Int64) < Int64.ofNat (min V 34359738368 * 10 + B a - 48) := (lt_lN (a := 34359738368) (by omega) (by omega)).mpr h
          rw [if_pos h1, Nat.min_eq_right (a := V * 10 + (B a - 48)) (by omega)]
          rfl
        · have h1 : ¬ (34359738368 : Int64) < Int64.ofNat (min V 34359738368 * 10 + B a - 48) := fun q => h ((lt_lN (a := 34359738368) (by omega) (by omega)).mp q)
          rw [if_neg h1]
          congr 1
          omega
      rw [e]
      exact ih (a + 1) _ f (by omega)
    · rw [decide_eq_false hc, if_neg (by decide), if_neg (fun q => hc q.2)]
theorem name_lp {B : Nat → Nat} {n fr : Nat} {w : Wd} (hB : BT B n w) : ∀ (m a V f : Nat), a + m = n → fr ≤ a → oX9_name_6 (f + m + 1) (Int32.ofNat n) (Int32.ofNat fr) (Int64.ofNat V) (Int32.ofNat a) w = fX9_name_58 (Int32.ofNat fr) (Int64.ofNat (nmS B n fr m a V).2) (Int32.ofNat (nmS B n fr m a V).1) w := by
  have hn := hB.1
  intro m
  induction m with
  | zero =>
    intro a V f ha hfr
    show fX9_name_6 (oX9_name_6 f) _ _ _ _ _ = _
    unfold fX9_name_6
    rw [if_pos (yle_iN (by omega) (by omega))]
    rfl
  | succ m ih =>
    intro a V f ha hfr
    show fX9_name_6 (oX9_name_6 (f + m + 1)) _ _ _ _ _ = _
    unfold fX9_name_6
    rw [if_neg (nle_iN (by omega) (by omega))]
    have hb := (hB.2 a (by omega)).1
    have h36 := cdN_le (B a)
    dsimp only [lt]
    rw [byA hB (by omega), isCod hb]
    unfold nmS
    by_cases hc : cdN (B a) = 0
    · rw [if_pos (by rw [hc]; rfl), if_neg (fun q => q.2 hc)]
    · have hc9 : ¬ Int32.ofNat (cdN (B a)) = 0 := fun q => hc ((eq_iN (b := 0) (by omega) (by omega)).mp q)
      rw [if_neg hc9, if_pos (show a < n ∧ cdN (B a) ≠ 0 from ⟨by omega, hc⟩), sub_iN hfr (by omega), ad1_iN]
      by_cases h10 : a - fr < 10
      · have h1 : ¬ (10 : Int32) ≤ Int32.ofNat (a - fr) := nle_iN (a := 10) h10 (by omega)
        rw [if_neg h1, if_pos h10, toL_iN (by omega), show (37 : Int64) = Int64.ofNat 37 from rfl, mul_lN, add_lN]
        exact ih (a + 1) _ f (by omega) (by omega)
      · have h1 : (10 : Int32) ≤ Int32.ofNat (a - fr) := yle_iN (a := 10) (by omega) (by omega)
        rw [if_pos h1, if_neg h10]
        exact ih (a + 1) _ f (by omega) (by omega)
/-- one TOKEN read -/
theorem token_ok {B : Nat → Nat} {n a : Nat} {w : Wd} {ts : List (Nat × Nat × Nat)} (h : LA B n w ts) (ha : a < n) (hc : ts.length ≤ a) : ∃ u, fX9_token (Int32.ofNat n) (Int32.ofNat a) w = some (Int32.ofNat ((tkS B n a).2.2 - 1), u) ∧ LA B n u (ts ++ [((tkS B n a).1, a, (tkS B n a).2.1)]) ∧ OFF XR u w := by
  have hB := h.1
  have hn := hB.1
  have hb := (hB.2 a ha).1
  have hgt := tkS_gt (B := B) ha
  have hle := tkS_le (B := B) ha
  unfold fX9_token
  dsimp only [lt]
  rw [byA hB ha, isDig hb]
  unfold tkS at hgt hle ⊢
  by_cases hd : 48 ≤ B a ∧ B a ≤ 57
  · rw [if_pos hd] at hgt hle ⊢
    rw [decide_eq_true hd, if_pos rfl]
    unfold fX9_number
    obtain ⟨f, hf⟩ := FU_ge (k := (n - a) + 1) (by omega)
    rw [hf]
    have e := number_lp (fr := a) hB (n - a) a 0 f (by omega)
    rw [show Int64.ofNat (min 0 34359738368) = 0 from rfl] at e
    rw [← Nat.add_assoc, e]
    unfold fX9_number_56
    generalize (dgS B n (n - a) a 0) = r at hgt hle ⊢
    have hgt : a < r.1 := hgt
    have hle : r.1 ≤ n := hle
    have e1 : Int32.ofNat r.1 - 1 = Int32.ofNat (r.1 - 1) := sb1_iN (by omega) (by omega)
    by_cases hv : r.2 < 34359738368
    · rw [Nat.min_eq_left (by omega)]
      have h1 : Int64.ofNat r.2 ≤ 34359738367 := (le_lN (b := 34359738367) (by omega) (by omega)).mpr (by omega)
      rw [if_pos h1, if_pos hv]
      dsimp only [lt, bn2]
      rw [e1]
      obtain ⟨g1, g2⟩ := h.add (k := 3) (a := a) (v := r.2) (x := Int64.ofNat r.2) (by omega) (fun _ => rfl) (fun q => absurd q (by omega))
      exact ⟨_, rfl, g1, g2⟩
    · rw [Nat.min_eq_right (by omega)]
      have h1 : ¬ Int64.ofNat 34359738368 ≤ 34359738367 := by decide
      rw [if_neg h1, if_neg hv]
      dsimp only [lt, bn2]
      rw [e1]
      obtain ⟨g1, g2⟩ := h.add (k := 1) (a := a) (v := r.2) (x := Int64.ofNat 34359738368) (by omega) (fun q => absurd q (by omega)) (fun q => absurd q (by omega))
      exact ⟨_, rfl, g1, g2⟩
  · rw [if_neg hd] at hgt hle ⊢
    rw [decide_eq_false hd, if_neg (by decide), isCod hb]
    have h36 := cdN_le (B a)
    by_cases h0 : cdN (B a) = 0
    · have hn0 : ¬ (cdN (B a) ≠ 0) := fun q => q h0
      have hz0 : Int32.ofNat (cdN (B a)) = 0 := by rw [h0]; rfl
      rw [if_neg hn0] at hgt hle ⊢
      rw [if_pos hz0, sgnA (B a) hb]
      have key : ∀ k : Nat, k < 47 → k = sgS (B a) → ∃ u, fX9_token_63 (Int32.ofNat k) (Int32.ofNat n) (Int32.ofNat a) w = some (Int32.ofNat ((if a + 1 < n ∧ lgS (sgS (B a)) (B (a + 1)) ≠ sgS (B a) then (lgS (sgS (B a)) (B (a + 1)), 0, a + 2) else (sgS (B a), 0, a + 1)).2.2 - 1), u) ∧ LA B n u (ts ++ [((if a + 1 < n ∧ lgS (sgS (B a)) (B (a + 1)) ≠ sgS (B a) then (lgS (sgS (B a)) (B (a + 1)), 0, a + 2) else (sgS (B a), 0, a + 1)).1, a, (if a + 1 < n ∧ lgS (sgS (B a)) (B (a + 1)) ≠ sgS (B a) then (lgS (sgS (B a)) (B (a + 1)), 0, a + 2) else (sgS (B a), 0, a + 1)).2.1)]) ∧ OFF XR u w := by
        intro k hk47 hk
        subst hk
        have hrg := sgS_rg (B a) hb
        unfold fX9_token_63
        rw [ad1_iN]
        by_cases h1 : a + 1 < n
        · rw [if_neg (nle_iN h1 (by omega))]
          dsimp only [lt]
          have hb2 := (hB.2 (a + 1) h1).1
          rw [byA hB h1, isLng hk47 hb2]
          have h51 := lgS_lt (sgS (B a)) hk47 (B (a + 1)) hb2
          unfold fX9_token_89
          dsimp only [lt]
          by_cases hl : lgS (sgS (B a)) (B (a + 1)) = sgS (B a)
          · have hC : ¬ (a + 1 < n ∧ lgS (sgS (B a)) (B (a + 1)) ≠ sgS (B a)) := fun q => q.2 hl
            rw [if_neg hC, hl, if_pos rfl]
            obtain ⟨g1, g2⟩ := h.add (k := sgS (B a)) (a := a) (v := 0) (x := 0) (by omega) (fun q => absurd q (by omega)) (fun q => absurd q (by omega))
            exact ⟨_, rfl, g1, g2⟩
          · have hl9 : ¬ Int32.ofNat (lgS (sgS (B a)) (B (a + 1))) = Int32.ofNat (sgS (B a)) := fun q => hl ((eq_iN (by omega) (by omega)).mp q)
            have hC : (a + 1 < n ∧ lgS (sgS (B a)) (B (a + 1)) ≠ sgS (B a)) := ⟨h1, hl⟩
            rw [if_pos hC, if_neg hl9, ad1_iN]
            have hlx := lgS_x (sgS (B a)) hk47 (B (a + 1)) hb2 hl
            obtain ⟨g1, g2⟩ := h.add (k := lgS (sgS (B a)) (B (a + 1))) (a := a) (v := 0) (x := 0) (by omega) (fun q => absurd q (by omega)) (fun q => absurd q (by omega))
            exact ⟨_, rfl, g1, g2⟩
        · have hC : ¬ (a + 1 < n ∧ lgS (sgS (B a)) (B (a + 1)) ≠ sgS (B a)) := fun q => h1 q.1
          rw [if_pos (yle_iN (by omega) (by omega)), if_neg hC]
          unfold fX9_token_89
          dsimp only [lt]
          rw [if_pos rfl]
          obtain ⟨g1, g2⟩ := h.add (k := sgS (B a)) (a := a) (v := 0) (x := 0) (by omega) (fun q => absurd q (by omega)) (fun q => absurd q (by omega))
          exact ⟨_, rfl, g1, g2⟩
      by_cases h1 : sgS (B a) = 1
      · rw [if_pos h1, if_neg (by decide)]
        exact key 1 (by omega) h1.symm
      · have hrg := sgS_rg (B a) hb
        rw [if_neg h1, if_pos (zl_iN (by omega)), show (33 : Int32) = Int32.ofNat 33 from rfl, add_iN, show 33 + (sgS (B a) - 33) = sgS (B a) by omega]
        exact key _ (by omega) rfl
    · rw [if_pos (show cdN (B a) ≠ 0 from h0)] at hgt hle ⊢
      have hc9 : ¬ Int32.ofNat (cdN (B a)) = 0 := fun q => h0 ((eq_iN (b := 0) (by omega) (by omega)).mp q)
      rw [if_neg hc9]
      unfold fX9_name
      obtain ⟨f, hf⟩ := FU_ge (k := (n - a) + 1) (by omega)
      rw [hf]
      have e := name_lp (fr := a) hB (n - a) a 0 f (by omega) (Nat.le_refl _)
      rw [show Int64.ofNat 0 = 0 from rfl] at e
      rw [← Nat.add_assoc, e]
      have hsm := nmS_sm B n (n - a) a
      have hps : 0 < (nmS B n a (n - a) a 0).2 := by
        obtain ⟨f, hf⟩ : ∃ f, n - a = f + 1 := ⟨n - a - 1, by omega⟩
        rw [hf]
        unfold nmS
        rw [if_pos ⟨ha, h0⟩]
        apply nmS_pos
        rw [if_pos (by omega)]
        omega
      unfold fX9_name_58
      generalize (nmS B n a (n - a) a 0) = r at hgt hle hsm hps ⊢
      have hgt : a < r.1 := hgt
      have hle : r.1 ≤ n := hle
      have e1 : Int32.ofNat r.1 - 1 = Int32.ofNat (r.1 - 1) := sb1_iN (by omega) (by omega)
      rw [word_ok h.2.1 (by omega)]
      dsimp only [bn2]
      rw [sub_iN (by omega) (by omega)]
      by_cases h10 : 10 < r.1 - a
      · have h1 : ¬ Int32.ofNat (r.1 - a) ≤ 10 := nle_iN (b := 10) h10 (by omega)
        rw [if_neg h1, if_pos h10]
        dsimp only [lt, bn2]
        rw [e1]
        obtain ⟨g1, g2⟩ := h.add (k := 1) (a := a) (v := r.2) (x := 0) (by omega) (fun q => absurd q (by omega)) (fun q => absurd q (by omega))
        exact ⟨_, rfl, g1, g2⟩
      · have h1 : Int32.ofNat (r.1 - a) ≤ 10 := yle_iN (b := 10) (by omega) (by omega)
        rw [if_pos h1, if_neg h10]
        cases hw : wdS r.2 29 with
        | none =>
          dsimp only
          rw [if_pos rfl]
          obtain ⟨p, u, q1, q2, q3, q4, q5, q6, q7⟩ := numberOf_ok h.2.2.1 (by omega) hps (by omega)
          rw [q1]
          dsimp only [lt, bn2]
          rw [e1, toL_iN (by omega)]
          obtain ⟨g1, g2⟩ := h.add2 (by omega) q4 q5 q6 (a := a) q7 q2 q3 hps (by omega)
          exact ⟨_, rfl, g1, g2⟩
        | some k =>
          dsimp only
          have hk := wdS_lt hw
          have hk9 : ¬ Int32.ofNat (4 + k) = 0 := fun q => absurd ((eq_iN (b := 0) (by omega) (by omega)).mp q) (by omega)
          rw [if_neg hk9]
          dsimp only [lt, bn2]
          rw [e1]
          obtain ⟨g1, g2⟩ := h.add (k := 4 + k) (a := a) (v := r.2) (x := 0) (by omega) (fun q => absurd q (by omega)) (fun q => absurd q (by omega))
          exact ⟨_, rfl, g1, g2⟩
