/-! LEXING, the reference's side: all of it -/
theorem shr35 {x : Nat} (hx : x ≤ 1099511627776) : (Int64.ofNat x >>> (Int32.toInt64 35 &&& 63) = 0) ↔ x < 34359738368 := by
  have e1 : (Int64.ofNat x >>> (Int32.toInt64 35 &&& 63)).toInt = (x : Int) >>> 35 := by
    have e2 : (Int64.ofNat x >>> (Int32.toInt64 35 &&& 63)).toBitVec = (Int64.ofNat x).toBitVec.sshiftRight 35 := rfl
    show (Int64.ofNat x >>> (Int32.toInt64 35 &&& 63)).toBitVec.toInt = _
    rw [e2, BitVec.toInt_sshiftRight]
    show (Int64.ofNat x).toInt >>> 35 = _
    rw [ti_lN (by omega)]
  rw [← Int64.toInt_inj, e1, Int.shiftRight_eq_div_pow]
  have h0 : (0 : Int64).toInt = 0 := rfl
  rw [h0]
  omega
/-- what the reference takes of the TOKENS: up to the first strange one -/
def cutS : List (Nat × Nat × Nat) → List (Nat × Nat × Nat)
  | [] => []
  | t :: r => if t.1 = 1 then [t] else t :: cutS r
theorem cutS_app {l r : List (Nat × Nat × Nat)} (h : ∀ t ∈ l, t.1 ≠ 1) : cutS (l ++ r) = l ++ cutS r := by
  induction l with
  | nil => rfl
  | cons t l ih =>
    show (if t.1 = 1 then [t] else t :: cutS (l ++ r)) = t :: (l ++ cutS r)
    rw [if_neg (h t List.mem_cons_self), ih (fun x hx => h x (List.mem_cons_of_mem _ hx))]
def EXM (k7 : Int32 → Wd → Option Wd) (fr a V : Nat) (w : Wd) : Option Wd :=
  if Int32.ofNat a - Int32.ofNat fr ≤ 10 then (bn2 (fX12_word (Int32.ofNat fr) (Int32.ofNat a - Int32.ofNat fr) w) fun x10 w11 => bn (fX12_token x10 (Int32.ofNat fr) (Int64.ofNat V) w11) fun w12 => k7 (Int32.ofNat a) w12) else (bn (fX12_token 292 (Int32.ofNat fr) 0 w) fun w13 => some w13)
theorem nameM_lp {B : Nat → Nat} {n fr : Nat} {w : Wd} {K : Int32 → Wd → Option Wd} (hB : BM B n w) : ∀ (m a V f : Nat), a + m = n → fr ≤ a → oX12_cut_51 K (f + m + 1) (Int32.ofNat a) (Int32.ofNat fr) (Int64.ofNat V) w = EXM K fr (nmS B n fr m a V).1 (nmS B n fr m a V).2 w := by
  have hn := hB.1
  intro m
  induction m with
  | zero =>
    intro a V f ha hfr
    show fX12_cut_51 K (oX12_cut_51 K f) _ _ _ _ = _
    unfold fX12_cut_51
    rw [look_out hB (by omega) (by omega)]
    dsimp only [bn2, lt]
    rw [noLetM, if_neg (by decide), look_out hB (by omega) (by omega)]
    dsimp only [bn2, lt]
    rw [noDigM, if_neg (by decide)]
    rfl
  | succ m ih =>
    intro a V f ha hfr
    show fX12_cut_51 K (oX12_cut_51 K (f + m + 1)) _ _ _ _ = _
    unfold fX12_cut_51
    have hb := (hB.2.2 a (by omega)).1
    rw [look_in hB (by omega)]
    dsimp only [bn2, lt]
    rw [isLetM hb]
    have go : cdN (B a) ≠ 0 → fX12_cut_73 K (oX12_cut_51 K (f + m + 1)) (Int32.ofNat a) (Int32.ofNat fr) (Int64.ofNat V) w = EXM K fr (nmS B n fr (m + 1) a V).1 (nmS B n fr (m + 1) a V).2 w := by
      intro hc
      unfold fX12_cut_73
      rw [look_in hB (by omega)]
      dsimp only [bn2, lt]
      unfold nmS
      rw [if_pos (show a < n ∧ cdN (B a) ≠ 0 from ⟨by omega, hc⟩), sub_iN hfr (by omega), ad1_iN]
      by_cases h10 : a - fr < 10
      · have h1 : ¬ (10 : Int32) ≤ Int32.ofNat (a - fr) := nle_iN (a := 10) h10 (by omega)
        rw [if_neg h1, if_pos h10, isLetM hb]
        by_cases h2 : 97 ≤ B a ∧ B a ≤ 122
        · rw [decide_eq_true h2, if_pos rfl]
          have e : Int64.ofNat V * 37 + (Int32.ofNat (B a) - 97 + 1).toInt64 = Int64.ofNat (V * 37 + cdN (B a)) := by
            rw [show (97 : Int32) = Int32.ofNat 97 from rfl, sub_iN h2.1 (by omega), ad1_iN, toL_iN (by omega), show (37 : Int64) = Int64.ofNat 37 from rfl, mul_lN, add_lN, cdN_l h2]
            congr 1
            omega
          rw [e]
          exact ih (a + 1) _ f (by omega) (by omega)
        · rw [decide_eq_false h2, if_neg (by decide)]
          have h3 : 48 ≤ B a ∧ B a ≤ 57 := by
            by_cases q : 48 ≤ B a ∧ B a ≤ 57
            · exact q
            · exact absurd (cdN_0 h2 q) hc
          have e : Int64.ofNat V * 37 + (Int32.ofNat (B a) - 48 + 27).toInt64 = Int64.ofNat (V * 37 + cdN (B a)) := by
            rw [show (48 : Int32) = Int32.ofNat 48 from rfl, sub_iN h3.1 (by omega), show (27 : Int32) = Int32.ofNat 27 from rfl, add_iN, toL_iN (by omega), show (37 : Int64) = Int64.ofNat 37 from rfl, mul_lN, add_lN, cdN_d h3]
            congr 1
            omega
          rw [e]
          exact ih (a + 1) _ f (by omega) (by omega)
      · have h1 : (10 : Int32) ≤ Int32.ofNat (a - fr) := yle_iN (a := 10) (by omega) (by omega)
        rw [if_pos h1, if_neg h10]
        exact ih (a + 1) _ f (by omega) (by omega)
    by_cases h2 : 97 ≤ B a ∧ B a ≤ 122
    · rw [decide_eq_true h2, if_pos rfl]
      exact go (by rw [cdN_l h2]; omega)
    · rw [decide_eq_false h2, if_neg (by decide), look_in hB (by omega)]
      dsimp only [bn2, lt]
      rw [isDigM hb]
      by_cases h3 : 48 ≤ B a ∧ B a ≤ 57
      · rw [decide_eq_true h3, if_pos rfl]
        exact go (by rw [cdN_d h3]; omega)
      · rw [decide_eq_false h3, if_neg (by decide)]
        unfold nmS
        have hq : ¬ (a < n ∧ cdN (B a) ≠ 0) := fun q => q.2 (cdN_0 h2 h3)
        rw [if_neg hq]
        rfl
def EDM (k7 : Int32 → Wd → Option Wd) (fr a V : Nat) (w : Wd) : Option Wd :=
  if V < 34359738368 then (bn (fX12_token 286 (Int32.ofNat fr) (Int64.ofNat V) w) fun w1 => k7 (Int32.ofNat a) w1) else (bn (fX12_token 292 (Int32.ofNat fr) (Int64.ofNat (min V 1099511627776)) w) fun w1 => some w1)
theorem numM_end {K : Int32 → Wd → Option Wd} {fr a V : Nat} {w : Wd} : (if (Int64.ofNat (min V 1099511627776) >>> (Int32.toInt64 35 &&& 63)) = 0 then (fX12_cut_238 K 286 (Int32.ofNat a) (Int32.ofNat fr) (Int64.ofNat (min V 1099511627776)) w) else (fX12_cut_238 K 292 (Int32.ofNat a) (Int32.ofNat fr) (Int64.ofNat (min V 1099511627776)) w)) = EDM K fr a V w := by
  have hs := shr35 (Nat.min_le_right V 1099511627776)
  unfold EDM fX12_cut_238
  by_cases h : V < 34359738368
  · have h1 := hs.mpr (by omega)
    rw [if_pos h1, if_pos h, Nat.min_eq_left (by omega)]
    congr 1
    funext w1
    rw [Nat.min_eq_left (by omega)] at h1
    rw [if_pos h1]
  · have h1 := fun q => h (show V < 34359738368 by have := hs.mp q; omega)
    rw [if_neg h1, if_neg h]
    congr 1
    funext w1
    rw [if_neg h1]
theorem numM_lp {B : Nat → Nat} {n fr : Nat} {w : Wd} {K : Int32 → Wd → Option Wd} (hB : BM B n w) : ∀ (m a V f : Nat), a + m = n → oX12_cut_176 K (f + m + 1) (Int32.ofNat a) (Int32.ofNat fr) (Int64.ofNat (min V 1099511627776)) w = EDM K fr (dgS B n m a V).1 (dgS B n m a V).2 w := by
  have hn := hB.1
  intro m
  induction m with
  | zero =>
    intro a V f ha
    show fX12_cut_176 K (oX12_cut_176 K f) _ _ _ _ = _
    unfold fX12_cut_176
    rw [look_out hB (by omega) (by omega)]
    dsimp only [bn2, lt]
    rw [noDigM, if_neg (by decide)]
    exact numM_end
  | succ m ih =>
    intro a V f ha
    show fX12_cut_176 K (oX12_cut_176 K (f + m + 1)) _ _ _ _ = _
    unfold fX12_cut_176
    have hb := (hB.2.2 a (by omega)).1
    rw [look_in hB (by omega)]
    dsimp only [bn2, lt]
    rw [isDigM hb]
    unfold dgS
    by_cases hc : 48 ≤ B a ∧ B a ≤ 57
    · rw [decide_eq_true hc, if_pos rfl, if_pos (show a < n ∧ 48 ≤ B a ∧ B a ≤ 57 from ⟨by omega, hc⟩), look_in hB (by omega)]
      dsimp only [bn2, lt]
      rw [ad1_iN]
      have e : fJ9_min_f86c9 (Int64.ofNat (min V 1099511627776) * 10 + Int32.toInt64 (Int32.ofNat (B a)) - 48) 1099511627776 = Int64.ofNat (min (V * 10 + (B a - 48)) 1099511627776) := by
        rw [toL_iN (by omega), show (10 : Int64) = Int64.ofNat 10 from rfl, show (48 : Int64) = Int64.ofNat 48 from rfl, mul_lN, add_lN, sub_lN (by omega) (by omega)]
        unfold fJ9_min_f86c9
        by_cases h : 1099511627776 < min V 1099511627776 * 10 + B a - 48
        · have h1 : (1099511627776 : Int64) < Int64.ofNat (min V 1099511627776 * 10 + B a - 48) := (lt_lN (a := 1099511627776) (by omega) (by omega)).mpr h
          rw [if_pos h1, Nat.min_eq_right (a := V * 10 + (B a - 48)) (by omega)]
          rfl
        · have h1 : ¬ (1099511627776 : Int64) < Int64.ofNat (min V 1099511627776 * 10 + B a - 48) := fun q => h ((lt_lN (a := 1099511627776) (by omega) (by omega)).mp q)
          rw [if_neg h1]
          congr 1
          omega
      rw [e]
      exact ih (a + 1) _ f (by omega)
    · have hq : ¬ (a < n ∧ 48 ≤ B a ∧ B a ≤ 57) := fun q => hc q.2
      rw [decide_eq_false hc, if_neg (by decide), if_neg hq]
      exact numM_end
/-- two bytes that are one sign -/
def prN (c d : Nat) : Nat := if c = 60 ∧ d = 61 then 287 else if c = 62 ∧ d = 61 then 288 else if c = 60 ∧ d = 62 then 289 else if c = 58 ∧ d = 61 then 290 else 0
theorem pairM_ok {c : Nat} {x : Int32} {d : Nat} (hc : c < 256) (h61 : x = 61 ↔ d = 61) (h62 : x = 62 ↔ d = 62) (w : Wd) : fX12_pair (Int32.ofNat c) x w = Int32.ofNat (prN c d) := by
  have q60 : Int32.ofNat c = 60 ↔ c = 60 := eq_iN (b := 60) (by omega) (by omega)
  have q62 : Int32.ofNat c = 62 ↔ c = 62 := eq_iN (b := 62) (by omega) (by omega)
  have q58 : Int32.ofNat c = 58 ↔ c = 58 := eq_iN (b := 58) (by omega) (by omega)
  unfold fX12_pair fX12_pair_16 fX12_pair_48 prN
  simp only [q60, q62, q58, h61, h62]
  by_cases c1 : c = 60
  · subst c1
    by_cases d1 : d = 61
    · subst d1; simp
    · by_cases d2 : d = 62
      · subst d2; simp
      · simp [d1, d2]
  · by_cases c2 : c = 62
    · subst c2
      by_cases d1 : d = 61
      · subst d1; simp
      · simp [d1]
    · by_cases c3 : c = 58
      · subst c3
        by_cases d1 : d = 61
        · subst d1; simp
        · simp [d1]
      · simp [c1, c2, c3]
theorem sgnM : ∀ c : Nat, c < 256 → (sgn (Int32.ofNat c) < 0 ↔ sgS c = 1) := by decide +kernel
theorem sgS_is : ∀ c : Nat, c < 256 → (sgS c = 37 ↔ c = 60) ∧ (sgS c = 39 ↔ c = 62) ∧ (sgS c = 42 ↔ c = 58) ∧ (sgS c ≠ 1 → kM (sgS c) = c ∧ c ≠ 0) := by decide +kernel
theorem lg_pr {c d : Nat} (hc : c < 256) : (prN c d = 0 ↔ lgS (sgS c) d = sgS c) ∧ (prN c d ≠ 0 → kM (lgS (sgS c) d) = prN c d) ∧ prN c d ≤ 290 := by
  obtain ⟨s1, s2, s3, s4⟩ := sgS_is c hc
  unfold prN lgS
  by_cases c1 : c = 60
  · subst c1
    by_cases d1 : d = 61
    · subst d1; exact ⟨by decide, fun _ => by decide, by decide⟩
    · by_cases d2 : d = 62
      · subst d2; exact ⟨by decide, fun _ => by decide, by decide⟩
      · simp [d1, d2]
  · by_cases c2 : c = 62
    · subst c2
      by_cases d1 : d = 61
      · subst d1; exact ⟨by decide, fun _ => by decide, by decide⟩
      · simp [d1]; intro q; exact absurd q (by decide)
    · by_cases c3 : c = 58
      · subst c3
        by_cases d1 : d = 61
        · subst d1; exact ⟨by decide, fun _ => by decide, by decide⟩
        · simp [d1]; intro q; exact absurd q (by decide)
      · have t1 := mt s1.mp c1
        have t2 := mt s2.mp c2
        have t3 := mt s3.mp c3
        simp [c1, c2, c3, t1, t2, t3]
/-- one TOKEN read by the reference -/
theorem tokenM_ok {B : Nat → Nat} {n a : Nat} {w : Wd} {ts : List (Nat × Nat × Nat)} {K : Int32 → Wd → Option Wd} (h : LM B n w ts) (ha : a < n) (hc : ts.length ≤ a) (h32 : B a ≠ 32) (h10 : B a ≠ 10) : ∃ u, fX12_cut_7 K (Int32.ofNat a) w = (if (tkS B n a).1 = 1 then some u else K (Int32.ofNat (tkS B n a).2.2) u) ∧ LM B n u (ts ++ [((tkS B n a).1, a, (tkS B n a).2.1)]) ∧ OFF XRM u w := by
  have hB := h.1
  have hn := hB.1
  have hb := (hB.2.2 a ha).1
  have hgt := tkS_gt (B := B) ha
  have hle := tkS_le (B := B) ha
  have k32 : ¬ Int32.ofNat (B a) = 32 := fun q => h32 ((eq_iN (b := 32) (by omega) (by omega)).mp q)
  have k10 : ¬ Int32.ofNat (B a) = 10 := fun q => h10 ((eq_iN (b := 10) (by omega) (by omega)).mp q)
  unfold fX12_cut_7
  rw [hB.2.1, if_neg (nle_iN (by omega) (by omega)), look_in hB ha]
  dsimp only [bn2, lt]
  rw [if_neg k32, if_neg k10, isLetM hb]
  have goN : cdN (B a) ≠ 0 → ¬ (48 ≤ B a ∧ B a ≤ 57) → ∃ u, oX12_cut_51 K FU (Int32.ofNat a) (Int32.ofNat a) 0 w = (if (tkS B n a).1 = 1 then some u else K (Int32.ofNat (tkS B n a).2.2) u) ∧ LM B n u (ts ++ [((tkS B n a).1, a, (tkS B n a).2.1)]) ∧ OFF XRM u w := by
    intro h0 hd
    obtain ⟨f, hf⟩ := FU_ge (k := (n - a) + 1) (by omega)
    have e := nameM_lp (fr := a) (K := K) hB (n - a) a 0 f (by omega) (Nat.le_refl _)
    rw [show Int64.ofNat 0 = 0 from rfl] at e
    rw [hf, ← Nat.add_assoc, e]
    have hseq := nmS_seq B n a (n - a) a 0 (Nat.le_refl _) (by rw [Nat.sub_self]; rfl) (fun t ht => absurd ht (by omega))
    unfold tkS at hgt hle ⊢
    rw [if_neg hd, if_pos h0] at hgt hle ⊢
    unfold EXM
    generalize (nmS B n a (n - a) a 0) = r at hgt hle hseq ⊢
    have hgt : a < r.1 := hgt
    have hle : r.1 ≤ n := hle
    rw [sub_iN (by omega) (by omega)]
    by_cases h10 : 10 < r.1 - a
    · have h1 : ¬ Int32.ofNat (r.1 - a) ≤ 10 := nle_iN (b := 10) h10 (by omega)
      rw [if_neg h1, if_pos h10]
      obtain ⟨u, u1, u2, u3⟩ := h.add (k := 1) (kk := 292) (a := a) (v := r.2) (x := 0) (by omega) rfl (fun q => absurd q (by omega))
      have u1 : fX12_token 292 (Int32.ofNat a) 0 w = some u := u1
      rw [u1]
      exact ⟨u, by rw [if_pos rfl]; rfl, u2, u3⟩
    · have h1 : Int32.ofNat (r.1 - a) ≤ 10 := yle_iN (b := 10) (by omega) (by omega)
      rw [if_pos h1, if_neg h10]
      obtain ⟨p1, p2⟩ := hseq (by omega)
      rw [wordM_ok hB (by omega) p2 p1]
      dsimp only [bn2]
      cases hw : wdS r.2 29 with
      | none =>
        dsimp only
        obtain ⟨u, u1, u2, u3⟩ := h.add (k := 2) (kk := 285) (a := a) (v := r.2) (x := Int64.ofNat r.2) (by omega) rfl (fun _ => rfl)
        have u1 : fX12_token 285 (Int32.ofNat a) (Int64.ofNat r.2) w = some u := u1
        rw [u1]
        exact ⟨u, by rw [if_neg (by decide)]; rfl, u2, u3⟩
      | some k =>
        dsimp only
        have hk := wdS_lt hw
        have ek : 256 + k = kM (4 + k) := by
          unfold kM
          rw [if_neg (by omega), if_neg (by omega), if_neg (by omega), if_neg (by omega), if_pos (by omega)]
          omega
        obtain ⟨u, u1, u2, u3⟩ := h.add (k := 4 + k) (kk := 256 + k) (a := a) (v := r.2) (x := Int64.ofNat r.2) (by omega) ek (fun _ => rfl)
        rw [u1]
        exact ⟨u, by rw [if_neg (by omega)]; rfl, u2, u3⟩
  by_cases h2 : 97 ≤ B a ∧ B a ≤ 122
  · rw [decide_eq_true h2, if_pos rfl]
    exact goN (by rw [cdN_l h2]; omega) (by omega)
  · rw [decide_eq_false h2, if_neg (by decide), isDigM hb]
    by_cases h3 : 48 ≤ B a ∧ B a ≤ 57
    · rw [decide_eq_true h3, if_pos rfl]
      obtain ⟨f, hf⟩ := FU_ge (k := (n - a) + 1) (by omega)
      have e := numM_lp (fr := a) (K := K) hB (n - a) a 0 f (by omega)
      rw [show Int64.ofNat (min 0 1099511627776) = 0 from rfl] at e
      rw [hf, ← Nat.add_assoc, e]
      unfold tkS at hgt hle ⊢
      rw [if_pos h3] at hgt hle ⊢
      unfold EDM
      generalize (dgS B n (n - a) a 0) = r at hgt hle ⊢
      by_cases hv : r.2 < 34359738368
      · rw [if_pos hv, if_pos hv]
        obtain ⟨u, u1, u2, u3⟩ := h.add (k := 3) (kk := 286) (a := a) (v := r.2) (x := Int64.ofNat r.2) (by omega) rfl (fun _ => rfl)
        have u1 : fX12_token 286 (Int32.ofNat a) (Int64.ofNat r.2) w = some u := u1
        rw [u1]
        exact ⟨u, by rw [if_neg (show ¬ ((3 : Nat) = 1) by omega)]; rfl, u2, u3⟩
      · rw [if_neg hv, if_neg hv]
        obtain ⟨u, u1, u2, u3⟩ := h.add (k := 1) (kk := 292) (a := a) (v := r.2) (x := Int64.ofNat (min r.2 1099511627776)) (by omega) rfl (fun q => absurd q (by omega))
        have u1 : fX12_token 292 (Int32.ofNat a) (Int64.ofNat (min r.2 1099511627776)) w = some u := u1
        rw [u1]
        exact ⟨u, by rw [if_pos rfl]; rfl, u2, u3⟩
    · rw [decide_eq_false h3, if_neg (by decide), ad1_iN]
      have h0 : ¬ (cdN (B a) ≠ 0) := fun q => q (cdN_0 h2 h3)
      -- the next byte, if there is one
      obtain ⟨x, d, e1, e61, e62, hdn⟩ : ∃ (x : Int32) (d : Nat), fX12_look (Int32.ofNat (a + 1)) w = some (x, w) ∧ (x = 61 ↔ d = 61) ∧ (x = 62 ↔ d = 62) ∧ ((a + 1 < n ∧ d = B (a + 1)) ∨ (¬ a + 1 < n ∧ d = 0)) := by
        by_cases q : a + 1 < n
        · have hb2 := (hB.2.2 (a + 1) q).1
          exact ⟨_, B (a + 1), look_in hB q, eq_iN (b := 61) (by omega) (by omega), eq_iN (b := 62) (by omega) (by omega), Or.inl ⟨q, rfl⟩⟩
        · exact ⟨-1, 0, look_out hB (by omega) (by omega), by decide, by decide, Or.inr ⟨q, rfl⟩⟩
      rw [e1]
      dsimp only [bn2]
      rw [pairM_ok hb e61 e62]
      obtain ⟨g1, g2, g3⟩ := lg_pr (c := B a) (d := d) hb
      obtain ⟨s1, s2, s3, s4⟩ := sgS_is (B a) hb
      have hlg0 : ∀ k : Nat, lgS k 0 = k := fun k => by
        unfold lgS
        rw [if_neg (by decide)]
        split
        · rw [if_neg (by decide)]
        · rfl
      unfold tkS at hgt hle ⊢
      rw [if_neg h3, if_neg h0] at hgt hle ⊢
      by_cases hp : prN (B a) d = 0
      · have hC : ¬ (a + 1 < n ∧ lgS (sgS (B a)) (B (a + 1)) ≠ sgS (B a)) := by
          rintro ⟨q1, q2⟩
          rcases hdn with ⟨-, rfl⟩ | ⟨q3, -⟩
          · exact q2 (g1.mp hp)
          · exact q3 q1
        rw [if_neg hC, hp]
        by_cases hs : sgS (B a) = 1
        · rw [if_pos ((sgnM (B a) hb).mpr hs)]
          unfold fX12_cut_286
          rw [show Int32.ofNat 0 = 0 from rfl, if_pos rfl, if_neg (by decide)]
          unfold fX12_cut_311
          rw [hs]
          obtain ⟨u, u1, u2, u3⟩ := h.add (k := 1) (kk := 292) (a := a) (v := 0) (x := 0) (by omega) rfl (fun q => absurd q (by omega))
          have u1 : fX12_token 292 (Int32.ofNat a) 0 w = some u := u1
          rw [u1]
          dsimp only [bn]
          rw [if_pos rfl, if_neg (by decide)]
          exact ⟨u, by rw [if_pos rfl], u2, u3⟩
        · rw [if_neg (mt (sgnM (B a) hb).mp hs)]
          unfold fX12_cut_286
          rw [show Int32.ofNat 0 = 0 from rfl, if_pos rfl, if_pos rfl]
          unfold fX12_cut_311
          obtain ⟨u, u1, u2, u3⟩ := h.add (k := sgS (B a)) (kk := B a) (a := a) (v := 0) (x := 0) (by omega) (s4 hs).1.symm (fun q => by have := sgS_rg (B a) hb; omega)
          rw [u1]
          dsimp only [bn]
          rw [if_pos rfl, if_pos rfl]
          unfold fX12_cut_327
          rw [if_pos rfl]
          dsimp only [lt]
          rw [ad1_iN]
          exact ⟨u, by rw [if_neg (show ¬ (sgS (B a) = 1) from hs)], u2, u3⟩
      · have hd0 : a + 1 < n ∧ d = B (a + 1) := by
          rcases hdn with q | ⟨-, rfl⟩
          · exact q
          · exact absurd (g1.mpr (hlg0 _)) hp
        obtain ⟨q1, rfl⟩ := hd0
        have hC : (a + 1 < n ∧ lgS (sgS (B a)) (B (a + 1)) ≠ sgS (B a)) := ⟨q1, fun q => hp (g1.mpr q)⟩
        rw [if_pos hC]
        have hp9 : ¬ Int32.ofNat (prN (B a) (B (a + 1))) = 0 := fun q => hp ((eq_iN (b := 0) (by omega) (by omega)).mp q)
        have hb2 := (hB.2.2 (a + 1) q1).1
        have hsr := sgS_rg (B a) hb
        have hlx := lgS_x (sgS (B a)) (by omega) (B (a + 1)) hb2 hC.2
        obtain ⟨u, u1, u2, u3⟩ := h.add (k := lgS (sgS (B a)) (B (a + 1))) (kk := prN (B a) (B (a + 1))) (a := a) (v := 0) (x := 0) (by omega) (g2 hp).symm (fun q => by omega)
        have fin : ∀ b : Bool, fX12_cut_286 K b (Int32.ofNat a) (Int32.ofNat (B a)) (Int32.ofNat a) (Int32.ofNat (prN (B a) (B (a + 1)))) w = K (Int32.ofNat (a + 2)) u := by
          intro b
          unfold fX12_cut_286
          rw [if_neg hp9]
          unfold fX12_cut_311
          rw [u1]
          dsimp only [bn]
          rw [if_neg hp9]
          unfold fX12_cut_327
          rw [if_neg hp9]
          dsimp only [lt]
          rw [show (2 : Int32) = Int32.ofNat 2 from rfl, add_iN]
        refine ⟨u, ?_, u2, u3⟩
        rw [if_neg (show ¬ (lgS (sgS (B a)) (B (a + 1)) = 1) by omega)]
        split
        · exact fin false
        · exact fin true
theorem cut_lp {B : Nat → Nat} {n : Nat} : ∀ (k m a f : Nat) (w : Wd) (ts : List (Nat × Nat × Nat)), m ≤ k → a + m = n → LM B n w ts → ts.length ≤ a →
    ∃ u, oX12_cut_7 (f + m + 1) (Int32.ofNat a) w = some u ∧ LM B n u (ts ++ cutS (tks B n m a ++ [(0, n, 0)])) ∧ OFF XRM u w := by
  intro k
  induction k with
  | zero =>
    intro m a f w ts hm ha h hl
    have hn := h.1.1
    obtain rfl : m = 0 := by omega
    obtain rfl : a = n := by omega
    show ∃ u, fX12_cut_7 (oX12_cut_7 f) _ _ = some u ∧ _
    unfold fX12_cut_7
    rw [h.1.2.1, if_pos (yle_iN (by omega) (by omega))]
    obtain ⟨u, u1, u2, u3⟩ := h.add (k := 0) (kk := 291) (a := a) (v := 0) (x := 0) (by omega) rfl (fun q => absurd q (by omega))
    have u1 : fX12_token 291 (Int32.ofNat a) 0 w = some u := u1
    rw [u1]
    exact ⟨u, rfl, u2, u3⟩
  | succ k ih =>
    intro m a f w ts hm ha h hl
    have hn := h.1.1
    cases m with
    | zero => exact ih 0 a f w ts (by omega) ha h hl
    | succ m =>
      show ∃ u, fX12_cut_7 (oX12_cut_7 (f + m + 1)) _ _ = some u ∧ _
      have hb := (h.1.2.2 a (by omega)).1
      have hx : ∀ c : Nat, c < 256 → (Int32.ofNat (B a) = Int32.ofNat c ↔ B a = c) := fun c hc => eq_iN (by omega) (by omega)
      unfold tks
      rw [if_pos (show a < n by omega)]
      by_cases h32 : B a = 32
      · have hc : Int32.ofNat (B a) = 32 := (hx 32 (by omega)).mpr h32
        have hd : B a = 32 ∨ B a = 10 := Or.inl h32
        unfold fX12_cut_7
        rw [h.1.2.1, if_neg (nle_iN (by omega) (by omega)), look_in h.1 (by omega)]
        dsimp only [bn2, lt]
        rw [if_pos hc, if_pos hd, ad1_iN]
        exact ih m (a + 1) f w ts (by omega) (by omega) h (by omega)
      · by_cases h10 : B a = 10
        · have hc0 : ¬ Int32.ofNat (B a) = 32 := fun q => h32 ((hx 32 (by omega)).mp q)
          have hc : Int32.ofNat (B a) = 10 := (hx 10 (by omega)).mpr h10
          have hd : B a = 32 ∨ B a = 10 := Or.inr h10
          unfold fX12_cut_7
          rw [h.1.2.1, if_neg (nle_iN (by omega) (by omega)), look_in h.1 (by omega)]
          dsimp only [bn2, lt]
          rw [if_neg hc0, if_pos hc, if_pos hd, ad1_iN]
          exact ih m (a + 1) f w ts (by omega) (by omega) h (by omega)
        · have hd : ¬ (B a = 32 ∨ B a = 10) := fun q => q.elim h32 h10
          rw [if_neg hd]
          obtain ⟨u, e1, e2, e3⟩ := tokenM_ok (K := oX12_cut_7 (f + m + 1)) h (show a < n by omega) hl h32 h10
          have hgt := tkS_gt (B := B) (show a < n by omega)
          have hle := tkS_le (B := B) (show a < n by omega)
          rw [e1]
          by_cases h1 : (tkS B n a).1 = 1
          · rw [if_pos h1]
            refine ⟨u, rfl, ?_, e3⟩
            show LM B n u (ts ++ (if (tkS B n a).1 = 1 then [((tkS B n a).1, a, (tkS B n a).2.1)] else _))
            rw [if_pos h1]
            exact e2
          · rw [if_neg h1]
            obtain ⟨f', hf'⟩ : ∃ f', f + m + 1 = f' + (n - (tkS B n a).2.2) + 1 := ⟨f + m - (n - (tkS B n a).2.2), by omega⟩
            obtain ⟨z, z1, z2, z3⟩ := ih (n - (tkS B n a).2.2) (tkS B n a).2.2 f' u _ (by omega) (by omega) e2 (by simp; omega)
            rw [hf']
            refine ⟨z, z1, ?_, z3.tr e3⟩
            rw [tks_fuel B n m (n - (tkS B n a).2.2) _ (by omega) (by omega)]
            show LM B n z (ts ++ (if (tkS B n a).1 = 1 then _ else ((tkS B n a).1, a, (tkS B n a).2.1) :: cutS (tks B n (n - (tkS B n a).2.2) (tkS B n a).2.2 ++ [(0, n, 0)])))
            rw [if_neg h1]
            simpa using z2
/-- the reference has cut the TEXT -/
theorem cut_ok {B : Nat → Nat} {n : Nat} {w : Wd} (hB : BM B n w) : ∃ u, fX12_cut w = some u ∧ LM B n u (cutS (tks B n n 0 ++ [(0, n, 0)])) ∧ OFF XRM u w := by
  unfold fX12_cut
  dsimp only [lt]
  obtain ⟨f, hf⟩ := FU_ge (k := n + 1) (by have := hB.1; omega)
  rw [hf, ← Nat.add_assoc]
  have hLM : LM B n (si w 0 6 0) [] := by
    refine ⟨⟨hB.1, by rw [gi_si1 (by omega)]; exact hB.2.1, fun i hi => ?_⟩, gi_si0 _ _ _ _, fun i t ht => by simp at ht⟩
    rw [gi_si1 (by omega)]
    exact hB.2.2 i hi
  obtain ⟨u, u1, u2, u3⟩ := cut_lp n n 0 f _ [] (Nat.le_refl _) (by omega) hLM (Nat.le_refl _)
  exact ⟨u, u1, by simpa using u2, u3.tr (OFF.si (Or.inl ⟨rfl, rfl⟩))⟩
