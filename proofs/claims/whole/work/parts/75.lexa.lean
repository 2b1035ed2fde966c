/-! LEXING, the class's side -/
theorem nle_iN {a b : Nat} (h : b < a) (ha : a < 2147483648) : ¬ Int32.ofNat a ≤ Int32.ofNat b := fun q => absurd ((le_iN ha (by omega)).mp q) (by omega)
theorem nlt_iN {a b : Nat} (h : b ≤ a) (ha : a < 2147483648) : ¬ Int32.ofNat a < Int32.ofNat b := fun q => absurd ((lt_iN ha (by omega)).mp q) (by omega)
theorem yle_iN {a b : Nat} (h : a ≤ b) (hb : b < 2147483648) : Int32.ofNat a ≤ Int32.ofNat b := (le_iN (by omega) hb).mpr h
theorem ylt_iN {a b : Nat} (h : a < b) (hb : b < 2147483648) : Int32.ofNat a < Int32.ofNat b := (lt_iN (by omega) hb).mpr h
def BT (B : Nat → Nat) (n : Nat) (w : Wd) : Prop := n ≤ 8192 ∧ ∀ i, i < n → B i < 256 ∧ gi w 1 i = Int32.ofNat (B i)
def WT (w : Wd) : Prop := ∀ k, k < 29 → gl w 11 (4 + k) = Int64.ofNat (wpk k)
theorem digA : ∀ c : Nat, c < 256 → (if Int32.ofNat c < 48 then false else if 57 < Int32.ofNat c then false else true) = decide (48 ≤ c ∧ c ≤ 57) := by decide +kernel
theorem isDig {c : Nat} (h : c < 256) (w : Wd) : fX9_isDigit (Int32.ofNat c) w = decide (48 ≤ c ∧ c ≤ 57) := digA c h
theorem codA : ∀ c : Nat, c < 256 → (if Int32.ofNat c < 97 then (if (if Int32.ofNat c < 48 then false else if 57 < Int32.ofNat c then false else true) = true then (((Int32.ofNat c - 48) + 26) + 1) else 0) else if 122 < Int32.ofNat c then (if (if Int32.ofNat c < 48 then false else if 57 < Int32.ofNat c then false else true) = true then (((Int32.ofNat c - 48) + 26) + 1) else 0) else ((Int32.ofNat c - 97) + 1)) = Int32.ofNat (cdN c) := by decide +kernel
theorem isCod {c : Nat} (h : c < 256) (w : Wd) : fX9_code (Int32.ofNat c) w = Int32.ofNat (cdN c) := codA c h
theorem sgnA : ∀ c : Nat, c < 256 → sgn (((Int32.toUInt32 (Int32.ofNat c)) % 65536).toInt32) = (if sgS c = 1 then -1 else Int32.ofNat (sgS c - 33)) := by decide +kernel
theorem sgS_rg : ∀ c : Nat, c < 256 → sgS c = 1 ∨ (33 ≤ sgS c ∧ sgS c ≤ 46) := by decide +kernel
theorem lgA : ∀ k : Nat, k < 47 → ∀ d : Nat, d < 256 → (if Int32.ofNat d = 61 then (if Int32.ofNat k = 37 then (47 : Int32) else if Int32.ofNat k = 39 then 48 else if Int32.ofNat k = 42 then 50 else Int32.ofNat k) else (if Int32.ofNat k = 37 then (if Int32.ofNat d = 62 then 49 else Int32.ofNat k) else Int32.ofNat k)) = Int32.ofNat (lgS k d) := by decide +kernel
theorem isLng {k d : Nat} (hk : k < 47) (hd : d < 256) (w : Wd) : fX9_longer (Int32.ofNat k) (Int32.ofNat d) w = Int32.ofNat (lgS k d) := lgA k hk d hd
theorem lgS_lt : ∀ k : Nat, k < 47 → ∀ d : Nat, d < 256 → lgS k d < 51 := by decide +kernel
theorem byA {B : Nat → Nat} {n i : Nat} {w : Wd} (h : BT B n w) (hi : i < n) : rgi w 1 8192 (Int32.ofNat i) = Int32.ofNat (B i) := by
  have h1 := h.1
  rw [rgi_iN (by omega) (by omega)]
  exact (h.2 i hi).2
/-- a TOKEN more -/
def XT (c k j : Nat) : Prop := (k = 4 ∧ j = 8) ∨ (5 ≤ k ∧ k ≤ 10 ∧ j = c)
theorem tadd_ok {c : Nat} {k a : Int32} {v : Int64} {w : Wd} (hc : c < 8193) (h : gi w 4 8 = Int32.ofNat c) : gi (fX9_add k a v w) 4 8 = Int32.ofNat (c + 1) ∧ gi (fX9_add k a v w) 5 c = k ∧ gi (fX9_add k a v w) 6 c = a ∧ gl (fX9_add k a v w) 7 c = v ∧ gi (fX9_add k a v w) 8 c = 0 ∧ gi (fX9_add k a v w) 9 c = 0 ∧ gi (fX9_add k a v w) 10 c = Int32.ofNat c ∧ OFF (XT c) (fX9_add k a v w) w := by
  have e : fX9_add k a v w = si (si (si (si (sl (si (si w 5 c k) 6 c a) 7 c v) 8 c 0) 9 c 0) 10 c (Int32.ofNat c)) 4 8 (Int32.ofNat (c + 1)) := by
    unfold fX9_add
    dsimp only [lt]
    rw [h, rsi_iN hc (by omega)]
    rw [show gi (si w 5 c k) 4 8 = Int32.ofNat c by rw [gi_si1 (by omega)]; exact h, rsi_iN hc (by omega)]
    rw [show gi (si (si w 5 c k) 6 c a) 4 8 = Int32.ofNat c by rw [gi_si1 (by omega), gi_si1 (by omega)]; exact h, rsl_iN hc (by omega)]
    rw [show gi (sl (si (si w 5 c k) 6 c a) 7 c v) 4 8 = Int32.ofNat c by rw [gi_sl, gi_si1 (by omega), gi_si1 (by omega)]; exact h, rsi_iN hc (by omega)]
    rw [show gi (si (sl (si (si w 5 c k) 6 c a) 7 c v) 8 c 0) 4 8 = Int32.ofNat c by rw [gi_si1 (by omega), gi_sl, gi_si1 (by omega), gi_si1 (by omega)]; exact h, rsi_iN hc (by omega)]
    rw [show gi (si (si (sl (si (si w 5 c k) 6 c a) 7 c v) 8 c 0) 9 c 0) 4 8 = Int32.ofNat c by rw [gi_si1 (by omega), gi_si1 (by omega), gi_sl, gi_si1 (by omega), gi_si1 (by omega)]; exact h, rsi_iN hc (by omega)]
    rw [show gi (si (si (si (sl (si (si w 5 c k) 6 c a) 7 c v) 8 c 0) 9 c 0) 10 c (Int32.ofNat c)) 4 8 = Int32.ofNat c by rw [gi_si1 (by omega), gi_si1 (by omega), gi_si1 (by omega), gi_sl, gi_si1 (by omega), gi_si1 (by omega)]; exact h, ad1_iN]
  rw [e]
  refine ⟨gi_si0 _ _ _ _, ?_, ?_, ?_, ?_, ?_, ?_, fun p j hp => ?_⟩
  · repeat first | rw [gi_si0] | rw [gi_si1 (by omega)] | rw [gi_sl]
  · repeat first | rw [gi_si0] | rw [gi_si1 (by omega)] | rw [gi_sl]
  · rw [gl_si, gl_si, gl_si, gl_si, gl_sl0]
  · repeat first | rw [gi_si0] | rw [gi_si1 (by omega)] | rw [gi_sl]
  · repeat first | rw [gi_si0] | rw [gi_si1 (by omega)] | rw [gi_sl]
  · repeat first | rw [gi_si0] | rw [gi_si1 (by omega)] | rw [gi_sl]
  · unfold XT at hp
    refine ⟨?_, ?_⟩
    · rw [gi_si1 (by omega), gi_si1 (by omega), gi_si1 (by omega), gi_si1 (by omega), gi_sl, gi_si1 (by omega), gi_si1 (by omega)]
    · rw [gl_si, gl_si, gl_si, gl_si, gl_sl1 (by omega), gl_si, gl_si]
/-! the table of NAMES -/
theorem php : ∀ (N : Nat) (L : List Nat), (∀ p, p < N → p ∈ L) → N ≤ L.length := by
  intro N
  induction N with
  | zero => intro L _; exact Nat.zero_le _
  | succ N ih =>
    intro L h
    have h1 : N ∈ L := h N (by omega)
    have h2 := ih (L.erase N) (fun p hp => (List.mem_erase_of_ne (by omega)).mpr (h p (by omega)))
    rw [List.length_erase_of_mem h1] at h2
    have h3 : 0 < L.length := List.length_pos_of_mem h1
    omega
def NT (m : Nat) (w : Wd) : Prop :=
  (∀ p, p < 8192 → gl w 12 p ≠ 0 → ∃ v i, 0 < v ∧ v < 9007199254740992 ∧ gl w 12 p = Int64.ofNat v ∧ p = (v + i) % 8192 ∧ ∀ j, j < i → gl w 12 ((v + j) % 8192) ≠ 0 ∧ gl w 12 ((v + j) % 8192) ≠ Int64.ofNat v) ∧
  ∃ L : List Nat, L.length ≤ m ∧ ∀ p, p < 8192 → gl w 12 p ≠ 0 → p ∈ L
theorem ln_ne {v : Nat} (h : 0 < v) (h2 : v < 9007199254740992) : Int64.ofNat v ≠ 0 := fun e => by
  have := (eq_lN (a := v) (b := 0) (by omega) (by omega)).mp e
  omega
/-- one NAME, one place -/
theorem NT.one {m : Nat} {w : Wd} (h : NT m w) {p q v : Nat} (hv : 0 < v) (hv2 : v < 9007199254740992) (hp : p < 8192) (hq : q < 8192) (h1 : gl w 12 p = Int64.ofNat v) (h2 : gl w 12 q = Int64.ofNat v) : p = q := by
  have hz := ln_ne hv hv2
  obtain ⟨v1, i, a1, a2, a3, a4, a5⟩ := h.1 p hp (by rw [h1]; exact hz)
  obtain ⟨v2, k, b1, b2, b3, b4, b5⟩ := h.1 q hq (by rw [h2]; exact hz)
  have e1 : v1 = v := (eq_lN (by omega) (by omega)).mp (a3.symm.trans h1)
  have e2 : v2 = v := (eq_lN (by omega) (by omega)).mp (b3.symm.trans h2)
  subst e1
  subst e2
  rcases Nat.lt_trichotomy i k with hl | hl | hl
  · exact absurd (show gl w 12 ((v2 + i) % 8192) = Int64.ofNat v2 by rw [← a4]; exact h1) (b5 i hl).2
  · rw [a4, b4, hl]
  · exact absurd (show gl w 12 ((v2 + k) % 8192) = Int64.ofNat v2 by rw [← b4]; exact h2) (a5 k hl).2
theorem numberOf_lp {m v : Nat} {w : Wd} (h : NT m w) (hm : m < 8192) (hv : 0 < v) (hv2 : v < 9007199254740992) : ∀ (r i f : Nat), i + r = 8192 → (∀ j, j < i → gl w 12 ((v + j) % 8192) ≠ 0 ∧ gl w 12 ((v + j) % 8192) ≠ Int64.ofNat v) →
    ∃ p u, oX9_numberOf_12 (f + r + 1) (Int64.ofNat v) (Int32.ofNat ((v + i) % 8192)) (Int32.ofNat i) w = some (Int32.ofNat p, u) ∧ p < 8192 ∧ gl u 12 p = Int64.ofNat v ∧ NT (m + 1) u ∧ (∀ q, gl w 12 q ≠ 0 → gl u 12 q = gl w 12 q) ∧ OFF (fun k j => k = 12) u w ∧ (∀ q, gl u 12 q ≠ 0 → q = p ∨ gl w 12 q ≠ 0) := by
  intro r
  induction r with
  | zero =>
    intro i f hi hj
    exfalso
    obtain ⟨L, hL, hall⟩ := h.2
    have : 8192 ≤ L.length := php 8192 L (fun p hp => hall p hp (by
      obtain ⟨j, hj1, hj2⟩ : ∃ j, j < i ∧ p = (v + j) % 8192 := by
        by_cases hc : v % 8192 ≤ p
        · exact ⟨p - v % 8192, by omega, by omega⟩
        · exact ⟨p + 8192 - v % 8192, by omega, by omega⟩
      rw [hj2]
      exact (hj j hj1).1))
    omega
  | succ r ih =>
    intro i f hi hj
    have hp8 : (v + i) % 8192 < 8192 := Nat.mod_lt _ (by omega)
    show ∃ p u, fX9_numberOf_12 (oX9_numberOf_12 (f + r + 1)) (Int64.ofNat v) (Int32.ofNat ((v + i) % 8192)) (Int32.ofNat i) w = some (Int32.ofNat p, u) ∧ _
    unfold fX9_numberOf_12
    have hc0 : ¬ ((8192 : Int32) ≤ Int32.ofNat i) := nle_iN (a := 8192) (by omega) (by omega)
    rw [if_neg hc0]
    dsimp only [lt]
    rw [rgl_iN hp8 (by omega)]
    by_cases h0 : gl w 12 ((v + i) % 8192) = 0
    · rw [if_pos h0, rsl_iN hp8 (by omega)]
      unfold fX9_numberOf_46
      rw [if_pos h0]
      refine ⟨(v + i) % 8192, _, rfl, hp8, gl_sl0 _ _ _ _, ⟨fun p hp hne => ?_, ?_⟩, fun q hq => gl_sl1 (fun e => hq (by rw [e.2]; exact h0)), OFF.sl rfl, fun q hq => ?_⟩
      · by_cases hpe : p = (v + i) % 8192
        · refine ⟨v, i, hv, hv2, by rw [hpe]; exact gl_sl0 _ _ _ _, hpe, fun j hji => ?_⟩
          have h3 := hj j hji
          rw [gl_sl1 (fun e => h3.1 (by rw [e.2]; exact h0))]
          exact h3
        · rw [gl_sl1 (fun e => hpe e.2)] at hne
          obtain ⟨v1, i1, a1, a2, a3, a4, a5⟩ := h.1 p hp hne
          refine ⟨v1, i1, a1, a2, by rw [gl_sl1 (fun e => hpe e.2)]; exact a3, a4, fun j hji => ?_⟩
          have h3 := a5 j hji
          rw [gl_sl1 (fun e => h3.1 (by rw [e.2]; exact h0))]
          exact h3
      · obtain ⟨L, hL, hall⟩ := h.2
        refine ⟨(v + i) % 8192 :: L, by simp; omega, fun p hp hne => ?_⟩
        by_cases hpe : p = (v + i) % 8192
        · rw [hpe]; exact List.mem_cons_self
        · rw [gl_sl1 (fun e => hpe e.2)] at hne
          exact List.mem_cons_of_mem _ (hall p hp hne)
      · by_cases hqe : q = (v + i) % 8192
        · exact Or.inl hqe
        · rw [gl_sl1 (fun e => hqe e.2)] at hq
          exact Or.inr hq
    · rw [if_neg h0]
      unfold fX9_numberOf_46
      rw [if_neg h0]
      by_cases h1 : gl w 12 ((v + i) % 8192) = Int64.ofNat v
      · rw [if_pos h1]
        obtain ⟨L, hL, hall⟩ := h.2
        exact ⟨_, _, rfl, hp8, h1, ⟨h.1, L, by omega, hall⟩, fun _ _ => rfl, OFF.rf, fun q hq => Or.inr hq⟩
      · rw [if_neg h1]
        dsimp only [lt]
        have e1 : Int32.ofNat ((v + i) % 8192) + 1 = Int32.ofNat ((v + i) % 8192 + 1) := ad1_iN _
        have e2 : (8192 : Int32) = Int32.ofNat 8192 := rfl
        rw [e1, e2, mod_iN (by omega) (by omega), ad1_iN, show ((v + i) % 8192 + 1) % 8192 = (v + (i + 1)) % 8192 by omega]
        refine ih (i + 1) f (by omega) (fun j hji => ?_)
        by_cases hje : j = i
        · rw [hje]; exact ⟨h0, h1⟩
        · exact hj j (by omega)
theorem numberOf_ok {m v : Nat} {w : Wd} (h : NT m w) (hm : m < 8192) (hv : 0 < v) (hv2 : v < 9007199254740992) : ∃ p u, fX9_numberOf (Int64.ofNat v) w = some (Int32.ofNat p, u) ∧ p < 8192 ∧ gl u 12 p = Int64.ofNat v ∧ NT (m + 1) u ∧ (∀ q, gl w 12 q ≠ 0 → gl u 12 q = gl w 12 q) ∧ OFF (fun k j => k = 12) u w ∧ (∀ q, gl u 12 q ≠ 0 → q = p ∨ gl w 12 q ≠ 0) := by
  unfold fX9_numberOf
  have e1 : fJ9_floorMod_f86c9 (Int64.ofNat v) 8192 = Int64.ofNat (v % 8192) := by
    unfold fJ9_floorMod_f86c9
    dsimp only [lt]
    rw [show (8192 : Int64) = Int64.ofNat 8192 from rfl, if_pos (xor_lN (by omega) (by omega)), mod_lN (by omega) (by omega)]
  dsimp only [lt]
  rw [e1, toI_lN]
  obtain ⟨f, hf⟩ := FU_ge (k := 8192 + 1) (by omega)
  rw [hf]
  exact numberOf_lp h hm hv hv2 8192 0 f (by omega) (fun j hj => absurd hj (by omega))
theorem wpk_sm : ∀ k : Nat, k < 29 → wpk k < 9007199254740992 := by decide +kernel
theorem word_lp {p : Nat} {w : Wd} (hw : WT w) (hp : p < 9007199254740992) : ∀ (r k f : Nat), k + r = 29 → wdS p k = none → oX9_word_2 (f + r + 1) (Int64.ofNat p) (Int32.ofNat (4 + k)) w = some (match wdS p 29 with | some k => Int32.ofNat (4 + k) | none => 0, w) := by
  intro r
  induction r with
  | zero =>
    intro k f hk hn
    obtain rfl : k = 29 := by omega
    show fX9_word_2 (oX9_word_2 f) _ _ _ = _
    unfold fX9_word_2
    rw [if_pos (by decide), hn]
  | succ r ih =>
    intro k f hk hn
    show fX9_word_2 (oX9_word_2 (f + r + 1)) _ _ _ = _
    unfold fX9_word_2
    have hc0 : ¬ ((32 : Int32) < Int32.ofNat (4 + k)) := nlt_iN (a := 32) (by omega) (by omega)
    rw [if_neg hc0]
    dsimp only [lt]
    rw [rgl_iN (by omega) (by omega), hw k (by omega)]
    have h5 : wdS p (k + 1) = if wpk k = p then some k else none := by
      show (match wdS p k with | some k => some k | none => if wpk k = p then some k else none) = _
      rw [hn]
    by_cases hc : wpk k = p
    · rw [if_pos (by rw [hc])]
      have h6 : ∀ j, wdS p (k + 1 + j) = some k := by
        intro j
        induction j with
        | zero => rw [Nat.add_zero, h5, if_pos hc]
        | succ j ihj =>
          show (match wdS p (k + 1 + j) with | some k => some k | none => if wpk (k + 1 + j) = p then some (k + 1 + j) else none) = _
          rw [ihj]
      have h7 : wdS p 29 = some k := by
        have := h6 (29 - (k + 1))
        rw [show k + 1 + (29 - (k + 1)) = 29 by omega] at this
        exact this
      rw [h7]
    · rw [if_neg (fun q => hc ((eq_lN (by have := wpk_sm k (by omega); omega) (by omega)).mp q)), ad1_iN]
      rw [if_neg hc] at h5
      exact ih (k + 1) f (by omega) h5
theorem word_ok {p : Nat} {w : Wd} (hw : WT w) (hp : p < 9007199254740992) : fX9_word (Int64.ofNat p) w = some (match wdS p 29 with | some k => Int32.ofNat (4 + k) | none => 0, w) := by
  unfold fX9_word
  obtain ⟨f, hf⟩ := FU_ge (k := 29 + 1) (by omega)
  rw [hf]
  exact word_lp hw hp 29 0 f (by omega) rfl
theorem lgS_x : ∀ k : Nat, k < 47 → ∀ d : Nat, d < 256 → lgS k d ≠ k → 47 ≤ lgS k d := by decide +kernel
theorem wdS_lt {p : Nat} : ∀ {m k : Nat}, wdS p m = some k → k < m := by
  intro m
  induction m with
  | zero => intro k h; cases h
  | succ m ih =>
    intro k h
    have h : (match wdS p m with | some k => some k | none => if wpk m = p then some m else none) = some k := h
    cases hq : wdS p m with
    | some j =>
      rw [hq] at h
      cases h
      have := ih hq
      omega
    | none =>
      rw [hq] at h
      dsimp only at h
      split at h
      · cases h; omega
      · cases h
