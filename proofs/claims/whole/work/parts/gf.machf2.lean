/-! THE REFERENCE'S MACHINE (6): calls with ACTUALS, switches, BLOCKS, setting -/
section N5
variable {gM : Wd} {b ev sp cp na mt el us b1 ev1 sp1 cp1 na1 mt1 el1 us1 al sc pr de fu : Nat} {w u v : Wd} {a x y z : Int32}
/-- where a formal is told of its ACTUAL: by name -/
def FM1 (gM : Wd) (evf at_ slot : Nat) (w u : Wd) : Prop :=
  ((gi gM 52 at_ = 1 ∨ gi gM 52 at_ = 4) ∧ u = sl (sl w 83 slot (gi gM 53 at_).toInt64) 83 (slot + 1) (Int64.ofNat evf))
  ∨ (∃ n far base s, gi gM 53 at_ = Int32.ofNat n ∧ n ≤ 100 ∧ ACH w n evf far ∧ far < 64 ∧ gi w 87 far = Int32.ofNat base ∧ gi gM 54 at_ = Int32.ofNat s ∧ s < 100000 ∧
      ((gi gM 52 at_ = 10 ∧ base + s + 1 < 200000 ∧ u = sl (sl w 83 slot (gl w 83 (base + s))) 83 (slot + 1) (gl (sl w 83 slot (gl w 83 (base + s))) 83 (base + s + 1)))
      ∨ (gi gM 52 at_ = 2 ∧ base + s < 200000 ∧ u = sl w 83 slot (Int64.ofNat (base + s)))
      ∨ ((gi gM 52 at_ = 3 ∨ gi gM 52 at_ = 5) ∧ u = sl (sl w 83 slot (Int64.ofNat s)) 83 (slot + 1) (Int64.ofNat far))))
theorem FM1.off {evf at_ slot : Nat} (h : FM1 gM evf at_ slot w u) : OFF (fun k j => k = 83 ∧ (j = slot ∨ j = slot + 1)) u w := by
  rcases h with ⟨_, h⟩ | ⟨n, far, base, s, _, _, _, _, _, _, _, h⟩
  · rw [h]; exact OFF.tr (OFF.sl (by omega)) (OFF.sl (by omega))
  · rcases h with ⟨_, _, h⟩ | ⟨_, _, h⟩ | ⟨_, h⟩ <;> rw [h]
    · exact OFF.tr (OFF.sl (by omega)) (OFF.sl (by omega))
    · exact OFF.sl (by omega)
    · exact OFF.tr (OFF.sl (by omega)) (OFF.sl (by omega))
/-- formals i .. i + n - 1 -/
def FMS (gM : Wd) (evf a0 ff base : Nat) : Nat → Nat → Wd → Wd → Prop
  | _, 0, w, u => u = w
  | i, n + 1, w, u => ∃ s v, gi gM 26 (ff + i) = Int32.ofNat s ∧ base + s + 1 < 200000 ∧ FM1 gM evf (a0 + i) (base + s) w v ∧ FMS gM evf a0 ff base (i + 1) n v u
theorem far_lp {k59 : Int32 → Int32 → Int32 → Int32 → Int32 → Wd → Option Wd} {q1 q3 q4 q6 q7 q10 : Int32} {at_ slot nA far base s : Nat} (hat : at_ < 6000) (hsl : slot + 1 < 200000) (h67 : gi w 67 at_ = Int32.ofNat nA) (hk : q10 = 10 ∨ q10 = 2 ∨ q10 = 3 ∨ q10 = 5) (hfar : far < 64) (h87 : gi w 87 far = Int32.ofNat base) (h68 : gi w 68 at_ = Int32.ofNat s) (hbs : (q10 = 10 → base + s + 1 < 200000) ∧ (q10 = 2 → base + s < 200000)) : ∀ (n i f fo : Nat), ACH w n f far → i + n = nA → nA ≤ 100 →
    oX12_call__163 k59 (fo + n + 1) q1 q3 q4 q6 q7 (Int32.ofNat at_) (Int32.ofNat slot) q10 (Int32.ofNat f) (Int32.ofNat i) w = k59 q1 q3 q4 q6 (q7 + 1) (if q10 = 10 then sl (sl w 83 slot (gl w 83 (base + s))) 83 (slot + 1) (gl (sl w 83 slot (gl w 83 (base + s))) 83 (base + s + 1)) else if q10 = 2 then sl w 83 slot (Int32.toInt64 (Int32.ofNat (base + s))) else sl (sl w 83 slot (Int32.toInt64 (Int32.ofNat s))) 83 (slot + 1) (Int32.toInt64 (Int32.ofNat far))) := by
  intro n
  induction n with
  | zero =>
    intro i f fo h h1 h2
    have h : far = f := h
    subst h
    show fX12_call__163 _ _ _ _ _ _ _ _ _ _ _ _ _ = _
    unfold fX12_call__163
    rw [if_pos (inb_iN hat (by omega)), tc_iN (by omega), h67, if_pos ((le_iN (by omega) (by omega)).mpr (by omega)), if_pos (inb_iN hfar (by omega)), if_pos (inb_iN hat (by omega)), tc_iN (by omega), h87, h68, add_iN, ltq]
    by_cases c1 : q10 = 10
    · have hb := hbs.1 c1
      rw [if_pos c1, if_pos c1, if_pos (inb_iN (by omega) (by omega)), if_pos (inb_iN (by omega) (by omega)), tc_iN (by omega), tc_iN (by omega), ltq, ad1_iN, ad1_iN, if_pos (inb_iN hb (by omega)), if_pos (inb_iN hsl (by omega)), tc_iN (by omega), tc_iN (by omega), ltq, ltq]
    · rw [if_neg c1, if_neg c1]
      by_cases c2 : q10 = 2
      · have hb := hbs.2 c2
        rw [if_pos c2, if_pos c2, if_pos (inb_iN (by omega) (by omega)), tc_iN (by omega), ltq, ltq]
      · rw [if_neg c2, if_neg c2, if_pos (inb_iN hat (by omega)), if_pos (inb_iN (by omega) (by omega)), tc_iN (show slot < 2147483648 by omega), ltq, ad1_iN, if_pos (inb_iN hsl (by omega)), tc_iN (by omega), ltq, ltq]
  | succ n ih =>
    intro i f fo h h1 h2
    obtain ⟨h3, f1, h4, h5⟩ := h
    show fX12_call__163 _ (oX12_call__163 k59 (fo + n + 1)) _ _ _ _ _ _ _ _ _ _ _ = _
    unfold fX12_call__163
    rw [if_pos (inb_iN hat (by omega)), tc_iN (by omega), h67, if_neg (nle_iN (by omega) (by omega)), if_pos (inb_iN h3 (by omega)), tc_iN (by omega), h4, ltq, ad1_iN, ltq]
    exact ih (i + 1) f1 fo h5 (by omega) h2
theorem call_lp {s p evf e a0 ff nf c base : Nat} (hs : s < 4300) (hp : p < 1200) (he : e < 64) (hc : gi gM 36 p = Int32.ofNat c) (h31 : gi gM 31 p = Int32.ofNat nf) (h32 : gi gM 32 p = Int32.ofNat ff) (h51' : nf ≠ 0 → gi gM 51 s = Int32.ofNat a0) (ha' : nf ≠ 0 → a0 + nf ≤ 6000) (hff : ff + nf ≤ 5000) (hef : evf < 64) : ∀ (n i fo : Nat) (w u : Wd), RTB gM w → gi w 87 e = Int32.ofNat base → FMS gM evf a0 ff base i n w u → i + n = nf →
    oX12_call__59 (fo + n + 1) (Int32.ofNat s) (Int32.ofNat p) (Int32.ofNat evf) (Int32.ofNat e) (Int32.ofNat i) w = some (si (si u 0 129 (Int32.ofNat e)) 0 128 (Int32.ofNat c)) := by
  intro n
  induction n with
  | zero =>
    intro i fo w u hR h87 hF hi
    have hF : u = w := hF
    subst hF
    show fX12_call__59 _ _ _ _ _ _ _ = _
    unfold fX12_call__59
    rw [if_pos (inb_iN hp (by omega)), tc_iN (by omega), (hR.2.2.2 p).2.2.2.1, h31, if_pos ((le_iN (by omega) (by omega)).mpr (by omega)), ltq, if_pos (inb_iN hp (by omega)), gi_si1 (by omega), (hR.2.2.2 p).1, hc, ltq]
  | succ n ih =>
    intro i fo w u hR h87 hF hi
    obtain ⟨sl0, v, f1, f2, f3, f4⟩ := hF
    have h51 := h51' (by omega)
    have ha := ha' (by omega)
    have hO := f3.off
    have hRv : RTB gM v := hR.off hO (fun k j p => by omega)
    have h87v : gi v 87 e = Int32.ofNat base := (hO 87 e (by omega)).1.trans h87
    show fX12_call__59 (oX12_call__59 (fo + n + 1)) _ _ _ _ _ _ = _
    unfold fX12_call__59
    rw [if_pos (inb_iN hp (by omega)), tc_iN (by omega), (hR.2.2.2 p).2.2.2.1, h31, if_neg (nle_iN (by omega) (by omega)), if_pos (inb_iN hs (by omega)), tc_iN (by omega), hR.2.1 65 s (by omega) (by omega), h51, add_iN, ltq, if_pos (inb_iN he (by omega)), if_pos (inb_iN hp (by omega)), tc_iN (by omega), h87, (hR.2.2.2 p).2.2.1, h32, add_iN, if_pos (inb_iN (by omega) (by omega)), tc_iN (by omega), (hR.2.2.2 (ff + i)).2.2.2.2.1, f1, add_iN, ltq, if_pos (inb_iN (by omega) (by omega)), tc_iN (by omega), hR.2.1 66 (a0 + i) (by omega) (by omega), ltq]
    have e7 : gi w 67 (a0 + i) = gi gM 53 (a0 + i) := hR.2.1 67 _ (by omega) (by omega)
    have e8 : gi w 68 (a0 + i) = gi gM 54 (a0 + i) := hR.2.1 68 _ (by omega) (by omega)
    have hgo := ih (i + 1) fo v u hRv h87v f4 (by omega)
    have h126 : (gi gM 52 (a0 + i) = 1 ∨ gi gM 52 (a0 + i) = 4) → v = sl (sl w 83 (base + sl0) (gi gM 53 (a0 + i)).toInt64) 83 (base + sl0 + 1) (Int64.ofNat evf) → fX12_call__126 (oX12_call__59 (fo + n + 1)) (Int32.ofNat s) (Int32.ofNat p) (Int32.ofNat evf) (Int32.ofNat e) (Int32.ofNat i) (Int32.ofNat (a0 + i)) (Int32.ofNat (base + sl0)) w = some (si (si u 0 129 (Int32.ofNat e)) 0 128 (Int32.ofNat c)) := fun _ hv => by
      unfold fX12_call__126
      rw [if_pos (inb_iN (by omega) (by omega)), tc_iN (by omega), if_pos (inb_iN (by omega) (by omega)), tc_iN (by omega), ltq, e7, ad1_iN, if_pos (inb_iN f2 (by omega)), tc_iN (by omega), ltq, ad1_iN, ltq, i64_iN (by omega), ← hv]
      exact hgo
    rcases f3 with ⟨k1, k2⟩ | ⟨nA, far, bs, sA, k1, k2, k3, k4, k5, k6, k69, k7⟩
    · rcases k1 with k1 | k1
      · rw [if_pos k1]; exact h126 (Or.inl k1) k2
      · rw [if_neg (by rw [k1]; decide), if_pos k1]; exact h126 (Or.inr k1) k2
    · have hk : gi gM 52 (a0 + i) = 10 ∨ gi gM 52 (a0 + i) = 2 ∨ gi gM 52 (a0 + i) = 3 ∨ gi gM 52 (a0 + i) = 5 := by
        rcases k7 with k7 | k7 | k7
        · exact Or.inl k7.1
        · exact Or.inr (Or.inl k7.1)
        · exact Or.inr (Or.inr k7.1)
      have n1 : ¬ gi gM 52 (a0 + i) = 1 := by rcases hk with h | h | h | h <;> rw [h] <;> decide
      have n4 : ¬ gi gM 52 (a0 + i) = 4 := by rcases hk with h | h | h | h <;> rw [h] <;> decide
      rw [if_neg n1, if_neg n4]
      obtain ⟨f9, hf9⟩ := FU_ge (k := nA + 1) (by omega)
      have hL := far_lp (w := w) (k59 := oX12_call__59 (fo + n + 1)) (q1 := Int32.ofNat s) (q3 := Int32.ofNat p) (q4 := Int32.ofNat evf) (q6 := Int32.ofNat e) (q7 := Int32.ofNat i) (q10 := gi gM 52 (a0 + i)) (at_ := a0 + i) (slot := base + sl0) (nA := nA) (far := far) (base := bs) (s := sA) (by omega) f2 (e7.trans k1) hk k4 k5 (e8.trans k6) ⟨fun q => by
        rcases k7 with k7 | k7 | k7
        · exact k7.2.1
        · rw [k7.1] at q; exact absurd q (by decide)
        · rcases k7.1 with h | h <;> rw [h] at q <;> exact absurd q (by decide), fun q => by
        rcases k7 with k7 | k7 | k7
        · rw [k7.1] at q; exact absurd q (by decide)
        · exact k7.2.1
        · rcases k7.1 with h | h <;> rw [h] at q <;> exact absurd q (by decide)⟩ nA 0 evf f9 k3 (by omega) k2
      rw [hf9, ← Nat.add_assoc, show (0 : Int32) = Int32.ofNat 0 from rfl, hL, ad1_iN]
      have hv : (if gi gM 52 (a0 + i) = 10 then sl (sl w 83 (base + sl0) (gl w 83 (bs + sA))) 83 (base + sl0 + 1) (gl (sl w 83 (base + sl0) (gl w 83 (bs + sA))) 83 (bs + sA + 1)) else if gi gM 52 (a0 + i) = 2 then sl w 83 (base + sl0) (Int32.toInt64 (Int32.ofNat (bs + sA))) else sl (sl w 83 (base + sl0) (Int32.toInt64 (Int32.ofNat sA))) 83 (base + sl0 + 1) (Int32.toInt64 (Int32.ofNat far))) = v := by
        rcases k7 with ⟨m1, m2, m3⟩ | ⟨m1, m2, m3⟩ | ⟨m1, m3⟩
        · rw [if_pos m1, m3]
        · rw [if_neg (by rw [m1]; decide), if_pos m1, m3, i64_iN (by omega)]
        · have hs9 : gi gM 54 (a0 + i) = Int32.ofNat sA := k6
          rw [if_neg (by rcases m1 with h | h <;> rw [h] <;> decide), if_neg (by rcases m1 with h | h <;> rw [h] <;> decide), m3]
          rw [i64_iN (by omega), i64_iN (by omega)]
      rw [hv]
      exact hgo
end N5
