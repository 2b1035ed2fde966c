/-! LEXING, the reference's side -/
/-- the class's kinds of TOKENS as the reference numbers them -/
def kM (k : Nat) : Nat := if k = 0 then 291 else if k = 1 then 292 else if k = 2 then 285 else if k = 3 then 286 else if k < 33 then 252 + k else [43, 45, 42, 94, 60, 61, 62, 44, 59, 58, 40, 41, 91, 93, 287, 288, 289, 290].getD (k - 33) 0
def BM (B : Nat → Nat) (n : Nat) (w : Wd) : Prop := n ≤ 8192 ∧ gi w 0 2 = Int32.ofNat n ∧ ∀ i, i < n → B i < 256 ∧ gi w 1 i &&& 255 = Int32.ofNat (B i) ∧ (B i < 128 → gi w 1 i = Int32.ofNat (B i))
def TKM (w : Wd) (i : Nat) (t : Nat × Nat × Nat) : Prop := gi w 2 i = Int32.ofNat (kM t.1) ∧ gi w 3 i = Int32.ofNat t.2.1 ∧ (t.1 = 2 ∨ t.1 = 3 → gl w 4 i = Int64.ofNat t.2.2)
/-- the reference while it reads -/
def LM (B : Nat → Nat) (n : Nat) (w : Wd) (ts : List (Nat × Nat × Nat)) : Prop := BM B n w ∧ gi w 0 6 = Int32.ofNat ts.length ∧ ∀ i t, ts[i]? = some t → TKM w i t
def XRM (k j : Nat) : Prop := (k = 0 ∧ j = 6) ∨ (2 ≤ k ∧ k ≤ 4)
theorem LM.add {B : Nat → Nat} {n : Nat} {w : Wd} {ts : List (Nat × Nat × Nat)} (h : LM B n w ts) (hc : ts.length < 8194) {k kk a v : Nat} {x : Int64} (hk : kk = kM k) (hv : k = 2 ∨ k = 3 → x = Int64.ofNat v) : ∃ u, fX12_token (Int32.ofNat kk) (Int32.ofNat a) x w = some u ∧ LM B n u (ts ++ [(k, a, v)]) ∧ OFF XRM u w := by
  obtain ⟨h1, h2, h3⟩ := h
  unfold fX12_token
  have e1 : inb (gi w 0 6) 8194 = true := by rw [h2]; exact inb_iN hc (by omega)
  rw [if_pos e1]
  dsimp only [lt]
  rw [show gi (si w 2 (gi w 0 6).toNatClampNeg (Int32.ofNat kk)) 0 6 = gi w 0 6 from gi_si1 (by omega), if_pos e1]
  rw [show gi (si (si w 2 (gi w 0 6).toNatClampNeg (Int32.ofNat kk)) 3 (gi w 0 6).toNatClampNeg (Int32.ofNat a)) 0 6 = gi w 0 6 by rw [gi_si1 (by omega), gi_si1 (by omega)], if_pos e1]
  rw [show gi (sl (si (si w 2 (gi w 0 6).toNatClampNeg (Int32.ofNat kk)) 3 (gi w 0 6).toNatClampNeg (Int32.ofNat a)) 4 (gi w 0 6).toNatClampNeg x) 0 6 = gi w 0 6 by rw [gi_sl, gi_si1 (by omega), gi_si1 (by omega)]]
  rw [h2, tc_iN (by omega), ad1_iN]
  refine ⟨_, rfl, ⟨⟨h1.1, by rw [gi_si1 (by omega), gi_sl, gi_si1 (by omega), gi_si1 (by omega)]; exact h1.2.1, fun i hi => ?_⟩, ?_, fun i t ht => ?_⟩, fun p j hp => ?_⟩
  · rw [gi_si1 (by omega), gi_sl, gi_si1 (by omega), gi_si1 (by omega)]
    exact h1.2.2 i hi
  · rw [gi_si0, List.length_append]
    rfl
  · by_cases hi : i < ts.length
    · rw [List.getElem?_append_left hi] at ht
      obtain ⟨b1, b2, b3⟩ := h3 i t ht
      refine ⟨?_, ?_, fun q => ?_⟩
      · rw [gi_si1 (by omega), gi_sl, gi_si1 (by omega), gi_si1 (by omega)]; exact b1
      · rw [gi_si1 (by omega), gi_sl, gi_si1 (by omega), gi_si1 (by omega)]; exact b2
      · rw [gl_si, gl_sl1 (by omega), gl_si, gl_si]; exact b3 q
    · have hi2 : i = ts.length := by
        have := (List.getElem?_eq_some_iff.mp ht).1
        simp at this
        omega
      subst hi2
      rw [List.getElem?_append_right (Nat.le_refl _), Nat.sub_self] at ht
      cases ht
      refine ⟨?_, ?_, fun q => ?_⟩
      · rw [gi_si1 (by omega), gi_sl, gi_si1 (by omega), gi_si0, hk]
      · rw [gi_si1 (by omega), gi_sl, gi_si0]
      · rw [gl_si, gl_sl0]; exact hv q
  · unfold XRM at hp
    refine ⟨?_, ?_⟩
    · rw [gi_si1 (by omega), gi_sl, gi_si1 (by omega), gi_si1 (by omega)]
    · rw [gl_si, gl_sl1 (by omega), gl_si, gl_si]
theorem look_in {B : Nat → Nat} {n a : Nat} {w : Wd} (h : BM B n w) (ha : a < n) : fX12_look (Int32.ofNat a) w = some (Int32.ofNat (B a), w) := by
  have hn := h.1
  unfold fX12_look
  rw [h.2.1, if_neg (nle_iN (by omega) (by omega)), if_pos (inb_iN (by omega) (by omega)), tc_iN (by omega), (h.2.2 a ha).2.1]
theorem look_out {B : Nat → Nat} {n a : Nat} {w : Wd} (h : BM B n w) (ha : n ≤ a) (ha2 : a < 2147483648) : fX12_look (Int32.ofNat a) w = some (-1, w) := by
  unfold fX12_look
  rw [h.2.1, if_pos (yle_iN ha ha2)]
theorem letM : ∀ c : Nat, c < 256 → (if Int32.ofNat c < 97 then false else if 122 < Int32.ofNat c then false else true) = decide (97 ≤ c ∧ c ≤ 122) := by decide +kernel
theorem isLetM {c : Nat} (h : c < 256) (w : Wd) : fX12_letter (Int32.ofNat c) w = decide (97 ≤ c ∧ c ≤ 122) := letM c h
theorem isDigM {c : Nat} (h : c < 256) (w : Wd) : fX12_digit (Int32.ofNat c) w = decide (48 ≤ c ∧ c ≤ 57) := digA c h
theorem noLetM (w : Wd) : fX12_letter (-1) w = false := by unfold fX12_letter; decide
theorem noDigM (w : Wd) : fX12_digit (-1) w = false := by unfold fX12_digit; decide
theorem cdN_l {c : Nat} (h : 97 ≤ c ∧ c ≤ 122) : cdN c = c - 96 := if_pos h
theorem cdN_d {c : Nat} (h : 48 ≤ c ∧ c ≤ 57) : cdN c = c - 21 := by unfold cdN; rw [if_neg (by omega), if_pos h]
theorem cdN_0 {c : Nat} (h1 : ¬ (97 ≤ c ∧ c ≤ 122)) (h2 : ¬ (48 ≤ c ∧ c ≤ 57)) : cdN c = 0 := by unfold cdN; rw [if_neg h1, if_neg h2]
/-- packed, the first j of the digits d -/
def pkF (d : Nat → Nat) : Nat → Nat
  | 0 => 0
  | j + 1 => pkF d j * 37 + d j
theorem pkF_inj {d e : Nat → Nat} : ∀ {j i : Nat}, (∀ t, t < j → 0 < d t ∧ d t ≤ 36) → (∀ t, t < i → 0 < e t ∧ e t ≤ 36) → pkF d j = pkF e i → j = i ∧ ∀ t, t < j → d t = e t := by
  intro j
  induction j with
  | zero =>
    intro i hd he h
    cases i with
    | zero => exact ⟨rfl, fun t ht => absurd ht (by omega)⟩
    | succ i =>
      have h : 0 = pkF e i * 37 + e i := h
      have := he i (by omega)
      omega
  | succ j ih =>
    intro i hd he h
    cases i with
    | zero =>
      have h : pkF d j * 37 + d j = 0 := h
      have := hd j (by omega)
      omega
    | succ i =>
      have h : pkF d j * 37 + d j = pkF e i * 37 + e i := h
      have g1 := hd j (by omega)
      have g2 := he i (by omega)
      have h1 : d j = e i := by omega
      obtain ⟨h2, h3⟩ := ih (fun t ht => hd t (by omega)) (fun t ht => he t (by omega)) (show pkF d j = pkF e i by omega)
      refine ⟨by omega, fun t ht => ?_⟩
      by_cases htj : t = j
      · rw [htj, h1, h2]
      · exact h3 t (by omega)
theorem pkF_congr {d e : Nat → Nat} : ∀ {j : Nat}, (∀ t, t < j → d t = e t) → pkF d j = pkF e j := by
  intro j
  induction j with
  | zero => intro _; rfl
  | succ j ih =>
    intro h
    show pkF d j * 37 + d j = pkF e j * 37 + e j
    rw [ih (fun t ht => h t (by omega)), h j (by omega)]
theorem nmS_seq (B : Nat → Nat) (n fr : Nat) : ∀ (f a p : Nat), fr ≤ a → p = pkF (fun t => cdN (B (fr + t))) (a - fr) → (∀ t, t < a - fr → cdN (B (fr + t)) ≠ 0) → (nmS B n fr f a p).1 - fr ≤ 10 → (nmS B n fr f a p).2 = pkF (fun t => cdN (B (fr + t))) ((nmS B n fr f a p).1 - fr) ∧ ∀ t, t < (nmS B n fr f a p).1 - fr → cdN (B (fr + t)) ≠ 0 := by
  intro f
  induction f with
  | zero => intro a p hfr hp hz _; exact ⟨hp, hz⟩
  | succ f ih =>
    intro a p hfr hp hz h10
    unfold nmS at h10 ⊢
    by_cases hc : a < n ∧ cdN (B a) ≠ 0
    · rw [if_pos hc] at h10 ⊢
      have hge := nmS_ge B n fr f (a + 1) (if a - fr < 10 then p * 37 + cdN (B a) else p)
      have h9 : a - fr < 10 := by omega
      rw [if_pos h9] at h10 ⊢
      refine ih (a + 1) _ (by omega) ?_ (fun t ht => ?_) h10
      · rw [show a + 1 - fr = (a - fr) + 1 by omega]
        show _ = pkF _ (a - fr) * 37 + cdN (B (fr + (a - fr)))
        rw [show fr + (a - fr) = a by omega, ← hp]
      · by_cases hta : t = a - fr
        · rw [hta, show fr + (a - fr) = a by omega]; exact hc.2
        · exact hz t (by omega)
    · rw [if_neg hc]
      exact ⟨hp, hz⟩
/-- the letters of the words -/
def wch9 (k t : Nat) : Nat := ((wdl k)[t]?.getD 0).toNatClampNeg
theorem wpk_is : ∀ k : Nat, k < 29 → pkF (fun t => cdN (wch9 k t)) (wdl k).length = wpk k ∧ (wdl k).length ≤ 10 ∧ (∀ t : Nat, t < (wdl k).length → 97 ≤ wch9 k t ∧ wch9 k t ≤ 122 ∧ (wdl k)[t]?.getD 0 = Int32.ofNat (wch9 k t)) := by decide +kernel
theorem cdN_inj {c d : Nat} (h : cdN c = cdN d) (hc : cdN c ≠ 0) : c = d := by
  by_cases c1 : 97 ≤ c ∧ c ≤ 122
  · rw [cdN_l c1] at h
    by_cases d1 : 97 ≤ d ∧ d ≤ 122
    · rw [cdN_l d1] at h; omega
    · by_cases d2 : 48 ≤ d ∧ d ≤ 57
      · rw [cdN_d d2] at h; omega
      · rw [cdN_0 d1 d2] at h; omega
  · by_cases c2 : 48 ≤ c ∧ c ≤ 57
    · rw [cdN_d c2] at h
      by_cases d1 : 97 ≤ d ∧ d ≤ 122
      · rw [cdN_l d1] at h; omega
      · by_cases d2 : 48 ≤ d ∧ d ≤ 57
        · rw [cdN_d d2] at h; omega
        · rw [cdN_0 d1 d2] at h; omega
    · exact absurd (cdN_0 c1 c2) hc
theorem word38_lp {B : Nat → Nat} {n fr k many : Nat} {w : Wd} {K : Int32 → Int32 → Int32 → Wd → Option (Int32 × Wd)} (hB : BM B n w) (hk : k < 29) (hlen : (wdl k).length = many) (hfr : fr + many ≤ n) (hal : ∀ t, t < many → cdN (B (fr + t)) ≠ 0) : ∀ (r i f : Nat), i + r = many → (∀ t, t < i → wch9 k t = B (fr + t)) →
    oX12_word_38 K (f + r + 1 + 1) (Int32.ofNat fr) (Int32.ofNat many) (Int32.ofNat k) (Int32.ofNat k) true (Int32.ofNat i) w = if (∀ t, t < many → wch9 k t = B (fr + t)) then some (Int32.ofNat (256 + k), w) else K (Int32.ofNat fr) (Int32.ofNat many) (Int32.ofNat (k + 1)) w := by
  have hn := hB.1
  have h10 := (wpk_is k hk).2.1
  intro r
  induction r with
  | zero =>
    intro i f hi ht
    show fX12_word_38 K (oX12_word_38 K (f + 1)) _ _ _ _ _ _ _ = _
    unfold fX12_word_38
    rw [if_pos rfl, if_pos (yle_iN (by omega) (by omega)), if_pos rfl, if_pos (fun t h => ht t (by omega)), show (256 : Int32) = Int32.ofNat 256 from rfl, add_iN]
  | succ r ih =>
    intro i f hi ht
    show fX12_word_38 K (oX12_word_38 K (f + r + 1 + 1)) _ _ _ _ _ _ _ = _
    unfold fX12_word_38
    have hA := (hB.2.2 (fr + i) (by omega))
    have h128 : B (fr + i) < 128 := by
      have := hal i (by omega)
      by_cases c1 : 97 ≤ B (fr + i) ∧ B (fr + i) ≤ 122
      · omega
      · by_cases c2 : 48 ≤ B (fr + i) ∧ B (fr + i) ≤ 57
        · omega
        · exact absurd (cdN_0 c1 c2) this
    have hw := ((wpk_is k hk).2.2 i (by omega))
    have e1 : wch (Int32.ofNat k) (Int32.ofNat i) = Int32.ofNat (wch9 k i) := by
      unfold wch
      rw [tc_iN (by omega), tc_iN (by omega)]
      exact hw.2.2
    rw [if_pos rfl, if_neg (nle_iN (by omega) (by omega)), if_pos (inb_iN hk (by omega)), tc_iN (by omega), if_pos (inb_iN (by omega) (by omega)), add_iN, if_pos (inb_iN (by omega) (by omega)), tc_iN (by omega), e1, hA.2.2 h128]
    dsimp only [lt]
    rw [ad1_iN]
    by_cases hq : wch9 k i = B (fr + i)
    · have hq9 : Int32.ofNat (wch9 k i) = Int32.ofNat (B (fr + i)) := by rw [hq]
      rw [if_pos hq9]
      exact ih (i + 1) f (by omega) (fun t h => by
        by_cases hti : t = i
        · rw [hti]; exact hq
        · exact ht t (by omega))
    · have hq9 : ¬ Int32.ofNat (wch9 k i) = Int32.ofNat (B (fr + i)) := fun q => hq ((eq_iN (by omega) (by omega)).mp q)
      rw [if_neg hq9, if_neg (fun q => hq (q i (by omega)))]
      show fX12_word_38 K (oX12_word_38 K (f + r + 1)) _ _ _ _ _ _ _ = _
      unfold fX12_word_38
      rw [if_neg (by decide), if_neg (by decide)]
      dsimp only [lt]
      rw [ad1_iN]
theorem word2_lp {B : Nat → Nat} {n fr many p : Nat} {w : Wd} (hB : BM B n w) (hfr : fr + many ≤ n) (hal : ∀ t, t < many → cdN (B (fr + t)) ≠ 0) (hp : p = pkF (fun t => cdN (B (fr + t))) many) : ∀ (r k f : Nat), k + r = 29 → wdS p k = none → oX12_word_2 (f + r + 1) (Int32.ofNat fr) (Int32.ofNat many) (Int32.ofNat k) w = some (match wdS p 29 with | some k => Int32.ofNat (256 + k) | none => 285, w) := by
  have hn := hB.1
  intro r
  induction r with
  | zero =>
    intro k f hk hs
    obtain rfl : k = 29 := by omega
    show fX12_word_2 (oX12_word_2 f) _ _ _ _ = _
    unfold fX12_word_2
    rw [if_pos (by decide), hs]
  | succ r ih =>
    intro k f hk hs
    show fX12_word_2 (oX12_word_2 (f + r + 1)) _ _ _ _ = _
    unfold fX12_word_2
    have hc0 : ¬ ((29 : Int32) ≤ Int32.ofNat k) := nle_iN (a := 29) (by omega) (by omega)
    rw [if_neg hc0, if_pos (inb_iN (by omega) (by omega)), if_pos (inb_iN (by omega) (by omega))]
    obtain ⟨w1, w2, w3⟩ := wpk_is k (by omega)
    have e1 : wln (Int32.ofNat k) = Int32.ofNat (wdl k).length := by
      unfold wln
      rw [tc_iN (by omega)]
    rw [e1]
    have h5 : wdS p (k + 1) = if wpk k = p then some k else none := by
      show (match wdS p k with | some k => some k | none => if wpk k = p then some k else none) = _
      rw [hs]
    have hiff : (wpk k = p) ↔ ((wdl k).length = many ∧ ∀ t, t < many → wch9 k t = B (fr + t)) := by
      rw [hp, ← w1]
      constructor
      · intro h
        obtain ⟨g1, g2⟩ := pkF_inj (fun t ht => ⟨by rw [cdN_l ⟨(w3 t ht).1, (w3 t ht).2.1⟩]; have := (w3 t ht).1; omega, cdN_le _⟩) (fun t ht => ⟨Nat.pos_of_ne_zero (hal t ht), cdN_le _⟩) h
        exact ⟨g1, fun t ht => (cdN_inj (g2 t (by omega)).symm (hal t ht)).symm⟩
      · rintro ⟨g1, g2⟩
        rw [g1]
        exact pkF_congr (fun t ht => by rw [g2 t ht])
    have h7 : wpk k = p → wdS p 29 = some k := by
      intro hc
      have h6 : ∀ j, wdS p (k + 1 + j) = some k := by
        intro j
        induction j with
        | zero => rw [Nat.add_zero, h5, if_pos hc]
        | succ j ihj =>
          show (match wdS p (k + 1 + j) with | some k => some k | none => if wpk (k + 1 + j) = p then some (k + 1 + j) else none) = _
          rw [ihj]
      have := h6 (29 - (k + 1))
      rw [show k + 1 + (29 - (k + 1)) = 29 by omega] at this
      exact this
    by_cases hl : (wdl k).length = many
    · have hl9 : Int32.ofNat (wdl k).length = Int32.ofNat many := by rw [hl]
      rw [if_pos hl9]
      obtain ⟨g, hg⟩ := FU_ge (k := many + 1 + 1) (by omega)
      rw [hg, ← Nat.add_assoc, ← Nat.add_assoc]
      rw [show (0 : Int32) = Int32.ofNat 0 from rfl, word38_lp hB (by omega) hl hfr hal many 0 g (by omega) (fun t ht => absurd ht (by omega))]
      by_cases hq : ∀ t, t < many → wch9 k t = B (fr + t)
      · rw [if_pos hq, h7 (hiff.mpr ⟨hl, hq⟩)]
      · rw [if_neg hq]
        rw [if_neg (fun q => hq (hiff.mp q).2)] at h5
        exact ih (k + 1) f (by omega) h5
    · have hl9 : ¬ Int32.ofNat (wdl k).length = Int32.ofNat many := fun q => hl ((eq_iN (by omega) (by omega)).mp q)
      rw [if_neg hl9]
      rw [if_neg (fun q => hl (hiff.mp q).1)] at h5
      obtain ⟨g, hg⟩ := FU_ge (k := 1) (by omega)
      rw [hg]
      show fX12_word_38 (oX12_word_2 (f + r + 1)) (oX12_word_38 (oX12_word_2 (f + r + 1)) g) _ _ _ _ _ _ _ = _
      unfold fX12_word_38
      rw [if_neg (by decide), if_neg (by decide)]
      dsimp only [lt]
      rw [ad1_iN]
      exact ih (k + 1) f (by omega) h5
theorem wordM_ok {B : Nat → Nat} {n fr many p : Nat} {w : Wd} (hB : BM B n w) (hfr : fr + many ≤ n) (hal : ∀ t, t < many → cdN (B (fr + t)) ≠ 0) (hp : p = pkF (fun t => cdN (B (fr + t))) many) : fX12_word (Int32.ofNat fr) (Int32.ofNat many) w = some (match wdS p 29 with | some k => Int32.ofNat (256 + k) | none => 285, w) := by
  unfold fX12_word
  obtain ⟨f, hf⟩ := FU_ge (k := 29 + 1) (by omega)
  rw [hf]
  exact word2_lp hB hfr hal hp 29 0 f (by omega) rfl
