/-! BOTH SIDES: TOKS, out of what both have read -/
section CH
variable {B : Nat → Nat} {n : Nat}
/-- TOKENS one behind the other, each as long as it must be at least -/
def CHT (n : Nat) : List (Nat × Nat × Nat) → Nat → Prop
  | [], a => a ≤ n
  | t :: r, a => a ≤ t.2.1 ∧ 1 ≤ t.1 ∧ t.1 ≤ 50 ∧ CHT n r (t.2.1 + wlN t.1)
theorem CHT.le {l : List (Nat × Nat × Nat)} {a a' : Nat} (h : CHT n l a) (ha : a' ≤ a) : CHT n l a' := by
  cases l with
  | nil => exact Nat.le_trans ha h
  | cons t r => exact ⟨Nat.le_trans ha h.1, h.2⟩
theorem wlN_1 (k : Nat) : 1 ≤ wlN k := by
  unfold wlN
  split
  · omega
  · split
    · omega
    · split
      · omega
      · split
        · omega
        · split
          · omega
          · split
            · omega
            · split <;> omega
theorem CHT.len : ∀ {l : List (Nat × Nat × Nat)} {a : Nat}, CHT n l a → a + l.length ≤ n := by
  intro l
  induction l with
  | nil => intro a h; exact h
  | cons t r ih =>
    intro a h
    have := ih h.2.2.2
    have := wlN_1 t.1
    have := h.1
    rw [List.length_cons]
    omega
theorem CHT.get : ∀ {l : List (Nat × Nat × Nat)} {a i : Nat} {t : Nat × Nat × Nat}, CHT n l a → l[i]? = some t → a ≤ t.2.1 ∧ 1 ≤ t.1 ∧ t.1 ≤ 50 ∧ t.2.1 + wlN t.1 ≤ n ∧ ∀ t', l[i + 1]? = some t' → t.2.1 + wlN t.1 ≤ t'.2.1 := by
  intro l
  induction l with
  | nil => intro a i t h ht; exact absurd ht (by simp)
  | cons x r ih =>
    intro a i t h ht
    cases i with
    | zero =>
      have e : x = t := by simpa using ht
      subst e
      have hl := h.2.2.2.len
      refine ⟨h.1, h.2.1, h.2.2.1, by omega, fun t' ht' => ?_⟩
      have ht2 : r[0]? = some t' := by simpa using ht'
      cases r with
      | nil => exact absurd ht2 (by simp)
      | cons y r' =>
        have e2 : y = t' := by simpa using ht2
        rw [← e2]
        exact h.2.2.2.1
    | succ i =>
      have ht2 : r[i]? = some t := by simpa using ht
      obtain ⟨h1, h2, h3, h4, h5⟩ := ih h.2.2.2 ht2
      exact ⟨by have := h.1; omega, h2, h3, h4, fun t' ht' => h5 t' (by simpa using ht')⟩
theorem wdS_eq {p : Nat} : ∀ {m k : Nat}, wdS p m = some k → wpk k = p := by
  intro m
  induction m with
  | zero => intro k h; exact absurd h (by simp [wdS])
  | succ m ih =>
    intro k h
    unfold wdS at h
    rcases hm : wdS p m with _ | j
    · rw [hm] at h
      by_cases q : wpk m = p
      · have h' : (if wpk m = p then some m else none) = some k := h
        rw [if_pos q] at h'
        rw [← Option.some.inj h']
        exact q
      · have h' : (if wpk m = p then some m else none) = some k := h
        rw [if_neg q] at h'
        exact absurd h' (by simp)
    · rw [hm] at h
      have h' : some j = some k := h
      rw [← Option.some.inj h']
      exact ih hm
theorem nm_pk (fr : Nat) : ∀ (f a p : Nat), fr ≤ a → (nmS B n fr f a p).1 - fr ≤ 10 → p < 37 ^ (a - fr) → (nmS B n fr f a p).2 < 37 ^ ((nmS B n fr f a p).1 - fr) := by
  intro f
  induction f with
  | zero => intro a p _ _ hp; exact hp
  | succ f ih =>
    intro a p ha hl hp
    unfold nmS at hl ⊢
    by_cases hc : a < n ∧ cdN (B a) ≠ 0
    · rw [if_pos hc] at hl ⊢
      have hge := nmS_ge B n fr f (a + 1) (if a - fr < 10 then p * 37 + cdN (B a) else p)
      have h10 : a - fr < 10 := by omega
      rw [if_pos h10] at hl hge ⊢
      refine ih (a + 1) _ (by omega) hl ?_
      have hcd := cdN_le (B a)
      rw [show a + 1 - fr = (a - fr) + 1 by omega, Nat.pow_succ]
      omega
    · rw [if_neg hc]
      exact hp
theorem wpk_len : ∀ k : Nat, k < 29 → 37 ^ (wlN (4 + k) - 1) ≤ wpk k := by decide
theorem sgS_b (c : Nat) : (sgS c = 1 ∨ 33 ≤ sgS c) ∧ sgS c ≤ 46 := by
  by_cases h : c < 128
  · exact (show ∀ c, c < 128 → (sgS c = 1 ∨ 33 ≤ sgS c) ∧ sgS c ≤ 46 by decide) c h
  · have e : sgS c = 1 := by
      unfold sgS
      rw [if_neg (by omega), if_neg (by omega), if_neg (by omega), if_neg (by omega), if_neg (by omega), if_neg (by omega), if_neg (by omega), if_neg (by omega), if_neg (by omega), if_neg (by omega), if_neg (by omega), if_neg (by omega), if_neg (by omega), if_neg (by omega)]
    rw [e]
    omega
theorem tkS_len (hB : ∀ i, i < n → B i < 256) {a : Nat} (h : a < n) : 1 ≤ (tkS B n a).1 ∧ (tkS B n a).1 ≤ 50 ∧ a + wlN (tkS B n a).1 ≤ (tkS B n a).2.2 := by
  have hgt := tkS_gt (B := B) h
  have w1 : ∀ k, k = 1 ∨ k = 2 ∨ k = 3 → wlN k = 1 := fun k hk => by
    unfold wlN
    rw [if_neg (by omega), if_neg (by omega), if_neg (by omega), if_neg (by omega), if_neg (by omega), if_neg (by omega), if_neg (by omega)]
  have w3 : ∀ k, 33 ≤ k ∧ k ≠ 50 → wlN k = 1 := fun k hk => by
    unfold wlN
    rw [if_neg (by omega), if_neg (by omega), if_neg (by omega), if_neg (by omega), if_neg (by omega), if_neg (by omega), if_neg (by omega)]
  unfold tkS at hgt ⊢
  by_cases c1 : 48 ≤ B a ∧ B a ≤ 57
  · rw [if_pos c1] at hgt ⊢
    by_cases c2 : (dgS B n (n - a) a 0).2 < 34359738368
    · rw [if_pos c2] at hgt ⊢
      refine ⟨by show 1 ≤ 3; omega, by show 3 ≤ 50; omega, ?_⟩
      show a + wlN 3 ≤ _
      rw [w1 3 (by omega)]
      exact hgt
    · rw [if_neg c2] at hgt ⊢
      refine ⟨by show 1 ≤ 1; omega, by show 1 ≤ 50; omega, ?_⟩
      show a + wlN 1 ≤ _
      rw [w1 1 (by omega)]
      exact hgt
  · rw [if_neg c1] at hgt ⊢
    by_cases c3 : cdN (B a) ≠ 0
    · rw [if_pos c3] at hgt ⊢
      by_cases c4 : 10 < (nmS B n a (n - a) a 0).1 - a
      · rw [if_pos c4] at hgt ⊢
        refine ⟨by show 1 ≤ 1; omega, by show 1 ≤ 50; omega, ?_⟩
        show a + wlN 1 ≤ _
        rw [w1 1 (by omega)]
        exact hgt
      · rw [if_neg c4] at hgt ⊢
        have hgt' : a < (nmS B n a (n - a) a 0).1 := hgt
        rcases hw : wdS (nmS B n a (n - a) a 0).2 29 with _ | k
        · refine ⟨by show 1 ≤ 2; omega, by show 2 ≤ 50; omega, ?_⟩
          show a + wlN 2 ≤ _
          rw [w1 2 (by omega)]
          exact hgt
        · have hk := wdS_lt hw
          have hp := wdS_eq hw
          have hb := nm_pk (B := B) (n := n) a (n - a) a 0 (Nat.le_refl _) (by omega) (by rw [Nat.sub_self]; decide)
          rw [← hp] at hb
          have h1 := wpk_len k hk
          have h2 := Nat.lt_of_le_of_lt h1 hb
          have h3 := (Nat.pow_lt_pow_iff_right (a := 37) (by decide)).mp h2
          refine ⟨by show 1 ≤ 4 + k; omega, by show 4 + k ≤ 50; omega, ?_⟩
          show a + wlN (4 + k) ≤ (nmS B n a (n - a) a 0).1
          have := wlN_1 (4 + k)
          omega
    · rw [if_neg c3] at hgt ⊢
      have hs := sgS_b (B a)
      by_cases c5 : a + 1 < n ∧ lgS (sgS (B a)) (B (a + 1)) ≠ sgS (B a)
      · rw [if_pos c5] at hgt ⊢
        have hlt := lgS_lt (sgS (B a)) (by omega) (B (a + 1)) (hB _ c5.1)
        have hge : 33 ≤ lgS (sgS (B a)) (B (a + 1)) := by
          have := c5.2
          unfold lgS at this ⊢
          repeat (first | omega | split at * )
        refine ⟨by show 1 ≤ lgS (sgS (B a)) (B (a + 1)); omega, by show lgS (sgS (B a)) (B (a + 1)) ≤ 50; omega, ?_⟩
        show a + wlN (lgS (sgS (B a)) (B (a + 1))) ≤ a + 2
        by_cases c6 : lgS (sgS (B a)) (B (a + 1)) = 50
        · rw [c6]
          show a + 2 ≤ a + 2
          omega
        · rw [w3 _ ⟨hge, c6⟩]
          omega
      · rw [if_neg c5] at hgt ⊢
        refine ⟨by show 1 ≤ sgS (B a); omega, by show sgS (B a) ≤ 50; omega, ?_⟩
        show a + wlN (sgS (B a)) ≤ a + 1
        rcases hs.1 with q | q
        · rw [q, w1 1 (by omega)]
          omega
        · rw [w3 _ ⟨q, by omega⟩]
          omega
theorem tks_cht (hB : ∀ i, i < n → B i < 256) : ∀ (f a : Nat), a ≤ n → CHT n (tks B n f a) a := by
  intro f
  induction f with
  | zero => intro a h; exact h
  | succ f ih =>
    intro a h
    unfold tks
    by_cases c : a < n
    · rw [if_pos c]
      by_cases c2 : B a = 32 ∨ B a = 10
      · rw [if_pos c2]
        exact (ih (a + 1) (by omega)).le (by omega)
      · rw [if_neg c2]
        obtain ⟨h1, h2, h3⟩ := tkS_len hB c
        exact ⟨Nat.le_refl _, h1, h2, (ih _ (tkS_le c)).le h3⟩
    · rw [if_neg c]
      exact h
theorem cutS_get : ∀ (l : List (Nat × Nat × Nat)) (i : Nat), i < (cutS l).length → (cutS l)[i]? = l[i]? := by
  intro l
  induction l with
  | nil => intro i h; exact absurd h (by simp [cutS])
  | cons t r ih =>
    intro i h
    unfold cutS at h ⊢
    by_cases c : t.1 = 1
    · rw [if_pos c] at h ⊢
      have : i = 0 := by simpa using h
      rw [this]
      simp
    · rw [if_neg c] at h ⊢
      cases i with
      | zero => simp
      | succ i =>
        have : i < (cutS r).length := by simpa using h
        have := ih i this
        simpa using this
theorem cutS_le : ∀ (l : List (Nat × Nat × Nat)), (cutS l).length ≤ l.length := by
  intro l
  induction l with
  | nil => exact Nat.le_refl _
  | cons t r ih =>
    unfold cutS
    by_cases c : t.1 = 1
    · rw [if_pos c]
      simp
    · rw [if_neg c, List.length_cons, List.length_cons]
      omega
theorem cutS_ne : ∀ (l : List (Nat × Nat × Nat)) (i : Nat) (t : Nat × Nat × Nat), i + 1 < (cutS l).length → l[i]? = some t → t.1 ≠ 1 := by
  intro l
  induction l with
  | nil => intro i t h; exact absurd h (by simp [cutS])
  | cons x r ih =>
    intro i t h ht
    unfold cutS at h
    by_cases c : x.1 = 1
    · rw [if_pos c] at h
      have : i + 1 < 1 := by simpa using h
      omega
    · rw [if_neg c] at h
      cases i with
      | zero =>
        have e : x = t := by simpa using ht
        rw [← e]
        exact c
      | succ i =>
        exact ih i t (by simpa using h) (by simpa using ht)
theorem cutS_last : ∀ (l : List (Nat × Nat × Nat)), l ≠ [] → ∃ m t, (cutS l).length = m + 1 ∧ l[m]? = some t ∧ (t.1 = 1 ∨ l.length = m + 1) := by
  intro l
  induction l with
  | nil => intro h; exact absurd rfl h
  | cons x r ih =>
    intro _
    unfold cutS
    by_cases c : x.1 = 1
    · rw [if_pos c]
      exact ⟨0, x, by simp, by simp, Or.inl c⟩
    · rw [if_neg c]
      cases r with
      | nil => exact ⟨0, x, by simp [cutS], by simp, Or.inr (by simp)⟩
      | cons y r' =>
        obtain ⟨m, t, h1, h2, h3⟩ := ih (by simp)
        refine ⟨m + 1, t, by rw [List.length_cons, h1], by simpa using h2, ?_⟩
        rcases h3 with h3 | h3
        · exact Or.inl h3
        · exact Or.inr (by rw [List.length_cons, h3])
def tsL (B : Nat → Nat) (n : Nat) : List (Nat × Nat × Nat) := tks B n n 0 ++ [(0, n, 0)]
def kdT (B : Nat → Nat) (n i : Nat) : Nat := ((tsL B n)[i]?.getD (0, n, 0)).1
def wrT (B : Nat → Nat) (n i : Nat) : Nat := ((tsL B n)[i]?.getD (0, n, 0)).2.1
def nmT (B : Nat → Nat) (n : Nat) (w : Wd) (i : Nat) : Nat := if kdT B n i = 2 then (gl w 7 i).toInt32.toNatClampNeg else 0
/-- TOKENS as both have read them -/
theorem toks_of {wA wM : Wd} (hA : LA B n wA (tsL B n)) (hM : LM B n wM (cutS (tsL B n))) : ∃ m z, TOKS (kdT B n) (wrT B n) (nmT B n wA) (fun p => gl wA 12 p) m z wA wM ∧ TV (kdT B n) (wrT B n) m wM ∧ z = (tsL B n).length ∧ 1 ≤ z ∧ (∀ i, kdT B n i ≤ 50) ∧ (∀ i, z ≤ i + 1 → kdT B n i = 0) ∧ (∀ i, i < z → gi wA 5 i = Int32.ofNat (kdT B n i) ∧ gi wA 6 i = Int32.ofNat (wrT B n i) ∧ wrT B n i ≤ 8192 ∧ gi wA 8 i = 0 ∧ gi wA 9 i = 0 ∧ gi wA 10 i = Int32.ofNat i) := by
  have hn := hA.1.1
  have hB : ∀ i, i < n → B i < 256 := fun i hi => (hA.1.2 i hi).1
  have hch := tks_cht hB n 0 (by omega)
  have hlen := hch.len
  obtain ⟨k0, hk0⟩ : ∃ k, k = (tks B n n 0).length := ⟨_, rfl⟩
  have hL : (tsL B n).length = k0 + 1 := by unfold tsL; rw [List.length_append, ← hk0]; rfl
  have hlo : ∀ i, i < k0 → (tsL B n)[i]? = (tks B n n 0)[i]? := fun i hi => List.getElem?_append_left (by omega)
  have hend : (tsL B n)[k0]? = some (0, n, 0) := by
    unfold tsL
    rw [List.getElem?_append_right (by omega), hk0, Nat.sub_self]
    rfl
  have hsome : ∀ i, i < k0 → ∃ t, (tks B n n 0)[i]? = some t := fun i hi => ⟨(tks B n n 0)[i]'(by omega), List.getElem?_eq_getElem (by omega)⟩
  have hk : ∀ i t, (tsL B n)[i]? = some t → kdT B n i = t.1 ∧ wrT B n i = t.2.1 := fun i t ht => by
    unfold kdT wrT
    rw [ht]
    exact ⟨rfl, rfl⟩
  have hout : ∀ i, k0 < i → kdT B n i = 0 ∧ wrT B n i = n := fun i hi => by
    have : (tsL B n)[i]? = none := List.getElem?_eq_none (by omega)
    unfold kdT wrT
    rw [this]
    exact ⟨rfl, rfl⟩
  have hkend := hk k0 _ hend
  have hin : ∀ i, i < k0 → 1 ≤ kdT B n i ∧ kdT B n i ≤ 50 ∧ wrT B n i + wlN (kdT B n i) ≤ n ∧ wrT B n i + wlN (kdT B n i) ≤ wrT B n (i + 1) := fun i hi => by
    obtain ⟨t, ht⟩ := hsome i hi
    obtain ⟨g1, g2, g3, g4, g5⟩ := hch.get ht
    obtain ⟨e1, e2⟩ := hk i t (by rw [hlo i hi]; exact ht)
    rw [e1, e2]
    refine ⟨g2, g3, g4, ?_⟩
    by_cases q : i + 1 < k0
    · obtain ⟨t', ht'⟩ := hsome (i + 1) q
      obtain ⟨_, e4⟩ := hk (i + 1) t' (by rw [hlo _ q]; exact ht')
      rw [e4]
      exact g5 t' ht'
    · rw [show i + 1 = k0 by omega, hkend.2]
      exact g4
  obtain ⟨m, tm, hm1, hm2, hm3⟩ := cutS_last (tsL B n) (by unfold tsL; simp)
  have hml := cutS_le (tsL B n)
  have hmk : m ≤ k0 := by omega
  have hw92 : ∀ i, wrT B n i ≤ 8192 := fun i => by
    rcases Nat.lt_trichotomy i k0 with q | q | q
    · have := hin i q; omega
    · rw [q, hkend.2]; exact hn
    · rw [(hout i q).2]; exact hn
  have h50 : ∀ i, kdT B n i ≤ 50 := fun i => by
    rcases Nat.lt_trichotomy i k0 with q | q | q
    · exact (hin i q).2.1
    · rw [q, hkend.1]; show 0 ≤ 50; omega
    · rw [(hout i q).1]; omega
  have hget : ∀ i, i ≤ k0 → ∃ t, (tsL B n)[i]? = some t := fun i hi => ⟨(tsL B n)[i]'(by omega), List.getElem?_eq_getElem (by omega)⟩
  have hne1 : ∀ i, i < m → kdT B n i ≠ 1 := fun i hi => by
    obtain ⟨t, ht⟩ := hget i (by omega)
    rw [(hk i t ht).1]
    exact cutS_ne _ i t (by omega) ht
  -- NAMES
  have hnm : ∀ i, i ≤ k0 → kdT B n i = 2 → ∃ p v, p < 8192 ∧ gl wA 7 i = Int64.ofNat p ∧ nmT B n wA i = p ∧ gl wA 12 p = Int64.ofNat v ∧ 0 < v ∧ v < 9007199254740992 ∧ ∃ t, (tsL B n)[i]? = some t ∧ t.2.2 = v ∧ t.1 = 2 := fun i hi h2 => by
    obtain ⟨t, ht⟩ := hget i hi
    have hT := hA.2.2.2.2.2.1 i t ht
    have ht1 : t.1 = 2 := by rw [← (hk i t ht).1]; exact h2
    obtain ⟨p, p1, p2, p3, p4, p5⟩ := hT.2.2.2.1 ht1
    refine ⟨p, t.2.2, p1, p2, ?_, p3, p4, p5, t, ht, rfl, ht1⟩
    unfold nmT
    rw [if_pos h2, p2, toI_lN, tc_iN (by omega)]
  have hk2le : ∀ i, kdT B n i = 2 → i ≤ k0 := fun i h2 => by
    by_cases q : k0 < i
    · rw [(hout i q).1] at h2; omega
    · omega
  have hNT := hA.2.2.1
  have hlt : ∀ i, nmT B n wA i < 8192 := fun i => by
    by_cases h2 : kdT B n i = 2
    · obtain ⟨p, v, p1, _, p3, _⟩ := hnm i (hk2le i h2) h2
      rw [p3]; exact p1
    · unfold nmT
      rw [if_neg h2]; omega
  have hinj : ∀ i j, kdT B n i = 2 → gl wA 12 (nmT B n wA i) = gl wA 12 (nmT B n wA j) → nmT B n wA i = nmT B n wA j := fun i j hi e => by
    obtain ⟨p, v, p1, _, p3, p4, p5, p6, _⟩ := hnm i (hk2le i hi) hi
    rw [p3] at e ⊢
    exact hNT.one p5 p6 p1 (hlt j) p4 (by rw [← e]; exact p4)
  refine ⟨m, k0 + 1, ⟨hw92, fun i hi => by have := hin i (by omega); omega, by omega, by omega, hlt, fun i j => ⟨fun e => ?_, fun e => by rw [e]⟩, fun i hi => (hin i (by omega)).2.2.2, fun i hi h2 => ?_, fun i hi h2 => ?_⟩, ⟨by omega, ?_, fun i hi => ?_, h50, fun i hi => ?_⟩, hL.symm, by omega, h50, fun i hi => ?_, fun i hi => ?_⟩
  · by_cases hi : kdT B n i = 2
    · exact hinj i j hi e
    · by_cases hj : kdT B n j = 2
      · exact (hinj j i hj e.symm).symm
      · unfold nmT
        rw [if_neg hi, if_neg hj]
  · obtain ⟨p, v, p1, p2, p3, _⟩ := hnm i (by omega) h2
    rw [p2, p3, toI_lN]
  · obtain ⟨p, v, p1, p2, p3, p4, p5, p6, t, ht, t1, t2⟩ := hnm i (by omega) h2
    have hTM := hM.2.2 i t (by rw [cutS_get _ i (by omega)]; exact ht)
    rw [hTM.2.2 (Or.inl t2), t1, p3]
    exact p4.symm
  · rcases hm3 with q | q
    · rw [(hk m tm hm2).1, q]; omega
    · rw [show m = k0 by omega, hkend.1]; show 0 ≤ 1; omega
  · have h1 := hin i (by omega)
    have h2 := hne1 i hi
    omega
  · obtain ⟨t, ht⟩ := hget i (by omega)
    have hTM := hM.2.2 i t (by rw [cutS_get _ i (by omega)]; exact ht)
    obtain ⟨e1, e2⟩ := hk i t ht
    rw [e1, e2]
    exact ⟨hTM.1, hTM.2.1⟩
  · rcases Nat.lt_or_ge k0 i with q | q
    · exact (hout i q).1
    · rw [show i = k0 by omega, hkend.1]
  · obtain ⟨t, ht⟩ := hget i (by omega)
    obtain ⟨e1, e2⟩ := hk i t ht
    have hT := hA.2.2.2.2.2.1 i t ht
    rw [e1, e2]
    exact ⟨hT.1, hT.2.1, by rw [← e2]; exact hw92 i, hT.2.2.2.2.1, hT.2.2.2.2.2.1, hT.2.2.2.2.2.2⟩
end CH
