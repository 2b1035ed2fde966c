/-! AN ARRAY IS MADE: the reference -/
section MKM
variable {lo hi : Nat → Int64} {gM : Wd} {b ev sp cp na mt el us q nb sz fu s base al sc pr de : Nat} {w : Wd} {z : Int32}
theorem szM_z : ∀ {n k : Nat}, k < n → ¬ lo k ≤ hi k → szM lo hi n = 0 := by
  intro n
  induction n with
  | zero => exact fun h _ => absurd h (Nat.not_lt_zero _)
  | succ n ih =>
    intro k hk hb
    show (if lo n ≤ hi n then fJ9_min_f86c9 (szM lo hi n * fJ9_min_f86c9 ((hi n - lo n) + 1) 5000) 5000 else 0) = 0
    by_cases e : k = n
    · subst e
      rw [if_neg hb]
    · by_cases d : lo n ≤ hi n
      · rw [if_pos d, ih (k := k) (by omega) hb, Int64.zero_mul]
        decide
      · rw [if_neg d]
/-- bounds written at q -/
def bndM (lo hi : Nat → Int64) (q : Nat) : Nat → Nat → Wd → Wd
  | _, 0, w => w
  | k, m + 1, w => bndM lo hi q (k + 1) m (sl (sl w 83 (q + 2 + 2 * k) (lo k)) 83 (q + 3 + 2 * k) (hi k))
theorem bndM_off {Q : Nat → Nat → Prop} : ∀ (m k : Nat) (w : Wd), (∀ j, q + 2 + 2 * k ≤ j → j < q + 2 + 2 * (k + m) → Q 83 j) → OFF Q (bndM lo hi q k m w) w := by
  intro m
  induction m with
  | zero => exact fun _ _ _ => OFF.rf
  | succ m ih =>
    intro k w hQ
    refine OFF.tr (ih (k + 1) _ (fun j h1 h2 => hQ j (by omega) (by omega))) (OFF.tr (OFF.sl (hQ _ (by omega) (by omega))) (OFF.sl (hQ _ (by omega) (by omega))))
theorem bndM_v : ∀ (m k : Nat) (w : Wd) (j : Nat), k ≤ j → j < k + m → gl (bndM lo hi q k m w) 83 (q + 2 + 2 * j) = lo j ∧ gl (bndM lo hi q k m w) 83 (q + 3 + 2 * j) = hi j := by
  intro m
  induction m with
  | zero => exact fun k w j h1 h2 => by omega
  | succ m ih =>
    intro k w j h1 h2
    by_cases e : j = k
    · subst e
      have O := bndM_off (lo := lo) (hi := hi) (q := q) (Q := fun k i => k = 83 ∧ q + 2 + 2 * (j + 1) ≤ i) m (j + 1) (sl (sl w 83 (q + 2 + 2 * j) (lo j)) 83 (q + 3 + 2 * j) (hi j)) (fun i h3 h4 => ⟨rfl, h3⟩)
      show gl (bndM lo hi q (j + 1) m _) _ _ = _ ∧ gl (bndM lo hi q (j + 1) m _) _ _ = _
      rw [(O 83 (q + 2 + 2 * j) (by omega)).2, (O 83 (q + 3 + 2 * j) (by omega)).2, gl_sl1 (by omega), gl_sl0, gl_sl0]
      exact ⟨rfl, rfl⟩
    · exact ih (k + 1) _ j (by omega) (by omega)
theorem al_lp1 (hq : q + 10 < 200000) (hn : nb ≤ 3) (hsp : sp + 2 * nb ≤ 100000) : ∀ (m k fo : Nat) (w : Wd), k + m = nb → gi w 0 130 = Int32.ofNat (sp + 2 * nb) → (∀ i, i < nb → gl w 85 (sp + 2 * i) = lo i ∧ gl w 85 (sp + 2 * i + 1) = hi i) → oX12_allot_5 (fo + m + 1) (Int32.ofNat q) (Int32.ofNat nb) (szM lo hi k) (Int32.ofNat k) w = oX12_allot_126 FU (Int32.ofNat q) (Int32.ofNat nb) (szM lo hi nb) 0 (bndM lo hi q k m w) := by
  intro m
  induction m with
  | zero =>
    intro k fo w hk h hv
    have : k = nb := by omega
    subst this
    show fX12_allot_5 _ _ _ _ _ _ = _
    unfold fX12_allot_5
    rw [if_pos ((le_iN (by omega) (by omega)).mpr (Nat.le_refl _))]
    rfl
  | succ m ih =>
    intro k fo w hk h hv
    obtain ⟨v1, v2⟩ := hv k (by omega)
    show fX12_allot_5 (oX12_allot_5 (fo + (m + 1))) _ _ _ _ _ = _
    unfold fX12_allot_5
    rw [if_neg (fun c => absurd ((le_iN (by omega) (by omega)).mp c) (by omega)), h, show (2 : Int32) * Int32.ofNat nb = Int32.ofNat (2 * nb) from mul_iN 2 nb, show (2 : Int32) * Int32.ofNat k = Int32.ofNat (2 * k) from mul_iN 2 k, sub_iN (by omega) (by omega), Nat.add_sub_cancel, add_iN, if_pos (inb_iN (by omega) (by omega)), tc_iN (by omega), v1, ltq, ad1_iN, if_pos (inb_iN (by omega) (by omega)), tc_iN (by omega), v2, ltq, show (2 : Int32) = Int32.ofNat 2 from rfl, add_iN, add_iN, if_pos (inb_iN (by omega) (by omega)), tc_iN (by omega), ltq, show (3 : Int32) = Int32.ofNat 3 from rfl, add_iN, add_iN, if_pos (inb_iN (by omega) (by omega)), tc_iN (by omega), ltq, ad1_iN, show fo + (m + 1) = fo + m + 1 by omega]
    have ih' := ih (k + 1) fo (sl (sl w 83 (q + 2 + 2 * k) (lo k)) 83 (q + 3 + 2 * k) (hi k)) (by omega) (by rw [gi_sl, gi_sl]; exact h) (fun i hi' => by rw [gl_sl1 (by omega), gl_sl1 (by omega), gl_sl1 (by omega), gl_sl1 (by omega)]; exact hv i hi')
    by_cases d : lo k ≤ hi k
    · rw [if_pos d, ltq, ltq, ltq]
      rw [show szM lo hi (k + 1) = fJ9_min_f86c9 (szM lo hi k * fJ9_min_f86c9 ((hi k - lo k) + 1) 5000) 5000 from if_pos d] at ih'
      exact ih'
    · rw [if_neg d, ltq]
      rw [show szM lo hi (k + 1) = 0 from if_neg d] at ih'
      exact ih'
theorem al_lp2 (hq : q + 10 < 200000) (hn : nb ≤ 3) (hel : gi w 0 133 = Int32.ofNat el) (hel9 : el ≤ 2000) (h140 : gi w 0 140 = 0) (hv : ∀ i, i < nb → gl w 83 (q + 2 + 2 * i) = lo i ∧ gl w 83 (q + 3 + 2 * i) = hi i) : ∀ (m k fo : Nat), k + m = nb → oX12_allot_126 (fo + m + 1) (Int32.ofNat q) (Int32.ofNat nb) (szM lo hi nb) (Int32.ofNat k) w = (if Int64.ofNat el + szM lo hi nb ≤ 2000 then oX12_allot_214 FU (szM lo hi nb) 0 (sl (sl w 83 q (Int64.ofNat nb)) 83 (q + 1) (Int64.ofNat el)) else some (si (sl (sl w 83 q (Int64.ofNat nb)) 83 (q + 1) (Int64.ofNat el)) 0 140 3)) := by
  intro m
  induction m with
  | zero =>
    intro k fo hk
    have : k = nb := by omega
    subst this
    show fX12_allot_126 _ _ _ _ _ _ = _
    unfold fX12_allot_126 fX12_fail
    rw [if_pos ((le_iN (by omega) (by omega)).mpr (Nat.le_refl _)), if_pos (inb_iN (by omega) (by omega)), tc_iN (by omega), i64_iN (by omega), ltq, ad1_iN, if_pos (inb_iN (by omega) (by omega)), tc_iN (by omega), gi_sl, hel, i64_iN (by omega), ltq, gi_sl, gi_sl, hel, i64_iN (by omega), gi_sl, gi_sl, h140, if_pos rfl]
    rfl
  | succ m ih =>
    intro k fo hk
    obtain ⟨v1, v2⟩ := hv k (by omega)
    have ih' := ih (k + 1) fo (by omega)
    show fX12_allot_126 (oX12_allot_126 (fo + (m + 1))) _ _ _ _ _ = _
    unfold fX12_allot_126
    rw [if_neg (fun c => absurd ((le_iN (by omega) (by omega)).mp c) (by omega)), show (2 : Int32) * Int32.ofNat k = Int32.ofNat (2 * k) from mul_iN 2 k, show (2 : Int32) = Int32.ofNat 2 from rfl, add_iN, add_iN, if_pos (inb_iN (by omega) (by omega)), tc_iN (by omega), v1, show (3 : Int32) = Int32.ofNat 3 from rfl, add_iN, add_iN, if_pos (inb_iN (by omega) (by omega)), tc_iN (by omega), v2, ad1_iN, show fo + (m + 1) = fo + m + 1 by omega]
    by_cases d : lo k ≤ hi k
    · rw [if_pos d, ltq]
      exact ih'
    · rw [if_neg d, ltq]
      have e := szM_z (lo := lo) (hi := hi) (n := nb) (k := k) (by omega) d
      rw [e] at ih' ⊢
      exact ih'
/-- ELEMENTS are cleared -/
def zelW : Nat → Nat → Wd → Wd
  | _, 0, w => w
  | x, n + 1, w => zelW (x + 1) n (sl w 84 x 0)
theorem zelW_off {Q : Nat → Nat → Prop} : ∀ (n x : Nat) (w : Wd), (∀ j, x ≤ j → j < x + n → Q 84 j) → OFF Q (zelW x n w) w := by
  intro n
  induction n with
  | zero => exact fun _ _ _ => OFF.rf
  | succ n ih => exact fun x w hQ => OFF.tr (ih (x + 1) _ (fun j h1 h2 => hQ j (by omega) (by omega))) (OFF.sl (hQ x (by omega) (by omega)))
theorem zelW_v : ∀ (n x : Nat) (w : Wd) (j : Nat), x ≤ j → j < x + n → gl (zelW x n w) 84 j = 0 := by
  intro n
  induction n with
  | zero => exact fun x w j h1 h2 => by omega
  | succ n ih =>
    intro x w j h1 h2
    by_cases e : j = x
    · subst e
      have O := zelW_off (Q := fun k i => k = 84 ∧ j + 1 ≤ i) n (j + 1) (sl w 84 j 0) (fun i h3 h4 => ⟨rfl, h3⟩)
      show gl (zelW (j + 1) n _) 84 j = 0
      rw [(O 84 j (by omega)).2, gl_sl0]
    · exact ih (x + 1) _ j (by omega) (by omega)
theorem al_lp3 (he : el + sz ≤ 2000) : ∀ (m j fo : Nat) (w : Wd), j + m = sz → gi w 0 133 = Int32.ofNat el → gi w 0 136 = Int32.ofNat fu → fu ≤ 2000 → oX12_allot_214 (fo + m + 1) (Int64.ofNat sz) (Int32.ofNat j) w = some (si (si (zelW (el + j) m w) 0 133 (Int32.ofNat (el + sz))) 0 136 (Int32.ofNat (max fu (el + sz)))) := by
  intro m
  induction m with
  | zero =>
    intro j fo w hj h1 h2 h3
    have : j = sz := by omega
    subst this
    show fX12_allot_214 _ _ _ _ = _
    unfold fX12_allot_214
    rw [i64_iN (by omega), if_pos ((le64 (by omega) (by omega)).mpr (Nat.le_refl _)), h1, tl_iN, add_iN, ltq, gi_si0, gi_si1 (by omega), h2, mx_iN (by omega) (by omega), ltq, ltq]
    rfl
  | succ m ih =>
    intro j fo w hj h1 h2 h3
    show fX12_allot_214 (oX12_allot_214 (fo + (m + 1))) _ _ _ = _
    unfold fX12_allot_214
    rw [i64_iN (by omega), if_neg (fun c => absurd ((le64 (by omega) (by omega)).mp c) (by omega)), h1, add_iN, if_pos (inb_iN (by omega) (by omega)), tc_iN (by omega), ltq, ltq, ad1_iN, show fo + (m + 1) = fo + m + 1 by omega]
    exact ih (j + 1) fo _ (by omega) (by rw [gi_sl]; exact h1) (by rw [gi_sl]; exact h2) h3
theorem rm_alloc (H : MK gM b ev (sp + 2 * nb) cp na mt el us w) (T : TLM al sc pr de fu w) (hfu : fu ≤ 2000) (hb : b < 60000) (ho : opW gM b 24 (Int32.ofNat s) (Int32.ofNat nb) z) (h87 : gi w 87 ev = Int32.ofNat base) (hq : base + s + 10 < 200000) (hn : nb ≤ 3) (hv : ∀ i, i < nb → gl w 85 (sp + 2 * i) = lo i ∧ gl w 85 (sp + 2 * i + 1) = hi i) (hR : ∀ k, k < nb → R36 (lo k) ∧ R36 (hi k)) :
    ((el : Int) + PRZ lo hi nb ≤ 2000 → fX12_step w = some (si (si (zelW el (PRZ lo hi nb).toNat (sl (sl (bndM lo hi (base + s) 0 nb (si w 0 128 (Int32.ofNat (b + 1)))) 83 (base + s) (Int64.ofNat nb)) 83 (base + s + 1) (Int64.ofNat el))) 0 133 (Int32.ofNat (el + (PRZ lo hi nb).toNat))) 0 136 (Int32.ofNat (max fu (el + (PRZ lo hi nb).toNat))))) ∧
    (¬ (el : Int) + PRZ lo hi nb ≤ 2000 → fX12_step w = some (si (sl (sl (bndM lo hi (base + s) 0 nb (si w 0 128 (Int32.ofNat (b + 1)))) 83 (base + s) (Int64.ofNat nb)) 83 (base + s + 1) (Int64.ofNat el)) 0 140 3)) := by
  have hel := H.2.2.2.2.2.2.2.2.2.2.2.2.2.2.2.2.1
  have hev := H.2.2.2.2.2.2.2.2.2.2.2.1
  have hsp := H.2.2.2.2.2.2.2.2.2.2.2.2.1
  have H1 := H.nx (b1 := b + 1) (by omega)
  obtain ⟨fo, hf⟩ := FU_ge (k := nb + 1) (by omega)
  have hf' : FU = fo + nb + 1 := by rw [hf, Nat.add_assoc]
  have E0 : fX12_step w = bn (oX12_allot_5 FU (Int32.ofNat (base + s)) (Int32.ofNat nb) 1 0 (si w 0 128 (Int32.ofNat (b + 1)))) fun w48 => some w48 := by
    rw [stM_eq H ho hb]
    have e7 : gi (si w 0 128 (Int32.ofNat (b + 1))) 87 ev = Int32.ofNat base := by rw [gi_si1 (by omega)]; exact h87
    generalize hy : si w 0 128 (Int32.ofNat (b + 1)) = y0 at H1 e7 ⊢
    unfold stpB fX12_other fX12_allot
    rw [if_neg (show ¬ ((24 : Int32) = 1) by decide), if_neg (show ¬ ((24 : Int32) = 2) by decide), if_neg (show ¬ ((24 : Int32) = 3) by decide), if_neg (show ¬ ((24 : Int32) = 4) by decide), if_neg (show ¬ ((24 : Int32) = 5) by decide), if_neg (show ¬ ((24 : Int32) = 6) by decide), if_neg (show ¬ ((24 : Int32) = 7) by decide), if_neg (show ¬ ((24 : Int32) = 8) by decide), if_neg (show ¬ ((24 : Int32) = 9) by decide), if_neg (show ¬ ((24 : Int32) = 10) by decide), if_neg (show ¬ ((24 : Int32) = 11) by decide), if_neg (show ¬ ((24 : Int32) = 12) by decide), if_neg (show ¬ ((24 : Int32) = 13) by decide), if_neg (show ¬ ((24 : Int32) = 14) by decide), if_neg (show ¬ ((24 : Int32) = 15) by decide), if_neg (show ¬ ((24 : Int32) = 16) by decide), if_neg (show ¬ ((24 : Int32) = 17) by decide), if_neg (show ¬ ((24 : Int32) = 18) by decide), if_neg (show ¬ ((24 : Int32) = 19) by decide), if_neg (show ¬ ((24 : Int32) = 20) by decide), if_neg (show ¬ ((24 : Int32) = 21) by decide), if_neg (show ¬ ((24 : Int32) = 22) by decide), if_neg (show ¬ ((24 : Int32) = 23) by decide), if_pos (show (24 : Int32) = 24 from rfl), H1.2.2.2.1, if_pos (inb_iN hev (by omega)), tc_iN (by omega), e7, add_iN, bn_sm]
  have L1 := al_lp1 (lo := lo) (hi := hi) (q := base + s) (nb := nb) (sp := sp) hq hn (by omega) nb 0 fo (si w 0 128 (Int32.ofNat (b + 1))) (by omega) H1.2.2.2.2.1 (fun i hi' => by rw [gl_si, gl_si]; exact hv i hi')
  have O := bndM_off (lo := lo) (hi := hi) (q := base + s) (Q := fun k _ => k = 83) nb 0 (si w 0 128 (Int32.ofNat (b + 1))) (fun _ _ _ => rfl)
  have L2 := al_lp2 (lo := lo) (hi := hi) (w := bndM lo hi (base + s) 0 nb (si w 0 128 (Int32.ofNat (b + 1)))) (q := base + s) (nb := nb) hq hn (by rw [(O 0 133 (by omega)).1]; exact H1.2.2.2.2.2.2.2.2.1) hel (by rw [(O 0 140 (by omega)).1]; exact H1.2.1) (fun i hi' => bndM_v nb 0 _ i (Nat.zero_le _) (by omega)) nb 0 fo (by omega)
  have E : fX12_step w = bn (if Int64.ofNat el + szM lo hi nb ≤ 2000 then oX12_allot_214 FU (szM lo hi nb) 0 (sl (sl (bndM lo hi (base + s) 0 nb (si w 0 128 (Int32.ofNat (b + 1)))) 83 (base + s) (Int64.ofNat nb)) 83 (base + s + 1) (Int64.ofNat el)) else some (si (sl (sl (bndM lo hi (base + s) 0 nb (si w 0 128 (Int32.ofNat (b + 1)))) 83 (base + s) (Int64.ofNat nb)) 83 (base + s + 1) (Int64.ofNat el)) 0 140 3)) fun w48 => some w48 := by
    rw [E0]
    refine congrArg (fun z => bn z fun w48 => some w48) ?_
    refine (congrArg (fun z => oX12_allot_5 z (Int32.ofNat (base + s)) (Int32.ofNat nb) 1 0 (si w 0 128 (Int32.ofNat (b + 1)))) hf').trans (L1.trans ?_)
    exact (congrArg (fun z => oX12_allot_126 z (Int32.ofNat (base + s)) (Int32.ofNat nb) (szM lo hi nb) 0 (bndM lo hi (base + s) 0 nb (si w 0 128 (Int32.ofNat (b + 1))))) hf').trans L2
  have S := sz_fit (el := el) (by omega) (szM_ok (n := nb) hR) PRZ_nn hel
  rw [E]
  refine ⟨fun hp => ?_, fun hp => ?_⟩
  · obtain ⟨s1, s2⟩ := S.1 hp
    have hnn := PRZ_nn (lo := lo) (hi := hi) (n := nb)
    obtain ⟨fo2, hf2⟩ := FU_ge (k := (PRZ lo hi nb).toNat + 1) (by omega)
    have L3 := al_lp3 (sz := (PRZ lo hi nb).toNat) (fu := fu) (el := el) (by omega) (PRZ lo hi nb).toNat 0 fo2 (sl (sl (bndM lo hi (base + s) 0 nb (si w 0 128 (Int32.ofNat (b + 1)))) 83 (base + s) (Int64.ofNat nb)) 83 (base + s + 1) (Int64.ofNat el)) (by omega) (by rw [gi_sl, gi_sl, (O 0 133 (by omega)).1]; exact H1.2.2.2.2.2.2.2.2.1) (by rw [gi_sl, gi_sl, (O 0 136 (by omega)).1, gi_si1 (by omega)]; exact T.2.2.2.2) hfu
    rw [if_pos s2, s1, hf2, ← Nat.add_assoc]
    exact congrArg (fun z => bn z fun w48 => some w48) L3
  · rw [if_neg (S.2 hp)]
    rfl
end MKM
