/-! AN ARRAY IS MADE: the class -/
section MKC
variable {lo hi : Nat → Int64} {gA : Wd} {N a fr tp h dp el x nb : Nat} {w : Wd}
/-- bounds written at x -/
def bndW (lo hi : Nat → Int64) (x : Nat) : Nat → Nat → Wd → Wd
  | _, 0, w => w
  | k, m + 1, w => bndW lo hi x (k + 1) m (sl (sl w 50 (x + 2 + 2 * k) (lo k)) 50 (x + 3 + 2 * k) (hi k))
theorem bndW_off {Q : Nat → Nat → Prop} : ∀ (m k : Nat) (w : Wd), (∀ j, x + 2 + 2 * k ≤ j → j < x + 2 + 2 * (k + m) → Q 50 j) → OFF Q (bndW lo hi x k m w) w := by
  intro m
  induction m with
  | zero => exact fun _ _ _ => OFF.rf
  | succ m ih =>
    intro k w hQ
    refine OFF.tr (ih (k + 1) _ (fun j h1 h2 => hQ j (by omega) (by omega))) (OFF.tr (OFF.sl (hQ _ (by omega) (by omega))) (OFF.sl (hQ _ (by omega) (by omega))))
theorem bndW_v : ∀ (m k : Nat) (w : Wd) (j : Nat), k ≤ j → j < k + m → gl (bndW lo hi x k m w) 50 (x + 2 + 2 * j) = lo j ∧ gl (bndW lo hi x k m w) 50 (x + 3 + 2 * j) = hi j := by
  intro m
  induction m with
  | zero => exact fun k w j h1 h2 => by omega
  | succ m ih =>
    intro k w j h1 h2
    by_cases e : j = k
    · subst e
      have O := bndW_off (lo := lo) (hi := hi) (x := x) (Q := fun k i => k = 50 ∧ x + 2 + 2 * (j + 1) ≤ i) m (j + 1) (sl (sl w 50 (x + 2 + 2 * j) (lo j)) 50 (x + 3 + 2 * j) (hi j)) (fun i h3 h4 => ⟨rfl, h3⟩)
      show gl (bndW lo hi x (j + 1) m _) _ _ = _ ∧ gl (bndW lo hi x (j + 1) m _) _ _ = _
      rw [(O 50 (x + 2 + 2 * j) (by omega)).2, (O 50 (x + 3 + 2 * j) (by omega)).2, gl_sl1 (by omega), gl_sl0, gl_sl0]
      exact ⟨rfl, rfl⟩
    · exact ih (k + 1) _ j (by omega) (by omega)
theorem mk_lp (hx : x + 2 + 2 * nb ≤ tp) (hn : nb ≤ 3) (htp : tp ≤ 109186) (hh : h + 2 * nb ≤ 30622) : ∀ (m k fo : Nat) (w : Wd), k + m = nb → CK gA N a fr tp (h + 2 * nb) dp el w → (∀ q, q < nb → gl w 51 (h + 2 * q) = lo q ∧ gl w 51 (h + 2 * q + 1) = hi q) → oX3_make_38 (fo + m + 1) (Int32.ofNat nb) (Int32.ofNat x) (szA lo hi k) (Int32.ofNat k) w = (if Int64.ofNat el + szA lo hi nb ≤ 2000 then oX3_make_178 FU (szA lo hi nb) 0 (bndW lo hi x k m w) else some (si (bndW lo hi x k m w) 48 10 3)) := by
  intro m
  induction m with
  | zero =>
    intro k fo w hk H hv
    have : k = nb := by omega
    subst this
    show fX3_make_38 _ _ _ _ _ _ = _
    unfold fX3_make_38
    rw [if_pos ((le_iN (by omega) (by omega)).mpr (Nat.le_refl _)), H.2.2.2.2.2.2.2.1, i64_iN (by have := H.2.2.2.2.2.2.2.2.2.2.2.2; omega)]
    rfl
  | succ m ih =>
    intro k fo w hk H hv
    obtain ⟨v1, v2⟩ := hv k (by omega)
    show fX3_make_38 (oX3_make_38 (fo + (m + 1))) _ _ _ _ _ = _
    unfold fX3_make_38
    have e2 : (2 : Int32) * (Int32.ofNat nb - Int32.ofNat k) = Int32.ofNat (2 * (nb - k)) := by
      rw [sub_iN (by omega) (by omega)]; exact mul_iN 2 (nb - k)
    rw [if_neg (fun c => absurd ((le_iN (by omega) (by omega)).mp c) (by omega)), H.2.2.2.2.2.1, e2, sub_iN (by omega) (by omega), show h + 2 * nb - 2 * (nb - k) = h + 2 * k by omega, rgl_iN (by omega) (by omega), v1, ltq, ad1_iN, rgl_iN (by omega) (by omega), v2, ltq, show (2 : Int32) * Int32.ofNat k = Int32.ofNat (2 * k) from mul_iN 2 k, show (2 : Int32) = Int32.ofNat 2 from rfl, add_iN, add_iN, i64_iN (by omega), H.write (by omega), ltq]
    have H1 : CK gA N a fr tp (h + 2 * nb) dp el (sl w 50 (x + 2 + 2 * k) (lo k)) := H.st50
    rw [show (3 : Int32) = Int32.ofNat 3 from rfl, add_iN, add_iN, i64_iN (by omega), H1.write (by omega), ltq, ltq, ltq, ltq, ltq, ltq, ad1_iN]
    have ih' := ih (k + 1) fo (sl (sl w 50 (x + 2 + 2 * k) (lo k)) 50 (x + 3 + 2 * k) (hi k)) (by omega) H1.st50 (fun q hq => by rw [gl_sl1 (by omega), gl_sl1 (by omega), gl_sl1 (by omega), gl_sl1 (by omega)]; exact hv q hq)
    rw [show fo + (m + 1) = fo + m + 1 by omega]
    exact ih'
end MKC
