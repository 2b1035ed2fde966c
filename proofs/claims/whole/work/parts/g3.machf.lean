/-! THE CLASS'S MACHINE: what a word does (4): operands -/
section M3
variable {gA : Wd} {N a fr tp h dp el a1 fr1 tp1 h1 dp1 el1 al sp pr de fu : Nat} {w u v : Wd}
/-- one operand more -/
def pshQ (w : Wd) (h : Nat) (v : Int64) : Wd := si (sl w 51 h v) 48 14 (Int32.ofNat (h + 1))
def pshW (w : Wd) (a h : Nat) (v : Int64) : Wd := pshQ (si w 48 11 (Int32.ofNat a)) h v
theorem pshQ_off {v : Int64} : OFF (PSK h) (pshQ w h v) w := OFF.tr (OFF.si (Or.inl ⟨rfl, Or.inr rfl⟩)) (OFF.sl (Or.inr ⟨rfl, Nat.le_refl _⟩))
theorem pshQ_v {v : Int64} : gl (pshQ w h v) 51 h = v := by
  unfold pshQ
  rw [gl_si, gl_sl0]
theorem pshQ_o {v : Int64} {j : Nat} (hj : j ≠ h) : gl (pshQ w h v) 51 j = gl w 51 j := by
  unfold pshQ
  rw [gl_si, gl_sl1 (by omega)]
theorem pshQ_ck (H : CK gA N a fr tp h dp el w) {v : Int64} (hh : h < 30622) : CK gA N a fr tp (h + 1) dp el (pshQ w h v) :=
  H.ps pshQ_off (by unfold pshQ; rw [gi_si1 (by omega), gi_sl]; exact H.2.2.1) (gi_si0 _ _ _ _) (by omega)
theorem pshW_off {v : Int64} : OFF (PSK h) (pshW w a h v) w := OFF.tr pshQ_off (OFF.si (Or.inl ⟨rfl, Or.inl rfl⟩))
theorem pshW_v {v : Int64} : gl (pshW w a h v) 51 h = v := pshQ_v
theorem pshW_o {v : Int64} {j : Nat} (hj : j ≠ h) : gl (pshW w a h v) 51 j = gl w 51 j := (pshQ_o hj).trans rfl
theorem pshW_ck (H : CK gA N a fr tp h dp el w) {v : Int64} (hh : h < 30622) : CK gA N a1 fr tp (h + 1) dp el (pshW w a1 h v) := pshQ_ck (H.nx a1) hh
/-- one operand less -/
def popW (w : Wd) (a h : Nat) : Wd := si (si w 48 11 (Int32.ofNat a)) 48 14 (Int32.ofNat h)
theorem popW_off : OFF (fun k j => k = 48 ∧ (j = 11 ∨ j = 14)) (popW w a h) w := OFF.tr (OFF.si ⟨rfl, Or.inr rfl⟩) (OFF.si ⟨rfl, Or.inl rfl⟩)
theorem popW_ck (H : CK gA N a fr tp h dp el w) (hh : h1 ≤ 30622) : CK gA N a1 fr tp h1 dp el (popW w a1 h1) :=
  H.ps (h0 := 0) (popW_off.mono fun k j p => Or.inl p) (by unfold popW; rw [gi_si1 (by omega), gi_si0]) (gi_si0 _ _ _ _) hh
/-- frames further out -/
def FCH (w : Wd) (tp : Nat) : Nat → Nat → Nat → Prop
  | 0, f, g => g = f
  | n + 1, f, g => f < tp ∧ ∃ f1, gl w 50 f = Int64.ofNat f1 ∧ FCH w tp n f1 g
theorem FCH.agr {tp : Nat} : ∀ {n f g : Nat}, FCH w tp n f g → (∀ x, x < tp → gl u 50 x = gl w 50 x) → FCH u tp n f g := by
  intro n
  induction n with
  | zero => exact fun h _ => h
  | succ n ih =>
    intro f g h hA
    obtain ⟨h1, f1, h2, h3⟩ := h
    exact ⟨h1, f1, (hA f h1).trans h2, ih h3 hA⟩
theorem fra_lp (H : CK gA N a fr tp h dp el w) : ∀ (n i f g fo : Nat), FCH w tp n f g → i + n ≤ 70 → oX3_frameAt_15 (fo + n + 1) (Int32.ofNat (i + n)) (Int32.ofNat f) (Int32.ofNat i) w = some (Int32.ofNat g, w) := by
  have ht := H.2.2.2.2.2.2.2.2.2.1
  intro n
  induction n with
  | zero =>
    intro i f g fo h hi
    have h : g = f := h
    subst h
    show fX3_frameAt_15 _ _ _ _ _ = _
    unfold fX3_frameAt_15
    rw [if_pos ((le_iN (by omega) (by omega)).mpr (by omega))]
  | succ n ih =>
    intro i f g fo h hi
    obtain ⟨h1, f1, h2, h3⟩ := h
    show fX3_frameAt_15 (oX3_frameAt_15 (fo + n + 1)) _ _ _ _ = _
    unfold fX3_frameAt_15
    rw [if_neg (nle_iN (by omega) (by omega)), show Int32.ofNat f + 0 = Int32.ofNat f from add_iN f 0, i64_iN (by omega), H.read h1, lt2q, h2, tl_iN, ltq, ad1_iN, ltq, show i + (n + 1) = i + 1 + n by omega]
    exact ih (i + 1) f1 g fo h3 (by omega)
theorem fra_ok (H : CK gA N a fr tp h dp el w) {n g : Nat} (hn : n < 63) (hF : FCH w tp n fr g) : fX3_frameAt (Int32.ofNat n) w = some (Int32.ofNat g, w) := by
  unfold fX3_frameAt
  rw [if_neg (show ¬ (Int32.ofNat n = 63) from of_ne (k := 63) (by omega) (by omega) (by omega)), ltq, H.2.2.2.1]
  obtain ⟨fo, hf⟩ := FU_ge (k := n + 1) (by omega)
  rw [hf, ← Nat.add_assoc]
  have := fra_lp H n 0 fr g fo hF (by omega)
  rw [Nat.zero_add] at this
  exact this
theorem fra_own : fX3_frameAt (Int32.ofNat 63) w = some (Int32.ofNat 0, w) := by
  unfold fX3_frameAt
  rw [if_pos (show Int32.ofNat 63 = 63 from rfl)]
  rfl
/-- hops from frame fr: g; 63: the own VARIABLES -/
def HOP (w : Wd) (tp fr y g : Nat) : Prop := (y < 63 ∧ FCH w tp y fr g) ∨ (y = 63 ∧ g = 0)
theorem HOP.ok {y g : Nat} (h : HOP w tp fr y g) (H : CK gA N a fr tp h1 dp el w) : fX3_frameAt (Int32.ofNat y) w = some (Int32.ofNat g, w) := by
  rcases h with ⟨h2, h3⟩ | ⟨h2, h3⟩
  · exact fra_ok H h2 h3
  · rw [h2, h3]; exact fra_own
theorem HOP.lt {y g : Nat} (h : HOP w tp fr y g) : y < 64 := by
  rcases h with ⟨h2, h3⟩ | ⟨h2, h3⟩ <;> omega
theorem HOP.nx {y g : Nat} (h : HOP w tp fr y g) {x : Int32} {j : Nat} : HOP (si w 48 j x) tp fr y g := h.imp (fun q => ⟨q.1, q.2.agr fun _ _ => rfl⟩) id
/-- NEGATE, NOT -/
theorem k_neg (H : CK gA N a fr tp (h + 1) dp el w) (ha : a < N) (hw : gl gA 41 a = wdC 16 0 0) : fX3_tick w = some (pshQ (popW w (a + 1) h) h (((-gl w 51 h) <<< (Int32.toInt64 28 &&& 63)) >>> (Int32.toInt64 28 &&& 63))) := by
  have hb := H.2.2.2.2.2.2.2.2.2.2.1
  rw [tk_move (x := 16) (y := 0) (c := 0) H ha hw (by omega) (by omega) (by omega)]
  unfold fX3_move
  rw [if_pos (show Int32.ofNat 16 = 16 from rfl), pop_ok (h := h) (by rw [gi_si1 (by omega)]; exact H.2.2.2.2.2.1) (by omega), gl_si, lt2q, ltq, push_ok (h := h) (gi_si0 _ _ _ _) (by omega), ltq]
  rfl
theorem k_not (H : CK gA N a fr tp (h + 1) dp el w) (ha : a < N) (hw : gl gA 41 a = wdC 17 0 0) : fX3_tick w = some (pshQ (popW w (a + 1) h) h (1 - gl w 51 h)) := by
  have hb := H.2.2.2.2.2.2.2.2.2.2.1
  rw [tk_move (x := 17) (y := 0) (c := 0) H ha hw (by omega) (by omega) (by omega)]
  unfold fX3_move
  rw [if_neg (show ¬ (Int32.ofNat 17 = 16) by decide), if_pos (show Int32.ofNat 17 = 17 from rfl), pop_ok (h := h) (by rw [gi_si1 (by omega)]; exact H.2.2.2.2.2.1) (by omega), gl_si, lt2q, push_ok (h := h) (gi_si0 _ _ _ _) (by omega), ltq]
  rfl
/-- LITERAL -/
theorem k_lit (H : CK gA N a fr tp h dp el w) (ha : a + 1 < N) (hw : gl gA 41 a = wdC 18 0 0) (hh : h < 30622) : fX3_tick w = some (si (pshW w (a + 1) h (gl gA 41 (a + 1))) 48 11 (Int32.ofNat (a + 2))) := by
  rw [tk_move (x := 18) (y := 0) (c := 0) H (by omega) hw (by omega) (by omega) (by omega)]
  unfold fX3_move
  rw [if_neg (show ¬ (Int32.ofNat 18 = 16) by decide), if_neg (show ¬ (Int32.ofNat 18 = 17) by decide), if_pos (show Int32.ofNat 18 = 18 from rfl), gi_si0, (H.nx (a + 1)).word ha, lt2q, push_ok (h := h) (by rw [gi_si1 (by omega)]; exact H.2.2.2.2.2.1) hh, ltq, gi_si1 (by omega), gi_sl, gi_si0, ad1_iN, ltq]
  rfl
/-- VALUE, PLACE, PAIR -/
theorem k_val {y g s : Nat} (H : CK gA N a fr tp h dp el w) (ha : a < N) (hw : gl gA 41 a = wdC 19 (Int32.ofNat y) (Int32.ofNat s)) (hy : HOP w tp fr y g) (hg : g + s < tp) (hh : h < 30622) : fX3_tick w = some (pshW w (a + 1) h (gl w 50 (g + s))) := by
  have ht := H.2.2.2.2.2.2.2.2.2.1
  rw [tk_move (x := 19) (y := y) (c := s) H ha hw (by omega) hy.lt (by omega)]
  unfold fX3_move
  rw [if_neg (show ¬ (Int32.ofNat 19 = 16) by decide), if_neg (show ¬ (Int32.ofNat 19 = 17) by decide), if_neg (show ¬ (Int32.ofNat 19 = 18) by decide), if_pos (show Int32.ofNat 19 = 19 from rfl), (hy.nx (j := 11) (x := Int32.ofNat (a + 1))).ok (H.nx (a + 1)), bn2_so, add_iN, i64_iN (by omega), (H.nx (a + 1)).read hg, lt2q, gl_si, push_ok (h := h) (by rw [gi_si1 (by omega)]; exact H.2.2.2.2.2.1) hh, ltq]
  rfl
theorem k_plc {y g s : Nat} (H : CK gA N a fr tp h dp el w) (ha : a < N) (hw : gl gA 41 a = wdC 20 (Int32.ofNat y) (Int32.ofNat s)) (hy : HOP w tp fr y g) (hg : g + s < tp) (hh : h < 30622) : fX3_tick w = some (pshW w (a + 1) h (Int64.ofNat (g + s))) := by
  have ht := H.2.2.2.2.2.2.2.2.2.1
  rw [tk_move (x := 20) (y := y) (c := s) H ha hw (by omega) hy.lt (by omega)]
  unfold fX3_move
  rw [if_neg (show ¬ (Int32.ofNat 20 = 16) by decide), if_neg (show ¬ (Int32.ofNat 20 = 17) by decide), if_neg (show ¬ (Int32.ofNat 20 = 18) by decide), if_neg (show ¬ (Int32.ofNat 20 = 19) by decide), if_pos (show Int32.ofNat 20 = 20 from rfl), (hy.nx (j := 11) (x := Int32.ofNat (a + 1))).ok (H.nx (a + 1)), bn2_so, add_iN, i64_iN (by omega), push_ok (h := h) (by rw [gi_si1 (by omega)]; exact H.2.2.2.2.2.1) hh, ltq]
  rfl
theorem k_pair {y g s : Nat} (H : CK gA N a fr tp h dp el w) (ha : a < N) (hw : gl gA 41 a = wdC 21 (Int32.ofNat y) (Int32.ofNat s)) (hy : HOP w tp fr y g) (hg : g + s + 1 < tp) (hh : h + 1 < 30622) : fX3_tick w = some (si (sl (pshW w (a + 1) h (gl w 50 (g + s))) 51 (h + 1) (gl w 50 (g + s + 1))) 48 14 (Int32.ofNat (h + 2))) := by
  have ht := H.2.2.2.2.2.2.2.2.2.1
  have H1 : CK gA N (a + 1) fr tp (h + 1) dp el (pshW w (a + 1) h (gl w 50 (g + s))) := pshW_ck H (by omega)
  rw [tk_move (x := 21) (y := y) (c := s) H ha hw (by omega) hy.lt (by omega)]
  unfold fX3_move
  rw [if_neg (show ¬ (Int32.ofNat 21 = 16) by decide), if_neg (show ¬ (Int32.ofNat 21 = 17) by decide), if_neg (show ¬ (Int32.ofNat 21 = 18) by decide), if_neg (show ¬ (Int32.ofNat 21 = 19) by decide), if_neg (show ¬ (Int32.ofNat 21 = 20) by decide), if_pos (show Int32.ofNat 21 = 21 from rfl), (hy.nx (j := 11) (x := Int32.ofNat (a + 1))).ok (H.nx (a + 1)), bn2_so, add_iN, ltq, i64_iN (by omega), (H.nx (a + 1)).read (by omega), lt2q, gl_si, push_ok (h := h) (by rw [gi_si1 (by omega)]; exact H.2.2.2.2.2.1) (by omega), ltq, ad1_iN, i64_iN (by omega)]
  have e : si (sl (si w 48 11 (Int32.ofNat (a + 1))) 51 h (gl w 50 (g + s))) 48 14 (Int32.ofNat (h + 1)) = pshW w (a + 1) h (gl w 50 (g + s)) := rfl
  rw [e, H1.read hg, lt2q, push_ok (h := h + 1) H1.2.2.2.2.2.1 (by omega), ltq, (pshW_off (h := h) (a := a + 1) (w := w) 50 (g + s + 1) (by unfold PSK; omega)).2]
/-- AT, THUNK -/
theorem k_at {y g s x : Nat} (H : CK gA N a fr tp h dp el w) (ha : a < N) (hw : gl gA 41 a = wdC 22 (Int32.ofNat y) (Int32.ofNat s)) (hs : s < N) (hx : gl gA 41 s = Int64.ofNat x) (hx9 : x < 2147483648) (hy : HOP w tp fr y g) (hg : g ≤ tp) (hh : h + 1 < 30622) : fX3_tick w = some (si (sl (pshW w (a + 1) h (Int64.ofNat x)) 51 (h + 1) (Int64.ofNat g)) 48 14 (Int32.ofNat (h + 2))) := by
  have ht := H.2.2.2.2.2.2.2.2.2.1
  have hN := H.1.2.1
  have H1 : CK gA N (a + 1) fr tp (h + 1) dp el (pshW w (a + 1) h (Int64.ofNat x)) := pshW_ck H (by omega)
  have hy1 : HOP (pshW w (a + 1) h (Int64.ofNat x)) tp fr y g := hy.imp (fun q => ⟨q.1, q.2.agr fun j _ => (pshW_off (h := h) (a := a + 1) (w := w) 50 j (by unfold PSK; omega)).2⟩) id
  rw [tk_move (x := 22) (y := y) (c := s) H ha hw (by omega) hy.lt (by omega)]
  unfold fX3_move fX3_codeAt
  rw [if_neg (show ¬ (Int32.ofNat 22 = 16) by decide), if_neg (show ¬ (Int32.ofNat 22 = 17) by decide), if_neg (show ¬ (Int32.ofNat 22 = 18) by decide), if_neg (show ¬ (Int32.ofNat 22 = 19) by decide), if_neg (show ¬ (Int32.ofNat 22 = 20) by decide), if_neg (show ¬ (Int32.ofNat 22 = 21) by decide), if_pos (show Int32.ofNat 22 = 22 from rfl), (H.nx (a + 1)).word hs, lt2q, lt2q, hx, tl_iN, i64_iN hx9, push_ok (h := h) (by rw [gi_si1 (by omega)]; exact H.2.2.2.2.2.1) (by omega), ltq]
  have e : si (sl (si w 48 11 (Int32.ofNat (a + 1))) 51 h (Int64.ofNat x)) 48 14 (Int32.ofNat (h + 1)) = pshW w (a + 1) h (Int64.ofNat x) := rfl
  rw [e, hy1.ok H1, bn2_so, i64_iN (by omega), push_ok (h := h + 1) H1.2.2.2.2.2.1 (by omega), ltq]
theorem k_thunk {s : Nat} (H : CK gA N a fr tp h dp el w) (ha : a < N) (hw : gl gA 41 a = wdC 23 0 (Int32.ofNat s)) (hs : s < 4194304) (hh : h + 1 < 30622) : fX3_tick w = some (si (sl (pshW w (a + 1) h (Int64.ofNat s)) 51 (h + 1) (Int64.ofNat fr)) 48 14 (Int32.ofNat (h + 2))) := by
  have hf := H.2.2.2.2.2.2.2.2.1
  have H1 : CK gA N (a + 1) fr tp (h + 1) dp el (pshW w (a + 1) h (Int64.ofNat s)) := pshW_ck H (by omega)
  rw [tk_move (x := 23) (y := 0) (c := s) H ha hw (by omega) (by omega) hs]
  unfold fX3_move
  rw [if_neg (show ¬ (Int32.ofNat 23 = 16) by decide), if_neg (show ¬ (Int32.ofNat 23 = 17) by decide), if_neg (show ¬ (Int32.ofNat 23 = 18) by decide), if_neg (show ¬ (Int32.ofNat 23 = 19) by decide), if_neg (show ¬ (Int32.ofNat 23 = 20) by decide), if_neg (show ¬ (Int32.ofNat 23 = 21) by decide), if_neg (show ¬ (Int32.ofNat 23 = 22) by decide), if_pos (show Int32.ofNat 23 = 23 from rfl), i64_iN (by omega), push_ok (h := h) (by rw [gi_si1 (by omega)]; exact H.2.2.2.2.2.1) (by omega), ltq]
  have e : si (sl (si w 48 11 (Int32.ofNat (a + 1))) 51 h (Int64.ofNat s)) 48 14 (Int32.ofNat (h + 1)) = pshW w (a + 1) h (Int64.ofNat s) := rfl
  rw [e, H1.2.2.2.1, i64_iN (by omega), push_ok (h := h + 1) H1.2.2.2.2.2.1 (by omega), ltq]
/-- LOAD -/
theorem k_load {x : Nat} (H : CK gA N a fr tp (h + 1) dp el w) (ha : a < N) (hw : gl gA 41 a = wdC 24 0 0) (hx : gl w 51 h = Int64.ofNat x) (hx9 : x < tp) : fX3_tick w = some (pshQ (popW w (a + 1) h) h (gl w 50 x)) := by
  have hb := H.2.2.2.2.2.2.2.2.2.2.1
  have H1 : CK gA N (a + 1) fr tp h dp el (popW w (a + 1) h) := popW_ck H (by omega)
  rw [tk_move (x := 24) (y := 0) (c := 0) H ha hw (by omega) (by omega) (by omega)]
  unfold fX3_move
  rw [if_neg (show ¬ (Int32.ofNat 24 = 16) by decide), if_neg (show ¬ (Int32.ofNat 24 = 17) by decide), if_neg (show ¬ (Int32.ofNat 24 = 18) by decide), if_neg (show ¬ (Int32.ofNat 24 = 19) by decide), if_neg (show ¬ (Int32.ofNat 24 = 20) by decide), if_neg (show ¬ (Int32.ofNat 24 = 21) by decide), if_neg (show ¬ (Int32.ofNat 24 = 22) by decide), if_neg (show ¬ (Int32.ofNat 24 = 23) by decide), if_pos (show Int32.ofNat 24 = 24 from rfl), pop_ok (h := h) (by rw [gi_si1 (by omega)]; exact H.2.2.2.2.2.1) (by omega), gl_si, lt2q, hx]
  have e : si (si w 48 11 (Int32.ofNat (a + 1))) 48 14 (Int32.ofNat h) = popW w (a + 1) h := rfl
  rw [e, H1.read hx9, lt2q, push_ok (h := h) H1.2.2.2.2.2.1 (by omega), ltq]
  rfl
/-- DROP -/
theorem k_drop {s : Nat} (H : CK gA N a fr tp (h + s) dp el w) (ha : a < N) (hw : gl gA 41 a = wdC 27 0 (Int32.ofNat s)) (hs : s < 4194304) : fX3_tick w = some (popW w (a + 1) h) := by
  have hb := H.2.2.2.2.2.2.2.2.2.2.1
  rw [tk_move (x := 27) (y := 0) (c := s) H ha hw (by omega) (by omega) hs]
  unfold fX3_move
  rw [if_neg (show ¬ (Int32.ofNat 27 = 16) by decide), if_neg (show ¬ (Int32.ofNat 27 = 17) by decide), if_neg (show ¬ (Int32.ofNat 27 = 18) by decide), if_neg (show ¬ (Int32.ofNat 27 = 19) by decide), if_neg (show ¬ (Int32.ofNat 27 = 20) by decide), if_neg (show ¬ (Int32.ofNat 27 = 21) by decide), if_neg (show ¬ (Int32.ofNat 27 = 22) by decide), if_neg (show ¬ (Int32.ofNat 27 = 23) by decide), if_neg (show ¬ (Int32.ofNat 27 = 24) by decide), if_neg (show ¬ (Int32.ofNat 27 = 25) by decide), if_neg (show ¬ (Int32.ofNat 27 = 26) by decide), if_pos (show Int32.ofNat 27 = 27 from rfl), gi_si1 (by omega), H.2.2.2.2.2.1, sub_iN (by omega) (by omega), Nat.add_sub_cancel, show (0 : Int32) = Int32.ofNat 0 from rfl, mx_iN (by omega) (by omega), Nat.max_eq_left (by omega), ltq, ltq]
  rfl
end M3
