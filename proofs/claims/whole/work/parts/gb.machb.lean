/-! THE REFERENCE'S MACHINE (2): operands and jumps -/
section N1
variable {gM : Wd} {b ev sp cp na mt el us b1 ev1 sp1 cp1 na1 mt1 el1 us1 al sc pr de fu : Nat} {w u v : Wd} {a x y z : Int32}
theorem bn_sm {α : Type} (p : Option α) : (bn p fun w => some w) = p := by cases p <;> rfl
/-- a slot: hops outward (or an own VARIABLE) and where it lies -/
def SLT (w : Wd) (ev : Nat) (x : Int32) (s q : Nat) : Prop := (∃ n g base, x = Int32.ofNat n ∧ n ≤ 100 ∧ ACH w n ev g ∧ g < 64 ∧ gi w 87 g = Int32.ofNat base ∧ q = base + s) ∨ (x = -1 ∧ q = s)
theorem SLT.ok {s q : Nat} (h : SLT w ev x s q) (H : MK gM b ev sp cp na mt el us w) : fX12_address x (Int32.ofNat s) w = some (Int32.ofNat q, w) := by
  rcases h with ⟨n, g, base, h1, h2, h3, h4, h5, h6⟩ | ⟨h1, h2⟩
  · rw [h1, h6]; exact adr_ok H.2.2.2.1 h2 h3 h4 h5
  · rw [h1, h2]; exact adr_own
theorem SLT.nx {s q : Nat} (h : SLT w ev x s q) {i : Int32} : SLT (si w 0 128 i) ev x s q := by
  rcases h with ⟨n, g, base, h1, h2, h3, h4, h5, h6⟩ | ⟨h1, h2⟩
  · exact Or.inl ⟨n, g, base, h1, h2, h3.agr (fun j _ => gi_si1 (by omega)), h4, by rw [gi_si1 (by omega)]; exact h5, h6⟩
  · exact Or.inr ⟨h1, h2⟩

theorem rm_lit {t : Nat} (H : MK gM b ev sp cp na mt el us w) (hb : b < 60000) (ho : opW gM b 1 (Int32.ofNat t) y z) (ht : t < 8194) : fX12_step w = some (pshM (si w 0 128 (Int32.ofNat (b + 1))) sp (gl gM 4 t)) := by
  rw [stM_eq H ho hb]
  have H1 := H.nx (b1 := b + 1) (by omega)
  generalize hy : si w 0 128 (Int32.ofNat (b + 1)) = y0 at H1 ⊢
  unfold stpB
  rw [if_pos (show (1 : Int32) = 1 from rfl), if_pos (zl_iN (by omega)), if_pos (inb_iN ht (by omega)), tc_iN (by omega), H1.1.2.2.1, pushM H1.2.2.2.2.1 (by have := H.2.2.2.2.2.2.2.2.2.2.2.2.1; omega), bn_so]
theorem rm_lit1 (H : MK gM b ev sp cp na mt el us w) (hb : b < 60000) (ho : opW gM b 1 (-1) y z) : fX12_step w = some (pshM (si w 0 128 (Int32.ofNat (b + 1))) sp y.toInt64) := by
  rw [stM_eq H ho hb]
  have H1 := H.nx (b1 := b + 1) (by omega)
  generalize hy : si w 0 128 (Int32.ofNat (b + 1)) = y0 at H1 ⊢
  unfold stpB
  rw [if_pos (show (1 : Int32) = 1 from rfl), if_neg (by decide), pushM H1.2.2.2.2.1 (by have := H.2.2.2.2.2.2.2.2.2.2.2.2.1; omega), bn_so]
theorem rm_loadv {s q : Nat} (H : MK gM b ev sp cp na mt el us w) (hb : b < 60000) (ho : opW gM b 2 x (Int32.ofNat s) z) (hs : SLT w ev x s q) (hq : q < 200000) : fX12_step w = some (pshM (si w 0 128 (Int32.ofNat (b + 1))) sp (gl w 83 q)) := by
  have hs1 := hs.nx (i := Int32.ofNat (b + 1))
  rw [stM_eq H ho hb]
  have H1 := H.nx (b1 := b + 1) (by omega)
  generalize hy : si w 0 128 (Int32.ofNat (b + 1)) = y0 at H1 hs1 ⊢
  unfold stpB
  rw [if_neg (show ¬ ((2 : Int32) = 1) by decide), if_pos (show (2 : Int32) = 2 from rfl), hs1.ok H1, bn2_so, if_pos (inb_iN hq (by omega)), tc_iN (by omega), pushM H1.2.2.2.2.1 (by have := H.2.2.2.2.2.2.2.2.2.2.2.2.1; omega), bn_so, ← hy, gl_si]
theorem rm_addrv {s q : Nat} (H : MK gM b ev sp cp na mt el us w) (hb : b < 60000) (ho : opW gM b 3 x (Int32.ofNat s) z) (hs : SLT w ev x s q) (hq : q < 200000) : fX12_step w = some (pshM (si w 0 128 (Int32.ofNat (b + 1))) sp (Int64.ofNat q)) := by
  have hs1 := hs.nx (i := Int32.ofNat (b + 1))
  rw [stM_eq H ho hb]
  have H1 := H.nx (b1 := b + 1) (by omega)
  generalize hy : si w 0 128 (Int32.ofNat (b + 1)) = y0 at H1 hs1 ⊢
  unfold stpB
  rw [if_neg (show ¬ ((3 : Int32) = 1) by decide), if_neg (show ¬ ((3 : Int32) = 2) by decide), if_pos (show (3 : Int32) = 3 from rfl), hs1.ok H1, bn2_so, i64_iN (by omega), pushM H1.2.2.2.2.1 (by have := H.2.2.2.2.2.2.2.2.2.2.2.2.1; omega), bn_so]
/-- USE: what's done then -/
theorem rm_use {s q : Nat} (H : MK gM b ev sp cp na mt el us w) (hb : b < 60000) (ho : opW gM b 4 x (Int32.ofNat s) z) (hs : SLT w ev x s q) (hz : z ≠ 2) : fX12_step w = fX12_use (Int32.ofNat q) z (si w 0 128 (Int32.ofNat (b + 1))) := by
  have hs1 := hs.nx (i := Int32.ofNat (b + 1))
  rw [stM_eq H ho hb]
  have H1 := H.nx (b1 := b + 1) (by omega)
  generalize hy : si w 0 128 (Int32.ofNat (b + 1)) = y0 at H1 hs1 ⊢
  unfold stpB
  rw [if_neg (show ¬ ((4 : Int32) = 1) by decide), if_neg (show ¬ ((4 : Int32) = 2) by decide), if_neg (show ¬ ((4 : Int32) = 3) by decide), if_pos (show (4 : Int32) = 4 from rfl), hs1.ok H1, bn2_so, if_neg hz, bn_sm]
theorem rm_use2 {s q : Nat} (H : MK gM b ev sp (cp + 1) na mt el us w) (hb : b < 60000) (ho : opW gM b 4 x (Int32.ofNat s) 2) (hs : SLT w ev x s q) : fX12_step w = fX12_use (Int32.ofNat q) (gi w 95 cp) (si w 0 128 (Int32.ofNat (b + 1))) := by
  have hs1 := hs.nx (i := Int32.ofNat (b + 1))
  have hc := H.2.2.2.2.2.2.2.2.2.2.2.2.2.1
  rw [stM_eq H ho hb]
  have H1 := H.nx (b1 := b + 1) (by omega)
  generalize hy : si w 0 128 (Int32.ofNat (b + 1)) = y0 at H1 hs1 ⊢
  unfold stpB
  rw [if_neg (show ¬ ((4 : Int32) = 1) by decide), if_neg (show ¬ ((4 : Int32) = 2) by decide), if_neg (show ¬ ((4 : Int32) = 3) by decide), if_pos (show (4 : Int32) = 4 from rfl), hs1.ok H1, bn2_so, if_pos rfl, H1.2.2.2.2.2.1, sb1_iN (by omega) (by omega), Nat.add_sub_cancel, if_pos (inb_iN (by omega) (by omega)), tc_iN (by omega), bn_sm, ← hy, gi_si1 (by omega)]
/-- reading a place: of memory, or an ELEMENT -/
def RDM (w : Wd) (p : Int64) (v : Int64) : Prop := (∃ q, q < 200000 ∧ p = Int64.ofNat q ∧ v = gl w 83 q) ∨ ∃ q, q < 2000 ∧ p = Int64.ofNat (1048576 + q) ∧ v = gl w 84 q
theorem RDM.ok {p v : Int64} (h : RDM w p v) : fX12_read_ p w = some (v, w) := by
  unfold fX12_read_
  rcases h with ⟨q, h1, h2, h3⟩ | ⟨q, h1, h2, h3⟩
  · rw [h2, if_pos (show Int64.ofNat q < 1048576 from (lt64 (b := 1048576) (by omega) (by omega)).mpr (by omega)), tl_iN, if_pos (inb_iN h1 (by omega)), tc_iN (by omega), h3]
  · rw [h2, if_neg (show ¬ (Int64.ofNat (1048576 + q) < 1048576) from fun hh => absurd ((lt64 (b := 1048576) (by omega) (by omega)).mp hh) (by omega)), tl_iN, show Int32.ofNat (1048576 + q) - 1048576 = Int32.ofNat q from by rw [show (1048576 : Int32) = Int32.ofNat 1048576 from rfl, sub_iN (by omega) (by omega), Nat.add_sub_cancel_left], if_pos (inb_iN h1 (by omega)), tc_iN (by omega), h3]
theorem rm_load {v : Int64} (H : MK gM b ev (sp + 1) cp na mt el us w) (hb : b < 60000) (ho : opW gM b 6 x y z) (hv : RDM w (gl w 85 sp) v) : fX12_step w = some (pshM (si (si w 0 128 (Int32.ofNat (b + 1))) 0 130 (Int32.ofNat sp)) sp v) := by
  have hsp := H.2.2.2.2.2.2.2.2.2.2.2.2.1
  rw [stM_eq H ho hb]
  have H1 := H.nx (b1 := b + 1) (by omega)
  generalize hy : si w 0 128 (Int32.ofNat (b + 1)) = y0 at H1 ⊢
  unfold stpB
  rw [if_neg (show ¬ ((6 : Int32) = 1) by decide), if_neg (show ¬ ((6 : Int32) = 2) by decide), if_neg (show ¬ ((6 : Int32) = 3) by decide), if_neg (show ¬ ((6 : Int32) = 4) by decide), if_neg (show ¬ ((6 : Int32) = 5) by decide), if_pos (show (6 : Int32) = 6 from rfl), popM H1.2.2.2.2.1 (by omega), bn2_so]
  have e : RDM (si y0 0 130 (Int32.ofNat sp)) (gl y0 85 sp) v := by
    rw [← hy]
    exact hv
  rw [e.ok, bn2_so, pushM (gi_si0 _ _ _ _) (by omega), bn_so]
/-- JUMP, UNLESS -/
theorem rm_jump {n : Nat} (H : MK gM b ev sp cp na mt el us w) (hb : b < 60000) (ho : opW gM b 10 (Int32.ofNat n) y z) : fX12_step w = some (si (si w 0 128 (Int32.ofNat (b + 1))) 0 128 (Int32.ofNat n)) := by
  rw [stM_eq H ho hb]
  have H1 := H.nx (b1 := b + 1) (by omega)
  generalize hy : si w 0 128 (Int32.ofNat (b + 1)) = y0 at H1 ⊢
  unfold stpB
  rw [if_neg (show ¬ ((10 : Int32) = 1) by decide), if_neg (show ¬ ((10 : Int32) = 2) by decide), if_neg (show ¬ ((10 : Int32) = 3) by decide), if_neg (show ¬ ((10 : Int32) = 4) by decide), if_neg (show ¬ ((10 : Int32) = 5) by decide), if_neg (show ¬ ((10 : Int32) = 6) by decide), if_neg (show ¬ ((10 : Int32) = 7) by decide), if_neg (show ¬ ((10 : Int32) = 8) by decide), if_neg (show ¬ ((10 : Int32) = 9) by decide), if_pos (show (10 : Int32) = 10 from rfl), ltq]
theorem rm_unless {n : Nat} (H : MK gM b ev (sp + 1) cp na mt el us w) (hb : b < 60000) (ho : opW gM b 11 (Int32.ofNat n) y z) : fX12_step w = some (if gl w 85 sp = 0 then si (si (si w 0 128 (Int32.ofNat (b + 1))) 0 130 (Int32.ofNat sp)) 0 128 (Int32.ofNat n) else si (si w 0 128 (Int32.ofNat (b + 1))) 0 130 (Int32.ofNat sp)) := by
  have hsp := H.2.2.2.2.2.2.2.2.2.2.2.2.1
  rw [stM_eq H ho hb]
  have H1 := H.nx (b1 := b + 1) (by omega)
  generalize hy : si w 0 128 (Int32.ofNat (b + 1)) = y0 at H1 ⊢
  unfold stpB
  rw [if_neg (show ¬ ((11 : Int32) = 1) by decide), if_neg (show ¬ ((11 : Int32) = 2) by decide), if_neg (show ¬ ((11 : Int32) = 3) by decide), if_neg (show ¬ ((11 : Int32) = 4) by decide), if_neg (show ¬ ((11 : Int32) = 5) by decide), if_neg (show ¬ ((11 : Int32) = 6) by decide), if_neg (show ¬ ((11 : Int32) = 7) by decide), if_neg (show ¬ ((11 : Int32) = 8) by decide), if_neg (show ¬ ((11 : Int32) = 9) by decide), if_neg (show ¬ ((11 : Int32) = 10) by decide), if_pos (show (11 : Int32) = 11 from rfl), popM H1.2.2.2.2.1 (by omega), bn2_so]
  have e : gl y0 85 sp = gl w 85 sp := by rw [← hy, gl_si]
  rw [e]
  by_cases q : gl w 85 sp = 0
  · rw [if_pos q, if_pos q, ltq]
  · rw [if_neg q, if_neg q]
/-- STEP -/
theorem rm_step (H : MK gM b ev sp cp na mt el us w) (hb : b < 60000) (ho : opW gM b 12 x y z) : fX12_step w = some (fX12_pay (si w 0 128 (Int32.ofNat (b + 1)))).2 := by
  rw [stM_eq H ho hb]
  have H1 := H.nx (b1 := b + 1) (by omega)
  generalize hy : si w 0 128 (Int32.ofNat (b + 1)) = y0 at H1 ⊢
  unfold stpB
  rw [if_neg (show ¬ ((12 : Int32) = 1) by decide), if_neg (show ¬ ((12 : Int32) = 2) by decide), if_neg (show ¬ ((12 : Int32) = 3) by decide), if_neg (show ¬ ((12 : Int32) = 4) by decide), if_neg (show ¬ ((12 : Int32) = 5) by decide), if_neg (show ¬ ((12 : Int32) = 6) by decide), if_neg (show ¬ ((12 : Int32) = 7) by decide), if_neg (show ¬ ((12 : Int32) = 8) by decide), if_neg (show ¬ ((12 : Int32) = 9) by decide), if_neg (show ¬ ((12 : Int32) = 10) by decide), if_neg (show ¬ ((12 : Int32) = 11) by decide), if_pos (show (12 : Int32) = 12 from rfl), lt2q]
/-- ONE -/
theorem rm_one (H : MK gM b ev (sp + 1) cp na mt el us w) (hb : b < 60000) (ho : opW gM b 9 x y z) : fX12_step w = some (pshM (si (si w 0 128 (Int32.ofNat (b + 1))) 0 130 (Int32.ofNat sp)) sp (if x = 281 then 1 - gl w 85 sp else ((-gl w 85 sp) <<< (Int32.toInt64 28 &&& 63)) >>> (Int32.toInt64 28 &&& 63))) := by
  have hsp := H.2.2.2.2.2.2.2.2.2.2.2.2.1
  rw [stM_eq H ho hb]
  have H1 := H.nx (b1 := b + 1) (by omega)
  generalize hy : si w 0 128 (Int32.ofNat (b + 1)) = y0 at H1 ⊢
  unfold stpB
  rw [if_neg (show ¬ ((9 : Int32) = 1) by decide), if_neg (show ¬ ((9 : Int32) = 2) by decide), if_neg (show ¬ ((9 : Int32) = 3) by decide), if_neg (show ¬ ((9 : Int32) = 4) by decide), if_neg (show ¬ ((9 : Int32) = 5) by decide), if_neg (show ¬ ((9 : Int32) = 6) by decide), if_neg (show ¬ ((9 : Int32) = 7) by decide), if_neg (show ¬ ((9 : Int32) = 8) by decide), if_pos (show (9 : Int32) = 9 from rfl)]
  have e : gl y0 85 sp = gl w 85 sp := by rw [← hy, gl_si]
  by_cases q : x = 281
  · rw [if_pos q, if_pos q, popM H1.2.2.2.2.1 (by omega), bn2_so, e, pushM (gi_si0 _ _ _ _) (by omega), bn_so]
  · rw [if_neg q, if_neg q, popM H1.2.2.2.2.1 (by omega), bn2_so, e, ltq, pushM (gi_si0 _ _ _ _) (by omega), bn_so]
    rfl

/-- PRINT -/
theorem rm_print (H : MK gM b ev (sp + 1) cp na mt el us w) (T : TLM al sc pr de fu w) (hb : b < 60000) (ho : opW gM b 13 x y z) (hp : pr ≤ 20000) : fX12_step w = some (si (if pr < 500 then sl (si (si w 0 128 (Int32.ofNat (b + 1))) 0 130 (Int32.ofNat sp)) 86 pr (gl w 85 sp) else si (si w 0 128 (Int32.ofNat (b + 1))) 0 130 (Int32.ofNat sp)) 0 139 (Int32.ofNat (pr + 1))) := by
  have hsp := H.2.2.2.2.2.2.2.2.2.2.2.2.1
  rw [stM_eq H ho hb]
  have H1 := H.nx (b1 := b + 1) (by omega)
  generalize hy : si w 0 128 (Int32.ofNat (b + 1)) = y0 at H1 ⊢
  unfold stpB fX12_other
  rw [if_neg (show ¬ ((13 : Int32) = 1) by decide), if_neg (show ¬ ((13 : Int32) = 2) by decide), if_neg (show ¬ ((13 : Int32) = 3) by decide), if_neg (show ¬ ((13 : Int32) = 4) by decide), if_neg (show ¬ ((13 : Int32) = 5) by decide), if_neg (show ¬ ((13 : Int32) = 6) by decide), if_neg (show ¬ ((13 : Int32) = 7) by decide), if_neg (show ¬ ((13 : Int32) = 8) by decide), if_neg (show ¬ ((13 : Int32) = 9) by decide), if_neg (show ¬ ((13 : Int32) = 10) by decide), if_neg (show ¬ ((13 : Int32) = 11) by decide), if_neg (show ¬ ((13 : Int32) = 12) by decide), if_pos (show (13 : Int32) = 13 from rfl), popM H1.2.2.2.2.1 (by omega), bn2_so]
  have e : gl y0 85 sp = gl w 85 sp := by rw [← hy, gl_si]
  have e9 : gi (si y0 0 130 (Int32.ofNat sp)) 0 139 = Int32.ofNat pr := by rw [← hy, gi_si1 (by omega), gi_si1 (by omega)]; exact T.2.2.1
  rw [e, e9]
  by_cases q : pr < 500
  · rw [if_neg (show ¬ ((500 : Int32) ≤ Int32.ofNat pr) from nle_iN (a := 500) (by omega) (by omega)), if_pos (inb_iN q (by omega)), tc_iN (by omega), ltq, if_pos q, gi_sl, e9, ad1_iN, ltq]
    rfl
  · rw [if_pos (show (500 : Int32) ≤ Int32.ofNat pr from (le_iN (a := 500) (by omega) (by omega)).mpr (by omega)), if_neg q, ltq, ad1_iN]
    rfl
theorem rm_call {s t : Nat} (H : MK gM b ev sp cp na mt el us w) (hb : b < 60000) (ho : opW gM b 14 (Int32.ofNat s) (Int32.ofNat t) z) : fX12_step w = fX12_call_ (Int32.ofNat s) (Int32.ofNat t) (si w 0 128 (Int32.ofNat (b + 1))) := by
  rw [stM_eq H ho hb]
  have H1 := H.nx (b1 := b + 1) (by omega)
  generalize hy : si w 0 128 (Int32.ofNat (b + 1)) = y0 at H1 ⊢
  unfold stpB fX12_other
  rw [if_neg (show ¬ ((14 : Int32) = 1) by decide), if_neg (show ¬ ((14 : Int32) = 2) by decide), if_neg (show ¬ ((14 : Int32) = 3) by decide), if_neg (show ¬ ((14 : Int32) = 4) by decide), if_neg (show ¬ ((14 : Int32) = 5) by decide), if_neg (show ¬ ((14 : Int32) = 6) by decide), if_neg (show ¬ ((14 : Int32) = 7) by decide), if_neg (show ¬ ((14 : Int32) = 8) by decide), if_neg (show ¬ ((14 : Int32) = 9) by decide), if_neg (show ¬ ((14 : Int32) = 10) by decide), if_neg (show ¬ ((14 : Int32) = 11) by decide), if_neg (show ¬ ((14 : Int32) = 12) by decide), if_neg (show ¬ ((14 : Int32) = 13) by decide), if_pos (show (14 : Int32) = 14 from rfl), bn_sm, bn_sm]
theorem rm_callf {s q : Nat} (H : MK gM b ev sp cp na mt el us w) (hb : b < 60000) (ho : opW gM b 15 x (Int32.ofNat s) z) (hs : SLT w ev x s q) : fX12_step w = fX12_callFormal (Int32.ofNat q) z (si w 0 128 (Int32.ofNat (b + 1))) := by
  have hs1 := hs.nx (i := Int32.ofNat (b + 1))
  rw [stM_eq H ho hb]
  have H1 := H.nx (b1 := b + 1) (by omega)
  generalize hy : si w 0 128 (Int32.ofNat (b + 1)) = y0 at H1 hs1 ⊢
  unfold stpB fX12_other
  rw [if_neg (show ¬ ((15 : Int32) = 1) by decide), if_neg (show ¬ ((15 : Int32) = 2) by decide), if_neg (show ¬ ((15 : Int32) = 3) by decide), if_neg (show ¬ ((15 : Int32) = 4) by decide), if_neg (show ¬ ((15 : Int32) = 5) by decide), if_neg (show ¬ ((15 : Int32) = 6) by decide), if_neg (show ¬ ((15 : Int32) = 7) by decide), if_neg (show ¬ ((15 : Int32) = 8) by decide), if_neg (show ¬ ((15 : Int32) = 9) by decide), if_neg (show ¬ ((15 : Int32) = 10) by decide), if_neg (show ¬ ((15 : Int32) = 11) by decide), if_neg (show ¬ ((15 : Int32) = 12) by decide), if_neg (show ¬ ((15 : Int32) = 13) by decide), if_neg (show ¬ ((15 : Int32) = 14) by decide), if_pos (show (15 : Int32) = 15 from rfl), hs1.ok H1, bn2_so, bn_sm, bn_sm]
theorem rm_ret (H : MK gM b ev sp cp na mt el us w) (hb : b < 60000) (ho : opW gM b 16 x y z) : fX12_step w = fX12_leave (si w 0 128 (Int32.ofNat (b + 1))) := by
  rw [stM_eq H ho hb]
  have H1 := H.nx (b1 := b + 1) (by omega)
  generalize hy : si w 0 128 (Int32.ofNat (b + 1)) = y0 at H1 ⊢
  unfold stpB fX12_other
  rw [if_neg (show ¬ ((16 : Int32) = 1) by decide), if_neg (show ¬ ((16 : Int32) = 2) by decide), if_neg (show ¬ ((16 : Int32) = 3) by decide), if_neg (show ¬ ((16 : Int32) = 4) by decide), if_neg (show ¬ ((16 : Int32) = 5) by decide), if_neg (show ¬ ((16 : Int32) = 6) by decide), if_neg (show ¬ ((16 : Int32) = 7) by decide), if_neg (show ¬ ((16 : Int32) = 8) by decide), if_neg (show ¬ ((16 : Int32) = 9) by decide), if_neg (show ¬ ((16 : Int32) = 10) by decide), if_neg (show ¬ ((16 : Int32) = 11) by decide), if_neg (show ¬ ((16 : Int32) = 12) by decide), if_neg (show ¬ ((16 : Int32) = 13) by decide), if_neg (show ¬ ((16 : Int32) = 14) by decide), if_neg (show ¬ ((16 : Int32) = 15) by decide), if_pos (show (16 : Int32) = 16 from rfl), bn_sm, bn_sm]
theorem rm_fin (H : MK gM b ev sp cp na mt el us w) (hb : b < 60000) (ho : opW gM b 17 x y z) : fX12_step w = fX12_finish (if x = 1 then true else false) (si w 0 128 (Int32.ofNat (b + 1))) := by
  rw [stM_eq H ho hb]
  have H1 := H.nx (b1 := b + 1) (by omega)
  generalize hy : si w 0 128 (Int32.ofNat (b + 1)) = y0 at H1 ⊢
  unfold stpB fX12_other
  rw [if_neg (show ¬ ((17 : Int32) = 1) by decide), if_neg (show ¬ ((17 : Int32) = 2) by decide), if_neg (show ¬ ((17 : Int32) = 3) by decide), if_neg (show ¬ ((17 : Int32) = 4) by decide), if_neg (show ¬ ((17 : Int32) = 5) by decide), if_neg (show ¬ ((17 : Int32) = 6) by decide), if_neg (show ¬ ((17 : Int32) = 7) by decide), if_neg (show ¬ ((17 : Int32) = 8) by decide), if_neg (show ¬ ((17 : Int32) = 9) by decide), if_neg (show ¬ ((17 : Int32) = 10) by decide), if_neg (show ¬ ((17 : Int32) = 11) by decide), if_neg (show ¬ ((17 : Int32) = 12) by decide), if_neg (show ¬ ((17 : Int32) = 13) by decide), if_neg (show ¬ ((17 : Int32) = 14) by decide), if_neg (show ¬ ((17 : Int32) = 15) by decide), if_neg (show ¬ ((17 : Int32) = 16) by decide), if_pos (show (17 : Int32) = 17 from rfl), bn_sm, bn_sm, bn_sm]
  by_cases q : x = 1
  · rw [if_pos q, if_pos q]
  · rw [if_neg q, if_neg q]
theorem rm_goto (H : MK gM b ev sp cp na mt el us w) (hb : b < 60000) (ho : opW gM b 19 x y z) : fX12_step w = fX12_jump (si w 0 128 (Int32.ofNat (b + 1))) := by
  rw [stM_eq H ho hb]
  have H1 := H.nx (b1 := b + 1) (by omega)
  generalize hy : si w 0 128 (Int32.ofNat (b + 1)) = y0 at H1 ⊢
  unfold stpB fX12_other
  rw [if_neg (show ¬ ((19 : Int32) = 1) by decide), if_neg (show ¬ ((19 : Int32) = 2) by decide), if_neg (show ¬ ((19 : Int32) = 3) by decide), if_neg (show ¬ ((19 : Int32) = 4) by decide), if_neg (show ¬ ((19 : Int32) = 5) by decide), if_neg (show ¬ ((19 : Int32) = 6) by decide), if_neg (show ¬ ((19 : Int32) = 7) by decide), if_neg (show ¬ ((19 : Int32) = 8) by decide), if_neg (show ¬ ((19 : Int32) = 9) by decide), if_neg (show ¬ ((19 : Int32) = 10) by decide), if_neg (show ¬ ((19 : Int32) = 11) by decide), if_neg (show ¬ ((19 : Int32) = 12) by decide), if_neg (show ¬ ((19 : Int32) = 13) by decide), if_neg (show ¬ ((19 : Int32) = 14) by decide), if_neg (show ¬ ((19 : Int32) = 15) by decide), if_neg (show ¬ ((19 : Int32) = 16) by decide), if_neg (show ¬ ((19 : Int32) = 17) by decide), if_neg (show ¬ ((19 : Int32) = 18) by decide), if_pos (show (19 : Int32) = 19 from rfl), bn_sm, bn_sm]
theorem rm_label {l n g : Nat} (H : MK gM b ev sp cp na mt el us w) (hb : b < 60000) (ho : opW gM b 20 (Int32.ofNat l) (Int32.ofNat n) z) (hl : l < 100000) (hn : n ≤ 100) (hg : ACH w n ev g) (hg6 : g < 64) : fX12_step w = some (pshM (pshM (si w 0 128 (Int32.ofNat (b + 1))) sp (Int64.ofNat l)) (sp + 1) (Int64.ofNat g)) := by
  have hsp := H.2.2.2.2.2.2.2.2.2.2.2.2.1
  rw [stM_eq H ho hb]
  have H1 := H.nx (b1 := b + 1) (by omega)
  generalize hy : si w 0 128 (Int32.ofNat (b + 1)) = y0 at H1 ⊢
  unfold stpB fX12_other
  rw [if_neg (show ¬ ((20 : Int32) = 1) by decide), if_neg (show ¬ ((20 : Int32) = 2) by decide), if_neg (show ¬ ((20 : Int32) = 3) by decide), if_neg (show ¬ ((20 : Int32) = 4) by decide), if_neg (show ¬ ((20 : Int32) = 5) by decide), if_neg (show ¬ ((20 : Int32) = 6) by decide), if_neg (show ¬ ((20 : Int32) = 7) by decide), if_neg (show ¬ ((20 : Int32) = 8) by decide), if_neg (show ¬ ((20 : Int32) = 9) by decide), if_neg (show ¬ ((20 : Int32) = 10) by decide), if_neg (show ¬ ((20 : Int32) = 11) by decide), if_neg (show ¬ ((20 : Int32) = 12) by decide), if_neg (show ¬ ((20 : Int32) = 13) by decide), if_neg (show ¬ ((20 : Int32) = 14) by decide), if_neg (show ¬ ((20 : Int32) = 15) by decide), if_neg (show ¬ ((20 : Int32) = 16) by decide), if_neg (show ¬ ((20 : Int32) = 17) by decide), if_neg (show ¬ ((20 : Int32) = 18) by decide), if_neg (show ¬ ((20 : Int32) = 19) by decide), if_pos (show (20 : Int32) = 20 from rfl), i64_iN (by omega), pushM H1.2.2.2.2.1 (by omega), bn_so]
  have hA : ACH (pshM y0 sp (Int64.ofNat l)) n ev g := by
    rw [← hy]
    exact hg.agr fun j _ => by
      rw [(pshM_off (w := si w 0 128 (Int32.ofNat (b + 1))) 88 j (by unfold PSO; omega)).1, gi_si1 (by omega)]
  have h9 : gi (pshM y0 sp (Int64.ofNat l)) 0 129 = Int32.ofNat ev := ((pshM_off (w := y0)) 0 129 (by unfold PSO; omega)).1.trans H1.2.2.2.1
  rw [eup_ok h9 hn hA, bn2_so, i64_iN (by omega), pushM (sp := sp + 1) (by unfold pshM; exact gi_si0 _ _ _ _) (by omega), bn_so, bn_so]
theorem rm_swi {n : Nat} (H : MK gM b ev sp cp na mt el us w) (hb : b < 60000) (ho : opW gM b 21 x y z) : fX12_step w = fX12_aimed x y (si w 0 128 (Int32.ofNat (b + 1))) := by
  rw [stM_eq H ho hb]
  have H1 := H.nx (b1 := b + 1) (by omega)
  generalize hy : si w 0 128 (Int32.ofNat (b + 1)) = y0 at H1 ⊢
  unfold stpB fX12_other
  rw [if_neg (show ¬ ((21 : Int32) = 1) by decide), if_neg (show ¬ ((21 : Int32) = 2) by decide), if_neg (show ¬ ((21 : Int32) = 3) by decide), if_neg (show ¬ ((21 : Int32) = 4) by decide), if_neg (show ¬ ((21 : Int32) = 5) by decide), if_neg (show ¬ ((21 : Int32) = 6) by decide), if_neg (show ¬ ((21 : Int32) = 7) by decide), if_neg (show ¬ ((21 : Int32) = 8) by decide), if_neg (show ¬ ((21 : Int32) = 9) by decide), if_neg (show ¬ ((21 : Int32) = 10) by decide), if_neg (show ¬ ((21 : Int32) = 11) by decide), if_neg (show ¬ ((21 : Int32) = 12) by decide), if_neg (show ¬ ((21 : Int32) = 13) by decide), if_neg (show ¬ ((21 : Int32) = 14) by decide), if_neg (show ¬ ((21 : Int32) = 15) by decide), if_neg (show ¬ ((21 : Int32) = 16) by decide), if_neg (show ¬ ((21 : Int32) = 17) by decide), if_neg (show ¬ ((21 : Int32) = 18) by decide), if_neg (show ¬ ((21 : Int32) = 19) by decide), if_neg (show ¬ ((21 : Int32) = 20) by decide), if_pos (show (21 : Int32) = 21 from rfl), bn_sm, bn_sm]
theorem rm_usel {s q : Nat} (H : MK gM b ev sp cp na mt el us w) (hb : b < 60000) (ho : opW gM b 22 x (Int32.ofNat s) z) (hs : SLT w ev x s q) : fX12_step w = fX12_use (Int32.ofNat q) 0 (si w 0 128 (Int32.ofNat (b + 1))) := by
  have hs1 := hs.nx (i := Int32.ofNat (b + 1))
  rw [stM_eq H ho hb]
  have H1 := H.nx (b1 := b + 1) (by omega)
  generalize hy : si w 0 128 (Int32.ofNat (b + 1)) = y0 at H1 hs1 ⊢
  unfold stpB fX12_other
  rw [if_neg (show ¬ ((22 : Int32) = 1) by decide), if_neg (show ¬ ((22 : Int32) = 2) by decide), if_neg (show ¬ ((22 : Int32) = 3) by decide), if_neg (show ¬ ((22 : Int32) = 4) by decide), if_neg (show ¬ ((22 : Int32) = 5) by decide), if_neg (show ¬ ((22 : Int32) = 6) by decide), if_neg (show ¬ ((22 : Int32) = 7) by decide), if_neg (show ¬ ((22 : Int32) = 8) by decide), if_neg (show ¬ ((22 : Int32) = 9) by decide), if_neg (show ¬ ((22 : Int32) = 10) by decide), if_neg (show ¬ ((22 : Int32) = 11) by decide), if_neg (show ¬ ((22 : Int32) = 12) by decide), if_neg (show ¬ ((22 : Int32) = 13) by decide), if_neg (show ¬ ((22 : Int32) = 14) by decide), if_neg (show ¬ ((22 : Int32) = 15) by decide), if_neg (show ¬ ((22 : Int32) = 16) by decide), if_neg (show ¬ ((22 : Int32) = 17) by decide), if_neg (show ¬ ((22 : Int32) = 18) by decide), if_neg (show ¬ ((22 : Int32) = 19) by decide), if_neg (show ¬ ((22 : Int32) = 20) by decide), if_neg (show ¬ ((22 : Int32) = 21) by decide), if_pos (show (22 : Int32) = 22 from rfl), hs1.ok H1, bn2_so, bn_sm, bn_sm]
theorem rm_drop {s : Nat} (H : MK gM b ev (sp + s) cp na mt el us w) (hb : b < 60000) (ho : opW gM b 25 (Int32.ofNat s) y z) : fX12_step w = some (si (si w 0 128 (Int32.ofNat (b + 1))) 0 130 (Int32.ofNat sp)) := by
  have hsp := H.2.2.2.2.2.2.2.2.2.2.2.2.1
  rw [stM_eq H ho hb]
  have H1 := H.nx (b1 := b + 1) (by omega)
  generalize hy : si w 0 128 (Int32.ofNat (b + 1)) = y0 at H1 ⊢
  unfold stpB fX12_other
  rw [if_neg (show ¬ ((25 : Int32) = 1) by decide), if_neg (show ¬ ((25 : Int32) = 2) by decide), if_neg (show ¬ ((25 : Int32) = 3) by decide), if_neg (show ¬ ((25 : Int32) = 4) by decide), if_neg (show ¬ ((25 : Int32) = 5) by decide), if_neg (show ¬ ((25 : Int32) = 6) by decide), if_neg (show ¬ ((25 : Int32) = 7) by decide), if_neg (show ¬ ((25 : Int32) = 8) by decide), if_neg (show ¬ ((25 : Int32) = 9) by decide), if_neg (show ¬ ((25 : Int32) = 10) by decide), if_neg (show ¬ ((25 : Int32) = 11) by decide), if_neg (show ¬ ((25 : Int32) = 12) by decide), if_neg (show ¬ ((25 : Int32) = 13) by decide), if_neg (show ¬ ((25 : Int32) = 14) by decide), if_neg (show ¬ ((25 : Int32) = 15) by decide), if_neg (show ¬ ((25 : Int32) = 16) by decide), if_neg (show ¬ ((25 : Int32) = 17) by decide), if_neg (show ¬ ((25 : Int32) = 18) by decide), if_neg (show ¬ ((25 : Int32) = 19) by decide), if_neg (show ¬ ((25 : Int32) = 20) by decide), if_neg (show ¬ ((25 : Int32) = 21) by decide), if_neg (show ¬ ((25 : Int32) = 22) by decide), if_neg (show ¬ ((25 : Int32) = 23) by decide), if_neg (show ¬ ((25 : Int32) = 24) by decide), if_pos (show (25 : Int32) = 25 from rfl), H1.2.2.2.2.1, sub_iN (by omega) (by omega), Nat.add_sub_cancel, ltq, bn_so]
/-- TOP, EXIT -/
theorem rm_top {k base q : Nat} (H : MK gM b ev sp cp na mt el us w) (hb : b < 60000) (ho : opW gM b 26 (Int32.ofNat k) y z) (hk : k < 9000) (h87 : gi w 87 ev = Int32.ofNat base) (h41 : gi gM 41 k = Int32.ofNat q) (hq : base + q + 1 < 200000) : fX12_step w = some (sl (si w 0 128 (Int32.ofNat (b + 1))) 83 (base + q + 1) (Int64.ofNat el)) := by
  have hel := H.2.2.2.2.2.2.2.2.2.2.2.2.2.2.2.2.1
  have hev := H.2.2.2.2.2.2.2.2.2.2.2.1
  rw [stM_eq H ho hb]
  have H1 := H.nx (b1 := b + 1) (by omega)
  generalize hy : si w 0 128 (Int32.ofNat (b + 1)) = y0 at H1 ⊢
  unfold stpB fX12_other
  rw [if_neg (show ¬ ((26 : Int32) = 1) by decide), if_neg (show ¬ ((26 : Int32) = 2) by decide), if_neg (show ¬ ((26 : Int32) = 3) by decide), if_neg (show ¬ ((26 : Int32) = 4) by decide), if_neg (show ¬ ((26 : Int32) = 5) by decide), if_neg (show ¬ ((26 : Int32) = 6) by decide), if_neg (show ¬ ((26 : Int32) = 7) by decide), if_neg (show ¬ ((26 : Int32) = 8) by decide), if_neg (show ¬ ((26 : Int32) = 9) by decide), if_neg (show ¬ ((26 : Int32) = 10) by decide), if_neg (show ¬ ((26 : Int32) = 11) by decide), if_neg (show ¬ ((26 : Int32) = 12) by decide), if_neg (show ¬ ((26 : Int32) = 13) by decide), if_neg (show ¬ ((26 : Int32) = 14) by decide), if_neg (show ¬ ((26 : Int32) = 15) by decide), if_neg (show ¬ ((26 : Int32) = 16) by decide), if_neg (show ¬ ((26 : Int32) = 17) by decide), if_neg (show ¬ ((26 : Int32) = 18) by decide), if_neg (show ¬ ((26 : Int32) = 19) by decide), if_neg (show ¬ ((26 : Int32) = 20) by decide), if_neg (show ¬ ((26 : Int32) = 21) by decide), if_neg (show ¬ ((26 : Int32) = 22) by decide), if_neg (show ¬ ((26 : Int32) = 23) by decide), if_neg (show ¬ ((26 : Int32) = 24) by decide), if_neg (show ¬ ((26 : Int32) = 25) by decide), if_pos (show (26 : Int32) = 26 from rfl)]
  have e7 : gi y0 87 ev = Int32.ofNat base := by rw [← hy, gi_si1 (by omega)]; exact h87
  have e8 : gi y0 80 k = Int32.ofNat q := (H1.1.2.2.2 k).2.2.2.2.2.2.2.2.2.2.1.trans h41
  rw [H1.2.2.2.1, if_pos (inb_iN hev (by omega)), if_pos (inb_iN hk (by omega)), tc_iN (by omega), tc_iN (by omega), e7, e8, add_iN, ad1_iN, if_pos (inb_iN hq (by omega)), tc_iN (by omega), H1.2.2.2.2.2.2.2.2.1, i64_iN (by omega), ltq, bn_so]
theorem rm_exit {k base q n : Nat} (H : MK gM b ev sp cp na mt el us w) (hb : b < 60000) (ho : opW gM b 27 (Int32.ofNat k) y z) (hk : k < 9000) (h87 : gi w 87 ev = Int32.ofNat base) (h41 : gi gM 41 k = Int32.ofNat q) (hq : base + q < 200000) (hv : gl w 83 (base + q) = Int64.ofNat n) : fX12_step w = some (si (si w 0 128 (Int32.ofNat (b + 1))) 0 133 (Int32.ofNat n)) := by
  have hev := H.2.2.2.2.2.2.2.2.2.2.2.1
  rw [stM_eq H ho hb]
  have H1 := H.nx (b1 := b + 1) (by omega)
  generalize hy : si w 0 128 (Int32.ofNat (b + 1)) = y0 at H1 ⊢
  unfold stpB fX12_other
  rw [if_neg (show ¬ ((27 : Int32) = 1) by decide), if_neg (show ¬ ((27 : Int32) = 2) by decide), if_neg (show ¬ ((27 : Int32) = 3) by decide), if_neg (show ¬ ((27 : Int32) = 4) by decide), if_neg (show ¬ ((27 : Int32) = 5) by decide), if_neg (show ¬ ((27 : Int32) = 6) by decide), if_neg (show ¬ ((27 : Int32) = 7) by decide), if_neg (show ¬ ((27 : Int32) = 8) by decide), if_neg (show ¬ ((27 : Int32) = 9) by decide), if_neg (show ¬ ((27 : Int32) = 10) by decide), if_neg (show ¬ ((27 : Int32) = 11) by decide), if_neg (show ¬ ((27 : Int32) = 12) by decide), if_neg (show ¬ ((27 : Int32) = 13) by decide), if_neg (show ¬ ((27 : Int32) = 14) by decide), if_neg (show ¬ ((27 : Int32) = 15) by decide), if_neg (show ¬ ((27 : Int32) = 16) by decide), if_neg (show ¬ ((27 : Int32) = 17) by decide), if_neg (show ¬ ((27 : Int32) = 18) by decide), if_neg (show ¬ ((27 : Int32) = 19) by decide), if_neg (show ¬ ((27 : Int32) = 20) by decide), if_neg (show ¬ ((27 : Int32) = 21) by decide), if_neg (show ¬ ((27 : Int32) = 22) by decide), if_neg (show ¬ ((27 : Int32) = 23) by decide), if_neg (show ¬ ((27 : Int32) = 24) by decide), if_neg (show ¬ ((27 : Int32) = 25) by decide), if_neg (show ¬ ((27 : Int32) = 26) by decide), if_pos (show (27 : Int32) = 27 from rfl)]
  have e7 : gi y0 87 ev = Int32.ofNat base := by rw [← hy, gi_si1 (by omega)]; exact h87
  have e8 : gi y0 80 k = Int32.ofNat q := (H1.1.2.2.2 k).2.2.2.2.2.2.2.2.2.2.1.trans h41
  have ev : gl y0 83 (base + q) = Int64.ofNat n := by rw [← hy, gl_si]; exact hv
  rw [H1.2.2.2.1, if_pos (inb_iN hev (by omega)), if_pos (inb_iN hk (by omega)), tc_iN (by omega), tc_iN (by omega), e7, e8, add_iN, if_pos (inb_iN hq (by omega)), tc_iN (by omega), ev, tl_iN, ltq, bn_so]
/-- BACK, GOING, GOSUB, RETQ -/
theorem rm_back {s base n : Nat} (H : MK gM b ev sp cp na mt el us w) (hb : b < 60000) (ho : opW gM b 29 (Int32.ofNat s) y z) (h87 : gi w 87 ev = Int32.ofNat base) (hq : base + s < 200000) (hv : gl w 83 (base + s) = Int64.ofNat n) : fX12_step w = some (si (si w 0 128 (Int32.ofNat (b + 1))) 0 128 (Int32.ofNat n)) := by
  have hev := H.2.2.2.2.2.2.2.2.2.2.2.1
  rw [stM_eq H ho hb]
  have H1 := H.nx (b1 := b + 1) (by omega)
  generalize hy : si w 0 128 (Int32.ofNat (b + 1)) = y0 at H1 ⊢
  unfold stpB fX12_other
  rw [if_neg (show ¬ ((29 : Int32) = 1) by decide), if_neg (show ¬ ((29 : Int32) = 2) by decide), if_neg (show ¬ ((29 : Int32) = 3) by decide), if_neg (show ¬ ((29 : Int32) = 4) by decide), if_neg (show ¬ ((29 : Int32) = 5) by decide), if_neg (show ¬ ((29 : Int32) = 6) by decide), if_neg (show ¬ ((29 : Int32) = 7) by decide), if_neg (show ¬ ((29 : Int32) = 8) by decide), if_neg (show ¬ ((29 : Int32) = 9) by decide), if_neg (show ¬ ((29 : Int32) = 10) by decide), if_neg (show ¬ ((29 : Int32) = 11) by decide), if_neg (show ¬ ((29 : Int32) = 12) by decide), if_neg (show ¬ ((29 : Int32) = 13) by decide), if_neg (show ¬ ((29 : Int32) = 14) by decide), if_neg (show ¬ ((29 : Int32) = 15) by decide), if_neg (show ¬ ((29 : Int32) = 16) by decide), if_neg (show ¬ ((29 : Int32) = 17) by decide), if_neg (show ¬ ((29 : Int32) = 18) by decide), if_neg (show ¬ ((29 : Int32) = 19) by decide), if_neg (show ¬ ((29 : Int32) = 20) by decide), if_neg (show ¬ ((29 : Int32) = 21) by decide), if_neg (show ¬ ((29 : Int32) = 22) by decide), if_neg (show ¬ ((29 : Int32) = 23) by decide), if_neg (show ¬ ((29 : Int32) = 24) by decide), if_neg (show ¬ ((29 : Int32) = 25) by decide), if_neg (show ¬ ((29 : Int32) = 26) by decide), if_neg (show ¬ ((29 : Int32) = 27) by decide), if_pos (show (29 : Int32) = 29 from rfl)]
  have e7 : gi y0 87 ev = Int32.ofNat base := by rw [← hy, gi_si1 (by omega)]; exact h87
  have ev : gl y0 83 (base + s) = Int64.ofNat n := by rw [← hy, gl_si]; exact hv
  rw [H1.2.2.2.1, if_pos (inb_iN hev (by omega)), tc_iN (by omega), e7, add_iN, if_pos (inb_iN hq (by omega)), tc_iN (by omega), ev, tl_iN, ltq, bn_so]
theorem rm_going {s base n : Nat} (H : MK gM b ev sp cp na mt el us w) (hb : b < 60000) (ho : opW gM b 30 (Int32.ofNat s) (Int32.ofNat n) z) (h87 : gi w 87 ev = Int32.ofNat base) (hq : base + s < 200000) (hn : n < 100000) : fX12_step w = some (sl (si w 0 128 (Int32.ofNat (b + 1))) 83 (base + s) (Int64.ofNat n)) := by
  have hev := H.2.2.2.2.2.2.2.2.2.2.2.1
  rw [stM_eq H ho hb]
  have H1 := H.nx (b1 := b + 1) (by omega)
  generalize hy : si w 0 128 (Int32.ofNat (b + 1)) = y0 at H1 ⊢
  unfold stpB fX12_other
  rw [if_neg (show ¬ ((30 : Int32) = 1) by decide), if_neg (show ¬ ((30 : Int32) = 2) by decide), if_neg (show ¬ ((30 : Int32) = 3) by decide), if_neg (show ¬ ((30 : Int32) = 4) by decide), if_neg (show ¬ ((30 : Int32) = 5) by decide), if_neg (show ¬ ((30 : Int32) = 6) by decide), if_neg (show ¬ ((30 : Int32) = 7) by decide), if_neg (show ¬ ((30 : Int32) = 8) by decide), if_neg (show ¬ ((30 : Int32) = 9) by decide), if_neg (show ¬ ((30 : Int32) = 10) by decide), if_neg (show ¬ ((30 : Int32) = 11) by decide), if_neg (show ¬ ((30 : Int32) = 12) by decide), if_neg (show ¬ ((30 : Int32) = 13) by decide), if_neg (show ¬ ((30 : Int32) = 14) by decide), if_neg (show ¬ ((30 : Int32) = 15) by decide), if_neg (show ¬ ((30 : Int32) = 16) by decide), if_neg (show ¬ ((30 : Int32) = 17) by decide), if_neg (show ¬ ((30 : Int32) = 18) by decide), if_neg (show ¬ ((30 : Int32) = 19) by decide), if_neg (show ¬ ((30 : Int32) = 20) by decide), if_neg (show ¬ ((30 : Int32) = 21) by decide), if_neg (show ¬ ((30 : Int32) = 22) by decide), if_neg (show ¬ ((30 : Int32) = 23) by decide), if_neg (show ¬ ((30 : Int32) = 24) by decide), if_neg (show ¬ ((30 : Int32) = 25) by decide), if_neg (show ¬ ((30 : Int32) = 26) by decide), if_neg (show ¬ ((30 : Int32) = 27) by decide), if_neg (show ¬ ((30 : Int32) = 29) by decide), if_pos (show (30 : Int32) = 30 from rfl)]
  have e7 : gi y0 87 ev = Int32.ofNat base := by rw [← hy, gi_si1 (by omega)]; exact h87
  rw [H1.2.2.2.1, if_pos (inb_iN hev (by omega)), tc_iN (by omega), e7, add_iN, if_pos (inb_iN hq (by omega)), tc_iN (by omega), i64_iN (by omega), ltq, bn_so]
theorem rm_gosub {n : Nat} (H : MK gM b ev sp cp na mt el us w) (hb : b < 60000) (ho : opW gM b 31 (Int32.ofNat n) y z) : fX12_step w = some (si (ctlW (si w 0 128 (Int32.ofNat (b + 1))) cp 2 (Int32.ofNat (b + 1)) (Int32.ofNat ev) 0 (-1) (Int32.ofNat us)) 0 128 (Int32.ofNat n)) := by
  have hc := H.2.2.2.2.2.2.2.2.2.2.2.2.2.1
  rw [stM_eq H ho hb]
  have H1 := H.nx (b1 := b + 1) (by omega)
  generalize hy : si w 0 128 (Int32.ofNat (b + 1)) = y0 at H1 ⊢
  unfold stpB fX12_other
  rw [if_neg (show ¬ ((31 : Int32) = 1) by decide), if_neg (show ¬ ((31 : Int32) = 2) by decide), if_neg (show ¬ ((31 : Int32) = 3) by decide), if_neg (show ¬ ((31 : Int32) = 4) by decide), if_neg (show ¬ ((31 : Int32) = 5) by decide), if_neg (show ¬ ((31 : Int32) = 6) by decide), if_neg (show ¬ ((31 : Int32) = 7) by decide), if_neg (show ¬ ((31 : Int32) = 8) by decide), if_neg (show ¬ ((31 : Int32) = 9) by decide), if_neg (show ¬ ((31 : Int32) = 10) by decide), if_neg (show ¬ ((31 : Int32) = 11) by decide), if_neg (show ¬ ((31 : Int32) = 12) by decide), if_neg (show ¬ ((31 : Int32) = 13) by decide), if_neg (show ¬ ((31 : Int32) = 14) by decide), if_neg (show ¬ ((31 : Int32) = 15) by decide), if_neg (show ¬ ((31 : Int32) = 16) by decide), if_neg (show ¬ ((31 : Int32) = 17) by decide), if_neg (show ¬ ((31 : Int32) = 18) by decide), if_neg (show ¬ ((31 : Int32) = 19) by decide), if_neg (show ¬ ((31 : Int32) = 20) by decide), if_neg (show ¬ ((31 : Int32) = 21) by decide), if_neg (show ¬ ((31 : Int32) = 22) by decide), if_neg (show ¬ ((31 : Int32) = 23) by decide), if_neg (show ¬ ((31 : Int32) = 24) by decide), if_neg (show ¬ ((31 : Int32) = 25) by decide), if_neg (show ¬ ((31 : Int32) = 26) by decide), if_neg (show ¬ ((31 : Int32) = 27) by decide), if_neg (show ¬ ((31 : Int32) = 29) by decide), if_neg (show ¬ ((31 : Int32) = 30) by decide), if_pos (show (31 : Int32) = 31 from rfl), ctl_ok H1.2.2.2.2.2.1 (by omega), bn_so, ltq, H1.2.2.1, H1.2.2.2.1, H1.2.2.2.2.2.2.2.2.2.1, bn_so]
theorem rm_retq (H : MK gM b ev sp cp na mt el us w) (hb : b < 60000) (ho : opW gM b 32 x y z) : fX12_step w = fX12_finish false (si w 0 128 (Int32.ofNat (b + 1))) := by
  rw [stM_eq H ho hb]
  have H1 := H.nx (b1 := b + 1) (by omega)
  generalize hy : si w 0 128 (Int32.ofNat (b + 1)) = y0 at H1 ⊢
  unfold stpB fX12_other
  rw [if_neg (show ¬ ((32 : Int32) = 1) by decide), if_neg (show ¬ ((32 : Int32) = 2) by decide), if_neg (show ¬ ((32 : Int32) = 3) by decide), if_neg (show ¬ ((32 : Int32) = 4) by decide), if_neg (show ¬ ((32 : Int32) = 5) by decide), if_neg (show ¬ ((32 : Int32) = 6) by decide), if_neg (show ¬ ((32 : Int32) = 7) by decide), if_neg (show ¬ ((32 : Int32) = 8) by decide), if_neg (show ¬ ((32 : Int32) = 9) by decide), if_neg (show ¬ ((32 : Int32) = 10) by decide), if_neg (show ¬ ((32 : Int32) = 11) by decide), if_neg (show ¬ ((32 : Int32) = 12) by decide), if_neg (show ¬ ((32 : Int32) = 13) by decide), if_neg (show ¬ ((32 : Int32) = 14) by decide), if_neg (show ¬ ((32 : Int32) = 15) by decide), if_neg (show ¬ ((32 : Int32) = 16) by decide), if_neg (show ¬ ((32 : Int32) = 17) by decide), if_neg (show ¬ ((32 : Int32) = 18) by decide), if_neg (show ¬ ((32 : Int32) = 19) by decide), if_neg (show ¬ ((32 : Int32) = 20) by decide), if_neg (show ¬ ((32 : Int32) = 21) by decide), if_neg (show ¬ ((32 : Int32) = 22) by decide), if_neg (show ¬ ((32 : Int32) = 23) by decide), if_neg (show ¬ ((32 : Int32) = 24) by decide), if_neg (show ¬ ((32 : Int32) = 25) by decide), if_neg (show ¬ ((32 : Int32) = 26) by decide), if_neg (show ¬ ((32 : Int32) = 27) by decide), if_neg (show ¬ ((32 : Int32) = 29) by decide), if_neg (show ¬ ((32 : Int32) = 30) by decide), if_neg (show ¬ ((32 : Int32) = 31) by decide), if_pos (show (32 : Int32) = 32 from rfl), bn_sm, bn_sm]
end N1
