/-! THE REFERENCE'S MACHINE (1) -/
section N0
/-- what a step does, by the code's words -/
def stpB (x10 x4 x6 x8 : Int32) (w2 : Wd) : Option Wd := if x10 = 1 then (if 0 ≤ x4 then (if inb x4 8194 = true then bn (fX12_push (gl w2 69 (Int32.toNatClampNeg x4)) w2) fun w14 => some w14 else none) else (bn (fX12_push (Int32.toInt64 x6) w2) fun w15 => some w15)) else if x10 = 2 then (bn2 (fX12_address x4 x6 w2) fun x17 w18 => if inb x17 200000 = true then bn (fX12_push (gl w18 83 (Int32.toNatClampNeg x17)) w18) fun w20 => some w20 else none) else if x10 = 3 then (bn2 (fX12_address x4 x6 w2) fun x22 w23 => bn (fX12_push (Int32.toInt64 x22) w23) fun w24 => some w24) else if x10 = 4 then (bn2 (fX12_address x4 x6 w2) fun x26 w27 => if x8 = 2 then (if inb ((gi w27 0 127) - 1) 1000 = true then bn (fX12_use x26 (gi w27 95 (Int32.toNatClampNeg ((gi w27 0 127) - 1))) w27) fun w30 => some w30 else none) else (bn (fX12_use x26 x8 w27) fun w31 => some w31)) else if x10 = 5 then (if 0 ≤ x6 then (bn2 (fX12_address x4 x6 w2) fun x34 w35 => bn (fX12_element_ x34 x8 w35) fun w36 => some w36) else (bn2 (fX12_address x4 ((-1) - x6) w2) fun x37 w38 => if inb x37 200000 = true then bn (fX12_element_ (Int64.toInt32 (gl w38 83 (Int32.toNatClampNeg x37))) x8 w38) fun w40 => some w40 else none)) else if x10 = 6 then (bn2 (fX12_pop w2) fun x42 w43 => bn2 (fX12_read_ x42 w43) fun x44 w45 => bn (fX12_push x44 w45) fun w46 => some w46) else if x10 = 7 then (bn2 (fX12_pop w2) fun x48 w49 => oX12_step_261 FU x4 x48 0 w49) else if x10 = 8 then (bn (fX12_reckon x4 w2) fun w51 => some w51) else if x10 = 9 then (if x4 = 281 then (bn2 (fX12_pop w2) fun x54 w55 => bn (fX12_push (1 - x54) w55) fun w56 => some w56) else (bn2 (fX12_pop w2) fun x57 w58 => lt (fX12_wrap (-x57) w58) fun x59 => bn (fX12_push x59 w58) fun w60 => some w60)) else if x10 = 10 then (lt (si w2 0 128 x4) fun w62 => some w62) else if x10 = 11 then (bn2 (fX12_pop w2) fun x64 w65 => if x64 = 0 then (lt (si w65 0 128 x4) fun w67 => some w67) else (some w65)) else if x10 = 12 then (lt2 (fX12_pay w2) fun x69 w70 => some w70) else (bn (fX12_other x10 x4 x6 x8 w2) fun w72 => some w72)
/-- the tables of the RUN are those that were made -/
def RTB (gM w : Wd) : Prop := (∀ j, gi w 60 j = gi gM 46 j) ∧ (∀ k j, 61 ≤ k → k ≤ 68 → gi w k j = gi gM (k - 14) j) ∧ (∀ j, gl w 69 j = gl gM 4 j) ∧ (∀ j, gi w 70 j = gi gM 36 j ∧ gi w 71 j = gi gM 35 j ∧ gi w 72 j = gi gM 32 j ∧ gi w 73 j = gi gM 31 j ∧ gi w 74 j = gi gM 26 j ∧ gi w 75 j = gi gM 55 j ∧ gi w 76 j = gi gM 76 j ∧ gi w 77 j = gi gM 56 j ∧ gi w 78 j = gi gM 57 j ∧ gi w 79 j = gi gM 58 j ∧ gi w 80 j = gi gM 41 j ∧ gi w 81 j = gi gM 81 j ∧ gi w 82 j = gi gM 82 j)
/-- the reference's machine goes: code, activation, pile, controls, activations, memory, ELEMENTS, uses -/
def MK (gM : Wd) (b ev sp cp na mt el us : Nat) (w : Wd) : Prop :=
  RTB gM w ∧ gi w 0 140 = 0 ∧ gi w 0 128 = Int32.ofNat b ∧ gi w 0 129 = Int32.ofNat ev ∧ gi w 0 130 = Int32.ofNat sp ∧ gi w 0 127 = Int32.ofNat cp ∧ gi w 0 131 = Int32.ofNat na ∧ gi w 0 132 = Int32.ofNat mt ∧ gi w 0 133 = Int32.ofNat el ∧ gi w 0 134 = Int32.ofNat us ∧ b ≤ 60000 ∧ ev < 64 ∧ sp ≤ 100000 ∧ cp ≤ 900 ∧ na ≤ 64 ∧ mt ≤ 199000 ∧ el ≤ 2000 ∧ us ≤ 60
/-- STEPS and the rest that is counted -/
def TLM (al sc pr de fu : Nat) (w : Wd) : Prop := gi w 0 138 = Int32.ofNat al ∧ gi w 0 137 = Int32.ofNat sc ∧ gi w 0 139 = Int32.ofNat pr ∧ gi w 0 135 = Int32.ofNat de ∧ gi w 0 136 = Int32.ofNat fu
/-- the pile from sp on, and what's next -/
def PSO (sp k j : Nat) : Prop := (k = 0 ∧ (j = 128 ∨ j = 130)) ∨ (k = 85 ∧ sp ≤ j)
variable {gM : Wd} {b ev sp cp na mt el us b1 ev1 sp1 cp1 na1 mt1 el1 us1 al sc pr de fu : Nat} {w u v : Wd} {a x y z : Int32}
theorem RTB.off {Q : Nat → Nat → Prop} (H : RTB gM w) (hO : OFF Q u w) (hQ : ∀ k j, Q k j → ¬ (60 ≤ k ∧ k ≤ 82)) : RTB gM u := by
  obtain ⟨h1, h2, h3, h4⟩ := H
  have e : ∀ k j, 60 ≤ k → k ≤ 82 → gi u k j = gi w k j ∧ gl u k j = gl w k j := fun k j p q => hO k j (fun g => hQ _ _ g ⟨p, q⟩)
  refine ⟨fun j => (e 60 j (by omega) (by omega)).1.trans (h1 j), fun k j p q => (e k j (by omega) (by omega)).1.trans (h2 k j p q), fun j => (e 69 j (by omega) (by omega)).2.trans (h3 j), fun j => ?_⟩
  rw [(e 70 j (by omega) (by omega)).1, (e 71 j (by omega) (by omega)).1, (e 72 j (by omega) (by omega)).1, (e 73 j (by omega) (by omega)).1, (e 74 j (by omega) (by omega)).1, (e 75 j (by omega) (by omega)).1, (e 76 j (by omega) (by omega)).1, (e 77 j (by omega) (by omega)).1, (e 78 j (by omega) (by omega)).1, (e 79 j (by omega) (by omega)).1, (e 80 j (by omega) (by omega)).1, (e 81 j (by omega) (by omega)).1, (e 82 j (by omega) (by omega)).1]
  exact h4 j
theorem MK.nw (H : MK gM b ev sp cp na mt el us w) (hO : OFF (fun k j => (k = 0 ∧ 127 ≤ j ∧ j ≤ 139) ∨ 83 ≤ k) u w) (h128 : gi u 0 128 = Int32.ofNat b1) (h129 : gi u 0 129 = Int32.ofNat ev1) (h130 : gi u 0 130 = Int32.ofNat sp1) (h127 : gi u 0 127 = Int32.ofNat cp1) (h131 : gi u 0 131 = Int32.ofNat na1) (h132 : gi u 0 132 = Int32.ofNat mt1) (h133 : gi u 0 133 = Int32.ofNat el1) (h134 : gi u 0 134 = Int32.ofNat us1) (hb : b1 ≤ 60000 ∧ ev1 < 64 ∧ sp1 ≤ 100000 ∧ cp1 ≤ 900 ∧ na1 ≤ 64 ∧ mt1 ≤ 199000 ∧ el1 ≤ 2000 ∧ us1 ≤ 60) : MK gM b1 ev1 sp1 cp1 na1 mt1 el1 us1 u :=
  ⟨H.1.off hO (fun k j p => by omega), (hO 0 140 (by omega)).1.trans H.2.1, h128, h129, h130, h127, h131, h132, h133, h134, hb⟩
theorem MK.ps (H : MK gM b ev sp cp na mt el us w) {s0 : Nat} (hO : OFF (PSO s0) u w) (h128 : gi u 0 128 = Int32.ofNat b1) (h130 : gi u 0 130 = Int32.ofNat sp1) (hb : b1 ≤ 60000) (hs : sp1 ≤ 100000) : MK gM b1 ev sp1 cp na mt el us u := by
  have e : ∀ j, j ≠ 128 → j ≠ 130 → gi u 0 j = gi w 0 j := fun j p q => (hO 0 j (by unfold PSO; omega)).1
  obtain ⟨h1, h2, h3, h4, h5, h6, h7, h8, h9, h10, c1, c2, c3, c4⟩ := H
  exact MK.nw ⟨h1, h2, h3, h4, h5, h6, h7, h8, h9, h10, c1, c2, c3, c4⟩ (hO.mono fun k j p => by unfold PSO at p; omega) h128 ((e 129 (by omega) (by omega)).trans h4) h130 ((e 127 (by omega) (by omega)).trans h6) ((e 131 (by omega) (by omega)).trans h7) ((e 132 (by omega) (by omega)).trans h8) ((e 133 (by omega) (by omega)).trans h9) ((e 134 (by omega) (by omega)).trans h10) ⟨hb, c2, hs, c4⟩
theorem TLM.off {Q : Nat → Nat → Prop} (H : TLM al sc pr de fu w) (hO : OFF Q u w) (hQ : ∀ k j, Q k j → ¬ (k = 0 ∧ 135 ≤ j ∧ j ≤ 139)) : TLM al sc pr de fu u := by
  obtain ⟨t1, t2, t3, t4, t5⟩ := H
  have e : ∀ j, 135 ≤ j → j ≤ 139 → gi u 0 j = gi w 0 j := fun j p q => (hO 0 j (fun g => hQ _ _ g ⟨rfl, p, q⟩)).1
  exact ⟨(e 138 (by omega) (by omega)).trans t1, (e 137 (by omega) (by omega)).trans t2, (e 139 (by omega) (by omega)).trans t3, (e 135 (by omega) (by omega)).trans t4, (e 136 (by omega) (by omega)).trans t5⟩
theorem MK.nx (H : MK gM b ev sp cp na mt el us w) (hb : b1 ≤ 60000) : MK gM b1 ev sp cp na mt el us (si w 0 128 (Int32.ofNat b1)) :=
  H.ps (s0 := 0) (OFF.si (Or.inl ⟨rfl, Or.inl rfl⟩)) (gi_si0 _ _ _ _) (by rw [gi_si1 (by omega)]; exact H.2.2.2.2.1) hb H.2.2.2.2.2.2.2.2.2.2.2.2.1
theorem TLM.nx (T : TLM al sc pr de fu w) {q : Int32} : TLM al sc pr de fu (si w 0 128 q) := T.off (OFF.si (P := fun k j => k = 0 ∧ j = 128) ⟨rfl, rfl⟩) (fun k j p => by omega)
/-- a step, out of the code -/
theorem stM_eq (H : MK gM b ev sp cp na mt el us w) (ho : opW gM b a x y z) (hb : b < 60000) : fX12_step w = stpB a x y z (si w 0 128 (Int32.ofNat (b + 1))) := by
  obtain ⟨o1, o2, o3, o4⟩ := ho
  have hr := H.1.1
  unfold fX12_step
  rw [H.2.2.1, four_op, ltq, ad1_iN, ltq, show Int32.ofNat (4 * b) + 1 = Int32.ofNat (4 * b + 1) from add_iN _ 1, show Int32.ofNat (4 * b) + 2 = Int32.ofNat (4 * b + 2) from add_iN _ 2, show Int32.ofNat (4 * b) + 3 = Int32.ofNat (4 * b + 3) from add_iN _ 3, if_pos (inb_iN (by omega) (by omega)), tc_iN (by omega), ltq, if_pos (inb_iN (by omega) (by omega)), tc_iN (by omega), ltq, if_pos (inb_iN (by omega) (by omega)), tc_iN (by omega), ltq, if_pos (inb_iN (by omega) (by omega)), tc_iN (by omega), ltq]
  have e : ∀ j, gi (si w 0 128 (Int32.ofNat (b + 1))) 60 j = gi gM 46 j := fun j => by rw [gi_si1 (by omega)]; exact hr j
  rw [e, e, e, e, o1, o2, o3, o4, if_pos (inb_iN (by omega) (by omega))]
  rfl
/-- not the end -/
theorem stM_go (H : MK gM b ev sp cp na mt el us w) (ho : opW gM b a x y z) (hb : b < 60000) (ha : a ≠ 0) : inb (4 * (gi w 0 128)) 240000 = true ∧ gi w 60 (Int32.toNatClampNeg (4 * (gi w 0 128))) ≠ 0 := by
  rw [H.2.2.1, four_op, tc_iN (by omega), H.1.1, ho.1]
  exact ⟨inb_iN (by omega) (by omega), ha⟩
/-- push, pop -/
def pshM (w : Wd) (sp : Nat) (v : Int64) : Wd := si (sl w 85 sp v) 0 130 (Int32.ofNat (sp + 1))
theorem pshM_off {v : Int64} : OFF (PSO sp) (pshM w sp v) w := OFF.tr (OFF.si (Or.inl ⟨rfl, Or.inr rfl⟩)) (OFF.sl (Or.inr ⟨rfl, Nat.le_refl _⟩))
theorem pshM_v {v : Int64} : gl (pshM w sp v) 85 sp = v := by
  unfold pshM
  rw [gl_si, gl_sl0]
theorem pshM_o {v : Int64} {j : Nat} (hj : j ≠ sp) : gl (pshM w sp v) 85 j = gl w 85 j := by
  unfold pshM
  rw [gl_si, gl_sl1 (by omega)]
theorem pshM_mk (H : MK gM b ev sp cp na mt el us w) {v : Int64} (hs : sp < 100000) : MK gM b ev (sp + 1) cp na mt el us (pshM w sp v) :=
  H.ps pshM_off (by unfold pshM; rw [gi_si1 (by omega), gi_sl]; exact H.2.2.1) (gi_si0 _ _ _ _) H.2.2.2.2.2.2.2.2.2.2.1 (by omega)
theorem pushM (h : gi w 0 130 = Int32.ofNat sp) (hs : sp < 200000) {v : Int64} : fX12_push v w = some (pshM w sp v) := by
  unfold fX12_push
  rw [h, if_pos (inb_iN hs (by omega)), tc_iN (by omega), ltq, gi_sl, h, ad1_iN, ltq]
  rfl
theorem popM (h : gi w 0 130 = Int32.ofNat (sp + 1)) (hs : sp < 200000) : fX12_pop w = some (gl w 85 sp, si w 0 130 (Int32.ofNat sp)) := by
  unfold fX12_pop
  rw [h, sb1_iN (by omega) (by omega), Nat.add_sub_cancel, ltq, gi_si0, if_pos (inb_iN hs (by omega)), tc_iN (by omega), gl_si]
/-- paying -/
theorem payM1 (T : TLM al sc pr de fu w) (hs : sc < al) (ha : al ≤ 20000) : fX12_pay w = (true, si w 0 137 (Int32.ofNat (sc + 1))) := by
  obtain ⟨t1, t2, t3⟩ := T
  unfold fX12_pay
  rw [t1, t2, if_neg (of_ne (by omega) (by omega) (by omega)), ad1_iN, ltq]
theorem payM0 (T : TLM al sc pr de fu w) (hs : sc = al) : fX12_pay w = (false, si w 0 140 100) := by
  obtain ⟨t1, t2, t3⟩ := T
  unfold fX12_pay
  rw [t1, t2, if_pos (by rw [hs]), ltq]
theorem TLM.pay (T : TLM al sc pr de fu w) : TLM al (sc + 1) pr de fu (si w 0 137 (Int32.ofNat (sc + 1))) := by
  obtain ⟨t1, t2, t3, t4, t5⟩ := T
  exact ⟨by rw [gi_si1 (by omega)]; exact t1, gi_si0 _ _ _ _, by rw [gi_si1 (by omega)]; exact t3, by rw [gi_si1 (by omega)]; exact t4, by rw [gi_si1 (by omega)]; exact t5⟩
theorem deeM1 (h : gi w 0 134 = Int32.ofNat us) (hu : us < 60) : fX12_deeper w = (true, w) := by
  unfold fX12_deeper
  rw [h, if_neg (show ¬ (Int32.ofNat us = 60) from of_ne (k := 60) (by omega) (by omega) (by omega))]
theorem deeM6 (h : gi w 0 134 = Int32.ofNat 60) (h0 : gi w 0 140 = 0) : fX12_deeper w = (false, si w 0 140 6) := by
  unfold fX12_deeper fX12_fail
  rw [h, if_pos (show Int32.ofNat 60 = 60 from rfl), h0, if_pos rfl, ltq, ltq]
/-- a control more -/
def ctlW (w : Wd) (cp : Nat) (kind : Int32) (bb ev : Int32) (md : Int32) (sto : Int32) (us : Int32) : Wd := si (si (si (si (si (si (si w 92 cp kind) 93 cp bb) 94 cp ev) 95 cp md) 97 cp sto) 96 cp us) 0 127 (Int32.ofNat (cp + 1))
theorem ctl_ok {kd_ md sto : Int32} (h : gi w 0 127 = Int32.ofNat cp) (hc : cp < 1000) : fX12_control kd_ md sto w = some (ctlW w cp kd_ (gi w 0 128) (gi w 0 129) md sto (gi w 0 134)) := by
  unfold fX12_control
  have e : ∀ (k : Nat) (x : Int32) (w : Wd), k ≠ 0 → gi (si w k cp x) 0 127 = gi w 0 127 := fun k x w hk => gi_si1 (by omega)
  rw [h, if_pos (inb_iN hc (by omega)), tc_iN (by omega), ltq, gi_si1 (by omega), h, if_pos (inb_iN hc (by omega)), tc_iN (by omega), gi_si1 (by omega), ltq, gi_si1 (by omega), gi_si1 (by omega), h, if_pos (inb_iN hc (by omega)), tc_iN (by omega), gi_si1 (by omega), gi_si1 (by omega), ltq, gi_si1 (by omega), gi_si1 (by omega), gi_si1 (by omega), h, if_pos (inb_iN hc (by omega)), tc_iN (by omega), ltq, gi_si1 (by omega), gi_si1 (by omega), gi_si1 (by omega), gi_si1 (by omega), h, if_pos (inb_iN hc (by omega)), tc_iN (by omega), ltq, gi_si1 (by omega), gi_si1 (by omega), gi_si1 (by omega), gi_si1 (by omega), gi_si1 (by omega), h, if_pos (inb_iN hc (by omega)), tc_iN (by omega), gi_si1 (by omega), gi_si1 (by omega), gi_si1 (by omega), gi_si1 (by omega), gi_si1 (by omega), ltq, gi_si1 (by omega), gi_si1 (by omega), gi_si1 (by omega), gi_si1 (by omega), gi_si1 (by omega), gi_si1 (by omega), h, ad1_iN, ltq]
  rfl
theorem ctlW_off {kd_ bb ev md sto us : Int32} : OFF (fun k j => (k = 0 ∧ j = 127) ∨ (92 ≤ k ∧ k ≤ 97 ∧ j = cp)) (ctlW w cp kd_ bb ev md sto us) w := OFF.tr (OFF.si (by omega)) (OFF.tr (OFF.si (by omega)) (OFF.tr (OFF.si (by omega)) (OFF.tr (OFF.si (by omega)) (OFF.tr (OFF.si (by omega)) (OFF.tr (OFF.si (by omega)) (OFF.si (by omega)))))))
theorem ctlW_v {kd_ bb ev md sto us : Int32} : gi (ctlW w cp kd_ bb ev md sto us) 93 cp = bb ∧ gi (ctlW w cp kd_ bb ev md sto us) 94 cp = ev ∧ gi (ctlW w cp kd_ bb ev md sto us) 95 cp = md ∧ gi (ctlW w cp kd_ bb ev md sto us) 97 cp = sto ∧ gi (ctlW w cp kd_ bb ev md sto us) 96 cp = us ∧ gi (ctlW w cp kd_ bb ev md sto us) 0 127 = Int32.ofNat (cp + 1) := by
  unfold ctlW
  refine ⟨?_, ?_, ?_, ?_, ?_, gi_si0 _ _ _ _⟩
  · rw [gi_si1 (by omega), gi_si1 (by omega), gi_si1 (by omega), gi_si1 (by omega), gi_si1 (by omega), gi_si0]
  · rw [gi_si1 (by omega), gi_si1 (by omega), gi_si1 (by omega), gi_si1 (by omega), gi_si0]
  · rw [gi_si1 (by omega), gi_si1 (by omega), gi_si1 (by omega), gi_si0]
  · rw [gi_si1 (by omega), gi_si1 (by omega), gi_si0]
  · rw [gi_si1 (by omega), gi_si0]
/-- activations further out -/
def ACH (w : Wd) : Nat → Nat → Nat → Prop
  | 0, f, g => g = f
  | n + 1, f, g => f < 64 ∧ ∃ f1, gi w 88 f = Int32.ofNat f1 ∧ ACH w n f1 g
theorem ACH.agr : ∀ {n f g : Nat}, ACH w n f g → (∀ x, x < 64 → gi u 88 x = gi w 88 x) → ACH u n f g := by
  intro n
  induction n with
  | zero => exact fun h _ => h
  | succ n ih =>
    intro f g h hA
    obtain ⟨h1, f1, h2, h3⟩ := h
    exact ⟨h1, f1, (hA f h1).trans h2, ih h3 hA⟩
theorem eup_lp : ∀ (n i f g fo : Nat), ACH w n f g → i + n ≤ 100 → oX12_envUp_7 (fo + n + 1) (Int32.ofNat (i + n)) (Int32.ofNat f) (Int32.ofNat i) w = some (Int32.ofNat g, w) := by
  intro n
  induction n with
  | zero =>
    intro i f g fo h hi
    have h : g = f := h
    subst h
    show fX12_envUp_7 _ (Int32.ofNat (i + 0)) _ _ _ = _
    unfold fX12_envUp_7
    rw [if_pos ((le_iN (by omega) (by omega)).mpr (by omega))]
  | succ n ih =>
    intro i f g fo h hi
    obtain ⟨h1, f1, h2, h3⟩ := h
    show fX12_envUp_7 (oX12_envUp_7 (fo + n + 1)) _ _ _ _ = _
    unfold fX12_envUp_7
    rw [if_neg (nle_iN (by omega) (by omega)), if_pos (inb_iN h1 (by omega)), tc_iN (by omega), h2, ltq, ad1_iN, ltq, show i + (n + 1) = i + 1 + n by omega]
    exact ih (i + 1) f1 g fo h3 (by omega)
theorem eup_ok {n g : Nat} (h : gi w 0 129 = Int32.ofNat ev) (hn : n ≤ 100) (hF : ACH w n ev g) : fX12_envUp (Int32.ofNat n) w = some (Int32.ofNat g, w) := by
  unfold fX12_envUp
  rw [h, ltq]
  obtain ⟨fo, hf⟩ := FU_ge (k := n + 1) (by omega)
  rw [hf, ← Nat.add_assoc]
  have := eup_lp n 0 ev g fo hF (by omega)
  rw [Nat.zero_add] at this
  exact this
/-- a slot of an activation n further out; or an own VARIABLE -/
theorem adr_ok {n g s base : Nat} (h : gi w 0 129 = Int32.ofNat ev) (hn : n ≤ 100) (hF : ACH w n ev g) (hg : g < 64) (hb : gi w 87 g = Int32.ofNat base) : fX12_address (Int32.ofNat n) (Int32.ofNat s) w = some (Int32.ofNat (base + s), w) := by
  unfold fX12_address
  rw [if_pos (zl_iN (by omega)), eup_ok h hn hF, bn2_so, if_pos (inb_iN hg (by omega)), tc_iN (by omega), hb, add_iN]
theorem adr_own {s : Nat} : fX12_address (-1) (Int32.ofNat s) w = some (Int32.ofNat s, w) := by
  unfold fX12_address
  rw [if_neg (by decide)]
end N0
