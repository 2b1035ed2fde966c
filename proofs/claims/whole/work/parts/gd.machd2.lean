/-! THE REFERENCE'S MACHINE (4): ends of uses, calls, returns -/
section N3
variable {gM : Wd} {b ev sp cp na mt el us b1 ev1 sp1 cp1 na1 mt1 el1 us1 al sc pr de fu : Nat} {w u v : Wd} {a x y z : Int32}
/-- what the end of a use changes -/
def PFM2 (k j : Nat) : Prop := k = 0 ∧ (j = 127 ∨ j = 128 ∨ j = 129 ∨ j = 134)
theorem cpW_mk (H : MK gM b ev sp (cp + 1) na mt el us w) : MK gM b ev sp cp na mt el us (si w 0 127 (Int32.ofNat cp)) := by
  obtain ⟨h1, h2, h3, h4, h5, h6, h7, h8, h9, h10, c1, c2, c3, c4, c5⟩ := H
  exact MK.nw ⟨h1, h2, h3, h4, h5, h6, h7, h8, h9, h10, c1, c2, c3, c4, c5⟩ (OFF.si (by omega)) (by rw [gi_si1 (by omega)]; exact h3) (by rw [gi_si1 (by omega)]; exact h4) (by rw [gi_si1 (by omega)]; exact h5) (gi_si0 _ _ _ _) (by rw [gi_si1 (by omega)]; exact h7) (by rw [gi_si1 (by omega)]; exact h8) (by rw [gi_si1 (by omega)]; exact h9) (by rw [gi_si1 (by omega)]; exact h10) ⟨c1, c2, c3, by omega, c5⟩
theorem fin_cp {pl : Bool} (H : MK gM b ev sp (cp + 1) na mt el us w) : fX12_finish pl w = if pl = true then (if gi w 95 cp = 0 then (bn2 (fX12_pop (si w 0 127 (Int32.ofNat cp))) fun x5 w6 => bn2 (fX12_read_ x5 w6) fun x7 w8 => bn (fX12_push x7 w8) fun w9 => fX12_finish_38 w9) else fX12_finish_38 (si w 0 127 (Int32.ofNat cp))) else fX12_finish_38 (si w 0 127 (Int32.ofNat cp)) := by
  have hc := H.2.2.2.2.2.2.2.2.2.2.2.2.2.1
  unfold fX12_finish
  rw [H.2.2.2.2.2.1, sb1_iN (by omega) (by omega), Nat.add_sub_cancel, ltq]
  cases pl
  · rfl
  · rw [if_pos rfl, if_pos rfl, gi_si0, if_pos (inb_iN (by omega) (by omega)), tc_iN (by omega), gi_si1 (by omega)]
/-- the end of a use that leaves what's on the pile -/
theorem fin_use {pl : Bool} {md : Int32} (H : MK gM b ev sp (cp + 1) na mt el us w) (hC : CTM cp b1 ev1 md (-1) us1 w) (hp : pl = true → md ≠ 0) (hb : b1 ≤ 60000 ∧ ev1 < 64 ∧ us1 ≤ 60) : ∃ u, fX12_finish pl w = some u ∧ MK gM b1 ev1 sp cp na mt el us1 u ∧ OFF PFM2 u w := by
  have hc := H.2.2.2.2.2.2.2.2.2.2.2.2.2.1
  have H1 := cpW_mk H
  have O1 : OFF (fun k j => k = 0 ∧ j = 127) (si w 0 127 (Int32.ofNat cp)) w := OFF.si ⟨rfl, rfl⟩
  have e : fX12_finish pl w = fX12_finish_38 (si w 0 127 (Int32.ofNat cp)) := by
    rw [fin_cp H]
    cases pl
    · rfl
    · rw [if_pos rfl, if_neg (fun hh => hp rfl (hC.2.2.1.symm.trans hh))]
  have C1 : CTM cp b1 ev1 md (-1) us1 (si w 0 127 (Int32.ofNat cp)) := hC.off O1 (fun k p q => by omega)
  obtain ⟨F1, F2⟩ := finW_mk (cp := cp) H1 C1 (gi_si0 _ _ _ _) ⟨hb.1, hb.2.1, hb.2.2, by omega⟩
  rw [e, fin38 (cp := cp) (gi_si0 _ _ _ _) (by omega) (by rw [C1.2.2.2.1]; decide)]
  exact ⟨_, rfl, F1, OFF.tr (F2.mono fun k j p => by unfold PFM2; omega) (O1.mono fun k j p => by unfold PFM2; omega)⟩
/-- .. that turns a place to its value -/
theorem fin_plc {vv : Int64} (H : MK gM b ev (sp + 1) (cp + 1) na mt el us w) (hC : CTM cp b1 ev1 0 (-1) us1 w) (hr : RDM w (gl w 85 sp) vv) (hb : b1 ≤ 60000 ∧ ev1 < 64 ∧ us1 ≤ 60) : ∃ u, fX12_finish true w = some u ∧ MK gM b1 ev1 (sp + 1) cp na mt el us1 u ∧ gl u 85 sp = vv ∧ OFF (fun k j => PFM2 k j ∨ (k = 85 ∧ j = sp) ∨ (k = 0 ∧ j = 130)) u w := by
  have hc := H.2.2.2.2.2.2.2.2.2.2.2.2.2.1
  have hsp := H.2.2.2.2.2.2.2.2.2.2.2.2.1
  have H1 := cpW_mk H
  have O1 : OFF (fun k j => k = 0 ∧ j = 127) (si w 0 127 (Int32.ofNat cp)) w := OFF.si ⟨rfl, rfl⟩
  rw [fin_cp H, if_pos rfl, if_pos hC.2.2.1, popM (sp := sp) H1.2.2.2.2.1 (by omega), bn2_so, gl_si]
  have R : RDM (si (si w 0 127 (Int32.ofNat cp)) 0 130 (Int32.ofNat sp)) (gl w 85 sp) vv := hr
  rw [R.ok, bn2_so, pushM (sp := sp) (gi_si0 _ _ _ _) (by omega), bn_so]
  have O2 : OFF (fun k j => (k = 0 ∧ (j = 127 ∨ j = 130)) ∨ (k = 85 ∧ j = sp)) (pshM (si (si w 0 127 (Int32.ofNat cp)) 0 130 (Int32.ofNat sp)) sp vv) w := OFF.tr (OFF.si (by omega)) (OFF.tr (OFF.sl (by omega)) (OFF.tr (OFF.si (by omega)) (OFF.si (by omega))))
  have H2 : MK gM b ev (sp + 1) cp na mt el us (pshM (si (si w 0 127 (Int32.ofNat cp)) 0 130 (Int32.ofNat sp)) sp vv) := pshM_mk (H1.ps (s0 := 0) (OFF.si (Or.inl ⟨rfl, Or.inr rfl⟩)) (by rw [gi_si1 (by omega)]; exact H1.2.2.1) (gi_si0 _ _ _ _) H.2.2.2.2.2.2.2.2.2.2.1 (by omega)) (by omega)
  have V2 : gl (pshM (si (si w 0 127 (Int32.ofNat cp)) 0 130 (Int32.ofNat sp)) sp vv) 85 sp = vv := pshM_v
  generalize pshM (si (si w 0 127 (Int32.ofNat cp)) 0 130 (Int32.ofNat sp)) sp vv = y at O2 H2 V2 ⊢
  have C1 : CTM cp b1 ev1 0 (-1) us1 y := hC.off O2 (fun k p q => by omega)
  obtain ⟨F1, F2⟩ := finW_mk (cp := cp) H2 C1 H2.2.2.2.2.2.1 ⟨hb.1, hb.2.1, hb.2.2, by omega⟩
  rw [fin38 (cp := cp) H2.2.2.2.2.2.1 (by omega) (by rw [C1.2.2.2.1]; decide)]
  exact ⟨_, rfl, F1, (F2 85 sp (by omega)).2.trans V2, OFF.tr (F2.mono fun k j p => by unfold PFM2; omega) (O2.mono fun k j p => by unfold PFM2; omega)⟩
/-- .. whose value goes into a slot (p: what's on the pile is a place) -/
theorem fin_sto {q : Nat} {vv : Int64} {pl : Bool} (H : MK gM b ev (sp + 1) (cp + 1) na mt el us w) (hC : CTM cp b1 ev1 0 (Int32.ofNat q) us1 w) (hq : q < 200000) (hr : if pl = true then RDM w (gl w 85 sp) vv else gl w 85 sp = vv) (hb : b1 ≤ 60000 ∧ ev1 < 64 ∧ us1 ≤ 60) : ∃ u, fX12_finish pl w = some u ∧ MK gM b1 ev1 sp cp na mt el us1 u ∧ gl u 83 q = vv ∧ OFF (fun k j => PFM2 k j ∨ (k = 85 ∧ j = sp) ∨ (k = 0 ∧ j = 130) ∨ (k = 83 ∧ j = q)) u w := by
  have hc := H.2.2.2.2.2.2.2.2.2.2.2.2.2.1
  have hsp := H.2.2.2.2.2.2.2.2.2.2.2.2.1
  have H1 := cpW_mk H
  have O1 : OFF (fun k j => k = 0 ∧ j = 127) (si w 0 127 (Int32.ofNat cp)) w := OFF.si ⟨rfl, rfl⟩
  have hgo : ∀ y, OFF (fun k j => (k = 0 ∧ (j = 127 ∨ j = 130)) ∨ (k = 85 ∧ j = sp)) y w → MK gM b ev (sp + 1) cp na mt el us y → gl y 85 sp = vv → ∃ u, fX12_finish_38 y = some u ∧ MK gM b1 ev1 sp cp na mt el us1 u ∧ gl u 83 q = vv ∧ OFF (fun k j => PFM2 k j ∨ (k = 85 ∧ j = sp) ∨ (k = 0 ∧ j = 130) ∨ (k = 83 ∧ j = q)) u w := fun y O2 H2 V2 => by
    have C1 : CTM cp b1 ev1 0 (Int32.ofNat q) us1 y := hC.off O2 (fun k p q => by omega)
    obtain ⟨F1, F2⟩ := finW_mk (cp := cp) H2 C1 H2.2.2.2.2.2.1 ⟨hb.1, hb.2.1, hb.2.2, by omega⟩
    rw [fin38s (cp := cp) (q := q) (sp := sp) H2.2.2.2.2.2.1 (by omega) C1.2.2.2.1 hq H2.2.2.2.2.1 (by omega), V2]
    have F3 : MK gM b1 ev1 sp cp na mt el us1 (si (finW y cp) 0 130 (Int32.ofNat sp)) := F1.ps (s0 := 0) (OFF.si (Or.inl ⟨rfl, Or.inr rfl⟩)) (by rw [gi_si1 (by omega)]; exact F1.2.2.1) (gi_si0 _ _ _ _) hb.1 (by omega)
    have O3 : OFF (fun k j => k = 83 ∧ j = q) (sl (si (finW y cp) 0 130 (Int32.ofNat sp)) 83 q vv) (si (finW y cp) 0 130 (Int32.ofNat sp)) := OFF.sl ⟨rfl, rfl⟩
    refine ⟨_, rfl, F3.nw (O3.mono fun k j p => by omega) F3.2.2.1 F3.2.2.2.1 F3.2.2.2.2.1 F3.2.2.2.2.2.1 F3.2.2.2.2.2.2.1 F3.2.2.2.2.2.2.2.1 F3.2.2.2.2.2.2.2.2.1 F3.2.2.2.2.2.2.2.2.2.1 F3.2.2.2.2.2.2.2.2.2.2, gl_sl0 _ _ _ _, OFF.tr (O3.mono fun k j p => by omega) (OFF.tr (OFF.si (by omega)) (OFF.tr (F2.mono fun k j p => by unfold PFM2; omega) (O2.mono fun k j p => by unfold PFM2; omega)))⟩
  rw [fin_cp H]
  cases pl
  · rw [if_neg (by decide)] at hr ⊢
    exact hgo _ (O1.mono fun k j p => by omega) H1 hr
  · rw [if_pos rfl] at hr ⊢
    rw [if_pos hC.2.2.1, popM (sp := sp) H1.2.2.2.2.1 (by omega), bn2_so, gl_si]
    have R : RDM (si (si w 0 127 (Int32.ofNat cp)) 0 130 (Int32.ofNat sp)) (gl w 85 sp) vv := hr
    rw [R.ok, bn2_so, pushM (sp := sp) (gi_si0 _ _ _ _) (by omega), bn_so]
    exact hgo _ (OFF.tr (OFF.si (by omega)) (OFF.tr (OFF.sl (by omega)) (OFF.tr (OFF.si (by omega)) (OFF.si (by omega))))) (pshM_mk (H1.ps (s0 := 0) (OFF.si (Or.inl ⟨rfl, Or.inr rfl⟩)) (by rw [gi_si1 (by omega)]; exact H1.2.2.1) (gi_si0 _ _ _ _) H.2.2.2.2.2.2.2.2.2.2.1 (by omega)) (by omega)) pshM_v
/-- noughts for a new activation -/
def znW : Nat → Nat → Wd → Wd
  | _, 0, w => w
  | x, n + 1, w => znW (x + 1) n (sl w 83 x 0)
theorem znW_off {Q : Nat → Nat → Prop} : ∀ (n x : Nat) (w : Wd), (∀ j, x ≤ j → j < x + n → Q 83 j) → OFF Q (znW x n w) w := by
  intro n
  induction n with
  | zero => exact fun _ _ _ => OFF.rf
  | succ n ih => exact fun x w h => OFF.tr (ih (x + 1) _ (fun j h1 h2 => h j (by omega) (by omega))) (OFF.sl (h x (Nat.le_refl _) (by omega)))
theorem znW_v : ∀ (n x : Nat) (w : Wd) (j : Nat), x ≤ j → j < x + n → gl (znW x n w) 83 j = 0 := by
  intro n
  induction n with
  | zero => intro x w j h1 h2; omega
  | succ n ih =>
    intro x w j h1 h2
    by_cases q : j = x
    · rw [q]
      exact ((znW_off (Q := fun k i => k = 83 ∧ x + 1 ≤ i) n (x + 1) _ (fun i g _ => ⟨rfl, g⟩)) 83 x (by omega)).2.trans (gl_sl0 _ _ _ _)
    · exact ih (x + 1) _ j (by omega) (by omega)
theorem ent_lpM {p S : Nat} (hp : p < 1200) : ∀ (n i fo : Nat) (w : Wd), gi w 71 p = Int32.ofNat S → gi w 0 132 = Int32.ofNat mt → i + n = S → mt + S ≤ 199000 → oX12_enter_111 (fo + n + 1) (Int32.ofNat p) (Int32.ofNat i) w = some (si (znW (mt + i) n w) 0 132 (Int32.ofNat (mt + S))) := by
  intro n
  induction n with
  | zero =>
    intro i fo w h1 h2 h3 h4
    show fX12_enter_111 _ _ _ _ = _
    unfold fX12_enter_111
    rw [if_pos (inb_iN hp (by omega)), tc_iN (by omega), h1, if_pos ((le_iN (by omega) (by omega)).mpr (by omega)), if_pos (inb_iN hp (by omega)), h2, add_iN, ltq]
    rfl
  | succ n ih =>
    intro i fo w h1 h2 h3 h4
    show fX12_enter_111 (oX12_enter_111 (fo + n + 1)) _ _ _ = _
    unfold fX12_enter_111
    rw [if_pos (inb_iN hp (by omega)), tc_iN (by omega), h1, if_neg (nle_iN (by omega) (by omega)), h2, add_iN, if_pos (inb_iN (by omega) (by omega)), tc_iN (by omega), ltq, ad1_iN, ltq]
    exact ih (i + 1) fo (sl w 83 (mt + i) 0) h1 h2 (by omega) h4
/-- a new activation -/
def ACW (na mt p lk cp sp el : Nat) (u : Wd) : Prop := gi u 87 na = Int32.ofNat mt ∧ gi u 98 na = Int32.ofNat p ∧ gi u 88 na = Int32.ofNat lk ∧ gi u 89 na = Int32.ofNat cp ∧ gi u 90 na = Int32.ofNat sp ∧ gi u 91 na = Int32.ofNat el
theorem ent_ok {p lk S : Nat} {t : Int32} (H : MK gM b ev sp cp na mt el us w) (T : TLM al sc pr de fu w) (hu : us < 60) (hc : cp < 900) (hde : de ≤ 60) (hna : na < 64) (hp : p < 1200) (hS : gi gM 35 p = Int32.ofNat S) (hmt : mt + S ≤ 199000) :
    ∃ u, fX12_enter (Int32.ofNat p) (Int32.ofNat lk) t w = some u ∧ MK gM b ev sp (cp + 1) (na + 1) (mt + S) el (us + 1) u ∧ TLM al sc pr (max de (us + 1)) fu u ∧ CTM cp b ev 0 t us u ∧ ACW na mt p lk (cp + 1) sp el u ∧ (∀ j, mt ≤ j → j < mt + S → gl u 83 j = 0) ∧ OFF (fun k j => (k = 0 ∧ (j = 127 ∨ j = 131 ∨ j = 132 ∨ j = 134 ∨ j = 135)) ∨ (92 ≤ k ∧ k ≤ 97 ∧ j = cp) ∨ (((87 ≤ k ∧ k ≤ 91) ∨ k = 98) ∧ j = na) ∨ (k = 83 ∧ mt ≤ j ∧ j < mt + S)) u w := by
  obtain ⟨y, q, k1, k2, k3, k4, k5, k6, k7, k8⟩ := ctl_up (md := 0) (sto := t) (kd_ := 0) H T hu hc hde
  unfold fX12_enter
  rw [k1, bn_so, k2, ad1_iN, ltq, k4, ltq, ← k3, ltq, k5.2.2.2.2.2.2.1, ltq, ad1_iN, ltq]
  have O1 : OFF (fun k j => k = 0 ∧ j = 131) (si q 0 131 (Int32.ofNat (na + 1))) q := OFF.si ⟨rfl, rfl⟩
  rw [if_pos (inb_iN hna (by omega)), tc_iN (by omega), gi_si1 (by omega), k5.2.2.2.2.2.2.2.1, ltq, if_pos (inb_iN hna (by omega)), ltq, if_pos (inb_iN hna (by omega)), ltq, if_pos (inb_iN hna (by omega)), gi_si1 (by omega), gi_si1 (by omega), gi_si1 (by omega), gi_si1 (by omega), k5.2.2.2.2.2.1, ltq, if_pos (inb_iN hna (by omega)), gi_si1 (by omega), gi_si1 (by omega), gi_si1 (by omega), gi_si1 (by omega), gi_si1 (by omega), k5.2.2.2.2.1, ltq, if_pos (inb_iN hna (by omega)), gi_si1 (by omega), gi_si1 (by omega), gi_si1 (by omega), gi_si1 (by omega), gi_si1 (by omega), gi_si1 (by omega), k5.2.2.2.2.2.2.2.2.1, ltq]
  have O2 : OFF (fun k j => (k = 0 ∧ j = 131) ∨ (((87 ≤ k ∧ k ≤ 91) ∨ k = 98) ∧ j = na)) (si (si (si (si (si (si (si q 0 131 (Int32.ofNat (na + 1))) 87 na (Int32.ofNat mt)) 98 na (Int32.ofNat p)) 88 na (Int32.ofNat lk)) 89 na (Int32.ofNat (cp + 1))) 90 na (Int32.ofNat sp)) 91 na (Int32.ofNat el)) q := OFF.tr (OFF.si (by omega)) (OFF.tr (OFF.si (by omega)) (OFF.tr (OFF.si (by omega)) (OFF.tr (OFF.si (by omega)) (OFF.tr (OFF.si (by omega)) (OFF.tr (OFF.si (by omega)) (OFF.si (by omega)))))))
  have A2 : ACW na mt p lk (cp + 1) sp el (si (si (si (si (si (si (si q 0 131 (Int32.ofNat (na + 1))) 87 na (Int32.ofNat mt)) 98 na (Int32.ofNat p)) 88 na (Int32.ofNat lk)) 89 na (Int32.ofNat (cp + 1))) 90 na (Int32.ofNat sp)) 91 na (Int32.ofNat el)) := by
    refine ⟨?_, ?_, ?_, ?_, ?_, gi_si0 _ _ _ _⟩
    · rw [gi_si1 (by omega), gi_si1 (by omega), gi_si1 (by omega), gi_si1 (by omega), gi_si1 (by omega), gi_si0]
    · rw [gi_si1 (by omega), gi_si1 (by omega), gi_si1 (by omega), gi_si1 (by omega), gi_si0]
    · rw [gi_si1 (by omega), gi_si1 (by omega), gi_si1 (by omega), gi_si0]
    · rw [gi_si1 (by omega), gi_si1 (by omega), gi_si0]
    · rw [gi_si1 (by omega), gi_si0]
  have e131 : gi (si (si (si (si (si (si (si q 0 131 (Int32.ofNat (na + 1))) 87 na (Int32.ofNat mt)) 98 na (Int32.ofNat p)) 88 na (Int32.ofNat lk)) 89 na (Int32.ofNat (cp + 1))) 90 na (Int32.ofNat sp)) 91 na (Int32.ofNat el)) 0 131 = Int32.ofNat (na + 1) := by rw [gi_si1 (by omega), gi_si1 (by omega), gi_si1 (by omega), gi_si1 (by omega), gi_si1 (by omega), gi_si1 (by omega), gi_si0]
  generalize si (si (si (si (si (si (si q 0 131 (Int32.ofNat (na + 1))) 87 na (Int32.ofNat mt)) 98 na (Int32.ofNat p)) 88 na (Int32.ofNat lk)) 89 na (Int32.ofNat (cp + 1))) 90 na (Int32.ofNat sp)) 91 na (Int32.ofNat el) = r at O2 A2 e131 ⊢
  obtain ⟨fo, hf⟩ := FU_ge (k := S + 1) (by omega)
  have hL := ent_lpM (p := p) (S := S) (mt := mt) hp S 0 fo r ((O2 71 p (by omega)).1.trans ((k5.1.2.2.2 p).2.1.trans hS)) ((O2 0 132 (by omega)).1.trans k5.2.2.2.2.2.2.2.1) (by omega) hmt
  rw [hf, ← Nat.add_assoc, show (0 : Int32) = Int32.ofNat 0 from rfl, hL, Nat.add_zero]
  have O3 : OFF (fun k j => k = 83 ∧ mt ≤ j ∧ j < mt + S) (znW mt S r) r := znW_off S mt r (fun j g1 g2 => ⟨rfl, g1, g2⟩)
  have V3 := znW_v S mt r
  generalize znW mt S r = t3 at O3 V3 ⊢
  have O4 : OFF (fun k j => (k = 0 ∧ (j = 131 ∨ j = 132)) ∨ (((87 ≤ k ∧ k ≤ 91) ∨ k = 98) ∧ j = na) ∨ (k = 83 ∧ mt ≤ j ∧ j < mt + S)) (si t3 0 132 (Int32.ofNat (mt + S))) q := OFF.tr (OFF.si (by omega)) (OFF.tr (O3.mono fun k j p => by omega) (O2.mono fun k j p => by omega))
  have g : ∀ j, j ≠ 131 → j ≠ 132 → gi (si t3 0 132 (Int32.ofNat (mt + S))) 0 j = gi q 0 j := fun j p1 p2 => (O4 0 j (by omega)).1
  refine ⟨_, rfl, k5.nw (O4.mono fun k j p => by omega) ((g 128 (by omega) (by omega)).trans k5.2.2.1) ((g 129 (by omega) (by omega)).trans k5.2.2.2.1) ((g 130 (by omega) (by omega)).trans k5.2.2.2.2.1) ((g 127 (by omega) (by omega)).trans k5.2.2.2.2.2.1) (by rw [gi_si1 (by omega), (O3 0 131 (by omega)).1]; exact e131) (gi_si0 _ _ _ _) ((g 133 (by omega) (by omega)).trans k5.2.2.2.2.2.2.2.2.1) ((g 134 (by omega) (by omega)).trans k5.2.2.2.2.2.2.2.2.2.1) ?_, k6.off O4 (fun k j p => by omega), k7.off O4 (fun k p1 p2 => by omega), ?_, fun j g1 g2 => ?_, OFF.tr (O4.mono fun k j p => by omega) (k8.mono fun k j p => by omega)⟩
  · obtain ⟨_, _, _, _, _, _, _, _, _, _, d1, d2, d3, d4, d5, d6, d7, d8⟩ := k5
    exact ⟨d1, d2, d3, d4, by omega, hmt, d7, d8⟩
  · obtain ⟨a1, a2, a3, a4, a5, a6⟩ := A2
    have e : ∀ k, 87 ≤ k → k ≤ 98 → gi (si t3 0 132 (Int32.ofNat (mt + S))) k na = gi r k na := fun k p1 p2 => by rw [gi_si1 (by omega), (O3 k na (by omega)).1]
    exact ⟨(e 87 (by omega) (by omega)).trans a1, (e 98 (by omega) (by omega)).trans a2, (e 88 (by omega) (by omega)).trans a3, (e 89 (by omega) (by omega)).trans a4, (e 90 (by omega) (by omega)).trans a5, (e 91 (by omega) (by omega)).trans a6⟩
  · rw [gl_si]
    exact V3 j g1 g2
end N3
