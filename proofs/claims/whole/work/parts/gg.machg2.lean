/-! THE REFERENCE'S MACHINE (7): calls as a whole, switches, BLOCKS, setting -/
section N6
variable {gM : Wd} {b ev sp cp na mt el us b1 ev1 sp1 cp1 na1 mt1 el1 us1 al sc pr de fu : Nat} {w u v : Wd} {a x y z : Int32}
theorem MK.pay (H : MK gM b ev sp cp na mt el us w) : MK gM b ev sp cp na mt el us (si w 0 137 x) := by
  have O1 : OFF (fun k j => k = 0 ∧ j = 137) (si w 0 137 x) w := OFF.si ⟨rfl, rfl⟩
  have e1 : ∀ j, j ≠ 137 → gi (si w 0 137 x) 0 j = gi w 0 j := fun j p => (O1 0 j (by omega)).1
  obtain ⟨h1, h2, h3, h4, h5, h6, h7, h8, h9, h10, c1⟩ := H
  exact ⟨h1.off O1 (fun k j p => by omega), (e1 140 (by omega)).trans h2, (e1 128 (by omega)).trans h3, (e1 129 (by omega)).trans h4, (e1 130 (by omega)).trans h5, (e1 127 (by omega)).trans h6, (e1 131 (by omega)).trans h7, (e1 132 (by omega)).trans h8, (e1 133 (by omega)).trans h9, (e1 134 (by omega)).trans h10, c1⟩
/-- what entering a procedure changes -/
def PNM (cp na mt k j : Nat) : Prop := (k = 0 ∧ (j = 127 ∨ j = 128 ∨ j = 129 ∨ j = 131 ∨ j = 132 ∨ j = 134 ∨ j = 135 ∨ j = 137)) ∨ (92 ≤ k ∧ k ≤ 97 ∧ j = cp) ∨ (((87 ≤ k ∧ k ≤ 91) ∨ k = 98) ∧ j = na) ∨ (k = 83 ∧ mt ≤ j)
/-- a call: the new activation with its formals told -/
theorem cal_ok {s p nf ff a0 n lk S c : Nat} {t : Int32} {Q : Wd → Wd → Prop} (H : MK gM b ev sp cp na mt el us w) (T : TLM al sc pr de fu w) (hs : sc < al) (ha : al ≤ 20000) (hu : us < 60) (hcp : cp < 900) (hde : de ≤ 60) (hna : na < 64) (hs4 : s < 4300) (h49 : gi gM 49 s = Int32.ofNat p) (h50 : gi gM 50 s = Int32.ofNat n) (h51 : nf ≠ 0 → gi gM 51 s = Int32.ofNat a0) (hp : p < 1200) (hn : n ≤ 100) (hlk : ACH w n ev lk) (hlk6 : lk < 64)
    (h35 : gi gM 35 p = Int32.ofNat S) (hmt : mt + S ≤ 199000) (hc : gi gM 36 p = Int32.ofNat c) (hc9 : c ≤ 60000) (h31 : gi gM 31 p = Int32.ofNat nf) (h32 : gi gM 32 p = Int32.ofNat ff) (ha0 : nf ≠ 0 → a0 + nf ≤ 6000) (hff : ff + nf ≤ 5000)
    (hF : ∀ y, OFF (PNM cp na mt) y w → gi y 87 na = Int32.ofNat mt → ∃ v, FMS gM ev a0 ff mt 0 nf y v ∧ OFF (fun k j => k = 83 ∧ mt ≤ j ∧ j < mt + S) v y ∧ Q y v) :
    ∃ y v u, fX12_call_ (Int32.ofNat s) t w = some u ∧ OFF (PNM cp na mt) y w ∧ gi y 87 na = Int32.ofNat mt ∧ (∀ j, mt ≤ j → j < mt + S → gl y 83 j = 0) ∧ FMS gM ev a0 ff mt 0 nf y v ∧ (Q y v ∧ OFF (fun k j => k = 83 ∧ mt ≤ j ∧ j < mt + S) v y) ∧ u = si (si v 0 129 (Int32.ofNat na)) 0 128 (Int32.ofNat c) ∧
      MK gM c na sp (cp + 1) (na + 1) (mt + S) el (us + 1) u ∧ TLM al (sc + 1) pr (max de (us + 1)) fu u ∧ CTM cp b ev 0 t us u ∧ ACW na mt p lk (cp + 1) sp el u ∧ OFF (PNM cp na mt) u w := by
  have H1 := H.pay (x := Int32.ofNat (sc + 1))
  have O0 : OFF (fun k j => k = 0 ∧ j = 137) (si w 0 137 (Int32.ofNat (sc + 1))) w := OFF.si ⟨rfl, rfl⟩
  have hlk1 : ACH (si w 0 137 (Int32.ofNat (sc + 1))) n ev lk := hlk.agr fun j _ => gi_si1 (by omega)
  obtain ⟨y, k1, k2, k3, k4, k5, k6, k7⟩ := ent_ok (p := p) (lk := lk) (S := S) (t := t) H1 T.pay hu hcp hde hna hp h35 hmt
  have Oy : OFF (PNM cp na mt) y w := OFF.tr (k7.mono fun k j p => by unfold PNM; omega) (O0.mono fun k j p => by unfold PNM; omega)
  obtain ⟨v, f1, f2, fQ⟩ := hF y Oy k5.1
  have hev := H.2.2.2.2.2.2.2.2.2.2.2.1
  unfold fX12_call_
  rw [payM1 T hs ha, lt2q, if_pos rfl, deeM1 H1.2.2.2.2.2.2.2.2.2.1 hu, lt2q, if_pos rfl, if_pos (inb_iN hs4 (by omega)), tc_iN (by omega)]
  dsimp only
  rw [H1.1.2.1 63 s (by omega) (by omega), h49, ltq, H1.2.2.2.1, ltq, if_pos (inb_iN hs4 (by omega)), H1.1.2.1 64 s (by omega) (by omega), h50, eup_ok H1.2.2.2.1 hn hlk1, bn2_so, k1, bn_so, k2.2.2.2.2.2.2.1, sb1_iN (by omega) (by have := k2.2.2.2.2.2.2.2.2.2.2.2.2.2.2.1; omega), Nat.add_sub_cancel, ltq]
  obtain ⟨fo, hf⟩ := FU_ge (k := nf + 1) (by omega)
  have hL := call_lp (s := s) (p := p) (evf := ev) (e := na) (a0 := a0) (ff := ff) (nf := nf) (c := c) (base := mt) hs4 hp hna hc h31 h32 h51 ha0 hff hev nf 0 fo y v k2.1 k5.1 f1 (by omega)
  rw [hf, ← Nat.add_assoc, show (0 : Int32) = Int32.ofNat 0 from rfl, hL]
  have O3 : OFF (fun k j => k = 0 ∧ (j = 128 ∨ j = 129)) (si (si v 0 129 (Int32.ofNat na)) 0 128 (Int32.ofNat c)) v := OFF.tr (OFF.si (by omega)) (OFF.si (by omega))
  have O4 : OFF (fun k j => (k = 0 ∧ (j = 128 ∨ j = 129)) ∨ (k = 83 ∧ mt ≤ j ∧ j < mt + S)) (si (si v 0 129 (Int32.ofNat na)) 0 128 (Int32.ofNat c)) y := OFF.tr (O3.mono fun k j p => by omega) (f2.mono fun k j p => by omega)
  have g : ∀ j, j ≠ 128 → j ≠ 129 → gi (si (si v 0 129 (Int32.ofNat na)) 0 128 (Int32.ofNat c)) 0 j = gi y 0 j := fun j p1 p2 => (O4 0 j (by omega)).1
  refine ⟨y, v, _, rfl, Oy, k5.1, k6, f1, ⟨fQ, f2⟩, rfl, k2.nw (O4.mono fun k j p => by omega) (gi_si0 _ _ _ _) (by rw [gi_si1 (by omega), gi_si0]) ((g 130 (by omega) (by omega)).trans k2.2.2.2.2.1) ((g 127 (by omega) (by omega)).trans k2.2.2.2.2.2.1) ((g 131 (by omega) (by omega)).trans k2.2.2.2.2.2.2.1) ((g 132 (by omega) (by omega)).trans k2.2.2.2.2.2.2.2.1) ((g 133 (by omega) (by omega)).trans k2.2.2.2.2.2.2.2.2.1) ((g 134 (by omega) (by omega)).trans k2.2.2.2.2.2.2.2.2.2.1) ?_, k3.off O4 (fun k j p => by omega), k4.off O4 (fun k p1 p2 => by omega), ?_, OFF.tr (O4.mono fun k j p => by unfold PNM; omega) Oy⟩
  · obtain ⟨_, _, _, _, _, _, _, _, _, _, d1, d2, d3, d4, d5, d6, d7, d8⟩ := k2
    exact ⟨hc9, hna, d3, d4, d5, d6, d7, d8⟩
  · obtain ⟨a1, a2, a3, a4, a5, a6⟩ := k5
    have e : ∀ k, 87 ≤ k → k ≤ 98 → gi (si (si v 0 129 (Int32.ofNat na)) 0 128 (Int32.ofNat c)) k na = gi y k na := fun k p1 p2 => (O4 k na (by omega)).1
    exact ⟨(e 87 (by omega) (by omega)).trans a1, (e 98 (by omega) (by omega)).trans a2, (e 88 (by omega) (by omega)).trans a3, (e 89 (by omega) (by omega)).trans a4, (e 90 (by omega) (by omega)).trans a5, (e 91 (by omega) (by omega)).trans a6⟩
theorem cal6 (H : MK gM b ev sp cp na mt el 60 w) (T : TLM al sc pr de fu w) (hs : sc < al) (ha : al ≤ 20000) : ∃ u, fX12_call_ x y w = some u ∧ gi u 0 140 = 6 ∧ TLM al (sc + 1) pr de fu u ∧ OFF PEM u w := by
  obtain ⟨u, h1, h2, h3, h4, h5⟩ := pd6 H T hs ha
  unfold fX12_call_
  rw [h1, lt2q, if_pos rfl, h2, lt2q, if_neg (show ¬ (false = true) by decide)]
  exact ⟨u, rfl, h3, h4, h5⟩
theorem cal0 (T : TLM al sc pr de fu w) (hs : sc = al) : ∃ u, fX12_call_ x y w = some u ∧ gi u 0 140 = 100 ∧ TLM al sc pr de fu u ∧ OFF PEM u w := by
  obtain ⟨u, h1, h3, h4, h5⟩ := pd0 T hs
  unfold fX12_call_
  rw [h1, lt2q, if_neg (show ¬ (false = true) by decide)]
  exact ⟨u, rfl, h3, h4, h5⟩
/-- a call of a formal -/
theorem caf_ok {q p lk S c : Nat} {t : Int32} (H : MK gM b ev sp cp na mt el us w) (T : TLM al sc pr de fu w) (hs : sc < al) (ha : al ≤ 20000) (hu : us < 60) (hcp : cp < 900) (hde : de ≤ 60) (hna : na < 64) (hq : q + 1 < 200000) (v1 : gl w 83 q = Int64.ofNat p) (v2 : gl w 83 (q + 1) = Int64.ofNat lk) (hp : p < 1200) (h35 : gi gM 35 p = Int32.ofNat S) (hmt : mt + S ≤ 199000) (hc : gi gM 36 p = Int32.ofNat c) (hc9 : c ≤ 60000) :
    ∃ u, fX12_callFormal (Int32.ofNat q) t w = some u ∧ MK gM c na sp (cp + 1) (na + 1) (mt + S) el (us + 1) u ∧ TLM al (sc + 1) pr (max de (us + 1)) fu u ∧ CTM cp b ev 0 t us u ∧ ACW na mt p lk (cp + 1) sp el u ∧ (∀ j, mt ≤ j → j < mt + S → gl u 83 j = 0) ∧ OFF (PNM cp na mt) u w := by
  have H1 := H.pay (x := Int32.ofNat (sc + 1))
  have O0 : OFF (fun k j => k = 0 ∧ j = 137) (si w 0 137 (Int32.ofNat (sc + 1))) w := OFF.si ⟨rfl, rfl⟩
  obtain ⟨y, k1, k2, k3, k4, k5, k6, k7⟩ := ent_ok (p := p) (lk := lk) (S := S) (t := t) H1 T.pay hu hcp hde hna hp h35 hmt
  unfold fX12_callFormal
  rw [payM1 T hs ha, lt2q, if_pos rfl, deeM1 H1.2.2.2.2.2.2.2.2.2.1 hu, lt2q, if_pos rfl, if_pos (inb_iN (by omega) (by omega)), tc_iN (by omega)]
  dsimp only
  rw [gl_si, v1, tl_iN, ltq, ad1_iN, if_pos (inb_iN hq (by omega)), tc_iN (by omega), gl_si, v2, tl_iN, ltq, k1, bn_so, k2.2.2.2.2.2.2.1, sb1_iN (by omega) (by have := k2.2.2.2.2.2.2.2.2.2.2.2.2.2.2.1; omega), Nat.add_sub_cancel, ltq, if_pos (inb_iN hp (by omega)), tc_iN (by omega), gi_si1 (by omega), (k2.1.2.2.2 p).1, hc, ltq]
  have O4 : OFF (fun k j => k = 0 ∧ (j = 128 ∨ j = 129)) (si (si y 0 129 (Int32.ofNat na)) 0 128 (Int32.ofNat c)) y := OFF.tr (OFF.si (by omega)) (OFF.si (by omega))
  have g : ∀ j, j ≠ 128 → j ≠ 129 → gi (si (si y 0 129 (Int32.ofNat na)) 0 128 (Int32.ofNat c)) 0 j = gi y 0 j := fun j p1 p2 => (O4 0 j (by omega)).1
  refine ⟨_, rfl, k2.nw (O4.mono fun k j p => by omega) (gi_si0 _ _ _ _) (by rw [gi_si1 (by omega), gi_si0]) ((g 130 (by omega) (by omega)).trans k2.2.2.2.2.1) ((g 127 (by omega) (by omega)).trans k2.2.2.2.2.2.1) ((g 131 (by omega) (by omega)).trans k2.2.2.2.2.2.2.1) ((g 132 (by omega) (by omega)).trans k2.2.2.2.2.2.2.2.1) ((g 133 (by omega) (by omega)).trans k2.2.2.2.2.2.2.2.2.1) ((g 134 (by omega) (by omega)).trans k2.2.2.2.2.2.2.2.2.2.1) ?_, k3.off O4 (fun k j p => by omega), k4.off O4 (fun k p1 p2 => by omega), ?_, fun j g1 g2 => ?_, OFF.tr (O4.mono fun k j p => by unfold PNM; omega) (OFF.tr (k7.mono fun k j p => by unfold PNM; omega) (O0.mono fun k j p => by unfold PNM; omega))⟩
  · obtain ⟨_, _, _, _, _, _, _, _, _, _, d1, d2, d3, d4, d5, d6, d7, d8⟩ := k2
    exact ⟨hc9, hna, d3, d4, d5, d6, d7, d8⟩
  · obtain ⟨a1, a2, a3, a4, a5, a6⟩ := k5
    have e : ∀ k, 87 ≤ k → k ≤ 98 → gi (si (si y 0 129 (Int32.ofNat na)) 0 128 (Int32.ofNat c)) k na = gi y k na := fun k p1 p2 => (O4 k na (by omega)).1
    exact ⟨(e 87 (by omega) (by omega)).trans a1, (e 98 (by omega) (by omega)).trans a2, (e 88 (by omega) (by omega)).trans a3, (e 89 (by omega) (by omega)).trans a4, (e 90 (by omega) (by omega)).trans a5, (e 91 (by omega) (by omega)).trans a6⟩
  · rw [(O4 83 j (by omega)).2]
    exact k6 j g1 g2
theorem caf6 (H : MK gM b ev sp cp na mt el 60 w) (T : TLM al sc pr de fu w) (hs : sc < al) (ha : al ≤ 20000) : ∃ u, fX12_callFormal x y w = some u ∧ gi u 0 140 = 6 ∧ TLM al (sc + 1) pr de fu u ∧ OFF PEM u w := by
  obtain ⟨u, h1, h2, h3, h4, h5⟩ := pd6 H T hs ha
  unfold fX12_callFormal
  rw [h1, lt2q, if_pos rfl, h2, lt2q, if_neg (show ¬ (false = true) by decide)]
  exact ⟨u, rfl, h3, h4, h5⟩
theorem caf0 (T : TLM al sc pr de fu w) (hs : sc = al) : ∃ u, fX12_callFormal x y w = some u ∧ gi u 0 140 = 100 ∧ TLM al sc pr de fu u ∧ OFF PEM u w := by
  obtain ⟨u, h1, h3, h4, h5⟩ := pd0 T hs
  unfold fX12_callFormal
  rw [h1, lt2q, if_neg (show ¬ (false = true) by decide)]
  exact ⟨u, rfl, h3, h4, h5⟩
/-- cells set to v -/
def WRM (w : Wd) (p : Int64) (v : Int64) (u : Wd) : Prop := (∃ q, q < 200000 ∧ p = Int64.ofNat q ∧ u = sl w 83 q v) ∨ ∃ q, q < 2000 ∧ p = Int64.ofNat (1048576 + q) ∧ u = sl w 84 q v
theorem WRM.ok {p v : Int64} (h : WRM w p v u) : fX12_write p v w = some u := by
  unfold fX12_write
  rcases h with ⟨q, h1, h2, h3⟩ | ⟨q, h1, h2, h3⟩
  · rw [h2, if_pos (show Int64.ofNat q < 1048576 from (lt64 (b := 1048576) (by omega) (by omega)).mpr (by omega)), tl_iN, if_pos (inb_iN h1 (by omega)), tc_iN (by omega), ltq, h3]
  · rw [h2, if_neg (show ¬ (Int64.ofNat (1048576 + q) < 1048576) from fun hh => absurd ((lt64 (b := 1048576) (by omega) (by omega)).mp hh) (by omega)), tl_iN, show Int32.ofNat (1048576 + q) - 1048576 = Int32.ofNat q from by rw [show (1048576 : Int32) = Int32.ofNat 1048576 from rfl, sub_iN (by omega) (by omega), Nat.add_sub_cancel_left], if_pos (inb_iN h1 (by omega)), tc_iN (by omega), ltq, h3]
def setM : List Int64 → Int64 → Wd → Wd → Prop
  | [], _, w, u => u = w
  | p :: r, v, w, u => ∃ y, WRM w p v y ∧ setM r v y u
theorem setM_lp {v : Int64} : ∀ (ps : List Int64) (i fo : Nat) (w u : Wd), gi w 0 130 = Int32.ofNat (sp + ps.length) → (∀ q p, ps[q]? = some p → gl w 85 (sp + ps.length - 1 - q) = p) → sp + ps.length ≤ 100000 → i + ps.length ≤ 100000 → setM ps v (si w 0 130 (Int32.ofNat sp)) u →
    oX12_step_261 (fo + ps.length + 1) (Int32.ofNat (i + ps.length)) v (Int32.ofNat i) w = some (if ps = [] then w else u) := by
  intro ps
  induction ps with
  | nil =>
    intro i fo w u h1 h2 h3 h4 hS
    have h4 : i + 0 ≤ 100000 := h4
    show fX12_step_261 _ (Int32.ofNat (i + 0)) _ _ _ = _
    unfold fX12_step_261
    rw [if_pos ((le_iN (a := i + 0) (b := i) (by omega) (by omega)).mpr (by omega)), if_pos rfl]
  | cons p ps ih =>
    intro i fo w u h1 h2 h3 h4 hS
    have hl : (p :: ps).length = ps.length + 1 := rfl
    rw [hl] at h1 h2 h3 h4 ⊢
    have hp : gl w 85 (sp + ps.length) = p := by
      have := h2 0 p rfl
      rw [show sp + (ps.length + 1) - 1 - 0 = sp + ps.length by omega] at this
      exact this
    obtain ⟨y, y1, y2⟩ := hS
    -- the same write before sp is set
    have hw : ∃ y', WRM (si w 0 130 (Int32.ofNat (sp + ps.length))) p v y' ∧ setM ps v (si y' 0 130 (Int32.ofNat sp)) u ∧ gi y' 0 130 = Int32.ofNat (sp + ps.length) ∧ ∀ j, gl y' 85 j = gl w 85 j := by
      have hcomm : ∀ k q, si (sl (si w 0 130 (Int32.ofNat (sp + ps.length))) k q v) 0 130 (Int32.ofNat sp) = sl (si w 0 130 (Int32.ofNat sp)) k q v := fun k q => by
        refine Prod.ext ?_ rfl
        funext k j
        show (if k = 0 ∧ j = 130 then Int32.ofNat sp else if k = 0 ∧ j = 130 then Int32.ofNat (sp + ps.length) else gi w k j) = if k = 0 ∧ j = 130 then Int32.ofNat sp else gi w k j
        by_cases q1 : k = 0 ∧ j = 130
        · rw [if_pos q1, if_pos q1]
        · rw [if_neg q1, if_neg q1, if_neg q1]
      rcases y1 with ⟨q, g1, g2, g3⟩ | ⟨q, g1, g2, g3⟩
      · refine ⟨_, Or.inl ⟨q, g1, g2, rfl⟩, by rw [hcomm, ← g3]; exact y2, by rw [gi_sl, gi_si0], fun j => by rw [gl_sl1 (by omega), gl_si]⟩
      · refine ⟨_, Or.inr ⟨q, g1, g2, rfl⟩, by rw [hcomm, ← g3]; exact y2, by rw [gi_sl, gi_si0], fun j => by rw [gl_sl1 (by omega), gl_si]⟩
    obtain ⟨y', w1, w2, w3, w4⟩ := hw
    show fX12_step_261 (oX12_step_261 (fo + ps.length + 1)) _ _ _ _ = _
    unfold fX12_step_261
    rw [if_neg (nle_iN (by omega) (by omega)), popM (sp := sp + ps.length) h1 (by omega), bn2_so, hp, w1.ok, bn_so, ad1_iN, ltq, show i + (ps.length + 1) = i + 1 + ps.length by omega, if_neg (show ¬ (p :: ps = []) by simp)]
    have := ih (i + 1) fo y' u w3 (fun q r hr => by
      rw [w4, ← h2 (q + 1) r (by simpa using hr)]
      congr 1
      omega) (by omega) (by omega) w2
    rw [this]
    by_cases q : ps = []
    · rw [if_pos q]
      subst q
      have w2 : u = si y' 0 130 (Int32.ofNat sp) := w2
      have e : si y' 0 130 (Int32.ofNat sp) = y' := by
        refine Prod.ext ?_ rfl
        funext k j
        show (if k = 0 ∧ j = 130 then Int32.ofNat sp else gi y' k j) = gi y' k j
        by_cases q1 : k = 0 ∧ j = 130
        · rw [if_pos q1, q1.1, q1.2, w3]; rfl
        · rw [if_neg q1]
      rw [w2, e]
    · rw [if_neg q]
theorem rm_set {ps : List Int64} (H : MK gM b ev (sp + ps.length + 1) cp na mt el us w) (hb : b < 60000) (ho : opW gM b 7 (Int32.ofNat ps.length) y z) (hx : ∀ q p, ps[q]? = some p → gl w 85 (sp + ps.length - 1 - q) = p) (hl1 : 1 ≤ ps.length) (hl : ps.length ≤ 90000) (hS : setM ps (gl w 85 (sp + ps.length)) (si (si (si w 0 128 (Int32.ofNat (b + 1))) 0 130 (Int32.ofNat (sp + ps.length))) 0 130 (Int32.ofNat sp)) u) : fX12_step w = some u := by
  have hsp := H.2.2.2.2.2.2.2.2.2.2.2.2.1
  rw [stM_eq H ho hb]
  have H1 := H.nx (b1 := b + 1) (by omega)
  unfold stpB
  rw [if_neg (show ¬ ((7 : Int32) = 1) by decide), if_neg (show ¬ ((7 : Int32) = 2) by decide), if_neg (show ¬ ((7 : Int32) = 3) by decide), if_neg (show ¬ ((7 : Int32) = 4) by decide), if_neg (show ¬ ((7 : Int32) = 5) by decide), if_neg (show ¬ ((7 : Int32) = 6) by decide), if_pos (show (7 : Int32) = 7 from rfl), popM (sp := sp + ps.length) H1.2.2.2.2.1 (by omega), bn2_so, gl_si]
  obtain ⟨fo, hf⟩ := FU_ge (k := ps.length + 1) (by omega)
  have hL := setM_lp (sp := sp) (v := gl w 85 (sp + ps.length)) ps 0 fo (si (si w 0 128 (Int32.ofNat (b + 1))) 0 130 (Int32.ofNat (sp + ps.length))) u (gi_si0 _ _ _ _) hx (by omega) (by omega) hS
  rw [Nat.zero_add] at hL
  rw [hf, ← Nat.add_assoc, show (0 : Int32) = Int32.ofNat 0 from rfl, hL, if_neg (fun q => by rw [q] at hl1; exact absurd hl1 (by simp))]
end N6
