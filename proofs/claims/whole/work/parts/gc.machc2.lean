/-! THE REFERENCE'S MACHINE (3): uses and their ends, activations -/
section N2
variable {gM : Wd} {b ev sp cp na mt el us b1 ev1 sp1 cp1 na1 mt1 el1 us1 al sc pr de fu : Nat} {w u v : Wd} {a x y z : Int32}
/-- what a use changes -/
def PUM (cp k j : Nat) : Prop := (k = 0 ∧ (j = 127 ∨ j = 128 ∨ j = 129 ∨ j = 134 ∨ j = 135 ∨ j = 137)) ∨ (92 ≤ k ∧ k ≤ 97 ∧ j = cp)
/-- where the RUN ends -/
def PEM (k j : Nat) : Prop := (k = 0 ∧ 127 ≤ j ∧ j ≤ 140) ∨ k = 83 ∨ k = 84 ∨ k = 85 ∨ (87 ≤ k ∧ k ≤ 98)
/-- what lies under control cp -/
def CTM (cp b ev : Nat) (md sto : Int32) (us : Nat) (u : Wd) : Prop := gi u 93 cp = Int32.ofNat b ∧ gi u 94 cp = Int32.ofNat ev ∧ gi u 95 cp = md ∧ gi u 97 cp = sto ∧ gi u 96 cp = Int32.ofNat us
theorem CTM.off {md sto : Int32} {Q : Nat → Nat → Prop} (h : CTM cp b ev md sto us w) (hO : OFF Q u w) (hQ : ∀ k, 92 ≤ k → k ≤ 97 → ¬ Q k cp) : CTM cp b ev md sto us u := by
  obtain ⟨h1, h2, h3, h4, h5⟩ := h
  have e : ∀ k, 92 ≤ k → k ≤ 97 → gi u k cp = gi w k cp := fun k p q => (hO k cp (hQ k p q)).1
  exact ⟨(e 93 (by omega) (by omega)).trans h1, (e 94 (by omega) (by omega)).trans h2, (e 95 (by omega) (by omega)).trans h3, (e 97 (by omega) (by omega)).trans h4, (e 96 (by omega) (by omega)).trans h5⟩
/-- a control more, and one use more -/
theorem ctl_up {md sto : Int32} {kd_ : Int32} (H : MK gM b ev sp cp na mt el us w) (T : TLM al sc pr de fu w) (hu : us < 60) (hc : cp < 900) (hde : de ≤ 60) :
    ∃ y u, fX12_control kd_ md sto w = some y ∧ gi y 0 134 = Int32.ofNat us ∧ u = si (si y 0 134 (Int32.ofNat (us + 1))) 0 135 (Int32.ofNat (max de (us + 1))) ∧ fJ9_max_7cf53 (gi (si y 0 134 (Int32.ofNat (us + 1))) 0 135) (gi (si y 0 134 (Int32.ofNat (us + 1))) 0 134) = Int32.ofNat (max de (us + 1)) ∧ MK gM b ev sp (cp + 1) na mt el (us + 1) u ∧ TLM al sc pr (max de (us + 1)) fu u ∧ CTM cp b ev md sto us u ∧ OFF (fun k j => (k = 0 ∧ (j = 127 ∨ j = 134 ∨ j = 135)) ∨ (92 ≤ k ∧ k ≤ 97 ∧ j = cp)) u w := by
  have O1 := ctlW_off (w := w) (cp := cp) (kd_ := kd_) (bb := gi w 0 128) (ev := gi w 0 129) (md := md) (sto := sto) (us := gi w 0 134)
  obtain ⟨v1, v2, v3, v4, v5, v6⟩ := ctlW_v (w := w) (cp := cp) (kd_ := kd_) (bb := gi w 0 128) (ev := gi w 0 129) (md := md) (sto := sto) (us := gi w 0 134)
  refine ⟨_, _, ctl_ok H.2.2.2.2.2.1 (by omega), ?_, rfl, ?_⟩
  · exact (O1 0 134 (by omega)).1.trans H.2.2.2.2.2.2.2.2.2.1
  generalize ctlW w cp kd_ (gi w 0 128) (gi w 0 129) md sto (gi w 0 134) = y at O1 v1 v2 v3 v4 v5 v6 ⊢
  have O2 : OFF (fun k j => (k = 0 ∧ (j = 127 ∨ j = 134 ∨ j = 135)) ∨ (92 ≤ k ∧ k ≤ 97 ∧ j = cp)) (si (si y 0 134 (Int32.ofNat (us + 1))) 0 135 (Int32.ofNat (max de (us + 1)))) w := OFF.tr (OFF.si (by omega)) (OFF.tr (OFF.si (by omega)) (O1.mono fun k j p => by omega))
  have e : ∀ j, j ≠ 127 → j ≠ 134 → j ≠ 135 → gi (si (si y 0 134 (Int32.ofNat (us + 1))) 0 135 (Int32.ofNat (max de (us + 1)))) 0 j = gi w 0 j := fun j p q r => (O2 0 j (by omega)).1
  refine ⟨?_, H.nw (O2.mono fun k j p => by omega) ((e 128 (by omega) (by omega) (by omega)).trans H.2.2.1) ((e 129 (by omega) (by omega) (by omega)).trans H.2.2.2.1) ((e 130 (by omega) (by omega) (by omega)).trans H.2.2.2.2.1) (by rw [gi_si1 (by omega), gi_si1 (by omega)]; exact v6) ((e 131 (by omega) (by omega) (by omega)).trans H.2.2.2.2.2.2.1) ((e 132 (by omega) (by omega) (by omega)).trans H.2.2.2.2.2.2.2.1) ((e 133 (by omega) (by omega) (by omega)).trans H.2.2.2.2.2.2.2.2.1) (by rw [gi_si1 (by omega), gi_si0]) ?_, ?_, ⟨?_, ?_, ?_, ?_, ?_⟩, O2⟩
  · rw [gi_si1 (by omega), gi_si0, (O1 0 135 (by omega)).1, T.2.2.2.1, mx_iN (by omega) (by omega)]
  · obtain ⟨_, _, _, _, _, _, _, _, _, _, c1, c2, c3, c4, c5, c6, c7, c8⟩ := H
    exact ⟨c1, c2, c3, by omega, c5, c6, c7, by omega⟩
  · obtain ⟨t1, t2, t3, t4, t5⟩ := T
    exact ⟨(e 138 (by omega) (by omega) (by omega)).trans t1, (e 137 (by omega) (by omega) (by omega)).trans t2, (e 139 (by omega) (by omega) (by omega)).trans t3, gi_si0 _ _ _ _, (e 136 (by omega) (by omega) (by omega)).trans t5⟩
  · rw [gi_si1 (by omega), gi_si1 (by omega), v1]; exact H.2.2.1
  · rw [gi_si1 (by omega), gi_si1 (by omega), v2]; exact H.2.2.2.1
  · rw [gi_si1 (by omega), gi_si1 (by omega), v3]
  · rw [gi_si1 (by omega), gi_si1 (by omega), v4]
  · rw [gi_si1 (by omega), gi_si1 (by omega), v5]; exact H.2.2.2.2.2.2.2.2.2.1
/-- a use begins -/
theorem um1 (H : MK gM b ev sp cp na mt el us w) (T : TLM al sc pr de fu w) (hs : sc < al) (ha : al ≤ 20000) (hu : us < 60) (hc : cp < 900) (hde : de ≤ 60) {q th e c : Nat} {md : Int32} (hq : q + 1 < 200000) (v1 : gl w 83 q = Int64.ofNat th) (v2 : gl w 83 (q + 1) = Int64.ofNat e) (hth : th < 6000) (hk : ¬ (md = 1 ∧ gi gM 48 th = 0)) (hcd : gi gM 47 th = Int32.ofNat c) (hc9 : c ≤ 60000) (he : e < 64) :
    ∃ u, fX12_use (Int32.ofNat q) md w = some u ∧ MK gM c e sp (cp + 1) na mt el (us + 1) u ∧ TLM al (sc + 1) pr (max de (us + 1)) fu u ∧ CTM cp b ev md (-1) us u ∧ OFF (PUM cp) u w := by
  have P1 := T.pay
  have O1 : OFF (fun k j => k = 0 ∧ j = 137) (si w 0 137 (Int32.ofNat (sc + 1))) w := OFF.si ⟨rfl, rfl⟩
  have H1 : MK gM b ev sp cp na mt el us (si w 0 137 (Int32.ofNat (sc + 1))) := by
    have e1 : ∀ j, j ≠ 137 → gi (si w 0 137 (Int32.ofNat (sc + 1))) 0 j = gi w 0 j := fun j p => (O1 0 j (by omega)).1
    obtain ⟨h1, h2, h3, h4, h5, h6, h7, h8, h9, h10, c1⟩ := H
    exact ⟨h1.off O1 (fun k j p => by omega), (e1 140 (by omega)).trans h2, (e1 128 (by omega)).trans h3, (e1 129 (by omega)).trans h4, (e1 130 (by omega)).trans h5, (e1 127 (by omega)).trans h6, (e1 131 (by omega)).trans h7, (e1 132 (by omega)).trans h8, (e1 133 (by omega)).trans h9, (e1 134 (by omega)).trans h10, c1⟩
  unfold fX12_use
  rw [payM1 T hs ha, lt2q, if_pos rfl, deeM1 H1.2.2.2.2.2.2.2.2.2.1 hu, lt2q, if_pos rfl, if_pos (inb_iN (by omega) (by omega)), tc_iN (by omega)]
  dsimp only
  rw [gl_si, v1, tl_iN, ltq]
  have hu60 : ∃ u, fX12_use_60 (Int32.ofNat q) md (Int32.ofNat th) (si w 0 137 (Int32.ofNat (sc + 1))) = some u ∧ MK gM c e sp (cp + 1) na mt el (us + 1) u ∧ TLM al (sc + 1) pr (max de (us + 1)) fu u ∧ CTM cp b ev md (-1) us u ∧ OFF (PUM cp) u w := by
    obtain ⟨y, u, k1, k2, k3, k4, k5, k6, k7, k8⟩ := ctl_up (md := md) (sto := -1) (kd_ := 1) H1 P1 hu hc hde
    unfold fX12_use_60
    rw [k1, bn_so, k2, ad1_iN, ltq, k4, ltq, ← k3, ltq, ad1_iN, if_pos (inb_iN hq (by omega)), tc_iN (by omega)]
    have e1 : gl u 83 (q + 1) = Int64.ofNat e := by rw [(k8 83 _ (by omega)).2, gl_si]; exact v2
    rw [e1, tl_iN, ltq, if_pos (inb_iN hth (by omega)), tc_iN (by omega)]
    have e2 : gi (si u 0 129 (Int32.ofNat e)) 61 th = Int32.ofNat c := by
      rw [gi_si1 (by omega), k5.1.2.1 61 th (by omega) (by omega)]
      exact hcd
    rw [e2, ltq]
    have O3 : OFF (fun k j => k = 0 ∧ (j = 128 ∨ j = 129)) (si (si u 0 129 (Int32.ofNat e)) 0 128 (Int32.ofNat c)) u := OFF.tr (OFF.si (by omega)) (OFF.si (by omega))
    have g : ∀ j, j ≠ 128 → j ≠ 129 → gi (si (si u 0 129 (Int32.ofNat e)) 0 128 (Int32.ofNat c)) 0 j = gi u 0 j := fun j p r => (O3 0 j (by omega)).1
    refine ⟨_, rfl, k5.nw (O3.mono fun k j p => by omega) (gi_si0 _ _ _ _) (by rw [gi_si1 (by omega), gi_si0]) ((g 130 (by omega) (by omega)).trans k5.2.2.2.2.1) ((g 127 (by omega) (by omega)).trans k5.2.2.2.2.2.1) ((g 131 (by omega) (by omega)).trans k5.2.2.2.2.2.2.1) ((g 132 (by omega) (by omega)).trans k5.2.2.2.2.2.2.2.1) ((g 133 (by omega) (by omega)).trans k5.2.2.2.2.2.2.2.2.1) ((g 134 (by omega) (by omega)).trans k5.2.2.2.2.2.2.2.2.2.1) ⟨hc9, he, k5.2.2.2.2.2.2.2.2.2.2.2.2⟩, k6.off O3 (fun k j p => by omega), k7.off O3 (fun k p r => by omega), OFF.tr (O3.mono fun k j p => by unfold PUM; omega) (OFF.tr (k8.mono fun k j p => by unfold PUM; omega) (O1.mono fun k j p => by unfold PUM; omega))⟩
  by_cases m1 : md = 1
  · rw [if_pos m1, if_pos (inb_iN hth (by omega)), tc_iN (by omega), if_neg (fun hh => hk ⟨m1, by rw [← hh, H1.1.2.1 62 th (by omega) (by omega)]⟩)]
    exact hu60
  · rw [if_neg m1]
    exact hu60
/-- a place of what's none -/
theorem um4 (H : MK gM b ev sp cp na mt el us w) (T : TLM al sc pr de fu w) (hs : sc < al) (ha : al ≤ 20000) (hu : us < 60) (hde : de ≤ 60) {q th : Nat} (hq : q < 200000) (v1 : gl w 83 q = Int64.ofNat th) (hth : th < 6000) (hk : gi gM 48 th = 0) :
    ∃ u, fX12_use (Int32.ofNat q) 1 w = some u ∧ gi u 0 140 = 4 ∧ TLM al (sc + 1) pr (max de (us + 1)) fu u ∧ OFF PEM u w := by
  have P1 := T.pay
  have O1 : OFF (fun k j => k = 0 ∧ j = 137) (si w 0 137 (Int32.ofNat (sc + 1))) w := OFF.si ⟨rfl, rfl⟩
  unfold fX12_use
  rw [payM1 T hs ha, lt2q, if_pos rfl, deeM1 ((O1 0 134 (by omega)).1.trans H.2.2.2.2.2.2.2.2.2.1) hu, lt2q, if_pos rfl, if_pos (inb_iN (by omega) (by omega)), tc_iN (by omega)]
  dsimp only
  rw [gl_si, v1, tl_iN, ltq, if_pos rfl, if_pos (inb_iN hth (by omega)), tc_iN (by omega), (O1 62 th (by omega)).1, H.1.2.1 62 th (by omega) (by omega), if_pos hk, (O1 0 134 (by omega)).1, H.2.2.2.2.2.2.2.2.2.1, ad1_iN, P1.2.2.2.1, mx_iN (by omega) (by omega), ltq, ltq]
  unfold fX12_fail
  have e0 : gi (si (si w 0 137 (Int32.ofNat (sc + 1))) 0 135 (Int32.ofNat (max de (us + 1)))) 0 140 = 0 := by rw [gi_si1 (by omega), gi_si1 (by omega)]; exact H.2.1
  rw [e0, if_pos rfl, ltq, ltq]
  refine ⟨_, rfl, gi_si0 _ _ _ _, ?_, OFF.tr (OFF.si (by unfold PEM; omega)) (OFF.tr (OFF.si (by unfold PEM; omega)) (O1.mono fun k j p => by unfold PEM; omega))⟩
  obtain ⟨t1, t2, t3, t4, t5⟩ := P1
  exact ⟨by rw [gi_si1 (by omega), gi_si1 (by omega)]; exact t1, by rw [gi_si1 (by omega), gi_si1 (by omega)]; exact t2, by rw [gi_si1 (by omega), gi_si1 (by omega)]; exact t3, by rw [gi_si1 (by omega), gi_si0], by rw [gi_si1 (by omega), gi_si1 (by omega)]; exact t5⟩
/-- too deep; no STEPS left (also of a call: what's done is the same) -/
theorem pd6 (H : MK gM b ev sp cp na mt el 60 w) (T : TLM al sc pr de fu w) (hs : sc < al) (ha : al ≤ 20000) : ∃ u, fX12_pay w = (true, si w 0 137 (Int32.ofNat (sc + 1))) ∧ fX12_deeper (si w 0 137 (Int32.ofNat (sc + 1))) = (false, u) ∧ gi u 0 140 = 6 ∧ TLM al (sc + 1) pr de fu u ∧ OFF PEM u w := by
  have O1 : OFF (fun k j => k = 0 ∧ j = 137) (si w 0 137 (Int32.ofNat (sc + 1))) w := OFF.si ⟨rfl, rfl⟩
  refine ⟨_, payM1 T hs ha, deeM6 ((O1 0 134 (by omega)).1.trans H.2.2.2.2.2.2.2.2.2.1) ((O1 0 140 (by omega)).1.trans H.2.1), gi_si0 _ _ _ _, T.pay.off (OFF.si (P := fun k j => k = 0 ∧ j = 140) ⟨rfl, rfl⟩) (fun k j p => by omega), OFF.tr (OFF.si (by unfold PEM; omega)) (O1.mono fun k j p => by unfold PEM; omega)⟩
theorem pd0 (T : TLM al sc pr de fu w) (hs : sc = al) : ∃ u, fX12_pay w = (false, u) ∧ gi u 0 140 = 100 ∧ TLM al sc pr de fu u ∧ OFF PEM u w :=
  ⟨_, payM0 T hs, gi_si0 _ _ _ _, T.off (OFF.si (P := fun k j => k = 0 ∧ j = 140) ⟨rfl, rfl⟩) (fun k j p => by omega), OFF.si (by unfold PEM; omega)⟩
theorem um6 (H : MK gM b ev sp cp na mt el 60 w) (T : TLM al sc pr de fu w) (hs : sc < al) (ha : al ≤ 20000) : ∃ u, fX12_use x y w = some u ∧ gi u 0 140 = 6 ∧ TLM al (sc + 1) pr de fu u ∧ OFF PEM u w := by
  obtain ⟨u, h1, h2, h3, h4, h5⟩ := pd6 H T hs ha
  unfold fX12_use
  rw [h1, lt2q, if_pos rfl, h2, lt2q, if_neg (show ¬ (false = true) by decide)]
  exact ⟨u, rfl, h3, h4, h5⟩
theorem um0 (T : TLM al sc pr de fu w) (hs : sc = al) : ∃ u, fX12_use x y w = some u ∧ gi u 0 140 = 100 ∧ TLM al sc pr de fu u ∧ OFF PEM u w := by
  obtain ⟨u, h1, h3, h4, h5⟩ := pd0 T hs
  unfold fX12_use
  rw [h1, lt2q, if_neg (show ¬ (false = true) by decide)]
  exact ⟨u, rfl, h3, h4, h5⟩
/-- where a use ends -/
def finW (w : Wd) (cp : Nat) : Wd := si (si (si w 0 128 (gi w 93 cp)) 0 129 (gi w 94 cp)) 0 134 (gi w 96 cp)
theorem fin38 (h127 : gi w 0 127 = Int32.ofNat cp) (hc : cp < 1000) (hst : gi w 97 cp < 0) : fX12_finish_38 w = some (finW w cp) := by
  unfold fX12_finish_38
  rw [h127, if_pos (inb_iN hc (by omega)), tc_iN (by omega), ltq, gi_si1 (by omega), h127, if_pos (inb_iN hc (by omega)), tc_iN (by omega), gi_si1 (by omega), ltq, gi_si1 (by omega), gi_si1 (by omega), h127, if_pos (inb_iN hc (by omega)), tc_iN (by omega), gi_si1 (by omega), gi_si1 (by omega), ltq, gi_si1 (by omega), gi_si1 (by omega), gi_si1 (by omega), h127, if_pos (inb_iN hc (by omega)), tc_iN (by omega), gi_si1 (by omega), gi_si1 (by omega), gi_si1 (by omega), if_pos hst]
  rfl
/-- .. and its value goes into a slot -/
theorem fin38s {q : Nat} (h127 : gi w 0 127 = Int32.ofNat cp) (hc : cp < 1000) (hst : gi w 97 cp = Int32.ofNat q) (hq : q < 200000) (h130 : gi w 0 130 = Int32.ofNat (sp + 1)) (hs : sp < 200000) : fX12_finish_38 w = some (sl (si (finW w cp) 0 130 (Int32.ofNat sp)) 83 q (gl w 85 sp)) := by
  unfold fX12_finish_38
  rw [h127, if_pos (inb_iN hc (by omega)), tc_iN (by omega), ltq, gi_si1 (by omega), h127, if_pos (inb_iN hc (by omega)), tc_iN (by omega), gi_si1 (by omega), ltq, gi_si1 (by omega), gi_si1 (by omega), h127, if_pos (inb_iN hc (by omega)), tc_iN (by omega), gi_si1 (by omega), gi_si1 (by omega), ltq, gi_si1 (by omega), gi_si1 (by omega), gi_si1 (by omega), h127, if_pos (inb_iN hc (by omega)), tc_iN (by omega), gi_si1 (by omega), gi_si1 (by omega), gi_si1 (by omega), hst, if_neg (nn_iN (by omega)), if_pos (inb_iN hc (by omega)), popM (sp := sp) (by rw [gi_si1 (by omega), gi_si1 (by omega), gi_si1 (by omega)]; exact h130) hs, bn2_so, if_pos (inb_iN hq (by omega)), tc_iN (by omega), ltq, gl_si, gl_si, gl_si]
  rfl
/-- of a use: back to where it began -/
theorem finW_mk (H : MK gM b ev sp cp1 na mt el us w) (hC : CTM cp b1 ev1 x y us1 w) (h127 : gi w 0 127 = Int32.ofNat cp) (hb : b1 ≤ 60000 ∧ ev1 < 64 ∧ us1 ≤ 60 ∧ cp ≤ 900) : MK gM b1 ev1 sp cp na mt el us1 (finW w cp) ∧ OFF (fun k j => k = 0 ∧ (j = 128 ∨ j = 129 ∨ j = 134)) (finW w cp) w := by
  have O1 : OFF (fun k j => k = 0 ∧ (j = 128 ∨ j = 129 ∨ j = 134)) (finW w cp) w := OFF.tr (OFF.si (by omega)) (OFF.tr (OFF.si (by omega)) (OFF.si (by omega)))
  have g : ∀ j, j ≠ 128 → j ≠ 129 → j ≠ 134 → gi (finW w cp) 0 j = gi w 0 j := fun j p q r => (O1 0 j (by omega)).1
  obtain ⟨c1, c2, c3, c4, c5⟩ := hC
  refine ⟨H.nw (O1.mono fun k j p => by omega) ?_ ?_ ((g 130 (by omega) (by omega) (by omega)).trans H.2.2.2.2.1) ((g 127 (by omega) (by omega) (by omega)).trans h127) ((g 131 (by omega) (by omega) (by omega)).trans H.2.2.2.2.2.2.1) ((g 132 (by omega) (by omega) (by omega)).trans H.2.2.2.2.2.2.2.1) ((g 133 (by omega) (by omega) (by omega)).trans H.2.2.2.2.2.2.2.2.1) ?_ ?_, O1⟩
  · unfold finW; rw [gi_si1 (by omega), gi_si1 (by omega), gi_si0]; exact c1
  · unfold finW; rw [gi_si1 (by omega), gi_si0]; exact c2
  · unfold finW; rw [gi_si0]; exact c5
  · obtain ⟨_, _, _, _, _, _, _, _, _, _, d1, d2, d3, d4, d5, d6, d7, d8⟩ := H
    exact ⟨hb.1, hb.2.1, d3, hb.2.2.2, d5, d6, d7, hb.2.2.1⟩
end N2
