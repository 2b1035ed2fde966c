/-! THE REFERENCE'S MACHINE (5): returns, goto, calls -/
section N4
variable {gM : Wd} {b ev sp cp na mt el us b1 ev1 sp1 cp1 na1 mt1 el1 us1 al sc pr de fu : Nat} {w u v : Wd} {a x y z : Int32}
/-- RETURN: activation ev is the last -/
theorem lea_ok {t : Int32} {base el0 : Nat} (H : MK gM b ev sp (cp + 1) (na + 1) mt el us w) (hC : CTM cp b1 ev1 0 t us1 w) (hev : ev = na) (h87 : gi w 87 na = Int32.ofNat base) (h91 : gi w 91 na = Int32.ofNat el0) (hbs : base ≤ 199000 ∧ el0 ≤ 2000) (hb : b1 ≤ 60000 ∧ ev1 < 64 ∧ us1 ≤ 60) (hsp : sp < 100000) :
    ∃ u, fX12_leave w = some u ∧ (if t = 1 then MK gM b1 ev1 (sp + 1) cp na base el0 us1 u ∧ gl u 85 sp = gl w 83 base else MK gM b1 ev1 sp cp na base el0 us1 u) ∧ OFF (fun k j => (k = 0 ∧ 127 ≤ j ∧ j ≤ 134) ∨ (k = 85 ∧ j = sp)) u w := by
  subst hev
  have hc := H.2.2.2.2.2.2.2.2.2.2.2.2.2.1
  have hev := H.2.2.2.2.2.2.2.2.2.2.2.1
  have H1 := cpW_mk H
  unfold fX12_leave
  rw [H.2.2.2.2.2.1, sb1_iN (by omega) (by omega), Nat.add_sub_cancel, ltq]
  have O1 : OFF (fun k j => k = 0 ∧ j = 127) (si w 0 127 (Int32.ofNat cp)) w := OFF.si ⟨rfl, rfl⟩
  generalize si w 0 127 (Int32.ofNat cp) = y at O1 H1 ⊢
  rw [H1.2.2.2.1, if_pos (inb_iN hev (by omega)), tc_iN (by omega), (O1 87 _ (by omega)).1, h87, if_pos (inb_iN (by omega) (by omega)), tc_iN (by omega), (O1 83 _ (by omega)).2, ltq, H1.2.2.2.2.2.2.1, sb1_iN (by omega) (by omega), Nat.add_sub_cancel, ltq, gi_si0, if_pos (inb_iN hev (by omega)), tc_iN (by omega), gi_si1 (by omega), (O1 87 _ (by omega)).1, h87, ltq, gi_si1 (by omega), gi_si0, if_pos (inb_iN hev (by omega)), tc_iN (by omega), gi_si1 (by omega), gi_si1 (by omega), (O1 91 _ (by omega)).1, h91, ltq]
  have O2 : OFF (fun k j => k = 0 ∧ (j = 131 ∨ j = 132 ∨ j = 133)) (si (si (si y 0 131 (Int32.ofNat ev)) 0 132 (Int32.ofNat base)) 0 133 (Int32.ofNat el0)) y := OFF.tr (OFF.si (by omega)) (OFF.tr (OFF.si (by omega)) (OFF.si (by omega)))
  have g2 : ∀ j, j ≠ 131 → j ≠ 132 → j ≠ 133 → gi (si (si (si y 0 131 (Int32.ofNat ev)) 0 132 (Int32.ofNat base)) 0 133 (Int32.ofNat el0)) 0 j = gi y 0 j := fun j p q r => (O2 0 j (by omega)).1
  have H2 : MK gM b ev sp cp ev base el0 us (si (si (si y 0 131 (Int32.ofNat ev)) 0 132 (Int32.ofNat base)) 0 133 (Int32.ofNat el0)) := H1.nw (O2.mono fun k j p => by omega) ((g2 128 (by omega) (by omega) (by omega)).trans H1.2.2.1) ((g2 129 (by omega) (by omega) (by omega)).trans H1.2.2.2.1) ((g2 130 (by omega) (by omega) (by omega)).trans H1.2.2.2.2.1) ((g2 127 (by omega) (by omega) (by omega)).trans H1.2.2.2.2.2.1) (by rw [gi_si1 (by omega), gi_si1 (by omega), gi_si0]) (by rw [gi_si1 (by omega), gi_si0]) (gi_si0 _ _ _ _) ((g2 134 (by omega) (by omega) (by omega)).trans H1.2.2.2.2.2.2.2.2.2.1) (by
    obtain ⟨_, _, _, _, _, _, _, _, _, _, d1, d2, d3, d4, d5, d6, d7, d8⟩ := H1
    exact ⟨d1, d2, d3, d4, by omega, hbs.1, hbs.2, d8⟩)
  generalize si (si (si y 0 131 (Int32.ofNat ev)) 0 132 (Int32.ofNat base)) 0 133 (Int32.ofNat el0) = q at O2 H2 ⊢
  have O12 : OFF (fun k j => k = 0 ∧ (j = 127 ∨ j = 131 ∨ j = 132 ∨ j = 133)) q w := OFF.tr (O2.mono fun k j p => by omega) (O1.mono fun k j p => by omega)
  have C2 : CTM cp b1 ev1 0 t us1 q := hC.off O12 (fun k p q => by omega)
  obtain ⟨F1, F2⟩ := finW_mk (cp := cp) H2 C2 H2.2.2.2.2.2.1 ⟨hb.1, hb.2.1, hb.2.2, by omega⟩
  have h127 := H2.2.2.2.2.2.1
  rw [h127, if_pos (inb_iN (show cp < 1000 by omega) (by omega)), tc_iN (by omega), ltq, gi_si1 (by omega), h127, if_pos (inb_iN (show cp < 1000 by omega) (by omega)), tc_iN (by omega), gi_si1 (by omega), ltq, gi_si1 (by omega), gi_si1 (by omega), h127, if_pos (inb_iN (show cp < 1000 by omega) (by omega)), tc_iN (by omega), gi_si1 (by omega), gi_si1 (by omega), ltq, gi_si1 (by omega), gi_si1 (by omega), gi_si1 (by omega), h127, if_pos (inb_iN (show cp < 1000 by omega) (by omega)), tc_iN (by omega), gi_si1 (by omega), gi_si1 (by omega), gi_si1 (by omega), C2.2.2.2.1]
  have e : si (si (si q 0 128 (gi q 93 cp)) 0 129 (gi q 94 cp)) 0 134 (gi q 96 cp) = finW q cp := rfl
  rw [e]
  have OA : OFF (fun k j => (k = 0 ∧ 127 ≤ j ∧ j ≤ 134) ∨ (k = 85 ∧ j = sp)) (finW q cp) w := OFF.tr (F2.mono fun k j p => by omega) (O12.mono fun k j p => by omega)
  by_cases ht : t = 1
  · rw [if_pos ht, pushM F1.2.2.2.2.1 (by omega), bn_so]
    refine ⟨_, rfl, ?_, OFF.tr (OFF.tr (OFF.si (by omega)) (OFF.sl (by omega))) OA⟩
    rw [if_pos ht]
    exact ⟨pshM_mk F1 hsp, pshM_v⟩
  · rw [if_neg ht]
    refine ⟨_, rfl, ?_, OA⟩
    rw [if_neg ht]
    exact F1
/-- GOTO: to LABEL l of activation g -/
theorem jmp_ok {l g base S c bl cg : Nat} (H : MK gM b ev (sp + 2) cp na mt el us w) (v1 : gl w 85 (sp + 1) = Int64.ofNat g) (v2 : gl w 85 sp = Int64.ofNat l) (hg : g < 64) (hl : l < 5000) (hcg : gi w 89 g = Int32.ofNat cg) (hcg9 : cg ≤ 900) (h87 : gi w 87 g = Int32.ofNat base) (hp : ∃ p, p < 1200 ∧ gi w 98 g = Int32.ofNat p ∧ gi gM 35 p = Int32.ofNat S) (h90 : gi w 90 g = Int32.ofNat sp1) (hc : gi gM 55 l = Int32.ofNat c) (hc9 : c ≤ 60000)
    (hus : g = 0 ∧ us1 = 0 ∨ g ≠ 0 ∧ 1 ≤ cg ∧ 1 ≤ us1 ∧ gi w 96 (cg - 1) = Int32.ofNat (us1 - 1)) (hus9 : us1 ≤ 60) (hbs : base + S ≤ 199000) (hsp1 : sp1 ≤ 100000) (hbl : gi gM 76 l = -1 ∧ gi w 91 g = Int32.ofNat el1 ∨ ∃ k q, k < 9000 ∧ gi gM 76 l = Int32.ofNat k ∧ gi gM 41 k = Int32.ofNat q ∧ base + q + 1 < 200000 ∧ gl w 83 (base + q + 1) = Int64.ofNat el1) (hel : el1 ≤ 2000) :
    ∃ u, fX12_jump w = some u ∧ MK gM c g sp1 cg (g + 1) (base + S) el1 us1 u ∧ OFF (fun k j => k = 0 ∧ 127 ≤ j ∧ j ≤ 134) u w := by
  have hsp := H.2.2.2.2.2.2.2.2.2.2.2.2.1
  obtain ⟨p, hp1, hp2, hp3⟩ := hp
  unfold fX12_jump
  rw [popM (sp := sp + 1) H.2.2.2.2.1 (by omega), bn2_so, v1, tl_iN, ltq, popM (sp := sp) (gi_si0 _ _ _ _) (by omega), bn2_so, gl_si, v2, tl_iN, ltq, if_pos (inb_iN hg (by omega)), tc_iN (by omega), gi_si1 (by omega), gi_si1 (by omega), hcg, ltq]
  have O1 : OFF (fun k j => k = 0 ∧ (j = 127 ∨ j = 130)) (si (si (si w 0 130 (Int32.ofNat (sp + 1))) 0 130 (Int32.ofNat sp)) 0 127 (Int32.ofNat cg)) w := OFF.tr (OFF.si (by omega)) (OFF.tr (OFF.si (by omega)) (OFF.si (by omega)))
  have e127 : gi (si (si (si w 0 130 (Int32.ofNat (sp + 1))) 0 130 (Int32.ofNat sp)) 0 127 (Int32.ofNat cg)) 0 127 = Int32.ofNat cg := gi_si0 _ _ _ _
  generalize si (si (si w 0 130 (Int32.ofNat (sp + 1))) 0 130 (Int32.ofNat sp)) 0 127 (Int32.ofNat cg) = y at O1 e127 ⊢
  have hj : ∃ u, fX12_jump_44 (Int32.ofNat us1) (Int32.ofNat g) (Int32.ofNat l) y = some u ∧ MK gM c g sp1 cg (g + 1) (base + S) el1 us1 u ∧ OFF (fun k j => k = 0 ∧ 127 ≤ j ∧ j ≤ 134) u w := by
    have hR : RTB gM y := H.1.off O1 (fun k j p => by omega)
    unfold fX12_jump_44 fX12_actSize
    rw [ltq, ad1_iN, ltq, if_pos (inb_iN hg (by omega)), if_pos (inb_iN hg (by omega)), tc_iN (by omega), gi_si1 (by omega), gi_si1 (by omega), (O1 98 g (by omega)).1, hp2, if_pos (inb_iN hp1 (by omega)), tc_iN (by omega), gi_si1 (by omega), gi_si1 (by omega), (hR.2.2.2 p).2.1, hp3, bn2_so, gi_si1 (by omega), gi_si1 (by omega), (O1 87 g (by omega)).1, h87, add_iN, ltq, ltq, if_pos (inb_iN hg (by omega)), gi_si1 (by omega), gi_si1 (by omega), gi_si1 (by omega), gi_si1 (by omega), (O1 90 g (by omega)).1, h90, ltq, if_pos (inb_iN hl (by omega)), tc_iN (by omega)]
    have O2 : OFF (fun k j => k = 0 ∧ 127 ≤ j ∧ j ≤ 134) (si (si (si (si (si y 0 134 (Int32.ofNat us1)) 0 131 (Int32.ofNat (g + 1))) 0 132 (Int32.ofNat (base + S))) 0 129 (Int32.ofNat g)) 0 130 (Int32.ofNat sp1)) w := OFF.tr (OFF.si (by omega)) (OFF.tr (OFF.si (by omega)) (OFF.tr (OFF.si (by omega)) (OFF.tr (OFF.si (by omega)) (OFF.tr (OFF.si (by omega)) (O1.mono fun k j p => by omega)))))
    have f134 : gi (si (si (si (si (si y 0 134 (Int32.ofNat us1)) 0 131 (Int32.ofNat (g + 1))) 0 132 (Int32.ofNat (base + S))) 0 129 (Int32.ofNat g)) 0 130 (Int32.ofNat sp1)) 0 134 = Int32.ofNat us1 := by rw [gi_si1 (by omega), gi_si1 (by omega), gi_si1 (by omega), gi_si1 (by omega), gi_si0]
    have f131 : gi (si (si (si (si (si y 0 134 (Int32.ofNat us1)) 0 131 (Int32.ofNat (g + 1))) 0 132 (Int32.ofNat (base + S))) 0 129 (Int32.ofNat g)) 0 130 (Int32.ofNat sp1)) 0 131 = Int32.ofNat (g + 1) := by rw [gi_si1 (by omega), gi_si1 (by omega), gi_si1 (by omega), gi_si0]
    have f132 : gi (si (si (si (si (si y 0 134 (Int32.ofNat us1)) 0 131 (Int32.ofNat (g + 1))) 0 132 (Int32.ofNat (base + S))) 0 129 (Int32.ofNat g)) 0 130 (Int32.ofNat sp1)) 0 132 = Int32.ofNat (base + S) := by rw [gi_si1 (by omega), gi_si1 (by omega), gi_si0]
    have f129 : gi (si (si (si (si (si y 0 134 (Int32.ofNat us1)) 0 131 (Int32.ofNat (g + 1))) 0 132 (Int32.ofNat (base + S))) 0 129 (Int32.ofNat g)) 0 130 (Int32.ofNat sp1)) 0 129 = Int32.ofNat g := by rw [gi_si1 (by omega), gi_si0]
    have f130 : gi (si (si (si (si (si y 0 134 (Int32.ofNat us1)) 0 131 (Int32.ofNat (g + 1))) 0 132 (Int32.ofNat (base + S))) 0 129 (Int32.ofNat g)) 0 130 (Int32.ofNat sp1)) 0 130 = Int32.ofNat sp1 := gi_si0 _ _ _ _
    have f127 : gi (si (si (si (si (si y 0 134 (Int32.ofNat us1)) 0 131 (Int32.ofNat (g + 1))) 0 132 (Int32.ofNat (base + S))) 0 129 (Int32.ofNat g)) 0 130 (Int32.ofNat sp1)) 0 127 = Int32.ofNat cg := by rw [gi_si1 (by omega), gi_si1 (by omega), gi_si1 (by omega), gi_si1 (by omega), gi_si1 (by omega)]; exact e127
    generalize si (si (si (si (si y 0 134 (Int32.ofNat us1)) 0 131 (Int32.ofNat (g + 1))) 0 132 (Int32.ofNat (base + S))) 0 129 (Int32.ofNat g)) 0 130 (Int32.ofNat sp1) = q at O2 f134 f131 f132 f129 f130 f127 ⊢
    have hR2 : RTB gM q := H.1.off O2 (fun k j p => by omega)
    have hend : ∃ u, (if inb (Int32.ofNat l) 5000 = true then lt (si (si q 0 133 (Int32.ofNat el1)) 0 128 (gi (si q 0 133 (Int32.ofNat el1)) 75 l)) fun w22 => some w22 else none) = some u ∧ MK gM c g sp1 cg (g + 1) (base + S) el1 us1 u ∧ OFF (fun k j => k = 0 ∧ 127 ≤ j ∧ j ≤ 134) u w := by
      rw [if_pos (inb_iN hl (by omega)), gi_si1 (by omega), (hR2.2.2.2 l).2.2.2.2.2.1, hc, ltq]
      have O3 : OFF (fun k j => k = 0 ∧ 127 ≤ j ∧ j ≤ 134) (si (si q 0 133 (Int32.ofNat el1)) 0 128 (Int32.ofNat c)) w := OFF.tr (OFF.si (by omega)) (OFF.tr (OFF.si (by omega)) O2)
      exact ⟨_, rfl, H.nw (O3.mono fun k j p => by omega) (gi_si0 _ _ _ _) (by rw [gi_si1 (by omega), gi_si1 (by omega)]; exact f129) (by rw [gi_si1 (by omega), gi_si1 (by omega)]; exact f130) (by rw [gi_si1 (by omega), gi_si1 (by omega)]; exact f127) (by rw [gi_si1 (by omega), gi_si1 (by omega)]; exact f131) (by rw [gi_si1 (by omega), gi_si1 (by omega)]; exact f132) (by rw [gi_si1 (by omega), gi_si0]) (by rw [gi_si1 (by omega), gi_si1 (by omega)]; exact f134) ⟨hc9, hg, hsp1, hcg9, by omega, hbs, hel, hus9⟩, O3⟩
    rcases hbl with ⟨b1, b2⟩ | ⟨k, q', b1, b2, b3, b4, b5⟩
    · rw [(hR2.2.2.2 l).2.2.2.2.2.2.1, b1, ltq, if_pos (show (-1 : Int32) < 0 by decide), if_pos (inb_iN hg (by omega)), (O2 91 g (by omega)).1, b2, ltq]
      exact hend
    · rw [(hR2.2.2.2 l).2.2.2.2.2.2.1, b2, ltq, if_neg (nn_iN (by omega)), if_pos (inb_iN hg (by omega)), if_pos (inb_iN b1 (by omega)), tc_iN (show k < 2147483648 by omega), (O2 87 g (by omega)).1, h87, (hR2.2.2.2 k).2.2.2.2.2.2.2.2.2.2.1, b3, add_iN, ad1_iN, if_pos (inb_iN b4 (by omega)), tc_iN (by omega), (O2 83 _ (by omega)).2, b5, tl_iN, ltq]
      exact hend
  rcases hus with ⟨g0, u0⟩ | ⟨g0, c1, u1, u2⟩
  · subst g0
    subst u0
    rw [if_pos (show Int32.ofNat 0 = 0 from rfl)]
    exact hj
  · rw [if_neg (show ¬ (Int32.ofNat g = 0) from of_ne (k := 0) (by omega) (by omega) g0), e127, sb1_iN c1 (by omega), if_pos (inb_iN (by omega) (by omega)), tc_iN (by omega), (O1 96 _ (by omega)).1, u2, ad1_iN, Nat.sub_add_cancel u1]
    exact hj
/-- VALUEF: a formal's EXPR is worked out, to lie in its slot -/
theorem rm_valf {s base th e c : Nat} (H : MK gM b ev sp cp na mt el us w) (hb : b < 60000) (ho : opW gM b 18 (Int32.ofNat s) y z) (h87 : gi w 87 ev = Int32.ofNat base) (hq : base + s + 1 < 200000) (v1 : gl w 83 (base + s) = Int64.ofNat th) (v2 : gl w 83 (base + s + 1) = Int64.ofNat e) (hth : th < 6000) (he : e < 64) (hcd : gi gM 47 th = Int32.ofNat c) (hc9 : c ≤ 60000) (hcp : cp < 900) :
    ∃ u, fX12_step w = some u ∧ MK gM c e sp (cp + 1) na mt el us u ∧ CTM cp (b + 1) ev 0 (Int32.ofNat (base + s)) us u ∧ OFF (fun k j => (k = 0 ∧ (j = 127 ∨ j = 128 ∨ j = 129)) ∨ (92 ≤ k ∧ k ≤ 97 ∧ j = cp)) u w := by
  have hev := H.2.2.2.2.2.2.2.2.2.2.2.1
  rw [stM_eq H ho hb]
  have H1 := H.nx (b1 := b + 1) (by omega)
  have O0 : OFF (fun k j => k = 0 ∧ j = 128) (si w 0 128 (Int32.ofNat (b + 1))) w := OFF.si ⟨rfl, rfl⟩
  generalize si w 0 128 (Int32.ofNat (b + 1)) = y0 at H1 O0 ⊢
  unfold stpB fX12_other
  rw [if_neg (show ¬ ((18 : Int32) = 1) by decide), if_neg (show ¬ ((18 : Int32) = 2) by decide), if_neg (show ¬ ((18 : Int32) = 3) by decide), if_neg (show ¬ ((18 : Int32) = 4) by decide), if_neg (show ¬ ((18 : Int32) = 5) by decide), if_neg (show ¬ ((18 : Int32) = 6) by decide), if_neg (show ¬ ((18 : Int32) = 7) by decide), if_neg (show ¬ ((18 : Int32) = 8) by decide), if_neg (show ¬ ((18 : Int32) = 9) by decide), if_neg (show ¬ ((18 : Int32) = 10) by decide), if_neg (show ¬ ((18 : Int32) = 11) by decide), if_neg (show ¬ ((18 : Int32) = 12) by decide), if_neg (show ¬ ((18 : Int32) = 13) by decide), if_neg (show ¬ ((18 : Int32) = 14) by decide), if_neg (show ¬ ((18 : Int32) = 15) by decide), if_neg (show ¬ ((18 : Int32) = 16) by decide), if_neg (show ¬ ((18 : Int32) = 17) by decide), if_pos (show (18 : Int32) = 18 from rfl), H1.2.2.2.1, if_pos (inb_iN hev (by omega)), tc_iN (by omega), (O0 87 _ (by omega)).1, h87, add_iN, ltq, ctl_ok H1.2.2.2.2.2.1 (by omega), bn_so, H1.2.2.1, H1.2.2.2.1, H1.2.2.2.2.2.2.2.2.2.1]
  have O1 := ctlW_off (w := y0) (cp := cp) (kd_ := 2) (bb := Int32.ofNat (b + 1)) (ev := Int32.ofNat ev) (md := 0) (sto := Int32.ofNat (base + s)) (us := Int32.ofNat us)
  obtain ⟨c1, c2, c3, c4, c5, c6⟩ := ctlW_v (w := y0) (cp := cp) (kd_ := 2) (bb := Int32.ofNat (b + 1)) (ev := Int32.ofNat ev) (md := 0) (sto := Int32.ofNat (base + s)) (us := Int32.ofNat us)
  generalize ctlW y0 cp 2 (Int32.ofNat (b + 1)) (Int32.ofNat ev) 0 (Int32.ofNat (base + s)) (Int32.ofNat us) = q at O1 c1 c2 c3 c4 c5 c6 ⊢
  have e83 : ∀ j, gl q 83 j = gl w 83 j := fun j => ((O1 83 j (by omega)).2).trans (O0 83 j (by omega)).2
  have hR : RTB gM q := H1.1.off O1 (fun k j p => by omega)
  rw [ad1_iN, if_pos (inb_iN hq (by omega)), tc_iN (by omega), e83, v2, tl_iN, ltq, if_pos (inb_iN (by omega) (by omega)), tc_iN (by omega), gl_si, e83, v1, tl_iN, if_pos (inb_iN hth (by omega)), tc_iN (by omega), gi_si1 (by omega), hR.2.1 61 th (by omega) (by omega), hcd, ltq, bn_so]
  have O2 : OFF (fun k j => k = 0 ∧ (j = 128 ∨ j = 129)) (si (si q 0 129 (Int32.ofNat e)) 0 128 (Int32.ofNat c)) q := OFF.tr (OFF.si (by omega)) (OFF.si (by omega))
  have OA : OFF (fun k j => (k = 0 ∧ (j = 127 ∨ j = 128 ∨ j = 129)) ∨ (92 ≤ k ∧ k ≤ 97 ∧ j = cp)) (si (si q 0 129 (Int32.ofNat e)) 0 128 (Int32.ofNat c)) w := OFF.tr (O2.mono fun k j p => by omega) (OFF.tr (O1.mono fun k j p => by omega) (O0.mono fun k j p => by omega))
  have g : ∀ j, j ≠ 127 → j ≠ 128 → j ≠ 129 → gi (si (si q 0 129 (Int32.ofNat e)) 0 128 (Int32.ofNat c)) 0 j = gi w 0 j := fun j p1 p2 p3 => (OA 0 j (by omega)).1
  refine ⟨_, rfl, H.nw (OA.mono fun k j p => by omega) (gi_si0 _ _ _ _) (by rw [gi_si1 (by omega), gi_si0]) ((g 130 (by omega) (by omega) (by omega)).trans H.2.2.2.2.1) (by rw [gi_si1 (by omega), gi_si1 (by omega)]; exact c6) ((g 131 (by omega) (by omega) (by omega)).trans H.2.2.2.2.2.2.1) ((g 132 (by omega) (by omega) (by omega)).trans H.2.2.2.2.2.2.2.1) ((g 133 (by omega) (by omega) (by omega)).trans H.2.2.2.2.2.2.2.2.1) ((g 134 (by omega) (by omega) (by omega)).trans H.2.2.2.2.2.2.2.2.2.1) ?_, ?_, OA⟩
  · obtain ⟨_, _, _, _, _, _, _, _, _, _, d1, d2, d3, d4, d5, d6, d7, d8⟩ := H
    exact ⟨hc9, he, d3, by omega, d5, d6, d7, d8⟩
  · have C1 : CTM cp (b + 1) ev 0 (Int32.ofNat (base + s)) us q := ⟨c1, c2, c3, c4, c5⟩
    exact C1.off O2 (fun k p q => by omega)
end N4
