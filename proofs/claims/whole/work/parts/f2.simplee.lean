/-! PASS 2, THE CLASS: simple EXPRS -/
section CS
variable {kd wr : Nat → Nat} {z : Nat} {fA fM : Wd} {lu : Nat → Nat} {lev cur : Nat} {pn : Nat → Int32} {base ob d0 a0 m : Nat} {pr : Nat → Nat → Sum Nat Nat} {rc : TX2_typed} {fmP : Nat → Nat → Int32} {w0 : Wd} {pT : Nat → Nat → Int32} {pL : Nat → Nat → List (Nat × Int32)} {pP : Nat → Nat → Nat → Nat → Wd → Prop} {pB : Nat → Nat → Nat}
/-- what's kept: events, and what's round it -/
def J3 (kd wr : Nat → Nat) (z : Nat) (fA : Wd) (lu : Nat → Nat) (lev : Nat) (pn : Nat → Int32) (base ob a0 : Nat) (w0 : Wd) (pT : Nat → Nat → Int32) (pL : Nat → Nat → List (Nat × Int32)) (pP : Nat → Nat → Nat → Nat → Wd → Prop) (pB : Nat → Nat → Nat) (ev : List EV) (w : Wd) : Prop := J2 wr z ob a0 (F2 a0 base ob) w0 pT pL pP pB ev w ∧ EVR kd fA lu lev pn w
theorem jx3 : JX base (J3 kd wr z fA lu lev pn base ob a0 w0 pT pL pP pB) := by
  have h2 : JX base (J2 wr z ob a0 (F2 a0 base ob) w0 pT pL pP pB) := jx2 (fun k j hk => by unfold PW2 PSG at hk; unfold F2; omega)
  refine ⟨fun ev w s h hs h1 => ⟨h2.1 ev w s h.1 hs h1, h.2.off e2_one (fun k j hk => by unfold PGE PRE at hk; omega)⟩, fun ev w s h hs h1 => ⟨h2.2.1 ev w s h.1 hs h1, h.2.off e2_two (fun k j hk => by unfold PGE PRE at hk; omega)⟩, fun ev u w h hO => ⟨h2.2.2 ev u w h.1 hO, h.2.off hO (fun k j hk => by unfold PSG at hk; omega)⟩⟩
theorem prm2 {s e : Nat} {evs : List EV} (hq : QD wr pr m s e evs 9) (hez : e ≤ z)
    (hpri : ∀ t d', ((0, t, d') : EV) ∈ evs → ∃ e', pr d' t = .inr e' ∧ SPP kd wr z fA lu lev pn d' t e' (pT t d') (pL t d') (pP t d') (pB t d') (fmP d' t) (fun w => if kd t = 2 then rc 5 (Int32.ofNat d') 0 0 w else rc 4 (Int32.ofNat d') 0 0 w)) (ho : ob ≤ 9 * d0) (hd0 : d0 ≤ 40) (ha : a0 + evB pB evs ≤ 36872) : PR2 kd wr z base d0 s pr (J3 kd wr z fA lu lev pn base ob a0 w0 pT pL pP pB) rc fmP evs := by
  intro S ev q w t e1 hT hW hd hst he hev
  have hmem : ((0, t, d0 + notS S) : EV) ∈ evs := by rw [hev]; exact List.mem_append_left _ (List.mem_append_right _ (List.mem_singleton.mpr rfl))
  obtain ⟨e', p1, p2⟩ := hpri t (d0 + notS S) hmem
  have hee : e' = e1 := by rw [he] at p1; injection p1 with p1; exact p1.symm
  subst hee
  have hok := (hq.2.1 z ob pT [] hez (by show ob + 0 + 9 < 512; omega)).1
  have hok5 := (hq.2.1 z 502 pT [] hez (by show 502 + 0 + 9 < 512; omega)).1
  rw [hev] at hok hok5
  obtain ⟨k1, _⟩ := (evOK_app _ _ []).mp hok
  obtain ⟨k2, k3⟩ := (evOK_app _ _ []).mp k1
  obtain ⟨l1, _⟩ := (evOK_app _ _ []).mp hok5
  obtain ⟨l2, l3⟩ := (evOK_app _ _ []).mp l1
  have hlen : 502 + (evStk pT ev []).length + 1 < 512 := l3.1.2
  have htz : t < z := k3.1.1
  have hB : evB pB evs = evB pB ev + (pB t (d0 + notS S) + 0) + evB pB q := by
    rw [hev, evB_app, evB_app]
    rfl
  obtain ⟨h1, h2, h3, h4, ⟨⟨h5, h6⟩, h7⟩, h8, h9⟩ := hW
  have hch := h4.le
  obtain ⟨a, ha1, hC, hf, hO, hP⟩ := h6 (by omega) k2 (by omega)
  have hG : GC2 kd wr z fA lu lev pn t a (base + S.length) (ob + (evStk pT ev []).length) w := ⟨hT, hC.1, hC.2.1, hC.2.2.1, h1, h7⟩
  obtain ⟨u, a', u1, u2⟩ := p2 w a (base + S.length) (ob + (evStk pT ev []).length) hG (by omega) (by omega) (by omega)
  have hb := u2.b
  obtain ⟨c1, c2, c3, c4, c5, c6⟩ := u2.1
  have hCu : CCS ob a' (evStk pT ev []) u := ⟨c2, c3, c4, hC.2.2.2.agr (fun k j hk j1 j2 => (u2.2.2.2.1 k j (by unfold F2; omega)).1)⟩
  obtain ⟨g1, g2⟩ := ca_push (ty := pT t (d0 + notS S)) (s := t) hCu (by omega)
  refine ⟨_, _, u1, ?_, fun j hj => ?_, c1.off g2 (fun k j hk => by omega), ⟨⟨?_, fun hob hev2 hB2 => ⟨a', by rw [evB_app]; show a0 ≤ a' ∧ a' ≤ a0 + (evB pB ev + (pB t (d0 + notS S) + 0)); omega, ?_, ?_, ?_, fun g hg => ?_⟩⟩, c6.off g2 (fun k j hk => by omega)⟩, rfl⟩
  · rw [(g2 43 4 (by omega)).1, c5, h1]
  · have e1 : ∀ k, k = 44 ∨ k = 45 → gi (fX10_push (pT t (d0 + notS S)) (Int32.ofNat t) u) k j = gi w k j := fun k hk => by
      rw [(g2 k j (by omega)).1, (u2.2.2.2.1 k j (by unfold F2; omega)).1]
    exact ⟨e1 44 (Or.inl rfl), e1 45 (Or.inr rfl)⟩
  · exact TW.off c1.tw g2 (fun k j hk => by omega)
  · rw [evStk_app]
    exact g1
  · have hfl : FLA (fX10_push (pT t (d0 + notS S)) (Int32.ofNat t) u) = FLA u := by
      unfold FLA
      rw [(g2 3 6 (by omega)).1, (g2 3 7 (by omega)).1]
    rw [hfl, u2.2.2.1, hf, evL_app, FNL_app]
    show _ = FNL wr (pL t (d0 + notS S) ++ []) _
    rw [List.append_nil]
  · exact OFF.tr (g2.mono fun k j hk => by unfold F2; omega) (OFF.tr (u2.2.2.2.1.mono fun k j hk => hk.le (by omega) (by omega) (by omega)) hO)
  · refine (evP_app _ _ _ _ _).mpr ⟨a, hP g (fun j j1 j2 => ?_), a', u2.2.2.2.2.2 g (fun j j1 j2 => ?_), rfl⟩
    · rw [hg j j1 (by omega), (g2 41 j (by omega)).2, (u2.2.2.2.1 41 j (by unfold F2; omega)).2]
    · rw [hg j (by omega) j2, (g2 41 j (by omega)).2]
theorem form_eq2 {gb : Bool} {w : Wd} {t s : Nat} {fa fm : Int32} {b : Bool} (hT : CT kd wr gb z w t fa) (hs : s ≤ t) : fX9_form (Int32.ofNat s) fm b w = si (si (si w 8 s fm) 9 s (b2i b)) 10 s (Int32.ofNat t) := by
  have hz := hT.2.1
  have htz := hT.2.2.2.2.2.2.1
  have h23 : ∀ b' : Bool, fX9_form_23 (Int32.ofNat s) b' (Int32.ofNat s) (si w 8 s fm) = si (si (si w 8 s fm) 9 s (b2i b')) 10 s (Int32.ofNat t) := by
    intro b'
    unfold fX9_form_23
    rw [ltq, rsi_iN (n := s) (m := 8193) (by omega) (by omega), ltq, rsi_iN (n := s) (m := 8193) (by omega) (by omega), gi_si1 (by omega), gi_si1 (by omega), hT.2.2.2.2.2.2.2.1]
  unfold fX9_form
  rw [ltq, rsi_iN (n := s) (m := 8193) (by omega) (by omega)]
  cases b
  · rw [if_neg (by decide)]; exact h23 false
  · rw [if_pos rfl]; exact h23 true
theorem CT.off2 {P : Nat → Nat → Prop} {u w : Wd} {t : Nat} {fa : Int32} (h : CT kd wr false z w t fa) (hO : OFF P u w) (hP : ∀ k j, P k j → k ≠ 4 ∧ k ≠ 5 ∧ k ≠ 6) : CT kd wr false z u t fa := by
  obtain ⟨h1, h2, h3, h4, h5, h6, h7, h8, h9, h10⟩ := h
  have g : ∀ k j, (k = 4 ∨ k = 5 ∨ k = 6) → gi u k j = gi w k j := fun k j hk => (hO k j (fun hp => by have := hP k j hp; omega)).1
  exact ⟨h1, h2, h3, h4, by rw [g 4 8 (by omega)]; exact h5, fun i hi => by rw [g 5 i (by omega), g 6 i (by omega)]; exact h6 i hi, h7, by rw [g 4 9 (by omega)]; exact h8, by rw [g 4 10 (by omega)]; exact h9, fun hb => absurd hb (by decide)⟩
/-- a form that it has already -/
theorem EC.form {t s a a1 : Nat} {w u : Wd} {L : List (Nat × Int32)} {P : Nat → Nat → Wd → Prop} {B : Nat} {fm : Int32} {b : Bool} (h : EC kd wr z fA lu lev pn base ob t a a1 w u L P B) (hs : s ≤ t) (h8 : gi fA 8 s = fm) (h10 : gi fA 10 s = Int32.ofNat t) (h9 : b = true ↔ gi fA 9 s ≠ 0) : EC kd wr z fA lu lev pn base ob t a a1 w (fX9_form (Int32.ofNat s) fm b u) L P B := by
  obtain ⟨⟨g1, g2, g3, g4, g5, g6, g7, g8, g9, g10, g11, g12⟩, e2, e3, e4, e5, e6⟩ := h
  rw [form_eq2 g1 hs]
  have h8' : gi u 8 s = fm := by rw [(g12 s).1, h8]
  have h10' : gi u 10 s = Int32.ofNat t := by rw [(g12 s).2.1, h10]
  have hO : OFF (fun k j => k = 9 ∧ j = s) (si (si (si u 8 s fm) 9 s (b2i b)) 10 s (Int32.ofNat t)) u := fun k j hk => by
    refine ⟨?_, rfl⟩
    by_cases q10 : k = 10 ∧ j = s
    · rw [q10.1, q10.2, gi_si0]; exact h10'.symm
    · rw [gi_si1 (by omega), gi_si1 (by omega)]
      by_cases q8 : k = 8 ∧ j = s
      · rw [q8.1, q8.2, gi_si0]; exact h8'.symm
      · rw [gi_si1 (by omega)]
  refine ⟨⟨g1.off2 hO (fun k j hk => by omega), by rw [(hO 3 5 (by omega)).1]; exact g2, by rw [(hO 40 1 (by omega)).1]; exact g3, by rw [(hO 43 5 (by omega)).1]; exact g4, by rw [(hO 43 4 (by omega)).1]; exact g5, fun k j hk => by rw [(hO k j (by omega)).1]; exact g6 k j hk, fun j => by rw [(hO 7 j (by omega)).2]; exact g7 j, fun tk hk => ⟨(find_off hO (fun k j hk => by omega) _).trans (g8 tk hk).1, (g8 tk hk).2⟩, by rw [(hO 34 5 (by omega)).1]; exact g9, g10, fun l hl => by rw [(hO 35 l (by omega)).1]; exact g11 l hl, fun j => ?_⟩, e2, ?_, OFF.tr (hO.mono fun k j hk => by unfold F2; omega) e4, e5, fun g hg => e6 g (fun j j1 j2 => by rw [hg j j1 j2, (hO 41 j (by omega)).2])⟩
  · obtain ⟨f1, f2, f3⟩ := g12 j
    refine ⟨by rw [(hO 8 j (by omega)).1]; exact f1, by rw [(hO 10 j (by omega)).1]; exact f2, ?_⟩
    by_cases qj : j = s
    · rw [qj, gi_si1 (by omega), gi_si0, ← h9]
      cases b
      · exact ⟨fun g => absurd rfl g, fun g => absurd g (by decide)⟩
      · exact ⟨fun _ => rfl, fun _ => by decide⟩
    · rw [(hO 9 j (by omega)).1]
      exact f3
  · rw [← e3]
    unfold FLA
    rw [(hO 3 6 (by omega)).1, (hO 3 7 (by omega)).1]
end CS
