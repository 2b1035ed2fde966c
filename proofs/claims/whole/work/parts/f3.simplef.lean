/-! PASS 2, THE CLASS: simple EXPRS, with their nodes -/
section CS
variable {kd wr : Nat → Nat} {z : Nat} {fA fM : Wd} {lu : Nat → Nat} {lev cur : Nat} {pn : Nat → Int32} {m k : Nat} {rc : TX2_typed} {W : PWT} {sc : Int32} {nn kk : Nat → Nat} {q K lo n d s e cn : Nat} {evs : List EV}
/-- most words of a PRIMARY -/
def pBX (kd wr : Nat → Nat) (k t d : Nat) : Nat := match xp kd k d t with
  | .inl _ => 0
  | .inr e => 4 * (wr e - wr t) - 1
theorem pBX_e {t e' : Nat} (h : xp kd k d t = .inr e') : pBX kd wr k t d = 4 * (wr e' - wr t) - 1 := by
  unfold pBX
  rw [h]
theorem c_simpleE (hwr : ∀ i, wr i ≤ 8192) (hW : ∀ i, i < m → wr i + 1 ≤ wr (i + 1)) (hz9 : m < z) (hk9 : ∀ i, 9000 ≤ i → kd i = 0) (hrd : rd kd (xp kd k) 9 d s = .inr (e, evs)) (hN : PEVN kd fM W sc nn kk q K lo n d s evs cn) (hn : n < 24000) (hK : 4 * n + 1 ≤ K) (he : e ≤ m) (hd : d ≤ 40)
    (hpri : ∀ t d', ((0, t, d') : EV) ∈ evs → ∀ e', xp kd k d' t = .inr e' → e' ≤ m → SPP kd wr z fA lu lev pn d' t e' (pTN fM lu nn kk t d') (pLN fM lu cur nn kk t d') (pPN fM fA lu lev cur nn kk t d') (4 * (wr e' - wr t) - 1) (fmX kd k d' t) (fun w => if kd t = 2 then rc 5 (Int32.ofNat d') 0 0 w else rc 4 (Int32.ofNat d') 0 0 w))
    (hms : ∀ x ∈ FLX fM lu cur K 0 n 0, x.2 ≠ 0) (h10 : gi fA 10 s = Int32.ofNat e) (h8 : gi fA 8 s = (if evs = [(0, s, d)] then fmX kd k d s else 6)) (h9 : gi fA 9 s ≠ 0 ↔ (gi fA 8 s = 1 ∨ gi fA 8 s = 2 ∨ gi fA 8 s = 4 ∧ gi fA 9 (s + 1) ≠ 0)) :
    SPE kd wr z fA lu lev pn d s e (TYX fM lu K n) (FLX fM lu cur K 0 n 0) (fun b b' g => FLX fM lu cur K 0 n 0 = [] → CDC fM fA lu lev K 0 n 0 b b' g) (4 * (wr e - wr s) - 1) (fun w => fX2_simple rc (Int32.ofNat d) w) := by
  intro w a base ob hw hb ho ha
  have hz := hw.1.2.1
  have hlt : ∀ d t e, xp kd k d t = .inr e → t < e := fun d t e h => xp_lt k d t e h
  have hq := rd_qd (kd := kd) (pr := xp kd k) hW hlt 9 d s (e, evs) hrd
  have hq9 : QD wr (xp kd k) m s e evs 9 := hq
  have hpq := rd_pq hlt 9 d s (e, evs) hrd
  have hse : s < e := hq.1
  have hm1 := wr_mo hW e hse he
  have hB : evB (pBX kd wr k) evs + 1 ≤ 4 * (wr e - wr s) := hq.2.2.1 (pBX kd wr k) he (fun d t e' he' hx => by
    have := wr_mo hW e' (hlt _ _ _ hx) he'
    rw [pBX_e hx]
    omega)
  have hP := prm2 (fmP := fmX kd k) (rc := rc) (base := base) (ob := ob) (d0 := d) (a0 := a) (w0 := w) (pT := pTN fM lu nn kk) (pL := pLN fM lu cur nn kk) (pP := pPN fM fA lu lev cur nn kk) (pB := pBX kd wr k) (pn := pn) (lev := lev) (lu := lu) (fA := fA) (kd := kd) hq9 (show e ≤ z by omega) (fun t d' ht => by
    obtain ⟨_, e', g1, g2⟩ := hpq (0, t, d') ht rfl
    have g1 : xp kd k d' t = .inr e' := g1
    have g2 : e' ≤ e := g2
    refine ⟨e', g1, ?_⟩
    rw [pBX_e g1]
    exact hpri t d' ht e' g1 (by omega)) ho hd (by omega)
  obtain ⟨hT, h35, h40, h43, h44, hE⟩ := hw
  have hW0 : CW (J3 kd wr z fA lu lev pn base ob a w (pTN fM lu nn kk) (pLN fM lu cur nn kk) (pPN fM fA lu lev cur nn kk) (pBX kd wr k)) base d [] [] w :=
    ⟨h44, trivial, fun x hx => absurd hx (by simp), trivial, ⟨⟨hT.tw, fun _ _ _ => ⟨a, ⟨Nat.le_refl _, Nat.le_add_right _ _⟩, ⟨h35, h40, h43, trivial⟩, rfl, OFF.rf, fun _ _ => rfl⟩⟩, hE⟩, hb, by show d + 0 ≤ 41; omega⟩
  obtain ⟨w', fm, r1, r2, r3, r4, r5⟩ := c_simple2 (J := J3 kd wr z fA lu lev pn base ob a w (pTN fM lu nn kk) (pLN fM lu cur nn kk) (pPN fM fA lu lev cur nn kk) (pBX kd wr k)) jx3 hlt hrd (fun d t h => prX_0 (by omega)) hP hT hW0 hd
  obtain ⟨g1, g2, g3, g4, ⟨⟨g5, g6⟩, g7⟩, g8, g9⟩ := r3
  have hok := (hq.2.1 z ob (pTN fM lu nn kk) [] (by omega) (by show ob + 0 + (1 + 8) < 512; omega)).1
  obtain ⟨a', k1, k2, k3, k4, k5⟩ := g6 (by omega) hok (by omega)
  obtain ⟨⟨_, h12⟩, hall⟩ := pevn_all (fA := fA) (lev := lev) (lu := lu) (cur := cur) hk9 q K lo n d s evs cn hN hn hK
  obtain ⟨m1, m2, m3⟩ := hall []
  rw [m1] at k2
  have hG1 : GC2 kd wr z fA lu lev pn e a' base (ob + 1) w' := ⟨r2, k2.1, k2.2.1, k2.2.2.1, g1, g7⟩
  have hfm : gi fA 8 s = fm := by rw [h8, r5]
  have hb9 : amB fm s w' = true ↔ gi fA 9 s ≠ 0 := by
    rw [h9, hfm]
    unfold amB
    by_cases q1 : fm = 1 ∨ fm = 2
    · rw [if_pos q1]
      exact ⟨fun _ => q1.elim Or.inl (fun g => Or.inr (Or.inl g)), fun _ => rfl⟩
    · rw [if_neg q1]
      by_cases q4 : fm = 4
      · rw [if_pos q4, is9 (by omega), (g7.2.2.2.2.2.2 (s + 1)).2.2]
        exact ⟨fun g => Or.inr (Or.inr ⟨q4, g⟩), fun g => g.elim (fun g => absurd (Or.inl g) q1) (fun g => g.elim (fun g => absurd (Or.inr g) q1) (fun g => g.2))⟩
      · rw [if_neg q4]
        exact ⟨fun g => absurd g (by decide), fun g => g.elim (fun g => absurd (Or.inl g) q1) (fun g => g.elim (fun g => absurd (Or.inr g) q1) (fun g => absurd g.1 q4))⟩
  have hF := (EC.no hG1).form (s := s) (fm := fm) (b := amB fm s w') (by omega) hfm h10 hb9
  generalize hx : fX9_form (Int32.ofNat s) fm (amB fm s w') w' = x at hF
  have hCx : CCS ob a' [(TYX fM lu K n, s)] x := ⟨hF.1.2.1, hF.1.2.2.1, hF.1.2.2.2.1, k2.2.2.2.agr (fun k j hk j1 j2 => (hF.2.2.2.1 k j (by unfold F2; have : j < ob + 1 := j2; omega)).1)⟩
  obtain ⟨u, u1, u2, u3⟩ := ca_pop hCx (by show ob + 0 < 512; omega)
  refine ⟨u, a', ?_, ⟨hF.1.1.off2 u3 (fun k j hk => by omega), u2.1, u2.2.1, u2.2.2.1, by rw [(u3 43 4 (by omega)).1]; exact hF.1.2.2.2.2.1, hF.1.2.2.2.2.2.off u3 (fun k j hk => by omega)⟩, hms, ?_, ?_, ⟨k1.1, by omega⟩, fun g hg hL => m3 hL _ _ _ (k5 g (fun j j1 j2 => ?_))⟩
  · show fX2_simple rc (Int32.ofNat d) w = _
    rw [r1, c_129, hx, u1]
  · have hfu : FLA u = FLA x := by
      unfold FLA
      rw [(u3 3 6 (by omega)).1, (u3 3 7 (by omega)).1]
    have hfx : FLA x = FLA w' := hF.2.2.1
    rw [hfu, hfx, k3]
    exact (FNL_perm m2 hms _).symm
  · exact OFF.tr (u3.mono fun k j hk => by unfold F2; omega) (OFF.tr (hF.2.2.2.1.mono fun k j hk => hk.le (by omega) (Nat.le_refl _) (by omega)) k4)
  · rw [hg j j1 j2, (u3 41 j (by omega)).2, (hF.2.2.2.1 41 j (by unfold F2; omega)).2]
/-- its faults lie in it -/
theorem c_simpleM (hk9 : ∀ i, 9000 ≤ i → kd i = 0) (hrd : rd kd (xp kd k) 9 d s = .inr (e, evs)) (hN : PEVN kd fM W sc nn kk q K lo n d s evs cn) (hn : n < 24000) (hK : 4 * n + 1 ≤ K)
    (hms : ∀ t d', ((0, t, d') : EV) ∈ evs → ∀ e', xp kd k d' t = .inr e' → MSF kd lu t e' (pLN fM lu cur nn kk t d')) : MSF kd lu s e (FLX fM lu cur K 0 n 0) := by
  have hlt : ∀ d t e, xp kd k d t = .inr e → t < e := fun d t e h => xp_lt k d t e h
  have hpq := rd_pq hlt 9 d s (e, evs) hrd
  obtain ⟨⟨_, hqt⟩, hhd⟩ := rd_qt hlt 9 d s (e, evs) hrd
  obtain ⟨_, h2, h3⟩ := pevn_ms (t0 := s) (e0 := e) (lu := lu) (cur := cur) hk9 q K lo n d s evs cn hN hn hK hqt (fun t d' ht x hx => by
    obtain ⟨g0, e', g1, g2⟩ := hpq (0, t, d') ht rfl
    have g0 : s ≤ t := g0
    have g1 : xp kd k d' t = .inr e' := g1
    have g2 : e' ≤ e := g2
    obtain ⟨a, b, c, d9⟩ := (hms t d' ht e' g1).1 x hx
    exact ⟨a, by omega, by omega, d9⟩)
  refine ⟨h2, fun hk hl => ?_⟩
  obtain ⟨q9, hq9⟩ := hhd (by omega) (by omega) (by omega)
  have hq9 : evs = (0, s, d) :: q9 := hq9
  have hmem : ((0, s, d) : EV) ∈ evs := by rw [hq9]; exact List.mem_cons_self
  obtain ⟨_, e', g1, _⟩ := hpq (0, s, d) hmem rfl
  exact h3 s d (by rw [hq9]; rfl) _ ((hms s d hmem e' g1).2 hk hl)
end CS
