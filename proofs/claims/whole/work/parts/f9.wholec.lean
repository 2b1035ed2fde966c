/-! PASS 2, THE CLASS: EXPRS and AIMS, whole -/
section EC
variable {kd wr : Nat → Nat} {z : Nat} {fA fM : Wd} {lu : Nat → Nat} {lev cur : Nat} {pn : Nat → Int32} {m G : Nat} {C TK : Nat → Nat}
theorem tyx_8 {k n : Nat} (h : gi fM 7 n = 8) : TYX fM lu (k + 1) n = (if TYX fM lu k (nd fM 9 n) ≠ 0 ∧ TYX fM lu k (nd fM 10 n) ≠ 0 ∧ TYX fM lu k (nd fM 9 n) ≠ TYX fM lu k (nd fM 10 n) then 0 else if TYX fM lu k (nd fM 9 n) ≠ 0 then TYX fM lu k (nd fM 9 n) else TYX fM lu k (nd fM 10 n)) := by
  rw [TYX, if_neg (by rw [h]; decide), if_neg (by rw [h]; decide), if_neg (by rw [h]; decide), if_neg (by rw [h]; decide), if_neg (by rw [h]; decide), if_neg (by rw [h]; decide), if_pos h]
theorem simple_15 {k d t e : Nat} {evs : List EV} (h : rd kd (xp kd k) 9 d t = .inr (e, evs)) : kd t ≠ 15 := fun h15 => by
  have hlt : ∀ d t e, xp kd k d t = .inr e → t < e := fun d t e h => xp_lt k d t e h
  obtain ⟨_, hhd⟩ := rd_qt hlt 9 d t (e, evs) h
  obtain ⟨q9, hq9⟩ := hhd (by omega) (by omega) (by omega)
  have hq9 : evs = (0, t, d) :: q9 := hq9
  obtain ⟨_, e', g1, _⟩ := rd_pq hlt 9 d t (e, evs) h (0, t, d) (by show (0, t, d) ∈ evs; rw [hq9]; exact List.mem_cons_self) rfl
  have g1 : prX kd (xw kd k) d t = .inr e' := g1
  unfold prX at g1
  rw [if_neg (by omega), if_neg (by omega), if_neg (by omega)] at g1
  exact nomatch g1
theorem ex_120e {rc : TX2_typed} {a b : Int32} {bo : Bool} {a5 a7 a8 : Int32} {w : Wd} : fX2_expression_120 rc a b bo a5 a7 a8 w = some (if a5 ≠ 0 ∧ a8 ≠ 0 ∧ a5 ≠ a8 then 0 else if a5 ≠ 0 then a5 else a8, fX1_check a5 a8 a7 (fX9_form a b bo w)) := by
  unfold fX2_expression_120
  rw [ltq, ltq]
  by_cases q0 : a5 = 0
  · rw [if_pos q0, if_neg (fun g => g.1 q0), if_neg (fun g => g q0)]
  · rw [if_neg q0]
    by_cases q1 : a5 = a8
    · rw [if_pos q1, if_neg (fun g => g.2.2 q1), if_pos q0, q1]
    · rw [if_neg q1]
      by_cases q8 : a8 = 0
      · rw [if_pos q8, if_neg (fun g => g.2.1 q8), if_pos q0]
      · rw [if_neg q8, if_pos ⟨q0, q8, q1⟩]
theorem ALC.up {d n s e cn G' : Nat} (h : ALC kd wr m z fA fM lu lev cur pn d n s e cn G) (hG : G ≤ G') : ALC kd wr m z fA fM lu lev cur pn d n s e cn G' := by
  obtain ⟨h1, h2, h3, h4, h5, h6⟩ := h
  exact ⟨h1, fun K N hK hN => h2 K N hK (by omega), fun hc K N hK hN => h3 hc K N hK (by omega), fun K N hK hN => h4 K N hK (by omega), fun hp K N f hf hK hN => h5 hp K N f hf hK (by omega), h6⟩
theorem pwr_allC (hc : CTX kd wr m z C TK fA fM lu lev cur pn) {sc : Int32} : ∀ (k lo n d s e cn : Nat), PWR kd fM sc k lo n d s e cn → n < 24000 → e ≤ m → d ≤ 40 → fmW kd fA k d s → s < e ∧ ALC kd wr m z fA fM lu lev cur pn d n s e cn (7 * k + 8) := by
  intro k
  induction k with
  | zero => exact fun _ _ _ _ _ _ h => h.elim
  | succ k ih =>
    intro lo n d s e cn h hn he hd hfm
    obtain ⟨hS, hFM, hPN, hwr, hz, hW, hz9, hk0⟩ := id hc
    have IH : ∀ lo x d s e cn, PWR kd fM sc k lo x d s e cn → x < 24000 → e ≤ m → d ≤ 40 → fmW kd fA k d s → s < e ∧ ALC kd wr m z fA fM lu lev cur pn d x s e cn (7 * k + 8) := ih
    rcases h with ⟨q1, q2, h0, k7, h12, h45, c, y, zz, e1, e2, cc, cy, cz, k8, k9, k10, l1, l2, l3, p1, p2, p3, p4, p5, p6⟩ | ⟨q1, h1⟩
    · have x1 := PWR_xw k p1
      have x2 := PSM_sm p3
      have x3 := PWR_xw k p5
      obtain ⟨f1, f2, f3, f4, f5, f6⟩ := hfm.2 q1 e1 e2 e x1 x2 x3
      have hlt3 := xw_lt _ _ _ _ x3
      have hlt2 : e1 + 1 < e2 := smX_lt (fun d t e h => xp_lt k d t e h) x2
      have hlt1 := xw_lt _ _ _ _ x1
      obtain ⟨_, A1⟩ := IH lo c (d + 1) (s + 1) e1 cc p1 (by omega) (by omega) (by omega) f1
      have h15y : kd (e1 + 1) ≠ 15 := by
        obtain ⟨evs, q, hrd, _⟩ := p3
        exact simple_15 hrd
      obtain ⟨_, A2, A2s⟩ := alc_psm hc p3 f2 IH h15y (by omega) (by omega) (by omega)
      obtain ⟨_, A3⟩ := IH (y + 1) zz (d + 1) (e2 + 1) e cz p5 (by omega) he (by omega) f3
      have hs := hW s (by omega)
      have hs1 := wr_mo hW e1 (s := s + 1) hlt1 (by omega)
      have hs2 := hW e1 (by omega)
      have hs3 := wr_mo hW e2 (s := e1 + 1) hlt2 (by omega)
      have hs4 := hW e2 (by omega)
      have hs5 := wr_mo hW e (s := e2 + 1) hlt3 he
      have hse : s < e := by omega
      have e8 : nd fM 8 n = c := by
        unfold nd
        rw [k8, tc_iN (by omega)]
      have e9 : nd fM 9 n = y := by
        unfold nd
        rw [k9, tc_iN (by omega)]
      have e10 : nd fM 10 n = zz := by
        unfold nd
        rw [k10, tc_iN (by omega)]
      have hc12 : nd fM 12 c = s + 1 := A1.1.2.2.1.tk hz
      have hz12 : nd fM 12 zz = e2 + 1 := A3.1.2.2.1.tk hz
      have n3 : gi fM 7 n ≠ 3 := by rw [k7]; decide
      have n4 : gi fM 7 n ≠ 4 := by rw [k7]; decide
      have hD : NDF kd wr z fA fM n s e := ⟨hse, by omega, by omega, h12, ⟨fun g => absurd g n3, fun g => by rw [f4] at g; exact absurd g (by decide)⟩, ⟨fun g => absurd g n4, fun g => by rw [f4] at g; exact absurd g (by decide)⟩, fun g => g.elim (fun g => absurd g n3) (fun g => absurd g n4), fun g => absurd g n3, f5⟩
      have h9y := A2.1.2.2.2.2.2
      have h9z := A3.1.2.2.2.2.2
      have hcn : cn = 3 ↔ cy = 3 ∧ cz = 3 := by
        rw [p6]
        by_cases q : cy = 3 ∧ cz = 3
        · rw [if_pos q]; exact ⟨fun _ => q, fun _ => rfl⟩
        · rw [if_neg q]; exact ⟨fun g => absurd g (by decide), fun g => absurd g q⟩
      have h9s : gi fA 9 s ≠ 0 ↔ cn = 3 := by rw [f6, h9y, h9z, hcn]
      have hcn13 : cn = 1 ∨ cn = 3 := by
        rw [p6]
        split
        · exact Or.inr rfl
        · exact Or.inl rfl
      have htest : ∀ K N, 4 * c + 1 ≤ K → 7 * k + 8 + 1 ≤ N → SPE kd wr z fA lu lev pn (d + 1) (s + 1) e1 0 (FLX fM lu cur K 0 c 0 ++ misT (TYX fM lu K c) 2 (s + 1)) (fun b b' g => FLX fM lu cur K 0 c 0 = [] → CDC fM fA lu lev K 0 c 0 b b' g) (4 * (wr e1 - wr (s + 1)) - 1) (fun w => RX2_typed N 0 (Int32.ofNat (d + 1)) 2 0 w) := fun K N hK hN => by
        obtain ⟨N, rfl⟩ : ∃ N', N = N' + 1 := ⟨N - 1, by omega⟩
        have := SPE.typed (ty := 2) (A1.2.1 K N hK (by omega)) (show s + 1 < z by omega)
        rw [mis_dif (show (2 : Int32) ≠ 0 by decide)]
        exact this
      have hM2 : ∀ K, 4 * n + 1 ≤ K + 1 → MSR kd lu s e (FLX fM lu cur K 0 c 0 ++ misT (TYX fM lu K c) 2 (s + 1)) := fun K hK => ((A1.ms0 (by omega)).1.wd (by omega) (by omega)).app (MSR.mis (by omega) (by omega))
      refine ⟨hse, ⟨hn, he, hD, h45, hcn13, h9s⟩, fun K N hK hN => ?_, fun h3 K N hK hN => ?_, fun K N hK hN => ?_, fun g => g.elim (fun g => absurd g n3) (fun g => absurd g n4), fun K hK => ⟨?_, fun h3 => ?_, fun hK3 => ?_, fun g => g.elim (fun g => absurd g n3) (fun g => absurd g n4)⟩⟩
      · -- an EXPR
        obtain ⟨K, rfl⟩ : ∃ K', K = K' + 1 := ⟨K - 1, by omega⟩
        obtain ⟨N, rfl⟩ : ∃ N', N = N' + 2 := ⟨N - 2, by omega⟩
        intro w a base ob hw hb ho ha
        obtain ⟨a1, a2, w2, w3, w5, w6, yy, w7, a3, r1, r2, r3, r4, r5, r6, r7, r8⟩ := c_if (d := d) q1 (by omega) p2 p4 (htest K N (by omega) (by omega)) (A2s K (N + 1) (by omega) (by omega)) (A3.2.1 K (N + 1) (by omega) (by omega)) hw hb ho (by omega)
        have r1' : RX2_typed (N + 1) 1 (Int32.ofNat d) 0 0 w = some (Int32.ofNat a1, w2) := r1
        have r3' : RX2_typed (N + 1) 3 (Int32.ofNat (d + 1)) 0 0 w2 = some (TYX fM lu K y, w3) := r3
        have r6' : RX2_typed (N + 1) 2 (Int32.ofNat (d + 1)) 0 0 w5 = some (TYX fM lu K zz, w6) := r6
        have g9 := r8.1.2.2.2.2.2.2.2.2.2.2.2
        have ha9 : ∀ t, t < 8193 → (fX9_isAim (Int32.ofNat t) w7 = true ↔ gi fA 9 t ≠ 0) := fun t ht => by rw [is9 ht, (g9 t).2.2]
        have hb9 : (fX9_isAim (Int32.ofNat (e1 + 1)) w7 && fX9_isAim (Int32.ofNat (e2 + 1)) w7) = true ↔ gi fA 9 s ≠ 0 := by
          rw [Bool.and_eq_true, ha9 _ (by omega), ha9 _ (by omega), f6]
        have E1 := r8.form (s := s) (fm := 5) (b := fX9_isAim (Int32.ofNat (e1 + 1)) w7 && fX9_isAim (Int32.ofNat (e2 + 1)) w7) (by omega) f4 f5 hb9
        have E2 := E1.seq (EC.check (x := TYX fM lu K y) (y := TYX fM lu K zz) (s := e2 + 1) E1.1 (by omega))
        refine ⟨_, a3, ?_, (E2.wk (fun b b' g hg hL => ?_) (by omega)).cL ?_⟩
        · show fX2_expression (RX2_typed (N + 1)) (Int32.ofNat d) w = _
          have hx : fX2_expression (RX2_typed (N + 1)) (Int32.ofNat d) w = fX2_expression_120 (RX2_typed (N + 1)) (Int32.ofNat s) 5 (fX9_isAim (Int32.ofNat (e1 + 1)) w7 && fX9_isAim (Int32.ofNat (e2 + 1)) w7) (TYX fM lu K y) (Int32.ofNat (e2 + 1)) (TYX fM lu K zz) w7 := by
            unfold fX2_expression
            rw [ltq, ltq, a_at hw.1, a_kind hw.1, if_pos (show Int32.ofNat (kd s) = 15 by rw [q1]; rfl), r1', bn2_so, ltq, r2, ad1_iN, r3', bn2_so, r4, ltq, r5, r6', bn2_so, r7, lt2q, ltq, ltq]
            cases fX9_isAim (Int32.ofNat (e1 + 1)) w7
            · rw [if_neg (by decide)]; rfl
            · rw [if_pos rfl]
              cases fX9_isAim (Int32.ofNat (e2 + 1)) w7
              · rw [if_neg (by decide)]; rfl
              · rw [if_pos rfl]; rfl
          rw [hx, ex_120e, tyx_8 k7, e9, e10]
        · obtain ⟨b9, ⟨b1, b2, g1, g2, g3, g4, g5⟩, g6⟩ := hg
          rw [flx0_8 k7, e8, e9, e10] at hL
          obtain ⟨L1, L2⟩ := List.append_eq_nil_iff.mp hL
          obtain ⟨L3, L4⟩ := List.append_eq_nil_iff.mp L1
          obtain ⟨L5, L6⟩ := List.append_eq_nil_iff.mp L3
          rw [cdc0_8 k7, e8, e9, e10, g6]
          exact ⟨b1, b2, g1 (List.append_eq_nil_iff.mp L5).1, g2, g3 L6, g4, g5 L4⟩
        · rw [flx0_8 k7, e8, e9, e10, hc12, hz12]
          congr 1
          by_cases q0 : TYX fM lu K y ≠ 0
          · rw [if_pos q0, mis_dif q0]
          · rw [if_neg q0]
            unfold difT
            rw [if_neg (fun g => q0 g.1)]
      · -- NAMES only
        obtain ⟨K, rfl⟩ : ∃ K', K = K' + 1 := ⟨K - 1, by omega⟩
        obtain ⟨N, rfl⟩ : ∃ N', N = N' + 2 := ⟨N - 2, by omega⟩
        obtain ⟨c3, c4⟩ := hcn.mp h3
        rw [flx3_8 k7, e8, e9, e10, hc12]
        exact (c_aimI (st := 0) q1 (by omega) p2 p4 (htest K N (by omega) (by omega)) (A2.2.2.1 c3 K (N + 1) (by omega) (by omega)) (A3.2.2.1 c4 K (N + 1) (by omega) (by omega))).wk (fun _ _ _ _ => trivial) (by omega)
      · -- an AIM
        obtain ⟨K, rfl⟩ : ∃ K', K = K' + 1 := ⟨K - 1, by omega⟩
        obtain ⟨N, rfl⟩ : ∃ N', N = N' + 2 := ⟨N - 2, by omega⟩
        rw [flx2_8 k7, e8, e9, e10, hc12]
        refine (c_aimI (st := 1) q1 (by omega) p2 p4 (htest K N (by omega) (by omega)) (A2.2.2.2.1 K (N + 1) (by omega) (by omega)) (A3.2.2.2.1 K (N + 1) (by omega) (by omega))).wk (fun b b' g hg hL => ?_) (by omega)
        obtain ⟨b1, b2, g1, g2, g3, g4, g5⟩ := hg
        obtain ⟨L3, L4⟩ := List.append_eq_nil_iff.mp hL
        obtain ⟨L5, L6⟩ := List.append_eq_nil_iff.mp L3
        rw [cdc2_8 k7, e8, e9, e10]
        exact ⟨b1, b2, g1 (List.append_eq_nil_iff.mp L5).1, g2, g3 L6, g4, g5 L4⟩
      · obtain ⟨K, rfl⟩ : ∃ K', K = K' + 1 := ⟨K - 1, by omega⟩
        rw [flx0_8 k7, e8, e9, e10, hc12, hz12]
        refine ⟨(((hM2 K (by omega)).app ((A2.ms0 (by omega)).1.wd (by omega) (by omega))).app ((A3.ms0 (by omega)).1.wd (by omega) (by omega))).app ?_, fun g => by omega⟩
        split
        · exact MSR.mis (by omega) (by omega)
        · exact MSR.nil
      · obtain ⟨K, rfl⟩ : ∃ K', K = K' + 1 := ⟨K - 1, by omega⟩
        obtain ⟨c3, c4⟩ := hcn.mp h3
        rw [flx3_8 k7, e8, e9, e10, hc12]
        exact ⟨((hM2 K (by omega)).app ((A2.ms3 c3 (by omega)).1.wd (by omega) (by omega))).app ((A3.ms3 c4 (by omega)).1.wd (by omega) (by omega)), fun g => by omega⟩
      · obtain ⟨K, rfl⟩ : ∃ K', K = K' + 1 := ⟨K - 1, by omega⟩
        rw [flx2_8 k7, e8, e9, e10, hc12]
        exact ((hM2 K (by omega)).app ((A2.ms2 (by omega)).wd (by omega) (by omega))).app ((A3.ms2 (by omega)).wd (by omega) (by omega))
    · obtain ⟨g1, g2, _⟩ := alc_psm hc h1 (hfm.1 q1) IH q1 hn he hd
      exact ⟨g1, g2.up (by omega)⟩
end EC
