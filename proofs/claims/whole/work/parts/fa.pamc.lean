/-! PASS 2, THE CLASS: AIMS, whole -/
section EC
variable {kd wr : Nat → Nat} {z : Nat} {fA fM : Wd} {lu : Nat → Nat} {lev cur : Nat} {pn : Nat → Int32} {m G : Nat} {C TK : Nat → Nat}
/-- an AIM, node n at TOKENS s .. e -/
def AIC (kd wr : Nat → Nat) (m z : Nat) (fA fM : Wd) (lu : Nat → Nat) (lev cur : Nat) (pn : Nat → Int32) (d n s e G : Nat) : Prop :=
  (n < 24000 ∧ s < e ∧ e ≤ m ∧ wr s + 1 ≤ wr e ∧ gi fM 12 n = Int32.ofNat s) ∧ ∀ K N, 4 * n + 3 ≤ K → G ≤ N → SPE kd wr z fA lu lev pn d s e 0 (FLX fM lu cur K 2 n 0) (fun b b' g => FLX fM lu cur K 2 n 0 = [] → CDC fM fA lu lev K 2 n 0 b b' g) (4 * (wr e - wr s) - 1) (fun w => RX2_typed N 11 (Int32.ofNat d) 1 0 w)
theorem AIC.up {d n s e G' : Nat} (h : AIC kd wr m z fA fM lu lev cur pn d n s e G) (hG : G ≤ G') : AIC kd wr m z fA fM lu lev cur pn d n s e G' := ⟨h.1, fun K N hK hN => h.2 K N hK (by omega)⟩
theorem pam_allC (hc : CTX kd wr m z C TK fA fM lu lev cur pn) {sc : Int32} : ∀ (k lo n d s e : Nat), PAM kd fM sc k lo n d s e → n < 24000 → e ≤ m → d ≤ 40 → fmA kd fA k d s → AIC kd wr m z fA fM lu lev cur pn d n s e (7 * k + 8) := by
  intro k
  induction k with
  | zero => exact fun _ _ _ _ _ h => h.elim
  | succ k ih =>
    intro lo n d s e h hn he hd hfm
    obtain ⟨hS, hFM, hPN, hwr, hz, hW, hz9, hk0⟩ := id hc
    obtain ⟨h0, h12, h13, h⟩ := h
    have hlt : s < e := by
      rcases h with ⟨q1, q2, k7, c, y, zz, e1, e2, cc, k8, k9, k10, l1, l2, l3, p1, p2, p3, p4, p5⟩ | ⟨q1, q2, k7, x, e1, k8, l1, p1, p2, p3⟩ | ⟨q1, q2, q3, k7, k9, x, e1, cx, k8, l1, p1, p2, p3⟩ | ⟨q1, q2, k7, p1⟩
      · have := xw_lt _ _ _ _ (PWR_xw k p1)
        have := amX_lt _ _ _ _ (PAM_am k p3)
        have := amX_lt _ _ _ _ (PAM_am k p5)
        omega
      · have := amX_lt _ _ _ _ (PAM_am k p1)
        omega
      · have := xw_lt _ _ _ _ (PWR_xw k p1)
        omega
      · omega
    have hwe := wr_mo hW e hlt he
    refine ⟨⟨hn, hlt, he, hwe, h12⟩, fun K N hK hN => ?_⟩
    have hs := hW s (by omega)
    rcases h with ⟨q1, q2, k7, c, y, zz, e1, e2, cc, k8, k9, k10, l1, l2, l3, p1, p2, p3, p4, p5⟩ | ⟨q1, q2, k7, x, e1, k8, l1, p1, p2, p3⟩ | ⟨q1, q2, q3, k7, k9, x, e1, cx, k8, l1, p1, p2, p3⟩ | ⟨q1, q2, k7, p1⟩
    · have x1 := PWR_xw k p1
      have x2 := PAM_am k p3
      have hlt1 := xw_lt _ _ _ _ x1
      have hlt2 := amX_lt _ _ _ _ x2
      have hlt3 := amX_lt _ _ _ _ (PAM_am k p5)
      obtain ⟨f1, f2, f3⟩ := hfm.1 q1 e1 e2 x1 x2
      obtain ⟨_, A1⟩ := pwr_allC hc k lo c (d + 1) (s + 1) e1 cc p1 (by omega) (by omega) (by omega) f1
      have A2 := ih _ _ _ _ _ p3 (by omega) (by omega) (by omega) f2
      have A3 := ih _ _ _ _ _ p5 (by omega) he (by omega) f3
      have hs1 := wr_mo hW e1 (s := s + 1) hlt1 (by omega)
      have hs2 := hW e1 (by omega)
      have hs3 := wr_mo hW e2 (s := e1 + 1) hlt2 (by omega)
      have hs4 := hW e2 (by omega)
      have hs5 := wr_mo hW e (s := e2 + 1) hlt3 he
      have e8 : nd fM 8 n = c := by
        unfold nd
        rw [k8, tc_iN (by omega)]
      have e9 : nd fM 9 n = y := by
        unfold nd
        rw [k9, tc_iN (by omega)]
      have e10 : nd fM 10 n = zz := by
        unfold nd
        rw [k10, tc_iN (by omega)]
      have hc12 : nd fM 12 c = s + 1 := A1.1.2.2.1.tk hz
      obtain ⟨K, rfl⟩ : ∃ K', K = K' + 1 := ⟨K - 1, by omega⟩
      obtain ⟨N, rfl⟩ : ∃ N', N = N' + 3 := ⟨N - 3, by omega⟩
      have htest := SPE.typed (ty := 2) (A1.2.1 K N (by omega) (by omega)) (show s + 1 < z by omega)
      rw [flx2_8 k7, e8, e9, e10, hc12, mis_dif (show (2 : Int32) ≠ 0 by decide)]
      refine (c_aimI (N := N + 1) (st := 1) q1 (by omega) p2 p4 htest (A2.2 K (N + 2) (by omega) (by omega)) (A3.2 K (N + 2) (by omega) (by omega))).wk (fun b b' g hg hL => ?_) (by omega)
      obtain ⟨b1, b2, g1, g2, g3, g4, g5⟩ := hg
      obtain ⟨L3, L4⟩ := List.append_eq_nil_iff.mp hL
      obtain ⟨L5, L6⟩ := List.append_eq_nil_iff.mp L3
      rw [cdc2_8 k7, e8, e9, e10]
      exact ⟨b1, b2, g1 (List.append_eq_nil_iff.mp L5).1, g2, g3 L6, g4, g5 L4⟩
    · obtain ⟨f1, f2⟩ := hfm.2.1 q1
      have A1 := ih _ _ _ _ _ p1 (by omega) (by omega) (by omega) f2
      have e8 : nd fM 8 n = x := by
        unfold nd
        rw [k8, tc_iN (by omega)]
      obtain ⟨K, rfl⟩ : ∃ K', K = K' + 1 := ⟨K - 1, by omega⟩
      obtain ⟨N, rfl⟩ : ∃ N', N = N' + 1 := ⟨N - 1, by omega⟩
      have hs1 := A1.1.2.2.2.1
      have hs2 := hW e1 (by omega)
      rw [flx2_9 k7, e8, p3]
      exact (c_aimG (st := 1) q1 (by rw [f1]; decide) (by omega) p2 (by omega) (A1.2 K N (by omega) (by omega))).wk (fun b b' g hg hL => by rw [cdc2_9 k7, e8]; exact hg hL) (by omega)
    · obtain ⟨f1, f2⟩ := hfm.2.2 q1
      obtain ⟨_, A1⟩ := pwr_allC hc k lo x (d + 1) (s + 2) e1 cx p1 (by omega) (by omega) (by omega) (f2 q2)
      obtain ⟨K, rfl⟩ : ∃ K', K = K' + 1 := ⟨K - 1, by omega⟩
      obtain ⟨N, rfl⟩ : ∃ N', N = N' + 2 := ⟨N - 2, by omega⟩
      rw [p3]
      exact (aim_4 (N := N) hS hwr (by omega) hz hz9 hW h12 k7 k9 q1 q2 q3 k8 l1 hn p2 (by omega) A1 (by rw [f1]; decide) (by rw [f1]; decide) (by omega) (by omega)).1
    · obtain ⟨f1, f2⟩ := hfm.2.2 q1
      obtain ⟨K, rfl⟩ : ∃ K', K = K' + 1 := ⟨K - 1, by omega⟩
      obtain ⟨N, rfl⟩ : ∃ N', N = N' + 2 := ⟨N - 2, by omega⟩
      rw [p1]
      exact aim_3 hS (by omega) hz hz9 hW h12 k7 q1 q2 (by rw [f1]; decide) (by rw [f1]; decide)
end EC
