/-! BOTH MACHINES: a VALUE is worked out, while a call is pending -/
section KD3
variable {E : SENV} {K : CXT} {Lim p nx a a1 b b1 b2 h sp sc i el j S k n f ac y th a0 b0 h0 sp0 hh q c s : Nat} {x x1 : Int} {wA wM uA uM zA zM : Wd} {A B N : ACT} {F : Nat → Int64} {stk : List Nat} {ty : Int32}
/-- pending: N is begun, but not on -/
def PNO (E : SENV) (K : CXT) (S : Nat) (N : ACT) : Prop := ¬ aOn N ∧ N.1 4 = K.2.2 3 + 1 ∧ N.1 7 = K.2.2 4 + 1 ∧ aB N = K.2.2 2 ∧ aX N = KK ∧ S ≤ eNo E 5 7 ∧ KST E K ∧ K.2.2 2 + S ≤ 199000
def PEND (E : SENV) (K : CXT) (S : Nat) (N : ACT) (a b h sp sc : Nat) (x : Int) (i : Nat) (wA wM : Wd) : Prop := JPS E (callK K S (fun r => gl wM 83 r) N) (K.2.2 5) a b K.1.length h sp sc x i wA wM
/-- time may pass -/
theorem JS.up (H : JS E K el a b h sp sc x i wA wM) (h1 : x ≤ x1) (h2 : x1 ≤ KK) : JS E K el a b h sp sc x1 i wA wM := by
  obtain ⟨A', pr, de, fu, j1, j2, j3, j4, j5, j6, j7, j8, j9, j10, ⟨j11, j12, j13, j14, j15⟩, o1, o2⟩ := H
  exact ⟨A', pr, de, fu, j1, j2, j3, j4, j5, j6, j7, j8, j9, j10, ⟨j11, j12, by omega, h2, j15⟩, o1, o2⟩
theorem PEND.up (H : PEND E K S N a b h sp sc x i wA wM) (h1 : x ≤ x1) (h2 : x1 ≤ KK) : PEND E K S N a b h sp sc x1 i wA wM := ⟨H.1, H.2.1, H.2.2.1, H.2.2.2.up h1 h2⟩
theorem PNO.kst (h : PNO E K S N) : KST E (callK K S F N) := h.2.2.2.2.2.2.1.call h.1 ⟨Nat.le_of_eq h.2.1, Nat.le_of_eq h.2.2.1, by have := h.2.2.2.1; have := h.2.2.2.2.2.2.2; omega⟩ h.2.2.2.2.2.1 (by have := h.2.2.2.2.2.2.2; omega)
/-- the end of a VALUE: k words of the class, j codes of the reference -/
theorem VAL.fin (hE : EOKS E) (hP : PNO E K S N) (J : JS E (valK (callK K S F N)) (K.2.2 5) a b h0 sp0 sc x i wA wM) (hA : K.1[K.2.2 0]? = some A) (hon : aOn A) (L : LOWK (callK K S F N) hh sp) (hT : TKS k wA uA) (C : CK (cA E) (eNo E 5 0) a1 (aF A) (K.2.2 1) (hh + 1) (K.2.2 3 + 1) (K.2.2 5) uA) (OA : OFF (fun k j => (k = 48 ∧ (j = 11 ∨ j = 14)) ∨ (k = 51 ∧ hh ≤ j)) uA wA) (hR : SPS j wM uM) (M : MK (dM E) b1 K.1.length sp (K.2.2 4 + 1) (K.1.length + 1) (K.2.2 2 + S) (K.2.2 5) (K.2.2 3 + 1) uM) (OM : OFF (fun k j => (k = 0 ∧ 127 ≤ j ∧ j ≤ 134) ∨ (k = 85 ∧ sp ≤ j) ∨ (k = 83 ∧ j = q)) uM wM) (hq : K.2.2 2 ≤ q ∧ q < K.2.2 2 + S) (hj : j ≤ 4 * n) (hk : k ≤ n) (hx : x + n ≤ x1 ∧ x1 ≤ KK) (hs : sp ≤ hh + 1) (g : PEND E K S N a1 b1 (hh + 1) sp sc x1 (i + n) uA uM → GD E (i + n) uA uM) : GD E i wA wM := by
  obtain ⟨_, pr, de, fu, j1, j2, j3, j4, j5, j6, j7, j8, j9, j10, ⟨j11, j12, j13, j14, j15, j16, j17⟩, o1, o2⟩ := id J
  have hn : K.2.2 0 < 64 := j5.2.2.2.2.2.2.2.2.2.2.2.1
  have O9 : OFF (fun k j => k = 0 ∧ j = 129) (si uM 0 129 (Int32.ofNat (K.2.2 0))) uM := OFF.si ⟨rfl, rfl⟩
  have OM' : OFF (fun k j => (k = 0 ∧ 127 ≤ j ∧ j ≤ 134) ∨ (k = 85 ∧ sp ≤ j) ∨ (k = 83 ∧ j = q)) (si uM 0 129 (Int32.ofNat (K.2.2 0))) wM := OFF.tr (O9.mono fun k j p => by omega) OM
  have e0 : ∀ j, j ≠ 129 → gi (si uM 0 129 (Int32.ofNat (K.2.2 0))) 0 j = gi uM 0 j := fun j hj => gi_si1 (by omega)
  have M' : MK (dM E) b1 (K.2.2 0) sp (K.2.2 4 + 1) (K.1.length + 1) (K.2.2 2 + S) (K.2.2 5) (K.2.2 3 + 1) (si uM 0 129 (Int32.ofNat (K.2.2 0))) := M.nw (O9.mono fun k j p => by omega) ((e0 128 (by omega)).trans M.2.2.1) (gi_si0 _ _ _ _) ((e0 130 (by omega)).trans M.2.2.2.2.1) ((e0 127 (by omega)).trans M.2.2.2.2.2.1) ((e0 131 (by omega)).trans M.2.2.2.2.2.2.1) ((e0 132 (by omega)).trans M.2.2.2.2.2.2.2.1) ((e0 133 (by omega)).trans M.2.2.2.2.2.2.2.2.1) ((e0 134 (by omega)).trans M.2.2.2.2.2.2.2.2.2.1) ⟨M.2.2.2.2.2.2.2.2.2.2.1, hn, M.2.2.2.2.2.2.2.2.2.2.2.2⟩
  have hl : (callK K S (fun r => gl uM 83 r) N).1.length = K.1.length + 1 := by
    show (K.1 ++ [_]).length = _
    rw [List.length_append]; rfl
  have T : TLY (eNo E 5 5) sc pr de fu uA := j4.off OA (fun k j p => by omega)
  have JJ : JS E (callK K S (fun r => gl uM 83 r) N) (K.2.2 5) a1 b1 (hh + 1) sp sc x1 (i + n) uA (si uM 0 129 (Int32.ofNat (K.2.2 0))) := by
    refine JS.of (A := A) (pr := pr) (de := de) (fu := fu) hP.kst (at_app hA) hon C T (by rw [hl]; exact M') (j6.off OM' (fun k j p => by omega)) (fun r q1 q2 => ?_) ?_ (fun j B hB => ?_) hs ⟨by omega, hx.2⟩ (OFF.tr (OA.mono fun k j p => by unfold PZA; omega) o1) (OFF.tr (OM'.mono fun k j p => by unfold PZR; omega) o2)
    · rw [(OA 55 r (by omega)).2, (OM' 86 r (by omega)).2]; exact j7 r q1 q2
    · have hmt := hP.2.2.2.2.2.2.2
      intro k x' r ty va vm gg
      rcases gg with gg | ⟨g1, g2, g3, g4, g5, g6, g7⟩
      · have b3 := hP.2.2.2.2.2.2.1.1.2.2 _ _ _ _ _ _ gg
        obtain ⟨h1, h2, h3⟩ := j8 _ _ _ _ _ _ (Or.inl gg)
        have eA : gl uA 50 x' = gl wA 50 x' := (OA 50 x' (by omega)).2
        have eM : k ≠ 2 → RMq (si uM 0 129 (Int32.ofNat (K.2.2 0))) r = RMq wM r := fun hk => by
          unfold RMq
          rcases b3.2.2.1 hk with z | z
          · rw [if_pos z.2, if_pos z.2]
            exact (OM' 83 r (by omega)).2
          · rw [if_neg (by omega), if_neg (by omega)]
            exact (OM' 84 _ (by omega)).2
        refine ⟨fun hk => ?_, fun hk => ?_, fun hk => ?_⟩
        · rw [eA, eM (by omega)]; exact h1 hk
        · rw [eA]; exact h2 hk
        · rw [eM (by omega)]; exact h3 hk
      · subst g1
        refine ⟨fun hk => absurd hk (by omega), fun hk => by omega, fun _ => ?_⟩
        unfold RMq
        rw [if_pos (by omega), gl_si, g7]
    · obtain ⟨m1, n1, n2, n3, n4, n5, n6⟩ := j10 j B hB
      obtain ⟨l1, l2⟩ := L j B hB
      exact ⟨m1.nw (fun k p1 p2 p3 => (OM' k j (by omega)).1) ⟨fun j' _ => (OA 51 j' (by omega)).2, fun k j' p q' r => (OA k j' (by omega)).1, fun j' _ => (OM' 85 j' (by omega)).2, fun k j' p q' r => (OM' k j' (by omega)).1, PSD.eq (OA 56 3 (by omega)).1 (OA 56 4 (by omega)).1⟩, by omega, l2⟩
  have hg := g ⟨M.2.2.1, M.2.2.2.1, M.2.2.2.2.2.2.2.2.2.2.2.1, JJ⟩
  obtain ⟨g1, g2, g3⟩ := hE
  obtain ⟨_, _, _, _, _, _, t7, t8⟩ := T
  refine GOOD.adw (q := n) (by rw [g3]; unfold KK; omega) hT hR hj hk ?_ hg
  rw [g3]
  have : KK * sc ≤ KK * eNo E 5 5 := Nat.mul_le_mul_left _ t7
  unfold KK at *
  omega
/-- FINISH, what's on the pile goes into the slot -/
theorem VAL.fn0 (hE : EOKS E) (hP : PNO E K S N) (J : JS E (valK (callK K S F N)) (K.2.2 5) a b (hh + 1) (sp + 1) sc x i wA wM) (hA : K.1[K.2.2 0]? = some A) (hon : aOn A) (L : LOWK (callK K S F N) hh sp) (hsp : sp ≤ hh) (hC : CTM (K.2.2 4 + 1) b1 K.1.length 0 (Int32.ofNat q) (K.2.2 3 + 1) wM) (ho : opW (dM E) b 17 0 0 0) (hb : b < 60000 ∧ b1 ≤ 60000) (hv : gl wA 51 hh = gl wM 85 sp) (hq : K.2.2 2 ≤ q ∧ q < K.2.2 2 + S) (hx : x + 1 ≤ x1 ∧ x1 ≤ KK) (g : ∀ uM, PEND E K S N a b1 (hh + 1) sp sc x1 (i + 1) wA uM → gl uM 83 q = gl wA 51 hh → OFF (fun k j => (k = 0 ∧ 127 ≤ j ∧ j ≤ 134) ∨ (k = 85 ∧ sp ≤ j) ∨ (k = 83 ∧ j = q)) uM wM → GD E (i + 1) wA uM) : GD E i wA wM := by
  obtain ⟨C, M⟩ := J.cka (A := A) (at_app hA)
  have hd := J.dep
  have hmt := hP.2.2.2.2.2.2.2
  have hl : (valK (callK K S F N)).1.length = K.1.length + 1 := by
    show (K.1 ++ [_]).length = _
    rw [List.length_append]; rfl
  rw [hl] at M
  have hl64 : K.1.length < 64 := by
    have := M.2.2.2.2.2.2.2.2.2.2.2.2.2.2.1
    omega
  have M1 := M.nx (b1 := b + 1) (by omega)
  have O0 : OFF (fun k j => k = 0 ∧ j = 128) (si wM 0 128 (Int32.ofNat (b + 1))) wM := OFF.si ⟨rfl, rfl⟩
  have hC1 : CTM (K.2.2 4 + 1) b1 K.1.length 0 (Int32.ofNat q) (K.2.2 3 + 1) (si wM 0 128 (Int32.ofNat (b + 1))) := hC.off O0 (fun k p q r => by omega)
  have hd60 : K.2.2 3 + 1 ≤ 60 := hd.1
  obtain ⟨u, u1, u2, u3, u4⟩ := fin_sto (pl := false) (vv := gl wM 85 sp) M1 hC1 (by omega) (by rw [if_neg (by decide), gl_si]) ⟨hb.2, hl64, hd60⟩
  have st := rm_fin M hb.1 ho
  rw [if_neg (by decide)] at st
  have OM : OFF (fun k j => (k = 0 ∧ 127 ≤ j ∧ j ≤ 134) ∨ (k = 85 ∧ sp ≤ j) ∨ (k = 83 ∧ j = q)) u wM := OFF.tr (u4.mono fun k j p => by unfold PFM2 at p; omega) (O0.mono fun k j p => by omega)
  exact VAL.fin (k := 0) (j := 1) (n := 1) hE hP J hA hon L (show TKS 0 wA wA from rfl) C OFF.rf (SPS.one (M.runs ho hb.1 (by decide)) (st.trans u1)) u2 OM hq (by omega) (by omega) hx (by omega) (fun H => g u H (u3.trans hv.symm) OM)
/-- .. what lies at the place on the pile; the class does k words that leave its value -/
theorem VAL.fn1 (hE : EOKS E) (hP : PNO E K S N) (J : JS E (valK (callK K S F N)) (K.2.2 5) a b h0 (sp + 1) sc x i wA wM) (hA : K.1[K.2.2 0]? = some A) (hon : aOn A) (L : LOWK (callK K S F N) hh sp) (hsp : sp ≤ hh) (hT : TKS k wA uA) (C : CK (cA E) (eNo E 5 0) a1 (aF A) (K.2.2 1) (hh + 1) (K.2.2 3 + 1) (K.2.2 5) uA) (OA : OFF (fun k j => (k = 48 ∧ (j = 11 ∨ j = 14)) ∨ (k = 51 ∧ hh ≤ j)) uA wA) (hC : CTM (K.2.2 4 + 1) b1 K.1.length 0 (Int32.ofNat q) (K.2.2 3 + 1) wM) (ho : opW (dM E) b 17 1 0 0) (hb : b < 60000 ∧ b1 ≤ 60000) {xx qq : Nat} (v2 : gl wM 85 sp = Int64.ofNat qq) (hG : K.2.1 0 xx qq ty 0 0) (hv : gl uA 51 hh = gl wA 50 xx) (hq : K.2.2 2 ≤ q ∧ q < K.2.2 2 + S) (hk : k ≤ n ∧ 1 ≤ n) (hx : x + n ≤ x1 ∧ x1 ≤ KK) (g : ∀ uM, PEND E K S N a1 b1 (hh + 1) sp sc x1 (i + n) uA uM → gl uM 83 q = gl uA 51 hh → VT ty (gl uA 51 hh) → OFF (fun k j => (k = 0 ∧ 127 ≤ j ∧ j ≤ 134) ∨ (k = 85 ∧ sp ≤ j) ∨ (k = 83 ∧ j = q)) uM wM → GD E (i + n) uA uM) : GD E i wA wM := by
  obtain ⟨_, M⟩ := J.cka (A := A) (at_app hA)
  have hd := J.dep
  have hmt := hP.2.2.2.2.2.2.2
  obtain ⟨hM, hD⟩ := J.mem
  obtain ⟨w1, w2⟩ := (hM _ _ _ _ _ _ (Or.inl hG)).1 rfl
  have b3 := hD.2.2 _ _ _ _ _ _ (Or.inl hG)
  have hl : (valK (callK K S F N)).1.length = K.1.length + 1 := by
    show (K.1 ++ [_]).length = _
    rw [List.length_append]; rfl
  rw [hl] at M
  have hl64 : K.1.length < 64 := by
    have := M.2.2.2.2.2.2.2.2.2.2.2.2.2.2.1
    omega
  have M1 := M.nx (b1 := b + 1) (by omega)
  have O0 : OFF (fun k j => k = 0 ∧ j = 128) (si wM 0 128 (Int32.ofNat (b + 1))) wM := OFF.si ⟨rfl, rfl⟩
  have hC1 : CTM (K.2.2 4 + 1) b1 K.1.length 0 (Int32.ofNat q) (K.2.2 3 + 1) (si wM 0 128 (Int32.ofNat (b + 1))) := hC.off O0 (fun k p q r => by omega)
  have hd60 : K.2.2 3 + 1 ≤ 60 := hd.1
  have hel := M.2.2.2.2.2.2.2.2.2.2.2.2.2.2.2.2.1
  have hr : RDM (si wM 0 128 (Int32.ofNat (b + 1))) (gl (si wM 0 128 (Int32.ofNat (b + 1))) 85 sp) (RMq wM qq) := by
    rw [gl_si, v2]
    unfold RMq
    rcases b3.2.2.1 (by omega) with c | c
    · have c1 : qq < K.2.2 2 + S := c.1
      rw [if_pos c.2]
      exact Or.inl ⟨qq, by omega, rfl, rfl⟩
    · have c1 : qq < 1048576 + K.2.2 5 := c.2.1
      have c2 : K.2.2 5 ≤ 2000 := hel
      rw [if_neg (by omega)]
      refine Or.inr ⟨qq - 1048576, by omega, congrArg Int64.ofNat (show qq = 1048576 + (qq - 1048576) by omega), rfl⟩
  obtain ⟨u, u1, u2, u3, u4⟩ := fin_sto (pl := true) (vv := RMq wM qq) M1 hC1 (by omega) (by rw [if_pos rfl]; exact hr) ⟨hb.2, hl64, hd60⟩
  have st := rm_fin M hb.1 ho
  rw [if_pos rfl] at st
  have OM : OFF (fun k j => (k = 0 ∧ 127 ≤ j ∧ j ≤ 134) ∨ (k = 85 ∧ sp ≤ j) ∨ (k = 83 ∧ j = q)) u wM := OFF.tr (u4.mono fun k j p => by unfold PFM2 at p; omega) (O0.mono fun k j p => by omega)
  exact VAL.fin (k := k) (j := 1) (n := n) hE hP J hA hon L hT C OA (SPS.one (M.runs ho hb.1 (by decide)) (st.trans u1)) u2 OM hq (by omega) hk.1 hx (by omega) (fun H => g u H (u3.trans (hv.trans w1).symm) (hv ▸ w2) OM)
end KD3
