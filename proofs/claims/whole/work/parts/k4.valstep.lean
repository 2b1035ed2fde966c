/-! BOTH MACHINES: a VALUE, as a whole -/
section KE4
variable {E : SENV} {K : CXT} {Lim p nx a a1 b b1 b2 h sp sc i el j S k n f ac y th a0 b0 h0 sp0 hh q c s bb bb1 : Nat} {x x1 : Int} {wA wM uA uM zA zM : Wd} {A B N : ACT} {F : Nat → Int64} {stk : List Nat} {ty : Int32}
theorem valK_off : (valK (callK K S F N)).1 = K.1 ++ [N] := rfl
/-- LABELS, while a call is pending -/
theorem HND.val (hH : HND E K Lim) (hP : PNO E K S N) : HND E (valK (callK K S F N)) Lim := HND.app (K' := valK (callK K S F N)) hH rfl callG.old (fun q => absurd q hP.1)
theorem rfin1 {gM : Wd} {ev cp na mt us us1 ev1 : Nat} {vv : Int64} {w : Wd} {y' z' : Int32} (M : MK gM b ev (sp + 1) (cp + 1) na mt el us w) (hC : CTM cp b1 ev1 0 (Int32.ofNat q) us1 w) (ho : opW gM b 17 1 y' z') (hr : RDM w (gl w 85 sp) vv) (hq : q < 200000) (hb : b < 60000 ∧ b1 ≤ 60000 ∧ ev1 < 64 ∧ us1 ≤ 60) : ∃ u, fX12_step w = some u ∧ MK gM b1 ev1 sp cp na mt el us1 u ∧ gl u 83 q = vv ∧ OFF (fun k j => (k = 0 ∧ 127 ≤ j ∧ j ≤ 134) ∨ (k = 85 ∧ j = sp) ∨ (k = 83 ∧ j = q)) u w := by
  have M1 := M.nx (b1 := b + 1) (by omega)
  have O0 : OFF (fun k j => k = 0 ∧ j = 128) (si w 0 128 (Int32.ofNat (b + 1))) w := OFF.si ⟨rfl, rfl⟩
  have hC1 : CTM cp b1 ev1 0 (Int32.ofNat q) us1 (si w 0 128 (Int32.ofNat (b + 1))) := hC.off O0 (fun k p q r => by omega)
  obtain ⟨u, u1, u2, u3, u4⟩ := fin_sto (pl := true) (vv := vv) M1 hC1 hq (by rw [if_pos rfl]; exact hr) ⟨hb.2.1, hb.2.2.1, hb.2.2.2⟩
  have st := rm_fin M hb.1 ho
  rw [if_pos rfl] at st
  exact ⟨u, st.trans u1, u2, u3, OFF.tr (u4.mono fun k j p => by unfold PFM2 at p; omega) (O0.mono fun k j p => by omega)⟩
theorem VAL.step (hE : EOKS E) (hS : SYS E) (hX : ALLX E Lim) (hU : USD E Lim) (hP : PNO E K S N) (H : PEND E K S N a b h sp sc x i wA wM) (hA : K.1[K.2.2 0]? = some A) (hon : aOn A) (hst : ∀ s ∈ stk, s ∈ aK A) (hp : aP A = p) (hH : HND E K Lim) (hL : eNo E 5 5 ≤ Lim + sc) (hN : ANO E stk p k n f ac a a1 bb bb1) (h24 : gi (vM E) 24 f = 1) (h28 : gi (vM E) 28 f ≠ 0) (hov : opW (dM E) b 18 (Int32.ofNat s) 0 0) (hb : b < 60000) (v1 : gl wM 83 (K.2.2 2 + s) = (gi (dM E) 53 ac).toInt64) (v2 : gl wM 83 (K.2.2 2 + s + 1) = Int64.ofNat (K.2.2 0)) (hs : s + 1 < S) (hsp : sp ≤ h) (hroom : h + 482 ≤ 502 * (K.2.2 3 + 2)) (hxa : ∀ (j : Nat) (B : ACT), K.1[j]? = some B → x + (a1 - a) + 3 ≤ aX B) (hxk : x + (a1 - a) + 3 ≤ KK)
    (g : ∀ uA uM sc' i', PEND E K S N a1 (b + 1) (h + 1) sp sc' (x + (a1 - a) + 3) i' uA uM → sc ≤ sc' → gl uM 83 (K.2.2 2 + s) = gl uA 51 h → VT (gi (vM E) 20 f) (gl uA 51 h) → KEE h (K.2.2 3 + 1) sp (K.2.2 4 + 1) wA wM uA uM → (∀ r, K.2.2 2 ≤ r → r < K.2.2 2 + S → r ≠ K.2.2 2 + s → gl uM 83 r = gl wM 83 r) → GD E i' uA uM) : a ≤ a1 ∧ GD E i wA wM := by
  have w16 : gi (vA E) 16 (f + 1) ≠ 3 := fun q => h28 ((hN.w16 hS).mp q)
  obtain ⟨hk, hc, hm, hf, ho, h5, ha, hbb⟩ := hN
  subst hp
  have leb := (WLE hS hk (k + 1) 5 n f h5 ho hf).2 _ _ _ _ _ hm
  rw [cdc5_1v h24 w16] at hc
  rw [cdm5_1 h24] at hm
  rw [okn5] at ho
  obtain ⟨o1, _, _⟩ := ho f
  obtain ⟨o3, o4⟩ := o1 h24 h28
  obtain ⟨d1, d2, th, g1, t1, t2, t3, d3, d4⟩ := hm
  have hft := flx5_t h24 hf
  rw [flx5_1 h24] at hf
  obtain ⟨hf1, hf2⟩ := app_nil hf
  have hk1 : ∃ k', k = k' + 1 := by
    cases k with
    | zero => exact hc.elim
    | succ k' => exact ⟨k', rfl⟩
  obtain ⟨k', e9⟩ := hk1
  subst e9
  have le0 := WLE hS hk (k' + 1) 0 n 0 (Or.inl (by omega)) o4 hft.1
  have lea := le0.1 _ _ _ _ hc
  refine ⟨lea, ?_⟩
  have hmt := hP.2.2.2.2.2.2.2
  have hkst := hP.2.2.2.2.2.2.1
  have JP := H.2.2.2
  have hact := JP.act (j := K.1.length) (B := N) at_last
  have h87 : gi wM 87 K.1.length = Int32.ofNat (K.2.2 2) := by
    have := hact.1.1
    rw [gi_si1 (by omega), hP.2.2.2.1] at this
    exact this
  have hA' : (callK K S (fun r => gl wM 83 r) N).1[(callK K S (fun r => gl wM 83 r) N).2.2 0]? = some A := at_app hA
  have v1' : gl wM 83 (K.2.2 2 + s) = Int64.ofNat th := by rw [v1, t2, i64_iN (by omega)]
  have hcp : (callK K S (fun r => gl wM 83 r) N).2.2 4 + 1 ≤ 4 * (callK K S (fun r => gl wM 83 r) N).2.2 3 + 4 := by
    show K.2.2 4 + 1 + 1 ≤ 4 * (K.2.2 3 + 1) + 4
    have := hkst.2.2.1
    omega
  have L0 : LOWD (callK K S (fun r => gl wM 83 r) N) h sp (K.2.2 3 + 1) (K.2.2 4 + 1) := JP.lod
  have L : LOWK (callK K S (fun r => gl wM 83 r) N) h sp := fun j B hB => ⟨(L0 j B hB).1, (L0 j B hB).2.1⟩
  have hle : ∀ (z : Nat), z ≤ 482 → h + z ≤ 502 * ((valK (callK K S (fun r => gl wM 83 r) N)).2.2 3 + 1) := fun z hz => by
    show h + z ≤ 502 * (K.2.2 3 + 1 + 1)
    omega
  have hxa' : ∀ (d : Int), d ≤ x + (a1 - a) + 3 → ∀ (j : Nat) (B : ACT), (valK (callK K S (fun r => gl wM 83 r) N)).1[j]? = some B → d ≤ aX B := fun d hd j B hB => by
    rcases app_at (show (K.1 ++ [N])[j]? = some B from hB) with ⟨q, _⟩ | ⟨_, q⟩
    · have := hxa j B q; omega
    · subst q
      rw [hP.2.2.2.2.1]; omega
  refine JPS.valf (base := K.2.2 2) (s := s) (th := th) (c := bb + 1) (x1 := x + 1) hE H hA' hon hb hov h87 (by omega) v1' v2 t1 t3 (by omega) hcp L0 ⟨by omega, by omega⟩ (fun yM J hCT OY => ?_)
  have hHV : HND E (valK (callK K S (fun r => gl wM 83 r) N)) Lim := hH.val hP
  have hd := J.dep
  have hd60 : K.2.2 3 + 1 ≤ 60 := hd.1
  have ky : KEE h (K.2.2 3 + 1) sp (K.2.2 4 + 1) wA wM wA yM := ⟨fun _ _ => rfl, fun _ _ _ _ _ => rfl, fun j _ => (OY 85 j (by omega)).2, fun k j p q r => (OY k j (by
    show ¬ ((k = 0 ∧ (j = 127 ∨ j = 128 ∨ j = 129)) ∨ (92 ≤ k ∧ k ≤ 97 ∧ j = K.2.2 4 + 1))
    omega)).1, PSD.eq rfl rfl⟩
  -- the memory of the new activation
  have hmem : ∀ {a2 b2 h2 sp2 sc2 : Nat} {x2 : Int} {i2 : Nat} {vA' vM' : Wd}, JS E (valK (callK K S (fun r => gl wM 83 r) N)) (K.2.2 5) a2 b2 h2 sp2 sc2 x2 i2 vA' vM' → ∀ r, K.2.2 2 ≤ r → r < K.2.2 2 + S → gl vM' 83 r = gl wM 83 r := fun {a2 b2 h2 sp2 sc2 x2 i2 vA' vM'} JJ r r1 r2 => by
    have := (JJ.mem.1 3 0 r 0 0 (gl wM 83 r) (Or.inr ⟨rfl, rfl, rfl, rfl, r1, r2, rfl⟩)).2.2 (Or.inr rfl)
    unfold RMq at this
    rw [if_pos (by omega)] at this
    exact this
  -- how it ends
  have fin : ∀ (uA uM zA zM : Wd) (sc' i' : Nat), PEND E K S N a1 (b + 1) (h + 1) sp sc' (x + (a1 - a) + 3) i' uA uM → sc ≤ sc' → gl uM 83 (K.2.2 2 + s) = gl uA 51 h → VT (gi (vM E) 20 f) (gl uA 51 h) → KEE h (K.2.2 3 + 1) sp (K.2.2 4 + 2) wA yM zA zM → OFF (fun k j => (k = 48 ∧ (j = 11 ∨ j = 14)) ∨ (k = 51 ∧ h ≤ j)) uA zA → OFF (fun k j => (k = 0 ∧ 127 ≤ j ∧ j ≤ 134) ∨ (k = 85 ∧ sp ≤ j) ∨ (k = 83 ∧ j = K.2.2 2 + s)) uM zM → (∀ r, K.2.2 2 ≤ r → r < K.2.2 2 + S → gl zM 83 r = gl wM 83 r) → GD E i' uA uM := fun uA uM zA zM sc' i' PP s1 s2 s3 s4 OA OM s5 =>
    g uA uM sc' i' PP s1 s2 s3 (ky.tr ((s4.le (Nat.le_refl _) (Nat.le_refl _) (Nat.le_refl _) (Nat.le_succ _)).tr ⟨fun j _ => (OA 51 j (by omega)).2, fun k j p q r => (OA k j (by omega)).1, fun j _ => (OM 85 j (by omega)).2, fun k j p q r => (OM k j (by omega)).1, PSD.eq (OA 56 3 (by omega)).1 (OA 56 4 (by omega)).1⟩)) (fun r r1 r2 r3 => ((OM 83 r (by omega)).2).trans (s5 r r1 r2))
  have hct : ∀ {vA' vM' : Wd}, KEE h (K.2.2 3 + 1) sp (K.2.2 4 + 1 + 1) wA yM vA' vM' → CTM (K.2.2 4 + 1) (b + 1) K.1.length 0 (Int32.ofNat (K.2.2 2 + s)) (K.2.2 3 + 1) vM' := fun {vA' vM'} hk => by
    obtain ⟨c1, c2, c3, c4, c5⟩ := hCT
    have e : ∀ k, 92 ≤ k → k ≤ 97 → gi vM' k (K.2.2 4 + 1) = gi yM k (K.2.2 4 + 1) := fun k p q => hk.2.2.2.1 k _ p q (by omega)
    exact ⟨(e 93 (by omega) (by omega)).trans c1, (e 94 (by omega) (by omega)).trans c2, (e 95 (by omega) (by omega)).trans c3, (e 97 (by omega) (by omega)).trans c4, (e 96 (by omega) (by omega)).trans c5⟩
  obtain ⟨l, hl⟩ : ∃ l, eLU E stk (nd (vM E) 12 n) = l := ⟨_, rfl⟩
  have his := hS.is hk (tk := nd (vM E) 12 n) (x := 1) (by decide) (by decide)
  have hnm : l ≠ 0 → l - 1 < eNo E 5 2 := fun q => hS.nm hk (tk := nd (vM E) 12 n) (y := l - 1) (by omega)
  rw [hl] at his hf2 d4
  have hl0 : gi (vM E) 7 n = 3 → l ≠ 0 := fun q => by
    have hx := hft.1
    rw [flx0_3 q] at hx
    have := (flY_n (hS.no0 hk) hx).1
    rw [hl] at this
    exact this
  by_cases z1 : gi (vM E) 7 n = 4 ∨ gi (vM E) 7 n = 3 ∧ (gi (vM E) 19 (l - 1) = 1 ∨ FO (vM E) (l - 1) 1 ∧ gi (vM E) 28 (l - 1) ≠ 0)
  · rw [if_pos z1] at d4
    obtain ⟨d5, d6, d7⟩ := d4
    rcases z1 with q | ⟨q, q1⟩
    · -- an ELEMENT: its place, then LOAD
      have hfl := hft.2 (Or.inr q)
      have o7 := okn01 o4 (Or.inr q)
      have hfl' := hfl
      rw [flx1_4 q rfl] at hfl'
      obtain ⟨r1, _, r2⟩ := elL_n (hS.no0 hk) hfl'
      rw [hl] at r1 r2
      have hc' := hc
      rw [cdc0_4 q rfl] at hc'
      obtain ⟨e2, c1, c2, c3⟩ := hc'
      subst c3
      have hc1 : CDC (vM E) (vA E) (eLU E stk) (eLV E (aP A)) (k' + 1) 1 n 0 a e2 (cA E) := by
        rw [cdc1_4 q rfl]; exact c1
      have le1 := WLE hS hk (k' + 1) 1 n 0 (Or.inl (by omega)) o7 hfl
      have e3 := le1.1 _ _ _ _ hc1
      have hty : tyP (vM E) (eLU E stk) (aP A) 0 n = gi (vM E) 20 f := by
        have hn3 : ¬ gi (vM E) 7 n = 3 := by rw [q]; decide
        unfold tyP
        rw [if_pos q, hl]
        rw [if_neg (fun c => hn3 c.1), if_pos (Or.inl q), if_pos q] at hf2
        refine (misT_n hf2).elim (fun q' => ?_) id
        unfold tyE at q'
        have q3 : gi (vM E) 19 (l - 1) = 2 ∨ FO (vM E) (l - 1) 2 := r2.imp (fun c => c.1) (fun c => c.1)
        rw [if_neg r1, if_pos q3] at q'
        exact absurd q' (hS.tn (hnm r1) (q3.elim (fun g => Or.inr (Or.inr (Or.inl g))) (fun g => Or.inr (Or.inr (Or.inr g)))))
      have hnd : NDX (vM E) (k' + 1) 1 n ≤ 482 := by
        rw [ndx1_4 q, ← ndx0_4 q]; omega
      refine hX (k' + 1) 1 n stk (aP A) a e2 (bb + 1) g1 (by omega) hk hc1 d6 hfl o7 (by omega) (by omega) (valK (callK K S (fun r => gl wM 83 r) N)) A h sp sc (x + 1) _ _ _ (at_app hA) hon hst rfl J hHV hL (hle _ hnd) (hxa' _ (by omega)) (by omega) ?_
      intro uA uM sc' i' J' s1 hpp kk
      have hpp' : PP (gi (vM E) 20 f) (valK (callK K S (fun r => gl wM 83 r) N)) h sp uA uM := hty ▸ hpp
      obtain ⟨xx, qq, p1, p2, p3⟩ := hpp'
      have p3' : K.2.1 0 xx qq (gi (vM E) 20 f) 0 0 := p3.elim id (fun c => by omega)
      obtain ⟨C, _⟩ := J'.cka (A := A) (at_app hA)
      have hd' := J'.dep
      have hlt : xx < K.2.2 1 := ((J'.mem.2.2.2 _ _ _ _ _ _ p3).2.1 (by omega)).1
      have C9 : CK (cA E) (eNo E 5 0) e2 (aF A) (K.2.2 1) (h + 1) (K.2.2 3 + 1) (K.2.2 5) uA := C
      have tk := k_load C9 (by omega) c2 p1 hlt
      have Cn : CK (cA E) (eNo E 5 0) (e2 + 1) (aF A) (K.2.2 1) (h + 1) (K.2.2 3 + 1) (K.2.2 5) (pshQ (popW uA (e2 + 1) h) h (gl uA 50 xx)) := pshQ_ck (popW_ck C9 (by omega)) (by omega)
      have OA : OFF (fun k j => (k = 48 ∧ (j = 11 ∨ j = 14)) ∨ (k = 51 ∧ h ≤ j)) (pshQ (popW uA (e2 + 1) h) h (gl uA 50 xx)) uA := OFF.tr (pshQ_off.mono fun k j p => by unfold PSK at p; omega) (popW_off.mono fun k j p => Or.inl p)
      exact VAL.fn1 (ty := gi (vM E) 20 f) (k := 1) (n := 1) (x1 := x + ((e2 + 1 : Nat) - (a : Int)) + 3) hE hP J' hA hon L hsp (TKS.one hd'.2.2.2.2 tk) Cn OA (hct kk) d7 ⟨by omega, by omega⟩ p2 p3' pshQ_v ⟨by omega, by omega⟩ ⟨by omega, by omega⟩ ⟨by omega, by omega⟩ (fun vM' PD u1 u2 OM => fin _ _ _ _ _ _ PD s1 u1 u2 kk OA OM (hmem J'))
    · -- a NAME whose word is at hand
      have l0 := hl0 q
      rw [cdm1_3 q, hl] at d6
      have hfl := hft.2 (Or.inl ⟨q, by rw [hl]; exact l0, by rw [hl]; exact q1.elim Or.inr (fun c => Or.inl c.1)⟩)
      obtain ⟨y, jj, nn, B, ey, FD⟩ := J.sym hS (A := A) (at_app hA) hon hst (tk := nd (vM E) 12 n) (by rw [hl]; exact l0)
      have ey' : l = y + 1 := hl.symm.trans ey
      subst ey'
      rw [Nat.add_sub_cancel] at q1 hf2 hnm
      have hy := hnm (by omega)
      obtain ⟨w1, w2⟩ := hS.v16 hy
      have h16 : gi (vA E) 16 (y + 1) ≠ 3 := q1.elim w1 (fun c => fun z => c.2 ((w2 c.1).mp z))
      have y14 : gi (vA E) 14 (y + 1) = 1 := his.mpr ⟨by omega, by rw [Nat.add_sub_cancel]; exact q1.imp id (fun c => c.1)⟩
      rw [cdc0_3 q, hl, if_neg (by rw [y14]; decide)] at hc
      rcases hc with ⟨c, _⟩ | ⟨_, c1, c2⟩
      · exact absurd c h16
      subst c2
      obtain ⟨u, gf, sl, t, qq, f1, f2, f3, f4, f5, f6, f7⟩ := FD.cell hS q1
      have hql := J.qlt (at_app hA) f6 f7
      have hG : K.2.1 0 (gf + sl) qq (gi (vM E) 20 y) 0 0 := f6.elim id (fun c => by omega)
      have hty : gi (vM E) 20 y = gi (vM E) 20 f := by
        have hx : gi (vM E) 20 y ≠ 0 := hS.tn hy (q1.elim Or.inl (fun c => Or.inr (Or.inl c.1)))
        by_cases gg : FO (vM E) y 1
        · rw [if_pos ⟨q, by omega, gg⟩] at hf2
          exact (misT_n hf2).elim (fun c => absurd c hx) id
        · rw [if_neg (fun c => gg c.2.2), if_pos (Or.inr ⟨q, by omega, q1.elim id (fun c => absurd c.1 gg)⟩), if_neg (by rw [q]; decide)] at hf2
          exact (misT_n hf2).elim (fun c => absurd c hx) id
      rw [f1, f2] at c1
      have e26 := (FD.2.2.2.2.2.2.2.2.2.2.2.2.1 (NHD.slk q1)).1
      have hop : ∃ X, opW (dM E) (bb + 1) 3 X (Int32.ofNat (sM E y)) 0 ∧ SLT yM (K.2.2 0) X (sM E y) qq ∧ g1 = bb + 2 := by
        unfold cdL at d6
        rw [Nat.add_sub_cancel] at d6
        rcases d6 with ⟨r1, r2, r3⟩ | ⟨r1, r0, r2, r3⟩ | ⟨r1, r0, _⟩ | ⟨r1, _⟩ | ⟨r1, _⟩
        · rw [e26] at r2
          rw [if_pos r1] at f3
          exact ⟨_, r2, by rw [f3]; exact f5, r3⟩
        · rw [e26] at r2
          rw [if_neg (by rw [r1.1]; decide)] at f3
          exact ⟨_, r2, by rw [f3]; exact f5, r3⟩
        · exact absurd r0 (q1.elim (fun c => absurd (c.symm.trans r1.1) (by decide)) (fun c => c.2))
        · exact q1.elim (fun c => absurd (c.symm.trans r1) (by decide)) (fun c => absurd (c.1.1.symm.trans r1) (by decide))
        · exact q1.elim (fun c => absurd (c.symm.trans r1.1) (by decide)) (fun c => absurd (c.1.2.symm.trans r1.2) (by decide))
      obtain ⟨X, x1', x2, x3⟩ := hop
      subst x3
      obtain ⟨C, M⟩ := J.cka (A := A) (at_app hA)
      have C9 : CK (cA E) (eNo E 5 0) a (aF A) (K.2.2 1) h (K.2.2 3 + 1) (K.2.2 5) wA := C
      have hlt : gf + sl < K.2.2 1 := ((J.mem.2.2.2 _ _ _ _ _ _ f6).2.1 (by omega)).1
      have tk := k_val C9 (by omega) c1 f4 hlt (by omega)
      have st := rm_addrv M (by omega) x1' x2 (by omega)
      have hl1 : (valK (callK K S (fun r => gl wM 83 r) N)).1.length = K.1.length + 1 := by
        show (K.1 ++ [_]).length = _
        rw [List.length_append]; rfl
      rw [hl1] at M
      have hl64 : K.1.length < 64 := by
        have := M.2.2.2.2.2.2.2.2.2.2.2.2.2.2.1
        omega
      have O1 : OFF (fun k j => (k = 0 ∧ (j = 128 ∨ j = 130)) ∨ (k = 85 ∧ j = sp)) (pshM (si yM 0 128 (Int32.ofNat (bb + 1 + 1))) sp (Int64.ofNat qq)) yM := OFF.tr (OFF.si (by omega)) (OFF.tr (OFF.sl (by omega)) (OFF.si (by omega)))
      have M2 := pshM_mk (v := Int64.ofNat qq) (M.nx (b1 := bb + 1 + 1) (by omega)) (by omega)
      have hv2 : gl (pshM (si yM 0 128 (Int32.ofNat (bb + 1 + 1))) sp (Int64.ofNat qq)) 85 sp = Int64.ofNat qq := pshM_v
      have hCT0 : CTM (K.2.2 4 + 1) (b + 1) K.1.length 0 (Int32.ofNat (K.2.2 2 + s)) (K.2.2 3 + 1) yM := hCT
      have hCT2 := hCT0.off O1 (fun k p1 p2 => by omega)
      obtain ⟨y1, y2⟩ := (J.mem.1 _ _ _ _ _ _ f6).1 rfl
      have hr : RDM (pshM (si yM 0 128 (Int32.ofNat (bb + 1 + 1))) sp (Int64.ofNat qq)) (gl (pshM (si yM 0 128 (Int32.ofNat (bb + 1 + 1))) sp (Int64.ofNat qq)) 85 sp) (RMq yM qq) := by
        rw [hv2]
        refine Or.inl ⟨qq, by omega, rfl, ?_⟩
        unfold RMq
        rw [if_pos (by omega)]
        exact (O1 83 qq (by omega)).2.symm
      obtain ⟨u2, r1, r2, r3, r4⟩ := rfin1 M2 hCT2 d7 hr (by omega) ⟨by omega, by omega, hl64, hd60⟩
      have OA : OFF (fun k j => (k = 48 ∧ (j = 11 ∨ j = 14)) ∨ (k = 51 ∧ h ≤ j)) (pshW wA (a + 1) h (gl wA 50 (gf + sl))) wA := pshW_off.mono fun k j p => by unfold PSK at p; omega
      have OM : OFF (fun k j => (k = 0 ∧ 127 ≤ j ∧ j ≤ 134) ∨ (k = 85 ∧ sp ≤ j) ∨ (k = 83 ∧ j = K.2.2 2 + s)) u2 yM := OFF.tr (r4.mono fun k j p => by omega) (O1.mono fun k j p => by omega)
      refine VAL.fin (k := 1) (j := 2) (n := 1) (a1 := a + 1) (x1 := x + ((a + 1 : Nat) - (a : Int)) + 3) hE hP J hA hon L (TKS.one hd.2.2.2.2 tk) (pshW_ck C9 (by omega)) OA (SPS.tr (SPS.one (M.runs x1' (by omega) (by decide)) st) (SPS.one (M2.runs d7 (by omega) (by decide)) r1)) r2 OM ⟨by omega, by omega⟩ (by omega) (by omega) ⟨by omega, by omega⟩ (by omega) (fun PD => fin _ _ _ _ _ _ PD (Nat.le_refl _) ?_ ?_ KEE.rf OA OM (hmem J))
      · rw [r3, pshW_v]; exact y1.symm
      · rw [pshW_v, ← hty]; exact y2
  · rw [if_neg z1] at d4
    by_cases z2 : gi (vM E) 7 n = 3 ∧ FO (vM E) (l - 1) 1
    · -- a formal by name
      rw [if_pos z2] at d4
      obtain ⟨d5, d6, d7, d8⟩ := d4
      subst d7
      obtain ⟨q, qf⟩ := z2
      have l0 := hl0 q
      obtain ⟨y, jj, nn, B, ey, FD⟩ := J.sym hS (A := A) (at_app hA) hon hst (tk := nd (vM E) 12 n) (by rw [hl]; exact l0)
      have ey' : l = y + 1 := hl.symm.trans ey
      subst ey'
      rw [Nat.add_sub_cancel] at qf d6 hf2 hnm z1
      have hy := hnm (by omega)
      have y28 : gi (vM E) 28 y = 0 := by
        by_cases c : gi (vM E) 28 y = 0
        · exact c
        · exact absurd (Or.inr ⟨q, Or.inr ⟨qf, c⟩⟩) z1
      have h16 := ((hS.v16 hy).2 qf).mpr y28
      have y14 : gi (vA E) 14 (y + 1) = 1 := his.mpr ⟨by omega, by rw [Nat.add_sub_cancel]; exact Or.inr qf⟩
      rw [cdc0_3 q, hl, if_neg (by rw [y14]; decide)] at hc
      have hty : gi (vM E) 20 y = gi (vM E) 20 f := by
        rw [if_pos ⟨q, by omega, qf⟩] at hf2
        exact (misT_n hf2).elim (fun c => absurd c (hS.tn hy (Or.inr (Or.inl qf)))) id
      rcases hc with ⟨_, c1, c2, c3⟩ | ⟨c, _⟩
      · subst c3
        refine USD.fml (m := 0) (X := 2) hE hS FD hU qf y28 c1 d6 (fun uA JZ OZ => ?_) (Or.inl ⟨rfl, ?_, ?_⟩) J (at_app hA) hon (by omega) (by omega) hHV hL (hle 2 (by omega)) (hxa' _ (by omega)) (by omega) (Or.inl rfl) ?_
        · obtain ⟨CZ, _⟩ := JZ.cka (A := A) (at_app hA)
          exact k_use (m := 0) CZ (by omega) c2 (by omega)
        · exact hCT.2.2.1
        · show 1 ≤ K.2.2 4 + 1 + 1
          omega
        · rw [if_pos rfl]
          intro uA uM sc' i' J' s1 hpp kk
          have hpp' : PV (gi (vM E) 20 y) (valK (callK K S (fun r => gl wM 83 r) N)) h sp uA uM := hpp
          exact VAL.fn0 (x1 := x + ((a + 2 : Nat) - (a : Int)) + 3) hE hP J' hA hon L hsp (hct kk) d8 ⟨by omega, by omega⟩ hpp'.1 ⟨by omega, by omega⟩ ⟨by omega, by omega⟩ (fun vM' PD u1 OM => fin _ _ _ _ _ _ PD s1 u1 (hty ▸ hpp'.2) kk OFF.rf OM (hmem J'))
      · exact absurd h16 c
    · rw [if_neg z2] at d4
      obtain ⟨d5, d6, d7⟩ := d4
      rw [if_neg (fun c => z2 ⟨c.1, c.2.2⟩), if_neg (fun c => z1 (c.imp id (fun c => ⟨c.1, Or.inl c.2.2⟩)))] at hf2
      have hty : TYX (vM E) (eLU E stk) (k' + 1) n = gi (vM E) 20 f := (misT_n hf2).elim (fun q => by
        rcases TYX_12 hS hk _ n d6 o4 hft.1 with g | g <;> rw [q] at g <;> exact absurd g (by decide)) id
      refine hX (k' + 1) 0 n stk (aP A) a a1 (bb + 1) g1 (by omega) hk hc d6 hft.1 o4 ha (by omega) (valK (callK K S (fun r => gl wM 83 r) N)) A h sp sc (x + 1) _ _ _ (at_app hA) hon hst rfl J hHV hL (hle _ (by omega)) (hxa' _ (by omega)) (by omega) ?_
      intro uA uM sc' i' J' s1 hpp kk
      have hpp' : PV (gi (vM E) 20 f) (valK (callK K S (fun r => gl wM 83 r) N)) h sp uA uM := hty ▸ hpp
      exact VAL.fn0 (x1 := x + (a1 - a) + 3) hE hP J' hA hon L hsp (hct kk) d7 ⟨by omega, by omega⟩ hpp'.1 ⟨by omega, by omega⟩ ⟨by omega, by omega⟩ (fun vM' PD u1 OM => fin _ _ _ _ _ _ PD s1 u1 hpp'.2 kk OFF.rf OM (hmem J'))
end KE4
