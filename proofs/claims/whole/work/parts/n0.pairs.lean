/-! BOTH SIDES' CODES OF A STATEMENT: what they do -/
section NA0
variable {E : SENV} {Lim k p K x y tk a a' a1 b b' b1 q q' sg m1 s0 m2 Z n : Nat} {stk : List Nat} {w : Int32}
/-- all that's known of EXPRS and calls -/
def SOK (E : SENV) (Lim : Nat) : Prop := EOKS E ∧ SYS E ∧ SAD E ∧ SLB E ∧ SCA E ∧ (∀ L, L < Lim → ALLX E L ∧ USD E L ∧ BOD E L) ∧ ALLX E Lim ∧ USD E Lim
theorem SOK.le {L : Nat} (h : SOK E Lim) (hl : L ≤ Lim) : SOK E L := by
  obtain ⟨h1, h2, h3, h4, h5, h6, h7, h8⟩ := h
  by_cases e : L = Lim
  · subst e; exact ⟨h1, h2, h3, h4, h5, h6, h7, h8⟩
  · have := h6 L (by omega)
    exact ⟨h1, h2, h3, h4, h5, fun M hM => h6 M (by omega), this.1, this.2.1⟩
/-- an EXPR's codes -/
theorem sp_val (h : SOK E Lim) (hk : SCE E stk) (hc : CDC (vM E) (vA E) (eLU E stk) (eLV E p) K 0 x 0 a a1 (cA E)) (hm : CDM (vM E) (eLU E stk) (eLV E p) K 0 x 0 0 b b1 (dM E)) (hF : FLX (vM E) (eLU E stk) p K 0 x 0 = []) (hO : OKN (vM E) K 0 x) (ha : a1 < eNo E 5 0) (hb : b1 < 60000) : (a ≤ a1 ∧ b ≤ b1) ∧ SIV E Lim stk p (TYX (vM E) (eLU E stk) K x) (NDX (vM E) K 0 x) a a1 b b1 := by
  obtain ⟨hE, hS, hW, hB, hC, hL, hX, hU⟩ := h
  have le := WLE (cur := p) hS hk K 0 x 0 (Or.inl (by omega)) hO hF
  refine ⟨⟨le.1 _ _ _ _ hc, le.2 _ _ _ _ _ hm⟩, SIV_g.mpr ?_⟩
  have := hX K 0 x stk p a a1 b b1 (by omega) hk hc hm hF hO ha hb
  unfold PMD cnP at this
  rw [if_pos rfl, if_neg (by decide)] at this
  exact this
/-- a place's -/
theorem sp_plc (h : SOK E Lim) (hk : SCE E stk) (hc : CDC (vM E) (vA E) (eLU E stk) (eLV E p) K 1 x 0 a a1 (cA E)) (hm : CDM (vM E) (eLU E stk) (eLV E p) K 1 x 0 0 b b1 (dM E)) (hF : FLX (vM E) (eLU E stk) p K 1 x 0 = []) (hO : OKN (vM E) K 1 x) (ha : a1 < eNo E 5 0) (hb : b1 < 60000) : (a ≤ a1 ∧ b ≤ b1) ∧ SIG E Lim stk p (PP (tyP (vM E) (eLU E stk) p 0 x)) 1 (NDX (vM E) K 1 x) a a1 b b1 := by
  obtain ⟨hE, hS, hW, hB, hC, hL, hX, hU⟩ := h
  have le := WLE (cur := p) hS hk K 1 x 0 (Or.inl (by omega)) hO hF
  refine ⟨⟨le.1 _ _ _ _ hc, le.2 _ _ _ _ _ hm⟩, ?_⟩
  have := hX K 1 x stk p a a1 b b1 (by omega) hk hc hm hF hO ha hb
  unfold PMD cnP at this
  rw [if_neg (by decide), if_pos rfl, if_neg (by decide)] at this
  exact this
/-- an AIM's -/
theorem sp_aim (h : SOK E Lim) (hk : SCE E stk) (hc : CDC (vM E) (vA E) (eLU E stk) (eLV E p) K 2 x 0 a a1 (cA E)) (hm : CDM (vM E) (eLU E stk) (eLV E p) K 2 x 0 0 b b1 (dM E)) (hF : FLX (vM E) (eLU E stk) p K 2 x 0 = []) (hO : OKN (vM E) K 2 x) (ha : a1 < eNo E 5 0) (hb : b1 < 60000) : (a ≤ a1 ∧ b ≤ b1) ∧ SIG E Lim stk p (PL E) 2 (NDX (vM E) K 2 x) a a1 b b1 := by
  obtain ⟨hE, hS, hW, hB, hC, hL, hX, hU⟩ := h
  have le := WLE (cur := p) hS hk K 2 x 0 (Or.inl (by omega)) hO hF
  refine ⟨⟨le.1 _ _ _ _ hc, le.2 _ _ _ _ _ hm⟩, ?_⟩
  have := hX K 2 x stk p a a1 b b1 (by omega) hk hc hm hF hO ha hb
  unfold PMD cnP at this
  rw [if_neg (by decide), if_neg (by decide), if_pos rfl] at this
  exact this
theorem sp_print (h : SOK E Lim) (hk : SCE E stk) (hA : PPC (vM E) (vA E) (eLU E stk) p (eLV E p) K x a a' Z (cA E)) (hM : PRP (vM E) (eLU E stk) p (eLV E p) K x b q b' q' (dM E)) (hF : FLX (vM E) (eLU E stk) p K 0 x 0 = []) (hO : OKN (vM E) K 0 x) (hn : NDX (vM E) K 0 x ≤ 502) (ha : a' < eNo E 5 0) (hb : b' < 60000) : (a ≤ a' ∧ b ≤ b' ∧ q' = q) ∧ SIT E Lim stk p sg m1 s0 m2 a a' b b' := by
  obtain ⟨w1, a2, hc, w2, e1⟩ := hA
  obtain ⟨b2, o1, hm, o2, e2, e3⟩ := hM
  subst e1
  subst e2
  obtain ⟨⟨l1, l2⟩, hv⟩ := sp_val (p := p) h hk (hc hF) (hm hF) hF hO (by omega) (by omega)
  exact ⟨⟨by omega, by omega, e3⟩, SIT.of (SIS.print h.1 hv w1 w2 o1 o2 ⟨l1, by omega⟩ ⟨by omega, by omega⟩) hn (by omega)⟩
theorem sp_goto (h : SOK E Lim) (hk : SCE E stk) (hA : PGC (vM E) (vA E) (eLU E stk) p (eLV E p) K x a a' Z (cA E)) (hM : PGO (vM E) (eLU E stk) p (eLV E p) K x b q b' q' (dM E)) (hF : FLX (vM E) (eLU E stk) p K 2 x 0 = []) (hO : OKN (vM E) K 2 x) (hn : NDX (vM E) K 2 x ≤ 502) (ha : a' < eNo E 5 0) (hb : b' < 60000) : (a ≤ a' ∧ b ≤ b' ∧ q' = q) ∧ SIT E Lim stk p sg m1 s0 m2 a a' b b' := by
  obtain ⟨w1, a2, hc, w2, e1⟩ := hA
  obtain ⟨b2, o1, hm, o2, e2, e3⟩ := hM
  subst e1
  subst e2
  obtain ⟨⟨l1, l2⟩, hv⟩ := sp_aim (p := p) h hk (hc hF) (hm hF) hF hO (by omega) (by omega)
  exact ⟨⟨by omega, by omega, e3⟩, SIT.of (SIS.goto h.1 h.2.1 h.2.2.1 h.2.2.2.1 hv w1 w2 o1 o2 ⟨l1, by omega⟩ ⟨by omega, by omega⟩) hn (by omega)⟩
/-- a call without ACTUALS -/
theorem sp_call0 (h : SOK E Lim) (hk : SCE E stk) (hA : PC0 (vA E) (eLV E p) (eLU E stk tk) a a' Z (cA E)) (hM : PCN (vM E) (eLU E stk) (eLV E p) tk b q b' q' (dM E)) (hF : FCL (vM E) (eLU E stk) tk = []) (ha : a' < eNo E 5 0) (hb : b' < 60000) : (a ≤ a' ∧ b ≤ b' ∧ q' = q) ∧ SIT E Lim stk p sg m1 s0 m2 a a' b b' := by
  obtain ⟨hE, hS, hW, hB, hC, hL, hX, hU⟩ := id h
  obtain ⟨w1, w2, w3, w4, w5, e1⟩ := hA
  obtain ⟨o1, e3, hM⟩ := hM
  have hl0 : eLU E stk tk ≠ 0 := fun e => by
    unfold FCL at hF
    rw [if_pos e] at hF
    exact absurd hF (by simp)
  obtain ⟨y, ey⟩ : ∃ y, eLU E stk tk = y + 1 := ⟨eLU E stk tk - 1, (Nat.sub_add_cancel (Nat.pos_of_ne_zero hl0)).symm⟩
  have hkk : (gi (vM E) 19 y = 3 ∨ FO (vM E) y 3) ∧ (gi (vM E) 19 y = 3 → gi (vM E) 31 (gi (vM E) 24 y).toNatClampNeg ≤ 0) := by
    unfold FCL at hF
    rw [ey, if_neg (by omega), Nat.add_sub_cancel] at hF
    by_cases c : gi (vM E) 19 y = 3 ∨ FO (vM E) y 3
    · rw [if_pos c] at hF
      refine ⟨c, fun c3 => ?_⟩
      by_cases c9 : gi (vM E) 31 (gi (vM E) 24 y).toNatClampNeg ≤ 0
      · exact c9
      · rw [if_pos ⟨c3, c9⟩] at hF
        exact absurd hF (by simp)
    · rw [if_neg c] at hF
      exact (misS_n (l := y + 1) (by have := hS.no0 hk (tk := tk); rw [ey] at this; exact this) (by omega) hF).elim
  rw [ey] at w3 hM
  rw [Nat.add_sub_cancel] at hM
  subst e1
  rcases hM with ⟨c, _⟩ | ⟨_, ⟨_, hm, e2⟩ | ⟨c, _⟩⟩
  · omega
  · subst e2
    have hCAS : CAS E Lim stk p 0 (gi (vM E) 20 y) (a + 1) (a + 1 + 3) (b + 1) (b + 1 + 1) := by
      rcases hm with ⟨f1, f2⟩ | ⟨f1, s, f2, f3, f4, f5⟩
      · exact CAS.fml (t := 0) hE hS hW hC hB hL hk ey (hkk.1.elim (fun q => absurd (q.symm.trans f1) (by decide)) id) w2 w3 w4 f2 (by omega) (by omega) (by omega)
      · have h3' : gi (vM E) 19 y = 3 := hkk.1.elim id (fun q => absurd q.1 f1)
        exact CAS.dec (t := 0) hE hS hW hC hB hL hk ey h3' (hkk.2 h3') w2 w3 w4 f2 f3 (by omega) f4 f5 (by omega) (by omega)
    exact ⟨⟨by omega, by omega, e3⟩, SIT.of (SIS.call hE hCAS w1 w5 o1 ⟨by omega, by omega⟩ ⟨by omega, by omega⟩) (by omega) (by omega)⟩
  · exact absurd hkk.1 c
/-- .. with ACTUALS -/
theorem sp_call1 (h : SOK E Lim) (hk : SCE E stk) (h7 : gi (vM E) 7 x = 5) (hA : PC1 (vM E) (vA E) (eLU E stk) p (eLV E p) (k + 1) x a a' Z (cA E)) (hM : PCA (vM E) (eLU E stk) p (eLV E p) (k + 1) x b q b' q' (dM E)) (hF : FLX (vM E) (eLU E stk) p (k + 1) 0 x 1 = []) (hO : OKN (vM E) (k + 1) 0 x) (ha : a' < eNo E 5 0) (hb : b' < 60000) : (a ≤ a' ∧ b ≤ b' ∧ q' = q) ∧ SIT E Lim stk p sg m1 s0 m2 a a' b b' := by
  obtain ⟨hE, hS, hW, hB, hC, hL, hX, hU⟩ := id h
  obtain ⟨w1, a2, hc, w2, e1⟩ := hA
  obtain ⟨o1, e3, hm⟩ := hM
  subst e1
  obtain ⟨xs, hxs⟩ : ∃ xs, nxL (vM E) k (gi (vM E) 8 x) = xs := ⟨_, rfl⟩
  have hc' : CDC (vM E) (vA E) (eLU E stk) (eLV E p) (k + 1) 0 x 1 (a + 1) a2 (cA E) := by
    have := hc hF
    rw [cdc0_5 h7 hxs] at this
    rw [cdc0_5 h7 hxs]
    exact this
  have le := (WLE (cur := p) hS hk (k + 1) 0 x 1 (Or.inl (by omega)) hO hF).2 _ _ _ _ _ (hm hF)
  obtain ⟨l1, hCAS⟩ := CAS.act (Lim := Lim) (p := p) hE hS hW hC hB hL hk h7 hc' (hm hF) hF hO (by omega) (by omega)
  rw [if_neg (by decide)] at hCAS
  exact ⟨⟨by omega, by omega, e3⟩, SIT.of (SIS.call hE hCAS w1 w2 o1 ⟨by omega, by omega⟩ ⟨by omega, by omega⟩) (by omega) (by omega)⟩
theorem difT_n {a w : Int32} (h : difT a w tk = []) : a = 0 ∨ w = 0 ∨ a = w := by
  unfold difT at h
  by_cases c : a ≠ 0 ∧ w ≠ 0 ∧ a ≠ w
  · rw [if_pos c] at h
    exact absurd h (by simp)
  · by_cases c1 : a = 0
    · exact Or.inl c1
    · by_cases c2 : w = 0
      · exact Or.inr (Or.inl c2)
      · exact Or.inr (Or.inr (Classical.byContradiction fun c3 => c ⟨c1, c2, c3⟩))
/-- targets behind the first, and the value -/
theorem tgz_of (h : SOK E Lim) (hk : SCE E stk) {nx : Nat} (hty : w = 1 ∨ w = 2) (hy : OKN (vM E) K 0 y ∧ NDX (vM E) K 0 y ≤ nx) : ∀ (xs : List Nat) (t : Int32) (j j' a a' b b' : Nat), (∀ x ∈ xs, OKN (vM E) K 1 x ∧ NDX (vM E) K 1 x ≤ nx ∧ (FLX (vM E) (eLU E stk) p K 1 x 0 = [] → tyP (vM E) (eLU E stk) p 0 x ≠ 0)) → t = w → TGF (vM E) (eLU E stk) p K y t xs = [] → TGK (vM E) (vA E) (eLU E stk) p (eLV E p) K y j xs a a' (cA E) → TGC (vM E) (eLU E stk) p (eLV E p) K y j' xs b b' (dM E) → a' < eNo E 5 0 → b' < 60000 →
    ∃ a1 a2 b1 b2, a ≤ a1 ∧ a1 ≤ a2 ∧ b ≤ b1 ∧ b1 ≤ b2 ∧ a' = a2 + 1 ∧ b' = b2 + 1 ∧ TGZ E Lim stk p w nx xs.length a a1 b b1 ∧ SIV E Lim stk p w nx a1 a2 b1 b2 ∧ gl (cA E) 41 a2 = wdC 26 0 (Int32.ofNat (j + xs.length)) ∧ opW (dM E) b2 7 (Int32.ofNat (j' + xs.length)) 0 0 := by
  intro xs
  induction xs with
  | nil =>
    intro t j j' a a' b b' _ ht hF hA hM ha hb
    obtain ⟨a2, hc, w1, e1⟩ := hA
    obtain ⟨b2, hm, o1, e2⟩ := hM
    obtain ⟨f1, f2⟩ := app_nil (show FLX (vM E) (eLU E stk) p K 0 y 0 ++ difT (TYX (vM E) (eLU E stk) K y) t (nd (vM E) 12 y) = [] from hF)
    obtain ⟨⟨l1, l2⟩, hv⟩ := sp_val (p := p) h hk (hc f1) (hm f1) f1 hy.1 (by omega) (by omega)
    have hT := TYX_12 h.2.1 hk K y (hm f1) hy.1 f1
    have e : TYX (vM E) (eLU E stk) K y = w := by
      rcases difT_n f2 with c | c | c
      · rcases hT with d | d <;> (rw [c] at d; exact absurd d (by decide))
      · rw [ht] at c
        rcases hty with d | d <;> (rw [c] at d; exact absurd d (by decide))
      · exact c.trans ht
    rw [e] at hv
    exact ⟨a, a2, b, b2, Nat.le_refl _, l1, Nat.le_refl _, l2, e1, e2, ⟨rfl, rfl⟩, SIV_g.mpr ((SIV_g.mp hv).wid hy.2), w1, o1⟩
  | cons x r ih =>
    intro t j j' a a' b b' hx ht hF hA hM ha hb
    obtain ⟨a3, hc, hA'⟩ := hA
    obtain ⟨b3, hm, hM'⟩ := hM
    obtain ⟨f12, f3⟩ := app_nil (show FLX (vM E) (eLU E stk) p K 1 x 0 ++ difT (tyP (vM E) (eLU E stk) p 0 x) t (nd (vM E) 12 x) ++ TGF (vM E) (eLU E stk) p K y (if t = 0 then tyP (vM E) (eLU E stk) p 0 x else t) r = [] from hF)
    obtain ⟨f1, f2⟩ := app_nil f12
    obtain ⟨h1, h2, h3⟩ := hx x List.mem_cons_self
    have ht0 : t ≠ 0 := by rcases hty with d | d <;> (rw [ht, d]; decide)
    rw [if_neg ht0] at f3
    obtain ⟨a1, a2, b1, b2, g1, g2, g3, g4, g5, g6, g7, g8, g9, g10⟩ := ih t (j + 1) (j' + 1) a3 a' b3 b' (fun z hz => hx z (List.mem_cons_of_mem _ hz)) ht f3 hA' hM' ha hb
    obtain ⟨⟨l1, l2⟩, hv⟩ := sp_plc (p := p) h hk (hc f1) (hm f1) f1 h1 (by omega) (by omega)
    have e : tyP (vM E) (eLU E stk) p 0 x = w := by
      rcases difT_n f2 with c | c | c
      · exact absurd c (h3 f1)
      · exact absurd c ht0
      · exact c.trans ht
    rw [e] at hv
    refine ⟨a1, a2, b1, b2, by omega, g2, by omega, g4, g5, g6, ⟨a3, b3, l1, g1, hv.wid h2, g7⟩, g8, ?_, ?_⟩
    · rw [List.length_cons, show j + (r.length + 1) = j + 1 + r.length by omega]; exact g9
    · rw [List.length_cons, show j' + (r.length + 1) = j' + 1 + r.length by omega]; exact g10
theorem sp_assign (h : SOK E Lim) (hk : SCE E stk) {xs : List Nat} {nx : Nat} (hA : PAC (vM E) (vA E) (eLU E stk) p (eLV E p) K x y xs a a' Z (cA E)) (hM : PAS (vM E) (eLU E stk) p (eLV E p) K y (x :: xs) b q b' q' (dM E)) (hF : TGF (vM E) (eLU E stk) p K y 0 (x :: xs) = []) (hx : ∀ v ∈ x :: xs, OKN (vM E) K 1 v ∧ NDX (vM E) K 1 v ≤ nx ∧ (FLX (vM E) (eLU E stk) p K 1 v 0 = [] → tyP (vM E) (eLU E stk) p 0 v ≠ 0 ∧ (tyP (vM E) (eLU E stk) p 0 v = 1 ∨ tyP (vM E) (eLU E stk) p 0 v = 2))) (hy : OKN (vM E) K 0 y ∧ NDX (vM E) K 0 y ≤ nx) (hn : xs.length + 1 + nx ≤ 502) (ha : a' < eNo E 5 0) (hb : b' < 60000) : (a ≤ a' ∧ b ≤ b' ∧ q' = q) ∧ SIT E Lim stk p sg m1 s0 m2 a a' b b' := by
  obtain ⟨w1, a3, hc, hA'⟩ := hA
  obtain ⟨o1, ⟨b3, hm, hM'⟩, e3⟩ := hM
  obtain ⟨f12, f3⟩ := app_nil (show FLX (vM E) (eLU E stk) p K 1 x 0 ++ difT (tyP (vM E) (eLU E stk) p 0 x) 0 (nd (vM E) 12 x) ++ TGF (vM E) (eLU E stk) p K y (if (0 : Int32) = 0 then tyP (vM E) (eLU E stk) p 0 x else 0) xs = [] from hF)
  obtain ⟨f1, f2⟩ := app_nil f12
  rw [if_pos rfl] at f3
  obtain ⟨h1, h2, h3⟩ := hx x List.mem_cons_self
  obtain ⟨a1, a2, b1, b2, g1, g2, g3, g4, g5, g6, g7, g8, g9, g10⟩ := tgz_of (w := tyP (vM E) (eLU E stk) p 0 x) (nx := nx) h hk (h3 f1).2 hy xs _ 1 1 a3 a' b3 b' (fun z hz => by
    obtain ⟨q1, q2, q3⟩ := hx z (List.mem_cons_of_mem _ hz)
    exact ⟨q1, q2, fun f => (q3 f).1⟩) rfl f3 hA' hM' ha hb
  obtain ⟨⟨l1, l2⟩, hv⟩ := sp_plc (p := p) h hk (hc f1) (hm f1) f1 h1 (by omega) (by omega)
  subst g5
  subst g6
  refine ⟨⟨by omega, by omega, e3⟩, SIT.of (SIS.assign (Y' := 0) (Z' := 0) (m := xs.length + 1) (n := nx) (nx := xs.length + 1 + nx) h.1 ⟨a3, b3, l1, g1, hv.wid h2, g7⟩ g8 w1 ?_ o1 ?_ ⟨by omega, by omega⟩ ⟨by omega, g2, by omega⟩ ⟨by omega, by omega⟩ (Nat.le_refl _)) hn (by omega)⟩
  · rw [show xs.length + 1 = 1 + xs.length by omega]; exact g9
  · rw [show xs.length + 1 = 1 + xs.length by omega]; exact g10
end NA0
