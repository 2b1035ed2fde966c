/-! BOTH SIDES' CODES: the VARIABLE of a for; a for -/
section ND4
variable {E : SENV} {Lim k p K Kx x y tk a a' a1 b b' b1 b3 e3 q q' sg m1 s0 m2 Z n n1 pl H x4 nx v m lev cur aE bE r r1 : Nat} {kd wr : Nat → Nat} {stk : List Nat} {w ty : Int32} {PT PR : Nat → Nat → Wd → Prop} {LT LR : List (Nat × Int32)} {lu : Nat → Nat} {PA : Nat → Nat → Nat → Wd → Prop} {PM : Nat → Nat → Nat → Nat → Wd → Prop}
theorem SYS.t1 (hS : SYS E) (hy : y < eNo E 5 2) (h : gi (vM E) 19 y = 1 ∨ FO (vM E) y 1 ∨ gi (vM E) 19 y = 2 ∨ FO (vM E) y 2) (h2 : gi (vM E) 20 y ≠ 2) : gi (vM E) 20 y = 1 := by
  rcases hS.t3 hy with c | c | c
  · exact absurd c (hS.tn hy h)
  · exact c
  · exact absurd c h2
/-- a NAME -/
theorem fv_nam2 (h : SOK E Lim) (hk : SCE E stk) (h7 : gi (vM E) 7 v = 3) (hF : FLX (vM E) (eLU E stk) p (k + 1) 1 v 1 = []) (hty : plT (vM E) p 1 (eLU E stk (nd (vM E) 12 v)) ≠ 2) (hc : CDC (vM E) (vA E) (eLU E stk) (eLV E p) (k + 1) 1 v 0 (a + 2) n1 (cA E)) (hw : gl (cA E) 41 n1 = wdC 36 0 0) (hnx : 2 ≤ nx) :
    (n1 < eNo E 5 0 → a + 3 ≤ n1 ∧ VARF E Lim stk p nx (n1 - a) (a + 2) (PTN (vM E) (eLU E stk) p (eLV E p) (k + 1) v) (cdY (vM E) (eLV E p) (eLU E stk (nd (vM E) 12 v)))) ∧ (∀ b b', PTN (vM E) (eLU E stk) p (eLV E p) (k + 1) v b b' (dM E) → b ≤ b') ∧ (∀ b b', cdY (vM E) (eLV E p) (eLU E stk (nd (vM E) 12 v)) b b' (dM E) → b ≤ b') := by
  obtain ⟨hE, hS, hW, hB, hC, hL, hX, hU⟩ := id h
  have hEN := hE.1
  rw [flx1_3 h7] at hF
  obtain ⟨f1, f2⟩ := app_nil hF
  have hl0 := notD_n f1
  obtain ⟨y, ey⟩ : ∃ y, eLU E stk (nd (vM E) 12 v) = y + 1 := ⟨eLU E stk (nd (vM E) 12 v) - 1, (Nat.sub_add_cancel (Nat.pos_of_ne_zero hl0)).symm⟩
  have hy := hS.nm hk ey
  have his := fun {x : Int32} (hx : x ≠ 6) (h0 : x ≠ 0) => hS.is hk (tk := nd (vM E) 12 v) hx h0
  have hno := hS.no0 hk (tk := nd (vM E) 12 v)
  rw [cdc1_3 h7] at hc
  have hPTN : ∀ b b', PTN (vM E) (eLU E stk) p (eLV E p) (k + 1) v b b' (dM E) → cdL (vM E) (eLV E p) (y + 1) b b' (dM E) := fun b b' hP => by
    have := hP (by rw [flx1_3 h7]; exact hF)
    rw [cdm1_3 h7, ey] at this
    exact this
  rw [ey] at f2 hty hc his hno ⊢
  rw [Nat.add_sub_cancel] at f2 his
  have hkk : gi (vM E) 19 y = 1 ∨ FO (vM E) y 1 := by
    by_cases c : y + 1 = 0 ∨ gi (vM E) 19 y = 1 ∨ FO (vM E) y 1
    · rcases c with c | c | c
      · omega
      · exact Or.inl c
      · exact Or.inr c
    · rw [if_neg c, if_neg (fun c => absurd c.1 (by decide))] at f2
      exact (misS_n hno (by omega) f2).elim
  have h20 : gi (vM E) 20 y = 1 := by
    refine hS.t1 hy (hkk.elim Or.inl (fun c => Or.inr (Or.inl c))) (fun c => hty ?_)
    unfold plT
    rw [if_neg (by omega), Nat.add_sub_cancel, if_pos hkk]; exact c
  have n3 : gi (vA E) 14 (y + 1) ≠ 3 := fun c => by
    rcases ((his (by decide) (by decide)).mp c).2 with g | g
    · rcases hkk with g' | g'
      · exact absurd (g.symm.trans g') (by decide)
      · exact absurd (g.symm.trans g'.1) (by decide)
    · rcases hkk with g' | g'
      · exact absurd (g.1.symm.trans g') (by decide)
      · exact absurd (g.2.symm.trans g'.2) (by decide)
  rw [if_neg n3] at hc
  obtain ⟨w1, w2⟩ := hS.v16 hy
  have leT : ∀ b b', PTN (vM E) (eLU E stk) p (eLV E p) (k + 1) v b b' (dM E) → b ≤ b' := fun b b' hP => by
    rcases hPTN b b' hP with ⟨_, _, e⟩ | ⟨_, _, _, e⟩ | ⟨_, _, _, e⟩ | ⟨_, _, e⟩ | ⟨_, e⟩ <;> omega
  have leR : ∀ b b', cdY (vM E) (eLV E p) (y + 1) b b' (dM E) → b ≤ b' := fun b b' hP => by
    rcases hP with ⟨_, e⟩ | ⟨_, ⟨_, _, e⟩ | ⟨_, _, e⟩ | ⟨_, ⟨_, e⟩ | ⟨_, _, e⟩⟩ | ⟨_, e⟩⟩ <;> omega
  -- whose word is at hand
  have hand : n1 < eNo E 5 0 → NHD E y → gl (cA E) 41 (a + 2) = wdC 20 (hpC (vA E) (eLV E p) (y + 1)) (gi (vA E) 18 (y + 1)) → n1 = a + 2 + 1 → a + 3 ≤ n1 ∧ VARF E Lim stk p nx (n1 - a) (a + 2) (PTN (vM E) (eLU E stk) p (eLV E p) (k + 1) v) (cdY (vM E) (eLV E p) (y + 1)) := fun hn1 hN c2 e1 => by
    refine ⟨by omega, fun L K A hl hA hon hr hp hH hj => ?_⟩
    have := fvx_hand (L := L) (K := K) (A := A) (stk := stk) (tk := nd (vM E) 12 v) (pl := a + 2) (nx := nx) (PT := PTN (vM E) (eLU E stk) p (eLV E p) (k + 1) v) (PR := cdY (vM E) (eLV E p) (y + 1)) hE hS hA hon (fun s hs => by rw [hr]; exact hs) hp hH ey hN c2 (by rw [← e1]; exact hw) (by omega) (fun b b' hP => ?_) (fun b b' hP => ?_) (by omega)
    · rw [h20] at this
      rw [show n1 - a = 3 by omega]
      exact this
    · rcases hPTN b b' hP with ⟨d, o, e⟩ | ⟨d, d2, o, e⟩ | ⟨d, d2, o, e⟩ | ⟨d, o, e⟩ | ⟨d, e⟩
      · rw [Nat.add_sub_cancel] at d o
        exact ⟨e, _, _, o, by rw [if_pos d]⟩
      · rw [Nat.add_sub_cancel] at d o
        exact ⟨e, _, _, o, by rw [if_neg (by rw [d.1]; decide)]⟩
      · rw [Nat.add_sub_cancel] at d d2
        rcases hN with g | g
        · exact absurd (g.symm.trans d.1) (by decide)
        · exact absurd d2 g.2
      · rw [Nat.add_sub_cancel] at d
        rcases hN with g | g
        · exact absurd (g.symm.trans d) (by decide)
        · exact absurd (g.1.1.symm.trans d) (by decide)
      · rw [Nat.add_sub_cancel] at d
        rcases hN with g | g
        · exact absurd (g.symm.trans d.1) (by decide)
        · exact absurd (g.1.2.symm.trans d.2) (by decide)
    · rcases hP with ⟨d, _⟩ | ⟨_, hP⟩
      · omega
      rw [Nat.add_sub_cancel] at hP
      rcases hP with ⟨d, o, e⟩ | ⟨d, o, e⟩ | ⟨d, _⟩ | ⟨d, _⟩
      · exact ⟨e, _, _, o, by rw [if_pos d]⟩
      · rcases hN with g | g
        · exact absurd (g.symm.trans d.1) (by decide)
        · rw [if_neg g.2] at o
          exact ⟨e, _, _, o, by rw [if_neg (by rw [d.1]; decide)]⟩
      · rcases hN with g | g
        · exact d.elim (fun c => absurd (g.symm.trans c) (by decide)) (fun c => absurd (g.symm.trans c.1) (by decide))
        · exact d.elim (fun c => absurd (g.1.1.symm.trans c) (by decide)) (fun c => absurd (g.1.2.symm.trans c.2) (by decide))
      · rcases hN with g | g
        · exact absurd (Or.inl g) d
        · exact absurd (Or.inr (Or.inl g.1)) d
  refine ⟨fun hn1 => ?_, leT, leR⟩
  rcases hkk with g | g
  · rcases hc with ⟨c, _⟩ | ⟨_, c2, c3⟩
    · exact absurd c (w1 g)
    · exact hand hn1 (Or.inl g) c2 c3
  · rcases hc with ⟨c, c2, c3, c4⟩ | ⟨c, c2, c3⟩
    · have h28 := (w2 g).mp c
      refine ⟨by omega, fun L K A hl hA hon hr hp hH hj => ?_⟩
      have hsl := h.le hl
      have := fvx_name (L := L) (K := K) (A := A) (stk := stk) (tk := nd (vM E) 12 v) (pl := a + 2) (nx := nx) (PT := PTN (vM E) (eLU E stk) p (eLV E p) (k + 1) v) (PR := cdY (vM E) (eLV E p) (y + 1)) hE hS (fun M hM => (hsl.2.2.2.2.2.1 M hM).1) hsl.2.2.2.2.2.2.2 hA hon (fun s hs => by rw [hr]; exact hs) hp hH ey g h28 c2 c3 (by rw [show a + 2 + 2 = n1 by omega]; exact hw) (by omega) (fun b b' hP => ?_) (fun b b' hP => ?_) hnx hj
      · rw [h20] at this
        rw [show n1 - a = 4 by omega]
        exact this
      · rcases hPTN b b' hP with ⟨d, o, e⟩ | ⟨d, d2, o, e⟩ | ⟨d, d2, o, e⟩ | ⟨d, o, e⟩ | ⟨d, e⟩
        · rw [Nat.add_sub_cancel] at d
          exact absurd (g.1.symm.trans d) (by decide)
        · rw [Nat.add_sub_cancel] at d2
          exact absurd h28 d2
        · rw [Nat.add_sub_cancel] at o
          exact ⟨e, o⟩
        · rw [Nat.add_sub_cancel] at d
          exact absurd (g.1.symm.trans d) (by decide)
        · rw [Nat.add_sub_cancel] at d
          exact absurd (g.2.symm.trans d.2) (by decide)
      · rcases hP with ⟨d, _⟩ | ⟨_, hP⟩
        · omega
        rw [Nat.add_sub_cancel] at hP
        rcases hP with ⟨d, o, e⟩ | ⟨d, o, e⟩ | ⟨d, _⟩ | ⟨d, _⟩
        · exact absurd (g.1.symm.trans d) (by decide)
        · rw [if_pos h28] at o
          exact ⟨e, o⟩
        · exact d.elim (fun c => absurd (g.1.symm.trans c) (by decide)) (fun c => absurd (g.2.symm.trans c.2) (by decide))
        · exact absurd (Or.inr (Or.inl g)) d
    · exact hand hn1 (Or.inr ⟨g, fun z => c ((w2 g).mpr z)⟩) c2 c3
/-- an ELEMENT -/
theorem fv_ele2 (h : SOK E Lim) (hk : SCE E stk) (h7 : gi (vM E) 7 v = 4) (hF : elF (vM E) (eLU E stk) p k v = []) (hty : tyE (vM E) (eLU E stk (nd (vM E) 12 v)) ≠ 2) (hO : OKN (vM E) (k + 1) 1 v) (hn : NDX (vM E) (k + 1) 1 v ≤ nx) (hc : CDC (vM E) (vA E) (eLU E stk) (eLV E p) (k + 1) 1 v 0 (a + 2) n1 (cA E)) (hm : elCM (vM E) (eLU E stk) (eLV E p) k v r r1 (dM E)) (hw : gl (cA E) 41 n1 = wdC 36 0 0) (ho : opW (dM E) r1 32 0 0 0) :
    (a + 2 ≤ n1 ∧ r ≤ r1 ∧ (n1 < eNo E 5 0 → r1 < 60000 → VARF E Lim stk p nx (n1 - a) (a + 2) (PTE r) (PRE9 r))) ∧ (∀ b b', PTE r b b' (dM E) → b ≤ b') ∧ (∀ b b', PRE9 r b b' (dM E) → b ≤ b') := by
  obtain ⟨hE, hS, hW, hB, hC, hL, hX, hU⟩ := id h
  have hEN := hE.1
  have hF1 : FLX (vM E) (eLU E stk) p (k + 1) 1 v 0 = [] := by rw [flx1_4 h7 rfl]; exact hF
  have hm1 : CDM (vM E) (eLU E stk) (eLV E p) (k + 1) 1 v 0 0 r r1 (dM E) := by rw [cdm1_4 h7 rfl]; exact hm
  have e1 : tyP (vM E) (eLU E stk) p 0 v = tyE (vM E) (eLU E stk (nd (vM E) 12 v)) := by unfold tyP; rw [if_pos h7]
  have wl := WLE (cur := p) hS hk (k + 1) 1 v 0 (Or.inl (by omega)) hO hF1
  have le : a + 2 ≤ n1 ∧ r ≤ r1 := ⟨wl.1 _ _ _ _ hc, wl.2 _ _ _ _ _ hm1⟩
  have hl0 := elL_n (hS.no0 hk) (show elL (vM E) (eLU E stk) p k v (nxL (vM E) k (gi (vM E) 8 v)) = [] from hF)
  have hT1 : tyP (vM E) (eLU E stk) p 0 v = 1 := by
    rw [e1]
    obtain ⟨y, ey⟩ : ∃ y, eLU E stk (nd (vM E) 12 v) = y + 1 := ⟨eLU E stk (nd (vM E) 12 v) - 1, (Nat.sub_add_cancel (Nat.pos_of_ne_zero hl0.1)).symm⟩
    have hy := hS.nm hk ey
    have hl2 := hl0.2.2
    rw [ey] at hl2 hty ⊢
    rw [Nat.add_sub_cancel] at hl2
    have e2 : tyE (vM E) (y + 1) = gi (vM E) 20 y := by
      unfold tyE
      rw [if_neg (by omega), Nat.add_sub_cancel, if_pos (hl2.elim (fun c => Or.inl c.1) (fun c => Or.inr c.1))]
    rw [e2] at hty ⊢
    exact hS.t1 hy (hl2.elim (fun c => Or.inr (Or.inr (Or.inl c.1))) (fun c => Or.inr (Or.inr (Or.inr c.1)))) hty
  refine ⟨⟨le.1, le.2, fun hn1 hr1 L K A hl hA hon hr hp hH hj => ?_⟩, fun b b' hP => by have := hP.2; omega, fun b b' hP => by have := hP.2.2; omega⟩
  have hs := ((sp_plc (p := p) (h.le hl) hk hc hm1 hF1 hO hn1 hr1).2).wid hn
  rw [hT1] at hs
  have := fvx_elem (PT := PTE r) (PR := PRE9 r) hE hA hon (fun s hs => by rw [hr]; exact hs) hp hH hs hw ho ⟨le.1, hn1⟩ ⟨by omega, hr1⟩ (fun b b' hP => ⟨hP.2, hP.1⟩) (fun b b' hP => ⟨hP.2.2, hP.1, hP.2.1⟩)
  rw [show n1 - (a + 2) + 2 = n1 - a by have := le.1; omega] at this
  exact this
/-- the reference jumps -/
theorem jm1 {gM : Wd} {ev sp cp na mt el us : Nat} {w : Wd} (M : MK gM b ev sp cp na mt el us w) (ho : opW gM b 10 (Int32.ofNat b1) 0 0) (hb : b < 60000 ∧ b1 ≤ 60000) : ∃ y, SPS 1 w y ∧ OFF (fun k j => k = 0 ∧ j = 128) y w ∧ MK gM b1 ev sp cp na mt el us y := by
  have st := rm_jump M hb.1 ho
  have O : OFF (fun k j => k = 0 ∧ j = 128) (si (si w 0 128 (Int32.ofNat (b + 1))) 0 128 (Int32.ofNat b1)) w := OFF.tr (OFF.si ⟨rfl, rfl⟩) (OFF.si ⟨rfl, rfl⟩)
  exact ⟨_, SPS.one (M.runs ho hb.1 (by decide)) st, O, M.ps (s0 := 0) (O.mono fun k j p => by unfold PSO; omega) (gi_si0 _ _ _ _) (by rw [gi_si1 (by omega), gi_si1 (by omega)]; exact M.2.2.2.2.1) hb.2 M.2.2.2.2.2.2.2.2.2.2.2.2.1⟩
theorem fes_hd {l : List FEL} (hl : l ≠ []) (hF : fesL (vM E) (eLU E stk) p K v ty LT LR l = []) : LT = [] ∧ ty ≠ 2 := by
  cases l with
  | nil => exact absurd rfl hl
  | cons x r =>
    obtain ⟨f1, _⟩ := app_nil (show feL (vM E) (eLU E stk) p K v ty LT LR x ++ fesL (vM E) (eLU E stk) p K v ty LT LR r = [] from hF)
    have hst : stL (vM E) (eLU E stk) p K v x.2.2.1.1 ty LT = [] := by
      unfold feL at f1
      by_cases c0 : x.2.1 = 0
      · rw [if_pos c0] at f1; exact f1
      · rw [if_neg c0] at f1
        by_cases c1 : x.2.1 = 1
        · rw [if_pos c1] at f1; exact (app_nil f1).1
        · rw [if_neg c1] at f1
          exact (app_nil (app_nil (app_nil (app_nil (app_nil f1).1).1).1).1).1
    obtain ⟨g1, _⟩ := app_nil (show LT ++ (if ty = 2 then [(nd (vM E) 12 v, 4)] else []) ++ mbL (vM E) (eLU E stk) p K x.2.2.1.1 1 = [] from hst)
    obtain ⟨g2, g3⟩ := app_nil g1
    refine ⟨g2, fun c => ?_⟩
    rw [if_pos c] at g3
    exact absurd g3 (by simp)
/-- codes of ELEMENTS lie behind one another -/
theorem fes_le (h : SOK E Lim) (hk : SCE E stk) (hPT : ∀ b b', PT b b' (dM E) → b ≤ b') (hPR : ∀ b b', PR b b' (dM E) → b ≤ b') : ∀ (l : List FEL) (b : Nat), (∀ xx ∈ l, feS kd wr m (vM E) lu lev cur K xx ∧ ENF E K nx xx) → fesP (vM E) (eLU E stk) p (eLV E p) K PT PR m2 x4 l b bE (dM E) → fesL (vM E) (eLU E stk) p K v ty LT LR l = [] → b ≤ bE := by
  have ml : ∀ {x b b1 : Nat} {t : Int32}, mbP (vM E) (eLU E stk) p (eLV E p) K x b b1 (dM E) → mbL (vM E) (eLU E stk) p K x t = [] → ENX E K nx x → b ≤ b1 := fun {x b b1 t} hm hF hO => by
    obtain ⟨f1, f2⟩ := app_nil (show FLX (vM E) (eLU E stk) p K 0 x 0 ++ misT (TYX (vM E) (eLU E stk) K x) t (nd (vM E) 12 x) = [] from hF)
    exact (WLE (cur := p) h.2.1 hk K 0 x 0 (Or.inl (by omega)) hO.1 f1).2 _ _ _ _ _ (hm f1)
  have sl : ∀ {x b b1 : Nat}, stP (vM E) (eLU E stk) p (eLV E p) K x PT b b1 (dM E) → stL (vM E) (eLU E stk) p K v x ty LT = [] → ENX E K nx x → b ≤ b1 := fun {x b b1} hm hF hO => by
    obtain ⟨c1, c2, o1, hP, hv, o2, e⟩ := hm
    obtain ⟨_, f2⟩ := app_nil (show LT ++ (if ty = 2 then [(nd (vM E) 12 v, 4)] else []) ++ mbL (vM E) (eLU E stk) p K x 1 = [] from hF)
    have := hPT _ _ hP
    have := ml hv f2 hO
    omega
  intro l
  induction l with
  | nil =>
    intro b _ hm _
    have hm : bE = b := hm
    omega
  | cons xx r ih =>
    intro b hS ⟨b1, hm1, hm2⟩ hF
    obtain ⟨f1, f2⟩ := app_nil (show feL (vM E) (eLU E stk) p K v ty LT LR xx ++ fesL (vM E) (eLU E stk) p K v ty LT LR r = [] from hF)
    have q := ih b1 (fun z hz => hS z (List.mem_cons_of_mem _ hz)) hm2 f2
    obtain ⟨t1, t2⟩ := hS xx List.mem_cons_self
    unfold feL at f1
    rcases hm1 with ⟨c0, c1, hst, _, _, e⟩ | ⟨c0, c1, c2, hst, hv, _, _, _, e⟩ | ⟨c0, c1, c2, c3, c4, c5, c6, hst, _, hv, _, _, hP, hR, _, _, _, _, hR2, hv2, _, _, _, e⟩
    · rw [if_pos c0] at f1
      have := sl hst f1 t2.1
      omega
    · rw [if_neg (by omega), if_pos c0] at f1
      obtain ⟨g1, g2⟩ := app_nil f1
      have := sl hst g1 t2.1
      have := ml hv g2 (t2.2.1 (by omega))
      omega
    · rw [if_neg (by omega), if_neg (by omega)] at f1
      obtain ⟨g1, g9⟩ := app_nil f1
      obtain ⟨g1, _⟩ := app_nil g1
      obtain ⟨g1, _⟩ := app_nil g1
      obtain ⟨g1, _⟩ := app_nil g1
      obtain ⟨g1, g2⟩ := app_nil g1
      have := sl hst g1 t2.1
      have := ml hv g2 (t2.2.1 (by omega))
      have := hPT _ _ hP
      have := hPR _ _ hR
      have := hPR _ _ hR2
      have := ml hv2 g9 (t2.2.2 c0)
      omega
theorem sp_forn (h : SOK E Lim) (hk : SCE E stk) {xs : List Nat} {l : List FEL} (hl : l.map Prod.fst = xs) (hl0 : l ≠ []) (hs : ∀ L, L ≤ Lim → SPQ E L stk p (sg + 1) m1 s0 PA PM) (hms : m1 ≤ s0) (h7 : gi (vM E) 7 v = 3) (hA : PFd (vM E) (vA E) (eLU E stk) p (eLV E p) (K + 1) (K + 1) v sg xs PA a a' Z (cA E)) (hM : PFN (vM E) (eLU E stk) p (eLV E p) (K + 1) v (nd (vM E) 12 v) PM l b q b' q' (dM E)) (hF : fesL (vM E) (eLU E stk) p (K + 1) v (plT (vM E) p 1 (eLU E stk (nd (vM E) 12 v))) (FLX (vM E) (eLU E stk) p (K + 1) 1 v 1) LR l = []) (hO : ∀ xx ∈ l, feS kd wr m (vM E) lu lev cur (K + 1) xx ∧ ENF E (K + 1) nx xx) (hnx : 2 ≤ nx ∧ nx + 4 ≤ 502) (hZ : Z ≤ eNo E 1 p) (hq : q' ≤ eNo E 3 p ∧ eNo E 3 p ≤ 60000) (ha : a' < eNo E 5 0) (hb : b' < 60000) (h0 : s0 ≤ q) : (a ≤ a' ∧ b ≤ b' ∧ q ≤ q') ∧ SIT E Lim stk p sg m1 s0 q a a' b b' := by
  obtain ⟨hE, hS, _⟩ := id h
  have hEN := hE.1
  obtain ⟨w0, wZ, n1, aE, b3, w1, hc, w2, hels, w3, hP2, w4, e1⟩ := hA
  obtain ⟨o0, e3, o1, hP1, o2, hfes⟩ := hM
  obtain ⟨f1, f2⟩ := fes_hd hl0 hF
  subst hl
  subst e1
  have hlen : 1 ≤ l.length := List.length_pos_iff.mpr hl0
  obtain ⟨hV, leT, leR⟩ := fv_nam2 (a := a) (n1 := n1) (nx := nx) h hk h7 f1 f2 (hc f1) w2 hnx.1
  have hs0 := hs Lim (Nat.le_refl _) _ _ _ _ _ _ _ hP2 hP1 hZ hq.1 (by omega)
  have he3 : e3 + 1 ≤ b' ∧ e3 < 60000 := by
    by_cases c : e3 < 60000
    · obtain ⟨⟨g1, g2, g3⟩, _⟩ := hs0 c (by omega)
      have ha9 : aE < eNo E 5 0 := by omega
      obtain ⟨_, r2, _⟩ := fls_of (Lim := Lim) h hk leT leR l (n1 + 1) (e3 + 1) hO hels hfes hF ha9 hb
      exact ⟨r2, c⟩
    · exact absurd (fes_le h hk leT leR l (e3 + 1) (fun xx hx => (hO xx hx)) hfes hF) (by omega)
  obtain ⟨⟨g1, g2, g3⟩, _⟩ := hs0 he3.2 (by omega)
  have ha9 : aE < eNo E 5 0 := by omega
  obtain ⟨r1, r2, r3⟩ := fls_of (Lim := Lim) h hk leT leR l (n1 + 1) (e3 + 1) hO hels hfes hF ha9 hb
  obtain ⟨l1, hV⟩ := hV (by omega)
  refine ⟨⟨by omega, by omega, by omega⟩, ?_⟩
  exact SIT.fr (x4 := b + 2) hE hV w0 w1 o0 (fun ev sp cp na mt el us w M => by
    obtain ⟨y, y1, y2, y3⟩ := jm1 M o1 ⟨by omega, by omega⟩
    exact ⟨1, y, by omega, y1, y2, y3⟩) r3 w3 (fun L hl => ((hs L hl) _ _ _ _ _ _ _ hP2 hP1 hZ hq.1 (by omega) he3.2 (by omega)).2) w4 o2 ⟨hms, h0, by omega, by omega, by omega⟩ hnx.2 ⟨by omega, by omega, by omega, by omega⟩ ⟨by omega, by omega, hb, by omega, he3.2⟩
theorem sp_fore (h : SOK E Lim) (hk : SCE E stk) {xs : List Nat} {l : List FEL} (hl : l.map Prod.fst = xs) (hl0 : l ≠ []) (hs : ∀ L, L ≤ Lim → SPQ E L stk p (sg + 1) m1 s0 PA PM) (hms : m1 ≤ s0) (h7 : gi (vM E) 7 v = 4) (hA : PFd (vM E) (vA E) (eLU E stk) p (eLV E p) (K + 1) (K + 2) v sg xs PA a a' Z (cA E)) (hM : PFE (vM E) (eLU E stk) p (eLV E p) (K + 1) v PM l b q b' q' (dM E)) (hF0 : elF (vM E) (eLU E stk) p (K + 1) v = []) (hF9 : FLX (vM E) (eLU E stk) p (K + 2) 1 v 1 = []) (hF : fesL (vM E) (eLU E stk) p (K + 1) v (tyE (vM E) (eLU E stk (nd (vM E) 12 v))) [] LR l = []) (hO : ∀ xx ∈ l, feS kd wr m (vM E) lu lev cur (K + 1) xx ∧ ENF E (K + 1) nx xx) (hOv : OKN (vM E) (K + 2) 1 v ∧ NDX (vM E) (K + 2) 1 v ≤ nx) (hnx : 2 ≤ nx ∧ nx + 4 ≤ 502) (hZ : Z ≤ eNo E 1 p) (hq : q' ≤ eNo E 3 p ∧ eNo E 3 p ≤ 60000) (ha : a' < eNo E 5 0) (hb : b' < 60000) (h0 : s0 ≤ q) : (a ≤ a' ∧ b ≤ b' ∧ q ≤ q') ∧ SIT E Lim stk p sg m1 s0 q a a' b b' := by
  obtain ⟨hE, hS, _⟩ := id h
  have hEN := hE.1
  obtain ⟨w0, wZ, n1, aE, b3, w1, hc, w2, hels, w3, hP2, w4, e1⟩ := hA
  obtain ⟨o0, r1, oj, hel, o32, e3, o1, hP1, o2, hfes⟩ := hM
  obtain ⟨f1, f2⟩ := fes_hd hl0 hF
  subst hl
  subst e1
  have hlen : 1 ≤ l.length := List.length_pos_iff.mpr hl0
  obtain ⟨⟨l1, l2, hV⟩, leT, leR⟩ := fv_ele2 (a := a) (n1 := n1) (nx := nx) h hk h7 hF0 f2 hOv.1 hOv.2 (hc hF9) (hel hF0) w2 o32
  have hs0 := hs Lim (Nat.le_refl _) _ _ _ _ _ _ _ hP2 hP1 hZ hq.1 (by omega)
  have he3 : e3 + 1 ≤ b' ∧ e3 < 60000 := by
    by_cases c : e3 < 60000
    · obtain ⟨⟨g1, g2, g3⟩, _⟩ := hs0 c (by omega)
      have ha9 : aE < eNo E 5 0 := by omega
      obtain ⟨_, r2, _⟩ := fls_of (Lim := Lim) h hk leT leR l (n1 + 1) (e3 + 1) hO hels hfes hF ha9 hb
      exact ⟨r2, c⟩
    · exact absurd (fes_le h hk leT leR l (e3 + 1) (fun xx hx => (hO xx hx)) hfes hF) (by omega)
  obtain ⟨⟨g1, g2, g3⟩, _⟩ := hs0 he3.2 (by omega)
  have ha9 : aE < eNo E 5 0 := by omega
  obtain ⟨r4, r2, r3⟩ := fls_of (Lim := Lim) h hk leT leR l (n1 + 1) (e3 + 1) hO hels hfes hF ha9 hb
  have hV := hV (by omega) (by omega)
  refine ⟨⟨by omega, by omega, by omega⟩, ?_⟩
  exact SIT.fr (x4 := r1 + 1 + 1) hE hV w0 w1 o0 (fun ev sp cp na mt el us w M => by
    obtain ⟨y, y1, y2, y3⟩ := jm1 M oj ⟨by omega, by omega⟩
    obtain ⟨z, z1, z2, z3⟩ := jm1 y3 o1 ⟨by omega, by omega⟩
    exact ⟨1 + 1, z, by omega, SPS.tr y1 z1, OFF.tr z2 y2, z3⟩) r3 w3 (fun L hl => ((hs L hl) _ _ _ _ _ _ _ hP2 hP1 hZ hq.1 (by omega) he3.2 (by omega)).2) w4 o2 ⟨hms, h0, by omega, by omega, by omega⟩ hnx.2 ⟨by omega, by omega, by omega, by omega⟩ ⟨by omega, by omega, hb, by omega, he3.2⟩
end ND4
