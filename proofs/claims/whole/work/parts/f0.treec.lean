/-! PASS 2, THE CLASS: events and the tree, with the words -/
section EV9
variable (kd : Nat → Nat) (w : Wd) (W : PWT) (sc : Int32) (nn kk : Nat → Nat)
/-- the tree, with its PRIMARIES' nodes and fuels by their first TOKENS -/
def PEVN : Nat → Nat → Nat → Nat → Nat → Nat → List EV → Nat → Prop
  | 0, _, _, _, _, _, _, _ => False
  | q + 1, K, lo, n, d, s, evs, cn => lo ≤ n ∧
    ((gi w 7 n = 6 ∧ cn = 1 ∧ gi w 45 n = 1 ∧ gi w 12 n = Int32.ofNat s ∧ ∃ x y sg tk s2 ex ey cx cy, gi w 8 n = Int32.ofNat x ∧ gi w 10 n = Int32.ofNat y ∧ gi w 9 n = Int32.ofNat (kM sg) ∧ stb sg ≠ 0 ∧ x < y ∧ y < n ∧ evs = ex ++ ey ++ [(2, sg, tk)] ∧ PEVN q (K - 1) lo x d s ex cx ∧ PEVN q (K - 1) (x + 1) y d s2 ey cy)
    ∨ (gi w 7 n = 7 ∧ cn = 1 ∧ gi w 45 n = 1 ∧ gi w 12 n = Int32.ofNat s ∧ ∃ x sg ex cx, gi w 8 n = Int32.ofNat x ∧ gi w 9 n = Int32.ofNat (kM sg) ∧ (sg = 29 ∨ sg = 33 ∨ sg = 34) ∧ x < n ∧ evs = ex ++ [(1, sg, s)] ∧ PEVN q (K - 1) lo x (if sg = 29 then d + 1 else d) (s + 1) ex cx)
    ∨ (∃ e, evs = [(0, s, d)] ∧ PRI kd w W sc lo n d s e cn ∧ nn s = n ∧ kk s = K))
end EV9
section EV9
variable {kd : Nat → Nat} {w : Wd} {W : PWT} {sc : Int32} {nn kk nn' kk' : Nat → Nat}
theorem PEVN.cg : ∀ (q K lo n d s : Nat) (evs : List EV) (cn : Nat), (∀ t ∈ opT evs, nn t = nn' t ∧ kk t = kk' t) → PEVN kd w W sc nn kk q K lo n d s evs cn → PEVN kd w W sc nn' kk' q K lo n d s evs cn := by
  intro q
  induction q with
  | zero => exact fun _ _ _ _ _ _ _ _ h => h.elim
  | succ q ih =>
    intro K lo n d s evs cn hc h
    obtain ⟨h0, h⟩ := h
    refine ⟨h0, ?_⟩
    rcases h with ⟨a1, a2, a3, a4, x, y, sg, tk, s2, ex, ey, cx, cy, b1, b2, b3, b4, b5, b6, b7, b8, b9⟩ | ⟨a1, a2, a3, a4, x, sg, ex, cx, b1, b2, b3, b4, b5, b6⟩ | ⟨e, h5, h6, h7, h8⟩
    · rw [b7, opT_app, opT_app] at hc
      exact Or.inl ⟨a1, a2, a3, a4, x, y, sg, tk, s2, ex, ey, cx, cy, b1, b2, b3, b4, b5, b6, b7, ih _ _ _ _ _ _ _ (fun t ht => hc t (List.mem_append_left _ (List.mem_append_left _ ht))) b8, ih _ _ _ _ _ _ _ (fun t ht => hc t (List.mem_append_left _ (List.mem_append_right _ ht))) b9⟩
    · rw [b5, opT_app] at hc
      exact Or.inr (Or.inl ⟨a1, a2, a3, a4, x, sg, ex, cx, b1, b2, b3, b4, b5, ih _ _ _ _ _ _ _ (fun t ht => hc t (List.mem_append_left _ ht)) b6⟩)
    · rw [h5] at hc
      obtain ⟨c1, c2⟩ := hc s (show s ∈ [s] from List.mem_cons_self)
      exact Or.inr (Or.inr ⟨e, h5, h6, c1.symm.trans h7, c2.symm.trans h8⟩)
theorem pev_nn : ∀ (q K lo n d s : Nat) (evs : List EV) (cn : Nat), PEV kd w W sc q lo n d s evs cn → (opT evs).Nodup → ∃ nn kk, PEVN kd w W sc nn kk q K lo n d s evs cn := by
  intro q
  induction q with
  | zero => exact fun _ _ _ _ _ _ _ h => h.elim
  | succ q ih =>
    intro K lo n d s evs cn h hn
    obtain ⟨h0, h⟩ := h
    rcases h with ⟨a1, a2, a3, a4, x, y, sg, tk, s2, ex, ey, cx, cy, b1, b2, b3, b4, b5, b6, b7, b8, b9⟩ | ⟨a1, a2, a3, a4, x, sg, ex, cx, b1, b2, b3, b4, b5, b6⟩ | ⟨e, h5, h6⟩
    · have hn2 : (opT ex ++ opT ey).Nodup := by
        rw [b7, opT_app, opT_app] at hn
        have : (opT ex ++ opT ey ++ ([] : List Nat)).Nodup := hn
        rw [List.append_nil] at this
        exact this
      obtain ⟨n1, n2, n3⟩ := List.nodup_append.mp hn2
      obtain ⟨nx, kx, hx⟩ := ih (K - 1) _ _ _ _ _ _ b8 n1
      obtain ⟨ny, ky, hy⟩ := ih (K - 1) _ _ _ _ _ _ b9 n2
      refine ⟨fun t => if t ∈ opT ex then nx t else ny t, fun t => if t ∈ opT ex then kx t else ky t, h0, Or.inl ⟨a1, a2, a3, a4, x, y, sg, tk, s2, ex, ey, cx, cy, b1, b2, b3, b4, b5, b6, b7, PEVN.cg _ _ _ _ _ _ _ _ (fun t ht => ?_) hx, PEVN.cg _ _ _ _ _ _ _ _ (fun t ht => ?_) hy⟩⟩
      · exact ⟨(if_pos ht).symm, (if_pos ht).symm⟩
      · have : ¬ t ∈ opT ex := fun g => n3 t g t ht rfl
        exact ⟨(if_neg this).symm, (if_neg this).symm⟩
    · have hn2 : (opT ex).Nodup := by
        rw [b5, opT_app] at hn
        have : (opT ex ++ ([] : List Nat)).Nodup := hn
        rw [List.append_nil] at this
        exact this
      obtain ⟨nx, kx, hx⟩ := ih (K - 1) _ _ _ _ _ _ b6 hn2
      exact ⟨nx, kx, h0, Or.inr (Or.inl ⟨a1, a2, a3, a4, x, sg, ex, cx, b1, b2, b3, b4, b5, hx⟩)⟩
    · exact ⟨fun _ => n, fun _ => K, h0, Or.inr (Or.inr ⟨e, h5, h6, rfl, rfl⟩)⟩
/-- PRIMARIES of the tree by their TOKENS -/
theorem PEVN.pri : ∀ (q K lo n d s : Nat) (evs : List EV) (cn : Nat), PEVN kd w W sc nn kk q K lo n d s evs cn → 4 * n + 1 ≤ K → n < 24000 → ∀ t d', ((0, t, d') : EV) ∈ evs → ∃ lo e cn', PRI kd w W sc lo (nn t) d' t e cn' ∧ nn t < 24000 ∧ 4 * nn t + 1 ≤ kk t ∧ nn t ≤ n := by
  intro q
  induction q with
  | zero => exact fun _ _ _ _ _ _ _ h => h.elim
  | succ q ih =>
    intro K lo n d s evs cn h hK hn t d' ht
    obtain ⟨h0, h⟩ := h
    rcases h with ⟨a1, a2, a3, a4, x, y, sg, tk, s2, ex, ey, cx, cy, b1, b2, b3, b4, b5, b6, b7, b8, b9⟩ | ⟨a1, a2, a3, a4, x, sg, ex, cx, b1, b2, b3, b4, b5, b6⟩ | ⟨e, h5, h6, h7, h8⟩
    · rw [b7] at ht
      rcases List.mem_append.mp ht with ht | ht
      · rcases List.mem_append.mp ht with ht | ht
        · obtain ⟨l, e, c, g1, g2, g3, g4⟩ := ih _ _ _ _ _ _ _ b8 (by omega) (by omega) t d' ht
          exact ⟨l, e, c, g1, g2, g3, by omega⟩
        · obtain ⟨l, e, c, g1, g2, g3, g4⟩ := ih _ _ _ _ _ _ _ b9 (by omega) (by omega) t d' ht
          exact ⟨l, e, c, g1, g2, g3, by omega⟩
      · have := List.mem_singleton.mp ht
        injection this with h9 _
        omega
    · rw [b5] at ht
      rcases List.mem_append.mp ht with ht | ht
      · obtain ⟨l, e, c, g1, g2, g3, g4⟩ := ih _ _ _ _ _ _ _ b6 (by omega) (by omega) t d' ht
        exact ⟨l, e, c, g1, g2, g3, by omega⟩
      · have := List.mem_singleton.mp ht
        injection this with h9 _
        omega
    · rw [h5] at ht
      have := List.mem_singleton.mp ht
      injection this with _ h9
      injection h9 with h9 h10
      rw [h9, h10, h7, h8]
      exact ⟨lo, e, cn, h6, hn, hK, Nat.le_refl _⟩
end EV9
section EV9
variable {kd : Nat → Nat} {fM fA : Wd} {W : PWT} {sc : Int32} {lu : Nat → Nat} {cur lev : Nat} {nn kk : Nat → Nat}
theorem cdc0_6 {k n f : Nat} (h : gi fM 7 n = 6) {b b' : Nat} {g : Wd} : CDC fM fA lu lev (k + 1) 0 n f b b' g = ∃ b1 b2, CDC fM fA lu lev k 0 (nd fM 8 n) 0 b b1 g ∧ CDC fM fA lu lev k 0 (nd fM 10 n) 0 b1 b2 g ∧ (∃ sg, gi fM 9 n = Int32.ofNat (kM sg) ∧ stb sg ≠ 0 ∧ gl g 41 b2 = wdC (fX2_operation (Int32.ofNat sg) g) 0 0) ∧ b' = b2 + 1 := by
  rw [CDC]
  dsimp only
  rw [if_pos rfl, if_neg (by rw [h]; decide), if_neg (by rw [h]; decide), if_neg (by rw [h]; decide), if_neg (by rw [h]; decide), if_neg (by rw [h]; decide), if_neg (by rw [h]; decide), if_neg (by rw [h]; decide), if_neg (by rw [h]; decide)]
theorem cdc0_7 {k n f : Nat} (h : gi fM 7 n = 7) {b b' : Nat} {g : Wd} : CDC fM fA lu lev (k + 1) 0 n f b b' g = ((gi fM 9 n = 43 ∧ CDC fM fA lu lev k 0 (nd fM 8 n) 0 b b' g) ∨ (gi fM 9 n ≠ 43 ∧ ∃ b1, CDC fM fA lu lev k 0 (nd fM 8 n) 0 b b1 g ∧ gl g 41 b1 = wdC (if gi fM 9 n = 281 then 17 else 16) 0 0 ∧ b' = b1 + 1)) := by
  rw [CDC]
  dsimp only
  rw [if_pos rfl, if_neg (by rw [h]; decide), if_neg (by rw [h]; decide), if_neg (by rw [h]; decide), if_neg (by rw [h]; decide), if_neg (by rw [h]; decide), if_neg (by rw [h]; decide), if_neg (by rw [h]; decide), if_pos h]
/-- TYPES, faults, words of PRIMARIES -/
def pTN (fM : Wd) (lu nn kk : Nat → Nat) (t _ : Nat) : Int32 := TYX fM lu (kk t) (nn t)
def pLN (fM : Wd) (lu : Nat → Nat) (cur : Nat) (nn kk : Nat → Nat) (t _ : Nat) : List (Nat × Int32) := FLX fM lu cur (kk t) 0 (nn t) 0
def pPN (fM fA : Wd) (lu : Nat → Nat) (lev cur : Nat) (nn kk : Nat → Nat) (t _ a a' : Nat) (g : Wd) : Prop := FLX fM lu cur (kk t) 0 (nn t) 0 = [] → CDC fM fA lu lev (kk t) 0 (nn t) 0 a a' g
theorem pevn_all (hk9 : ∀ i, 9000 ≤ i → kd i = 0) : ∀ (q K lo n d s : Nat) (evs : List EV) (cn : Nat), PEVN kd fM W sc nn kk q K lo n d s evs cn → n < 24000 → 4 * n + 1 ≤ K → (s < 9000 ∧ gi fM 12 n = Int32.ofNat s) ∧ ∀ S, evStk (pTN fM lu nn kk) evs S = (TYX fM lu K n, s) :: S ∧ (FLX fM lu cur K 0 n 0).Perm (evL (pTN fM lu nn kk) (pLN fM lu cur nn kk) evs S) ∧ (FLX fM lu cur K 0 n 0 = [] → ∀ a a' g, evP (pPN fM fA lu lev cur nn kk) evs a a' g → CDC fM fA lu lev K 0 n 0 a a' g) := by
  intro q
  induction q with
  | zero => exact fun _ _ _ _ _ _ _ h => h.elim
  | succ q ih =>
    intro K lo n d s evs cn h hn hK
    obtain ⟨k, rfl⟩ : ∃ k, K = k + 1 := ⟨K - 1, by omega⟩
    obtain ⟨hlo, h⟩ := h
    rcases h with ⟨k7, _, _, k12, x, y, sg, tk, s2, ex, ey, cx, cy, k8, k10, k9, hsg, hxy, hyn, hev, h1, h2⟩ | ⟨k7, _, _, k12, x, sg, ex, cx, k8, k9, hsg, hxn, hev, h1⟩ | ⟨e, hev, h1, h3, h4⟩
    · obtain ⟨⟨x1, x2⟩, x3⟩ := ih _ _ _ _ _ _ _ h1 (by omega) (by omega)
      obtain ⟨⟨y1, y2⟩, y3⟩ := ih _ _ _ _ _ _ _ h2 (by omega) (by omega)
      rw [Nat.add_sub_cancel] at x3 y3
      refine ⟨⟨x1, k12⟩, fun S => ?_⟩
      obtain ⟨x4, x5, x6⟩ := x3 S
      obtain ⟨y4, y5, y6⟩ := y3 ((TYX fM lu k x, s) :: S)
      obtain ⟨w1, w2, w3⟩ := sg_two sg (stb_50 hsg) hsg
      have n1 : ¬ gi fM 7 n = 1 := by rw [k7]; decide
      have n2 : ¬ gi fM 7 n = 2 := by rw [k7]; decide
      have n3 : ¬ gi fM 7 n = 3 := by rw [k7]; decide
      have n4 : ¬ gi fM 7 n = 4 := by rw [k7]; decide
      have n5 : ¬ gi fM 7 n = 5 := by rw [k7]; decide
      have n7 : ¬ gi fM 7 n = 7 := by rw [k7]; decide
      have n8 : ¬ gi fM 7 n = 8 := by rw [k7]; decide
      have n9 : ¬ gi fM 7 n = 9 := by rw [k7]; decide
      have e8 : nd fM 8 n = x := by
        unfold nd
        rw [k8, tc_iN (by omega)]
      have e10 : nd fM 10 n = y := by
        unfold nd
        rw [k10, tc_iN (by omega)]
      have ex12 : nd fM 12 x = s := by
        unfold nd
        rw [x2, tc_iN (by omega)]
      have ey12 : nd fM 12 y = s2 := by
        unfold nd
        rw [y2, tc_iN (by omega)]
      have hty : TYX fM lu (k + 1) n = tw2T sg := by
        rw [TYX, if_neg n1, if_neg n2, if_neg n9, if_neg n3, if_neg n4, if_neg n5, if_neg n8, if_neg n7, k9, w1]
      have hfl : (FLX fM lu cur (k + 1) 0 n 0).Perm (FLX fM lu cur k 0 x 0 ++ FLX fM lu cur k 0 y 0 ++ tw2L sg (TYX fM lu k y, s2) (TYX fM lu k x, s)) := by
        rw [FLX]
        dsimp only
        rw [if_pos rfl, if_neg (fun g => g.elim n1 n2), if_neg n9, if_neg n3, if_neg n4, if_neg n5, if_neg n8, if_neg n7, e8, e10, ex12, ey12, k9, w3]
        unfold tw2L
        by_cases q38 : sg = 38 ∨ sg = 49
        · rw [if_pos (w2.mpr q38), if_pos q38, ← List.append_assoc]
          have : (if TYX fM lu k x ≠ 0 then misT (TYX fM lu k y) (TYX fM lu k x) s2 else []) = difT (TYX fM lu k x) (TYX fM lu k y) s2 := by
            by_cases q0 : TYX fM lu k x ≠ 0
            · rw [if_pos q0, mis_dif q0]
            · rw [if_neg q0]
              unfold difT
              rw [if_neg (fun h => q0 h.1)]
          rw [this]
        · rw [if_neg (fun h => q38 (w2.mp h)), if_neg q38]
          have hw : (if 5 ≤ stg sg then (1 : Int32) else 2) ≠ 0 := by split <;> decide
          rw [mis_dif hw, mis_dif hw]
          simp only [List.append_assoc]
          refine List.Perm.append_left _ ?_
          rw [← List.append_assoc, ← List.append_assoc]
          exact List.Perm.append_right _ List.perm_append_comm
      rw [hev, evStk_app, evStk_app, x4, y4, evL_app, evL_app, evStk_app, x4, y4]
      refine ⟨by rw [hty]; rfl, hfl.trans ?_, fun hL a a' g hg => ?_⟩
      · show List.Perm (_ : List (Nat × Int32)) ((_ : List (Nat × Int32)) ++ (tw2L sg (TYX fM lu k y, s2) (TYX fM lu k x, s) ++ []))
        rw [List.append_nil]
        exact List.Perm.append (List.Perm.append x5 y5) (List.Perm.refl _)
      · rw [hL] at hfl
        have hn0 := List.nil_perm.mp hfl
        obtain ⟨z1, z2⟩ := List.append_eq_nil_iff.mp (List.append_eq_nil_iff.mp hn0).1
        obtain ⟨b2, g1, g2⟩ := (evP_app _ _ _ _ _).mp hg
        obtain ⟨b1, g3, g4⟩ := (evP_app _ _ _ _ _).mp g1
        rw [cdc0_6 k7, e8, e10]
        exact ⟨b1, b2, x6 z1 _ _ _ g3, y6 z2 _ _ _ g4, ⟨sg, k9, hsg, g2.1⟩, g2.2⟩
    · obtain ⟨⟨x1, x2⟩, x3⟩ := ih _ _ _ _ _ _ _ h1 (by omega) (by omega)
      rw [Nat.add_sub_cancel] at x3
      refine ⟨⟨by omega, k12⟩, fun S => ?_⟩
      obtain ⟨x4, x5, x6⟩ := x3 S
      have n1 : ¬ gi fM 7 n = 1 := by rw [k7]; decide
      have n2 : ¬ gi fM 7 n = 2 := by rw [k7]; decide
      have n3 : ¬ gi fM 7 n = 3 := by rw [k7]; decide
      have n4 : ¬ gi fM 7 n = 4 := by rw [k7]; decide
      have n5 : ¬ gi fM 7 n = 5 := by rw [k7]; decide
      have n8 : ¬ gi fM 7 n = 8 := by rw [k7]; decide
      have n9 : ¬ gi fM 7 n = 9 := by rw [k7]; decide
      have e8 : nd fM 8 n = x := by
        unfold nd
        rw [k8, tc_iN (by omega)]
      have ex12 : nd fM 12 x = s + 1 := by
        unfold nd
        rw [x2, tc_iN (by omega)]
      have hon : (if gi fM 9 n = 281 then (2 : Int32) else 1) = on1T sg := by
        rw [k9]
        rcases hsg with q | q | q <;> rw [q] <;> rfl
      have hty : TYX fM lu (k + 1) n = on1T sg := by
        rw [TYX, if_neg n1, if_neg n2, if_neg n9, if_neg n3, if_neg n4, if_neg n5, if_neg n8, if_pos k7, hon]
      have hw : on1T sg ≠ 0 := by
        unfold on1T
        split <;> decide
      have hfl : FLX fM lu cur (k + 1) 0 n 0 = FLX fM lu cur k 0 x 0 ++ difT (on1T sg) (TYX fM lu k x) (s + 1) := by
        rw [FLX]
        dsimp only
        rw [if_pos rfl, if_neg (fun g => g.elim n1 n2), if_neg n9, if_neg n3, if_neg n4, if_neg n5, if_neg n8, if_pos k7, e8, ex12, hon, mis_dif hw]
      rw [hev, evStk_app, x4, evL_app, x4]
      refine ⟨by rw [hty]; rfl, ?_, fun hL a a' g hg => ?_⟩
      · rw [hfl]
        show List.Perm (_ : List (Nat × Int32)) ((_ : List (Nat × Int32)) ++ (difT (on1T sg) (TYX fM lu k x) (s + 1) ++ []))
        rw [List.append_nil]
        exact List.Perm.append x5 (List.Perm.refl _)
      · rw [hfl] at hL
        obtain ⟨z1, z2⟩ := List.append_eq_nil_iff.mp hL
        obtain ⟨b1, g1, g2, g3⟩ := (evP_app _ _ _ _ _).mp hg
        have g3 : a' = b1 + on1N sg := g3
        rw [cdc0_7 k7, e8, k9]
        by_cases q33 : sg = 33
        · refine Or.inl ⟨by rw [q33]; rfl, ?_⟩
          have : on1N sg = 0 := if_pos q33
          rw [show a' = b1 by omega]
          exact x6 z1 _ _ _ g1
        · refine Or.inr ⟨?_, b1, x6 z1 _ _ _ g1, ?_, ?_⟩
          · rcases hsg with q | q | q
            · rw [q]; decide
            · exact absurd q q33
            · rw [q]; decide
          · rw [g2 q33]
            rcases hsg with q | q | q
            · rw [q]; rfl
            · exact absurd q q33
            · rw [q]; rfl
          · have : on1N sg = 1 := if_neg q33
            omega
    · have hks : kd s ≠ 0 := by
        obtain ⟨_, _, _, _, h⟩ := h1
        rcases h with h | h | h | h | ⟨_, _, _, _, h, _⟩
        · omega
        · rcases h.2.1 with h | h <;> omega
        · omega
        · omega
        · omega
      have hs9 : s < 9000 := by
        by_cases q : s < 9000
        · exact q
        · exact absurd (hk9 s (by omega)) hks
      refine ⟨⟨hs9, h1.2.1⟩, fun S => ?_⟩
      rw [hev]
      refine ⟨?_, ?_, fun hL a a' g hg => ?_⟩
      · show (pTN fM lu nn kk s d, s) :: S = _
        unfold pTN
        rw [h3, h4]
      · show (_ : List (Nat × Int32)).Perm (pLN fM lu cur nn kk s d ++ [])
        rw [List.append_nil]
        unfold pLN
        rw [h3, h4]
      · obtain ⟨a1, g1, g2⟩ := hg
        have g2 : a' = a1 := g2
        unfold pPN at g1
        rw [h3, h4] at g1
        rw [g2]
        exact g1 hL
end EV9
