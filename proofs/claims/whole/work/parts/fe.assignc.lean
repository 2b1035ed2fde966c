/-! PASS 2, THE CLASS: places, calls, assignments -/
section ES
variable {kd wr : Nat → Nat} {z : Nat} {fA fM : Wd} {lu : Nat → Nat} {lev cur : Nat} {pn : Nat → Int32} {m G d n t e a lo : Nat} {C TK : Nat → Nat} {sc : Int32} {w : Wd}
/-- EXPRS with their forms -/
abbrev PWF (kd : Nat → Nat) (fA fM : Wd) (sc : Int32) : PWT := fun lo x d s e cn => PWR kd fM sc 41 lo x d s e cn ∧ fmW kd fA 41 d s
theorem rwc_c (hc : CTX kd wr m z C TK fA fM lu lev cur pn) {so : Int32} {cc : Nat} (h : RWC kd sc so cc lo n d t e fA fM) (hn : n < 24000) (he : e ≤ m) :
    d ≤ 39 ∧ gi fM 7 n = so ∧ ∃ xs e1, nxC fM xs (gi fM 8 n) ∧ xs.length ≤ n ∧ gi fM 9 n = Int32.ofNat xs.length ∧ rowR kd fM (PWF kd fA fM sc) xs lo (d + 1) (t + 2) e1 ∧ (∀ x ∈ xs, x < n) ∧ kd e1 = cc ∧ e = e1 + 1 ∧ RWY kd wr m z fA fM lu lev cur pn (PWF kd fA fM sc) n (d + 1) 295 ∧ t + 3 ≤ e1 := by
  obtain ⟨hd, h7, xs, e1, c1, c2, c3, c4, c5, c6, c7⟩ := h
  have hz : m < z ∧ z ≤ 8193 := ⟨hc.2.2.2.2.2.2.1, hc.2.2.2.2.1⟩
  obtain ⟨n1, n2⟩ := rowR_nx (bnd := n) (by omega) (fun lo x s e cn hw => (PWR.agr 41 fM fM _ _ _ _ _ _ hw.1).1) xs lo (t + 2) e1 (rowR_sub (W := fun lo x d9 s e cn => PWR kd fM sc 41 lo x d9 s e cn ∧ fmW kd fA 41 (d + 1) s) (W' := PWF kd fA fM sc) (d := d + 1) (fun lo x s e cn h => h) xs lo (t + 2) e1 (rowR_and (V := fun q => fmW kd fA 41 (d + 1) q) (f := xw kd 41 (d + 1)) (fun lo x s e cn h => ⟨PWR_xw 41 h, xw_lt _ _ _ _ (PWR_xw 41 h)⟩) xs lo (t + 2) e1 (9000 - (t + 2)) c3 c7 (by omega))) c4
  have hR := rowR_sub (W := fun lo x d9 s e cn => PWR kd fM sc 41 lo x d9 s e cn ∧ fmW kd fA 41 (d + 1) s) (W' := PWF kd fA fM sc) (d := d + 1) (fun lo x s e cn h => h) xs lo (t + 2) e1 (rowR_and (V := fun q => fmW kd fA 41 (d + 1) q) (f := xw kd 41 (d + 1)) (fun lo x s e cn h => ⟨PWR_xw 41 h, xw_lt _ _ _ _ (PWR_xw 41 h)⟩) xs lo (t + 2) e1 (9000 - (t + 2)) c3 c7 (by omega))
  have hI : RWY kd wr m z fA fM lu lev cur pn (PWF kd fA fM sc) n (d + 1) 295 := fun lo x s e cn h hx he => pwr_allC hc 41 lo x (d + 1) s e cn h.1 (by omega) he (by omega) h.2
  obtain ⟨l1, l2⟩ := row_len (fun lo x s e cn h hx he => (hI lo x s e cn h hx he).1) xs _ _ _ hR c4 (by omega)
  exact ⟨hd, h7, xs, e1, by rw [c1]; exact n1, by omega, c2, hR, c4, c5, c6, hI, by omega⟩
theorem RWY.x {W : PWT} {bnd k N : Nat} (hz : z ≤ 8193) (h : RWY kd wr m z fA fM lu lev cur pn W bnd d 295) (hk : 4 * bnd ≤ k + 3) (hN : 295 ≤ N) : RWX kd wr z fA fM lu lev cur pn W bnd m d k (RX2_typed N) := fun lo x s e cn hw hx he => by
  obtain ⟨g1, g2⟩ := h lo x s e cn hw hx he
  exact ⟨g1, g2.1.2.2.1.tk hz, g2.2.1 k N (by omega) hN⟩
/-- a place -/
theorem plc_spe (hc : CTX kd wr m z C TK fA fM lu lev cur pn) (h : PLC kd sc lo n d t e fA fM) (hn : n < 24000) (he : e ≤ m) {K f : Nat} (hf : f ≤ 1) (hK : 4 * n + 1 ≤ K) :
    t < e ∧ nd fM 12 n = t ∧ SPE kd wr z fA lu lev pn d t e (tyP fM lu cur f n) (FLX fM lu cur K 1 n f) (fun b b' g => FLX fM lu cur K 1 n f = [] → CDC fM fA lu lev K 1 n 0 b b' g) (4 * (wr e - wr t) - 1) (fun w => RX2_typed 900 7 (Int32.ofNat d) (if f = 0 then 1 else 0) 0 w) := by
  obtain ⟨hS, hFM, hPN, hwr, hz, hW, hz9, hk0⟩ := id hc
  obtain ⟨K, rfl⟩ : ∃ K', K = K' + 1 := ⟨K - 1, by omega⟩
  obtain ⟨hk, h12, h13, ⟨q1, q2, q3⟩ | ⟨q1, q2⟩⟩ := h
  · have h12' : nd fM 12 n = t := by
      unfold nd
      rw [h12, tc_iN (by omega)]
    rw [q3]
    exact ⟨by omega, h12', c_place3 (rc := RX2_typed 899) hS hPN hf q2 h12' hk q1 (hW t (by omega))⟩
  · obtain ⟨c1, c2, xs, e1, c3, c4, c5, c6, c7, c8, c9, c10, c11⟩ := rwc_c hc q2 hn he
    have h12' : nd fM 12 n = t := by
      unfold nd
      rw [h12, tc_iN (by omega)]
    rw [c9]
    exact ⟨by omega, h12', c_place4 (rc := RX2_typed 899) (rc2 := RX2_typed 898) (rc3 := RX2_typed 897) (a2 := if f = 0 then 1 else 0) (bnd := n) hS hwr hW hz9 (fun _ _ _ _ => rfl) (fun _ _ _ => rfl) (c10.x hz (by omega) (by omega)) c2 c5 h12' (nxL_eq xs K _ c3 (by omega)) c6 c7 (by omega) c8 hk q1 (by omega)⟩
theorem s_call {rc : TX4_block} (hc : CTX kd wr m z C TK fA fM lu lev cur pn) (h : CLC kd sc lo n d t e fA fM) (hn : n < 24000) (he : e ≤ m) (h50 : kd (t + 1) ≠ 50) (h45 : kd (t + 1) ≠ 45) {K : Nat} (hK : 4 * n + 2 ≤ K) :
    t < e ∧ nd fM 12 n = t ∧ ((kd (t + 1) ≠ 43 ∧ gi fM 7 n = 3 ∧ SPE kd wr z fA lu lev pn d t e 0 (notD (lu t) t ++ srE fA 3 (lu t) t ++ nmC fA (lu t) t 0) (fun b b' g => PC0 fA lev (lu t) b b' 0 g) (4 * (wr e - wr t) + 1) (fX4_statement_61 rc (Int32.ofNat d)))
      ∨ (kd (t + 1) = 43 ∧ gi fM 7 n = 5 ∧ SPE kd wr z fA lu lev pn d t e 0 (FLX fM lu cur K 0 n 1) (fun b b' g => PC1 fM fA lu cur lev K n b b' 0 g) (4 * (wr e - wr t)) (fX4_statement_61 rc (Int32.ofNat d)))) := by
  obtain ⟨hS, hFM, hPN, hwr, hz, hW, hz9, hk0⟩ := id hc
  obtain ⟨K, rfl⟩ : ∃ K', K = K' + 2 := ⟨K - 2, by omega⟩
  obtain ⟨hk, h12, h13, ⟨q1, q2, q3⟩ | ⟨q1, q2⟩⟩ := h
  · have h12' : nd fM 12 n = t := by
      unfold nd
      rw [h12, tc_iN (by omega)]
    rw [q3]
    exact ⟨by omega, h12', Or.inl ⟨q1, q2, s_call0 (hW t (by omega)) hk h50 h45 q1⟩⟩
  · obtain ⟨c1, c2, xs, e1, c3, c4, c5, c6, c7, c8, c9, c10, c11⟩ := rwc_c hc q2 hn he
    have h12' : nd fM 12 n = t := by
      unfold nd
      rw [h12, tc_iN (by omega)]
    rw [c9]
    exact ⟨by omega, h12', Or.inr ⟨q1, c2, s_call1 (bnd := n) hS hFM hwr hW hz9 c10 (by omega) c2 c5 h12' (nxL_eq xs (K + 1) _ c3 (by omega)) c6 c7 (by omega) c8 hk q1 (by omega) (by omega)⟩⟩
/-- faults of an assignment behind the first := -/
def TGA (fM : Wd) (lu : Nat → Nat) (cur K y : Nat) (T : Int32) : Nat → List Nat → List (Nat × Int32)
  | _, [] => FLX fM lu cur K 0 y 0 ++ difT T (TYX fM lu K y) (nd fM 12 y)
  | j, x :: r => FLX fM lu cur K 1 x 0 ++ difT T (tyP fM lu cur 0 x) (nd fM 12 x) ++ (if j = 20 then [(nd fM 12 x, 5)] else []) ++ TGA fM lu cur K y T (j + 1) r
/-- words -/
def TGK (fM fA : Wd) (lu : Nat → Nat) (cur lev K y : Nat) : Nat → List Nat → Nat → Nat → Wd → Prop
  | j, [], b, b', g => ∃ b2, (FLX fM lu cur K 0 y 0 = [] → CDC fM fA lu lev K 0 y 0 b b2 g) ∧ gl g 41 b2 = wdC 26 0 (Int32.ofNat j) ∧ b' = b2 + 1
  | j, x :: r, b, b', g => ∃ b2, (FLX fM lu cur K 1 x 0 = [] → CDC fM fA lu lev K 1 x 0 b b2 g) ∧ TGK fM fA lu cur lev K y (j + 1) r b2 b' g
def PAC (fM fA : Wd) (lu : Nat → Nat) (cur lev K x y : Nat) (xs : List Nat) (b b' _Z : Nat) (g : Wd) : Prop := gl g 41 b = wdC 40 0 0 ∧ ∃ b1, (FLX fM lu cur K 1 x 0 = [] → CDC fM fA lu lev K 1 x 0 (b + 1) b1 g) ∧ TGK fM fA lu cur lev K y 1 xs b1 b' g
theorem as_loop (hc : CTX kd wr m z C TK fA fM lu lev cur pn) {K y : Nat} {T : Int32} (hy : y < 24000) (he : e ≤ m) (hd : d ≤ 40) (hfo : kd e ≠ 50) (hK : 96100 ≤ K) : ∀ (r : List Nat) (x lo s : Nat), TGS kd fA fM sc d (x :: r) lo y s e → (∀ v ∈ r, v < 24000) →
    s < e ∧ ∀ (j i f : Nat), j ≤ i + 1 → i ≤ s → r.length < f → SPE kd wr z fA lu lev pn d s e 0 (TGA fM lu cur K y T j r) (fun b b' g => TGK fM fA lu cur lev K y j r b b' g) (4 * (wr e - wr s)) (fun w => bn (oX4_assignment_27 (f + 1) (Int32.ofNat d) T (Int32.ofNat j) true (Int32.ofNat i) w) fun w => some (0, w)) := by
  obtain ⟨hS, hFM, hPN, hwr, hz, hW, hz9, hk0⟩ := id hc
  have hend : ∀ {w : Wd} {t a base ob s : Nat}, GC2 kd wr z fA lu lev pn t a base ob w → s < 8193 → fX9_endOf (Int32.ofNat s) w = gi fA 10 s := fun hw hs => by
    unfold fX9_endOf
    rw [ltq, rgi_iN (by omega) (by omega)]
    exact (hw.2.2.2.2.2.2.2.2.2.2.2 _).2.1
  intro r
  induction r with
  | nil =>
    intro x lo s h hr
    obtain ⟨cn, h1, _⟩ := h
    obtain ⟨hse, hA⟩ := xpr_alc hc h1 hy he hd
    refine ⟨hse, fun j i f hj hi hf => ?_⟩
    have hD := hA.1.2.2.1
    have h12 := hD.tk hz
    intro w a base ob hw hb ho ha
    obtain ⟨u, a1, u1, u2⟩ := hA.2.1 K 900 (by omega) (by omega) w a base ob hw hb ho (by omega)
    have hb1 := u2.2.2.2.2.1
    have hwe := hD.2.2.1
    have E := u2.seq (EC.check (x := T) (y := TYX fM lu K y) (s := s) u2.1 (by omega))
    obtain ⟨v, v1, v2⟩ := EC.put2 (x := 26) (c := Int32.ofNat j) E.1 (by omega)
    refine ⟨v, a1 + 1, ?_, ((E.seq v2).wk (fun b b' g hg => ?_) (by omega)).cL ?_⟩
    · obtain ⟨f', rfl⟩ : ∃ f', f = f' + 1 := ⟨f - 1, by have : ([] : List Nat).length = 0 := rfl; omega⟩
      show bn (fX4_assignment_27 (oX4_assignment_27 (f' + 1)) _ _ _ _ _ w) _ = _
      have hk0' : ∀ w', oX4_assignment_27 (f' + 1) (Int32.ofNat d) T (Int32.ofNat j) false (Int32.ofNat (i + 1)) w' = some (fX0_put_ 26 (Int32.ofNat j) w').2 := fun w' => by
        show fX4_assignment_27 (oX4_assignment_27 f') _ _ _ _ _ w' = _
        unfold fX4_assignment_27
        rw [if_neg (by decide), lt2q]
      have u1' : RX2_typed 900 2 (Int32.ofNat d) 0 0 w = some (TYX fM lu K y, u) := u1
      have h87 : fX4_assignment_87 (oX4_assignment_27 (f' + 1)) false (Int32.ofNat d) T (Int32.ofNat j) (Int32.ofNat i) (Int32.ofNat s) w = some v := by
        unfold fX4_assignment_87
        rw [if_neg (by decide), u1', bn2_so]
        unfold fX4_assignment_114
        rw [ltq, if_neg (by decide)]
        unfold fX4_assignment_139
        rw [ltq, if_neg (by decide), show Int32.ofNat j + b2i false = Int32.ofNat j from by show Int32.ofNat j + 0 = _; simp]
        unfold fX4_assignment_162
        rw [if_neg (by decide), ltq]
        have ht : fX9_take 50 (fX1_check T (TYX fM lu K y) (Int32.ofNat s) u) = (false, fX1_check T (TYX fM lu K y) (Int32.ofNat s) u) := by
          have hk := E.1.1.2.2.1 e
          unfold fX9_take
          rw [a_kind E.1.1, ltq, if_neg (show ¬ (Int32.ofNat (kd e) = 50) from of_ne (k := 50) (by omega) (by omega) hfo)]
        generalize fX9_isVariable (Int32.ofNat s) (fX1_check T (TYX fM lu K y) (Int32.ofNat s) u) = bo
        cases bo
        · rw [if_neg (by decide), ad1_iN, ltq, hk0', v1]
        · rw [if_pos rfl]
          unfold fX4_assignment_179
          rw [ht, lt2q, if_neg (show ¬ (false = true) from by decide), ad1_iN, ltq, hk0', v1]
      unfold fX4_assignment_27
      rw [if_pos rfl, if_neg (show ¬ ((8193 : Int32) ≤ Int32.ofNat i) from nle_iN (a := 8193) (by omega) (by omega)), a_at hw.1, ltq, ltq]
      by_cases qv : gi fA 8 s = 1 ∨ gi fA 8 s = 2 ∨ gi fA 8 s = 3
      · have hk := hw.1.2.2.1 e
        rw [(c_isVar hw (by omega)).1 qv, if_pos rfl, hend hw (by omega), ltq, hD.2.2.2.2.2.2.2.2, c_kindOf hw.1 (by omega), ltq, if_neg (show ¬ (Int32.ofNat (kd e) = 50) from of_ne (k := 50) (by omega) (by omega) hfo), h87, bn_so]
      · rw [(c_isVar hw (by omega)).2 qv, if_neg (by decide), h87, bn_so]
    · obtain ⟨b1, ⟨b2, g1, g2⟩, g3, g4⟩ := hg
      rw [g2] at g3 g4
      exact ⟨b2, g1, g3, g4⟩
    · show FLX fM lu cur K 0 y 0 ++ difT T (TYX fM lu K y) (nd fM 12 y) = _
      rw [h12, List.append_nil]
  | cons v r ih =>
    intro x lo s h hr
    obtain ⟨e1, cn, h1, h7, hk50, _, h4⟩ := h
    have hv := hr v List.mem_cons_self
    have hle : e1 + 1 < e := (ih v (v + 1) (e1 + 1) h4 (fun y hy => hr y (List.mem_cons_of_mem _ hy))).1
    obtain ⟨hse, hA⟩ := xpr_alc hc h1 hv (by omega) hd
    refine ⟨by omega, fun j i f hj hi hf => ?_⟩
    have hln : (v :: r).length = r.length + 1 := rfl
    have IH := (ih v (v + 1) (e1 + 1) h4 (fun y hy => hr y (List.mem_cons_of_mem _ hy))).2 (j + 1) (i + 1) (f - 1) (by omega) (by omega) (by omega)
    have hD := hA.1.2.2.1
    have h12 := hD.tk hz
    have hwe := hD.2.2.1
    have hwe1 := hW e1 (by omega)
    have hwe2 := wr_mo hW e hle he
    intro w a base ob hw hb ho ha
    obtain ⟨u, a1, u1, u2⟩ := hA.2.2.2.2.1 h7 K 900 0 (by omega) (by omega) (by omega) w a base ob hw hb ho (by omega)
    have hb1 := u2.2.2.2.2.1
    have E := u2.seq (EC.check (x := T) (y := tyP fM lu cur 0 v) (s := s) u2.1 (by omega))
    have E2 : ∃ u', (if j = 20 then fX1_wrong (Int32.ofNat s) 5 (fX1_check T (tyP fM lu cur 0 v) (Int32.ofNat s) u) else fX1_check T (tyP fM lu cur 0 v) (Int32.ofNat s) u) = u' ∧ EC kd wr z fA lu lev pn base ob e1 a1 a1 (fX1_check T (tyP fM lu cur 0 v) (Int32.ofNat s) u) u' (if j = 20 then [(s, 5)] else []) (fun b b' _ => b' = b) 0 := by
      by_cases q : j = 20
      · rw [if_pos q, if_pos q]
        obtain ⟨n1, n2⟩ := EC.note E.1 (s := s) (n := 5) (by omega) (by decide)
        exact ⟨_, n1, n2⟩
      · rw [if_neg q, if_neg q]
        exact ⟨_, rfl, EC.no E.1⟩
    obtain ⟨u', e1', e2'⟩ := E2
    obtain ⟨t1, t2⟩ := EC.take e2'.1 (k := 50) (by omega) (by rw [hk50]; rfl)
    obtain ⟨v2, a2, w1, w2⟩ := IH _ a1 base ob t2.1 hb ho (by omega)
    have hb2 := w2.2.2.2.2.1
    refine ⟨v2, a2, ?_, (((E.seq (e2'.seq t2)).seq w2).wk (fun b b' g hg => ?_) (by omega)).cL ?_⟩
    · obtain ⟨f', rfl⟩ : ∃ f', f = f' + 1 := ⟨f - 1, by omega⟩
      rw [show f' + 1 - 1 = f' by omega] at w1
      show bn (fX4_assignment_27 (oX4_assignment_27 (f' + 1)) _ _ _ _ _ w) _ = _
      have u1' : RX2_typed 900 7 (Int32.ofNat d) 1 0 w = some (tyP fM lu cur 0 v, u) := u1
      have hqv : gi fA 8 s = 1 ∨ gi fA 8 s = 2 ∨ gi fA 8 s = 3 := by
        rcases h7 with h7 | h7
        · exact Or.inl (hD.2.2.2.2.1.mp h7)
        · exact Or.inr (hD.2.2.2.2.2.1.mp h7)
      have h162 : fX4_assignment_162 (oX4_assignment_27 (f' + 1)) (Int32.ofNat d) T (Int32.ofNat (j + 1)) (Int32.ofNat i) (Int32.ofNat s) true u' = oX4_assignment_27 (f' + 1) (Int32.ofNat d) T (Int32.ofNat (j + 1)) true (Int32.ofNat (i + 1)) (si u' 4 9 (Int32.ofNat (e1 + 1))) := by
        unfold fX4_assignment_162
        rw [if_pos rfl]
        unfold fX4_assignment_179
        rw [t1, lt2q, if_pos rfl, ad1_iN, ltq]
      have h87 : fX4_assignment_87 (oX4_assignment_27 (f' + 1)) true (Int32.ofNat d) T (Int32.ofNat j) (Int32.ofNat i) (Int32.ofNat s) w = oX4_assignment_27 (f' + 1) (Int32.ofNat d) T (Int32.ofNat (j + 1)) true (Int32.ofNat (i + 1)) (si u' 4 9 (Int32.ofNat (e1 + 1))) := by
        unfold fX4_assignment_87
        rw [if_pos rfl, u1', bn2_so]
        unfold fX4_assignment_114
        rw [ltq, if_pos rfl]
        unfold fX4_assignment_139
        rw [ltq, if_pos rfl, show Int32.ofNat j + b2i true = Int32.ofNat (j + 1) from ad1_iN j]
        by_cases q : j = 20
        · rw [if_pos q] at e1'
          rw [if_pos (show Int32.ofNat (j + 1) = 21 by rw [q]; rfl), e1', ltq, h162]
        · rw [if_neg q] at e1'
          rw [if_neg (show ¬ (Int32.ofNat (j + 1) = 21) from of_ne (k := 21) (by omega) (by omega) (by omega)), e1', h162]
      unfold fX4_assignment_27
      rw [if_pos rfl, if_neg (show ¬ ((8193 : Int32) ≤ Int32.ofNat i) from nle_iN (a := 8193) (by omega) (by omega)), a_at hw.1, ltq, ltq, (c_isVar hw (by omega)).1 hqv, if_pos rfl, hend hw (by omega), ltq, hD.2.2.2.2.2.2.2.2, c_kindOf hw.1 (by omega), ltq, hk50, if_pos (show Int32.ofNat 50 = 50 from rfl), h87]
      exact w1
    · obtain ⟨b1, ⟨b2, ⟨b3, g1, g2⟩, b4, g3, g4⟩, g5⟩ := hg
      rw [g4, g3, g2] at g5
      exact ⟨b3, g1, g5⟩
    · show FLX fM lu cur K 1 v 0 ++ difT T (tyP fM lu cur 0 v) (nd fM 12 v) ++ (if j = 20 then [(nd fM 12 v, 5)] else []) ++ TGA fM lu cur K y T (j + 1) r = _
      rw [h12]
      simp
theorem s_assign {rc : TX4_block} (hc : CTX kd wr m z C TK fA fM lu lev cur pn) {K x y e1 lo2 : Nat} {xs : List Nat} (h : PLC kd sc lo x d t e1 fA fM) (hx : x < 24000) (hy : y < 24000) (he : e ≤ m) (hd : d ≤ 40) (hfo : kd e ≠ 50) (hK : 96100 ≤ K) (hk1 : kd (t + 1) = 50 ∨ kd (t + 1) = 45) (h50 : kd e1 = 50) (hT : TGS kd fA fM sc d (x :: xs) lo2 y (e1 + 1) e) (hxs : ∀ v ∈ xs, v < 24000) :
    SPE kd wr z fA lu lev pn d t e 0 (FLX fM lu cur K 1 x 0 ++ TGA fM lu cur K y (tyP fM lu cur 0 x) 1 xs) (fun b b' g => PAC fM fA lu cur lev K x y xs b b' 0 g) (4 * (wr e - wr t)) (fX4_statement_61 rc (Int32.ofNat d)) := by
  obtain ⟨hS, hFM, hPN, hwr, hz, hW, hz9, hk0⟩ := id hc
  obtain ⟨l1, l2⟩ := as_loop (T := tyP fM lu cur 0 x) hc hy he hd hfo hK xs x lo2 (e1 + 1) hT hxs
  have hlen : ∀ (r : List Nat) (x lo s : Nat), TGS kd fA fM sc d (x :: r) lo y s e → (∀ v ∈ r, v < 24000) → r.length + s ≤ e := by
    intro r
    induction r with
    | nil => exact fun x lo s h hv => by have := (as_loop (T := tyP fM lu cur 0 x) hc hy he hd hfo hK [] x lo s h hv).1; have : ([] : List Nat).length = 0 := rfl; omega
    | cons v r ih =>
      intro x lo s h hv
      have h0 := (as_loop (T := tyP fM lu cur 0 x) hc hy he hd hfo hK (v :: r) x lo s h hv).1
      obtain ⟨e1, cn, h1, h7, hk50, _, h4⟩ := h
      have := ih v (v + 1) (e1 + 1) h4 (fun y hy => hv y (List.mem_cons_of_mem _ hy))
      have := xw_lt _ _ _ _ (PWR_xw 41 h1.2)
      have : (v :: r).length = r.length + 1 := rfl
      omega
  have hl := hlen xs x lo2 (e1 + 1) hT hxs
  obtain ⟨p1, p2, p3⟩ := plc_spe hc h hx (by omega) (f := 0) (by omega) (show 4 * x + 1 ≤ K by omega)
  have hw1 := wr_mo hW e1 p1 (by omega)
  have hw2 := hW e1 (by omega)
  have hw3 := wr_mo hW e l1 he
  have h2 : kd t = 2 := h.1
  have hSS : SPE kd wr z fA lu lev pn d t e 0 (FLX fM lu cur K 1 x 0 ++ TGA fM lu cur K y (tyP fM lu cur 0 x) 1 xs) (fun b b' g => ∃ b1, (FLX fM lu cur K 1 x 0 = [] → CDC fM fA lu lev K 1 x 0 b b1 g) ∧ TGK fM fA lu cur lev K y 1 xs b1 b' g) (4 * (wr e - wr t) - 1) (fun w => bn (fX4_named (Int32.ofNat d) w) fun w5 => some (0, w5)) := by
    intro w a base ob hw hb ho ha
    have hz := hw.a_lt
    obtain ⟨u, a1, u1, u2⟩ := p3 w a base ob hw hb ho (by omega)
    have hb1 := u2.2.2.2.2.1
    obtain ⟨n1, n2⟩ := EC.need u2.1 h50 (by omega)
    obtain ⟨fo, hf⟩ := FU_ge (k := xs.length + 2) (by omega)
    obtain ⟨v, a2, v1, v2⟩ := l2 1 0 (fo + xs.length + 1) (by omega) (by omega) (by omega) _ a1 base ob n2.1 hb ho (by omega)
    refine ⟨v, a2, ?_, (((u2.seq n2).seq v2).wk (fun b b' g hg => ?_) (by omega)).cL (by simp)⟩
    · have u1' : RX2_typed 900 7 (Int32.ofNat d) 1 0 w = some (tyP fM lu cur 0 x, u) := u1
      have hasg : fX4_assignment (Int32.ofNat d) w = oX4_assignment_27 FU (Int32.ofNat d) (tyP fM lu cur 0 x) 1 true 0 (si u 4 9 (Int32.ofNat (e1 + 1))) := by
        unfold fX4_assignment
        rw [u1', bn2_so, show (50 : Int32) = Int32.ofNat 50 from rfl, n1, ltq]
      have hnm : fX4_named (Int32.ofNat d) w = bn (fX4_assignment (Int32.ofNat d) w) fun w4 => some w4 := by
        unfold fX4_named
        rw [a_at hw.1, ltq, ad1_iN, c_kindOf hw.1 (by omega), ltq]
        rcases hk1 with q | q
        · rw [q, if_pos (show Int32.ofNat 50 = 50 from rfl)]
        · rw [q, if_neg (by decide), if_pos (show Int32.ofNat 45 = 45 from rfl)]
      show bn (fX4_named (Int32.ofNat d) w) _ = _
      have v1' : bn (oX4_assignment_27 FU (Int32.ofNat d) (tyP fM lu cur 0 x) 1 true 0 (si u 4 9 (Int32.ofNat (e1 + 1)))) (fun w => some ((0 : Int32), w)) = some (0, v) := by
        rw [hf, show fo + (xs.length + 2) = fo + xs.length + 1 + 1 by omega]
        exact v1
      rw [hnm, hasg]
      generalize oX4_assignment_27 FU (Int32.ofNat d) (tyP fM lu cur 0 x) 1 true 0 (si u 4 9 (Int32.ofNat (e1 + 1))) = o at v1'
      cases o with
      | none => exact nomatch v1'
      | some w9 => exact v1'
    · obtain ⟨b1, ⟨b2, g1, g2⟩, g3⟩ := hg
      rw [g2] at g3
      exact ⟨b2, g1, g3⟩
  refine (st_61 h2 (fun w hw hk => ?_) hSS (by omega)).wk (fun b b' g hg => hg) (Nat.le_refl _)
  obtain ⟨x, w2, p⟩ := hw
  unfold fX4_statement_61
  rw [ltq, hk, if_pos (show Int32.ofNat 2 = 2 from rfl), p, lt2q]
end ES
