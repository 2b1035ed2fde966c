/-! PASS 2, THE CLASS: NAMES as PRIMARIES -/
section EC
variable {kd wr : Nat → Nat} {z : Nat} {fA fM : Wd} {lu : Nat → Nat} {lev cur : Nat} {pn : Nat → Int32} {base ob t t1 t2 t3 a a1 a2 a3 n s e d f l m : Nat} {w w1 w2 w3 w4 u v : Wd} {L L1 L2 L3 : List (Nat × Int32)} {P P1 P2 P3 : Nat → Nat → Wd → Prop} {B B1 B2 B3 : Nat} {C TK : Nat → Nat}
/-- a procedure's NAME alone -/
theorem flY_3 (hS : SYT kd m C TK lu fA fM) (h3 : gi fA 14 (lu s) = 3) : DM wr (notD (lu s) s ++ gvL fA (lu s) s ++ nmC fA (lu s) s 0) (flY fM (lu s) s) := by
  obtain ⟨l0, l1⟩ := (hS.is (tk := s) (x := 3) (by decide) (by decide)).mp h3
  have hty := hS.ty l0
  have hnul := hS.nul h3
  have h1 : ¬ (gi fM 19 (lu s - 1) = 1 ∨ FO fM (lu s - 1) 1) := by
    intro g
    have := (hS.is (tk := s) (x := 1) (by decide) (by decide)).mpr ⟨l0, g⟩
    exact absurd (h3.symm.trans this) (by decide)
  have hfl : flY fM (lu s) s = if gi fM 20 (lu s - 1) = 0 then [(s, 4)] else if gi fM 19 (lu s - 1) = 3 ∧ ¬ gi fM 31 (gi fM 24 (lu s - 1)).toNatClampNeg ≤ 0 then [(s, 5)] else [] := by
    unfold flY
    rw [if_neg l0, if_neg h1, if_pos l1]
  have hnm : nmC fA (lu s) s 0 = if gi fM 19 (lu s - 1) = 3 ∧ ¬ gi fM 31 (nd fM 24 (lu s - 1)) ≤ 0 then [(s, 5)] else [] := by
    unfold nmC
    rw [if_pos h3]
    by_cases q : Int32.ofNat 0 = gi fA 19 (lu s)
    · rw [if_pos q, if_neg (hnul.mp q.symm)]
    · rw [if_neg q, if_pos (Classical.byContradiction fun g => q (hnul.mpr g).symm)]
  have hnd : notD (lu s) s = [] := by unfold notD; rw [if_neg l0]
  rw [hfl, hnm, hnd, List.nil_append]
  unfold gvL
  rw [hty]
  have n4 : ∀ y ∈ [((s, 4) : Nat × Int32)], y.2 ≠ 0 := fun y hy => by rw [List.mem_singleton.mp hy]; first | exact i32_40 | exact i32_50
  by_cases q0 : gi fM 20 (lu s - 1) = 0
  · rw [if_pos q0, if_neg (fun g => g.elim (fun g => g.2 q0) (fun g => absurd (h3.symm.trans g) (by decide)))]
    by_cases q5 : gi fM 19 (lu s - 1) = 3 ∧ ¬ gi fM 31 (nd fM 24 (lu s - 1)) ≤ 0
    · rw [if_pos q5]
      exact DM.more n4 i32_50 List.mem_cons_self (Or.inr ⟨rfl, (show (4 : Int32) ≤ 5 by decide)⟩)
    · rw [if_neg q5, List.append_nil]
      exact DM.rf n4
  · rw [if_neg q0, if_pos (Or.inl ⟨h3, q0⟩), List.nil_append]
    refine DM.rf (fun y hy => ?_)
    split at hy
    · rw [List.mem_singleton.mp hy]; first | exact i32_40 | exact i32_50
    · exact absurd hy (by simp)
theorem flY_v (hS : SYT kd m C TK lu fA fM) (h3 : gi fA 14 (lu s) ≠ 3) : notD (lu s) s ++ srE fA 1 (lu s) s = flY fM (lu s) s := by
  rw [hS.sre (by decide) (by decide)]
  unfold notD flY
  by_cases l0 : lu s = 0
  · rw [if_pos l0, if_pos l0, if_pos l0]; rfl
  · have h33 : ¬ (gi fM 19 (lu s - 1) = 3 ∨ FO fM (lu s - 1) 3) := fun g => h3 ((hS.is (by decide) (by decide)).mpr ⟨l0, g⟩)
    rw [if_neg l0, if_neg l0, if_neg l0, if_neg h33, List.nil_append]
    rfl
theorem c_named3 {rc rc2 : TX2_typed} (hS : SYT kd m C TK lu fA fM) (hwr : ∀ i, wr i ≤ 8192) (h8 : ∀ x y c w, rc 8 x y c w = fX2_call rc2 x y c w) (hk : kd t = 2) (hk3 : kd (t + 1) ≠ 43) (hk5 : kd (t + 1) ≠ 45) :
    SPP kd wr z fA lu lev pn d t (t + 1) (tyY fM (lu t)) (flY fM (lu t) t) (fun b b' g => if gi fA 14 (lu t) = 3 then gl g 41 b = wdC 41 0 0 ∧ puC fA lev (lu t) (b + 1) (b + 2) g ∧ gl g 41 (b + 2) = wdC 42 0 0 ∧ b' = b + 3 else vaC fA lev (lu t) b b' g) 3 1 (fun w => fX2_named rc (Int32.ofNat d) w) := by
  intro w a base ob hw hb ho ha
  have hz := hw.a_lt
  obtain ⟨c1, x, c2, y7, _, c3⟩ := c_nm hw hk
  have hk50 := c3.1.1.2.2.1 (t + 1)
  have e45 : ¬ (Int32.ofNat (kd (t + 1)) = 45) := of_ne (k := 45) (by omega) (by omega) hk5
  have e43 : ¬ (Int32.ofNat (kd (t + 1)) = 43) := of_ne (k := 43) (by omega) (by omega) hk3
  have h0 : fX2_named rc (Int32.ofNat d) w = fX2_named_100 rc false (Int32.ofNat d) (Int32.ofNat t) (Int32.ofNat (lu t)) (si x 4 9 (Int32.ofNat (t + 1))) := by
    unfold fX2_named
    rw [ltq, a_at hw.1, c2, lt2q, y7, lt2q, ltq, ltq, a_kind c3.1.1, if_neg e45, if_neg e43]
  show ∃ u a', fX2_named rc (Int32.ofNat d) w = _ ∧ _
  rw [h0]
  generalize si x 4 9 (Int32.ofNat (t + 1)) = y at c3
  unfold fX2_named_100
  rw [if_neg (by decide), ltq, c_sort c3.1 c1]
  by_cases q3 : gi fA 14 (lu t) = 3
  · rw [if_pos q3]
    obtain ⟨v, v1, v2⟩ := c_119 (rc := rc) (a1 := Int32.ofNat d) (bo := false) c3 c1 hz.1
    obtain ⟨u, u1, u2⟩ := c_call0 (rc := rc2) (d := d) v2.1 hk3 c1 hz.1 (by omega)
    refine ⟨u, a + 3, ?_, ((v2.fl' u2).wk (fun b b' g hg => by rw [if_pos q3]; exact hg) (Nat.le_refl _)).dm hwr (flY_3 hS q3)⟩
    rw [v1]
    unfold fX2_named_174
    rw [h8, u1, bn2_so, ltq, c_typeIf u2.1 c1, if_pos q3, ltq, if_neg (by decide), (hS.tY (tk := t)).1 q3]
  · rw [if_neg q3, ltq, ltq, ltq, if_neg (by decide)]
    obtain ⟨a', v2⟩ := c_variable c3 c1 hz.1 (by omega)
    refine ⟨_, a', ?_, (v2.wk (fun b b' g hg => by rw [if_neg q3]; exact hg) (by omega)).cL (flY_v hS q3).symm⟩
    rw [c_typeIf v2.1 c1, (hS.tY (tk := t)).2 q3]
/-- an ELEMENT's faults, the class's and the reference's -/
theorem elL_eq {k len : Nat} {xs : List Nat} (hS : SYT kd m C TK lu fA fM) (h12 : nd fM 12 n = t) (h9 : gi fM 9 n = Int32.ofNat len) (hlen : len ≤ 8193) : ∀ y, y ∈ elL fM lu cur k n xs ↔ y ∈ notD (lu t) t ++ (srE fA 2 (lu t) t ++ rwF9 (fun x _ => FLX fM lu cur k 0 x 0 ++ difT 1 (TYX fM lu k x) (nd fM 12 x)) xs 0 ++ nmE fA (lu t) t len) := by
  intro y
  have hm : ∀ x, misT (TYX fM lu k x) 1 (nd fM 12 x) = difT 1 (TYX fM lu k x) (nd fM 12 x) := fun x => mis_dif (by decide)
  unfold elL
  rw [rwF9_flat, hS.sre (by decide) (by decide), hS.nme h9 hlen, h12]
  simp only [hm]
  by_cases l0 : lu t = 0
  · rw [if_pos l0, if_pos l0, if_pos l0, List.append_nil, List.nil_append, List.append_nil]
  · rw [if_neg l0, if_neg l0, if_neg l0]
    by_cases q : gi fM 19 (lu t - 1) = 2 ∨ FO fM (lu t - 1) 2
    · rw [if_pos q, if_pos q, if_pos q, List.nil_append, List.append_assoc]
    · rw [if_neg q, if_neg q, if_neg q, List.append_nil]
      simp only [List.mem_append]
      constructor
      · rintro ((g | g) | g)
        · exact Or.inl g
        · exact Or.inr (Or.inr g)
        · exact Or.inr (Or.inl g)
      · rintro (g | g | g)
        · exact Or.inl (Or.inl g)
        · exact Or.inr g
        · exact Or.inl (Or.inr g)
/-- what's told of an EXPR in a row -/
def RWX (kd wr : Nat → Nat) (z : Nat) (fA fM : Wd) (lu : Nat → Nat) (lev cur : Nat) (pn : Nat → Int32) (W : PWT) (bnd m d k : Nat) (rc : TX2_typed) : Prop :=
  ∀ lo x s e cn, W lo x d s e cn → x < bnd → e ≤ m → s < e ∧ nd fM 12 x = s ∧ SPE kd wr z fA lu lev pn d s e (TYX fM lu k x) (FLX fM lu cur k 0 x 0) (fun b b' g => FLX fM lu cur k 0 x 0 = [] → CDC fM fA lu lev k 0 x 0 b b' g) (4 * (wr e - wr s) - 1) (fun w => rc 2 (Int32.ofNat d) 0 0 w)
/-- an ELEMENT, as a place -/
theorem c_elem {W : PWT} {rc rc2 : TX2_typed} {k bnd lo : Nat} {xs : List Nat} (hS : SYT kd m C TK lu fA fM) (hwr : ∀ i, wr i ≤ 8192) (hW : ∀ i, i < m → wr i + 1 ≤ wr (i + 1)) (hz9 : m < z) (h0 : ∀ x y w, rc 0 x y 0 w = fX2_typed rc2 x y w) (hI : RWX kd wr z fA fM lu lev cur pn W bnd m (d + 1) k rc2)
    (h7 : gi fM 7 n = 4) (h9 : gi fM 9 n = Int32.ofNat xs.length) (h12 : nd fM 12 n = t) (hx8 : nxL fM k (gi fM 8 n) = xs) (hR : rowR kd fM W xs lo (d + 1) (t + 2) e) (hx : ∀ x ∈ xs, x < bnd) (he : e < m) (hk : kd e = 46) (hk0 : kd t = 2) (hk1 : kd (t + 1) = 45) (hd : d < 40)
    (hw : GC2 kd wr z fA lu lev pn t a base ob w) (hb : base ≤ 10 * (d + 1)) (ho : ob ≤ 9 * (d + 1)) (ha : a + (4 * (wr e - wr (t + 2)) + 1) ≤ 36872) :
    lu t ≤ 4100 ∧ xs.length ≤ 8193 ∧ ∃ x, fX1_find (Int32.ofNat t) w = (Int32.ofNat (lu t), x) ∧ fX9_take 2 x = (true, si x 4 9 (Int32.ofNat (t + 1))) ∧ fX9_need 2 x = si x 4 9 (Int32.ofNat (t + 1)) ∧ fX9_kind (si x 4 9 (Int32.ofNat (t + 1))) = 45 ∧ ∃ u a', fX2_element rc (Int32.ofNat d) (Int32.ofNat (lu t)) (Int32.ofNat t) (si x 4 9 (Int32.ofNat (t + 1))) = some (Int32.ofNat xs.length, u) ∧ EC kd wr z fA lu lev pn base ob (e + 1) a a' w u (elL fM lu cur k n xs) (fun b b' g => elL fM lu cur k n xs = [] → elCA fM fA lu lev k n xs b b' g) (4 * (wr e - wr (t + 2)) + 1) := by
  have hz := hw.1.2.1
  obtain ⟨c1, x, c2, y7, y9, c3⟩ := c_nm hw hk0
  obtain ⟨hl1, hl2⟩ := row_len (fun lo x s e cn h hx he => (hI lo x s e cn h hx he).1) xs _ _ _ hR hx (by omega)
  refine ⟨c1, by omega, x, c2, y7, y9, by rw [a_kind c3.1.1, hk1]; rfl, ?_⟩
  obtain ⟨u, a', u1, u2⟩ := c_element (rc := rc) (FL := fun x _ => FLX fM lu cur k 0 x 0 ++ difT 1 (TYX fM lu k x) (nd fM 12 x)) (PP := fun x _ b b' g => FLX fM lu cur k 0 x 0 = [] → CDC fM fA lu lev k 0 x 0 b b' g) hW hz9 (fun lo x s e cn i h hx he => by
    obtain ⟨g1, g2, g3⟩ := hI lo x s e cn h hx he
    refine ⟨g1, ?_⟩
    rw [g2]
    intro w a base ob hw hb ho ha
    obtain ⟨u, a', u1, u2⟩ := SPE.typed (ty := 1) g3 (by have := hw.a_lt; omega) w a base ob hw hb ho ha
    exact ⟨u, a', (h0 _ _ _).trans u1, u2⟩) hR hx he hk hk1 c1 hd c3.1 hb ho ha
  refine ⟨u, a', u1, ((c3.fl' u2).set hwr (elL_eq hS h12 h9 (by omega))).wk (fun b b' g hg hL => ?_) (Nat.le_refl _)⟩
  obtain ⟨b0, b1, g1, g2, g3, g4⟩ := hg
  refine ⟨b0, b1, by rw [h12]; exact g1, rwM.im xs 0 _ _ (fun x hx i b b' h => h ?_) g2, by rw [h9]; exact g3, g4⟩
  have h1 := (List.append_eq_nil_iff.mp (List.append_eq_nil_iff.mp hL).1).2
  have h2 := List.flatMap_eq_nil_iff.mp h1 x hx
  exact (List.append_eq_nil_iff.mp h2).1
theorem c_named4 {W : PWT} {rc rc2 rc3 : TX2_typed} {k bnd lo : Nat} {xs : List Nat} (hS : SYT kd m C TK lu fA fM) (hwr : ∀ i, wr i ≤ 8192) (hW : ∀ i, i < m → wr i + 1 ≤ wr (i + 1)) (hz9 : m < z) (h6 : ∀ x y c w, rc 6 x y c w = fX2_element rc2 x y c w) (h0 : ∀ x y w, rc2 0 x y 0 w = fX2_typed rc3 x y w) (hI : RWX kd wr z fA fM lu lev cur pn W bnd m (d + 1) k rc3)
    (h7 : gi fM 7 n = 4) (h9 : gi fM 9 n = Int32.ofNat xs.length) (h12 : nd fM 12 n = t) (hx8 : nxL fM k (gi fM 8 n) = xs) (hR : rowR kd fM W xs lo (d + 1) (t + 2) e) (hx : ∀ x ∈ xs, x < bnd) (he : e < m) (hk : kd e = 46) (hk0 : kd t = 2) (hk1 : kd (t + 1) = 45) (hd : d < 40) :
    SPP kd wr z fA lu lev pn d t (e + 1) (tyE fM (lu t)) (FLX fM lu cur (k + 1) 0 n 0) (fun b b' g => FLX fM lu cur (k + 1) 0 n 0 = [] → CDC fM fA lu lev (k + 1) 0 n 0 b b' g) (4 * (wr (e + 1) - wr t) - 1) (if xs.length = 1 then 2 else 3) (fun w => fX2_named rc (Int32.ofNat d) w) := by
  intro w a base ob hw hb ho ha
  have hz := hw.a_lt
  obtain ⟨hl1, hl2⟩ := row_len (fun lo x s e cn h hx he => (hI lo x s e cn h hx he).1) xs _ _ _ hR hx (by omega)
  have m1 := hW t (by omega)
  have m2 : wr (t + 1) + 1 ≤ wr (t + 2) := hW (t + 1) (by omega)
  have m3 := hW e (by omega)
  have m4 := wr_mo hW e (s := t + 2) (by omega) (by omega)
  obtain ⟨c1, hlen, x, c2, c3, _, c4, u, a', u1, u2⟩ := c_elem hS hwr hW hz9 h0 hI h7 h9 h12 hx8 hR hx he hk hk0 hk1 hd hw hb ho (by omega)
  have hb2 := u2.b
  obtain ⟨v, v1, v2⟩ := EC.put1 (x := 24) u2.1 (by omega)
  rw [flx0_4 h7 hx8]
  refine ⟨v, a' + 1, ?_, ((u2.seq v2).wk (fun b b' g ⟨b1, g1, g2, g3⟩ hL => by rw [cdc0_4 h7 hx8]; exact ⟨b1, g1 hL, g2, g3⟩) (by omega)).cL (List.append_nil _).symm⟩
  show fX2_named rc (Int32.ofNat d) w = _
  unfold fX2_named
  rw [ltq, a_at hw.1, c2, lt2q, c3, lt2q, ltq, c4, if_pos rfl, h6, u1, bn2_so, v1, lt2q, ltq, ltq, c_typeIf v2.1 c1, hS.tE]
  by_cases q1 : xs.length = 1
  · rw [if_pos (show Int32.ofNat xs.length = 1 by rw [q1]; rfl), if_pos q1]
  · rw [if_neg (show ¬ (Int32.ofNat xs.length = 1) from of_ne (k := 1) (by omega) (by omega) q1), if_neg q1]
end EC
