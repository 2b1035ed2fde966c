/-! PASS 2, THE CLASS: calls and places -/
section FL
variable {fM fA : Wd} {lu : Nat → Nat} {cur lev k n f l t : Nat}
theorem rwM_ix {FL : Nat → Nat → List (Nat × Int32)} {V W : Nat → Nat → Nat → Nat → Prop} {len : Nat} : ∀ (xs : List Nat) (i b b' : Nat), rwF9 FL xs i = [] → i + xs.length = len → (∀ x ∈ xs, ∀ j b b', j < len → FL x j = [] → V x j b b' → W x j b b') → rwM (fun x j b b' => FL x j = [] → V x j b b') xs i b b' → rwM W xs i b b' := by
  intro xs
  induction xs with
  | nil => exact fun _ _ _ _ _ _ h => h
  | cons x r ih =>
    intro i b b' hL hlen hV h
    have hl : (x :: r).length = r.length + 1 := rfl
    obtain ⟨h1, h2⟩ := List.append_eq_nil_iff.mp (show FL x i ++ rwF9 FL r (i + 1) = [] from hL)
    obtain ⟨b1, g1, g2⟩ := h
    exact ⟨b1, hV x List.mem_cons_self i _ _ (by omega) h1 (g1 h1), ih _ _ _ h2 (by omega) (fun y hy => hV y (List.mem_cons_of_mem _ hy)) g2⟩
end FL
/-- the procedures round it, on both sides -/
def PNR (fM fA : Wd) (C : Nat → Nat) (lev cur : Nat) (pn : Nat → Int32) : Prop := ∀ i, i < C 1 → gi fM 19 i = 3 → ∃ lv, gi fA 17 (i + 1) = Int32.ofNat lv ∧ lv ≤ 62 ∧ (lv + 1 ≤ lev ∧ pn (lv + 1) = Int32.ofNat (i + 1) ↔ inPr fM (gi fM 24 i) 9000 (Int32.ofNat cur) = true)
section EC
variable {kd wr : Nat → Nat} {z : Nat} {fA fM : Wd} {lu : Nat → Nat} {lev cur : Nat} {pn : Nat → Int32} {base ob t t1 t2 t3 a a1 a2 a3 n s e d f l m : Nat} {w w1 w2 w3 w4 u v : Wd} {L L1 L2 L3 : List (Nat × Int32)} {P P1 P2 P3 : Nat → Nat → Wd → Prop} {B B1 B2 B3 : Nat} {C TK : Nat → Nat}
/-- whether a call may stand there; f: 0 as an EXPR -/
def gvF (fA : Wd) (f l s : Nat) : List (Nat × Int32) := if f = 0 then gvL fA l s else srE fA 3 l s
theorem gvF_eq (hS : SYT kd m C TK lu fA fM) : gvF fA f (lu t) t = (if lu t = 0 then [] else if gi fM 19 (lu t - 1) = 3 ∨ FO fM (lu t - 1) 3 then (if f = 0 ∧ gi fM 20 (lu t - 1) = 0 then [(t, 4)] else []) else misS fM (lu t) t) := by
  unfold gvF
  by_cases q : f = 0
  · rw [if_pos q]
    unfold gvL misS
    by_cases l0 : lu t = 0
    · rw [if_pos l0, if_pos (Or.inr (hS.is0.mpr (Or.inl l0)))]
    · rw [if_neg l0, hS.ty l0]
      by_cases q3 : gi fM 19 (lu t - 1) = 3 ∨ FO fM (lu t - 1) 3
      · have h3 := (hS.is (tk := t) (x := 3) (by decide) (by decide)).mpr ⟨l0, q3⟩
        rw [if_pos q3]
        by_cases q20 : gi fM 20 (lu t - 1) = 0
        · rw [if_neg (fun g => g.elim (fun g => g.2 q20) (fun g => absurd (h3.symm.trans g) (by decide))), if_pos ⟨q, q20⟩]
        · rw [if_pos (Or.inl ⟨h3, q20⟩), if_neg (fun g => q20 g.2)]
      · have h3 : ¬ gi fA 14 (lu t) = 3 := fun g => q3 ((hS.is (tk := t) (x := 3) (by decide) (by decide)).mp g).2
        rw [if_neg q3]
        by_cases q0 : FO fM (lu t - 1) 0
        · rw [if_pos (Or.inr (hS.is0.mpr (Or.inr q0))), if_pos q0]
        · rw [if_neg (fun g => g.elim (fun g => h3 g.1) (fun g => (hS.is0.mp g).elim l0 q0)), if_neg q0]
  · rw [if_neg q, hS.sre (by decide) (by decide)]
    by_cases l0 : lu t = 0
    · rw [if_pos l0, if_pos l0]
    · rw [if_neg l0, if_neg l0]
      by_cases q3 : gi fM 19 (lu t - 1) = 3 ∨ FO fM (lu t - 1) 3
      · rw [if_pos q3, if_pos q3, if_neg (fun g => q g.1)]
      · rw [if_neg q3, if_neg q3]
/-- a call's faults, the class's and the reference's -/
theorem cl_eq {k : Nat} {xs : List Nat} (hS : SYT kd m C TK lu fA fM) (h7 : gi fM 7 n = 5) (hx8 : nxL fM k (gi fM 8 n) = xs) (h12 : nd fM 12 n = t) (h9 : gi fM 9 n = Int32.ofNat xs.length) (hlen : 1 ≤ xs.length ∧ xs.length ≤ 8193) : ∀ y, y ∈ FLX fM lu cur (k + 1) 0 n f ↔ y ∈ notD (lu t) t ++ gvF fA f (lu t) t ++ (rwF9 (itL fM lu cur k (lu t)) xs 0 ++ nmC fA (lu t) t xs.length) := by
  intro y
  rw [flx0_5 h7 hx8, h12, gvF_eq hS, h9]
  by_cases l0 : lu t = 0
  · have hit : ∀ x ∈ xs, ∀ i, itL fM lu cur k (lu t) x i = FLX fM lu cur k 4 x 0 := fun x _ i => by
      unfold itL
      rw [if_neg (fun g => g.1 l0)]
    have hnm : nmC fA (lu t) t xs.length = [] := by
      unfold nmC
      rw [l0, hS.1, if_neg (by decide)]
    rw [if_pos (Or.inl l0), if_pos l0, if_pos l0, rwF9_im xs 0 hit, rwF9_flat (FL := fun x => FLX fM lu cur k 4 x 0), hnm, List.append_nil, List.append_nil]
  · rw [if_neg l0, if_neg l0]
    by_cases q3 : gi fM 19 (lu t - 1) = 3
    · have h3 := (hS.is (tk := t) (x := 3) (by decide) (by decide)).mpr ⟨l0, Or.inl q3⟩
      have hit : ∀ x ∈ xs, ∀ i, itL fM lu cur k (lu t) x i = if i < nd fM 31 (nd fM 24 (lu t - 1)) then FLX fM lu cur k 5 x (nd fM 32 (nd fM 24 (lu t - 1)) + i) else FLX fM lu cur k 4 x 0 := fun x _ i => by
        unfold itL
        by_cases qi : i < nd fM 31 (nd fM 24 (lu t - 1))
        · rw [if_pos ⟨l0, q3, qi⟩, if_pos qi]
        · rw [if_neg (fun g => qi g.2.2), if_neg qi]
      have hnm : nmC fA (lu t) t xs.length = if gi fM 31 (nd fM 24 (lu t - 1)) ≠ Int32.ofNat xs.length then [(t, 5)] else [] := by
        unfold nmC
        rw [if_pos h3]
        rcases (hS.sy l0).2.2.2.2.2.2.2.2 with k | k | k | k | k | k
        · exact absurd (k.1.symm.trans q3) (by decide)
        · exact absurd (k.1.symm.trans q3) (by decide)
        · obtain ⟨k1, k2, k3, p9, nf, ff, k4, k5, k6, k7, k8, k9, k10, k11, k12, k13⟩ := k
          rw [show lu t - 1 + 1 = lu t by omega] at k10
          have hC := hS.2.2.1
          have hp : nd fM 24 (lu t - 1) = p9 := by
            unfold nd
            rw [k6, tc_iN (by omega)]
          rw [hp, k8, k10]
          by_cases qn : xs.length = nf
          · rw [if_pos (by rw [qn]), if_neg (fun g => g (by rw [qn]))]
          · rw [if_neg (of_ne (by omega) (by omega) qn), if_pos (of_ne (by omega) (by omega) (fun g => qn g.symm))]
        · exact absurd (k.1.symm.trans q3) (by decide)
        · exact absurd (k.1.symm.trans q3) (by decide)
        · exact absurd (k.1.symm.trans q3) (by decide)
      rw [if_neg (fun g => g.elim l0 (fun g => g q3)), if_pos (Or.inl q3), rwF9_im xs 0 hit, rwF9_zip (FL := fun x i => if i < nd fM 31 (nd fM 24 (lu t - 1)) then FLX fM lu cur k 5 x (nd fM 32 (nd fM 24 (lu t - 1)) + i) else FLX fM lu cur k 4 x 0), hnm]
      simp only [List.mem_append]
      constructor
      · rintro (g | (g | g) | g)
        · exact Or.inl (Or.inl g)
        · exact Or.inl (Or.inr g)
        · exact Or.inr (Or.inr g)
        · exact Or.inr (Or.inl g)
      · rintro ((g | g) | g | g)
        · exact Or.inl g
        · exact Or.inr (Or.inl (Or.inl g))
        · exact Or.inr (Or.inr g)
        · exact Or.inr (Or.inl (Or.inr g))
    · have hit : ∀ x ∈ xs, ∀ i, itL fM lu cur k (lu t) x i = FLX fM lu cur k 4 x 0 := fun x _ i => by
        unfold itL
        rw [if_neg (fun g => q3 g.2.1)]
      rw [if_pos (Or.inr q3), rwF9_im xs 0 hit, rwF9_flat (FL := fun x => FLX fM lu cur k 4 x 0)]
      by_cases qF : FO fM (lu t - 1) 3
      · have h3 := (hS.is (tk := t) (x := 3) (by decide) (by decide)).mpr ⟨l0, Or.inr qF⟩
        have hnm : nmC fA (lu t) t xs.length = [(t, 5)] := by
          unfold nmC
          rcases (hS.sy l0).2.2.2.2.2.2.2.2 with k | k | k | k | k | k
          · exact absurd (k.1.symm.trans qF.1) (by decide)
          · exact absurd (k.1.symm.trans qF.1) (by decide)
          · exact absurd (k.1.symm.trans qF.1) (by decide)
          · exact absurd (k.1.symm.trans qF.1) (by decide)
          · exact absurd (k.1.symm.trans qF.1) (by decide)
          · rw [show lu t - 1 + 1 = lu t by omega] at k
            rw [if_pos h3, k.2.1, if_neg (show ¬ (Int32.ofNat xs.length = 0) from of_ne (k := 0) (by omega) (by omega) (by omega))]
        rw [if_pos qF, if_pos (Or.inr qF), hnm]
        simp only [List.mem_append]
        constructor
        · rintro (g | g | g | g)
          · exact Or.inl (Or.inl g)
          · exact Or.inr (Or.inl g)
          · exact Or.inr (Or.inr g)
          · exact Or.inl (Or.inr g)
        · rintro ((g | g) | g | g)
          · exact Or.inl g
          · exact Or.inr (Or.inr (Or.inr g))
          · exact Or.inr (Or.inl g)
          · exact Or.inr (Or.inr (Or.inl g))
      · have h33 : ¬ (gi fM 19 (lu t - 1) = 3 ∨ FO fM (lu t - 1) 3) := fun g => g.elim q3 qF
        have hnm : nmC fA (lu t) t xs.length = [] := by
          unfold nmC
          rw [if_neg (fun g => h33 ((hS.is (tk := t) (x := 3) (by decide) (by decide)).mp g).2)]
        rw [if_neg qF, if_neg h33, hnm, List.append_nil]
        simp only [List.mem_append]
        constructor
        · rintro (g | g | g)
          · exact Or.inl (Or.inl g)
          · exact Or.inr g
          · exact Or.inl (Or.inr g)
        · rintro ((g | g) | g)
          · exact Or.inl g
          · exact Or.inr (Or.inr g)
          · exact Or.inr (Or.inl g)
/-- rows of ACTUALS -/
def RWY (kd wr : Nat → Nat) (m z : Nat) (fA fM : Wd) (lu : Nat → Nat) (lev cur : Nat) (pn : Nat → Int32) (W : PWT) (bnd d G : Nat) : Prop :=
  ∀ lo x s e cn, W lo x d s e cn → x < bnd → e ≤ m → s < e ∧ ALC kd wr m z fA fM lu lev cur pn d x s e cn G
theorem c_calls {W : PWT} {k N G bnd lo : Nat} {xs : List Nat} (hS : SYT kd m C TK lu fA fM) (hFM : PFM fM (C 1)) (hwr : ∀ i, wr i ≤ 8192) (hW : ∀ i, i < m → wr i + 1 ≤ wr (i + 1)) (hz9 : m < z) (hI : RWY kd wr m z fA fM lu lev cur pn W bnd (d + 1) G) (hk4 : 4 * bnd ≤ k + 1) (hN : G + 1 ≤ N)
    (h7 : gi fM 7 n = 5) (h9 : gi fM 9 n = Int32.ofNat xs.length) (h12 : nd fM 12 n = t) (hx8 : nxL fM (k + 1) (gi fM 8 n) = xs) (hR : rowR kd fM W xs lo (d + 1) (t + 2) e) (hx : ∀ x ∈ xs, x < bnd) (he : e < m) (hk : kd e = 44) (hk1 : kd (t + 1) = 43) (hd : d < 40)
    (h : EC kd wr z fA lu lev pn base ob (t + 1) a a w u (notD (lu t) t ++ gvF fA f (lu t) t) (fun b b' _ => b' = b) 0) (hb : base ≤ 10 * (d + 1)) (ho : ob ≤ 9 * (d + 1)) (ha : a + (4 * (wr e - wr (t + 2)) + 6) ≤ 36872) :
    1 ≤ xs.length ∧ ∃ v a', fX2_call (RX2_typed N) (Int32.ofNat d) (Int32.ofNat (lu t)) (Int32.ofNat t) u = some (0, v) ∧ EC kd wr z fA lu lev pn base ob (e + 1) a a' w v (FLX fM lu cur (k + 2) 0 n f) (fun b b' g => FLX fM lu cur (k + 2) 0 n f = [] → CDC fM fA lu lev (k + 2) 0 n 0 b b' g) (4 * (wr e - wr (t + 2)) + 6) := by
  have hz := h.1.1.2.1
  have hl9 : lu t ≤ 4100 := by have := hS.2.1 t; have := hS.2.2.1; omega
  obtain ⟨hl1, hl2⟩ := row_len (fun lo x s e cn h hx he => (hI lo x s e cn h hx he).1) xs _ _ _ hR hx (by omega)
  refine ⟨hl1, ?_⟩
  obtain ⟨v, a', v1, v2⟩ := c_call (rc := RX2_typed N) (FL := itL fM lu cur (k + 1) (lu t)) (PP := fun x i b b' g => itL fM lu cur (k + 1) (lu t) x i = [] → itC fM fA lu lev (k + 1) (lu t) x i b b' g) hW hz9 (fun lo x s e cn i h hx he => by
    obtain ⟨g1, g2⟩ := hI lo x s e cn h hx he
    exact ⟨g1, fun hi => c_item hS hFM hwr hz hW g2 (K := k) (by omega) hN (by omega)⟩) hR hx he hk hk1 hl9 hd h.1 hb ho ha
  have heq := cl_eq (f := f) (cur := cur) hS h7 hx8 h12 h9 ⟨hl1, by omega⟩
  refine ⟨v, a', v1, ((h.fl' v2).wk (fun b b' g hg hL => ?_) (Nat.le_refl _)).set hwr heq⟩
  have hnil : notD (lu t) t ++ gvF fA f (lu t) t ++ (rwF9 (itL fM lu cur (k + 1) (lu t)) xs 0 ++ nmC fA (lu t) t xs.length) = [] := by
    refine List.eq_nil_iff_forall_not_mem.mpr (fun y hy => ?_)
    have := (heq y).mpr hy
    rw [hL] at this
    exact absurd this (by simp)
  obtain ⟨n1, n2⟩ := List.append_eq_nil_iff.mp hnil
  obtain ⟨n3, n4⟩ := List.append_eq_nil_iff.mp n2
  obtain ⟨n5, n6⟩ := List.append_eq_nil_iff.mp n1
  obtain ⟨g1, b1, g2, g3, g4, g5⟩ := hg
  rw [cdc0_5 h7 hx8, h12]
  intro q3
  have l0 : lu t ≠ 0 := fun g => by
    unfold notD at n5
    rw [if_pos g] at n5
    exact absurd n5 (by simp)
  have hlen : nd fM 31 (nd fM 24 (lu t - 1)) = xs.length := by
    have h3 := (hS.is (tk := t) (x := 3) (by decide) (by decide)).mpr ⟨l0, Or.inl q3⟩
    unfold nmC at n4
    rw [if_pos h3] at n4
    rcases (hS.sy l0).2.2.2.2.2.2.2.2 with k | k | k | k | k | k
    · exact absurd (k.1.symm.trans q3) (by decide)
    · exact absurd (k.1.symm.trans q3) (by decide)
    · obtain ⟨k1, k2, k3, p9, nf, ff, k4, k5, k6, k7, k8, k9, k10, k11, k12, k13⟩ := k
      rw [show lu t - 1 + 1 = lu t by omega] at k10
      have hC := hS.2.2.1
      have hp : nd fM 24 (lu t - 1) = p9 := by
        unfold nd
        rw [k6, tc_iN (by omega)]
      have hnf : nd fM 31 p9 = nf := by
        unfold nd
        rw [k8, tc_iN (by omega)]
      rw [hp, hnf]
      rw [k10] at n4
      by_cases qn : xs.length = nf
      · exact qn.symm
      · rw [if_neg (of_ne (by omega) (by omega) qn)] at n4
        exact absurd n4 (by simp)
    · exact absurd (k.1.symm.trans q3) (by decide)
    · exact absurd (k.1.symm.trans q3) (by decide)
    · exact absurd (k.1.symm.trans q3) (by decide)
  refine ⟨g1, b1, rwM_ix (len := xs.length) xs 0 _ _ n3 (by omega) (fun x hx j b b' hj _ hc => hc l0 q3 (by omega)) g2, g3, g4, g5⟩
theorem c_named5 {W : PWT} {k N G bnd lo : Nat} {xs : List Nat} (hS : SYT kd m C TK lu fA fM) (hFM : PFM fM (C 1)) (hwr : ∀ i, wr i ≤ 8192) (hW : ∀ i, i < m → wr i + 1 ≤ wr (i + 1)) (hz9 : m < z) (hI : RWY kd wr m z fA fM lu lev cur pn W bnd (d + 1) G) (hk4 : 4 * bnd ≤ k + 1) (hN : G + 1 ≤ N)
    (h7 : gi fM 7 n = 5) (h9 : gi fM 9 n = Int32.ofNat xs.length) (h12 : nd fM 12 n = t) (hx8 : nxL fM (k + 1) (gi fM 8 n) = xs) (hR : rowR kd fM W xs lo (d + 1) (t + 2) e) (hx : ∀ x ∈ xs, x < bnd) (he : e < m) (hk : kd e = 44) (hk0 : kd t = 2) (hk1 : kd (t + 1) = 43) (hd : d < 40) :
    SPP kd wr z fA lu lev pn d t (e + 1) (tyC fM (lu t)) (FLX fM lu cur (k + 2) 0 n 0) (fun b b' g => FLX fM lu cur (k + 2) 0 n 0 = [] → CDC fM fA lu lev (k + 2) 0 n 0 b b' g) (4 * (wr (e + 1) - wr t) - 1) 6 (fun w => fX2_named (RX2_typed (N + 1)) (Int32.ofNat d) w) := by
  intro w a base ob hw hb ho ha
  have hz := hw.a_lt
  obtain ⟨hl1, hl2⟩ := row_len (fun lo x s e cn h hx he => (hI lo x s e cn h hx he).1) xs _ _ _ hR hx (by omega)
  have m1 := hW t (by omega)
  have m2 : wr (t + 1) + 1 ≤ wr (t + 2) := hW (t + 1) (by omega)
  have m3 := hW e (by omega)
  have m4 := wr_mo hW e (s := t + 2) (by omega) (by omega)
  obtain ⟨c1, x, c2, y7, _, c3⟩ := c_nm hw hk0
  have h0 : fX2_named (RX2_typed (N + 1)) (Int32.ofNat d) w = fX2_named_119 (RX2_typed (N + 1)) (Int32.ofNat d) (Int32.ofNat t) (Int32.ofNat (lu t)) true (si x 4 9 (Int32.ofNat (t + 1))) := by
    unfold fX2_named
    rw [ltq, a_at hw.1, c2, lt2q, y7, lt2q, ltq, ltq, a_kind c3.1.1, if_neg (show ¬ (Int32.ofNat (kd (t + 1)) = 45) by rw [hk1]; decide), if_pos (show Int32.ofNat (kd (t + 1)) = 43 by rw [hk1]; rfl)]
    unfold fX2_named_100
    exact if_pos rfl
  show ∃ u a', fX2_named (RX2_typed (N + 1)) (Int32.ofNat d) w = _ ∧ _
  rw [h0]
  generalize si x 4 9 (Int32.ofNat (t + 1)) = y at c3
  obtain ⟨v, v1, v2⟩ := c_119 (rc := RX2_typed (N + 1)) (a1 := Int32.ofNat d) (bo := true) c3 c1 hz.1
  obtain ⟨_, u, a', u1, u2⟩ := c_calls (f := 0) hS hFM hwr hW hz9 hI hk4 hN h7 h9 h12 hx8 hR hx he hk hk1 hd v2 hb ho (by omega)
  refine ⟨u, a', ?_, u2.wk (fun _ _ _ hh => hh) (by omega)⟩
  rw [v1]
  unfold fX2_named_174
  have h8 : RX2_typed (N + 1) 8 (Int32.ofNat d) (Int32.ofNat (lu t)) (Int32.ofNat t) v = fX2_call (RX2_typed N) (Int32.ofNat d) (Int32.ofNat (lu t)) (Int32.ofNat t) v := rfl
  rw [h8, u1, bn2_so, ltq, c_typeIf u2.1 c1, ltq, if_pos rfl, hS.tC]
/-- an ELEMENT's place -/
theorem c_place4 {W : PWT} {rc rc2 rc3 : TX2_typed} {k bnd lo : Nat} {xs : List Nat} {a2 : Int32} (hS : SYT kd m C TK lu fA fM) (hwr : ∀ i, wr i ≤ 8192) (hW : ∀ i, i < m → wr i + 1 ≤ wr (i + 1)) (hz9 : m < z) (h6 : ∀ x y c w, rc 6 x y c w = fX2_element rc2 x y c w) (h0 : ∀ x y w, rc2 0 x y 0 w = fX2_typed rc3 x y w) (hI : RWX kd wr z fA fM lu lev cur pn W bnd m (d + 1) k rc3)
    (h7 : gi fM 7 n = 4) (h9 : gi fM 9 n = Int32.ofNat xs.length) (h12 : nd fM 12 n = t) (hx8 : nxL fM k (gi fM 8 n) = xs) (hR : rowR kd fM W xs lo (d + 1) (t + 2) e) (hx : ∀ x ∈ xs, x < bnd) (he : e < m) (hk : kd e = 46) (hk0 : kd t = 2) (hk1 : kd (t + 1) = 45) (hd : d < 40) :
    SPE kd wr z fA lu lev pn d t (e + 1) (tyP fM lu cur f n) (FLX fM lu cur (k + 1) 1 n f) (fun b b' g => FLX fM lu cur (k + 1) 1 n f = [] → CDC fM fA lu lev (k + 1) 1 n 0 b b' g) (4 * (wr (e + 1) - wr t) - 1) (fun w => fX2_place rc (Int32.ofNat d) a2 w) := by
  intro w a base ob hw hb ho ha
  have hz := hw.a_lt
  obtain ⟨hl1, hl2⟩ := row_len (fun lo x s e cn h hx he => (hI lo x s e cn h hx he).1) xs _ _ _ hR hx (by omega)
  have m1 := hW t (by omega)
  have m2 : wr (t + 1) + 1 ≤ wr (t + 2) := hW (t + 1) (by omega)
  have m3 := hW e (by omega)
  have m4 := wr_mo hW e (s := t + 2) (by omega) (by omega)
  obtain ⟨c1, hlen, x, c2, _, c3, c4, u, a', u1, u2⟩ := c_elem hS hwr hW hz9 h0 hI h7 h9 h12 hx8 hR hx he hk hk0 hk1 hd hw (by omega) (by omega) (by omega)
  rw [flx1_4 h7 hx8]
  refine ⟨u, a', ?_, u2.wk (fun b b' g hg hL => by rw [cdc1_4 h7 hx8]; exact hg hL) (by omega)⟩
  show fX2_place rc (Int32.ofNat d) a2 w = _
  unfold fX2_place
  rw [ltq, a_at hw.1, c2, lt2q, ltq, c3, ltq, c4, if_pos rfl, h6, u1, bn2_so, ltq, c_typeIf u2.1 c1, hS.tE]
  unfold tyP
  rw [if_pos h7, h12]
theorem pl_99e {rc : TX2_typed} {x : Int32} {v : Wd} : fX2_place_99 rc x v = if fX8_isFormal x v = true then some (fX2_typeIf x 1 (fX2_use x 1 v), fX2_use x 1 v) else some (fX2_typeIf x 1 (fX0_put 20 (fX1_hops x v) (fX8_slot x v) v).2, (fX0_put 20 (fX1_hops x v) (fX8_slot x v) v).2) := by
  unfold fX2_place_99
  rw [ltq]
  generalize fX8_isFormal x v = b
  cases b
  · rw [if_neg (by decide), if_neg (by decide), ltq, ltq, lt2q, ltq]
  · rw [if_pos rfl, if_pos rfl, ltq, ltq]
/-- a NAME's place -/
theorem c_place3 {rc : TX2_typed} {k : Nat} (hS : SYT kd m C TK lu fA fM) (hPN : PNR fM fA C lev cur pn) (hf : f ≤ 1) (h7 : gi fM 7 n = 3) (h12 : nd fM 12 n = t) (hk0 : kd t = 2) (hk1 : kd (t + 1) ≠ 45) (hwt : wr t + 1 ≤ wr (t + 1)) :
    SPE kd wr z fA lu lev pn d t (t + 1) (tyP fM lu cur f n) (FLX fM lu cur (k + 1) 1 n f) (fun b b' g => FLX fM lu cur (k + 1) 1 n f = [] → CDC fM fA lu lev (k + 1) 1 n 0 b b' g) (4 * (wr (t + 1) - wr t) - 1) (fun w => fX2_place rc (Int32.ofNat d) (if f = 0 then 1 else 0) w) := by
  intro w a base ob hw hb ho ha
  have hz := hw.a_lt
  obtain ⟨c1, x, c2, _, c4, c3⟩ := c_nm hw hk0
  have hk50 := c3.1.1.2.2.1 (t + 1)
  have n4 : ¬ gi fM 7 n = 4 := by rw [h7]; decide
  have h0 : ∀ p : Int32, fX2_place rc (Int32.ofNat d) p w = (if gi fA 14 (lu t) = 3 then some (fX2_result (Int32.ofNat (lu t)) (Int32.ofNat t) p (si x 4 9 (Int32.ofNat (t + 1)))) else fX2_place_99 rc (Int32.ofNat (lu t)) (if fX1_isSort (Int32.ofNat (lu t)) 1 (si x 4 9 (Int32.ofNat (t + 1))) = true then si x 4 9 (Int32.ofNat (t + 1)) else fX1_note (Int32.ofNat t) 4 (si x 4 9 (Int32.ofNat (t + 1))))) := fun p => by
    unfold fX2_place
    rw [ltq, a_at hw.1, c2, lt2q, ltq, c4, ltq, a_kind c3.1.1, if_neg (show ¬ (Int32.ofNat (kd (t + 1)) = 45) from of_ne (k := 45) (by omega) (by omega) hk1), ltq, c_sort c3.1 c1, lt2q, ltq, ltq, (EC.note c3.1 hz.1 (n := 4) (by decide)).1]
    by_cases q3 : gi fA 14 (lu t) = 3
    · rw [if_pos q3, if_pos q3]
    · rw [if_neg q3, if_neg q3]
      cases fX1_isSort (Int32.ofNat (lu t)) 1 (si x 4 9 (Int32.ofNat (t + 1)))
      · rw [if_neg (by decide), if_neg (by decide)]
      · rw [if_pos rfl, if_pos rfl]
  show ∃ u a', fX2_place rc (Int32.ofNat d) (if f = 0 then 1 else 0) w = _ ∧ _
  rw [h0, flx1_3 h7, h12]
  generalize si x 4 9 (Int32.ofNat (t + 1)) = y at c3
  have hcd : ∀ {b b' : Nat} {g : Wd}, CDC fM fA lu lev (k + 1) 1 n 0 b b' g = (if gi fA 14 (lu t) = 3 then gl g 41 b = wdC 20 (Int32.ofNat lev - (gi fA 17 (lu t) + 1)) 5 ∧ b' = b + 1 else plC fA lev (lu t) b b' g) := fun {b b' g} => by rw [cdc1_3 h7, h12]
  have htp : tyP fM lu cur f n = plT fM cur f (lu t) := by
    unfold tyP
    rw [if_neg n4, h12]
  have h1i := hS.is (tk := t) (x := 1) (by decide) (by decide)
  by_cases q3 : gi fA 14 (lu t) = 3
  · rw [if_pos q3]
    obtain ⟨l0, l1⟩ := (hS.is (tk := t) (x := 3) (by decide) (by decide)).mp q3
    have hnd : notD (lu t) t = [] := by unfold notD; rw [if_neg l0]
    have n1 : ¬ (gi fM 19 (lu t - 1) = 1 ∨ FO fM (lu t - 1) 1) := fun g => absurd (q3.symm.trans (h1i.mpr ⟨l0, g⟩)) (by decide)
    have nm : ¬ (lu t = 0 ∨ gi fM 19 (lu t - 1) = 1 ∨ FO fM (lu t - 1) 1) := fun g => g.elim l0 n1
    have hmis : misS fM (lu t) t = [(t, 4)] := by
      unfold misS
      rw [if_neg (fun g => absurd (q3.symm.trans (hS.is0.mpr (Or.inr g))) (by decide))]
    obtain ⟨f1, f2⟩ := c_formal c3.1 c1
    have hbad : ∃ u a', some ((0 : Int32), fX1_note (Int32.ofNat t) 4 y) = some (0, u) ∧ EC kd wr z fA lu lev pn base ob (t + 1) a a' w u [(t, 4)] (fun b b' g => [((t, 4) : Nat × Int32)] = [] → CDC fM fA lu lev (k + 1) 1 n 0 b b' g) (4 * (wr (t + 1) - wr t) - 1) := by
      refine ⟨_, a, rfl, ((c3.fl' (EC.note c3.1 hz.1 (n := 4) (by decide)).2).wk (fun b b' g _ hL => absurd hL (by simp)) (by omega)).cL (by rw [hnd]; rfl)⟩
    have hwn : fX1_wrong (Int32.ofNat t) 4 y = fX1_note (Int32.ofNat t) 4 y := (EC.note c3.1 hz.1 (n := 4) (by decide)).1
    -- what it is
    have hres : ∀ bo : Bool, fX2_result_44 bo (Int32.ofNat (lu t)) (Int32.ofNat t) (if f = 0 then 1 else 0) (gi fA 17 (lu t) + 1) y = (if f = 0 ∧ bo = true ∧ gi fM 20 (lu t - 1) ≠ 0 then (gi fM 20 (lu t - 1), (fX0_put 20 (Int32.ofNat lev - (gi fA 17 (lu t) + 1)) 5 y).2) else (0, fX1_note (Int32.ofNat t) 4 y)) := fun bo => by
      unfold fX2_result_44
      rw [hwn, ltq]
      by_cases qf : f = 0
      · rw [if_pos qf, if_neg (by decide)]
        cases bo
        · rw [if_neg (by decide), if_neg (fun g => absurd g.2.1 (by decide))]
        · rw [if_pos rfl, ltq, c_type c3.1 c1, hS.ty l0]
          by_cases qt : gi fM 20 (lu t - 1) = 0
          · rw [if_pos qt, if_neg (fun g => g.2.2 qt)]
          · rw [if_neg qt, ltq, lt2q, ltq, if_pos ⟨qf, rfl, qt⟩, show fX5_level y = Int32.ofNat lev from c3.1.2.2.2.2.2.2.2.2.1]
            obtain ⟨u, u1, u2⟩ := EC.put (x := 20) (y := Int32.ofNat lev - (gi fA 17 (lu t) + 1)) (c := 5) c3.1 (by omega)
            rw [u1, c_type u2.1 c1, hS.ty l0]
      · rw [if_neg qf, if_pos rfl, if_neg (fun g => qf g.1)]
    by_cases qP : gi fM 19 (lu t - 1) = 3
    · obtain ⟨lv, k1, k2, k3⟩ := hPN (lu t - 1) (by have := hS.2.1 t; omega) qP
      rw [show lu t - 1 + 1 = lu t by omega] at k1 k3
      have h16 : ¬ gi fA 16 (lu t) = 3 := fun g => by
        have := (hS.sy l0).fml.mp (by rw [show lu t - 1 + 1 = lu t by omega]; exact g)
        exact absurd (qP.symm.trans this.1) (by decide)
      have hpa : (fX5_procedureAt (Int32.ofNat lv + 1) y = Int32.ofNat (lu t)) ↔ (lv + 1 ≤ lev ∧ pn (lv + 1) = Int32.ofNat (lu t)) := by
        have hlev := c3.1.2.2.2.2.2.2.2.2
        unfold fX5_procedureAt
        rw [hlev.1, ad1_iN]
        by_cases q : lv + 1 ≤ lev
        · rw [if_neg (nlt_iN (by omega) (by omega)), ltq, rgi_iN (by omega) (by omega), hlev.2.2.1 (lv + 1) q]
          exact ⟨fun g => ⟨q, g⟩, fun g => g.2⟩
        · rw [if_pos (ylt_iN (by omega) (by omega))]
          exact ⟨fun g => absurd g.symm (of_ne (k := 0) (by omega) (by omega) l0), fun g => absurd g.1 q⟩
      have hrr : fX2_result (Int32.ofNat (lu t)) (Int32.ofNat t) (if f = 0 then 1 else 0) y = fX2_result_44 (decide (inPr fM (gi fM 24 (lu t - 1)) 9000 (Int32.ofNat cur) = true)) (Int32.ofNat (lu t)) (Int32.ofNat t) (if f = 0 then 1 else 0) (gi fA 17 (lu t) + 1) y := by
        unfold fX2_result
        rw [ltq, c_level c3.1 c1, ltq, ltq, f2 h16, if_neg (by decide), ltq, k1]
        by_cases qi : inPr fM (gi fM 24 (lu t - 1)) 9000 (Int32.ofNat cur) = true
        · rw [if_pos (hpa.mpr (k3.mpr qi)), decide_eq_true qi]
        · rw [if_neg (fun g => qi (k3.mp (hpa.mp g))), decide_eq_false qi]
      rw [hrr, hres, htp]
      unfold plT
      rw [if_neg nm, if_neg l0, if_neg n1, hnd, List.nil_append]
      by_cases qg : f = 0 ∧ gi fM 19 (lu t - 1) = 3 ∧ gi fM 20 (lu t - 1) ≠ 0 ∧ inPr fM (gi fM 24 (lu t - 1)) 9000 (Int32.ofNat cur) = true
      · obtain ⟨u, u1, u2⟩ := EC.put (x := 20) (y := Int32.ofNat lev - (gi fA 17 (lu t) + 1)) (c := 5) c3.1 (by omega)
        rw [if_pos qg, if_pos qg, if_pos ⟨qg.1, decide_eq_true qg.2.2.2, qg.2.2.1⟩, u1]
        exact ⟨u, a + 1, rfl, ((c3.fl' u2).wk (fun b b' g hg _ => by rw [hcd, if_pos q3]; exact hg) (by omega)).cL (by rw [hnd]; rfl)⟩
      · rw [if_neg qg, if_neg qg, if_neg (fun g => qg ⟨g.1, qP, g.2.2, of_decide_eq_true g.2.1⟩), hmis]
        exact hbad
    · have hF : FO fM (lu t - 1) 3 := l1.elim (fun g => absurd g qP) id
      have h28 : gi fM 28 (lu t - 1) = 0 := by
        by_cases q28 : gi fM 28 (lu t - 1) = 0
        · exact q28
        · exact absurd (hF.2.symm.trans ((hS.sy l0).val hF.1 q28)) (by decide)
      have h16 : gi fA 16 (lu t) = 3 := by
        have := (hS.sy l0).fml.mpr ⟨hF.1, h28⟩
        rw [show lu t - 1 + 1 = lu t by omega] at this
        exact this
      have hrr : fX2_result (Int32.ofNat (lu t)) (Int32.ofNat t) (if f = 0 then 1 else 0) y = fX2_result_44 false (Int32.ofNat (lu t)) (Int32.ofNat t) (if f = 0 then 1 else 0) (gi fA 17 (lu t) + 1) y := by
        unfold fX2_result
        rw [ltq, c_level c3.1 c1, ltq, ltq, f1 h16, if_pos rfl]
      have qg : ¬ (f = 0 ∧ gi fM 19 (lu t - 1) = 3 ∧ gi fM 20 (lu t - 1) ≠ 0 ∧ inPr fM (gi fM 24 (lu t - 1)) 9000 (Int32.ofNat cur) = true) := fun g => qP g.2.1
      rw [hrr, hres, htp]
      unfold plT
      rw [if_neg nm, if_neg l0, if_neg n1, hnd, List.nil_append, if_neg qg, if_neg qg, if_neg (fun g => absurd g.2.1 (by decide)), hmis]
      exact hbad
  · rw [if_neg q3]
    -- a VARIABLE
    have h99 : ∀ {v : Wd} {L1 : List (Nat × Int32)}, EC kd wr z fA lu lev pn base ob (t + 1) a a w v L1 (fun b b' _ => b' = b) 0 → ∃ u a', fX2_place_99 rc (Int32.ofNat (lu t)) v = some (if gi fA 14 (lu t) = 1 then gi fA 15 (lu t) else 0, u) ∧ EC kd wr z fA lu lev pn base ob (t + 1) a a' w u L1 (fun b b' g => L1 = [] → CDC fM fA lu lev (k + 1) 1 n 0 b b' g) (4 * (wr (t + 1) - wr t) - 1) := by
      intro v L1 hv
      obtain ⟨f1, f2⟩ := c_formal hv.1 c1
      rw [pl_99e, c_hops hv.1 c1, c_slot hv.1 c1]
      by_cases q : gi fA 16 (lu t) = 3
      · have hu := c_use (md := 1) hv.1 c1 (by omega)
        rw [f1 q, if_pos rfl, c_typeIf hu.1 c1]
        exact ⟨_, a + 2, rfl, ((hv.fl' hu).wk (fun b b' g hg _ => by rw [hcd, if_neg q3]; exact Or.inl ⟨q, hg⟩) (by omega)).cL (List.append_nil _).symm⟩
      · obtain ⟨u, u1, u2⟩ := EC.put (x := 20) (y := hpC fA lev (lu t)) (c := gi fA 18 (lu t)) hv.1 (by omega)
        rw [f2 q, if_neg (by decide), u1, c_typeIf u2.1 c1]
        exact ⟨_, a + 1, rfl, ((hv.fl' u2).wk (fun b b' g hg _ => by rw [hcd, if_neg q3]; exact Or.inr ⟨q, hg⟩) (by omega)).cL (List.append_nil _).symm⟩
    have n3 : lu t ≠ 0 → ¬ (gi fM 19 (lu t - 1) = 3 ∨ FO fM (lu t - 1) 3) := fun l0 g => q3 ((hS.is (by decide) (by decide)).mpr ⟨l0, g⟩)
    have hL : notD (lu t) t ++ (if lu t = 0 ∨ gi fM 19 (lu t - 1) = 1 ∨ FO fM (lu t - 1) 1 then [] else if f = 0 ∧ gi fM 19 (lu t - 1) = 3 ∧ gi fM 20 (lu t - 1) ≠ 0 ∧ inPr fM (gi fM 24 (lu t - 1)) 9000 (Int32.ofNat cur) = true then [] else misS fM (lu t) t) = notD (lu t) t ++ srE fA 1 (lu t) t := by
      rw [hS.sre (by decide) (by decide)]
      by_cases l0 : lu t = 0
      · rw [if_pos (Or.inl l0), if_pos l0]
      · rw [if_neg l0]
        by_cases q1 : gi fM 19 (lu t - 1) = 1 ∨ FO fM (lu t - 1) 1
        · rw [if_pos (Or.inr q1), if_pos q1]
        · rw [if_neg (fun g => g.elim l0 q1), if_neg q1, if_neg (fun g => n3 l0 (Or.inl g.2.1))]
    have hX : (if gi fA 14 (lu t) = 1 then gi fA 15 (lu t) else 0) = tyP fM lu cur f n := by
      rw [htp]
      unfold plT
      by_cases l0 : lu t = 0
      · rw [if_pos l0, if_neg (fun g => absurd l0 (h1i.mp g).1)]
      · rw [if_neg l0]
        by_cases q1 : gi fM 19 (lu t - 1) = 1 ∨ FO fM (lu t - 1) 1
        · rw [if_pos q1, if_pos (h1i.mpr ⟨l0, q1⟩), hS.ty l0]
        · rw [if_neg q1, if_neg (fun g => q1 (h1i.mp g).2), if_neg (fun g => n3 l0 (Or.inl g.2.1))]
    rw [hL, ← hX]
    obtain ⟨s1, s2⟩ := c_isSort c3.1 c1 (x := 1)
    unfold srE
    by_cases q : gi fA 14 (lu t) = 1 ∨ gi fA 14 (lu t) = 0
    · rw [s1 q, if_pos rfl, if_pos q, List.append_nil]
      exact h99 c3
    · rw [s2 q, if_neg (by decide), if_neg q]
      exact h99 (c3.fl' (EC.note c3.1 hz.1 (n := 4) (by decide)).2)
end EC
