/-! PASS 2, THE CLASS: AIMS -/
section FL
variable {fM fA : Wd} {lu : Nat → Nat} {cur lev k n f l t : Nat}
theorem flx2_9 (h : gi fM 7 n = 9) : FLX fM lu cur (k + 1) 2 n f = FLX fM lu cur k 2 (nd fM 8 n) 0 := by
  rw [FLX]
  dsimp only
  rw [if_neg (by decide), if_neg (by decide), if_pos rfl, if_pos h]
theorem flx2_8 (h : gi fM 7 n = 8) : FLX fM lu cur (k + 1) 2 n f = (FLX fM lu cur k 0 (nd fM 8 n) 0 ++ misT (TYX fM lu k (nd fM 8 n)) 2 (nd fM 12 (nd fM 8 n))) ++ FLX fM lu cur k 2 (nd fM 9 n) 0 ++ FLX fM lu cur k 2 (nd fM 10 n) 0 := by
  rw [FLX]
  dsimp only
  rw [if_neg (by decide), if_neg (by decide), if_pos rfl, if_neg (by rw [h]; decide), if_pos h]
theorem flx2_3 (h : gi fM 7 n = 3) : FLX fM lu cur (k + 1) 2 n f = notD (lu (nd fM 12 n)) (nd fM 12 n) ++ (if lu (nd fM 12 n) = 0 ∨ gi fM 19 (lu (nd fM 12 n) - 1) = 4 ∨ FO fM (lu (nd fM 12 n) - 1) 4 then [] else misS fM (lu (nd fM 12 n)) (nd fM 12 n)) := by
  rw [FLX]
  dsimp only
  rw [if_neg (by decide), if_neg (by decide), if_pos rfl, if_neg (by rw [h]; decide), if_neg (by rw [h]; decide), if_pos h]
theorem flx2_4 (h : gi fM 7 n = 4) (h9 : gi fM 9 n = 1) : FLX fM lu cur (k + 1) 2 n f = notD (lu (nd fM 12 n)) (nd fM 12 n) ++ (FLX fM lu cur k 0 (nd fM 8 n) 0 ++ misT (TYX fM lu k (nd fM 8 n)) 1 (nd fM 12 (nd fM 8 n))) ++ (if lu (nd fM 12 n) = 0 ∨ gi fM 19 (lu (nd fM 12 n) - 1) = 5 ∨ FO fM (lu (nd fM 12 n) - 1) 5 then [] else misS fM (lu (nd fM 12 n)) (nd fM 12 n)) := by
  rw [FLX]
  dsimp only
  rw [if_neg (by decide), if_neg (by decide), if_pos rfl, if_neg (by rw [h]; decide), if_neg (by rw [h]; decide), if_neg (by rw [h]; decide), if_pos ⟨h, h9⟩]
theorem flx2_o (h9 : gi fM 7 n ≠ 9) (h8 : gi fM 7 n ≠ 8) (h3 : gi fM 7 n ≠ 3) (h4 : ¬ (gi fM 7 n = 4 ∧ gi fM 9 n = 1)) : FLX fM lu cur (k + 1) 2 n f = [(nd fM 12 n, 4)] ++ FLX fM lu cur k 4 n 0 := by
  rw [FLX]
  dsimp only
  rw [if_neg (by decide), if_neg (by decide), if_pos rfl, if_neg h9, if_neg h8, if_neg h3, if_neg h4]
theorem flx3_9 (h : gi fM 7 n = 9) : FLX fM lu cur (k + 1) 3 n f = FLX fM lu cur k 3 (nd fM 8 n) 0 := by
  rw [FLX]
  dsimp only
  rw [if_neg (by decide), if_neg (by decide), if_neg (by decide), if_pos rfl, if_pos h]
theorem flx3_8 (h : gi fM 7 n = 8) : FLX fM lu cur (k + 1) 3 n f = (FLX fM lu cur k 0 (nd fM 8 n) 0 ++ misT (TYX fM lu k (nd fM 8 n)) 2 (nd fM 12 (nd fM 8 n))) ++ FLX fM lu cur k 3 (nd fM 9 n) 0 ++ FLX fM lu cur k 3 (nd fM 10 n) 0 := by
  rw [FLX]
  dsimp only
  rw [if_neg (by decide), if_neg (by decide), if_neg (by decide), if_pos rfl, if_neg (by rw [h]; decide), if_pos h]
theorem flx3_o (h9 : gi fM 7 n ≠ 9) (h8 : gi fM 7 n ≠ 8) : FLX fM lu cur (k + 1) 3 n f = notD (lu (nd fM 12 n)) (nd fM 12 n) ++ (if gi fM 7 n = 4 then FLX fM lu cur k 0 (nd fM 8 n) 0 ++ misT (TYX fM lu k (nd fM 8 n)) 1 (nd fM 12 (nd fM 8 n)) else []) := by
  rw [FLX]
  dsimp only
  rw [if_neg (by decide), if_neg (by decide), if_neg (by decide), if_pos rfl, if_neg h9, if_neg h8]
theorem flx0_8 (h : gi fM 7 n = 8) : FLX fM lu cur (k + 1) 0 n f = (FLX fM lu cur k 0 (nd fM 8 n) 0 ++ misT (TYX fM lu k (nd fM 8 n)) 2 (nd fM 12 (nd fM 8 n))) ++ FLX fM lu cur k 0 (nd fM 9 n) 0 ++ FLX fM lu cur k 0 (nd fM 10 n) 0 ++ (if TYX fM lu k (nd fM 9 n) ≠ 0 then misT (TYX fM lu k (nd fM 10 n)) (TYX fM lu k (nd fM 9 n)) (nd fM 12 (nd fM 10 n)) else []) := by
  rw [FLX]
  dsimp only
  rw [if_pos rfl, if_neg (by rw [h]; decide), if_neg (by rw [h]; decide), if_neg (by rw [h]; decide), if_neg (by rw [h]; decide), if_neg (by rw [h]; decide), if_pos h]
theorem cdc2_9 (h : gi fM 7 n = 9) {b b' : Nat} {g : Wd} : CDC fM fA lu lev (k + 1) 2 n f b b' g = CDC fM fA lu lev k 2 (nd fM 8 n) 0 b b' g := by
  rw [CDC]
  dsimp only
  rw [if_neg (by decide), if_neg (by decide), if_pos rfl, if_pos h]
theorem cdc2_8 (h : gi fM 7 n = 8) {b b' : Nat} {g : Wd} : CDC fM fA lu lev (k + 1) 2 n f b b' g = ∃ b1 b2, CDC fM fA lu lev k 0 (nd fM 8 n) 0 b b1 g ∧ gl g 41 b1 = jwC 34 (b2 + 1) ∧ CDC fM fA lu lev k 2 (nd fM 9 n) 0 (b1 + 1) b2 g ∧ gl g 41 b2 = jwC 33 b' ∧ CDC fM fA lu lev k 2 (nd fM 10 n) 0 (b2 + 1) b' g := by
  rw [CDC]
  dsimp only
  rw [if_neg (by decide), if_neg (by decide), if_pos rfl, if_neg (by rw [h]; decide), if_pos h]
theorem cdc0_8 (h : gi fM 7 n = 8) {b b' : Nat} {g : Wd} : CDC fM fA lu lev (k + 1) 0 n f b b' g = ∃ b1 b2, CDC fM fA lu lev k 0 (nd fM 8 n) 0 b b1 g ∧ gl g 41 b1 = jwC 34 (b2 + 1) ∧ CDC fM fA lu lev k 0 (nd fM 9 n) 0 (b1 + 1) b2 g ∧ gl g 41 b2 = jwC 33 b' ∧ CDC fM fA lu lev k 0 (nd fM 10 n) 0 (b2 + 1) b' g := by
  rw [CDC]
  dsimp only
  rw [if_pos rfl, if_neg (by rw [h]; decide), if_neg (by rw [h]; decide), if_neg (by rw [h]; decide), if_neg (by rw [h]; decide), if_neg (by rw [h]; decide), if_neg (by rw [h]; decide), if_pos h]
theorem cdc2_3 (h : gi fM 7 n = 3) {b b' : Nat} {g : Wd} : CDC fM fA lu lev (k + 1) 2 n f b b' g = ∃ b1, puC fA lev (lu (nd fM 12 n)) b b1 g ∧ (gi fA 16 (lu (nd fM 12 n)) = 3 ∧ gl g 41 b1 = wdC 44 0 2 ∧ b' = b1 + 1 ∨ gi fA 16 (lu (nd fM 12 n)) ≠ 3 ∧ b' = b1) := by
  rw [CDC]
  dsimp only
  rw [if_neg (by decide), if_neg (by decide), if_pos rfl, if_neg (by rw [h]; decide), if_neg (by rw [h]; decide), if_pos h]
theorem cdc2_4 (h : gi fM 7 n = 4) {b b' : Nat} {g : Wd} : CDC fM fA lu lev (k + 1) 2 n f b b' g = ∃ b1 b2, CDC fM fA lu lev k 0 (nd fM 8 n) 0 b b1 g ∧ puC fA lev (lu (nd fM 12 n)) b1 b2 g ∧ gl g 41 b2 = wdC 49 0 0 ∧ b' = b2 + 1 := by
  rw [CDC]
  dsimp only
  rw [if_neg (by decide), if_neg (by decide), if_pos rfl, if_neg (by rw [h]; decide), if_neg (by rw [h]; decide), if_neg (by rw [h]; decide)]
end FL
section EC
variable {kd wr : Nat → Nat} {z : Nat} {fA fM : Wd} {lu : Nat → Nat} {lev cur : Nat} {pn : Nat → Int32} {base ob t t1 t2 t3 a a1 a2 a3 n s e d f l m : Nat} {w w1 w2 w3 w4 u v : Wd} {L L1 L2 L3 : List (Nat × Int32)} {P P1 P2 P3 : Nat → Nat → Wd → Prop} {B B1 B2 B3 : Nat} {C TK : Nat → Nat}
/-- the end of a NAME that may be an AIM -/
theorem c_112 {rc : TX2_typed} {bo : Bool} (h : EC kd wr z fA lu lev pn base ob t a a1 w u L P B) (hl : l ≤ 4100) (ha : a1 + 1 < 36872) : ∃ v a', fX2_designated_112 rc (Int32.ofNat l) bo u = some (0, v) ∧ EC kd wr z fA lu lev pn base ob t a a' w v L (fun b b' g => ∃ b1, P b b1 g ∧ ∃ b2, puC fA lev l b1 b2 g ∧ (bo = true ∧ gl g 41 b2 = wdC 49 0 0 ∧ b' = b2 + 1 ∨ bo = false ∧ (gi fA 16 l = 3 ∧ gl g 41 b2 = wdC 44 0 2 ∧ b' = b2 + 1 ∨ gi fA 16 l ≠ 3 ∧ b' = b2))) (B + 2) := by
  have p1 := c_putSymbol h.1 hl (by omega)
  have hp := h.seq p1
  unfold fX2_designated_112
  rw [ltq]
  cases bo
  · rw [if_neg (by decide), ltq]
    obtain ⟨f1, f2⟩ := c_formal p1.1 hl
    by_cases q : gi fA 16 l = 3
    · obtain ⟨v, v1, v2⟩ := EC.put2 (x := 44) (c := 2) p1.1 (by omega)
      rw [f1 q, if_pos rfl, v1, lt2q]
      exact ⟨v, a1 + 1 + 1, rfl, ((hp.seq v2).wk (fun b b' g ⟨b2, ⟨b1, c1, c2⟩, c3, c4⟩ => ⟨b1, c1, b2, c2, Or.inr ⟨rfl, Or.inl ⟨q, c3, c4⟩⟩⟩) (by omega)).cL (by simp)⟩
    · rw [f2 q, if_neg (by decide)]
      exact ⟨_, a1 + 1, rfl, (hp.wk (fun b b' g ⟨b1, c1, c2⟩ => ⟨b1, c1, b', c2, Or.inr ⟨rfl, Or.inr ⟨q, rfl⟩⟩⟩) (by omega)).cL (by simp)⟩
  · obtain ⟨v, v1, v2⟩ := EC.put1 (x := 49) p1.1 (by omega)
    rw [if_pos rfl, v1, lt2q]
    exact ⟨v, a1 + 1 + 1, rfl, ((hp.seq v2).wk (fun b b' g ⟨b2, ⟨b1, c1, c2⟩, c3, c4⟩ => ⟨b1, c1, b2, c2, Or.inl ⟨rfl, c3, c4⟩⟩) (by omega)).cL (by simp)⟩
/-- whether its SORT is right -/
theorem c_77 {rc : TX2_typed} {bo : Bool} {st : Nat} (hst : st ≤ 1) (h : EC kd wr z fA lu lev pn base ob t a a1 w u L P B) (hl : l ≤ 4100) (hs : s < z) (ha : a1 + 1 < 36872) : ∃ v a', fX2_designated_77 rc (Int32.ofNat st) (Int32.ofNat s) (Int32.ofNat l) bo u = some (0, v) ∧ EC kd wr z fA lu lev pn base ob t a a' w v (L ++ (if st = 0 then [] else srE fA (if bo = true then 5 else 4) l s)) (fun b b' g => ∃ b1, P b b1 g ∧ ∃ b2, puC fA lev l b1 b2 g ∧ (bo = true ∧ gl g 41 b2 = wdC 49 0 0 ∧ b' = b2 + 1 ∨ bo = false ∧ (gi fA 16 l = 3 ∧ gl g 41 b2 = wdC 44 0 2 ∧ b' = b2 + 1 ∨ gi fA 16 l ≠ 3 ∧ b' = b2))) (B + 2) := by
  unfold fX2_designated_77
  by_cases q0 : st = 0
  · rw [if_pos (show Int32.ofNat st = 0 by rw [q0]; rfl), if_pos q0, List.append_nil]
    exact c_112 h hl ha
  · rw [if_neg (show ¬ (Int32.ofNat st = 0) from of_ne (k := 0) (by omega) (by omega) q0), if_neg q0]
    have h97 : ∀ x : Int32, ∃ v a', fX2_designated_97 rc (Int32.ofNat l) x (Int32.ofNat s) (Int32.ofNat l) bo u = some (0, v) ∧ EC kd wr z fA lu lev pn base ob t a a' w v (L ++ srE fA x l s) (fun b b' g => ∃ b1, P b b1 g ∧ ∃ b2, puC fA lev l b1 b2 g ∧ (bo = true ∧ gl g 41 b2 = wdC 49 0 0 ∧ b' = b2 + 1 ∨ bo = false ∧ (gi fA 16 l = 3 ∧ gl g 41 b2 = wdC 44 0 2 ∧ b' = b2 + 1 ∨ gi fA 16 l ≠ 3 ∧ b' = b2))) (B + 2) := fun x => by
      obtain ⟨s1, s2⟩ := c_isSort h.1 hl (x := x)
      unfold fX2_designated_97 srE
      rw [ltq]
      by_cases q : gi fA 14 l = x ∨ gi fA 14 l = 0
      · rw [s1 q, if_pos rfl, if_pos q, List.append_nil]
        exact c_112 h hl ha
      · obtain ⟨m1, m2⟩ := EC.note h.1 hs (n := 4) (by decide)
        rw [s2 q, if_neg (by decide), if_neg q, m1, ltq]
        exact c_112 ((h.seq m2).wk (fun b b' g ⟨b1, g1, g2⟩ => by rw [g2]; exact g1) (by omega)) hl ha
    cases bo
    · rw [if_neg (by decide), if_neg (by decide)]
      exact h97 4
    · rw [if_pos rfl, if_pos rfl]
      exact h97 5
theorem c_desig {rc : TX2_typed} {st : Nat} {X : Int32} (hst : st ≤ 1) (hk : kd t = 2) (he : kd (t + 1) ≠ 45 ∧ e = t + 1 ∧ L = [] ∧ B = 0 ∨ kd (t + 1) = 45 ∧ d < 40 ∧ ∃ e1, e = e1 + 1 ∧ e1 < z ∧ kd e1 = 46 ∧ SPE kd wr z fA lu lev pn (d + 1) (t + 2) e1 X L P B (fun w => rc 0 (Int32.ofNat (d + 1)) 1 0 w)) :
    SPE kd wr z fA lu lev pn d t e 0 (notD (lu t) t ++ L ++ (if st = 0 then [] else srE fA (if kd (t + 1) = 45 then 5 else 4) (lu t) t)) (fun b b' g => ∃ b1, (kd (t + 1) = 45 ∧ P b b1 g ∨ kd (t + 1) ≠ 45 ∧ b1 = b) ∧ ∃ b2, puC fA lev (lu t) b1 b2 g ∧ (kd (t + 1) = 45 ∧ gl g 41 b2 = wdC 49 0 0 ∧ b' = b2 + 1 ∨ kd (t + 1) ≠ 45 ∧ (gi fA 16 (lu t) = 3 ∧ gl g 41 b2 = wdC 44 0 2 ∧ b' = b2 + 1 ∨ gi fA 16 (lu t) ≠ 3 ∧ b' = b2))) (B + 2) (fun w => fX2_designated rc (Int32.ofNat d) (Int32.ofNat st) w) := by
  intro w a base ob hw hb ho ha
  have hz := hw.a_lt
  obtain ⟨c1, x, c2, y7, _, c3⟩ := c_nm hw hk
  have hk50 := c3.1.1.2.2.1 (t + 1)
  show ∃ u a', fX2_designated rc (Int32.ofNat d) (Int32.ofNat st) w = some (0, u) ∧ _
  unfold fX2_designated
  rw [ltq, a_at hw.1, c2, lt2q, y7, lt2q, ltq, a_kind c3.1.1]
  generalize si x 4 9 (Int32.ofNat (t + 1)) = y at c3
  rcases he with ⟨q, h1, h2, h3⟩ | ⟨q, hd, e1, h1, h2, h3, h4⟩
  · rw [if_neg (show ¬ (Int32.ofNat (kd (t + 1)) = 45) from of_ne (k := 45) (by omega) (by omega) q), if_neg q, h1, h2, h3]
    unfold fX2_designated_44
    rw [if_neg (by decide)]
    obtain ⟨v, a', v1, v2⟩ := c_77 (rc := rc) (bo := false) hst c3 c1 hz.1 (by omega)
    rw [if_neg (show ¬ (false = true) by decide)] at v2
    exact ⟨v, a', v1, (v2.wk (fun b b' g ⟨b1, g1, b2, g2, g3⟩ => ⟨b1, Or.inr ⟨q, g1⟩, b2, g2, g3.elim (fun g => absurd g.1 (by decide)) (fun g => Or.inr ⟨q, g.2⟩)⟩) (by omega)).cL (by simp)⟩
  · rw [if_pos (show Int32.ofNat (kd (t + 1)) = 45 by rw [q]; rfl), if_pos q, h1]
    obtain ⟨o1, o2⟩ := EC.opn c3.1 (d := d) (by omega) (by omega) hd
    obtain ⟨u, a1, u1, u2⟩ := h4 _ a base ob o2.1 (by omega) (by omega) (by omega)
    have hb2 := u2.b
    obtain ⟨n1, n2⟩ := EC.need u2.1 h3 (by omega)
    obtain ⟨v, a', v1, v2⟩ := c_77 (rc := rc) (bo := true) hst (c3.fl' (o2.fl' (u2.seq n2))) c1 hz.1 (by omega)
    rw [if_pos (show true = true from rfl)] at v2
    refine ⟨v, a', ?_, (v2.wk (fun b b' g hg => ?_) (by omega)).cL ?_⟩
    · unfold fX2_designated_44
      have u1' : rc 0 (Int32.ofNat (d + 1)) 1 0 (si y 4 9 (Int32.ofNat (t + 1 + 1))) = some (X, u) := u1
      rw [if_pos rfl, o1, lt2q, u1', bn2_so, ltq, show (46 : Int32) = Int32.ofNat 46 from rfl, n1]
      exact v1
    · obtain ⟨b1, ⟨b9, k1, k2⟩, b2, g2, g3⟩ := hg
      exact ⟨b1, Or.inl ⟨q, by rw [k2]; exact k1⟩, b2, g2, g3.elim (fun g => Or.inl ⟨q, g.2⟩) (fun g => absurd g.1 (by decide))⟩
    · rw [List.append_nil, List.nil_append]
end EC
