/-! PASS 2, THE REFERENCE: a NAME, EXPRS in a row, an ELEMENT -/
section SG
variable {kd wr nm : Nat → Nat} {vv : Nat → Int64} {m lev cur sp : Nat} {fA fM : Wd} {c c1 c2 C TK : Nat → Nat} {SL : Nat → List Nat} {w u v : Wd} {L L1 L2 : List (Nat × Int32)} {P P1 P2 : Nat → Nat → Wd → Prop} {a0 a1 a2 a3 b0 b1 b2 b3 : Nat} {lu : Nat → Nat}
theorem vs_name (hT : TBM kd wr nm vv m C TK SL fA fM) {k N n tk : Nat} {stk : List Nat} (hU : UPM (C 2) fM stk) (hl : stk.length < 9000) (hn : n < 24000) (h7 : gi fM 7 n = 3) (h12 : gi fM 12 n = Int32.ofNat tk) (h13 : gi fM 13 n = hdM stk) (ht : tk < m) (hk : kd tk = 2) : VS kd wr m fM (luN nm TK SL stk) lev cur (k + 1) (N + 1) n 1 := by
  intro c sp w h hf
  unfold FIT at hf
  have hm := h.1.1.1
  obtain ⟨e1, e2, e3, e4⟩ := v_eq (N := N) (s := 3) h hn h7 (by omega)
  obtain ⟨u, c', u1, u2⟩ := g_named hT h hU hl hn h12 h13 ht hk (by omega) (by omega)
  have n1 : ¬ gi fM 7 n = 1 := by rw [h7]; decide
  have n2 : ¬ gi fM 7 n = 2 := by rw [h7]; decide
  have n9 : ¬ gi fM 7 n = 9 := by rw [h7]; decide
  have et : nd fM 12 n = tk := by
    unfold nd
    rw [h12, tc_iN (by omega)]
  have hty : TYX fM (luN nm TK SL stk) (k + 1) n = tyY fM (luN nm TK SL stk tk) := by
    rw [TYX, if_neg n1, if_neg n2, if_neg n9, if_pos h7, et]
  have hfl : FLX fM (luN nm TK SL stk) cur (k + 1) 0 n 0 = flY fM (luN nm TK SL stk tk) tk := by
    rw [FLX]
    dsimp only
    rw [if_pos rfl, if_neg (fun g => g.elim n1 n2), if_neg n9, if_pos h7, et]
  refine ⟨u, c', ?_, ?_⟩
  · rw [e1, hty]
    unfold fX12_value
    rw [if_pos e3, e4, e2, ltq, if_neg (show ¬ (Int32.ofNat 3 = 1) by decide), if_neg (show ¬ (Int32.ofNat 3 = 2) by decide), if_pos (show Int32.ofNat 3 = 3 from rfl), u1]
    rfl
  · rw [hfl]
    refine u2.wk (fun b b' g hg _ => ?_) (by omega)
    rw [CDM]
    dsimp only
    rw [if_pos rfl, if_neg n1, if_neg n2, if_neg n9, if_pos h7, et]
    exact hg
/-- nodes in a row, from x on -/
def nxC (fM : Wd) : List Nat → Int32 → Prop
  | [], x => x = -1
  | a :: r, x => x = Int32.ofNat a ∧ a < 24000 ∧ nxC fM r (gi fM 11 a)
theorem nxL_eq : ∀ (xs : List Nat) (k : Nat) (x : Int32), nxC fM xs x → xs.length ≤ k → nxL fM k x = xs := by
  intro xs
  induction xs with
  | nil =>
    intro k x h _
    have h : x = -1 := h
    cases k with
    | zero => rfl
    | succ k =>
      unfold nxL
      rw [h, if_pos (by decide)]
  | cons a r ih =>
    intro k x h hk
    obtain ⟨h1, h2, h3⟩ := h
    obtain ⟨k', rfl⟩ : ∃ k', k = k' + 1 := ⟨k - 1, by have : (a :: r).length = r.length + 1 := rfl; omega⟩
    unfold nxL
    rw [h1, if_neg (nlt0 (by omega)), tc_iN (by omega), ih k' _ h3 (by have : (a :: r).length = r.length + 1 := rfl; omega)]
/-- what's told of an EXPR in a row: node, TOKENS -/
def RWN (kd wr : Nat → Nat) (m : Nat) (fM : Wd) (lu : Nat → Nat) (lev cur k N : Nat) (p : Nat × Nat) : Prop := VS kd wr m fM lu lev cur k N p.1 p.2 ∧ (∃ tk, gi fM 12 p.1 = Int32.ofNat tk ∧ tk ≤ m) ∧ 1 ≤ p.2
/-- TOKENS of a row, each with one behind -/
def smT : List (Nat × Nat) → Nat
  | [] => 0
  | p :: r => p.2 + 1 + smT r
theorem el_row {k N n : Nat} {x1 : Int32} : ∀ (ps : List (Nat × Nat)), (∀ p ∈ ps, RWN kd wr m fM lu lev cur k N p) → ∀ (x : Int32) (c : Nat → Nat) (w : Wd) (fo i : Nat), nxC fM (ps.map Prod.fst) x → GCS kd wr m fM lev cur c sp w → FIT c sp (smT ps) →
    ∃ u c', oX12_element_13 (RX12_mustBe (N + 1)) (fo + ps.length + 1) (Int32.ofNat n) x1 x w = oX12_element_13 (RX12_mustBe (N + 1)) (fo + 1) (Int32.ofNat n) x1 (-1) u ∧ EM kd wr m fM lev cur sp c c' w u ((ps.map Prod.fst).flatMap (fun x => FLX fM lu cur k 0 x 0 ++ misT (TYX fM lu k x) 1 (nd fM 12 x))) (fun b b' g => (ps.map Prod.fst).flatMap (fun x => FLX fM lu cur k 0 x 0 ++ misT (TYX fM lu k x) 1 (nd fM 12 x)) = [] → rwM (fun x _ b b' => CDM fM lu lev k 0 x 0 0 b b' g) (ps.map Prod.fst) i b b') (2 * smT ps - 3 * ps.length) (smT ps / 2) (smT ps / 2) (smT ps / 2) := by
  intro ps
  induction ps with
  | nil =>
    intro _ x c w fo i hx h hf
    have hx : x = -1 := hx
    refine ⟨w, c, by rw [hx]; rfl, (EM.no h).wk (fun b b' g hg _ => hg) (by omega)⟩
  | cons p r ih =>
    intro hp x c w fo i hx h hf
    obtain ⟨hx1, hx2, hx3⟩ : x = Int32.ofNat p.1 ∧ p.1 < 24000 ∧ nxC fM (r.map Prod.fst) (gi fM 11 p.1) := hx
    obtain ⟨hV, ⟨tk, ht1, ht2⟩, hT1⟩ := hp p List.mem_cons_self
    have hsm : smT (p :: r) = p.2 + 1 + smT r := rfl
    have hlen : (p :: r).length = r.length + 1 := rfl
    unfold FIT at hf
    rw [hsm] at hf
    obtain ⟨u1, d1, z1, z2⟩ := g_mb hV h (by unfold FIT; omega) hx2 ht1 ht2 (ty := 1)
    have hb := z2.2.2.2.2.2.2.1
    obtain ⟨u, c', y1, y2⟩ := ih (fun q hq => hp q (List.mem_cons_of_mem _ hq)) (gi fM 11 p.1) d1 u1 fo (i + 1) hx3 z2.1 (by unfold FIT; omega)
    refine ⟨u, c', ?_, ((z2.seq y2).fls (by simp only [List.map_cons, List.flatMap_cons])).wk (fun b b' g hg hnil => ?_) ?_⟩
    · rw [hx1, hlen, show fo + (r.length + 1) + 1 = (fo + r.length + 1) + 1 by omega]
      show fX12_element_13 (RX12_mustBe (N + 1)) (oX12_element_13 (RX12_mustBe (N + 1)) (fo + r.length + 1)) (Int32.ofNat n) x1 (Int32.ofNat p.1) w = _
      unfold fX12_element_13
      rw [if_neg (nlt0 (by omega)), z1, bn2_so, if_pos (inb_iN hx2 (by omega)), tc_iN (by omega), (z2.1.fx (k := 11) (by unfold PGM PGX; omega)).1, ltq]
      exact y1
    · simp only [List.map_cons, List.flatMap_cons] at hnil
      obtain ⟨m1, m2⟩ := List.append_eq_nil_iff.mp hnil
      obtain ⟨b1, g1, g2⟩ := hg
      exact ⟨b1, g1 (List.append_eq_nil_iff.mp m1).1, g2 m2⟩
    · have hsl : ∀ ps : List (Nat × Nat), (∀ p ∈ ps, RWN kd wr m fM lu lev cur k N p) → 2 * ps.length ≤ smT ps := by
        intro ps
        induction ps with
        | nil => exact fun _ => Nat.le_refl _
        | cons q r ih =>
          intro h
          have h1 := (h q List.mem_cons_self).2.2
          have h2 := ih (fun q hq => h q (List.mem_cons_of_mem _ hq))
          show 2 * (r.length + 1) ≤ q.2 + 1 + smT r
          omega
      have := hsl r (fun q hq => hp q (List.mem_cons_of_mem _ hq))
      rw [hsm, hlen]
      omega
/-- the end of an ELEMENT: its ARRAY -/
theorem el_fin (hT : TBM kd wr nm vv m C TK SL fA fM) (h : GCS kd wr m fM lev cur c sp w) {N n tk l fo : Nat} (hn : n < 24000) (h12 : gi fM 12 n = Int32.ofNat tk) (ht : tk ≤ m) (hl : l ≤ C 1) (hc0 : c 0 < 60000) :
    ∃ u c', oX12_element_13 (RX12_mustBe N) (fo + 1) (Int32.ofNat n) (if l = 0 then -1 else Int32.ofNat (l - 1)) (-1) w = some (tyE fM l, u) ∧ EM kd wr m fM lev cur sp c c' w u (if l = 0 then [] else if gi fM 19 (l - 1) = 2 ∨ FO fM (l - 1) 2 then (if (gi fM 19 (l - 1) = 2 ∧ gi fM 24 (l - 1) ≠ gi fM 9 n) ∨ (FO fM (l - 1) 2 ∧ ¬ gi fM 9 n ≤ 3) then [(tk, 5)] else []) else misS fM l tk) (fun b b' g => l ≠ 0 → (gi fM 19 (l - 1) = 2 ∨ FO fM (l - 1) 2 ∨ FO fM (l - 1) 0) → cdE fM lev l n b b' g) 1 0 0 0 := by
  have hC := hT.2.2.2.1
  have e : ∀ v {c'}, GCS kd wr m fM lev cur c' sp v → ∀ k j, (7 ≤ k ∧ k ≤ 32) → gi v k j = gi fM k j := fun v c' hv k j hk => (hv.fx (by unfold PGM PGX; omega)).1
  show ∃ u c', fX12_element_13 (RX12_mustBe N) (oX12_element_13 (RX12_mustBe N) fo) (Int32.ofNat n) (if l = 0 then -1 else Int32.ofNat (l - 1)) (-1) w = some (tyE fM l, u) ∧ _
  unfold fX12_element_13
  rw [if_pos (show (-1 : Int32) < 0 by decide)]
  by_cases q0 : l = 0
  · rw [if_pos q0, if_neg (by decide), if_pos q0]
    refine ⟨w, c, ?_, (EM.no h).wk (fun b b' g _ hl0 => absurd q0 hl0) (by omega)⟩
    unfold tyE
    rw [if_pos q0]
  · obtain ⟨y, rfl⟩ : ∃ y, l = y + 1 := ⟨l - 1, by omega⟩
    have ey : y + 1 - 1 = y := by omega
    obtain ⟨s1, s2, s3, s4, s5, s6, s7, ⟨p, lp, q1, q2, q3, q4⟩, s9⟩ := hT.2.2.2.2.2.2 y (by omega)
    have hup : ∀ v {c'}, GCS kd wr m fM lev cur c' sp v → fX12_up (Int32.ofNat y) v = some (upI fM lev y, v) := fun v c' hv => g_up hv (by omega) q1 (by omega)
    have hy5 : inb (Int32.ofNat y) 5000 = true := inb_iN (by omega) (by omega)
    have hyc : (Int32.ofNat y).toNatClampNeg = y := tc_iN (by omega)
    have hnb : inb (Int32.ofNat n) 24000 = true := inb_iN hn (by omega)
    have hnc : (Int32.ofNat n).toNatClampNeg = n := tc_iN (by omega)
    rw [if_neg q0, if_neg q0, ey, if_pos (zl_iN (by omega)), g_isFormal h (by omega), bn2_so, if_pos hy5, hyc, e w h 19 y (by omega)]
    -- the code itself
    have h134 : ∀ (fl : Bool) (v : Wd), GCS kd wr m fM lev cur c sp v → (fl = true → FO fM y 2) → (fl = false → gi fM 19 y = 2) → ∃ u c', fX12_element_134 (RX12_mustBe N) (Int32.ofNat n) (Int32.ofNat y) fl v = some (gi fM 20 y, u) ∧ EM kd wr m fM lev cur sp c c' v u [] (fun b b' g => cdE fM lev (y + 1) n b b' g) 1 0 0 0 := fun fl v hv h1 h2 => by
      have h162 : ∀ s3, ∃ u, fX12_element_162 (RX12_mustBe N) 5 (upI fM lev y) s3 (Int32.ofNat n) (Int32.ofNat y) v = some (gi fM 20 y, u) ∧ EM kd wr m fM lev cur sp c (upC c 0 (c 0 + 1)) v u [] (fun b b' g => opW g b 5 (upI fM lev y) s3 (gi fM 9 n) ∧ b' = b + 1) 1 0 0 0 := fun s3 => by
        obtain ⟨u, u1, u2⟩ := EM.op hv hc0 (a := 5) (x := upI fM lev y) (y := s3) (z := gi fM 9 n)
        refine ⟨u, ?_, u2⟩
        unfold fX12_element_162
        rw [if_pos hnb, hnc, e v hv 9 n (by omega), u1, bn2_so, if_pos hy5, hyc, e u u2.1 20 y (by omega)]
      unfold fX12_element_134
      rw [hup v hv, bn2_so]
      cases fl
      · obtain ⟨u, u1, u2⟩ := h162 (gi fM 26 y)
        rw [if_neg (by decide), if_pos hy5, hyc, e v hv 26 y (by omega), u1]
        refine ⟨u, _, rfl, u2.wk (fun b b' g hg => Or.inl ?_) (by omega)⟩
        rw [ey]
        exact ⟨h2 rfl, hg.1, hg.2⟩
      · obtain ⟨u, u1, u2⟩ := h162 (-1 - gi fM 26 y)
        rw [if_pos rfl, if_pos hy5, hyc, e v hv 26 y (by omega), u1]
        refine ⟨u, _, rfl, u2.wk (fun b b' g hg => Or.inr (Or.inl ?_)) (by omega)⟩
        rw [ey]
        exact ⟨h1 rfl, hg.1, hg.2⟩
    -- with its fault
    have h5 : ∀ (fl : Bool), (fl = true → FO fM y 2) → (fl = false → gi fM 19 y = 2) → ∃ u c', (if inb (Int32.ofNat n) 24000 = true then bn (fX12_found 5 (gi w 12 n) w) fun w5 => fX12_element_134 (RX12_mustBe N) (Int32.ofNat n) (Int32.ofNat y) fl w5 else none) = some (gi fM 20 y, u) ∧ EM kd wr m fM lev cur sp c c' w u [(tk, 5)] (fun b b' g => cdE fM lev (y + 1) n b b' g) 1 0 0 0 := fun fl h1 h2 => by
      obtain ⟨u, u1, u2, u3, u4⟩ := g_found h ht (num := 5)
      obtain ⟨u', c', v1, v2⟩ := h134 fl u u2 h1 h2
      rw [if_pos hnb, e w h 12 n (by omega), h12, u1, bn_so, v1]
      exact ⟨u', c', rfl, (EM.after (L1 := [(tk, 5)]) u3 u4 v2).fls rfl⟩
    by_cases k1 : gi fM 19 y = 2
    · have k6 : ¬ gi fM 19 y = 6 := by rw [k1]; decide
      have hty : tyE fM (y + 1) = gi fM 20 y := by
        unfold tyE
        rw [if_neg (by omega), ey, if_pos (Or.inl k1)]
      rw [if_pos k1, decide_eq_false (show ¬ (gi fM 19 y = 6 ∧ gi fM 24 y = 2) from fun g => k6 g.1), hty, if_pos (show gi fM 19 y = 2 ∨ FO fM y 2 from Or.inl k1)]
      unfold fX12_element_90 fX12_element_109
      rw [if_neg (show ¬ (false = true) by decide), if_pos hy5, hyc, if_pos hnb, hnc, e w h 24 y (by omega), e w h 9 n (by omega)]
      by_cases k2 : gi fM 24 y = gi fM 9 n
      · obtain ⟨u, c', u1, u2⟩ := h134 false w h (fun g => absurd g (by decide)) (fun _ => k1)
        rw [if_pos k2, if_neg (show ¬ (false = true) by decide), if_neg (show ¬ ((gi fM 19 y = 2 ∧ gi fM 24 y ≠ gi fM 9 n) ∨ (FO fM y 2 ∧ ¬ gi fM 9 n ≤ 3)) from fun g => by
          rcases g with g | g
          · exact g.2 k2
          · exact k6 g.1.1), u1]
        exact ⟨u, c', rfl, u2.wk (fun b b' g hg _ _ => hg) (by omega)⟩
      · obtain ⟨u, c', u1, u2⟩ := h5 false (fun g => absurd g (by decide)) (fun _ => k1)
        rw [if_neg k2, if_pos (show (gi fM 19 y = 2 ∧ gi fM 24 y ≠ gi fM 9 n) ∨ (FO fM y 2 ∧ ¬ gi fM 9 n ≤ 3) from Or.inl ⟨k1, k2⟩), u1]
        exact ⟨u, c', rfl, u2.wk (fun b b' g hg _ _ => hg) (by omega)⟩
    · rw [if_neg k1]
      by_cases k2 : FO fM y 2
      · have hty : tyE fM (y + 1) = gi fM 20 y := by
          unfold tyE
          rw [if_neg (by omega), ey, if_pos (Or.inr k2)]
        rw [decide_eq_true (show gi fM 19 y = 6 ∧ gi fM 24 y = 2 from k2), if_pos rfl, hty, if_pos (show gi fM 19 y = 2 ∨ FO fM y 2 from Or.inr k2)]
        unfold fX12_element_90 fX12_element_109
        rw [if_pos rfl, if_pos rfl, if_pos hnb, hnc, e w h 9 n (by omega)]
        by_cases k3 : gi fM 9 n ≤ 3
        · obtain ⟨u, c', u1, u2⟩ := h134 true w h (fun _ => k2) (fun g => absurd g (by decide))
          rw [if_pos k3, if_neg (show ¬ ((gi fM 19 y = 2 ∧ gi fM 24 y ≠ gi fM 9 n) ∨ (FO fM y 2 ∧ ¬ gi fM 9 n ≤ 3)) from fun g => by
            rcases g with g | g
            · exact k1 g.1
            · exact g.2 k3), u1]
          exact ⟨u, c', rfl, u2.wk (fun b b' g hg _ _ => hg) (by omega)⟩
        · obtain ⟨u, c', u1, u2⟩ := h5 true (fun _ => k2) (fun g => absurd g (by decide))
          rw [if_neg k3, if_pos (show (gi fM 19 y = 2 ∧ gi fM 24 y ≠ gi fM 9 n) ∨ (FO fM y 2 ∧ ¬ gi fM 9 n ≤ 3) from Or.inr ⟨k2, k3⟩), u1]
          exact ⟨u, c', rfl, u2.wk (fun b b' g hg _ _ => hg) (by omega)⟩
      · have k12 : ¬ (gi fM 19 y = 2 ∨ FO fM y 2) := fun g => g.elim k1 k2
        have hty : tyE fM (y + 1) = 0 := by
          unfold tyE
          rw [if_neg (by omega), ey, if_neg k12]
        rw [decide_eq_false (show ¬ (gi fM 19 y = 6 ∧ gi fM 24 y = 2) from k2), if_neg (show ¬ (false = true) by decide), if_pos hy5, if_neg k12, hty]
        unfold misS
        rw [ey]
        have hwr : ¬ FO fM y 0 → ∃ u c', (bn2 (fX12_wrongName (Int32.ofNat n) w) fun x14 w15 => some (x14, w15)) = some ((0 : Int32), u) ∧ EM kd wr m fM lev cur sp c c' w u (if FO fM y 0 then [] else [(tk, 4)]) (fun b b' g => y + 1 ≠ 0 → (gi fM 19 y = 2 ∨ FO fM y 2 ∨ FO fM y 0) → cdE fM lev (y + 1) n b b' g) 1 0 0 0 := fun k5 => by
          obtain ⟨u, v1, v2, v3, v4⟩ := g_wrong h hn h12 ht
          rw [v1, if_neg k5]
          exact ⟨u, c, rfl, (EM.fl v2 (L := [(tk, 4)]) v3 v4).wk (fun b b' g _ _ hh => by
            rcases hh with g | g | g
            · exact absurd g k1
            · exact absurd g k2
            · exact absurd g k5) (by omega)⟩
        by_cases k5 : gi fM 19 y = 6
        · rw [if_pos k5, if_pos hy5, e w h 24 y (by omega)]
          by_cases k6 : gi fM 24 y = 0
          · rw [if_pos k6, if_pos (show FO fM y 0 from ⟨k5, k6⟩)]
            refine ⟨w, c, rfl, (EM.no h).wk (fun b b' g hg _ _ => Or.inr (Or.inr ⟨?_, hg⟩)) (by omega)⟩
            rw [ey]
            exact ⟨k5, k6⟩
          · rw [if_neg k6]
            exact hwr (fun g => k6 g.2)
        · rw [if_neg k5]
          exact hwr (fun g => k5 g.1)
end SG
