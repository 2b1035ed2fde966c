/-! PASS 2, THE REFERENCE: STATEMENTS in a row; switches -/
/-- a STATEMENT of a row: node, TOKENS, symbols up to, faults, codes -/
abbrev STE : Type := Nat × Nat × Nat × List (Nat × Int32) × (Nat → Nat → Nat → Nat → Wd → Prop)
def rwT : List STE → Nat
  | [] => 0
  | x :: r => x.2.1 + 1 + rwT r
def rwL : List STE → List (Nat × Int32)
  | [] => []
  | x :: r => x.2.2.2.1 ++ rwL r
def rwP : List STE → Nat → Nat → Nat → Nat → Wd → Prop
  | [], b, q, b', q', _ => b' = b ∧ q' = q
  | x :: r, b, q, b', q', g => ∃ b1 q1, x.2.2.2.2 b q b1 q1 g ∧ rwP r b1 q1 b' q' g
def rwS (kd wr : Nat → Nat) (m : Nat) (fM : Wd) (lev cur N : Nat) : List STE → Nat → Nat → Prop
  | [], i0, i1 => i1 = i0
  | x :: r, i0, i1 => STS kd wr m fM lev cur N i0 x.2.2.1 x.1 x.2.1 x.2.2.2.1 x.2.2.2.2 ∧ i0 ≤ x.2.2.1 ∧ rwS kd wr m fM lev cur N r x.2.2.1 i1
/-- entries of a switch, from e on -/
def swE (fM : Wd) (lu : Nat → Nat) (cur lev K : Nat) : List Nat → Nat → Nat → Nat → Wd → Prop
  | [], _, b, b', _ => b' = b
  | x :: r, e, b, b', g => gi g 58 e = Int32.ofNat b ∧ ∃ b2, (FLX fM lu cur K 2 x 0 = [] → CDM fM lu lev K 2 x 0 0 b b2 g) ∧ opW g b2 17 0 0 0 ∧ swE fM lu cur lev K r (e + 1) (b2 + 1) b' g
/-- a switch, whole -/
def PSW (fM : Wd) (lu : Nat → Nat) (cur lev K i : Nat) (xs : List Nat) (b q b' q' : Nat) (g : Wd) : Prop := opW g b 10 (Int32.ofNat b') 0 0 ∧ q' = q ∧ ∃ e, e + xs.length ≤ 24000 ∧ gi g 56 i = Int32.ofNat e ∧ gi g 57 i = Int32.ofNat xs.length ∧ swE fM lu cur lev K xs e (b + 1) b' g
section EX
variable {kd wr nm : Nat → Nat} {vv : Nat → Int64} {m lev cur : Nat} {fA fM : Wd} {c c1 c2 c' C TK : Nat → Nat} {SL : Nat → List Nat} {w u v : Wd} {L L1 L2 : List (Nat × Int32)} {P P1 P2 : Nat → Nat → Nat → Nat → Wd → Prop} {i i0 i1 i2 i3 : Nat} {lu : Nat → Nat}
theorem rwS_le {N : Nat} : ∀ (l : List STE) (i0 : Nat), rwS kd wr m fM lev cur N l i0 i1 → i0 ≤ i1 := by
  intro l
  induction l with
  | nil => exact fun i0 h => Nat.le_of_eq h.symm
  | cons x r ih => exact fun i0 h => Nat.le_trans h.2.1 (ih _ h.2.2)
theorem row_codes {N : Nat} : ∀ (l : List STE) (X : Int32) (i0 fo : Nat) (c : Nat → Nat) (w : Wd), nxC fM (l.map Prod.fst) X → rwS kd wr m fM lev cur N l i0 i1 → GST kd wr m fM lev cur c w → FITS c (rwT l) →
    ∃ u c', oX12_row_2 (RX12_row N) (fo + l.length + 1) X w = some (0, u) ∧ EST kd wr m fM lev cur i0 i1 c c' w u (rwL l) (rwP l) (4 * rwT l) (rwT l / 2) (rwT l / 2) (rwT l / 2) (rwT l) (rwT l) := by
  intro l
  induction l with
  | nil =>
    intro X i0 fo c w hX hS hG hf
    have hX1 : X = -1 := hX
    have hi : i1 = i0 := hS
    subst hi
    refine ⟨w, c, ?_, EST.no hG⟩
    show fX12_row_2 (RX12_row N) (oX12_row_2 (RX12_row N) fo) X w = _
    unfold fX12_row_2
    rw [hX1, if_pos (by decide)]
  | cons x r ih =>
    intro X i0 fo c w hX hS hG hf
    have hs1 : rwT (x :: r) = x.2.1 + 1 + rwT r := rfl
    rw [hs1] at hf ⊢
    unfold FITS at hf
    obtain ⟨hX1, hx24, hX2⟩ := hX
    obtain ⟨s1, s2, s3⟩ := hS
    have hle := rwS_le r _ s3
    obtain ⟨u2, c2, o2, E2⟩ := s1 c w hG (by unfold FITS; omega)
    have hb2 := E2.2.2.2.2.2.2.2.1
    obtain ⟨u3, c3, o3, E3⟩ := ih (gi fM 11 x.1) x.2.2.1 fo c2 u2 hX2 s3 E2.1 (by unfold FITS; omega)
    refine ⟨u3, c3, ?_, ((E2.seq E3).fls rfl).wk (fun b q b' q' g hg => hg) (by omega)⟩
    show fX12_row_2 (RX12_row N) (oX12_row_2 (RX12_row N) (fo + r.length + 1)) X w = _
    rw [← o3]
    generalize fo + r.length + 1 = ff
    unfold fX12_row_2
    rw [hX1, if_neg (nlt0 (by omega)), o2, bn2_so, if_pos (inb_iN hx24 (by omega)), tc_iN (by omega), E2.1.fx (k := 11) (by unfold PGM PGX; omega), ltq]
/-- how many AIMS -/
theorem sw_cnt {x1 : Int32} (hi : i < 5000) : ∀ (xs : List Nat) (a fo : Nat) (X : Int32), nxC fM xs X → GST kd wr m fM lev cur c w → oX12_switchCode_20 (fo + xs.length + 1) (Int32.ofNat i) x1 (Int32.ofNat a) X w = fX12_switchCode_20 (oX12_switchCode_20 fo) (Int32.ofNat i) x1 (Int32.ofNat (a + xs.length)) (-1) w := by
  intro xs
  induction xs with
  | nil =>
    intro a fo X hX hG
    have hX1 : X = -1 := hX
    rw [hX1]
    rfl
  | cons x r ih =>
    intro a fo X hX hG
    obtain ⟨hX1, hx24, hX2⟩ := hX
    have := ih (a + 1) fo (gi fM 11 x) hX2 hG
    rw [show a + (x :: r).length = a + 1 + r.length by rw [List.length_cons]; omega, ← this]
    show fX12_switchCode_20 (oX12_switchCode_20 (fo + r.length + 1)) (Int32.ofNat i) x1 (Int32.ofNat a) X w = _
    generalize fo + r.length + 1 = ff
    unfold fX12_switchCode_20
    rw [hX1, if_neg (nlt0 (by omega)), ad1_iN, ltq, if_pos (inb_iN hx24 (by omega)), tc_iN (by omega), hG.fx (k := 11) (by unfold PGM PGX; omega), ltq]
/-- AIMS, one after the other -/
theorem sw_loop {x1 : Int32} {K e0 : Nat} (hi : i < 5000) : ∀ (ps : List (Nat × Nat)), (∀ p ∈ ps, 1 ≤ p.2 ∧ AIS kd wr m fM lu lev cur K 1700 p.1 p.2) → ∀ (X : Int32) (a fo : Nat) (c : Nat → Nat) (w : Wd), nxC fM (ps.map Prod.fst) X → GST kd wr m fM lev cur c w → gi w 56 i = Int32.ofNat e0 → e0 + a + ps.length ≤ 24000 → FIT c 0 (smT ps) →
    ∃ u c', oX12_switchCode_78 (fo + ps.length + 1) (Int32.ofNat i) x1 (Int32.ofNat a) X w = bn (fX12_patch x1 u) (fun w2 => some w2) ∧ GST kd wr m fM lev cur c' u ∧ FLM u = FNL wr ((ps.map Prod.fst).flatMap fun x => FLX fM lu cur K 2 x 0) (FLM w) ∧ OFF (fun k j => PGX k j ∨ (k = 58 ∧ e0 + a ≤ j ∧ j < e0 + a + ps.length)) u w ∧ KPT c u w ∧ LEC c c' ∧ (c' 0 ≤ c 0 + 2 * smT ps ∧ c' 1 ≤ c 1 + smT ps / 2 ∧ c' 2 ≤ c 2 + smT ps / 2 ∧ c' 3 ≤ c 3 + smT ps / 2 ∧ c' 4 = c 4 ∧ c' 5 = c 5) ∧
      ∀ g, SAM c c' g u → (∀ j, e0 + a ≤ j → j < e0 + a + ps.length → gi g 58 j = gi u 58 j) → swE fM lu cur lev K (ps.map Prod.fst) (e0 + a) (c 0) (c' 0) g := by
  intro ps
  induction ps with
  | nil =>
    intro _ X a fo c w hX hG h56 he hf
    have hX1 : X = -1 := hX
    refine ⟨w, c, ?_, hG, rfl, OFF.rf, KPT.rf, LEC.rf, by omega, fun g _ _ => rfl⟩
    show fX12_switchCode_78 (oX12_switchCode_78 fo) (Int32.ofNat i) x1 (Int32.ofNat a) X w = _
    unfold fX12_switchCode_78
    rw [hX1, if_pos (by decide)]
  | cons p r ih =>
    intro hp X a fo c w hX hG h56 he hf
    have hs1 : smT (p :: r) = p.2 + 1 + smT r := rfl
    rw [hs1] at hf ⊢
    rw [List.length_cons] at he ⊢
    unfold FIT at hf
    obtain ⟨hX1, hp24, hX2⟩ := hX
    obtain ⟨hp1, hA⟩ := hp p List.mem_cons_self
    have hO1 : OFF (fun k j => k = 58 ∧ j = e0 + a) (si w 58 (e0 + a) (Int32.ofNat (c 0))) w := OFF.si ⟨rfl, rfl⟩
    have h58 : gi (si w 58 (e0 + a) (Int32.ofNat (c 0))) 58 (e0 + a) = Int32.ofNat (c 0) := gi_si0 _ _ _ _
    have hG1 : GST kd wr m fM lev cur c (si w 58 (e0 + a) (Int32.ofNat (c 0))) := ⟨hG.1.off hO1 (fun k j hk => by unfold PGM PGX; omega), (hO1 0 82 (by omega)).1.trans hG.2.1, (hO1 35 cur (by omega)).1.trans hG.2.2⟩
    generalize hw1 : si w 58 (e0 + a) (Int32.ofNat (c 0)) = w1 at hO1 h58 hG1
    obtain ⟨u2, c2, o2, E2⟩ := hA c 0 w1 hG1.1 (by unfold FIT; omega)
    have G2 := (EST.em (i := 0) hG1 E2).1
    obtain ⟨e1, e2, e3, e4, e5, e6, e7, e8⟩ := E2
    have d0 : cM c c2 0 = c2 0 := cM_l (by omega)
    have d1 : cM c c2 1 = c2 1 := cM_l (by omega)
    have d2' : cM c c2 2 = c2 2 := cM_l (by omega)
    have d3 : cM c c2 3 = c2 3 := cM_l (by omega)
    have d4 : cM c c2 4 = c 4 := cM_r (by omega)
    have d5 : cM c c2 5 = c 5 := cM_r (by omega)
    have dl : ∀ j, c j ≤ cM c c2 j := fun j => by
      by_cases q : j < 4
      · rw [cM_l q]; exact e6 j
      · rw [cM_r (by omega)]; exact Nat.le_refl _
    generalize cM c c2 = d at G2 d0 d1 d2' d3 d4 d5 dl
    obtain ⟨u3, o3, E3⟩ := EM.op G2.1 (by omega) (a := 17) (x := 0) (y := 0) (z := 0)
    have f1 := (EST.em (i := 0) G2 E3).1
    rw [cM_up (by omega)] at f1
    obtain ⟨f0, f2, f3, f4, f5, f7, f8, f9⟩ := E3
    have k0 : upC d 0 (d 0 + 1) 0 = d 0 + 1 := upC_s
    have kn : ∀ j, j ≠ 0 → upC d 0 (d 0 + 1) j = d j := fun j hj => upC_n hj
    generalize upC d 0 (d 0 + 1) = d' at f0 f1 f7 f8 f9 k0 kn
    have hdd : ∀ j, d j ≤ d' j := fun j => by
      by_cases q : j = 0
      · rw [q, k0]; omega
      · rw [kn j q]; exact Nat.le_refl _
    have h56' : gi u3 56 i = Int32.ofNat e0 := by
      rw [(f3 56 i (by unfold PGX; omega)).1, (e3 56 i (by unfold PGX; omega)).1, (hO1 56 i (by omega)).1]
      exact h56
    obtain ⟨u4, c4, o4, g1, g2, g3, g4, g5, g6, g7⟩ := ih (fun q hq => hp q (List.mem_cons_of_mem _ hq)) (gi fM 11 p.1) (a + 1) fo d' u3 hX2 f1 h56' (by omega) (by unfold FIT; rw [k0, kn 1 (by omega), kn 2 (by omega), kn 3 (by omega)]; omega)
    rw [k0, kn 1 (by omega), kn 2 (by omega), kn 3 (by omega), kn 4 (by omega), kn 5 (by omega)] at g6
    have hfl1 : FLM w1 = FLM w := by
      unfold FLM
      rw [(hO1 0 10 (by omega)).1, (hO1 0 11 (by omega)).1]
    have hC : ∀ j, c j ≤ c4 j := fun j => by
      by_cases q : j = 0
      · subst q
        have := g5 0
        have := dl 0
        omega
      · have := g5 j
        rw [kn j q] at this
        exact Nat.le_trans (dl j) this
    refine ⟨u4, c4, ?_, g1, ?_, ?_, ?_, hC, by omega, fun g hg h8 => ?_⟩
    · rw [← o4]
      show fX12_switchCode_78 (oX12_switchCode_78 (fo + r.length + 1)) (Int32.ofNat i) x1 (Int32.ofNat a) X w = _
      generalize fo + r.length + 1 = ff
      unfold fX12_switchCode_78
      rw [hX1, if_neg (nlt0 (by omega)), if_pos (inb_iN hi (by omega)), tc_iN (by omega), h56, add_iN, if_pos (inb_iN (by omega) (by omega)), tc_iN (by omega), hG.1.2.2.1.1, ltq, hw1, o2, bn2_so, o3, bn2_so, ad1_iN, ltq, if_pos (inb_iN hp24 (by omega)), tc_iN (by omega), f1.fx (k := 11) (by unfold PGM PGX; omega), ltq]
    · rw [g2, f2, e2, hfl1, List.map_cons, List.flatMap_cons, FNL_app]
      rfl
    · exact OFF.tr (g3.mono fun k j hk => hk.imp id (fun h => ⟨h.1, by omega, by omega⟩)) (OFF.tr (f3.mono fun k j hk => Or.inl hk) (OFF.tr (e3.mono fun k j hk => Or.inl hk) (hO1.mono fun k j hk => Or.inr ⟨hk.1, by omega, by omega⟩)))
    · have q2 : KPT c u2 w := fun k j hk => (e4 k j hk).trans (hO1 k j (by omega)).1
      have q3 : KPT c u3 w := f4.tr q2 dl
      exact g4.tr q3 (fun j => Nat.le_trans (dl j) (hdd j))
    · have hcd : LEC c d := dl
      have hdc4 : LEC d c4 := fun j => Nat.le_trans (hdd j) (g5 j)
      have K42 : KPT d u4 u2 := g4.tr f4 hdd
      have s1 : SAM c d g u2 := (hg.sub LEC.rf hdc4).tr K42.sam
      refine ⟨?_, c2 0, e8 g (fun k j hk => s1 k j (by rw [d0, d1, d2', d3]; exact hk)), ?_, ?_⟩
      · rw [h8 (e0 + a) (by omega) (by omega), (g3 58 (e0 + a) (fun q => by
          rcases q with q | q
          · unfold PGX at q; omega
          · omega)).1, (f3 58 _ (by unfold PGX; omega)).1, (e3 58 _ (by unfold PGX; omega)).1]
        exact h58
      · have := (f9 g ((hg.sub hcd g5).tr g4.sam)).1
        rw [d0] at this
        exact this
      · have := g7 g (hg.sub (fun j => Nat.le_trans (dl j) (hdd j)) LEC.rf) (fun j j1 j2 => h8 j (by omega) (by omega))
        rw [k0, d0] at this
        exact this
/-- a switch -/
theorem sw_codes {K : Nat} {ps : List (Nat × Nat)} (hi : i < 5000) (h23 : gi fM 23 i = Int32.ofNat cur) (hX : nxC fM (ps.map Prod.fst) (gi fM 25 i)) (hp : ∀ p ∈ ps, 1 ≤ p.2 ∧ AIS kd wr m fM lu lev cur K 1700 p.1 p.2) (hG : GST kd wr m fM lev cur c w) (hf : FITS c (smT ps + 1)) (hlen : ps.length ≤ smT ps) :
    ∃ u c', fX12_switchCode (Int32.ofNat i) w = some u ∧ EST kd wr m fM lev cur i (i + 1) c c' w u ((ps.map Prod.fst).flatMap fun x => FLX fM lu cur K 2 x 0) (PSW fM lu cur lev K i (ps.map Prod.fst)) (4 * (smT ps + 1)) ((smT ps + 1) / 2) ((smT ps + 1) / 2) ((smT ps + 1) / 2) (smT ps + 1) 0 := by
  unfold FITS at hf
  obtain ⟨u1, o1, E1, _⟩ := EST.op hG (by omega) (a := 10) (x := 0) (y := 0) (z := 0)
  have G1 := (E1 i).1
  have e0 : upC c 0 (c 0 + 1) 0 = c 0 + 1 := upC_s
  have en : ∀ j, j ≠ 0 → upC c 0 (c 0 + 1) j = c j := fun j hj => upC_n hj
  have hll : (ps.map Prod.fst).length = ps.length := List.length_map _
  obtain ⟨fo, hfo⟩ := FU_ge (k := ps.length + 1) (by omega)
  have hcn := sw_cnt (x1 := Int32.ofNat (c 0)) hi (ps.map Prod.fst) 0 fo _ hX G1
  rw [hll, Nat.zero_add] at hcn
  -- the entries' places
  have e25 : gi u1 25 i = gi fM 25 i := G1.fx (k := 25) (by unfold PGM PGX; omega)
  have e82 : gi u1 0 82 = Int32.ofNat (c 4) := G1.2.1.trans (by rw [en 4 (by omega)])
  have hO : OFF (fun k j => (k = 56 ∨ k = 57) ∧ j = i ∨ k = 0 ∧ j = 82) (si (si (si u1 56 i (Int32.ofNat (c 4))) 57 i (Int32.ofNat ps.length)) 0 82 (Int32.ofNat (c 4 + ps.length))) u1 := OFF.tr (OFF.si (by omega)) (OFF.tr (OFF.si (by omega)) (OFF.si (by omega)))
  have x56 : gi (si (si (si u1 56 i (Int32.ofNat (c 4))) 57 i (Int32.ofNat ps.length)) 0 82 (Int32.ofNat (c 4 + ps.length))) 56 i = Int32.ofNat (c 4) := by rw [gi_si1 (by omega), gi_si1 (by omega), gi_si0]
  have x57 : gi (si (si (si u1 56 i (Int32.ofNat (c 4))) 57 i (Int32.ofNat ps.length)) 0 82 (Int32.ofNat (c 4 + ps.length))) 57 i = Int32.ofNat ps.length := by rw [gi_si1 (by omega), gi_si0]
  have x82 : gi (si (si (si u1 56 i (Int32.ofNat (c 4))) 57 i (Int32.ofNat ps.length)) 0 82 (Int32.ofNat (c 4 + ps.length))) 0 82 = Int32.ofNat (c 4 + ps.length) := gi_si0 _ _ _ _
  have hrun : fX12_switchCode (Int32.ofNat i) w = oX12_switchCode_78 FU (Int32.ofNat i) (Int32.ofNat (c 0)) (Int32.ofNat 0) (gi fM 25 i) (si (si (si u1 56 i (Int32.ofNat (c 4))) 57 i (Int32.ofNat ps.length)) 0 82 (Int32.ofNat (c 4 + ps.length))) := by
    unfold fX12_switchCode
    rw [o1, bn2_so, if_pos (inb_iN hi (by omega)), tc_iN (by omega), e25, ltq]
    have h1 : oX12_switchCode_20 FU (Int32.ofNat i) (Int32.ofNat (c 0)) 0 (gi fM 25 i) u1 = fX12_switchCode_20 (oX12_switchCode_20 fo) (Int32.ofNat i) (Int32.ofNat (c 0)) (Int32.ofNat ps.length) (-1) u1 := by
      rw [hfo, ← Nat.add_assoc]
      exact hcn
    rw [h1]
    unfold fX12_switchCode_20
    generalize FU = NN
    rw [if_pos (by decide), if_pos (inb_iN hi (by omega)), tc_iN (by omega), e82, ltq, if_pos (inb_iN hi (by omega)), ltq, gi_si1 (by omega), gi_si1 (by omega), e82, add_iN, ltq, if_pos (inb_iN hi (by omega)), gi_si1 (by omega), gi_si1 (by omega), gi_si1 (by omega), e25, ltq]
    rfl
  generalize si (si (si u1 56 i (Int32.ofNat (c 4))) 57 i (Int32.ofNat ps.length)) 0 82 (Int32.ofNat (c 4 + ps.length)) = w2 at hO x56 x57 x82 hrun
  have k4 : upC (upC c 0 (c 0 + 1)) 4 (c 4 + ps.length) 4 = c 4 + ps.length := upC_s
  have kn : ∀ j, j ≠ 4 → upC (upC c 0 (c 0 + 1)) 4 (c 4 + ps.length) j = upC c 0 (c 0 + 1) j := fun j hj => upC_n hj
  have hG2 : GST kd wr m fM lev cur (upC (upC c 0 (c 0 + 1)) 4 (c 4 + ps.length)) w2 := ⟨(G1.1.off hO (fun k j hk => by unfold PGM PGX; omega)).cg (fun j hj => kn j (by omega)), by rw [k4]; exact x82, by rw [kn 5 (by omega), (hO 35 cur (by omega)).1]; exact G1.2.2⟩
  generalize upC (upC c 0 (c 0 + 1)) 4 (c 4 + ps.length) = d at k4 kn hG2
  obtain ⟨u3, c3, o3, g1, g2, g3, g4, g5, g6, g7⟩ := sw_loop (x1 := Int32.ofNat (c 0)) (e0 := c 4) hi ps hp (gi fM 25 i) 0 fo d w2 hX hG2 x56 (by omega) (by unfold FIT; rw [kn 0 (by omega), kn 1 (by omega), kn 2 (by omega), kn 3 (by omega), e0, en 1 (by omega), en 2 (by omega), en 3 (by omega)]; omega)
  rw [kn 0 (by omega), kn 1 (by omega), kn 2 (by omega), kn 3 (by omega), kn 5 (by omega), k4] at g6
  have hle : LEC (upC c 0 (c 0 + 1)) c3 := fun j => by
    by_cases q : j = 4
    · rw [q, en 4 (by omega), g6.2.2.2.2.1]; omega
    · have := g5 j
      rw [kn j q] at this
      exact this
  have hM : EST kd wr m fM lev cur i (i + 1) (upC c 0 (c 0 + 1)) c3 u1 u3 ((ps.map Prod.fst).flatMap fun x => FLX fM lu cur K 2 x 0) (fun b q b' q' g => q' = q ∧ ∃ e, e + (ps.map Prod.fst).length ≤ 24000 ∧ gi g 56 i = Int32.ofNat e ∧ gi g 57 i = Int32.ofNat (ps.map Prod.fst).length ∧ swE fM lu cur lev K (ps.map Prod.fst) e b b' g) (2 * smT ps) (smT ps / 2) (smT ps / 2) (smT ps / 2) ps.length 0 := by
    refine ⟨g1, ?_, OFF.tr (g3.mono fun k j hk => ?_) (hO.mono fun k j hk => by unfold PGS; omega), fun k j hk => ?_, fun j hj => ?_, fun k j q1 q2 hj => ?_, hle, ?_, fun g hg => ⟨g6.2.2.2.2.2, c 4, by rw [hll]; omega, ?_, ?_, ?_⟩⟩
    · rw [g2]
      unfold FLM
      rw [(hO 0 10 (by omega)).1, (hO 0 11 (by omega)).1]
    · unfold PGS
      rcases hk with hk | hk
      · exact Or.inl hk
      · exact Or.inr (Or.inr (Or.inr (by omega)))
    · refine (g4 k j ?_).trans (hO k j (by omega)).1
      rw [kn 0 (by omega), kn 1 (by omega), kn 2 (by omega), kn 3 (by omega)]
      exact hk
    · rw [en 4 (by omega)] at hj
      refine (g3 58 j (fun q => ?_)).1.trans (hO 58 j (by omega)).1
      rcases q with q | q
      · unfold PGX at q; omega
      · omega
    · refine (g3 k j (fun q => ?_)).1.trans (hO k j (fun q => ?_)).1
      · rcases q with q | q
        · unfold PGX at q; omega
        · omega
      · exact hj ⟨by omega, by omega, by rw [show j = i by omega]; exact h23⟩
    · rw [en 4 (by omega)]
      omega
    · rw [hg.2.2 56 i (by omega) (by omega) (by omega) (by omega) h23, (g3 56 i (fun q => by
        rcases q with q | q
        · unfold PGX at q; omega
        · omega)).1]
      exact x56
    · rw [hll, hg.2.2 57 i (by omega) (by omega) (by omega) (by omega) h23, (g3 57 i (fun q => by
        rcases q with q | q
        · unfold PGX at q; omega
        · omega)).1]
      exact x57
    · have h7 := g7 g (fun k j hk => hg.1 k j (by
        rw [kn 0 (by omega), kn 1 (by omega), kn 2 (by omega), kn 3 (by omega)] at hk
        exact hk)) (fun j j1 j2 => hg.2.1 j (by rw [en 4 (by omega)]; omega) (by omega))
      rw [kn 0 (by omega)] at h7
      exact h7
  obtain ⟨u4, o4, E4, _⟩ := EST.jmp (E1 i) hM (by omega)
  refine ⟨u4, c3, ?_, E4.wk (fun b q b' q' g hg => ?_) (by omega)⟩
  · rw [hrun, hfo, ← Nat.add_assoc]
    exact o3.trans (by rw [o4, bn_so])
  · exact ⟨hg.1, hg.2.1, hg.2.2⟩
end EX
