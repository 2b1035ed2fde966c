/-! PASS 2, THE REFERENCE: ARRAYS and BLOCKS -/
/-- bounds -/
def bdP (fM : Wd) (lu : Nat → Nat) (cur lev K : Nat) : List Nat → Nat → Nat → Wd → Prop
  | [], b, b', _ => b' = b
  | x :: r, b, b', g => ∃ b2, (FLX fM lu cur K 0 x 0 = [] → CDM fM lu lev K 0 x 0 0 b b2 g) ∧ bdP fM lu cur lev K r b2 b' g
def bdL (fM : Wd) (lu : Nat → Nat) (cur K : Nat) (xs : List Nat) : List (Nat × Int32) := xs.flatMap fun x => FLX fM lu cur K 0 x 0 ++ misT (TYX fM lu K x) 1 (nd fM 12 x)
/-- a node of ARRAYS: node, first symbol, how many, PAIRS of bounds, bounds -/
abbrev ARE : Type := Nat × Nat × Nat × Nat × List (Nat × Nat)
def arT : List ARE → Nat
  | [] => 0
  | x :: r => 2 * x.2.2.1 + smT x.2.2.2.2 + 1 + arT r
def arL (fM : Wd) (lu : Nat → Nat) (cur K : Nat) : List ARE → List (Nat × Int32)
  | [] => []
  | x :: r => bdL fM lu cur K (x.2.2.2.2.map Prod.fst) ++ arL fM lu cur K r
def arP (fM : Wd) (lu : Nat → Nat) (cur lev K : Nat) : List ARE → Nat → Nat → Wd → Prop
  | [], b, b', _ => b' = b
  | x :: r, b, b', g => ∃ b1, bdP fM lu cur lev K (x.2.2.2.2.map Prod.fst) b b1 g ∧ (∀ y, y < x.2.2.1 → opW g (b1 + y) 24 (gi fM 26 (x.2.1 + y)) (Int32.ofNat x.2.2.2.1) 0) ∧ opW g (b1 + x.2.2.1) 25 (Int32.ofNat (2 * x.2.2.2.1)) 0 0 ∧ arP fM lu cur lev K r (b1 + x.2.2.1 + 1) b' g
def arS (kd wr : Nat → Nat) (m : Nat) (fM : Wd) (lu : Nat → Nat) (lev cur K : Nat) (x : ARE) : Prop := gi fM 8 x.1 = Int32.ofNat x.2.1 ∧ gi fM 9 x.1 = Int32.ofNat (x.2.1 + x.2.2.1) ∧ nxC fM (x.2.2.2.2.map Prod.fst) (gi fM 10 x.1) ∧ x.2.2.2.2.length = 2 * x.2.2.2.1 ∧ x.2.2.2.1 ≤ 3 ∧ x.2.1 + x.2.2.1 ≤ 5000 ∧ 1 ≤ x.2.2.1 ∧ ∀ p ∈ x.2.2.2.2, RWN kd wr m fM lu lev cur K 1699 p
/-- switches of a SCOPE, in the order of its list -/
def swkT (fM : Wd) (sps : Nat → List (Nat × Nat)) : List Nat → Nat
  | [] => 0
  | i :: r => (if gi fM 19 i = 5 then smT (sps i) + 1 else 0) + swkT fM sps r
def swkL (fM : Wd) (slu : Nat → Nat → Nat) (cur K : Nat) (sps : Nat → List (Nat × Nat)) : List Nat → List (Nat × Int32)
  | [] => []
  | i :: r => (if gi fM 19 i = 5 then ((sps i).map Prod.fst).flatMap fun x => FLX fM (slu i) cur K 2 x 0 else []) ++ swkL fM slu cur K sps r
def swkP (fM : Wd) (slu : Nat → Nat → Nat) (cur lev K : Nat) (sps : Nat → List (Nat × Nat)) : List Nat → Nat → Nat → Nat → Nat → Wd → Prop
  | [], b, q, b', q', _ => b' = b ∧ q' = q
  | i :: r, b, q, b', q', g => (gi fM 19 i = 5 ∧ ∃ b1 q1, PSW fM (slu i) cur lev K i ((sps i).map Prod.fst) b q b1 q1 g ∧ swkP fM slu cur lev K sps r b1 q1 b' q' g) ∨ (gi fM 19 i ≠ 5 ∧ swkP fM slu cur lev K sps r b q b' q' g)
/-- they go down from hi to lo -/
def swD (fM : Wd) : List Nat → Nat → Nat → Prop
  | [], lo, hi => lo ≤ hi
  | i :: r, lo, hi => (gi fM 19 i = 5 → lo ≤ i ∧ i < hi ∧ swD fM r lo i) ∧ (gi fM 19 i ≠ 5 → swD fM r lo hi)
def swS (kd wr : Nat → Nat) (m : Nat) (fM : Wd) (slu : Nat → Nat → Nat) (lev cur K : Nat) (sps : Nat → List (Nat × Nat)) (i : Nat) : Prop := gi fM 23 i = Int32.ofNat cur ∧ nxC fM ((sps i).map Prod.fst) (gi fM 25 i) ∧ (∀ p ∈ sps i, 1 ≤ p.2 ∧ AIS kd wr m fM (slu i) lev cur K 1700 p.1 p.2) ∧ (sps i).length ≤ smT (sps i)
section EX
variable {kd wr nm : Nat → Nat} {vv : Nat → Int64} {m lev cur : Nat} {fA fM : Wd} {c c1 c2 c' C TK : Nat → Nat} {SL : Nat → List Nat} {w u v : Wd} {L L1 L2 : List (Nat × Int32)} {P P1 P2 : Nat → Nat → Nat → Nat → Wd → Prop} {i i0 i1 i2 i3 : Nat} {lu : Nat → Nat}
theorem bn_loop {rc : TX12_row} {k17 : Int32 → Int32 → Wd → Option (Int32 × Wd)} {a1 a3 : Int32} {K : Nat} : ∀ (ps : List (Nat × Nat)), (∀ p ∈ ps, RWN kd wr m fM lu lev cur K 1699 p) → ∀ (X : Int32) (a fo : Nat) (c : Nat → Nat) (w : Wd), nxC fM (ps.map Prod.fst) X → GST kd wr m fM lev cur c w → FIT c 0 (smT ps) →
    ∃ u c', oX12_blockCode_32 rc k17 (fo + ps.length + 1) a1 a3 (Int32.ofNat a) X w = fX12_blockCode_32 rc k17 (oX12_blockCode_32 rc k17 fo) a1 a3 (Int32.ofNat (a + ps.length)) (-1) u ∧ EST kd wr m fM lev cur i i c c' w u (bdL fM lu cur K (ps.map Prod.fst)) (fun b q b' q' g => bdP fM lu cur lev K (ps.map Prod.fst) b b' g ∧ q' = q) (2 * smT ps) (smT ps / 2) (smT ps / 2) (smT ps / 2) 0 0 := by
  intro ps
  induction ps with
  | nil =>
    intro _ X a fo c w hX hG hf
    have hX1 : X = -1 := hX
    refine ⟨w, c, by rw [hX1]; rfl, (EST.no hG (i := i)).wk (fun b q b' q' g hg => hg) (by omega)⟩
  | cons p r ih =>
    intro hp X a fo c w hX hG hf
    have hs1 : smT (p :: r) = p.2 + 1 + smT r := rfl
    rw [hs1] at hf ⊢
    unfold FIT at hf
    obtain ⟨hX1, hp24, hX2⟩ := hX
    obtain ⟨hV, ⟨tk, ht1, ht2⟩, hT1⟩ := hp p List.mem_cons_self
    obtain ⟨u2, c2, o2, E2⟩ := g_mb hV hG.1 (by unfold FIT; omega) hp24 ht1 ht2 (ty := 1)
    have E2' := EST.em (i := i) hG E2
    have hb2 := E2'.2.2.2.2.2.2.2.1
    generalize cM c c2 = d2 at E2' hb2
    obtain ⟨u3, c3, o3, E3⟩ := ih (fun q hq => hp q (List.mem_cons_of_mem _ hq)) (gi fM 11 p.1) (a + 1) fo d2 u2 hX2 E2'.1 (by unfold FIT; omega)
    refine ⟨u3, c3, ?_, ((E2'.seq E3).fls (by unfold bdL; simp only [List.map_cons, List.flatMap_cons])).wk (fun b q b' q' g hg => ?_) (by omega)⟩
    · rw [show a + (p :: r).length = a + 1 + r.length by rw [List.length_cons]; omega, ← o3]
      show fX12_blockCode_32 rc k17 (oX12_blockCode_32 rc k17 (fo + r.length + 1)) a1 a3 (Int32.ofNat a) X w = _
      generalize fo + r.length + 1 = ff
      unfold fX12_blockCode_32
      rw [hX1, if_neg (nlt0 (by omega)), o2, bn2_so, ad1_iN, ltq, if_pos (inb_iN hp24 (by omega)), tc_iN (by omega), E2'.1.fx (k := 11) (by unfold PGM PGX; omega), ltq]
    · obtain ⟨b1, q1, ⟨g1, g2⟩, g3, g4⟩ := hg
      subst g2
      exact ⟨⟨b1, g1, g3⟩, g4⟩
theorem nm_loop {rc : TX12_row} {k17 : Int32 → Int32 → Wd → Option (Int32 × Wd)} {a1 : Int32} {an nb f0 j : Nat} (han : an < 24000) (h9 : gi fM 9 an = Int32.ofNat (f0 + j)) (hj : f0 + j ≤ 5000) (hnb : nb ≤ 3) : ∀ (n x fo : Nat) (c : Nat → Nat) (w : Wd), x + n = j → GST kd wr m fM lev cur c w → c 0 + n < 60000 →
    ∃ u c', oX12_blockCode_67 rc k17 (fo + n + 1) a1 (Int32.ofNat an) (Int32.ofNat (2 * nb)) (Int32.ofNat (f0 + x)) w = (bn2 (fX12_op 25 (Int32.ofNat (2 * nb)) 0 0 u) fun _ w4 => if inb (Int32.ofNat an) 24000 = true then lt ((gi w4 11 (Int32.toNatClampNeg (Int32.ofNat an)))) fun x6 => k17 a1 x6 w4 else none) ∧ EST kd wr m fM lev cur i i c c' w u [] (fun b q b' q' g => ((∀ y, y < n → opW g (b + y) 24 (gi fM 26 (f0 + x + y)) (Int32.ofNat nb) 0) ∧ b' = b + n) ∧ q' = q) n 0 0 0 0 0 := by
  intro n
  induction n with
  | zero =>
    intro x fo c w hx hG hc
    refine ⟨w, c, ?_, (EST.no hG (i := i)).wk (fun b q b' q' g hg => ⟨⟨fun y hy => absurd hy (by omega), hg.1⟩, hg.2⟩) (by omega)⟩
    show fX12_blockCode_67 rc k17 (oX12_blockCode_67 rc k17 fo) a1 (Int32.ofNat an) (Int32.ofNat (2 * nb)) (Int32.ofNat (f0 + x)) w = _
    generalize oX12_blockCode_67 rc k17 fo = kk
    unfold fX12_blockCode_67
    have e9 : gi w 9 (Int32.ofNat an).toNatClampNeg = Int32.ofNat (f0 + j) := by
      rw [tc_iN (by omega)]
      exact (hG.fx (k := 9) (by unfold PGM PGX; omega)).trans h9
    rw [if_pos (inb_iN han (by omega)), e9, if_pos ((le_iN (by omega) (by omega)).mpr (by omega))]
  | succ n ih =>
    intro x fo c w hx hG hc
    obtain ⟨u2, o2, E2, _⟩ := EST.op hG (by omega) (a := 24) (x := gi fM 26 (f0 + x)) (y := Int32.ofNat nb) (z := 0)
    have e0 : upC c 0 (c 0 + 1) 0 = c 0 + 1 := upC_s
    obtain ⟨u3, c3, o3, E3⟩ := ih (x + 1) fo _ u2 (by omega) (E2 i).1 (by rw [e0]; omega)
    refine ⟨u3, c3, ?_, (((E2 i).seq E3).fls rfl).wk (fun b q b' q' g hg => ?_) (by omega)⟩
    · rw [← o3]
      show fX12_blockCode_67 rc k17 (oX12_blockCode_67 rc k17 (fo + n + 1)) a1 (Int32.ofNat an) (Int32.ofNat (2 * nb)) (Int32.ofNat (f0 + x)) w = _
      generalize oX12_blockCode_67 rc k17 (fo + n + 1) = kk
      unfold fX12_blockCode_67
      have e9 : gi w 9 (Int32.ofNat an).toNatClampNeg = Int32.ofNat (f0 + j) := by
        rw [tc_iN (by omega)]
        exact (hG.fx (k := 9) (by unfold PGM PGX; omega)).trans h9
      have e2 : Int32.ofNat (2 * nb) / 2 = Int32.ofNat nb := by
        rw [show (2 : Int32) = Int32.ofNat 2 from rfl, div_iN (by omega) (by omega), Nat.mul_div_cancel_left nb (by omega)]
      rw [if_pos (inb_iN han (by omega)), e9, if_neg (nle_iN (by omega) (by omega)), if_pos (inb_iN (by omega) (by omega)), tc_iN (show f0 + x < 2147483648 by omega), hG.fx (k := 26) (by unfold PGM PGX; omega), e2, o2, bn2_so, ad1_iN, ltq]
      rfl
    · obtain ⟨b1, q1, ⟨⟨g1, g2⟩, g3⟩, ⟨g4, g5⟩, g6⟩ := hg
      subst g2 g3
      refine ⟨⟨fun y hy => ?_, by omega⟩, g6⟩
      by_cases q0 : y = 0
      · rw [q0]; exact g1
      · have := g4 (y - 1) (by omega)
        rw [show b + 1 + (y - 1) = b + y by omega, show f0 + (x + 1) + (y - 1) = f0 + x + y by omega] at this
        exact this
theorem ar_loop {N : Nat} {blk : Int32} {K : Nat} : ∀ (l : List ARE), (∀ x ∈ l, arS kd wr m fM lu lev cur K x) → ∀ (X : Int32) (fo : Nat) (c : Nat → Nat) (w : Wd), nxC fM (l.map Prod.fst) X → GST kd wr m fM lev cur c w → FITS c (arT l) →
    ∃ u c', oX12_blockCode_17 (RX12_row N) (fo + l.length + 1) blk X w = fX12_blockCode_17 (RX12_row N) (oX12_blockCode_17 (RX12_row N) fo) blk (-1) u ∧ EST kd wr m fM lev cur i i c c' w u (arL fM lu cur K l) (fun b q b' q' g => arP fM lu cur lev K l b b' g ∧ q' = q) (4 * arT l) (arT l / 2) (arT l / 2) (arT l / 2) 0 0 := by
  intro l
  induction l with
  | nil =>
    intro _ X fo c w hX hG hf
    have hX1 : X = -1 := hX
    refine ⟨w, c, by rw [hX1]; rfl, (EST.no hG (i := i)).wk (fun b q b' q' g hg => hg) (by omega)⟩
  | cons x r ih =>
    intro hp X fo c w hX hG hf
    have hs1 : arT (x :: r) = 2 * x.2.2.1 + smT x.2.2.2.2 + 1 + arT r := rfl
    rw [hs1] at hf ⊢
    unfold FITS at hf
    obtain ⟨hX1, hx24, hX2⟩ := hX
    obtain ⟨s1, s2, s3, s4, s5, s6, s7, s8⟩ := hp x List.mem_cons_self
    have hlen9 : x.2.2.2.2.length + 1 ≤ 9000 := by omega
    obtain ⟨f1, hf1⟩ := FU_ge (k := x.2.2.2.2.length + 1) (by omega)
    obtain ⟨f2, hf2⟩ := FU_ge (k := x.2.2.1 + 1) (by omega)
    obtain ⟨u2, c2, o2, E2⟩ := bn_loop (i := i) (rc := RX12_row N) (k17 := oX12_blockCode_17 (RX12_row N) (fo + r.length + 1)) (a1 := blk) (a3 := Int32.ofNat x.1) x.2.2.2.2 s8 _ 0 f1 c w s3 hG (by unfold FIT; omega)
    have hb2 := E2.2.2.2.2.2.2.2.1
    obtain ⟨u3, c3, o3, E3⟩ := nm_loop (i := i) (rc := RX12_row N) (k17 := oX12_blockCode_17 (RX12_row N) (fo + r.length + 1)) (a1 := blk) hx24 s2 s6 s5 x.2.2.1 0 f2 c2 u2 (by omega) E2.1 (by omega)
    have hb3 := E3.2.2.2.2.2.2.2.1
    obtain ⟨u4, o4, E4, _⟩ := EST.op E3.1 (by omega) (a := 25) (x := Int32.ofNat (2 * x.2.2.2.1)) (y := 0) (z := 0)
    have e0 : upC c3 0 (c3 0 + 1) 0 = c3 0 + 1 := upC_s
    have en : ∀ i, i ≠ 0 → upC c3 0 (c3 0 + 1) i = c3 i := fun i hi => upC_n hi
    obtain ⟨u5, c5, o5, E5⟩ := ih (fun q hq => hp q (List.mem_cons_of_mem _ hq)) (gi fM 11 x.1) fo _ u4 hX2 (E4 i).1 (by unfold FITS; rw [e0, en 1 (by omega), en 2 (by omega), en 3 (by omega), en 4 (by omega), en 5 (by omega)]; omega)
    refine ⟨u5, c5, ?_, ((E2.seq (E3.seq ((E4 i).seq E5))).fls rfl).wk (fun b q b' q' g hg => ?_) (by omega)⟩
    · rw [← o5]
      show fX12_blockCode_17 (RX12_row N) (oX12_blockCode_17 (RX12_row N) (fo + r.length + 1)) blk X w = _
      generalize oX12_blockCode_17 (RX12_row N) (fo + r.length + 1) = kk at o2 o3 ⊢
      have hq3 : fX12_blockCode_32 (RX12_row N) kk (oX12_blockCode_32 (RX12_row N) kk f1) blk (Int32.ofNat x.1) (Int32.ofNat (0 + x.2.2.2.2.length)) (-1) u2 = kk blk (gi fM 11 x.1) u4 := by
        unfold fX12_blockCode_32
        rw [if_pos (by decide), if_pos (inb_iN hx24 (by omega)), tc_iN (by omega), E2.1.fx (k := 8) (by unfold PGM PGX; omega), s1, ltq, hf2, ← Nat.add_assoc, Nat.zero_add, s4]
        refine o3.trans ?_
        rw [o4, bn2_so, if_pos (inb_iN hx24 (by omega)), tc_iN (by omega), (E4 i).1.fx (k := 11) (by unfold PGM PGX; omega), ltq]
      rw [← hq3, ← o2]
      unfold fX12_blockCode_17
      rw [hX1, if_neg (nlt0 (by omega)), if_pos (inb_iN hx24 (by omega)), tc_iN (by omega), hG.fx (k := 10) (by unfold PGM PGX; omega), ltq, hf1, ← Nat.add_assoc]
      rfl
    · obtain ⟨b1, q1, ⟨g1, g2⟩, b2, q2, ⟨⟨g3, g4⟩, g5⟩, b3, q3, ⟨⟨g6, g7⟩, g8⟩, g9, g10⟩ := hg
      subst g2 g4 g5 g7 g8
      exact ⟨⟨b1, g1, fun y hy => by have := g3 y hy; rw [Nat.add_zero] at this; exact this, g6, g9⟩, g10⟩
theorem sw_walk {N : Nat} {blk : Int32} {K lo : Nat} {slu : Nat → Nat → Nat} {sps : Nat → List (Nat × Nat)} : ∀ (l : List Nat), (∀ i ∈ l, i < 5000 ∧ (gi fM 19 i = 5 → swS kd wr m fM slu lev cur K sps i)) → ∀ (hi : Nat) (X : Int32) (fo : Nat) (c : Nat → Nat) (w : Wd), swD fM l lo hi → LNM fM X l → GST kd wr m fM lev cur c w → FITS c (swkT fM sps l) →
    ∃ u c', oX12_blockCode_146 (RX12_row N) (fo + l.length + 1) blk X w = fX12_blockCode_146 (RX12_row N) (oX12_blockCode_146 (RX12_row N) fo) blk (-1) u ∧ EST kd wr m fM lev cur lo hi c c' w u (swkL fM slu cur K sps l) (swkP fM slu cur lev K sps l) (4 * swkT fM sps l) (swkT fM sps l / 2) (swkT fM sps l / 2) (swkT fM sps l / 2) (swkT fM sps l) 0 := by
  intro l
  induction l with
  | nil =>
    intro _ hi X fo c w hD hX hG hf
    have hX1 : X = -1 := hX
    have hD' : lo ≤ hi := hD
    exact ⟨w, c, by rw [hX1]; rfl, (EST.no hG (i := lo)).wk (fun b q b' q' g hg => hg) (by omega) (by omega)⟩
  | cons x r ih =>
    intro hp hi X fo c w hD hX hG hf
    obtain ⟨hX1, hX2⟩ := hX
    obtain ⟨hx5, hxs⟩ := hp x List.mem_cons_self
    have hrec : fX12_blockCode_146 (RX12_row N) (oX12_blockCode_146 (RX12_row N) (fo + r.length + 1)) blk X w = oX12_blockCode_146 (RX12_row N) (fo + (x :: r).length + 1) blk X w := rfl
    rw [← hrec]
    by_cases q5 : gi fM 19 x = 5
    · obtain ⟨t1, t2, t3, t4⟩ := hxs q5
      obtain ⟨d1, d2, d3⟩ := hD.1 q5
      have hs1 : swkT fM sps (x :: r) = smT (sps x) + 1 + swkT fM sps r := by
        show (if gi fM 19 x = 5 then smT (sps x) + 1 else 0) + _ = _
        rw [if_pos q5]
      have hL1 : swkL fM slu cur K sps (x :: r) = (((sps x).map Prod.fst).flatMap fun y => FLX fM (slu x) cur K 2 y 0) ++ swkL fM slu cur K sps r := by
        show (if gi fM 19 x = 5 then _ else _) ++ _ = _
        rw [if_pos q5]
      rw [hs1] at hf ⊢
      rw [hL1]
      unfold FITS at hf
      obtain ⟨u2, c2, o2, E2⟩ := sw_codes (K := K) hx5 t1 t2 t3 hG (by unfold FITS; omega) t4
      have hb2 := E2.2.2.2.2.2.2.2.1
      obtain ⟨u3, c3, o3, E3⟩ := ih (fun q hq => hp q (List.mem_cons_of_mem _ hq)) x (gi fM 21 x) fo c2 u2 d3 hX2 E2.1 (by unfold FITS; omega)
      have hlox : lo ≤ x := d1
      refine ⟨u3, c3, ?_, ((E2.seqd E3).wk (fun b q b' q' g hg => ?_) (by omega) (by omega))⟩
      · rw [← o3]
        generalize oX12_blockCode_146 (RX12_row N) (fo + r.length + 1) = kk
        unfold fX12_blockCode_146
        rw [hX1, if_neg (nlt0 (by omega)), if_pos (inb_iN hx5 (by omega)), tc_iN (by omega), hG.fx (k := 19) (by unfold PGM PGX; omega), if_pos q5, o2, bn_so, if_pos (inb_iN hx5 (by omega)), E2.1.fx (k := 21) (by unfold PGM PGX; omega), ltq]
      · exact Or.inl ⟨q5, hg⟩
    · have hs1 : swkT fM sps (x :: r) = swkT fM sps r := by
        show (if gi fM 19 x = 5 then smT (sps x) + 1 else 0) + _ = _
        rw [if_neg q5, Nat.zero_add]
      have hL1 : swkL fM slu cur K sps (x :: r) = swkL fM slu cur K sps r := by
        show (if gi fM 19 x = 5 then _ else _) ++ _ = _
        rw [if_neg q5, List.nil_append]
      rw [hs1] at hf ⊢
      rw [hL1]
      obtain ⟨u3, c3, o3, E3⟩ := ih (fun q hq => hp q (List.mem_cons_of_mem _ hq)) hi (gi fM 21 x) fo c w (hD.2 q5) hX2 hG hf
      refine ⟨u3, c3, ?_, E3.wk (fun b q b' q' g hg => Or.inr ⟨q5, hg⟩) (by omega)⟩
      rw [← o3]
      generalize oX12_blockCode_146 (RX12_row N) (fo + r.length + 1) = kk
      unfold fX12_blockCode_146
      rw [hX1, if_neg (nlt0 (by omega)), if_pos (inb_iN hx5 (by omega)), tc_iN (by omega), hG.fx (k := 19) (by unfold PGM PGX; omega), if_neg q5, if_pos (inb_iN hx5 (by omega)), hG.fx (k := 21) (by unfold PGM PGX; omega), ltq]
/-- a BLOCK's codes: ARRAYS, switches, STATEMENTS -/
def PBL (fM : Wd) (lu : Nat → Nat) (slu : Nat → Nat → Nat) (cur lev K blk : Nat) (ars : List ARE) (l : List Nat) (sps : Nat → List (Nat × Nat)) (sts : List STE) (b q b' q' : Nat) (g : Wd) : Prop :=
  opW g b 23 (Int32.ofNat blk) 0 0 ∧ ∃ b1 b2 b3, arP fM lu cur lev K ars (b + 1) b1 g ∧ opW g b1 26 (Int32.ofNat blk) 0 0 ∧ (∃ q2, swkP fM slu cur lev K sps l (b1 + 1) q b2 q2 g ∧ rwP sts b2 q2 b3 q' g) ∧ opW g b3 27 (Int32.ofNat blk) 0 0 ∧ b' = b3 + 1
theorem RXr {N : Nat} : RX12_row (N + 1) = BX12_row (RX12_row N) := rfl
theorem br0 {rc : TX12_row} {X : Int32} : BX12_row rc 0 X 0 0 w = fX12_row rc X w := by
  delta BX12_row
  generalize fX12_row = f
  rfl
theorem br1 {rc : TX12_row} {X : Int32} : BX12_row rc 1 X 0 0 w = fX12_statementCode rc X w := by
  delta BX12_row
  generalize fX12_statementCode = f
  rfl
theorem br2 {rc : TX12_row} {X : Int32} : BX12_row rc 2 X 0 0 w = fX12_forCode rc X w := by
  delta BX12_row
  generalize fX12_forCode = f
  rfl
theorem br3 {rc : TX12_row} {X : Int32} : BX12_row rc 3 X 0 0 w = fX12_blockCode rc X w := by
  delta BX12_row
  generalize fX12_blockCode = f
  rfl
theorem rr0 {N : Nat} {X : Int32} : RX12_row (N + 1) 0 X 0 0 w = fX12_row (RX12_row N) X w := by rw [RXr]; exact br0
theorem rr2 {N : Nat} {X : Int32} : RX12_row (N + 1) 2 X 0 0 w = fX12_forCode (RX12_row N) X w := by rw [RXr]; exact br2
theorem rr3 {N : Nat} {X : Int32} : RX12_row (N + 1) 3 X 0 0 w = fX12_blockCode (RX12_row N) X w := by rw [RXr]; exact br3
theorem blk_codes {N blk K lo mid hi s : Nat} {slu : Nat → Nat → Nat} {sps : Nat → List (Nat × Nat)} {ars : List ARE} {l : List Nat} {sts : List STE} (hbk : blk < 9000) (h40 : nxC fM (ars.map Prod.fst) (gi fM 40 blk)) (hA : ∀ x ∈ ars, arS kd wr m fM lu lev cur K x) (h42 : gi fM 42 blk = Int32.ofNat s) (hs : s < 9000) (h16 : LNM fM (gi fM 16 s) l) (hS : ∀ i ∈ l, i < 5000 ∧ (gi fM 19 i = 5 → swS kd wr m fM slu lev cur K sps i)) (hD : swD fM l lo mid) (h39 : nxC fM (sts.map Prod.fst) (gi fM 39 blk)) (hR : rwS kd wr m fM lev cur N sts mid hi) (hlo : lo ≤ mid)
    (hG : GST kd wr m fM lev cur c w) (hf : FITS c (arT ars + swkT fM sps l + rwT sts + 1)) (hl1 : ars.length ≤ 9000) (hl2 : l.length ≤ 9000) (hl3 : sts.length ≤ 9000) :
    ∃ u c', RX12_row (N + 2) 3 (Int32.ofNat blk) 0 0 w = some (0, u) ∧ EST kd wr m fM lev cur lo hi c c' w u (arL fM lu cur K ars ++ swkL fM slu cur K sps l ++ rwL sts) (PBL fM lu slu cur lev K blk ars l sps sts) (4 * (arT ars + swkT fM sps l + rwT sts) + 3) ((arT ars + swkT fM sps l + rwT sts) / 2) ((arT ars + swkT fM sps l + rwT sts) / 2) ((arT ars + swkT fM sps l + rwT sts) / 2) (arT ars + swkT fM sps l + rwT sts) (rwT sts) := by
  unfold FITS at hf
  have hhi := rwS_le sts _ hR
  obtain ⟨f1, hf1⟩ := FU_ge (k := ars.length + 1) (by omega)
  obtain ⟨f2, hf2⟩ := FU_ge (k := l.length + 1) (by omega)
  obtain ⟨f3, hf3⟩ := FU_ge (k := sts.length + 1) (by omega)
  have hbl : ∀ n : Nat, ∀ c : Nat → Nat, upC c 0 (c 0 + 1) 0 = c 0 + 1 ∧ ∀ i, i ≠ 0 → upC c 0 (c 0 + 1) i = c i := fun _ c => ⟨upC_s, fun i hi => upC_n hi⟩
  obtain ⟨u1, o1, E1, _⟩ := EST.op hG (by omega) (a := 23) (x := Int32.ofNat blk) (y := 0) (z := 0)
  obtain ⟨e0, en⟩ := hbl 0 c
  generalize upC c 0 (c 0 + 1) = d1 at E1 e0 en
  obtain ⟨u2, c2, o2, E2⟩ := ar_loop (i := lo) (N := N + 1) (blk := Int32.ofNat blk) ars hA _ f1 d1 u1 h40 (E1 lo).1 (by unfold FITS; rw [e0, en 1 (by omega), en 2 (by omega), en 3 (by omega), en 4 (by omega), en 5 (by omega)]; omega)
  have hb2 := E2.2.2.2.2.2.2.2.1
  rw [e0, en 1 (by omega), en 2 (by omega), en 3 (by omega), en 4 (by omega), en 5 (by omega)] at hb2
  obtain ⟨u3, o3, E3, _⟩ := EST.op E2.1 (by omega) (a := 26) (x := Int32.ofNat blk) (y := 0) (z := 0)
  obtain ⟨k0, kn⟩ := hbl 0 c2
  generalize upC c2 0 (c2 0 + 1) = d3 at E3 k0 kn
  obtain ⟨u4, c4, o4, E4⟩ := sw_walk (N := N + 1) (blk := Int32.ofNat blk) l hS mid _ f2 d3 u3 hD h16 (E3 lo).1 (by unfold FITS; rw [k0, kn 1 (by omega), kn 2 (by omega), kn 3 (by omega), kn 4 (by omega), kn 5 (by omega)]; omega)
  have hb4 := E4.2.2.2.2.2.2.2.1
  rw [k0, kn 1 (by omega), kn 2 (by omega), kn 3 (by omega), kn 4 (by omega), kn 5 (by omega)] at hb4
  obtain ⟨u5, c5, o5, E5⟩ := row_codes (N := N) sts _ mid f3 c4 u4 h39 hR E4.1 (by unfold FITS; omega)
  have hb5 := E5.2.2.2.2.2.2.2.1
  obtain ⟨u6, o6, E6, _⟩ := EST.op E5.1 (by omega) (a := 27) (x := Int32.ofNat blk) (y := 0) (z := 0)
  refine ⟨u6, _, ?_, (((E1 lo).seq (E2.seq ((E3 lo).seq (E4.seq (E5.seq (E6 hi)))))).fls (by simp only [List.nil_append, List.append_nil, List.append_assoc])).wk (fun b q b' q' g hg => ?_) (by omega)⟩
  · rw [rr3]
    unfold fX12_blockCode
    rw [o1, bn2_so, if_pos (inb_iN hbk (by omega)), tc_iN (by omega), (E1 lo).1.fx (k := 40) (by unfold PGM PGX; omega), ltq]
    have h1 : oX12_blockCode_17 (RX12_row (N + 1)) FU (Int32.ofNat blk) (gi fM 40 blk) u1 = fX12_blockCode_17 (RX12_row (N + 1)) (oX12_blockCode_17 (RX12_row (N + 1)) f1) (Int32.ofNat blk) (-1) u2 := by
      rw [hf1, ← Nat.add_assoc]
      exact o2
    rw [h1]
    have h2 : fX12_blockCode_17 (RX12_row (N + 1)) (oX12_blockCode_17 (RX12_row (N + 1)) f1) (Int32.ofNat blk) (-1) u2 = oX12_blockCode_146 (RX12_row (N + 1)) FU (Int32.ofNat blk) (gi fM 16 s) u3 := by
      unfold fX12_blockCode_17
      generalize FU = NN
      rw [if_pos (by decide), o3, bn2_so, if_pos (inb_iN hbk (by omega)), tc_iN (by omega), (E3 lo).1.fx (k := 42) (by unfold PGM PGX; omega), h42, if_pos (inb_iN hs (by omega)), tc_iN (by omega), (E3 lo).1.fx (k := 16) (by unfold PGM PGX; omega), ltq]
    rw [h2]
    have h3 : oX12_blockCode_146 (RX12_row (N + 1)) FU (Int32.ofNat blk) (gi fM 16 s) u3 = fX12_blockCode_146 (RX12_row (N + 1)) (oX12_blockCode_146 (RX12_row (N + 1)) f2) (Int32.ofNat blk) (-1) u4 := by
      rw [hf2, ← Nat.add_assoc]
      exact o4
    rw [h3]
    unfold fX12_blockCode_146
    have h4 : RX12_row (N + 1) 0 (gi fM 39 blk) 0 0 u4 = some (0, u5) := by
      rw [rr0]
      unfold fX12_row
      rw [hf3, ← Nat.add_assoc]
      exact o5
    rw [if_pos (by decide), if_pos (inb_iN hbk (by omega)), tc_iN (by omega), E4.1.fx (k := 39) (by unfold PGM PGX; omega), h4, bn2_so, o6, bn2_so]
  · obtain ⟨b1, q1, ⟨⟨g1, g2⟩, g3⟩, b2, q2, ⟨g4, g5⟩, b3, q3, ⟨⟨g6, g7⟩, g8⟩, b4, q4, g9, b5, q5, g10, ⟨g11, g12⟩, g13⟩ := hg
    subst g2 g3 g5 g7 g8 g13
    exact ⟨g1, b2, b4, b5, g4, g6, ⟨q4, g9, g10⟩, g11, g12⟩
theorem stp_block {N n blk T : Nat} (hn : n < 24000) (h7 : gi fM 7 n = 27) (h8 : gi fM 8 n = Int32.ofNat blk) (hT2 : 2 ≤ T) (h : ∀ c w, GST kd wr m fM lev cur c w → FITS c (T - 1) → ∃ u c', RX12_row N 3 (Int32.ofNat blk) 0 0 w = some (0, u) ∧ EST kd wr m fM lev cur i0 i1 c c' w u L P (4 * (T - 2) + 3) ((T - 2) / 2) ((T - 2) / 2) ((T - 2) / 2) (T - 2) (T - 2)) (hi : i0 ≤ i1) :
    STP kd wr m fM lev cur N i0 i1 n T L (fun b q b' q' g => opW g b 12 0 0 0 ∧ P (b + 1) q b' q' g) := by
  intro c w k hG hf
  unfold FITS at hf
  obtain ⟨u1, o1, E1, _⟩ := EST.op hG (by omega) (a := 12) (x := 0) (y := 0) (z := 0)
  have G1 := (E1 0).1
  have e0 : upC c 0 (c 0 + 1) 0 = c 0 + 1 := upC_s
  have en : ∀ i, i ≠ 0 → upC c 0 (c 0 + 1) i = c i := fun i hi => upC_n hi
  obtain ⟨u2, c2, o2, E2⟩ := h _ u1 G1 (by unfold FITS; rw [e0, en 1 (by omega), en 2 (by omega), en 3 (by omega), en 4 (by omega), en 5 (by omega)]; omega)
  refine ⟨u2, c2, ?_, (((E1 i0).seq E2).fls rfl).wk (fun b q b' q' g hg => ?_) (by omega)⟩
  · unfold fX12_statementCode_7
    rw [if_pos (by decide), if_pos (inb_iN hn (by omega)), tc_iN (by omega), hG.fx (k := 7) (by unfold PGM PGX; omega), h7, if_neg (by decide), o1, bn2_so, if_pos (inb_iN hn (by omega)), G1.fx (k := 7) (by unfold PGM PGX; omega), h7, ltq, if_neg (by decide), if_neg (by decide), if_neg (by decide), if_neg (by decide), if_neg (by decide), if_neg (by decide), if_pos (inb_iN hn (by omega)), G1.fx (k := 8) (by unfold PGM PGX; omega), h8, o2, bn2_so]
  · obtain ⟨b1, q1, ⟨⟨g1, g2⟩, g3⟩, g4⟩ := hg
    subst g2 g3
    exact ⟨g1, g4⟩
end EX
