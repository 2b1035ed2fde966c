/-! PASS 2, THE REFERENCE: assignments -/
section EX
variable {kd wr nm : Nat → Nat} {vv : Nat → Int64} {m lev cur : Nat} {fA fM : Wd} {c c1 c2 c' C TK : Nat → Nat} {SL : Nat → List Nat} {w u v : Wd} {L L1 L2 : List (Nat × Int32)} {P P1 P2 : Nat → Nat → Nat → Nat → Wd → Prop} {i i0 i1 i2 i3 : Nat} {lu : Nat → Nat}
/-- the TYPE of a place; f: 1 for a for -/
def tyP (fM : Wd) (lu : Nat → Nat) (cur f x : Nat) : Int32 := if gi fM 7 x = 4 then tyE fM (lu (nd fM 12 x)) else plT fM cur f (lu (nd fM 12 x))
/-- TYPES that differ -/
def difT (a b : Int32) (tk : Nat) : List (Nat × Int32) := if a ≠ 0 ∧ b ≠ 0 ∧ a ≠ b then [(tk, 4)] else []
/-- faults of targets and what they get; t: their TYPE so far -/
def TGF (fM : Wd) (lu : Nat → Nat) (cur K y : Nat) : Int32 → List Nat → List (Nat × Int32)
  | t, [] => FLX fM lu cur K 0 y 0 ++ difT (TYX fM lu K y) t (nd fM 12 y)
  | t, x :: r => FLX fM lu cur K 1 x 0 ++ difT (tyP fM lu cur 0 x) t (nd fM 12 x) ++ TGF fM lu cur K y (if t = 0 then tyP fM lu cur 0 x else t) r
/-- their codes -/
def TGC (fM : Wd) (lu : Nat → Nat) (cur lev K y : Nat) : Nat → List Nat → Nat → Nat → Wd → Prop
  | j, [], b, b', g => ∃ b2, (FLX fM lu cur K 0 y 0 = [] → CDM fM lu lev K 0 y 0 0 b b2 g) ∧ opW g b2 7 (Int32.ofNat j) 0 0 ∧ b' = b2 + 1
  | j, x :: r, b, b', g => ∃ b2, (FLX fM lu cur K 1 x 0 = [] → CDM fM lu lev K 1 x 0 0 b b2 g) ∧ TGC fM lu cur lev K y (j + 1) r b2 b' g
theorem m_dif {N : Nat} {a b : Int32} {α : Type} {X : α} {Y : Wd → α} {f : α} : (if a = 0 then X else if b = 0 then X else if a = b then X else f) = if a ≠ 0 ∧ b ≠ 0 ∧ a ≠ b then f else X := by
  by_cases h1 : a = 0
  · rw [if_pos h1, if_neg (fun h => h.1 h1)]
  · by_cases h2 : b = 0
    · rw [if_neg h1, if_pos h2, if_neg (fun h => h.2.1 h2)]
    · by_cases h3 : a = b
      · rw [if_neg h1, if_neg h2, if_pos h3, if_neg (fun h => h.2.2 h3)]
      · rw [if_neg h1, if_neg h2, if_neg h3, if_pos ⟨h1, h2, h3⟩]
/-- a fault, if TYPES differ -/
theorem g_dif (h : GST kd wr m fM lev cur c w) {x tk : Nat} {a b : Int32} (hx : x < 24000) (h12 : gi fM 12 x = Int32.ofNat tk) (htk : tk ≤ m) {α : Type} {K : Wd → Option α} :
    ∃ u, (if a = 0 then K w else if b = 0 then K w else if a = b then K w else (if inb (Int32.ofNat x) 24000 = true then bn (fX12_found 4 (gi w 12 (Int32.ofNat x).toNatClampNeg) w) K else none)) = K u ∧ EST kd wr m fM lev cur i i c c w u (difT a b (nd fM 12 x)) (fun b q b' q' _ => b' = b ∧ q' = q) 0 0 0 0 0 0 := by
  have hm := h.1.1.1.1
  have hnd : nd fM 12 x = tk := by
    unfold nd
    rw [h12, tc_iN (by omega)]
  unfold difT
  rw [hnd]
  by_cases q : a ≠ 0 ∧ b ≠ 0 ∧ a ≠ b
  · obtain ⟨u, u1, u2, u3, u4⟩ := g_found h.1 htk (num := 4)
    refine ⟨u, ?_, ?_⟩
    · rw [if_neg q.1, if_neg q.2.1, if_neg q.2.2, if_pos (inb_iN hx (by omega)), tc_iN (by omega), h.fx (k := 12) (by unfold PGM PGX; omega), h12, u1, bn_so]
    · rw [if_pos q]
      exact EST.fl h u2 u3 u4
  · refine ⟨w, ?_, ?_⟩
    · by_cases h1 : a = 0
      · rw [if_pos h1]
      · by_cases h2 : b = 0
        · rw [if_neg h1, if_pos h2]
        · by_cases h3 : a = b
          · rw [if_neg h1, if_neg h2, if_pos h3]
          · exact absurd ⟨h1, h2, h3⟩ q
    · rw [if_neg q]
      exact EST.no h
/-- a target -/
def TGP (kd wr : Nat → Nat) (m : Nat) (fM : Wd) (lu : Nat → Nat) (lev cur K : Nat) (p : Nat × Nat) : Prop := 1 ≤ p.2 ∧ (∃ tk, gi fM 12 p.1 = Int32.ofNat tk ∧ tk ≤ m) ∧ PS kd wr m fM lu lev cur K 1700 p.1 0 p.2
theorem tg_loop {N n y K Ty ty : Nat} (hn : n < 24000) (hy : y < 24000) (h9 : gi fM 9 n = Int32.ofNat y) (h12 : gi fM 12 y = Int32.ofNat ty) (hty : ty ≤ m) (hTy : 1 ≤ Ty) (hV : VS kd wr m fM lu lev cur K 1700 y Ty) : ∀ (ps : List (Nat × Nat)), (∀ p ∈ ps, TGP kd wr m fM lu lev cur K p) → ∀ (X t : Int32) (j fo : Nat) (c : Nat → Nat) (w : Wd), nxC fM (ps.map Prod.fst) X → GST kd wr m fM lev cur c w → FIT c 0 (smT ps + Ty) →
    ∃ u c', oX12_statementCode_109 (RX12_row N) (fo + ps.length + 1) (Int32.ofNat n) t (Int32.ofNat j) X w = some (0, u) ∧ EST kd wr m fM lev cur i i c c' w u (TGF fM lu cur K y t (ps.map Prod.fst)) (fun b q b' q' g => TGC fM lu cur lev K y j (ps.map Prod.fst) b b' g ∧ q' = q) (2 * (smT ps + Ty)) ((smT ps + Ty) / 2) ((smT ps + Ty + 1) / 2) ((smT ps + Ty) / 2) 0 0 := by
  intro ps
  induction ps with
  | nil =>
    intro _ X t j fo c w hX hG hf
    have hs0 : smT [] = 0 := rfl
    rw [hs0] at hf ⊢
    unfold FIT at hf
    have hX1 : X = -1 := hX
    obtain ⟨u2, c2, o2, E2⟩ := hV c 0 w hG.1 (by unfold FIT; omega)
    have E2' := EST.em (i := i) hG E2
    have hb2 := E2'.2.2.2.2.2.2.2.1
    generalize cM c c2 = d2 at E2' hb2
    obtain ⟨u3, o3, E3⟩ := g_dif (i := i) E2'.1 (a := TYX fM lu K y) (b := t) hy h12 hty (K := fun w => fX12_statementCode_215 (RX12_row N) (Int32.ofNat j) w)
    obtain ⟨u4, o4, E4, _⟩ := EST.op E3.1 (by omega) (a := 7) (x := Int32.ofNat j) (y := 0) (z := 0)
    refine ⟨u4, _, ?_, ((E2'.seq (E3.seq (E4 i))).fls (by show _ = FLX fM lu cur K 0 y 0 ++ difT (TYX fM lu K y) t (nd fM 12 y); simp)).wk (fun b q b' q' g hg => ?_) (by omega)⟩
    · show fX12_statementCode_109 (RX12_row N) (oX12_statementCode_109 (RX12_row N) fo) (Int32.ofNat n) t (Int32.ofNat j) X w = _
      unfold fX12_statementCode_109
      rw [hX1, if_pos (by decide), if_pos (inb_iN hn (by omega)), tc_iN (by omega), hG.fx (k := 9) (by unfold PGM PGX; omega), h9, o2, bn2_so]
      have e9 : gi u2 9 n = Int32.ofNat y := (E2'.1.fx (k := 9) (by unfold PGM PGX; omega)).trans h9
      rw [if_pos (inb_iN hn (by omega)), e9]
      refine o3.trans ?_
      unfold fX12_statementCode_215
      rw [o4]
      rfl
    · obtain ⟨b1, q1, ⟨g1, g2⟩, b2, q2, ⟨g3, g4⟩, ⟨g5, g6⟩, g7⟩ := hg
      subst g2 g3 g4
      exact ⟨⟨_, g1, g5, g6⟩, g7⟩
  | cons p r ih =>
    intro hp X t j fo c w hX hG hf
    have hs1 : smT (p :: r) = p.2 + 1 + smT r := rfl
    rw [hs1] at hf ⊢
    unfold FIT at hf
    obtain ⟨hX1, hp24, hX2⟩ := hX
    obtain ⟨hp1, ⟨tk, htk1, htk2⟩, hPS⟩ := hp p List.mem_cons_self
    obtain ⟨u2, c2, o2, E2⟩ := hPS c 0 w hG.1 (by unfold FIT; omega)
    have E2' := EST.em (i := i) hG E2
    have hb2 := E2'.2.2.2.2.2.2.2.1
    generalize cM c c2 = d2 at E2' hb2
    obtain ⟨u3, o3, E3⟩ := g_dif (i := i) E2'.1 (a := tyP fM lu cur 0 p.1) (b := t) hp24 htk1 htk2 (K := fun w => fX12_statementCode_150 (RX12_row N) (oX12_statementCode_109 (RX12_row N) (fo + r.length + 1)) (Int32.ofNat n) t (Int32.ofNat j) (Int32.ofNat p.1) (tyP fM lu cur 0 p.1) w)
    obtain ⟨u4, c4, o4, E4⟩ := ih (fun q hq => hp q (List.mem_cons_of_mem _ hq)) (gi fM 11 p.1) (if t = 0 then tyP fM lu cur 0 p.1 else t) (j + 1) fo d2 u3 hX2 E3.1 (by unfold FIT; omega)
    refine ⟨u4, c4, ?_, ((E2'.seq (E3.seq E4)).fls (by show _ = FLX fM lu cur K 1 p.1 0 ++ difT (tyP fM lu cur 0 p.1) t (nd fM 12 p.1) ++ TGF fM lu cur K y (if t = 0 then tyP fM lu cur 0 p.1 else t) (r.map Prod.fst); simp only [List.append_assoc])).wk (fun b q b' q' g hg => ?_) (by omega)⟩
    · show fX12_statementCode_109 (RX12_row N) (oX12_statementCode_109 (RX12_row N) (fo + r.length + 1)) (Int32.ofNat n) t (Int32.ofNat j) X w = _
      rw [← o4]
      generalize fo + r.length + 1 = ff at o3 ⊢
      unfold fX12_statementCode_109
      rw [hX1, if_neg (nlt0 (by omega)), show RX12_mustBe 1700 5 (Int32.ofNat p.1) 0 0 w = _ from o2, bn2_so]
      refine o3.trans ?_
      unfold fX12_statementCode_150
      have e11 : gi u3 11 p.1 = gi fM 11 p.1 := E3.1.fx (k := 11) (by unfold PGM PGX; omega)
      by_cases q : t = 0
      · rw [if_pos q, if_pos q, ltq, if_pos (inb_iN hp24 (by omega)), tc_iN (by omega), e11, ad1_iN, ltq]
      · rw [if_neg q, if_neg q, ltq, if_pos (inb_iN hp24 (by omega)), tc_iN (by omega), e11, ad1_iN, ltq]
    · obtain ⟨b1, q1, ⟨g1, g2⟩, b2, q2, ⟨g3, g4⟩, g5, g6⟩ := hg
      subst g2 g3 g4
      exact ⟨⟨_, g1, g5⟩, g6⟩
def PAS (fM : Wd) (lu : Nat → Nat) (cur lev K y : Nat) (xs : List Nat) (b q b' q' : Nat) (g : Wd) : Prop := opW g b 12 0 0 0 ∧ TGC fM lu cur lev K y 0 xs (b + 1) b' g ∧ q' = q
theorem stp_assign {N n y K Ty ty T : Nat} {ps : List (Nat × Nat)} (hn : n < 24000) (h7 : gi fM 7 n = 21) (hX : nxC fM (ps.map Prod.fst) (gi fM 8 n)) (hy : y < 24000) (h9 : gi fM 9 n = Int32.ofNat y) (h12 : gi fM 12 y = Int32.ofNat ty) (hty : ty ≤ m) (hTy : 1 ≤ Ty) (hV : VS kd wr m fM lu lev cur K 1700 y Ty) (hps : ∀ p ∈ ps, TGP kd wr m fM lu lev cur K p) (hTT : smT ps + Ty ≤ T) (hl : ps.length ≤ 9000) :
    STP kd wr m fM lev cur N i i n T (TGF fM lu cur K y 0 (ps.map Prod.fst)) (PAS fM lu cur lev K y (ps.map Prod.fst)) := by
  intro c w k hG hf
  unfold FITS at hf
  obtain ⟨u1, o1, E1, _⟩ := EST.op hG (by omega) (a := 12) (x := 0) (y := 0) (z := 0)
  have G1 := (E1 0).1
  have e0 : upC c 0 (c 0 + 1) 0 = c 0 + 1 := upC_s
  have en : ∀ i, i ≠ 0 → upC c 0 (c 0 + 1) i = c i := fun i hi => upC_n hi
  obtain ⟨fo, hfo⟩ := FU_ge (k := ps.length + 1) (by omega)
  obtain ⟨u2, c2, o2, E2⟩ := tg_loop (i := i) (N := N) hn hy h9 h12 hty hTy hV ps hps (gi fM 8 n) 0 0 fo _ u1 hX G1 (by unfold FIT; rw [e0, en 1 (by omega), en 2 (by omega), en 3 (by omega)]; omega)
  refine ⟨u2, c2, ?_, (((E1 i).seq E2).fls rfl).wk (fun b q b' q' g hg => ?_) (by omega)⟩
  · unfold fX12_statementCode_7
    rw [if_pos (by decide), if_pos (inb_iN hn (by omega)), tc_iN (by omega), hG.fx (k := 7) (by unfold PGM PGX; omega), h7, if_neg (by decide), o1, bn2_so, if_pos (inb_iN hn (by omega)), G1.fx (k := 7) (by unfold PGM PGX; omega), h7, ltq, if_pos rfl, if_pos (inb_iN hn (by omega)), G1.fx (k := 8) (by unfold PGM PGX; omega), ltq, hfo, ← Nat.add_assoc]
    exact o2
  · obtain ⟨b1, q1, ⟨⟨g1, g2⟩, g3⟩, g4, g5⟩ := hg
    subst g2 g3
    exact ⟨g1, g4, g5⟩
end EX
