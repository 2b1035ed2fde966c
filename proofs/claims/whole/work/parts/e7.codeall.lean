/-! PASS 2, THE REFERENCE: codeOf -/
/-- what making a procedure's codes comes to -/
def PRQ (kd wr : Nat → Nat) (m : Nat) (fM : Wd) (p T : Nat) (L : List (Nat × Int32)) (PP : Wd → Prop) : Prop :=
  ∀ c w (k56 : Int32 → Wd → Option Wd), TGW kd wr m fM c w → gi w 35 p = gi fM 35 p → FITS c T → ∃ u c', fX12_codeOf_56 k56 (Int32.ofNat p) w = k56 (Int32.ofNat (p + 1)) u ∧ TST kd wr m fM p (p + 1) c c' w u L PP T
abbrev PRE8 : Type := Nat × List (Nat × Int32) × (Wd → Prop)
def prsT : List PRE8 → Nat
  | [] => 0
  | x :: r => x.1 + prsT r
def prsL : List PRE8 → List (Nat × Int32)
  | [] => []
  | x :: r => x.2.1 ++ prsL r
def prsP : List PRE8 → Wd → Prop
  | [], _ => True
  | x :: r, g => x.2.2 g ∧ prsP r g
def prsS (kd wr : Nat → Nat) (m : Nat) (fM : Wd) : List PRE8 → Nat → Prop
  | [], p => gi fM 0 53 = Int32.ofNat p
  | x :: r, p => PRQ kd wr m fM p x.1 x.2.1 x.2.2 ∧ prsS kd wr m fM r (p + 1)
section EX
variable {kd wr nm : Nat → Nat} {vv : Nat → Int64} {m lev cur : Nat} {fA fM : Wd} {c c1 c2 c' d C TK : Nat → Nat} {SL : Nat → List Nat} {w u v : Wd} {L L1 L2 : List (Nat × Int32)} {i i0 i1 i2 i3 p0 p1 p2 T1 T2 : Nat} {P1 P2 : Wd → Prop}
theorem SAM.sub5 {a a' : Nat → Nat} (h : SAM c c' u v) (h1 : ∀ i, i < 5 → c i ≤ a i) (h2 : ∀ i, i < 5 → a' i ≤ c' i) : SAM a a' u v := fun k j hk => by
  have q0 := h1 0 (by omega)
  have q1 := h1 1 (by omega)
  have q2 := h1 2 (by omega)
  have q3 := h1 3 (by omega)
  have r0 := h2 0 (by omega)
  have r1 := h2 1 (by omega)
  have r2 := h2 2 (by omega)
  have r3 := h2 3 (by omega)
  exact h k j (by omega)
theorem KPT.tr5 {u v w : Wd} (h : KPT c' u v) (g : KPT c v w) (hc : ∀ i, i < 5 → c i ≤ c' i) : KPT c u w := fun k j hk => by
  have h0 := hc 0 (by omega)
  have h1 := hc 1 (by omega)
  have h2 := hc 2 (by omega)
  have h3 := hc 3 (by omega)
  exact (h k j (by omega)).trans (g k j hk)
theorem TST.seq (h : TST kd wr m fM p0 p1 c c1 w u L1 P1 T1) (h' : TST kd wr m fM p1 p2 c1 c2 u v L2 P2 T2) (hp : p0 ≤ p1 ∧ p1 ≤ p2 ∧ p2 ≤ 1200) : TST kd wr m fM p0 p2 c c2 w v (L1 ++ L2) (fun g => P1 g ∧ P2 g) (T1 + T2) := by
  obtain ⟨h1, h2, h3, h4, h5, h6, h7, h8, h9, ha⟩ := h
  obtain ⟨g1, g2, g3, g4, g5, g6, g7, g8, g9, ga⟩ := h'
  have k4 := h8 4 (by omega)
  have l4 := g8 4 (by omega)
  refine ⟨g1, by rw [g2, h2, FNL_app], OFF.tr g3 h3, g4.tr5 h4 h8, fun j hj => (g5 j (by omega)).trans (h5 j hj), fun k j q1 q2 hq => (g6 k j q1 q2 (fun p a b => hq p (by omega) b)).trans (h6 k j q1 q2 (fun p a b => hq p a (by omega))), fun p hq => ⟨(g7 p (by omega)).1.trans (h7 p (by omega)).1, (g7 p (by omega)).2.trans (h7 p (by omega)).2⟩, fun j hj => Nat.le_trans (h8 j hj) (g8 j hj), by omega, fun g hg => ⟨ha g ⟨?_, ?_, ?_, ?_⟩, ga g ⟨?_, ?_, ?_, ?_⟩⟩⟩
  · exact (hg.1.sub5 (fun i _ => Nat.le_refl _) g8).tr g4.sam
  · exact fun j q1 q2 => (hg.2.1 j q1 (by omega)).trans (g5 j q2)
  · exact fun k j p q1 q2 q3 q4 q5 q6 => (hg.2.2.1 k j p q1 q2 q3 (by omega) q5 q6).trans (g6 k j q1 q2 (fun p' a b => by rw [q5]; exact of_ne (by omega) (by omega) (by omega)))
  · exact fun p q1 q2 => ⟨(hg.2.2.2 p q1 (by omega)).1.trans (g7 p (by omega)).1, (hg.2.2.2 p q1 (by omega)).2.trans (g7 p (by omega)).2⟩
  · exact hg.1.sub5 h8 (fun i _ => Nat.le_refl _)
  · exact fun j q1 q2 => hg.2.1 j (by omega) q2
  · exact fun k j p q1 q2 q3 q4 q5 q6 => hg.2.2.1 k j p q1 q2 (by omega) q4 q5 q6
  · exact fun p q1 q2 => hg.2.2.2 p (by omega) q2
theorem pr_loop : ∀ (l : List PRE8) (p fo : Nat) (c : Nat → Nat) (w : Wd), prsS kd wr m fM l p → p + l.length ≤ 1200 → TGW kd wr m fM c w → (∀ q, p ≤ q → q < 1200 → gi w 35 q = gi fM 35 q) → FITS c (prsT l) → ∃ u c', oX12_codeOf_56 (fo + l.length + 1) (Int32.ofNat p) w = some u ∧ TST kd wr m fM p (p + l.length) c c' w u (prsL l) (prsP l) (prsT l) := by
  intro l
  induction l with
  | nil =>
    intro p fo c w hS hp hG h35 hf
    have hS' : gi fM 0 53 = Int32.ofNat p := hS
    refine ⟨w, c, ?_, hG, rfl, OFF.rf, KPT.rf, fun _ _ => rfl, fun _ _ _ _ _ => rfl, fun _ _ => ⟨rfl, rfl⟩, fun _ _ => Nat.le_refl _, by omega, fun _ _ => trivial⟩
    show fX12_codeOf_56 (oX12_codeOf_56 fo) (Int32.ofNat p) w = _
    unfold fX12_codeOf_56
    have e53 : gi w 0 53 = gi fM 0 53 := (hG.2.1 0 53 (by unfold PGM PGX; omega)).1
    have hp' : p ≤ 1200 := hp
    rw [e53, hS', if_pos ((le_iN (by omega) (by omega)).mpr (Nat.le_refl _))]
  | cons x r ih =>
    intro p fo c w hS hp hG h35 hf
    rw [List.length_cons] at hp ⊢
    have hs1 : prsT (x :: r) = x.1 + prsT r := rfl
    rw [hs1] at hf ⊢
    unfold FITS at hf
    obtain ⟨u1, c1, o1, E1⟩ := hS.1 c w (oX12_codeOf_56 (fo + r.length + 1)) hG (h35 p (Nat.le_refl _) (by omega)) (by unfold FITS; omega)
    have hb := E1.2.2.2.2.2.2.2.2.1
    have h35' : ∀ q, p + 1 ≤ q → q < 1200 → gi u1 35 q = gi fM 35 q := fun q q1 q2 => (E1.2.2.2.2.2.2.1 q (by omega)).2.trans (h35 q (by omega) q2)
    obtain ⟨u2, c2, o2, E2⟩ := ih (p + 1) fo (upC c1 5 0) u1 hS.2 (by omega) ⟨E1.1.1, E1.1.2.1, by
      obtain ⟨a, b, e, f⟩ := E1.1.2.2.1
      exact ⟨by rw [upC_n (by omega)]; exact a, by rw [upC_n (by omega)]; exact b, by rw [upC_n (by omega)]; exact e, by rw [upC_n (by omega)]; exact f⟩, E1.1.2.2.2.1, by rw [upC_n (by omega)]; exact E1.1.2.2.2.2⟩ h35' (by unfold FITS; rw [upC_n (by omega), upC_n (by omega), upC_n (by omega), upC_n (by omega), upC_n (by omega), upC_s]; omega)
    have E1' : TST kd wr m fM p (p + 1) c (upC c1 5 0) w u1 x.2.1 x.2.2 x.1 := by
      obtain ⟨h1, h2, h3, h4, h5, h6, h7, h8, h9, ha⟩ := E1
      have n0 : upC c1 5 0 0 = c1 0 := upC_n (by omega)
      have n1 : upC c1 5 0 1 = c1 1 := upC_n (by omega)
      have n2 : upC c1 5 0 2 = c1 2 := upC_n (by omega)
      have n3 : upC c1 5 0 3 = c1 3 := upC_n (by omega)
      have n4 : upC c1 5 0 4 = c1 4 := upC_n (by omega)
      refine ⟨⟨h1.1, h1.2.1, by
        obtain ⟨a, b, e, f⟩ := h1.2.2.1
        exact ⟨by rw [n0]; exact a, by rw [n1]; exact b, by rw [n2]; exact e, by rw [n3]; exact f⟩, h1.2.2.2.1, by rw [n4]; exact h1.2.2.2.2⟩, h2, h3, h4, h5, h6, h7, fun j hj => by rw [upC_n (by omega)]; exact h8 j hj, by rw [n0, n1, n2, n3, n4]; exact h9, fun g hg => ha g ⟨fun k j hk => hg.1 k j (by rw [n0, n1, n2, n3]; exact hk), fun j j1 j2 => hg.2.1 j j1 (by rw [n4]; exact j2), hg.2.2.1, hg.2.2.2⟩⟩
    refine ⟨u2, c2, ?_, ?_⟩
    · show fX12_codeOf_56 (oX12_codeOf_56 (fo + r.length + 1)) (Int32.ofNat p) w = _
      rw [o1, o2]
    · have := E1'.seq E2 (by omega)
      rw [show p + (r.length + 1) = p + 1 + r.length by omega]
      exact this
end EX
