/-! BOTH SIDES: STATEMENTS without parts that are STATEMENTS -/
section JT
variable {kd wr nm : Nat → Nat} {vv : Nat → Int64} {m z : Nat} {gA gM : Wd} {lv : Bool} {sl us B : Nat} {stk obl stkF : List Nat} {prs : PRL} {C TK : Nat → Nat} {SL : Nat → List Nat} {t d b : Nat} {fa : Int32} {wA wM : Wd} {γ α : Type} {wd : γ → Wd} {S : γ → α → Wd → Prop} {P : (Nat → Nat) → Nat → Wd → Wd → Prop}
/-- as SPC, from where both go on -/
def SPL (kd wr nm : Nat → Nat) (vv : Nat → Int64) (m z : Nat) (gA gM : Wd) (rA : Wd → Option (Int32 × Wd)) (rM : Wd → Option (Option Int32 × Wd)) (pre : Nat → Prop) (d β : Nat) (W : Wd → Wd → Nat → Nat → Nat → List Nat → PRL → Nat → Nat → CV → CV → Prop) : Prop :=
  ∀ (γ α : Type) (wd : γ → Wd) (S : γ → α → Wd → Prop) (stkF : List Nat) (B : Nat) (stk obl : List Nat) (p sg q : Nat) (r : PRL) (C TK : Nat → Nat) (SL : Nat → List Nat) (t b : Nat) (fa : Int32) (wA wM : Wd) (P : (Nat → Nat) → Nat → Wd → Wd → Prop) (KA : Int32 → Wd → Option γ) (KM : Int32 → Wd → Option (Option α × Wd)),
    stk ≠ [] → STBJ stk ((p, sg, q) :: r) obl P → STJ kd wr nm vv m z gA gM true 0 (C 1) stk ((p, sg, q) :: r) C TK SL t d b fa wA wM → P C t wA wM → (pre t ∧ C 0 ≤ 2 * t + 98 ∧ (d ≤ 40 ∨ kd t = 5) ∧ OBK d r C obl) → 2800 ≤ b → b + β ≤ 3900 →
    (∀ lv' x t' fa' uA uM n C' TK' SL' q', STJ kd wr nm vv m z gA gM lv' 0 (C' 1) stk ((p, sg, q') :: r) C' TK' SL' t' d (b + β) fa' uA uM → (lv' = true → true = true ∧ t ≤ t' ∧ t' ≤ m ∧ LEC C C' ∧ C' 0 + 2 * t ≤ C 0 + 2 * t' + 1 ∧ C' 6 + C 4 = C' 4 + C 6 ∧ P C' t' uA uM ∧ gi uM 11 n = -1 ∧ n < C' 0 ∧ C 0 ≤ n ∧ FACT stk ((p, sg, q') :: r) obl (C 0) C' t' n (fun fA fM => W fA fM t t' n stk ((p, sg, q) :: r) q q' C C') uA uM) → (lv' = false → t' = z - 1) → GLJ kd wr nm z gA gM wd lv' stkF fa' B (KA x uA) (KM (Int32.ofNat n) uM) S) →
    GLJ kd wr nm z gA gM wd true stkF fa B (bn2 (rA wA) KA) (be (rM wM) KM) S
abbrev PW (kd : Nat → Nat) (d : Nat) (W : Wd → Wd → PSTT) (fA fM : Wd) (s e n : Nat) (stk : List Nat) (prs : PRL) (q q' : Nat) (C C' : CV) : Prop := ∀ v, PLNX kd fA (si fM 44 n v) (W fA (si fM 44 n v)) d s e n stk prs q q' C C'
theorem EXTL.s44 {lo pd n : Nat} {C : Nat → Nat} {w u : Wd} {v : Int32} (h : EXTL lo C stk prs obl pd w u) (hn : n < lo ∨ C 0 ≤ n) : EXTL lo C stk prs obl pd w (si u 44 n v) := by
  intro k j hk
  have q : ¬ (k = 44 ∧ j = n) := fun q => by omega
  rw [gi_si1 q]
  exact h k j hk
theorem upC_u {i a c : Nat} : upC (upC C i a) i c = upC C i c := by
  funext j
  unfold upC
  by_cases q : j = i
  · rw [if_pos q, if_pos q]
  · rw [if_neg q, if_neg q, if_neg q]
theorem upC_le {i a : Nat} (h : C i ≤ a) : LEC C (upC C i a) := fun j => by
  by_cases q : j = i
  · rw [q, upC_s]; exact h
  · rw [upC_n q]; exact Nat.le_refl _
/-- a node at the end of a STATEMENT -/
theorem spl_end (hT : TOKS kd wr nm vv m z gA gM) {C0 : Nat → Nat} {t0 β : Nat} {KA : Int32 → Wd → Option γ} {KM : Int32 → Wd → Option (Option α × Wd)} {W : Wd → Wd → Nat → Nat → Nat → List Nat → PRL → Nat → Nat → CV → CV → Prop} {p sg q q1 : Nat} {r : PRL}
    (hS : STBJ stk ((p, sg, q1) :: r) obl P) (hst : STJ kd wr nm vv m z gA gM lv 0 (C 1) stk ((p, sg, q1) :: r) C TK SL t d (b + β) fa wA wM) {Ψ : Wd → Wd → Prop} (hl : lv = true → t0 ≤ t ∧ t ≤ m ∧ LEC C0 C ∧ C 0 + 2 * t0 ≤ C0 0 + 2 * t ∧ C0 0 ≤ 2 * t0 + 98 ∧ C 6 + C0 4 = C 4 + C0 6 ∧ P C t wA wM ∧ FACT stk ((p, sg, q1) :: r) obl (C0 0) C t (C 0) Ψ wA wM) (hd : lv = false → t = z - 1) {a1 a2 a3 a4 a5 x : Int32}
    (hW : lv = true → ∀ fA fM v, Ψ fA (si fM 44 (C 0) v) → gi fM 7 (C 0) = a1 → gi fM 8 (C 0) = a2 → gi fM 9 (C 0) = a3 → gi fM 10 (C 0) = a4 → gi fM 12 (C 0) = a5 → gi fM 13 (C 0) = hdM stk → W fA (si fM 44 (C 0) v) t0 t (C 0) stk ((p, sg, q) :: r) q q1 C0 (upC C 0 (C 0 + 1)))
    (H : ∀ lv' x t' fa' uA uM n C' TK' SL' q', STJ kd wr nm vv m z gA gM lv' 0 (C' 1) stk ((p, sg, q') :: r) C' TK' SL' t' d (b + β) fa' uA uM → (lv' = true → true = true ∧ t0 ≤ t' ∧ t' ≤ m ∧ LEC C0 C' ∧ C' 0 + 2 * t0 ≤ C0 0 + 2 * t' + 1 ∧ C' 6 + C0 4 = C' 4 + C0 6 ∧ P C' t' uA uM ∧ gi uM 11 n = -1 ∧ n < C' 0 ∧ C0 0 ≤ n ∧ FACT stk ((p, sg, q') :: r) obl (C0 0) C' t' n (fun fA fM => ∀ v, W fA (si fM 44 n v) t0 t' n stk ((p, sg, q) :: r) q q' C0 C') uA uM) → (lv' = false → t' = z - 1) → GLJ kd wr nm z gA gM wd lv' stkF fa' B (KA x uA) (KM (Int32.ofNat n) uM) S) :
    GLJ kd wr nm z gA gM wd lv stkF fa B (KA x wA) (bn2 (fX12_node a1 a2 a3 a4 a5 wM) KM) S := by
  have hS2 : STBJ stk ((p, sg, q1) :: r) obl (fun C' t' a c => (lv = true → P C' t' a c) ∧ (lv = true → PFA stk ((p, sg, q1) :: r) obl (C0 0) C t (C 0) Ψ C' t' a c)) := STBJ.and (STBJ.if (fun _ => hS)) (STBJ.if (fun _ => PFA.stb))
  refine J.node (P := fun C' t' a c => (lv = true → P C' t' a c) ∧ (lv = true → PFA stk ((p, sg, q1) :: r) obl (C0 0) C t (C 0) Ψ C' t' a c)) hT hS2 hst (fun h => ⟨fun _ => (hl h).2.2.2.2.2.2.1, fun _ => ⟨LEC.rf, Nat.le_refl _, (hl h).2.2.2.2.2.2.2⟩⟩) (fun h => by have := hl h; omega) (fun uM hst1 hl1 => ?_)
  have hst1' : STJ kd wr nm vv m z gA gM lv 0 ((upC C 0 (C 0 + 1)) 1) stk ((p, sg, q1) :: r) (upC C 0 (C 0 + 1)) TK SL t d (b + β) fa wA uM := by
    rw [upC_n (by omega)]; exact hst1
  refine H lv x t fa wA uM (C 0) (upC C 0 (C 0 + 1)) TK SL q1 hst1' (fun h => ?_) hd
  obtain ⟨c1, c2, c3, c4, c5, c6, c7, c8⟩ := hl h
  obtain ⟨⟨f1, f2⟩, n1, n2, n3, n4, n5, n6, n7⟩ := hl1 h
  refine ⟨rfl, c1, c2, c3.tr (upC_le (by omega)), by rw [upC_s]; omega, by rw [upC_n (by omega), upC_n (by omega)]; exact c6, f1 h, n5, by rw [upC_s]; omega, c3 0, fun fA fM hA hM hE v => ?_⟩
  have g : ∀ k, 7 ≤ k ∧ k ≤ 10 ∨ k = 12 ∨ k = 13 ∨ k = 44 ∨ k = 45 → gi fM k (C 0) = gi uM k (C 0) := fun k hk => (hM k (C 0) (Or.inl ⟨hk, c3 0, by rw [upC_s]; omega⟩)).1
  exact hW h fA fM v ((f2 h).2.2 fA _ (hA.wk (upC_le (by omega)) (Nat.le_refl _) (fun _ h _ => h)) ((hM.wk (Nat.le_refl _) (upC_le (by omega)) (Or.inl rfl)).s44 (Or.inr (Nat.le_refl _))) (EXF.tr hE (EXF.off (OFF.si (P := fun k j => k = 44 ∧ j = C 0) ⟨rfl, rfl⟩) (fun k j hk => by omega)))) ((g 7 (by omega)).trans n1) ((g 8 (by omega)).trans n2) ((g 9 (by omega)).trans n3) ((g 10 (by omega)).trans n4) ((g 12 (by omega)).trans n6) ((g 13 (by omega)).trans n7)
theorem a_goto {p : Int32 × Wd} {f : Wd → Option (Int32 × Wd)} {K : Int32 → Wd → Option γ} : bn2 (lt2 p fun _ w13 => lt (fX9_need 14 w13) fun w14 => bn2 (f w14) fun _ w16 => lt2 (fX0_put__ 50 w16) fun _ w18 => some ((0 : Int32), w18)) K = lt (fX9_need (Int32.ofNat 14) p.2) fun w14 => bn2 (f w14) fun _ w16 => K 0 (fX0_put__ 50 w16).2 := by
  have h : (lt2 p fun _ w13 => lt (fX9_need 14 w13) fun w14 => bn2 (f w14) fun _ w16 => lt2 (fX0_put__ 50 w16) fun _ w18 => some ((0 : Int32), w18)) = bn2 (f (fX9_need (Int32.ofNat 14) p.2)) (fun _ w16 => some ((0 : Int32), (fX0_put__ 50 w16).2)) := rfl
  rw [h, bn2_bn2]
  rfl
theorem m_some {x : Int32} {f : Wd → Option (Int32 × Wd)} {w : Wd} {K : Int32 → Wd → Option (Option α × Wd)} : be (bn2 (f w) fun x15 w16 => some (some x15, w16)) K = bn2 (f w) K := by
  rw [be_bn2]
  rfl
/-- go to -/
theorem spl_goto (hT : TOKS kd wr nm vv m z gA gM) {β : Nat} {W : Wd → Wd → PSTT} : SPL kd wr nm vv m z gA gM (fun w => lt2 (fX0_put__ 40 w) fun _ w13 => lt (fX9_need 14 w13) fun w14 => bn2 (RX2_typed 900 11 (Int32.ofNat d) 1 0 w14) fun _ w16 => lt2 (fX0_put__ 50 w16) fun _ w18 => some ((0 : Int32), w18))
    (fun w => be (fX12_taken w) fun _ w10 => be (RX12_variable 900 3 0 0 0 w10) fun x12 w13 => bn2 (fX12_node 24 x12 0 0 (gi w 0 7) w13) fun x15 w16 => some (some x15, w16)) (fun t => kd t = 14) d β (PW kd d W) := by
  intro γ α wd S stkF B stk obl p sg q r C TK SL t b fa wA wM P KA KM hne hS hst hP hpre hb hB H
  obtain ⟨hk, hc, hd⟩ := hpre
  have hd40 : d ≤ 40 := by omega
  have hJ := (hst.jl rfl).2
  show GLJ kd wr nm z gA gM wd true stkF fa B (bn2 (lt2 (fX0_put__ 40 wA) fun _ w13 => lt (fX9_need 14 w13) fun w14 => bn2 (RX2_typed 900 11 (Int32.ofNat d) 1 0 w14) fun _ w16 => lt2 (fX0_put__ 50 w16) fun _ w18 => some ((0 : Int32), w18)) KA) (be (be (fX12_taken wM) fun _ w10 => be (RX12_variable 900 3 0 0 0 w10) fun x12 w13 => bn2 (fX12_node 24 x12 0 0 (gi wM 0 7) w13) fun x15 w16 => some (some x15, w16)) KM) S
  rw [a_goto, be_be]
  refine GLJ.tk (x := 266) (fun _ => by rw [m_taken hJ.2.1 hd40 (by omega), m_expect (x := 266) hJ.2.1 hd40 (k := 14) rfl (by omega) hk]) (J.need (P := P) hT hS (hst.pre hT (e_put__ (a := 40) (w := wA))) (fun _ => hS _ _ _ _ _ _ _ _ hP (STEP.pre e_put__)) (c := 14) (by omega) (fun _ => hd40) hb (by omega) rfl (fun lv1 t1 fa1 uA uM hst1 hl1 hd1 => ?_))
  rw [be_be]
  refine J.aim (P := fun C' t' a c => lv1 = true → P C' t' a c) hT (STBJ.if fun _ => hS) hst1 (fun h _ => (hl1 h).2.2.2.2) ⟨by omega, fun _ => hd40⟩ hb (by omega) (fun lv2 x t2 fa2 vA vM n hst2 hl2 hd2 => ?_)
  rw [m_some (x := 0)]
  have h7 : gi wM 0 7 = Int32.ofNat t := hJ.2.1.2.2.2.1
  rw [h7]
  have hst3 : STJ kd wr nm vv m z gA gM lv2 0 ((upC C 0 (n + 1)) 1) stk ((p, sg, q) :: r) (upC C 0 (n + 1)) TK SL t2 d (b + β) fa2 (fX0_put__ 50 vA).2 vM := by
    rw [upC_n (by omega)]
    exact (hst2.pre hT e_put__).bw (Or.inl (by omega))
  have hC0 : (upC C 0 (n + 1)) 0 = n + 1 := upC_s
  refine spl_end (C0 := C) (t0 := t) (q := q) (W := fun fA fM => PLNX kd fA fM (W fA fM) d) (Ψ := fun fA fM => XAM kd (hdM stk) (C 0) n d (t + 1) t2 fA fM) hT hS hst3 (fun h => ?_) hd2 (fun h fA fM v hy g7 g8 g9 g10 g12 g13 => ?_) H
  · obtain ⟨y1, y2, y3, y4, y5, y6, y7, y8⟩ := hl2 h
    obtain ⟨z1, z2, z3, z4, z5⟩ := hl1 y1
    refine ⟨by omega, y3, upC_le (by omega), by rw [hC0]; omega, hc, by rw [upC_n (by omega), upC_n (by omega)]; omega, hS _ _ _ _ _ _ _ _ (y6 y1) (STEP.pre e_put__), ?_⟩
    have f1 := (y8.step LEC.rf (Nat.le_refl _) (STEP.pre (t := t2) (e_put__ (a := 50) (w := vA)))).wk (Nat.le_refl _) LEC.rf (Nat.le_refl _) (Or.inr (Or.inl (Nat.le_refl _))) (fun _ h _ => h) (fun y hy _ => ⟨y, hy, rfl⟩) (fun _ h _ => h)
    rw [z3] at f1
    exact f1
  · obtain ⟨y1, y2, y3, y4, y5, y6, y7, y8⟩ := hl2 h
    refine ⟨p, sg, q, r, rfl, Or.inr (Or.inr (Or.inr (Or.inl ⟨hk, (gi_si1 (by omega)).trans g7, n, (gi_si1 (by omega)).trans g8, hC0, hy, rfl, ?_⟩)))⟩
    rw [hC0, upC_u]
/-- nothing -/
theorem spl_none (hT : TOKS kd wr nm vv m z gA gM) {β : Nat} {W : Wd → Wd → PSTT} : SPL kd wr nm vv m z gA gM (fun w => some ((0 : Int32), w)) (fun w => bn2 (fX12_node 20 0 0 0 (gi w 0 7) w) fun x63 w64 => some (some x63, w64)) (fun t => ¬ (kd t = 2 ∨ kd t = 4 ∨ kd t = 14 ∨ kd t = 15 ∨ kd t = 18 ∨ kd t = 32)) d β (PW kd d W) := by
  intro γ α wd S stkF B stk obl p sg q r C TK SL t b fa wA wM P KA KM hne hS hst hP hpre hb hB H
  obtain ⟨hk, hc, hd⟩ := hpre
  have hJ := (hst.jl rfl).2
  show GLJ kd wr nm z gA gM wd true stkF fa B (KA 0 wA) (be (bn2 (fX12_node 20 0 0 0 (gi wM 0 7) wM) fun x63 w64 => some (some x63, w64)) KM) S
  rw [m_some (x := 0) (w := wM) (f := fun w => fX12_node 20 0 0 0 (gi wM 0 7) w)]
  refine spl_end (C0 := C) (t0 := t) (q := q) (W := fun fA fM => PLNX kd fA fM (W fA fM) d) (Ψ := fun _ _ => True) hT hS (hst.bw (Or.inl (by omega))) (fun h => ⟨Nat.le_refl _, hJ.2.1.2.1, LEC.rf, Nat.le_refl _, hc, Nat.add_comm _ _, hP, fun _ _ _ _ _ => trivial⟩) (fun h => absurd h (by decide)) (fun h fA fM v hy g7 g8 g9 g10 g12 g13 => ?_) H
  exact ⟨p, sg, q, r, rfl, Or.inr (Or.inr (Or.inr (Or.inr (Or.inr (Or.inr (Or.inr ⟨hk, (gi_si1 (by omega)).trans g7, rfl, rfl, rfl, rfl⟩))))))⟩
end JT
