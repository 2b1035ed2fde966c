/-! BOTH SIDES: what a STATEMENT's functions are -/
theorem bn2_bn {α β γ : Type} (a : Option Wd) (f : Wd → Option (α × β)) (K : α → β → Option γ) : bn2 (bn a f) K = bn a (fun w => bn2 (f w) K) := by
  cases a <;> rfl
theorem bn2_bn2 {α β γ δ ε : Type} (a : Option (δ × ε)) (f : δ → ε → Option (α × β)) (K : α → β → Option γ) : bn2 (bn2 a f) K = bn2 a (fun x w => bn2 (f x w) K) := by
  cases a <;> rfl
theorem be_be {α β γ : Type} (a : Option (Option α × Wd)) (f : α → Wd → Option (Option β × Wd)) (K : β → Wd → Option (Option γ × Wd)) : be (be a f) K = be a (fun x w => be (f x w) K) := by
  rcases a with _ | ⟨_ | x, w⟩ <;> rfl
theorem be_bn2 {β γ δ : Type} (a : Option (δ × Wd)) (f : δ → Wd → Option (Option β × Wd)) (K : β → Wd → Option (Option γ × Wd)) : be (bn2 a f) K = bn2 a (fun x w => be (f x w) K) := by
  cases a <;> rfl
section JT
variable {kd wr nm : Nat → Nat} {vv : Nat → Int64} {m z : Nat} {gA gM : Wd} {lv : Bool} {sl us B : Nat} {stk obl stkF : List Nat} {prs : PRL} {C TK : Nat → Nat} {SL : Nat → List Nat} {t d b : Nat} {fa : Int32} {wA wM : Wd} {γ α : Type} {wd : γ → Wd} {S : γ → α → Wd → Prop} {P : (Nat → Nat) → Nat → Wd → Wd → Prop}
theorem STJ.bw {b' : Nat} (h : STJ kd wr nm vv m z gA gM lv sl us stk prs C TK SL t d b fa wA wM) (hb : b ≤ b' ∨ lv = true) : STJ kd wr nm vv m z gA gM lv sl us stk prs C TK SL t d b' fa wA wM := by
  rcases h with h | ⟨h1, h2, h3⟩
  · exact Or.inl h
  · refine Or.inr ⟨h1, h2, ?_⟩
    obtain ⟨a, c, e, TK', SL', ns, nsc, f, g⟩ := h3
    rcases hb with hb | hb
    · exact ⟨a, c, e, TK', SL', ns, nsc, f, by omega⟩
    · rw [hb] at h1; exact absurd h1 (by decide)
theorem STBJ.pr {prs' : PRL} (h : STBJ stk prs obl P) (hp : ∀ p ∈ prs', ∃ q ∈ prs, q.1 = p.1) : STBJ stk prs' obl P := fun C t wA wM C' t' uA uM hP hs => h _ _ _ _ _ _ _ _ hP ⟨hs.1, hs.2.1, hs.2.2.1, hs.2.2.2.1.ctx (fun _ h _ => h) (fun p h _ => hp p h) (fun _ h _ => h), hs.2.2.2.2⟩
theorem pr_same {p sg q sg' q' : Nat} {r : PRL} : ∀ y ∈ ((p, sg', q') :: r : PRL), ∃ x ∈ ((p, sg, q) :: r : PRL), x.1 = y.1 := fun y hy => by
  rcases List.mem_cons.mp hy with rfl | hy
  · exact ⟨_, List.mem_cons_self, rfl⟩
  · exact ⟨y, List.mem_cons_of_mem _ hy, rfl⟩
/-- what's marked as not closed is older -/
def OBK (d : Nat) (r : PRL) (C : Nat → Nat) (obl : List Nat) : Prop := r.length ≤ d ∧ ∀ x ∈ obl, x < C 3 ∨ (9000 ≤ x ∧ x ≤ 9000 + C 2)
theorem OBK.le {d d' : Nat} {r : PRL} {C' : Nat → Nat} (h : OBK d r C obl) (hC : LEC C C') (hd : d ≤ d' := by omega) : OBK d' r C' obl := by
  refine ⟨Nat.le_trans h.1 hd, fun x hx => ?_⟩
  have h2 := hC 2
  have h3 := hC 3
  rcases h.2 x hx with q | q
  · exact Or.inl (by omega)
  · exact Or.inr (by omega)
/-- what both functions of a STATEMENT, or of a part like it, come to -/
def SPC (kd wr nm : Nat → Nat) (vv : Nat → Int64) (m z : Nat) (gA gM : Wd) (rA : Wd → Option (Int32 × Wd)) (rM : Wd → Option (Option Int32 × Wd)) (ne : Bool) (pre : CV → Nat → Prop) (d β : Nat) (W : Wd → Wd → Nat → Nat → Nat → List Nat → PRL → Nat → Nat → CV → CV → Prop) : Prop :=
  ∀ (γ α : Type) (wd : γ → Wd) (S : γ → α → Wd → Prop) (stkF : List Nat) (B : Nat) (lv : Bool) (stk obl : List Nat) (p sg q : Nat) (r : PRL) (C TK : Nat → Nat) (SL : Nat → List Nat) (t b : Nat) (fa : Int32) (wA wM : Wd) (P : (Nat → Nat) → Nat → Wd → Wd → Prop) (KA : Int32 → Wd → Option γ) (KM : Int32 → Wd → Option (Option α × Wd)),
    (ne = true → stk ≠ []) → STBJ stk ((p, sg, q) :: r) obl P → STJ kd wr nm vv m z gA gM lv 0 (C 1) stk ((p, sg, q) :: r) C TK SL t d b fa wA wM → (lv = true → P C t wA wM) → (lv = true → pre C t ∧ C 0 ≤ 2 * t + 98 ∧ (d ≤ 40 ∨ kd t = 5) ∧ OBK d r C obl) → 2800 ≤ b → b + β ≤ 3900 →
    (∀ lv' x t' fa' uA uM n C' TK' SL' q', STJ kd wr nm vv m z gA gM lv' 0 (C' 1) stk ((p, sg, q') :: r) C' TK' SL' t' d (b + β) fa' uA uM → (lv' = true → lv = true ∧ t ≤ t' ∧ t' ≤ m ∧ LEC C C' ∧ C' 0 + 2 * t ≤ C 0 + 2 * t' + 1 ∧ C' 6 + C 4 = C' 4 + C 6 ∧ P C' t' uA uM ∧ gi uM 11 n = -1 ∧ n < C' 0 ∧ C 0 ≤ n ∧ FACT stk ((p, sg, q') :: r) obl (C 0) C' t' n (fun fA fM => W fA fM t t' n stk ((p, sg, q) :: r) q q' C C') uA uM) → (lv' = false → t' = z - 1) → GLJ kd wr nm z gA gM wd lv' stkF fa' B (KA x uA) (KM (Int32.ofNat n) uM) S) →
    GLJ kd wr nm z gA gM wd lv stkF fa B (bn2 (rA wA) KA) (be (rM wM) KM) S
theorem upD_s {C : Nat → Nat} {i v : Nat} : upD C i v i = C i + v := upC_s
theorem upD_n {C : Nat → Nat} {i v j : Nat} (h : j ≠ i) : upD C i v j = C j := upC_n h
theorem FACT.now {lo pd tf : Nat} {Cf : Nat → Nat} {Φ : Wd → Wd → Prop} {uA uM : Wd} (h : FACT stk prs obl lo Cf tf pd Φ uA uM) : Φ uA uM := h uA uM EXTA.rf (fun _ _ _ => ⟨rfl, rfl⟩) EXF.rf
/-- a STATEMENT in a SCOPE of its own -/
theorem spc_inner (hT : TOKS kd wr nm vv m z gA gM) {d β : Nat} {rc : TX4_block} {rm : TX12_block} {W : Wd → Wd → PSTT} (h : SPC kd wr nm vv m z gA gM (fun w => rc 5 (Int32.ofNat d) 0 0 w) (fun w => rm 4 0 0 0 w) true (fun _ _ => True) d β (fun fA fM => W fA fM d)) :
    SPC kd wr nm vv m z gA gM (fun w => fX4_scoped rc (Int32.ofNat d) w) (fun w => fX12_inner rm w) false (fun C t => 3 * C 2 + 3 ≤ wr t) d (β + 1) (fun fA fM => INS9 fM (W fA fM) d) := by
  intro γ α wd S stkF B lv stk obl p sg q r C TK SL t b fa wA wM P KA KM hne hS hst hP hpre hb hB H
  show GLJ kd wr nm z gA gM wd lv stkF fa B (bn2 (fX4_scoped rc (Int32.ofNat d) wA) KA) (be (fX12_inner rm wM) KM) S
  unfold fX4_scoped fX12_inner
  rw [bn2_bn, ltq, be_bn2]
  refine J.enter (KM := fun _ w4 => be (be (rm 4 0 0 0 w4) fun x5 w6 => lt (si w6 0 29 (gi wM 0 29)) fun w8 => some (some x5, w8)) KM) hT hS hst hP (by omega) hb (fun hl => (hpre hl).1) (fun s uA uM hst1 hs1 hl1 => ?_)
  show GLJ kd wr nm z gA gM wd lv stkF fa B (bn2 (bn2 (rc 5 (Int32.ofNat d) 0 0 uA) fun _ w3 => bn (fX7_leave w3) fun w4 => some (0, w4)) KA) (be (be (rm 4 0 0 0 uM) fun x5 w6 => lt (si w6 0 29 (gi wM 0 29)) fun w8 => some (some x5, w8)) KM) S
  rw [bn2_bn2, be_be]
  have hC2 : LEC C (upD C 2 1) := fun i => by
    by_cases q2 : i = 2
    · rw [q2, upD_s]; omega
    · rw [upD_n q2]; exact Nat.le_refl _
  -- what is kept inside
  have hin2 : ∀ s' ∈ s :: stk, lv = true → s' < C 2 → s' ∈ stk := fun s' hs' hl hlt => by
    rcases List.mem_cons.mp hs' with rfl | hs'
    · have := hs1 hl; omega
    · exact hs'
  let Φ : Wd → Wd → Prop := fun _ fM => gi fM 14 (C 2) = hdM stk ∧ gi fM 17 (C 2) = -1 ∧ gi fM 15 (C 2) = Int32.ofNat p
  let P' : (Nat → Nat) → Nat → Wd → Wd → Prop := fun C' t' a b' => (lv = true → PF C t stk ((p, sg, q) :: r) obl wA wM C' t' a b') ∧ (lv = true → PFA (s :: stk) ((p, sg, q) :: r) obl (C 0) (upD C 2 1) t (C 0) Φ C' t' a b')
  have hS' : STBJ (s :: stk) ((p, sg, q) :: r) obl P' := STBJ.and (STBJ.if (fun hl => PF.stb (fun s' hs' => hin2 s' hs' hl) (fun y hy _ => ⟨y, hy, rfl⟩) (fun _ hy _ => hy))) (STBJ.if (fun _ => PFA.stb))
  have hst1' : STJ kd wr nm vv m z gA gM lv 0 ((upD C 2 1) 1) (s :: stk) ((p, sg, q) :: r) (upD C 2 1) TK SL t d (b + 1) fa uA uM := by
    rw [upD_n (by omega)]; exact hst1
  have hP' : lv = true → P' (upD C 2 1) t uA uM := fun hl => by
    obtain ⟨a1, a2, a3, a4, a5, a6⟩ := hl1 hl
    refine ⟨fun _ => ⟨hC2, Nat.le_refl _, fun k j hk => (a5 k j (by omega)).1, fun k j hk => a6 k j (by omega), (STJ.exe (hl ▸ hst) (hl ▸ hst1) (fun hh => by rw [(a6 0 10 (by omega)).1]; exact hh) (EXS.off a6 (fun k j hk => by omega)))⟩, fun _ => ⟨LEC.rf, Nat.le_refl _, fun fA fM hA hM hE => ?_⟩⟩
    refine ⟨?_, ?_, ?_⟩
    · rw [(hM 14 (C 2) (Or.inr (Or.inr (Or.inl ⟨by omega, by rw [upD_s]; omega⟩)))).1]; exact a2
    · rw [(hM 17 (C 2) (Or.inr (Or.inr (Or.inl ⟨by omega, by rw [upD_s]; omega⟩)))).1]; exact a4
    · rw [(hM 15 (C 2) (Or.inr (Or.inr (Or.inl ⟨by omega, by rw [upD_s]; omega⟩)))).1, a3]
      obtain ⟨_, _, _, _, p9, _, _, _, e9, e8⟩ := (hst.jl hl).2.2.2.2.2.2.2.2.2.2.2.2.1
      injection e9 with e9 _
      injection e9 with e9 _
      rw [e8, e9]
  refine h γ α wd S stkF B lv (s :: stk) obl p sg q r (upD C 2 1) TK SL t (b + 1) fa uA uM P' _ _ (fun _ => by simp) hS' hst1' hP' (fun hl => ⟨trivial, by rw [upD_n (by omega)]; exact (hpre hl).2.1, (hpre hl).2.2.1, (hpre hl).2.2.2.le hC2⟩) (by omega) (by omega) (fun lv2 x t2 fa2 vA vM n C2 TK2 SL2 q2 hst2 hl2 hd2 => ?_)
  rw [bn2_bn]
  show GLJ kd wr nm z gA gM wd lv2 stkF fa2 B (bn (fX7_leave vA) fun w4 => KA 0 w4) (lt (si vM 0 29 (gi wM 0 29)) fun w8 => KM (Int32.ofNat n) w8) S
  have hl1' : lv2 = true → gi wM 0 29 = hdM stk := fun hl => (hst.jl (hl2 hl).1).2.2.2.2.2.2.2.2.2.1
  refine J.leave (P := fun _ _ _ _ => True) (obl := obl) hT (fun _ _ _ _ _ _ _ _ _ _ => trivial) hst2 (fun _ => trivial) (by omega) hl1' (fun yA yM hst3 hl3 => ?_)
  refine H lv2 0 t2 fa2 yA yM n C2 TK2 SL2 q2 (hst3.bw (Or.inl (by omega))) (fun hl => ?_) hd2
  obtain ⟨b1, b2, b3, b4, b5, b6, b7, b8, b9, b10, b11⟩ := hl2 hl
  obtain ⟨_, o1, o2⟩ := hl3 hl
  have hsq := hs1 b1
  subst hsq
  have hstep : ∀ (stk' : List Nat) (prs' : PRL), STEP C2 t2 stk' prs' obl vA vM C2 t2 yA yM := fun stk' prs' => ⟨LEC.rf, Nat.le_refl _, fun k j hk => (o1 k j (by omega)).1, fun k j hk => o2 k j (by omega), EXF.off o2 (fun k j hk => by omega)⟩
  have hall : STEP C t stk ((p, sg, q) :: r) obl wA wM C2 t2 yA yM := STEP.tr (b7.1 b1) (hstep _ _)
  refine ⟨b1, b2, b3, hC2.tr b4, ?_, ?_, hS _ _ _ _ _ _ _ _ (hP b1) hall, ?_, b9, ?_, ?_⟩
  · rw [upD_n (by omega)] at b5; exact b5
  · rw [upD_n (by omega), upD_n (by omega)] at b6; exact b6
  · rw [(o2 11 n (by omega)).1]; exact b8
  · rw [upD_n (by omega)] at b10; exact b10
  · have f1 := (b7.2 b1).2.2.step (b7.2 b1).1 (b7.2 b1).2.1 (hstep _ _)
    have f2 := b11.step LEC.rf (Nat.le_refl _) (hstep _ _)
    have g1 : FACT stk ((p, sg, q2) :: r) obl (C 0) C2 t2 n Φ yA yM := f1.wk (Nat.le_refl _) b4 b2 (Or.inr (Or.inl (by rw [upD_n (by omega)] at b10 ⊢; exact b10))) (fun s' h _ => List.mem_cons_of_mem _ h) (fun y hy _ => pr_same y hy) (fun _ h _ => h)
    have g2 := f2.wk (stk' := stk) (prs' := ((p, sg, q2) :: r)) (obl' := obl) (lo' := C 0) (Cf' := C2) (tf' := t2) (pd' := n) (by rw [upD_n (by omega)]; exact Nat.le_refl _) LEC.rf (Nat.le_refl _) (Or.inl rfl) (fun s' h _ => List.mem_cons_of_mem _ h) (fun y hy _ => ⟨y, hy, rfl⟩) (fun _ h _ => h)
    exact (g1.and g2).imp (fun fA fM hh => ⟨hh.1.1, hh.1.2.1, hh.1.2.2, hh.2⟩)
end JT
section ZZ
variable {kd wr nm : Nat → Nat} {vv : Nat → Int64} {m z : Nat} {gA gM : Wd} {rA : Wd → Option (Int32 × Wd)} {rM : Wd → Option (Option Int32 × Wd)} {ne : Bool} {pre : CV → Nat → Prop} {d β : Nat} {W : Wd → Wd → Nat → Nat → Nat → List Nat → PRL → Nat → Nat → CV → CV → Prop}
/-- a STATEMENT's TOKENS and nodes go on -/
theorem spc_and (h : SPC kd wr nm vv m z gA gM rA rM ne pre d β W) : SPC kd wr nm vv m z gA gM rA rM ne pre d β (fun fA fM s e n stk prs q q' C C' => W fA fM s e n stk prs q q' C C' ∧ s ≤ e ∧ LEC C C' ∧ C 0 ≤ n ∧ n < C' 0) := by
  intro γ α wd S stkF B lv stk obl p sg q r C TK SL t b fa wA wM P KA KM hne hS hst hP hpre hb hB H
  refine h γ α wd S stkF B lv stk obl p sg q r C TK SL t b fa wA wM P KA KM hne hS hst hP hpre hb hB (fun lv' x t' fa' uA uM n C' TK' SL' q' k1 k2 k3 => H lv' x t' fa' uA uM n C' TK' SL' q' k1 (fun hl => ?_) k3)
  obtain ⟨x1, x2, x3, x4, x5, x6, x7, x8, x9, x10, x11⟩ := k2 hl
  exact ⟨x1, x2, x3, x4, x5, x6, x7, x8, x9, x10, fun fA fM e1 e2 e3 => ⟨x11 fA fM e1 e2 e3, x2, x4, x10, x9⟩⟩
end ZZ
