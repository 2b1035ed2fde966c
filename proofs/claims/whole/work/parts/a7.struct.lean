/-! BOTH SIDES: nodes, DEPTHS, SCOPES -/
section JT
variable {kd wr nm : Nat → Nat} {vv : Nat → Int64} {m z : Nat} {gA gM : Wd} {lv : Bool} {sl us B : Nat} {stk obl stkF : List Nat} {prs : PRL} {C TK : Nat → Nat} {SL : Nat → List Nat} {t d b : Nat} {fa : Int32} {wA wM : Wd} {γ α : Type} {wd : γ → Wd} {S : γ → α → Wd → Prop} {P : (Nat → Nat) → Nat → Wd → Wd → Prop}
theorem STJ.jl (h : STJ kd wr nm vv m z gA gM lv sl us stk prs C TK SL t d b fa wA wM) (hl : lv = true) : fa = -1 ∧ JL kd wr nm vv m z gA gM sl us stk prs C TK SL t d wA wM := by
  rcases h with ⟨_, h⟩ | ⟨h1, _⟩
  · exact h
  · rw [hl] at h1; exact absurd h1 (by decide)
theorem STJ.dd {C' TK' : Nat → Nat} {SL' : Nat → List Nat} {sl' us' d' : Nat} {prs' : PRL} {uM : Wd} (h : STJ kd wr nm vv m z gA gM lv sl us stk prs C TK SL t d b fa wA wM) (hl : lv = false) : STJ kd wr nm vv m z gA gM lv sl' us' stk prs' C' TK' SL' t d' b fa wA uM := by
  rcases h with ⟨h1, _⟩ | ⟨_, h2, h3⟩
  · rw [hl] at h1; exact absurd h1 (by decide)
  · exact Or.inr ⟨hl, h2, h3⟩
/-- only the reference goes on -/
theorem GLJ.ref {rA : Option γ} {rM rM' : Option (Option α × Wd)} (h : lv = true → rM = rM') (H : GLJ kd wr nm z gA gM wd lv stkF fa B rA rM' S) : GLJ kd wr nm z gA gM wd lv stkF fa B rA rM S := by
  cases lv
  · exact ⟨fun _ => H.1 rfl, fun h => absurd h (by decide)⟩
  · rw [h rfl]; exact H
theorem J.kind (hst : STJ kd wr nm vv m z gA gM lv sl us stk prs C TK SL t d b fa wA wM) {rA : Option γ} {KM : Int32 → Wd → Option (Option α × Wd)} (H : GLJ kd wr nm z gA gM wd lv stkF fa B rA (KM (Int32.ofNat (kM (kd t))) wM) S) : GLJ kd wr nm z gA gM wd lv stkF fa B rA (bn2 (fX12_kind wM) KM) S :=
  GLJ.ref (fun hl => by rw [m_kind (hst.jl hl).2.2.1, bn2_so]) H
theorem STEP.nodes {uM : Wd} {n : Nat} (hM : OFF (PXN (C 0)) uM wM) (hn : C 0 ≤ n) : STEP C t stk prs obl wA wM (upC C 0 n) t wA uM := STEP.xa (fun _ _ _ => rfl) hM (Nat.le_refl _) hn
/-- a node -/
theorem J.node (hT : TOKS kd wr nm vv m z gA gM) (hS : STBJ stk prs obl P) (hst : STJ kd wr nm vv m z gA gM lv sl us stk prs C TK SL t d b fa wA wM) (hP : lv = true → P C t wA wM) (hn : lv = true → C 0 + 1 ≤ 2 * t + 100) {rA : Option γ} {a1 a2 a3 a4 a5 : Int32} {KM : Int32 → Wd → Option (Option α × Wd)}
    (H : ∀ uM, STJ kd wr nm vv m z gA gM lv sl us stk prs (upC C 0 (C 0 + 1)) TK SL t d b fa wA uM → (lv = true → P (upC C 0 (C 0 + 1)) t wA uM ∧ gi uM 7 (C 0) = a1 ∧ gi uM 8 (C 0) = a2 ∧ gi uM 9 (C 0) = a3 ∧ gi uM 10 (C 0) = a4 ∧ gi uM 11 (C 0) = -1 ∧ gi uM 12 (C 0) = a5 ∧ gi uM 13 (C 0) = hdM stk) → GLJ kd wr nm z gA gM wd lv stkF fa B rA (KM (Int32.ofNat (C 0)) uM) S) :
    GLJ kd wr nm z gA gM wd lv stkF fa B rA (bn2 (fX12_node a1 a2 a3 a4 a5 wM) KM) S := by
  cases lv
  · exact ⟨fun _ => (H wM (hst.dd rfl) (fun h => absurd h (by decide))).1 rfl, fun h => absurd h (by decide)⟩
  · obtain ⟨hfa, hJ⟩ := hst.jl rfl
    have hm : m ≤ 8193 := hJ.2.1.1.1
    have htm := hJ.2.1.2.1
    have hn' := hn rfl
    obtain ⟨u, v1, v2, v3, v4, v5, v6, v7, v8, v9, v10, v11⟩ := nd_ok (a1 := a1) (a2 := a2) (a3 := a3) (a4 := a4) (a5 := a5) hJ.2.1 (nd := C 0) hJ.2.2.2.2.2.2.2.2.2.1.1 (by omega)
    have hO : OFF (PXN (C 0)) u wM := v11.mono (fun _ _ hp => hp.x (Nat.le_refl _))
    have h1 := JL.mv (n := C 0 + 1) hT hJ OFF.rf (hO.mono PXN.xm) hJ.1 v2 v3 hn' (by omega) (Nat.le_refl _) hJ.2.2.2.2.2.1.2.1
    rw [v1, bn2_so]
    exact H u (Or.inl ⟨rfl, hfa, h1⟩) (fun _ => ⟨hS _ _ _ _ _ _ _ _ (hP rfl) (STEP.nodes hO (by omega)), v4, v5, v6, v7, v8, v9, by rw [v10]; exact hJ.2.2.2.2.2.2.2.2.1⟩)
/-- the reference's DEPTH -/
theorem J.dep (hT : TOKS kd wr nm vv m z gA gM) (hS : STBJ stk prs obl P) (hst : STJ kd wr nm vv m z gA gM lv sl us stk prs C TK SL t d b fa wA wM) (hP : lv = true → P C t wA wM) {d' : Nat} (hd : d' ≤ 41) {v : Int32} (hv : lv = true → v = Int32.ofNat d') {rA : Option γ} {KM : Wd → Option (Option α × Wd)}
    (H : ∀ uM, STJ kd wr nm vv m z gA gM lv sl us stk prs C TK SL t d' b fa wA uM → (lv = true → P C t wA uM) → GLJ kd wr nm z gA gM wd lv stkF fa B rA (KM uM) S) :
    GLJ kd wr nm z gA gM wd lv stkF fa B rA (lt (si wM 0 8 v) KM) S := by
  rw [ltq]
  cases lv
  · exact ⟨fun _ => (H wM (hst.dd rfl) (fun h => absurd h (by decide))).1 rfl, fun h => absurd h (by decide)⟩
  · obtain ⟨hfa, hJ⟩ := hst.jl rfl
    rw [hv rfl]
    have hO : OFF (PXN (C 0)) (si wM 0 8 (Int32.ofNat d')) wM := OFF.si (Or.inl ⟨rfl, by omega⟩)
    have h1 := JL.mv (n := C 0) hT hJ OFF.rf (hO.mono PXN.xm) hJ.1 (hJ.2.1.goD hd) (by rw [gi_si1 (by omega)]; exact hJ.2.2.2.2.2.2.2.2.2.1.1) hJ.2.2.2.2.2.1.1 (Nat.le_refl _) (Nat.le_refl _) hJ.2.2.2.2.2.1.2.1
    have h2 := STEP.nodes (C := C) (t := t) (stk := stk) (obl := obl) (prs := prs) (wA := wA) hO (Nat.le_refl _)
    rw [upC_id] at h1 h2
    exact H _ (Or.inl ⟨rfl, hfa, h1⟩) (fun _ => hS _ _ _ _ _ _ _ _ (hP rfl) h2)
theorem dep_up (hst : STJ kd wr nm vv m z gA gM lv sl us stk prs C TK SL t d b fa wA wM) : lv = true → gi wM 0 8 + 1 = Int32.ofNat (d + 1) := fun hl => by
  rw [(hst.jl hl).2.2.1.2.2.2.2, ad1_iN]
theorem dep_dn (hst : STJ kd wr nm vv m z gA gM lv sl us stk prs C TK SL t (d + 1) b fa wA wM) : lv = true → gi wM 0 8 - 1 = Int32.ofNat d := fun hl => by
  have := (hst.jl hl).2.2.1.2.2.1
  rw [(hst.jl hl).2.2.1.2.2.2.2, sb1_iN (by omega) (by omega)]
  rfl
/-- into brackets and the like, of what is no BLOCK -/
theorem J.opn (hT : TOKS kd wr nm vv m z gA gM) (hS : STBJ stk prs obl P) (hst : STJ kd wr nm vv m z gA gM lv sl us stk prs C TK SL t d b fa wA wM) (hP : lv = true → P C t wA wM) (hk : 2 ≤ kd t) (h4 : kd t ≠ 4) (hd : d ≤ 40) (hb : 2800 ≤ b) (hs1 : sl ≤ 1) {rT : Option (Option Int32 × Wd)} (hrT : rT = some (some (Int32.ofNat t), si wM 0 7 (Int32.ofNat (t + 1)))) {KA : Int32 → Wd → Option γ} {KM : Int32 → Wd → Option (Option α × Wd)}
    (hdoom : ∀ uM, SM kd wr m uM (t + 1) 41 → ∃ v, KM (Int32.ofNat t) uM = some (none, v) ∧ gi v 0 9 = Int32.ofNat (wr (t + 1)) ∧ OFF PMM v uM)
    (H : ∀ lv' t' fa' uA uM, STJ kd wr nm vv m z gA gM lv' 0 us stk prs C TK SL t' (d + 1) b fa' uA uM → (lv' = true → lv = true ∧ d + 1 ≤ 40 ∧ t' = t + 1 ∧ t + 1 ≤ m ∧ P C t' uA uM) → (lv' = false → t' = z - 1) → GLJ kd wr nm z gA gM wd lv' stkF fa' B (KA (Int32.ofNat (d + 1)) uA) (KM (Int32.ofNat t) uM) S) :
    GLJ kd wr nm z gA gM wd lv stkF fa B (lt2 (fX9_open (Int32.ofNat d) wA) KA) (be rT fun x w2 => lt (si w2 0 8 ((gi w2 0 8) + 1)) (KM x)) S := by
  obtain ⟨h1, h2, h3⟩ := hst.live (by omega)
  have hin := hst.in1
  subst h1
  subst h2
  obtain ⟨n0, n1, n2, n3⟩ := a_open hin.1 (by omega) h4 hd
  rw [lt2q, n0, hrT, be_so, ltq]
  have hsm := h3.2.1
  have htm := hsm.lt hk
  have hd8 : gi (si wM 0 7 (Int32.ofNat (t + 1))) 0 8 = Int32.ofNat d := by rw [gi_si1 (by omega)]; exact hsm.2.2.2.2
  rw [hd8, ad1_iN]
  by_cases q : d < 40
  · obtain ⟨a1, a2, a3⟩ := JL.tok (obl := obl) hT h3 hk hs1 (hin.tok n3 (n1 q)) n3 rfl
    refine (J.dep (b := b) (KM := KM (Int32.ofNat t)) (rA := KA (Int32.ofNat (d + 1)) _) hT hS (Or.inl ⟨rfl, rfl, a1⟩) (fun _ => hS _ _ _ _ _ _ _ _ (hP rfl) a2) (d' := d + 1) (by omega) (fun _ => rfl) (fun uM hu hPu => ?_))
    exact H true (t + 1) (-1) _ uM hu (fun _ => ⟨rfl, by omega, rfl, a3, hPu rfl⟩) (fun h => absurd h (by decide))
  · have hn2 := n2 (by omega)
    rw [FA_1] at hn2
    have hin2 := hin.tok n3 hn2
    have hD : DI kd wr nm z gA stk (Int32.ofNat (wr (t + 1))) b (fX9_open (Int32.ofNat d) wA).2 := by
      refine ⟨hin2, zl_iN (by have := hT.1 (t + 1); omega), OFF.tr (n3.mono (fun k j hp => Or.inr (Or.inl hp))) h3.2.2.1, TK, SL, C 1, C 2, h3.2.2.2.2.2.2.1.agr (fun k j hk => (n3 k j (by unfold PSC at hk; omega)).1), ?_⟩
      have := h3.2.2.2.2.2.1
      have := hT.1 t
      omega
    obtain ⟨g, g1, g2⟩ := (H false (z - 1) _ _ wM (Or.inr ⟨rfl, rfl, hD⟩) (fun h => absurd h (by decide)) (fun _ => rfl)).1 rfl
    have hs41 : SM kd wr m (si (si wM 0 7 (Int32.ofNat (t + 1))) 0 8 (Int32.ofNat (d + 1))) (t + 1) 41 := by
      have := (hsm.goT (t' := t + 1) (by omega)).goD (d' := d + 1) (by omega)
      rw [show d + 1 = 41 by omega] at this ⊢
      exact this
    obtain ⟨v, v1, v2, v3⟩ := hdoom _ hs41
    refine ⟨fun h => absurd h (by decide), fun _ => Or.inl ⟨t + 1, g, v, g1, g2, v1, v2, v3.tr (OFF.tr (OFF.si (by unfold PMM; omega)) (OFF.tr (OFF.si (by unfold PMM; omega)) h3.2.2.2.1))⟩⟩
theorem EXTA.wk {C C' : Nat → Nat} {t t' : Nat} {stk stk' obl obl' : List Nat} {w u : Wd} (h : EXTA C' t' stk' obl' w u) (hC : LEC C C') (ht : t ≤ t') (hs : ∀ s ∈ stk', s < C 2 → s ∈ stk) (hb : ∀ s ∈ obl', s < C 3 ∨ (9000 ≤ s ∧ s ≤ 9000 + C 2) → s ∈ obl := by exact fun _ h _ => h) : EXTA C t stk obl w u := EXTA.tr EXTA.rf h hC ht hs hb
theorem EXTL.ctx {lo : Nat} {C : Nat → Nat} {stk stk' obl obl' : List Nat} {prs prs' : PRL} {pd : Nat} {w u : Wd} (h : EXTL lo C stk' prs' obl' pd w u) (hs : ∀ s ∈ stk', s < C 2 → s ∈ stk) (hp : ∀ p ∈ prs', p.1 < C 4 → ∃ q ∈ prs, q.1 = p.1) (ho : ∀ s ∈ obl', s < C 3 ∨ (9000 ≤ s ∧ s ≤ 9000 + C 2) → s ∈ obl) : EXTL lo C stk prs obl pd w u := EXTL.tr (fun _ _ _ => ⟨rfl, rfl⟩) h LEC.rf hs hp (Or.inl rfl) ho
/-- facts where a piece begins, kept over all that's made in it -/
def PF (C0 : Nat → Nat) (t0 : Nat) (stk : List Nat) (prs : PRL) (obl : List Nat) (bA bM : Wd) (C : Nat → Nat) (t : Nat) (wA wM : Wd) : Prop := STEP C0 t0 stk prs obl bA bM C t wA wM
theorem PF.stb {C0 : Nat → Nat} {t0 : Nat} {stk' obl' : List Nat} {prs' : PRL} {bA bM : Wd} (hs : ∀ s ∈ stk', s < C0 2 → s ∈ stk) (hp : ∀ p ∈ prs', p.1 < C0 4 → ∃ q ∈ prs, q.1 = p.1) (ho : ∀ s ∈ obl', s < C0 3 ∨ (9000 ≤ s ∧ s ≤ 9000 + C0 2) → s ∈ obl) : STBJ stk' prs' obl' (PF C0 t0 stk prs obl bA bM) := by
  intro C t wA wM C' t' uA uM h g
  obtain ⟨a, a2, a3, a4, a5⟩ := h
  obtain ⟨c, c2, c3, c4, c5⟩ := g
  exact ⟨a.tr c, by omega, a3.tr c3 a a2 hs ho, EXTL.tr a4 c4 a hs hp (Or.inr (a 0)) ho, a5.tr c5⟩
theorem STBJ.if {P : (Nat → Nat) → Nat → Wd → Wd → Prop} (h : lv = true → STBJ stk prs obl P) : STBJ stk prs obl (fun C t wA wM => lv = true → P C t wA wM) := fun C t wA wM C' t' uA uM hp hs hl => h hl _ _ _ _ _ _ _ _ (hp hl) hs
theorem STBJ.and {P Q : (Nat → Nat) → Nat → Wd → Wd → Prop} (h : STBJ stk prs obl P) (g : STBJ stk prs obl Q) : STBJ stk prs obl (fun C t wA wM => P C t wA wM ∧ Q C t wA wM) := fun C t wA wM C' t' uA uM hp hs => ⟨h _ _ _ _ _ _ _ _ hp.1 hs, g _ _ _ _ _ _ _ _ hp.2 hs⟩
/-- a fact, from its counters on -/
def PFA (stk : List Nat) (prs : PRL) (obl : List Nat) (lo : Nat) (Cf : Nat → Nat) (tf pd : Nat) (Φ : Wd → Wd → Prop) (C : Nat → Nat) (t : Nat) (wA wM : Wd) : Prop := LEC Cf C ∧ tf ≤ t ∧ FACT stk prs obl lo Cf tf pd Φ wA wM
theorem PFA.stb {lo : Nat} {Cf : Nat → Nat} {tf pd : Nat} {Φ : Wd → Wd → Prop} : STBJ stk prs obl (PFA stk prs obl lo Cf tf pd Φ) := fun C t wA wM C' t' uA uM h hs => ⟨h.1.tr hs.1, by have := hs.2.1; have := h.2.1; omega, h.2.2.step h.1 h.2.1 hs⟩
theorem PFA.stb' {stk' obl' : List Nat} {prs' : PRL} {lo : Nat} {Cf : Nat → Nat} {tf pd : Nat} {Φ : Wd → Wd → Prop} (hs : ∀ s ∈ stk', s < Cf 2 → s ∈ stk) (hp : ∀ p ∈ prs', p.1 < Cf 4 → ∃ q ∈ prs, q.1 = p.1) (ho : ∀ s ∈ obl', s < Cf 3 ∨ (9000 ≤ s ∧ s ≤ 9000 + Cf 2) → s ∈ obl) : STBJ stk' prs' obl' (PFA stk prs obl lo Cf tf pd Φ) := by
  intro C t wA wM C' t' uA uM h g
  obtain ⟨a, a2, a3⟩ := h
  obtain ⟨c, c2, c3, c4, c5⟩ := g
  refine ⟨a.tr c, by omega, fun fA fM hA hM hE => a3 fA fM ((EXTA.wk c3 a a2 hs ho).tr hA LEC.rf (Nat.le_refl _) (fun _ h _ => h) (fun _ h _ => h)) (EXTL.tr (pd := pd) (pd' := pd) (EXTL.ctx (EXTL.wk (lo := lo) (lo' := 0) (C := Cf) (C' := C) (pd := pd) (pd' := C 0) c4 (Nat.zero_le _) a (Or.inr (Or.inl (a 0)))) hs hp ho) hM LEC.rf (fun _ h _ => h) (fun p h _ => ⟨p, h, rfl⟩) (Or.inl rfl) (fun _ h _ => h)) (c5.tr hE)⟩
end JT
