/-! BOTH SIDES: NAMES behind value -/
section JT
variable {kd wr nm : Nat → Nat} {vv : Nat → Int64} {m z : Nat} {gA gM : Wd} {lv : Bool} {sl us B : Nat} {stk obl stkF : List Nat} {prs : PRL} {C TK : Nat → Nat} {SL : Nat → List Nat} {t d b : Nat} {fa : Int32} {wA wM : Wd} {γ α : Type} {wd : γ → Wd} {S : γ → α → Wd → Prop} {P : (Nat → Nat) → Nat → Wd → Wd → Prop}
/-- a world with the faults at L noted, which the reference has yet to note -/
def pnd (wr : Nat → Nat) (L : List Nat) (w : Wd) : Wd := fl (FNS wr L (FLA w)) w
theorem fl_self {u : Wd} : fl (FLA u) u = u := by
  refine Prod.ext ?_ rfl
  funext k j
  show (if k = 3 ∧ j = 7 then gi u 3 7 else (if k = 3 ∧ j = 6 then gi u 3 6 else u.1 k j)) = u.1 k j
  by_cases q1 : k = 3 ∧ j = 7
  · rw [if_pos q1, q1.1, q1.2]; rfl
  · rw [if_neg q1]
    by_cases q2 : k = 3 ∧ j = 6
    · rw [if_pos q2, q2.1, q2.2]; rfl
    · rw [if_neg q2]
theorem pnd_nil {w : Wd} : pnd wr [] w = w := fl_self
theorem pnd_off {L : List Nat} {w : Wd} : OFF (fun k j => k = 3 ∧ (j = 6 ∨ j = 7)) (pnd wr L w) w := OFF.tr (OFF.si ⟨rfl, Or.inr rfl⟩) (OFF.si ⟨rfl, Or.inl rfl⟩)
theorem pnd_si {L : List Nat} {w : Wd} {k j : Nat} {v : Int32} (h : k ≠ 3) : si (pnd wr L w) k j v = pnd wr L (si w k j v) := by
  unfold pnd
  rw [fl_si h]
  have : FLA (si w k j v) = FLA w := by
    unfold FLA
    rw [gi_si1 (by omega), gi_si1 (by omega)]
  rw [this]
theorem pnd_rsi {L : List Nat} {w : Wd} {k n : Nat} {i v : Int32} (h : k ≠ 3) : rsi (pnd wr L w) k n i v = pnd wr L (rsi w k n i v) := by
  unfold rsi
  split
  · exact pnd_si h
  · rfl
/-- a fault that the reference notes later -/
theorem pnd_late {L : List Nat} {w : Wd} {tk : Nat} (hw : fX9_where (Int32.ofNat tk) w = Int32.ofNat (wr tk)) : fX1_note (Int32.ofNat tk) 3 (pnd wr L w) = pnd wr (tk :: L) w := by
  unfold pnd
  rw [note_fl, fl_fl, FLA_fl, fl_w, hw]
  rfl
/-- a fault that the reference notes now -/
theorem pnd_now {L : List Nat} {w : Wd} {tk : Nat} {n : Int32} (hn : n ≠ 0) (hw : fX9_where (Int32.ofNat tk) w = Int32.ofNat (wr tk)) : fX1_note (Int32.ofNat tk) n (pnd wr L w) = pnd wr L (fX1_note (Int32.ofNat tk) n w) := by
  unfold pnd
  rw [fl_note, hw, FNS_fn hn]
  have : FLA (fX1_note (Int32.ofNat tk) n w) = FN (FLA w) n (Int32.ofNat (wr tk)) := by
    rw [note_fl, FLA_fl, hw]
  rw [this]
/-- it's noted now -/
theorem pnd_take {L : List Nat} {w : Wd} {tk : Nat} : pnd wr (L ++ [tk]) w = pnd wr L (fl (FN (FLA w) 3 (Int32.ofNat (wr tk))) w) := by
  unfold pnd
  rw [FLA_fl, fl_fl]
  unfold FNS
  rw [List.foldr_append]
  rfl
/-- those of u, from i on -/
def pnL (u : Nat → Option Nat) (v0 : Nat) : Nat → Nat → List Nat
  | 0, _ => []
  | n + 1, i => pnL u v0 n (i + 1) ++ (if u (v0 + 2 * i) = none then [v0 + 2 * i] else [])
theorem pnL_last {u : Nat → Option Nat} {v0 : Nat} : ∀ (n i : Nat), pnL u v0 (n + 1) i = (if u (v0 + 2 * (i + n)) = none then [v0 + 2 * (i + n)] else []) ++ pnL u v0 n i := by
  intro n
  induction n with
  | zero =>
    intro i
    show pnL u v0 0 (i + 1) ++ _ = _
    unfold pnL
    simp
  | succ n ih =>
    intro i
    show pnL u v0 (n + 1) (i + 1) ++ _ = _ ++ (pnL u v0 n (i + 1) ++ _)
    rw [ih (i + 1), List.append_assoc, show i + 1 + n = i + (n + 1) by omega]
/-- the formal that a TOKEN's NAME is -/
def mtF (nm TK : Nat → Nat) (c1 nf v : Nat) : Option Nat := fst9 (fun j => nm (TK (c1 + 1 + j))) (nm v) nf 0
/-- a heading behind its formals -/
def HDV (kd TK : Nat → Nat) (c1 pn p sp sf l ty tok nf cb : Nat) (C : Nat → Nat) (t : Nat) (wA wM : Wd) : Prop :=
  C 1 = c1 + 1 + nf ∧ pn < C 4 ∧ tok < t ∧ HD0 c1 pn p sp sf l ty tok wA wM ∧ (gi wA 19 (c1 + 1) = Int32.ofNat nf ∧ gi wA 20 (c1 + 1) = Int32.ofNat (c1 + 2) ∧ gi wM 31 pn = Int32.ofNat nf) ∧ ∀ i, i < nf → FMV kd TK c1 pn sf (l + 1) cb t i wA wM
theorem HDV.step {c1 pn p sp sf l ty tok nf cb t' : Nat} {uA uM : Wd} (h : HDV kd TK c1 pn p sp sf l ty tok nf cb C t wA wM) (hs : STEP C t stk prs obl wA wM C t' uA uM) : HDV kd TK c1 pn p sp sf l ty tok nf cb C t' uA uM := by
  obtain ⟨a1, a2, a3, a4, ⟨a5, a6, a7⟩, a8⟩ := h
  have ht := hs.2.1
  refine ⟨a1, a2, by omega, a4.step hs (by omega) a3 a2, ⟨?_, ?_, ?_⟩, fun i hi => (a8 i hi).step hs (by omega)⟩
  · rw [hs.2.2.1 19 _ (Or.inl ⟨by omega, by omega, by omega⟩)]; exact a5
  · rw [hs.2.2.1 20 _ (Or.inl ⟨by omega, by omega, by omega⟩)]; exact a6
  · rw [(hs.2.2.2.1 31 pn (Or.inr (Or.inr (Or.inr (Or.inr (Or.inr (Or.inl ⟨by omega, a2, fun hh => by omega⟩))))))).1]; exact a7
/-- the class looks a formal up -/
theorem a_lookX {c1 pn p sp sf l ty tok nf : Nat} {L : List Nat} (hJ : JL kd wr nm vv m z gA gM sl us stk prs C TK SL t d wA wM) (hT : TOKS kd wr nm vv m z gA gM) (a1 : C 1 = c1 + 1 + nf) (a4 : HD0 c1 pn p sp sf l ty tok wA wM) (a5 : gi wA 19 (c1 + 1) = Int32.ofNat nf) (a6 : gi wA 20 (c1 + 1) = Int32.ofNat (c1 + 2)) (hn : nf ≤ 4200) (hc : c1 + 1 + nf ≤ 4100) {v : Nat} (hv : v < z) (hk : kd v = 2) : fX9_nameOf (Int32.ofNat v) (pnd wr L wA) = Int32.ofNat (nm v) ∧ fX8_formalNamed (Int32.ofNat (c1 + 1)) (Int32.ofNat (nm v)) (pnd wr L wA) = some (lk9 0 (c1 + 2) (mtF nm TK c1 nf v), pnd wr L wA) := by
  have hz := hT.2.2.2.1
  have e7 : gl (pnd wr L wA) 7 v = gl gA 7 v := by
    rw [(pnd_off 7 v (by omega)).2]
    exact (hJ.2.2.1 7 v (by unfold PAA; omega)).2
  have ep : ∀ k j, k ≠ 3 → gi (pnd wr L wA) k j = gi wA k j := fun k j hk => (pnd_off k j (by omega)).1
  have hcs := hJ.2.2.2.2.2.2.1
  constructor
  · unfold fX9_nameOf
    rw [ltq, rgl_iN (by omega) (by omega), e7]
    exact hT.2.2.2.2.2.2.2.1 v hv hk
  · obtain ⟨fo, hfo⟩ := FU_ge (k := nf + 1) (by omega)
    unfold fX8_formalNamed
    rw [hfo, show fo + (nf + 1) = fo + nf + 1 by omega]
    refine a_fnd (f := fun j => nm (TK (c1 + 1 + j))) (nf := nf) hn (hT.2.2.2.2.1 v) (fun i _ => hT.2.2.2.2.1 _) ?_ (fun i hi => ?_) (fun i hi => ?_) nf 0 (by omega)
    · unfold fX8_size_
      rw [ltq, rgi_iN (by omega) (by omega), ep 19 _ (by omega)]
      exact a5
    · unfold fX8_formal fX8_formal_23 fX8_sort fX8_size_
      rw [ltq, ltq, rgi_iN (by omega) (by omega), ep 14 _ (by omega), a4.1.1, if_pos rfl, ltq, ltq, rgi_iN (by omega) (by omega), ep 19 _ (by omega), a5, if_neg (nle_iN hi (by omega)), if_pos rfl, ltq, rgi_iN (by omega) (by omega), ep 20 _ (by omega), a6, add_iN]
    · unfold fX8_name
      rw [ltq, rgi_iN (by omega) (by omega), ep 22 _ (by omega), show c1 + 2 + i = c1 + 1 + i + 1 by omega]
      exact hcs.2.2.2.2.2.2.1 (c1 + 1 + i) (by omega)
theorem HDV.a_look {c1 pn p sp sf l ty tok nf cb : Nat} {L : List Nat} (hJ : JL kd wr nm vv m z gA gM sl us stk prs C TK SL t d wA wM) (hT : TOKS kd wr nm vv m z gA gM) (h : HDV kd TK c1 pn p sp sf l ty tok nf cb C t wA wM) (hn : nf ≤ 4200) (hc : c1 + 1 + nf ≤ 4100) {v : Nat} (hv : v < z) (hk : kd v = 2) : fX9_nameOf (Int32.ofNat v) (pnd wr L wA) = Int32.ofNat (nm v) ∧ fX8_formalNamed (Int32.ofNat (c1 + 1)) (Int32.ofNat (nm v)) (pnd wr L wA) = some (lk9 0 (c1 + 2) (mtF nm TK c1 nf v), pnd wr L wA) := a_lookX hJ hT h.1 h.2.2.2.1 h.2.2.2.2.1.1 h.2.2.2.2.1.2.1 hn hc hv hk
/-- so does the reference -/
theorem m_lookX {c1 pn p sp sf l ty tok nf : Nat} (hJ : JL kd wr nm vv m z gA gM sl us stk prs C TK SL t d wA wM) (hT : TOKS kd wr nm vv m z gA gM) (a1 : C 1 = c1 + 1 + nf) (a4 : HD0 c1 pn p sp sf l ty tok wA wM) (hc : c1 + 1 + nf ≤ 4100) (h30 : gi wM 0 30 = Int32.ofNat pn) (hp : pn < 1200) {v : Nat} (hv : v < m) (hk : kd v = 2) : fX12_formalOf (gl wM 4 v) (Int32.ofNat (c1 + 1 + nf)) wM = some (lk9 (-1) (c1 + 1) (mtF nm TK c1 nf v), wM) := by
  have e4 : gl wM 4 v = vv (nm v) := by
    rw [(hJ.2.2.2.1 4 v (by unfold PMM; omega)).2]
    exact hT.2.2.2.2.2.2.2.2 v hv hk
  obtain ⟨fo, hfo⟩ := FU_ge (k := nf + 1) (by omega)
  unfold fX12_formalOf
  rw [h30, if_pos (inb_iN hp (by omega)), tc_iN (by omega), ltq, a4.2.2.2.2.1, hfo, show fo + (nf + 1) = fo + nf + 1 by omega, e4]
  refine m_fnd (f := fun j => nm (TK (c1 + 1 + j))) (nf := nf) (by omega) (fun i hi => ?_) (fun i hi => hT.2.2.2.2.2.1 _ _) nf 0 (by omega)
  exact hJ.2.2.2.2.2.2.2.1.2.2.2.2 (c1 + 1 + i) (by omega)
theorem HDV.m_look {c1 pn p sp sf l ty tok nf cb : Nat} (hJ : JL kd wr nm vv m z gA gM sl us stk prs C TK SL t d wA wM) (hT : TOKS kd wr nm vv m z gA gM) (h : HDV kd TK c1 pn p sp sf l ty tok nf cb C t wA wM) (hc : c1 + 1 + nf ≤ 4100) (h30 : gi wM 0 30 = Int32.ofNat pn) (hp : pn < 1200) {v : Nat} (hv : v < m) (hk : kd v = 2) : fX12_formalOf (gl wM 4 v) (Int32.ofNat (c1 + 1 + nf)) wM = some (lk9 (-1) (c1 + 1) (mtF nm TK c1 nf v), wM) := m_lookX hJ hT h.1 h.2.2.2.1 hc h30 hp hv hk
def oel {β : Type} (o : Option Nat) (a : β) (f : Nat → β) : β := match o with | none => a | some i => f i
/-- a formal's NAME, taken by the class -/
def fml (a1 x1 : Int32) (K : Int32 → Wd → Option γ) (w2 : Wd) : Option γ := if fX9_failed w2 = true then K 0 (fX1_note x1 3 w2) else bn2 (fX8_formalNamed a1 (fX9_nameOf x1 w2) w2) fun x6 w7 => if x6 = 0 then K x6 (fX1_note x1 3 w7) else K x6 w7
theorem a_fml {a1 : Int32} {w : Wd} {K : Int32 → Wd → Option γ} : bn2 (fX4_formal a1 w) K = lt (fX9_need (Int32.ofNat 2) w) (fml a1 (gi w 4 9) K) := by
  have h46 : ∀ (s0 a2 : Int32) (u : Wd), bn2 (fX4_formal_46 s0 a2 u) K = if s0 = 0 then K s0 (fX1_note a2 3 u) else K s0 u := fun s0 a2 u => by
    unfold fX4_formal_46
    by_cases q : s0 = 0
    · rw [if_pos q, if_pos q]; rfl
    · rw [if_neg q, if_neg q]; rfl
  unfold fX4_formal fml
  rw [ltq, ltq, ltq, ltq]
  show bn2 (if fX9_failed (fX9_need (Int32.ofNat 2) w) = true then _ else _) K = (if fX9_failed (fX9_need (Int32.ofNat 2) w) = true then K 0 (fX1_note (gi w 4 9) 3 (fX9_need (Int32.ofNat 2) w)) else bn2 (fX8_formalNamed a1 (fX9_nameOf (gi w 4 9) (fX9_need (Int32.ofNat 2) w)) (fX9_need (Int32.ofNat 2) w)) fun x6 w7 => if x6 = 0 then K x6 (fX1_note (gi w 4 9) 3 w7) else K x6 w7)
  by_cases q : fX9_failed (fX9_need (Int32.ofNat 2) w) = true
  · rw [if_pos q, if_pos q, h46, if_pos rfl]
    rfl
  · rw [if_neg q, if_neg q, bn2_bn2]
    refine bn2_cg fun x6 w7 => ?_
    rw [h46]
    rfl
theorem fml_live {c1 pn p sp sf l ty tok nf cb : Nat} {L : List Nat} {K : Int32 → Wd → Option γ} (hJ : JL kd wr nm vv m z gA gM sl us stk prs C TK SL t d wA wM) (hT : TOKS kd wr nm vv m z gA gM) (h : HDV kd TK c1 pn p sp sf l ty tok nf cb C t wA wM) (hc : c1 + 1 + nf ≤ 4100) {v : Nat} (hv : v < z) (hk : kd v = 2) : fml (Int32.ofNat (c1 + 1)) (Int32.ofNat v) K (pnd wr L wA) = oel (mtF nm TK c1 nf v) (K 0 (fX1_note (Int32.ofNat v) 3 (pnd wr L wA))) (fun i => K (Int32.ofNat (c1 + 2 + i)) (pnd wr L wA)) := by
  obtain ⟨e1, e2⟩ := h.a_look (L := L) hJ hT (by omega) hc hv hk
  have hf : fX9_failed (pnd wr L wA) = false := by
    unfold fX9_failed
    rw [(pnd_off 4 10 (by omega)).1, show gi wA 4 10 = -1 from hJ.1.1.2.2.2.2.2.2.2.2.1]
    rfl
  unfold fml
  rw [hf, if_neg (by decide), e1, e2, bn2_so]
  rcases hm : mtF nm TK c1 nf v with _ | i
  · show (if (0 : Int32) = 0 then _ else _) = _
    rw [if_pos rfl]
    rfl
  · have hi := (fst9_ok _ _ _ hm).2.1
    show (if Int32.ofNat (c1 + 2 + i) = 0 then _ else _) = _
    rw [if_neg (show ¬ (Int32.ofNat (c1 + 2 + i) = 0) from of_ne (n := c1 + 2 + i) (k := 0) (by omega) (by omega) (by omega))]
    rfl
theorem fml_dead {a1 x1 : Int32} {K : Int32 → Wd → Option γ} {w : Wd} (h : IN1 kd wr z wA t 0 fa) (hfa : 0 ≤ fa) (hw : OFF (fun k j => k = 3 ∧ (j = 6 ∨ j = 7)) w wA) : fml a1 x1 K w = K 0 (fX1_note x1 3 w) := by
  have hf : fX9_failed w = true := by
    unfold fX9_failed
    rw [(hw 4 10 (by omega)).1, show gi wA 4 10 = fa from h.1.2.2.2.2.2.2.2.2.1, if_neg]
    intro hlt
    have h1 := Int32.lt_iff_toInt_lt.mp hlt
    have h2 := Int32.le_iff_toInt_le.mp hfa
    omega
  unfold fml
  rw [hf, if_pos rfl]
theorem STJ.fa0 (h : STJ kd wr nm vv m z gA gM lv sl us stk prs C TK SL t d b fa wA wM) (hl : lv = false) : 0 ≤ fa := by
  rcases h with ⟨hlv, _⟩ | ⟨_, _, _, h0, _⟩
  · rw [hl] at hlv; exact absurd hlv (by decide)
  · exact h0
/-- the class behind a NAME of value's -/
def vlK (k : Int32 → Int32 → Wd → Option (Int32 × Wd)) (a1 : Int32) (j : Nat) (K : Int32 → Wd → Option γ) (x : Int32) (u : Wd) : Option γ := bn2 (k a1 (Int32.ofNat (j + 1)) (if x = 0 then u else fX8_how x 2 u)) K
theorem a_l25 {k : Int32 → Int32 → Wd → Option (Int32 × Wd)} {a1 : Int32} {j : Nat} {w : Wd} {K : Int32 → Wd → Option γ} : bn2 (fX4_values_25 k a1 (Int32.ofNat j) w) K = lt (fX9_need (Int32.ofNat 2) w) (fml a1 (gi w 4 9) (vlK k a1 j K)) := by
  unfold fX4_values_25
  rw [bn2_bn2, ← a_fml]
  refine bn2_cg fun x u => ?_
  unfold vlK
  rw [← ad1_iN j]
  by_cases q : x = 0
  · rw [if_pos q, if_pos q]; rfl
  · rw [if_neg q, if_neg q]; rfl
theorem a_l2 {n j : Nat} {a1 : Int32} {w : Wd} {K : Int32 → Wd → Option γ} (hj : j + 1 ≤ 8192) : bn2 (oX4_values_2 (n + 1) a1 (Int32.ofNat (j + 1)) w) K = lt2 (fX9_take (Int32.ofNat 40) w) fun c w4 => if c = true then bn2 (fX4_values_25 (oX4_values_2 n) a1 (Int32.ofNat (j + 1)) w4) K else K (Int32.ofNat (j + 1)) w4 := by
  show bn2 (fX4_values_2 (oX4_values_2 n) a1 (Int32.ofNat (j + 1)) w) K = _
  unfold fX4_values_2
  rw [if_neg (show ¬ ((8193 : Int32) ≤ Int32.ofNat (j + 1)) from nle_iN (a := 8193) (by omega) (by omega)), if_neg (show ¬ (Int32.ofNat (j + 1) = 0) from fun h => absurd ((eq_iN (a := j + 1) (b := 0) (by omega) (by omega)).mp h) (by omega)), show (40 : Int32) = Int32.ofNat 40 from rfl]
  rcases fX9_take (Int32.ofNat 40) w with ⟨_ | _, u⟩
  · rw [lt2q, lt2q, if_neg (show ¬ (false = true) by decide), if_neg (show ¬ (false = true) by decide)]
    rfl
  · rw [lt2q, lt2q, if_pos rfl, if_pos rfl]
/-- the reference behind value's NAMES -/
def vlE (rc : TX12_block) (N : Nat) (a4 a5 a6 a7 : Int32) (K : Int32 → Wd → Option (Option α × Wd)) (w5 : Wd) : Option (Option α × Wd) := be (fX12_expect 59 w5) fun _ w10 => be (oX12_procedure_354 rc N a4 a5 a6 a7 (gi w5 0 7) w10) K
theorem m_324 {rc : TX12_block} {k : Int32 → Int32 → Int32 → Int32 → Wd → Option (Option Int32 × Wd)} {a4 a5 a6 a7 : Int32} {w : Wd} {K : Int32 → Wd → Option (Option α × Wd)} : be (fX12_procedure_324 rc k a4 a5 a6 a7 w) K = be (fX12_expect 285 w) fun _ w2 => be (fX12_skip 44 w2) fun c w5 => if c = true then be (k a4 a5 a6 a7 w5) K else vlE rc FU a4 a5 a6 a7 K w5 := by
  unfold fX12_procedure_324 vlE
  generalize FU = N
  rw [be_be]
  refine be_cg fun _ w2 => ?_
  rw [be_be]
  refine be_cg fun c w5 => ?_
  cases c
  · rw [if_neg (by decide), if_neg (by decide), ltq, be_be]
  · rw [if_pos rfl, if_pos rfl]
/-- which formals are values so far -/
def HWV (nm TK : Nat → Nat) (c1 nf v0 n : Nat) (fA : Wd) : Prop := ∀ i, i < nf → (gi fA 16 (c1 + 1 + i + 1) = 2 ↔ ∃ k, k < n ∧ mtF nm TK c1 nf (v0 + 2 * k) = some i)
theorem vls_loop (hT : TOKS kd wr nm vv m z gA gM) {c1 pn p sp sf l ty tok nf v0 q t0 : Nat} {prs1 prs0 : PRL} {stk0 : List Nat} {C0 : Nat → Nat} {wA0 wM0 : Wd} {KA : Int32 → Wd → Option γ} {KM : Int32 → Wd → Option (Option α × Wd)} {rc : TX12_block} {a4 a5 : Int32} (hb : 2800 ≤ b) (hlen : prs1.length = l + 1) (hc01 : C0 1 ≤ c1)
    (hPF : STBJ stk ((pn, 6, q) :: prs1) obl (PF C0 t0 stk0 prs0 obl wA0 wM0))
    (HX : ∀ lv' t' fa' uA uM n L, n + 1 ≤ 8192 → STJ kd wr nm vv m z gA gM lv' 0 c1 stk ((pn, 6, q) :: prs1) C TK SL t' d b fa' uA uM → (lv' = true → lv = true ∧ t' + 1 = v0 + 2 * (n + 1) ∧ t' ≤ m ∧ (∀ k, k < n + 1 → kd (v0 + 2 * k) = 2) ∧ L = pnL (mtF nm TK c1 nf) v0 (n + 1) 0 ∧ HWV nm TK c1 nf v0 (n + 1) uA ∧ PF C0 t0 stk0 prs0 obl wA0 wM0 C t' uA uM ∧ HDV kd TK c1 pn p sp sf l ty tok nf 0 C t' uA uM) → (lv' = false → t' = z - 1) → GLJ kd wr nm z gA gM wd lv' stkF fa' B (KA (Int32.ofNat (n + 1)) (pnd wr L uA)) (vlE rc FU a4 a5 (Int32.ofNat (c1 + 1 + nf)) (Int32.ofNat v0) KM uM) S)
    {fo fm : Nat} : ∀ (n : Nat) (lv1 : Bool) (t : Nat) (fa : Int32) (wA wM : Wd) (j : Nat) (L : List Nat), z ≤ t + n → j + 1 ≤ t → STJ kd wr nm vv m z gA gM lv1 0 c1 stk ((pn, 6, q) :: prs1) C TK SL t d b fa wA wM →
      (lv1 = true → lv = true ∧ d ≤ 40 ∧ t = v0 + 2 * j ∧ (∀ k, k < j → kd (v0 + 2 * k) = 2) ∧ L = pnL (mtF nm TK c1 nf) v0 j 0 ∧ HWV nm TK c1 nf v0 j wA ∧ PF C0 t0 stk0 prs0 obl wA0 wM0 C t wA wM ∧ HDV kd TK c1 pn p sp sf l ty tok nf 0 C t wA wM) → (lv1 = false → t = z - 1) →
      GLJ kd wr nm z gA gM wd lv1 stkF fa B (bn2 (fX4_values_25 (oX4_values_2 (fo + n + 1)) (Int32.ofNat (c1 + 1)) (Int32.ofNat j) (pnd wr L wA)) KA) (be (fX12_procedure_324 rc (oX12_procedure_324 rc (fm + n)) a4 a5 (Int32.ofNat (c1 + 1 + nf)) (Int32.ofNat v0) wM) KM) S := by
  intro n
  induction n with
  | zero =>
    intro lv1 t fa wA wM j L hz hj hst
    have := hst.in1.tz
    omega
  | succ n ih =>
    intro lv1 t fa wA wM j L hz hj hst hl hdd
    have hin := hst.in1
    have htz := hin.tz
    have hz9 := hin.z9
    have h49 : gi (pnd wr L wA) 4 9 = Int32.ofNat t := by
      rw [(pnd_off 4 9 (by omega)).1]
      exact hin.1.2.2.2.2.2.2.2.1
    rw [a_l25, m_324, h49, show fo + (n + 1) + 1 = (fo + n + 1) + 1 by omega]
    have e3 : ∀ w, oX12_procedure_324 rc (fm + (n + 1)) a4 a5 (Int32.ofNat (c1 + 1 + nf)) (Int32.ofNat v0) w = fX12_procedure_324 rc (oX12_procedure_324 rc (fm + n)) a4 a5 (Int32.ofNat (c1 + 1 + nf)) (Int32.ofNat v0) w := fun _ => rfl
    refine J.needP (c := 2) (x := 285) (q0 := FNS wr L (FLA wA)) (P := fun C' t' a c => lv1 = true → PF C0 t0 stk0 prs0 obl wA0 wM0 C' t' a c ∧ PF C t stk ((pn, 6, q) :: prs1) obl wA wM C' t' a c) hT (STBJ.if fun _ => STBJ.and hPF PF.st0) hst (fun h _ => ⟨(hl h).2.2.2.2.2.2.1, STEP.rf⟩) (by omega) (fun h => (hl h).2.1) hb (by omega) rfl (fun lv2 t2 fa2 uA uM hst2 hF hl2 hd2 => ?_)
    have hin2 := hst2.in1
    have ew : fl (FNS wr L (FLA wA)) uA = pnd wr L uA := by
      unfold pnd
      rw [hF]
    rw [ew]
    cases lv2
    · -- dead
      have ht2 := hd2 rfl
      rw [fml_dead hin2 (hst2.fa0 rfl) pnd_off]
      unfold vlK
      rw [if_pos rfl]
      have hO : OFF PAN (fX1_note (Int32.ofNat t) 3 (pnd wr L uA)) uA := (OFF.tr e_note pnd_off).mono fun k j h => by unfold PAN; omega
      generalize fX1_note (Int32.ofNat t) 3 (pnd wr L uA) = vA at hO ⊢
      have hst3 := hst2.dn (sl' := 0) (us' := c1) (prs' := (pn, 6, q) :: prs1) (C' := C) (TK' := TK) (SL' := SL) (d' := d) (uM := uM) rfl hO
      rw [a_l2 (by omega), a_take_no hst3.in1.1 (by omega) (by rw [ht2]; have := hin2.1.2.2.2.1 (z - 1) (by omega); omega), lt2q, if_neg (show ¬ (false = true) by decide)]
      refine GLJ.ref (rM' := vlE rc FU a4 a5 (Int32.ofNat (c1 + 1 + nf)) (Int32.ofNat v0) KM uM) (fun h => absurd h (by decide)) ?_
      have := HX false t2 fa2 vA uM j [] (by omega) hst3 (fun h => absurd h (by decide)) hd2
      rw [pnd_nil] at this
      exact this
    · obtain ⟨g1, g2, g3, g4, g5⟩ := hl2 rfl
      obtain ⟨y0, yd, y1, y2, y3, y4, y5, y6⟩ := hl g1
      obtain ⟨v1, v2⟩ := g5 g1
      have hJ := (hst2.jl rfl).2
      have hz2 := hT.2.2.1
      have hdv := y6.step v2
      have hcc := hJ.2.2.2.2.2.1
      have hwt := hT.1 t2
      have hc1 := hdv.1
      have hc4 : c1 + 1 + nf ≤ 4100 := by omega
      rw [fml_live hJ hT hdv hc4 (by omega) g2]
      have hwh : fX9_where (Int32.ofNat t) uA = Int32.ofNat (wr t) := a_where hin2.1 (by omega)
      have hkk : ∀ k, k < j + 1 → kd (v0 + 2 * k) = 2 := fun k hk => by
        by_cases q9 : k = j
        · rw [q9, ← y1]; exact g2
        · exact y2 k (by omega)
      -- the class's world behind it
      have hgo : ∃ vA L2, oel (mtF nm TK c1 nf t) (vlK (oX4_values_2 ((fo + n + 1) + 1)) (Int32.ofNat (c1 + 1)) j KA 0 (fX1_note (Int32.ofNat t) 3 (pnd wr L uA))) (fun i => vlK (oX4_values_2 ((fo + n + 1) + 1)) (Int32.ofNat (c1 + 1)) j KA (Int32.ofNat (c1 + 2 + i)) (pnd wr L uA)) = bn2 (oX4_values_2 ((fo + n + 1) + 1) (Int32.ofNat (c1 + 1)) (Int32.ofNat (j + 1)) (pnd wr L2 vA)) KA ∧ L2 = pnL (mtF nm TK c1 nf) v0 (j + 1) 0 ∧ OFF (fun k j' => k = 16 ∧ c1 + 2 ≤ j') vA uA ∧ HWV nm TK c1 nf v0 (j + 1) vA ∧ (∀ i, i < nf → gi vA 16 (c1 + 1 + i + 1) = 2 ∨ gi vA 16 (c1 + 1 + i + 1) = gi uA 16 (c1 + 1 + i + 1)) := by
        have hL : pnL (mtF nm TK c1 nf) v0 (j + 1) 0 = (if mtF nm TK c1 nf t = none then [t] else []) ++ L := by
          rw [pnL_last, y3, show v0 + 2 * (0 + j) = t by omega]
        have e16 : ∀ i, i < nf → gi uA 16 (c1 + 1 + i + 1) = gi wA 16 (c1 + 1 + i + 1) := fun i hi => v2.2.2.1 16 _ (Or.inl ⟨by omega, by omega, by omega⟩)
        rcases hm : mtF nm TK c1 nf t with _ | i
        · refine ⟨uA, t :: L, ?_, ?_, OFF.rf, fun i hi => ?_, fun i hi => Or.inr rfl⟩
          · show vlK _ _ j KA 0 _ = _
            unfold vlK
            rw [if_pos rfl, pnd_late hwh]
          · rw [hL, hm, if_pos rfl]; rfl
          · rw [e16 i hi, y4 i hi]
            constructor
            · rintro ⟨k, k1, k2⟩
              exact ⟨k, by omega, k2⟩
            · rintro ⟨k, k1, k2⟩
              by_cases q9 : k = j
              · rw [q9, ← y1, hm] at k2; exact absurd k2 (by simp)
              · exact ⟨k, by omega, k2⟩
        · have hi := (fst9_ok _ _ _ hm).2.1
          refine ⟨si uA 16 (c1 + 2 + i) 2, L, ?_, ?_, OFF.si ⟨rfl, by omega⟩, fun i' hi' => ?_, fun i' hi' => ?_⟩
          · show vlK _ _ j KA (Int32.ofNat (c1 + 2 + i)) _ = _
            unfold vlK fX8_how
            rw [if_neg (show ¬ (Int32.ofNat (c1 + 2 + i) = 0) from of_ne (n := c1 + 2 + i) (k := 0) (by omega) (by omega) (by omega)), ltq, rsi_iN (by omega) (by omega), pnd_si (by omega)]
          · rw [hL, hm, if_neg (by simp)]; rfl
          · by_cases q8 : i' = i
            · rw [q8, show c1 + 1 + i + 1 = c1 + 2 + i by omega, gi_si0]
              exact ⟨fun _ => ⟨j, by omega, by rw [← y1]; exact hm⟩, fun _ => rfl⟩
            · rw [gi_si1 (by omega), e16 i' hi', y4 i' hi']
              constructor
              · rintro ⟨k, k1, k2⟩
                exact ⟨k, by omega, k2⟩
              · rintro ⟨k, k1, k2⟩
                by_cases q9 : k = j
                · rw [q9, ← y1, hm] at k2
                  exact absurd (Option.some.inj k2).symm q8
                · exact ⟨k, by omega, k2⟩
          · by_cases q8 : i' = i
            · rw [q8, show c1 + 1 + i + 1 = c1 + 2 + i by omega, gi_si0]
              exact Or.inl rfl
            · rw [gi_si1 (by omega)]
              exact Or.inr rfl
      obtain ⟨vA, L2, k1, k2, k3, k4, k5⟩ := hgo
      rw [k1]
      have fA : ∀ k j', ¬ (k = 16 ∧ c1 + 2 ≤ j') → gi vA k j' = gi uA k j' := fun k j' hk => (k3 k j' hk).1
      have htop := hJ.top
      have hlv := hJ.lev
      have hst3 : STJ kd wr nm vv m z gA gM true 0 c1 stk ((pn, 6, q) :: prs1) C TK SL t2 d b fa2 vA uM := hst2.upd (fun h => absurd h (by decide)) (fun _ => ⟨k3.mono fun k j hk => by unfold PAU; omega, OFF.rf, Or.inl ⟨by unfold FLA; rw [fA 3 6 (by omega), fA 3 7 (by omega)], rfl⟩, fun l' hl' => fA 36 l' (by omega), by rw [fA 36 _ (by omega)]; exact htop.2.2.1, htop.2.2.2, hlv.2, hJ.topq.1, fun i hi => by
        rw [hdv.2.2.2.1.2.2.1]
        exact of_ne (by omega) (by omega) (by omega), Or.inl rfl⟩)
      have hPFv : PF C0 t0 stk0 prs0 obl wA0 wM0 C t2 vA uM := STEP.at2 v1 (k3.mono fun k j hk => by unfold NQA2; omega) OFF.rf v1.1 v1.2.1 EXF.rf
      have hdv2 : HDV kd TK c1 pn p sp sf l ty tok nf 0 C t2 vA uM := by
        obtain ⟨a1, a2, a3, a4, ⟨a5, a6, a7⟩, a8⟩ := hdv
        refine ⟨a1, a2, a3, a4.agr (fun k hk => fA k _ (by omega)) (fA 25 _ (by omega)) (fun _ _ => rfl) (fun _ _ => rfl) EXF.rf, ⟨by rw [fA 19 _ (by omega)]; exact a5, by rw [fA 20 _ (by omega)]; exact a6, a7⟩, fun i hi => ?_⟩
        obtain ⟨b1, b2, b3, b4, b5, b6⟩ := a8 i hi
        refine ⟨b1, b2, b3.agr (fun k hk => fA k _ (by omega)) (fA 25 _ (by omega)) (fun _ _ => rfl) EXF.rf, b4.agr (Nat.le_refl _) (fun k hk => fA k _ (by omega)) (fun _ _ => rfl), b5, ?_⟩
        rcases k5 i hi with h | h
        · exact Or.inl h
        · rw [h]; exact b6
      rw [a_l2 (by omega)]
      refine J.takeP (c := 40) (q0 := FNS wr L2 (FLA vA)) (P := fun C' t' a c => PF C0 t0 stk0 prs0 obl wA0 wM0 C' t' a c ∧ PF C t2 stk ((pn, 6, q) :: prs1) obl vA uM C' t' a c) hT (STBJ.and hPF PF.st0) hst3 (fun _ => ⟨hPFv, STEP.rf⟩) (by omega) (fun _ => yd) (by omega) rfl (fun h40 sA sM hst4 hF4 hl4 => ?_) (fun h40 => ?_)
      · obtain ⟨r1, r2, r3⟩ := hl4 rfl
        have ew4 : fl (FNS wr L2 (FLA vA)) sA = pnd wr L2 sA := by
          unfold pnd
          rw [hF4]
        rw [if_pos rfl, if_pos rfl, ew4, e3]
        refine ih true (t2 + 1) fa2 sA sM (j + 1) L2 (by omega) (by omega) hst4 (fun _ => ⟨y0, yd, by omega, hkk, k2, fun i hi => ?_, r2, hdv2.step r3⟩) (fun h => absurd h (by decide))
        rw [r3.2.2.1 16 _ (Or.inl ⟨by omega, by omega, by omega⟩)]
        exact k4 i hi
      · rw [if_neg (show ¬ (false = true) by decide), if_neg (show ¬ (false = true) by decide)]
        exact HX true t2 fa2 vA uM j L2 (by omega) hst3 (fun _ => ⟨y0, by omega, by omega, hkk, k2, k4, hPFv, hdv2⟩) (fun h => absurd h (by decide))
end JT
