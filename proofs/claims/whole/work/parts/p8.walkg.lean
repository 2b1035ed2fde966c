/-! A WALK WITH THE CLASS'S SLOTS OF BLOCKS: PSTG, out of PSTX -/
section PI8
variable {kd : Nat → Nat} {fA fM : Wd} {W : PSTT} {WG : (Nat → Nat) → PSTT} {d p sg : Nat} {stk : List Nat} {r : PRL}
/-- g is f from lo on, below hi -/
def AGN (f g : Nat → Nat) (lo hi : Nat) : Prop := ∀ t, lo ≤ t → t < hi → g t = f t
/-- what W says can be had of WG, for a g that counts within alone -/
def WTR (W : PSTT) (WG : (Nat → Nat) → PSTT) : Prop := ∀ d s e n stk prs q q' C C', W d s e n stk prs q q' C C' → (s ≤ e ∧ LEC C C' ∧ C 0 ≤ n ∧ n < C' 0) ∧ ∃ f, ∀ g, AGN f g (C 2) (C' 2) → WG g d s e n stk prs q q' C C'
theorem WTR.tp (h : WTR W WG) : WTP W := fun d s e n stk prs q q' C C' hh => (h d s e n stk prs q q' C C' hh).1
def mgN (c : Nat) (f1 f2 : Nat → Nat) : Nat → Nat := fun t => if t < c then f1 t else f2 t
theorem AGN.ll {c lo hi : Nat} {f1 f2 g : Nat → Nat} (h : AGN (mgN c f1 f2) g lo hi) (hc : c ≤ hi) : AGN f1 g lo c := fun t h1 h2 => by
  rw [h t h1 (by omega)]; exact if_pos h2
theorem AGN.rr {c lo hi : Nat} {f1 f2 g : Nat → Nat} (h : AGN (mgN c f1 f2) g lo hi) (hc : lo ≤ c) : AGN f2 g c hi := fun t h1 h2 => by
  rw [h t (by omega) h2]; exact if_neg (by omega)
theorem AGN.sub {lo hi lo' hi' : Nat} {f g : Nat → Nat} (h : AGN f g lo hi) (h1 : lo ≤ lo') (h2 : hi' ≤ hi) : AGN f g lo' hi' := fun t a b => h t (by omega) (by omega)
theorem ins_tr (hW : WTR W WG) {d s e n q q' : Nat} {stk : List Nat} {prs : PRL} {C C' : CV} (h : INS9 fM W d s e n stk prs q q' C C') : (s ≤ e ∧ LEC (upD C 2 1) C') ∧ ∃ f, ∀ g, AGN f g (C 2) (C' 2) → INS9 fM (WG g) d s e n stk prs q q' C C' := by
  obtain ⟨a1, a2, a3, h⟩ := h
  obtain ⟨⟨t1, t2, _, _⟩, f, hf⟩ := hW _ _ _ _ _ _ _ _ _ _ h
  exact ⟨⟨t1, t2⟩, f, fun g hg => ⟨a1, a2, a3, hf g (hg.sub (by rw [upD_s]; omega) (Nat.le_refl _))⟩⟩
theorem sts_tr (hW : WTR W WG) : ∀ (xs : List Nat) (s e q q' : Nat) (C C' : CV), STSX kd fM W d stk p sg r xs s e q q' C C' → LEC C C' ∧ ∃ f, ∀ g, AGN f g (C 2) (C' 2) → STSX kd fM (WG g) d stk p sg r xs s e q q' C C' := by
  intro xs
  induction xs with
  | nil => exact fun s e q q' C C' h => h.elim
  | cons x xr ih =>
    intro s e q q' C C' h
    cases xr with
    | nil =>
      obtain ⟨h1, h2, h3⟩ := h
      obtain ⟨⟨_, t2, _, _⟩, f, hf⟩ := hW _ _ _ _ _ _ _ _ _ _ h1
      exact ⟨t2, f, fun g hg => ⟨hf g hg, h2, h3⟩⟩
    | cons y yr =>
      obtain ⟨e1, q1, C1, h1, h2, h3, h4⟩ := h
      obtain ⟨⟨_, t2, _, _⟩, f, hf⟩ := hW _ _ _ _ _ _ _ _ _ _ h1
      obtain ⟨t3, f2, hf2⟩ := ih _ _ _ _ _ _ h4
      exact ⟨LEC.tr3 t2 t3, mgN (C1 2) f f2, fun g hg => ⟨e1, q1, C1, hf g (hg.ll (t3 2)), h2, h3, hf2 g (hg.rr (t2 2))⟩⟩
theorem dcl_tr (hW : WTR W WG) {out : Int32} {s e sg sg' q q' : Nat} {an : Option Nat} {C C' : CV} (h : DCLX kd fA fM W d stk out p r s e sg sg' q q' an C C') : LEC C C' ∧ ∃ f, ∀ g, AGN f g (C 2) (C' 2) → DCLX kd fA fM (WG g) d stk out p r s e sg sg' q q' an C C' := by
  refine ⟨(dcl_tp hW.tp h).2.1, ?_⟩
  rcases h with h | h | h | h
  · exact ⟨fun _ => 0, fun g _ => Or.inl h⟩
  · exact ⟨fun _ => 0, fun g _ => Or.inr (Or.inl h)⟩
  · exact ⟨fun _ => 0, fun g _ => Or.inr (Or.inr (Or.inl h))⟩
  · obtain ⟨s1, ty, pn, nf, W0, sb, nb, q1, a1, a2, a3, a4, a5, a6, a7, a8, a9, a10, a11, a12, a13, a14, a15, a16, a17, a18, a19, a20, a21, a22, a23, a24, a25, a26, a27, hB, hE⟩ := h
    obtain ⟨⟨_, t2, _, _⟩, f, hf⟩ := hW _ _ _ _ _ _ _ _ _ _ hB
    refine ⟨f, fun g hg => Or.inr (Or.inr (Or.inr ⟨s1, ty, pn, nf, W0, sb, nb, q1, a1, a2, a3, a4, a5, a6, a7, a8, a9, a10, a11, a12, a13, a14, a15, a16, a17, a18, a19, a20, a21, a22, a23, a24, a25, a26, a27, hf g (hg.sub ?_ (Nat.le_refl _)), hE⟩))⟩
    rw [upD_n (by decide), upD_n (by decide), upD_s, upD_n (by decide)]
    omega
theorem dcs_tr (hW : WTR W WG) {out : Int32} : ∀ (j s e sg sg' q q' : Nat) (al : List Nat) (C C' : CV), DCSX kd fA fM W d stk out p r j s e sg sg' q q' al C C' → LEC C C' ∧ ∃ f, ∀ g, AGN f g (C 2) (C' 2) → DCSX kd fA fM (WG g) d stk out p r j s e sg sg' q q' al C C' := by
  intro j
  induction j with
  | zero =>
    intro s e sg sg' q q' al C C' h
    refine ⟨?_, fun _ => 0, fun g _ => h⟩
    obtain ⟨_, _, _, _, hC, _⟩ := h
    rw [hC]; exact LEC.rf
  | succ j ih =>
    intro s e sg sg' q q' al C C' ⟨e1, sg1, q1, C1, an, al1, h1, h2, h3, h4, h5, h6⟩
    obtain ⟨t2, f, hf⟩ := dcl_tr hW h1
    obtain ⟨t3, f2, hf2⟩ := ih _ _ _ _ _ _ _ _ _ h6
    exact ⟨LEC.tr3 t2 t3, mgN (C1 2) f f2, fun g hg => ⟨e1, sg1, q1, C1, an, al1, hf g (hg.ll (t3 2)), h2, h3, h4, h5, hf2 g (hg.rr (t2 2))⟩⟩
theorem blk_tr (hW : WTR W WG) {s e n q q' : Nat} {prs : PRL} {C C' : CV} (h : BLKX kd fA fM W d s e n stk prs q q' C C') : (C 2 + 1 ≤ C' 2 ∧ gi fM 7 n = 27) ∧ ∃ f, ∀ g, AGN f g (C 2 + 1) (C' 2) → BLKX kd fA fM (WG g) d s e n stk prs q q' C C' := by
  obtain ⟨p, sg, q0, r, b1, b2, b3, b4, b5, b6, b7, b8, b9, b10, jd, s1, sg1, q1, al, C1, xs, e1, c1, c2, c3, c4, hD, hS, hE⟩ := h
  obtain ⟨t2, f, hf⟩ := dcs_tr hW _ _ _ _ _ _ _ _ _ _ hD
  obtain ⟨t3, f2, hf2⟩ := sts_tr hW _ _ _ _ _ _ _ hS
  have u2 : upD (upD (upD C 0 1) 2 1) 3 1 2 = C 2 + 1 := by
    rw [upD_n (by decide), upD_s, upD_n (by decide)]
  have k2 := t2 2
  rw [u2] at k2 hf
  refine ⟨⟨Nat.le_trans k2 (t3 2), b4⟩, mgN (C1 2) f f2, fun g hg => ⟨p, sg, q0, r, b1, b2, b3, b4, b5, b6, b7, b8, b9, b10, jd, s1, sg1, q1, al, C1, xs, e1, c1, c2, c3, c4, hf g (hg.ll (t3 2)), hf2 g (hg.rr k2), hE⟩⟩
theorem pln_tr (hW : WTR W WG) {s e n q q' : Nat} {prs : PRL} {C C' : CV} (h : PLNX kd fA fM W d s e n stk prs q q' C C') : (gi fM 7 n = 27 → C 2 + 1 ≤ C' 2) ∧ ∃ f, ∀ g, AGN f g (if gi fM 7 n = 27 then C 2 + 1 else C 2) (C' 2) → PLNX kd fA fM (WG g) d s e n stk prs q q' C C' := by
  obtain ⟨p, sg, q0, r, hp, h | h | h | h | h | h | h | h⟩ := h
  · exact ⟨fun e => absurd (h.2.2.2.1.symm.trans e) (by decide), fun _ => 0, fun g _ => ⟨p, sg, q0, r, hp, Or.inl h⟩⟩
  · exact ⟨fun e => absurd (h.2.2.1.symm.trans e) (by decide), fun _ => 0, fun g _ => ⟨p, sg, q0, r, hp, Or.inr (Or.inl h)⟩⟩
  · exact ⟨fun e => absurd (h.2.2.2.1.symm.trans e) (by decide), fun _ => 0, fun g _ => ⟨p, sg, q0, r, hp, Or.inr (Or.inr (Or.inl h))⟩⟩
  · exact ⟨fun e => absurd (h.2.1.symm.trans e) (by decide), fun _ => 0, fun g _ => ⟨p, sg, q0, r, hp, Or.inr (Or.inr (Or.inr (Or.inl h)))⟩⟩
  · obtain ⟨a1, a2, a3, x, y, e1, e2, cn, q1, C1, b1, b2, b3, b4, hI, hx⟩ := h
    have h27 : ¬ gi fM 7 n = 27 := fun e => absurd (a3.symm.trans e) (by decide)
    refine ⟨fun e => absurd e h27, ?_⟩
    rw [if_neg h27]
    obtain ⟨⟨_, t2⟩, f, hf⟩ := ins_tr hW hI
    have u2 : upC C 0 (x + 1) 2 = C 2 := upC_n (by decide)
    have k2 := t2 2
    rw [upD_s, u2] at k2
    rw [u2] at hf
    rcases hx with ⟨c1, c2, c3, c4, c5, c6⟩ | ⟨c1, v, C2, c2, hI2, c3, c4⟩
    · have e2' : C' 2 = C1 2 := by rw [c6]; exact upC_n (by decide)
      refine ⟨f, fun g hg => ⟨p, sg, q0, r, hp, Or.inr (Or.inr (Or.inr (Or.inr (Or.inl ⟨a1, a2, a3, x, y, e1, e2, cn, q1, C1, b1, b2, b3, b4, hf g (by rw [← e2']; exact hg), Or.inl ⟨c1, c2, c3, c4, c5, c6⟩⟩))))⟩⟩
    · obtain ⟨⟨_, t3⟩, f2, hf2⟩ := ins_tr hW hI2
      have k3 := t3 2
      rw [upD_s] at k3
      have e2' : C' 2 = C2 2 := by rw [c4]; exact upC_n (by decide)
      rw [e2']
      exact ⟨mgN (C1 2) f f2, fun g hg => ⟨p, sg, q0, r, hp, Or.inr (Or.inr (Or.inr (Or.inr (Or.inl ⟨a1, a2, a3, x, y, e1, e2, cn, q1, C1, b1, b2, b3, b4, hf g (hg.ll (by omega)), Or.inr ⟨c1, v, C2, c2, hf2 g (hg.rr (by omega)), c3, c4⟩⟩))))⟩⟩
  · obtain ⟨a1, a2, a3, x, xs, y, e1, e2, lo, C1, b1, b2, b3, b4, b5, b6, b7, hI, c1, c2⟩ := h
    have h27 : ¬ gi fM 7 n = 27 := fun e => absurd (a3.symm.trans e) (by decide)
    refine ⟨fun e => absurd e h27, ?_⟩
    rw [if_neg h27]
    obtain ⟨⟨_, t2⟩, f, hf⟩ := ins_tr hW hI
    have u2 : upC C 0 lo 2 = C 2 := upC_n (by decide)
    rw [u2] at hf
    have e2' : C' 2 = C1 2 := by rw [c2]; exact upC_n (by decide)
    rw [e2']
    exact ⟨f, fun g hg => ⟨p, sg, q0, r, hp, Or.inr (Or.inr (Or.inr (Or.inr (Or.inr (Or.inl ⟨a1, a2, a3, x, xs, y, e1, e2, lo, C1, b1, b2, b3, b4, b5, b6, b7, hf g hg, c1, c2⟩)))))⟩⟩
  · obtain ⟨⟨k, h27⟩, f, hf⟩ := blk_tr hW h
    refine ⟨fun _ => k, ?_⟩
    rw [if_pos h27]
    exact ⟨f, fun g hg => ⟨p, sg, q0, r, hp, Or.inr (Or.inr (Or.inr (Or.inr (Or.inr (Or.inr (Or.inl (hf g hg)))))))⟩⟩
  · exact ⟨fun e => absurd (h.2.1.symm.trans e) (by decide), fun _ => 0, fun g _ => ⟨p, sg, q0, r, hp, Or.inr (Or.inr (Or.inr (Or.inr (Or.inr (Or.inr (Or.inr h))))))⟩⟩
/-- a STATEMENT, and which slot of the class's each BLOCK in it begins with -/
def PSTG (kd : Nat → Nat) (fA fM : Wd) (SG : Nat → Nat) : Nat → PSTT
  | 0, _, _, _, _, _, _, _, _, _, _ => False
  | k + 1, d, s, e, n, stk, prs, q, q', C, C' => ((∃ j, LBS kd fM n s j (C 1) ∧ DCN fA fM (C 1) j (stk.headD 0) (prs.headD (0, 0, 0)).1 ∧ ¬ (kd (s + 2 * j) = 2 ∧ kd (s + 2 * j + 1) = 42) ∧ PLNX kd fA fM (PSTG kd fA fM SG k) d (s + 2 * j) e n stk prs q q' (upD C 1 j) C') ∧ s ≤ e ∧ LEC C C' ∧ C 0 ≤ n ∧ n < C' 0) ∧ (gi fM 7 n = 27 → SG (C 2) = (prs.headD (0, 0, 0)).2.1)
theorem pstg_of : ∀ k, WTR (PSTX kd fA fM k) (fun SG => PSTG kd fA fM SG k) := by
  intro k
  induction k with
  | zero => exact fun d s e n stk prs q q' C C' h => h.elim
  | succ k ih =>
    intro d s e n stk prs q q' C C' ⟨⟨j, h1, h2, h3, h4⟩, h5⟩
    refine ⟨h5, ?_⟩
    obtain ⟨hk, f, hf⟩ := pln_tr ih h4
    have u2 : upD C 1 j 2 = C 2 := upD_n (by decide)
    rw [u2] at hk hf
    by_cases c : gi fM 7 n = 27
    · rw [if_pos c] at hf
      refine ⟨fun t => if t = C 2 then (prs.headD (0, 0, 0)).2.1 else f t, fun g hg => ⟨⟨⟨j, h1, h2, h3, hf g (fun t a b => ?_)⟩, h5⟩, fun _ => ?_⟩⟩
      · rw [hg t (by omega) b]
        exact if_neg (by omega)
      · rw [hg (C 2) (Nat.le_refl _) (hk c)]
        exact if_pos rfl
    · rw [if_neg c] at hf
      exact ⟨f, fun g hg => ⟨⟨⟨j, h1, h2, h3, hf g hg⟩, h5⟩, fun e => absurd e c⟩⟩
theorem pstg_x {SG : Nat → Nat} : ∀ k d s e n stk prs q q' C C', PSTG kd fA fM SG k d s e n stk prs q q' C C' → PSTX kd fA fM k d s e n stk prs q q' C C' := by
  intro k
  induction k with
  | zero => exact fun d s e n stk prs q q' C C' h => h.elim
  | succ k ih =>
    intro d s e n stk prs q q' C C' ⟨⟨⟨j, h1, h2, h3, h4⟩, h5⟩, _⟩
    have hW : WTR (PSTG kd fA fM SG k) (fun _ => PSTX kd fA fM k) := fun d s e n stk prs q q' C C' h => ⟨pst_tp k _ _ _ _ _ _ _ _ _ _ (ih _ _ _ _ _ _ _ _ _ _ h), fun _ => 0, fun _ _ => ih _ _ _ _ _ _ _ _ _ _ h⟩
    obtain ⟨_, f, hf⟩ := pln_tr hW h4
    exact ⟨⟨j, h1, h2, h3, hf f (fun _ _ _ => rfl)⟩, h5⟩
/-- the PROGRAM's BLOCK -/
theorem blkg_of {k s e n q q' : Nat} {prs : PRL} {C C' : CV} (h : BLKX kd fA fM (PSTX kd fA fM k) d s e n stk prs q q' C C') : ∃ SG : Nat → Nat, SG (C 2) = (prs.headD (0, 0, 0)).2.1 ∧ BLKX kd fA fM (PSTG kd fA fM SG k) d s e n stk prs q q' C C' := by
  obtain ⟨_, f, hf⟩ := blk_tr (pstg_of k) h
  refine ⟨fun t => if t = C 2 then (prs.headD (0, 0, 0)).2.1 else f t, if_pos rfl, hf _ (fun t a b => if_neg (by omega))⟩
end PI8
