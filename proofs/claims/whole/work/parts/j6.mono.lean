/-! BOTH MACHINES: more activations, more cells, longer rows of SCOPES -/
section MO6
variable {E : SENV} {as as' : List ACT} {G G' : GHO} {i y a t p k : Nat} {ty : Int32} {A B B' : ACT}
/-- the same activation, with more SCOPES -/
def ALK (B B' : ACT) : Prop := (∀ k, k < 100 → B'.1 k = B.1 k) ∧ ∀ s ∈ aK B, s ∈ aK B'
/-- all that are there are there still -/
def EXA (as as' : List ACT) : Prop := ∀ (j : Nat) (B : ACT), as[j]? = some B → aOn B → ∃ B', as'[j]? = some B' ∧ aOn B' ∧ ALK B B'
theorem ALK.rf : ALK B B := ⟨fun _ _ => rfl, fun _ h => h⟩
theorem EXA.app {l : List ACT} : EXA as (as ++ l) := fun j B hB hon => ⟨B, by
  rcases List.getElem?_eq_some_iff.mp hB with ⟨q, _⟩
  rw [List.getElem?_append_left q]; exact hB, hon, ALK.rf⟩
theorem ALK.eP (h : ALK B B') : aP B' = aP B := h.1 0 (by omega)
theorem ALK.eF (h : ALK B B') : aF B' = aF B := h.1 1 (by omega)
theorem ALK.eB (h : ALK B B') : aB B' = aB B := h.1 2 (by omega)
theorem THV.alk (h : ALK B B') (hT : THV E a t ty B) : THV E a t ty B' := by
  obtain ⟨stk, K, n, b, a1, b1, t0, r⟩ := hT
  refine ⟨stk, K, n, b, a1, b1, fun s hs => h.2 s (t0 s hs), ?_⟩
  rw [h.eP]; exact r
theorem THL.alk (h : ALK B B') (hT : THL E a t B) : THL E a t B' := by
  obtain ⟨stk, K, n, b, a1, b1, t0, r⟩ := hT
  refine ⟨stk, K, n, b, a1, b1, fun s hs => h.2 s (t0 s hs), ?_⟩
  rw [h.eP]; exact r
theorem CAB.alk (h : ALK B B') (hT : CAB E B p) : CAB E B' p := by
  obtain ⟨h1, h2, h3, s, r, h4, h5⟩ := hT
  refine ⟨h1, h2, fun s hs => h.2 s (h3 s hs), s, r, h4, ?_⟩
  rw [h.eP]; exact h5
theorem SWV.alk (h : ALK B B') (hT : SWV E k B) : SWV E k B' := by
  obtain ⟨h1, h2, s, h3, h4, h5⟩ := hT
  refine ⟨h1, h2, s, h.2 s h3, ?_, h5⟩
  rw [h.eP]; exact h4
theorem DESC.mono {x q nb : Nat} (hg : ∀ k x q ty va vm, G k x q ty va vm → G' k x q ty va vm) (h : DESC G x q ty nb) : DESC G' x q ty nb := by
  obtain ⟨base, sz, lo, hi, h1, h2, h3, h4, h5, h6, h7⟩ := h
  exact ⟨base, sz, lo, hi, hg _ _ _ _ _ _ h1, hg _ _ _ _ _ _ h2, fun k hk => ⟨hg _ _ _ _ _ _ (h3 k hk).1, hg _ _ _ _ _ _ (h3 k hk).2.1, (h3 k hk).2.2⟩, h4, h5, h6, fun t g1 g2 => hg _ _ _ _ _ _ (h7 t g1 g2)⟩
theorem SYC.mono (hx : EXA as as') (hg : ∀ k x q ty va vm, G k x q ty va vm → G' k x q ty va vm) (h : SYC E as G A y) : SYC E as' G' A y := by
  obtain ⟨h1, h2, h3, h4, h5, h6, h7, h8, h9⟩ := h
  refine ⟨fun g1 g2 => hg _ _ _ _ _ _ (h1 g1 g2), fun g1 g2 => hg _ _ _ _ _ _ (h2 g1 g2), fun g1 => (h3 g1).mono hg, fun g1 g2 g3 => hg _ _ _ _ _ _ (h4 g1 g2 g3), fun g1 g2 g3 => ?_, fun g1 g2 => ?_, fun g1 g2 => ?_, fun g1 g2 => ?_, fun g1 g2 => ?_⟩
  · obtain ⟨a, t, j, B, r1, r2, r3, r4, r5⟩ := h5 g1 g2 g3
    obtain ⟨B', q1, q2, q3⟩ := hx j B r1 r2
    refine ⟨a, t, j, B', q1, q2, hg _ _ _ _ _ _ r3, ?_, r5.alk q3⟩
    rw [q3.eF]; exact hg _ _ _ _ _ _ r4
  · obtain ⟨x, q, nb, r1, r2⟩ := h6 g1 g2
    exact ⟨x, q, nb, hg _ _ _ _ _ _ r1, r2.mono hg⟩
  · obtain ⟨p, j, B, r1, r2, r3, r4, r5, r6⟩ := h7 g1 g2
    obtain ⟨B', q1, q2, q3⟩ := hx j B r1 r2
    refine ⟨p, j, B', q1, q2, hg _ _ _ _ _ _ r3, ?_, r5.alk q3, r6⟩
    rw [q3.eF]; exact hg _ _ _ _ _ _ r4
  · obtain ⟨a, t, j, B, r1, r2, r3, r4, r5⟩ := h8 g1 g2
    obtain ⟨B', q1, q2, q3⟩ := hx j B r1 r2
    refine ⟨a, t, j, B', q1, q2, hg _ _ _ _ _ _ r3, ?_, r5.alk q3⟩
    rw [q3.eF]; exact hg _ _ _ _ _ _ r4
  · obtain ⟨k, j, B, x, r1, r2, r3, r4, r5, r6⟩ := h9 g1 g2
    obtain ⟨B', q1, q2, q3⟩ := hx j B r1 r2
    refine ⟨k, j, B', x, q1, q2, r3, hg _ _ _ _ _ _ r4, ?_, r6.alk q3⟩
    rw [q3.eF]; exact hg _ _ _ _ _ _ r5
theorem SEA.mono (hx : EXA as as') (hg : ∀ k x q ty va vm, G k x q ty va vm → G' k x q ty va vm) (h : SEA E as G i A) : SEA E as' G' i A := by
  obtain ⟨⟨L, h1, h2, h3, h4⟩, s1, s2, s3, s4, s5, s6, s7, s8, s9, s10, s11⟩ := h
  obtain ⟨L', q1, q2, q3⟩ := hx _ L h1 h2
  refine ⟨⟨L', q1, q2, ?_, ?_⟩, hg _ _ _ _ _ _ s1, hg _ _ _ _ _ _ s2, hg _ _ _ _ _ _ s3, hg _ _ _ _ _ _ s4, fun g1 g2 => hg _ _ _ _ _ _ (s5 g1 g2), s6, s7, s8, fun s hs ho y hy => (s9 s hs ho y hy).mono hx hg, fun s r hs ho bk g1 g2 => ?_, fun y g1 g2 g3 => hg _ _ _ _ _ _ (s11 y g1 g2 g3)⟩
  · rw [q3.eF]; exact hg _ _ _ _ _ _ h3
  · refine h4.imp id (fun z => ⟨z.1, z.2.1, z.2.2.1.alk q3, ?_⟩)
    rw [q3.eP]; exact z.2.2.2
  · obtain ⟨r1, r2, r3⟩ := s10 s r hs ho bk g1 g2
    exact ⟨hg _ _ _ _ _ _ r1, hg _ _ _ _ _ _ r2, r3⟩
/-- frames further out, without worlds -/
def LNK (as : List ACT) (G : GHO) : Nat → Nat → Nat → Prop
  | 0, q, j => j = q
  | n + 1, q, j => ∃ A L, as[q]? = some A ∧ aOn A ∧ as[A.1 3]? = some L ∧ aOn L ∧ G 2 (aF A) 0 0 (Int64.ofNat (aF L)) 0 ∧ LNK as G n (A.1 3) j
theorem LNK.app {l : List ACT} (hg : ∀ k x q ty va vm, G k x q ty va vm → G' k x q ty va vm) : ∀ {n q j : Nat}, LNK as G n q j → LNK (as ++ l) G' n q j := by
  have e : ∀ {j : Nat} {B : ACT}, as[j]? = some B → (as ++ l)[j]? = some B := fun {j B} hB => by
    rcases List.getElem?_eq_some_iff.mp hB with ⟨q, _⟩
    rw [List.getElem?_append_left q]; exact hB
  intro n
  induction n with
  | zero => exact fun h => h
  | succ n ih =>
    intro q j ⟨A, L, h1, h2, h3, h4, h5, h6⟩
    exact ⟨A, L, e h1, h2, e h3, h4, hg _ _ _ _ _ _ h5, ih h6⟩
variable {K : CXT} {el a1 b h sp sc : Nat} {x : Int} {wA wM : Wd}
/-- .. with them -/
theorem JS.lnk (H : JS E K el a1 b h sp sc x i wA wM) : ∀ {n q j : Nat} {A B : ACT}, LNK K.1 K.2.1 n q j → K.1[q]? = some A → K.1[j]? = some B → FCH wA (K.2.2 1) n (aF A) (aF B) ∧ ACH wM n q j := by
  obtain ⟨hM, hD⟩ := H.mem
  intro n
  induction n with
  | zero =>
    intro q j A B h hA hB
    have h : j = q := h
    subst h
    have := Option.some.inj (hA.symm.trans hB)
    subst this
    exact ⟨rfl, rfl⟩
  | succ n ih =>
    intro q j A B ⟨A', L, h1, h2, h3, h4, h5, h6⟩ hA hB
    have := Option.some.inj (hA.symm.trans h1)
    subst this
    obtain ⟨m1, n2, n3, n4, n5, n6, n7, n8⟩ := H.act hA
    obtain ⟨r1, r2⟩ := ih h6 h3 hB
    exact ⟨⟨((hD.2.2 _ _ _ _ _ _ h5).2.1 (by omega)).1, aF L, ((hM _ _ _ _ _ _ h5).2.1 (Or.inr rfl)), r1⟩, ⟨n7, A.1 3, m1.2.2.1, r2⟩⟩
/-- what's known of the symbol that a NAME is, without worlds -/
def FNW (E : SENV) (K : CXT) (A : ACT) (y j n : Nat) (B : ACT) : Prop := y < eNo E 5 2 ∧ K.1[j]? = some B ∧ aOn B ∧ SYC E K.1 K.2.1 B y ∧ LNK K.1 K.2.1 n (K.2.2 0) j ∧ n ≤ 41 ∧ upI (vM E) (eLV E (aP A)) y = Int32.ofNat n ∧ Int32.ofNat (eLV E (aP A)) - gi (vA E) 17 (y + 1) = Int32.ofNat n ∧ j < 64 ∧ eLV E (aP A) = eLV E (aP B) + n ∧
  (SLK E y → gi (vM E) 26 y = Int32.ofNat (sM E y) ∧ sM E y ≤ 60000 ∧ gi (vA E) 18 (y + 1) = Int32.ofNat (sA E y) ∧ sA E y ≤ 4096) ∧ ∃ s, s ∈ aK B ∧ own E s (aP B) ∧ y ∈ eSL E s
theorem JS.lnx (hS : SYS E) (H : JS E K el a1 b h sp sc x i wA wM) : ∀ (q : Nat) (A : ACT), K.1[q]? = some A → aOn A → ∀ s ∈ aK A, ∃ j B n, K.1[j]? = some B ∧ aOn B ∧ s ∈ aK B ∧ own E s (aP B) ∧ LNK K.1 K.2.1 n q j ∧ eLV E (aP A) = eLV E (aP B) + n := by
  obtain ⟨kd, m, C, c1, c2, c3, c4, c5, c6, c7, c8, c9, c10⟩ := hS
  intro q
  induction q using Nat.strongRecOn with
  | ind q ih =>
    intro A hA hon s hs
    obtain ⟨⟨L, hL, hLo, gF, hc⟩, s1, s2, s3, s4, s5, ⟨o, ho, ho1, ho2⟩, s6⟩ := (H.act hA).2.2.2.2.2.2.2 hon
    have hs0 := hs
    rw [ho] at hs
    rcases List.mem_append.mp hs with hs | hs
    · exact ⟨q, A, 0, hA, hon, hs0, ho1 s hs, rfl, rfl⟩
    · rcases hc with ⟨p0, _⟩ | ⟨p0, p1, p2, p3⟩
      · rw [p0, c9] at hs
        exact absurd hs (by simp)
      · obtain ⟨j, B, n, r1, r2, r3, r4, r5, r6⟩ := ih _ p1 L hL hLo s (p2.2.2.1 s hs)
        exact ⟨j, B, n + 1, r1, r2, r3, r4, ⟨A, L, hA, hon, hL, hLo, gF, r5⟩, by omega⟩
theorem JS.fns (hS : SYS E) (H : JS E K el a1 b h sp sc x i wA wM) {A : ACT} (hA : K.1[K.2.2 0]? = some A) (hon : aOn A) {stk : List Nat} (hsub : ∀ s ∈ stk, s ∈ aK A) {tk : Nat} (hl : eLU E stk tk ≠ 0) : ∃ y j n B, eLU E stk tk = y + 1 ∧ FNW E K A y j n B := by
  obtain ⟨s, hs, hy⟩ := lk_in hl
  have hs := hsub s hs
  obtain ⟨j, B, n, r1, r2, r3, r4, r5, r7⟩ := H.lnx hS _ A hA hon s hs
  obtain ⟨kd, m, C, c1, c2, c3, c4, c5, c6, c7, c8, c9, c10, c10', c11⟩ := id hS
  obtain ⟨m1, n2, n3, n4, n5, n6, n7, n8⟩ := H.act r1
  obtain ⟨⟨L, hL, hLo, gF, hc⟩, s1, s2, s3, s4, s5, ⟨o, ho, ho1, ho2⟩, s6, s7, s8, s9⟩ := n8 r2
  obtain ⟨_, _, _, _, _, _, ⟨o', _⟩, s6', _⟩ := (H.act hA).2.2.2.2.2.2.2 hon
  have hsc : s < C 2 := by rw [c2]; exact s6'.lt s hs
  obtain ⟨y1, y2⟩ := c7 s hsc _ hy
  have pB := H.pro hS r1 r2
  have pA := H.pro hS hA hon
  have e23 : gi (vM E) 23 (eLU E stk tk - 1) = Int32.ofNat (aP B) := y2.trans r4
  have e17 : gi (vA E) 17 (eLU E stk tk - 1 + 1) = Int32.ofNat (eLV E (aP B)) := by
    obtain ⟨_, _, _, _, _, _, _, ⟨p, l, g1, g2, g3, g4⟩, _⟩ := c6 _ y1
    have yp : p = aP B := by
      have e := g1.symm.trans e23
      exact (eq_iN (by omega) (by omega)).mp e
    subst yp
    exact g3.trans (g4.symm.trans pB.2.2.2)
  refine ⟨eLU E stk tk - 1, j, n, B, (Nat.sub_add_cancel (Nat.pos_of_ne_zero hl)).symm, Nat.lt_of_lt_of_eq y1 c1, r1, r2, s8 s r3 r4 _ hy, r5, by omega, ?_, ?_, n7, r7, c8 _ y1, s, r3, r4, hy⟩
  · unfold upI
    rw [e23, tc_iN (by omega), pB.2.2.2, sub_iN (by omega) (by omega)]
    congr 1; omega
  · rw [e17, sub_iN (by omega) (by omega)]
    congr 1; omega
theorem FNW.nds {y j n : Nat} (F : FNW E K A y j n B) (H : JS E K el a1 b h sp sc x i wA wM) (hA : K.1[K.2.2 0]? = some A) : FNDS E K wA wM A y j n B := by
  obtain ⟨f1, f2, f3, f4, f5, f6, f7, f8, f9, f10, f11, f12⟩ := F
  obtain ⟨r1, r2⟩ := H.lnk f5 hA f2
  obtain ⟨m1, n2, n3, n4, n5, n6, n7, n8⟩ := H.act f2
  exact ⟨f1, f2, f3, f4, r1, r2, f6, f7, f8, f9, m1.1, n6, f11, f12⟩
end MO6
