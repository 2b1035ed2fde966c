/-! BOTH MACHINES: where a NAME's words lie -/
section LX
/-- symbols that have words -/
def SLK (E : SENV) (y : Nat) : Prop := gi (vM E) 19 y = 1 ∨ gi (vM E) 19 y = 2 ∨ gi (vM E) 19 y = 6
/-- static: symbols -/
def SYS (E : SENV) : Prop := ∃ (kd : Nat → Nat) (m : Nat) (C : Nat → Nat), C 1 = eNo E 5 2 ∧ C 2 = eNo E 5 6 ∧ C 4 = eNo E 5 3 ∧ (C 1 ≤ 4100 ∧ C 4 ≤ 1200 ∧ C 5 ≤ 4100) ∧ (gi (vA E) 14 0 = 0 ∧ PFM (vM E) (C 1)) ∧ (∀ y, y < C 1 → SYM kd m C E.2.2.2.2 (vA E) (vM E) y) ∧
  (∀ s, s < C 2 → ∀ y ∈ eSL E s, y < C 1 ∧ gi (vM E) 23 y = gi (vM E) 15 s) ∧
  (∀ y, y < C 1 → SLK E y → gi (vM E) 26 y = Int32.ofNat (sM E y) ∧ sM E y ≤ 60000 ∧ gi (vA E) 18 (y + 1) = Int32.ofNat (sA E y) ∧ sA E y ≤ 4096) ∧
  eDS E 0 = [] ∧ 1 ≤ C 4 ∧ (∀ y, y < C 1 → gi (vM E) 19 y = 6 → gi (vM E) 24 y ≠ 0 ∧ (gi (vM E) 24 y = 2 → gi (vM E) 20 y ≠ 0)) ∧ ∀ p, p < C 4 → gi (vM E) 30 p = Int32.ofNat (eLV E p) ∧ eLV E p ≤ 41
theorem lk_in {f : Nat → Nat} {SL : Nat → List Nat} {x : Nat} : ∀ {stk : List Nat}, lk f SL x stk ≠ 0 → ∃ s ∈ stk, lk f SL x stk - 1 ∈ SL s := by
  intro stk
  induction stk with
  | nil => exact fun h => absurd rfl h
  | cons s r ih =>
    intro h
    unfold lk at h ⊢
    by_cases q : fnd f x (SL s) = 0
    · rw [if_pos q] at h ⊢
      obtain ⟨s', h1, h2⟩ := ih h
      exact ⟨s', List.mem_cons_of_mem _ h1, h2⟩
    · rw [if_neg q]
      exact ⟨s, List.mem_cons_self, (fnd_in q).1⟩
theorem UPM.lt {c : Nat} {w : Wd} : ∀ {stk : List Nat}, UPM c w stk → ∀ s ∈ stk, s < c := by
  intro stk
  induction stk with
  | nil => exact fun _ s hs => absurd hs (by simp)
  | cons s r ih =>
    intro h s' hs
    rcases List.mem_cons.mp hs with rfl | hs
    · exact h.2.1
    · exact ih h.2.2 s' hs
theorem suf_in {s : Nat} : ∀ {stk : List Nat}, s ∈ stk → ∃ r, (s :: r) <:+ stk := by
  intro stk
  induction stk with
  | nil => exact fun h => absurd h (by simp)
  | cons a r ih =>
    intro h
    rcases List.mem_cons.mp h with rfl | h
    · exact ⟨r, List.suffix_refl _⟩
    · obtain ⟨r', h1⟩ := ih h
      exact ⟨r', h1.trans (List.suffix_cons _ _)⟩
variable {E : SENV} {K : CXT} {el a b h sp sc i : Nat} {x : Int} {wA wM : Wd}
theorem JS.act (H : JS E K el a b h sp sc x i wA wM) {j : Nat} {B : ACT} (hB : K.1[j]? = some B) : ACM j B wA wM ∧ B.1 4 ≤ K.2.2 3 ∧ B.1 5 ≤ h ∧ B.1 6 ≤ sp ∧ B.1 7 ≤ K.2.2 4 ∧ aB B ≤ 199000 ∧ j < 64 ∧ (aOn B → SEA E K.1 K.2.1 j B) := by
  have hd := H.dep
  obtain ⟨A, pr, de, fu, j1, j2, j3, j4, j5, j6, j7, j8, j9, j10, ⟨j11, j12, j13, j14, j15, j16⟩, o1⟩ := H
  obtain ⟨n1, n2, n3, n4, n5, n6, n7⟩ := j10 j B hB
  have : j < K.1.length := by
    rcases List.getElem?_eq_some_iff.mp hB with ⟨q, _⟩
    exact q
  exact ⟨n1, n2, n3, n4, n5, n6, by omega, n7⟩
theorem JS.mem (H : JS E K el a b h sp sc x i wA wM) : MEM K.2.1 wA wM ∧ DIS K.2.1 (K.2.2 1) (K.2.2 2) (K.2.2 5) := by
  obtain ⟨A, pr, de, fu, j1, j2, j3, j4, j5, j6, j7, j8, j9, j10⟩ := H
  exact ⟨j8, j9⟩
/-- activations further out -/
theorem JS.lex (hS : SYS E) (H : JS E K el a b h sp sc x i wA wM) : ∀ (q : Nat) (A : ACT), K.1[q]? = some A → aOn A → ∀ s ∈ aK A, ∃ j B n, K.1[j]? = some B ∧ aOn B ∧ s ∈ aK B ∧ own E s (aP B) ∧ FCH wA (K.2.2 1) n (aF A) (aF B) ∧ ACH wM n q j ∧ eLV E (aP A) = eLV E (aP B) + n := by
  obtain ⟨kd, m, C, c1, c2, c3, c4, c5, c6, c7, c8, c9, c10⟩ := hS
  obtain ⟨hM, hD⟩ := H.mem
  intro q
  induction q using Nat.strongRecOn with
  | ind q ih =>
    intro A hA hon s hs
    obtain ⟨m1, n2, n3, n4, n5, n6, n7, n8⟩ := H.act hA
    obtain ⟨⟨L, hL, hLo, gF, hc⟩, s1, s2, s3, s4, s5, ⟨o, ho, ho1, ho2⟩, s6⟩ := n8 hon
    have hs0 := hs
    rw [ho] at hs
    rcases List.mem_append.mp hs with hs | hs
    · exact ⟨q, A, 0, hA, hon, hs0, ho1 s hs, rfl, rfl, rfl⟩
    · rcases hc with ⟨p0, _⟩ | ⟨p0, p1, p2, p3⟩
      · rw [p0, c9] at hs
        exact absurd hs (by simp)
      · obtain ⟨j, B, n, r1, r2, r3, r4, r5, r6, r7⟩ := ih _ p1 L hL hLo s (p2.2.2.1 s hs)
        refine ⟨j, B, n + 1, r1, r2, r3, r4, ?_, ?_, by omega⟩
        · exact ⟨(hD.2.2 _ _ _ _ _ _ gF).2.1 (by omega) |>.1, aF L, ((hM _ _ _ _ _ _ gF).2.1 (Or.inr rfl)), r5⟩
        · exact ⟨n7, A.1 3, m1.2.2.1, r6⟩
/-- what's known of the symbol that a NAME is -/
def FNDS (E : SENV) (K : CXT) (wA wM : Wd) (A : ACT) (y j n : Nat) (B : ACT) : Prop := y < eNo E 5 2 ∧ K.1[j]? = some B ∧ aOn B ∧ SYC E K.1 K.2.1 B y ∧ FCH wA (K.2.2 1) n (aF A) (aF B) ∧ ACH wM n (K.2.2 0) j ∧ n ≤ 41 ∧ upI (vM E) (eLV E (aP A)) y = Int32.ofNat n ∧ Int32.ofNat (eLV E (aP A)) - gi (vA E) 17 (y + 1) = Int32.ofNat n ∧ j < 64 ∧ gi wM 87 j = Int32.ofNat (aB B) ∧ aB B ≤ 199000 ∧
  (SLK E y → gi (vM E) 26 y = Int32.ofNat (sM E y) ∧ sM E y ≤ 60000 ∧ gi (vA E) 18 (y + 1) = Int32.ofNat (sA E y) ∧ sA E y ≤ 4096) ∧ ∃ s, s ∈ aK B ∧ own E s (aP B) ∧ y ∈ eSL E s
theorem JS.sym (hS : SYS E) (H : JS E K el a b h sp sc x i wA wM) {A : ACT} (hA : K.1[K.2.2 0]? = some A) (hon : aOn A) {stk : List Nat} (hsub : ∀ s ∈ stk, s ∈ aK A) {tk : Nat} (hl : eLU E stk tk ≠ 0) : ∃ y j n B, eLU E stk tk = y + 1 ∧ FNDS E K wA wM A y j n B := by
  obtain ⟨s, hs, hy⟩ := lk_in hl
  have hs := hsub s hs
  obtain ⟨j, B, n, r1, r2, r3, r4, r5, r6, r7⟩ := H.lex hS _ A hA hon s hs
  obtain ⟨kd, m, C, c1, c2, c3, c4, c5, c6, c7, c8, c9, c10, c10', c11⟩ := hS
  obtain ⟨m1, n2, n3, n4, n5, n6, n7, n8⟩ := H.act r1
  obtain ⟨⟨L, hL, hLo, gF, hc⟩, s1, s2, s3, s4, s5, ⟨o, ho, ho1, ho2⟩, s6, s7, s8, s9⟩ := n8 r2
  obtain ⟨_, _, _, _, _, _, ⟨o', _⟩, s6', _⟩ := (H.act hA).2.2.2.2.2.2.2 hon
  have hsc : s < C 2 := by rw [c2]; exact s6'.lt s hs
  obtain ⟨y1, y2⟩ := c7 s hsc _ hy
  have hpB : aP B < C 4 := by
    rcases hc with ⟨p0, _⟩ | ⟨p0, p1, p2, p3⟩
    · omega
    · rw [c3]; exact p2.2.1
  have e23 : gi (vM E) 23 (eLU E stk tk - 1) = Int32.ofNat (aP B) := y2.trans r4
  have hlA : eLV E (aP A) ≤ 41 := by
    obtain ⟨⟨L', _, _, _, hc'⟩, _⟩ := (H.act hA).2.2.2.2.2.2.2 hon
    refine (c11 _ ?_).2
    rcases hc' with ⟨p0, _⟩ | ⟨p0, p1, p2, p3⟩
    · omega
    · rw [c3]; exact p2.2.1
  have e17 : gi (vA E) 17 (eLU E stk tk - 1 + 1) = Int32.ofNat (eLV E (aP B)) := by
    obtain ⟨_, _, _, _, _, _, _, ⟨p, l, g1, g2, g3, g4⟩, _⟩ := c6 _ y1
    have : p = aP B := (eq_iN (by omega) (by omega)).mp (g1.symm.trans e23)
    subst this
    exact g3.trans (g4.symm.trans (c11 _ hpB).1)
  refine ⟨eLU E stk tk - 1, j, n, B, (Nat.sub_add_cancel (Nat.pos_of_ne_zero hl)).symm, Nat.lt_of_lt_of_eq y1 c1, r1, r2, s8 s r3 r4 _ hy, r5, r6, by omega, ?_, ?_, n7, m1.1, n6, c8 _ y1, s, r3, r4, hy⟩
  · unfold upI
    rw [e23, tc_iN (by omega), (c11 _ hpB).1, sub_iN (by omega) (by omega)]
    congr 1; omega
  · rw [e17, sub_iN (by omega) (by omega)]
    congr 1; omega
/-- SCOPES that are there -/
def SCE (E : SENV) (stk : List Nat) : Prop := ∀ s ∈ stk, s < eNo E 5 6
theorem JS.sce (H : JS E K el a b h sp sc x i wA wM) {j : Nat} {B : ACT} (hB : K.1[j]? = some B) (hon : aOn B) : SCE E (aK B) := ((H.act hB).2.2.2.2.2.2.2 hon).2.2.2.2.2.2.2.1.lt
end LX
