/-! BOTH MACHINES: what doesn't speak of worlds, apart; a call that's pending -/
section KS7
variable {E : SENV} {K : CXT} {Lim p nx a a1 b b1 h sp sc i el j S : Nat} {x x1 : Int} {wA wM uA uM : Wd} {A B N : ACT} {F : Nat → Int64}
/-- of JS all that doesn't speak of worlds -/
def KST (E : SENV) (K : CXT) : Prop := DIS K.2.1 (K.2.2 1) (K.2.2 2) (K.2.2 5) ∧ (∀ j B, K.1[j]? = some B → B.1 4 ≤ K.2.2 3 ∧ B.1 7 ≤ K.2.2 4 ∧ aB B ≤ 199000 ∧ (aOn B → SEA E K.1 K.2.1 j B)) ∧ K.2.2 4 ≤ 4 * K.2.2 3 + 4 ∧ K.1.length ≤ K.2.2 3 + 1 ∧ K.2.2 2 ≤ eNo E 5 1 + K.1.length * eNo E 5 7 ∧ K.2.2 1 ≤ 6096 + 1690 * cnO K.1
theorem JS.kst (H : JS E K el a b h sp sc x i wA wM) : KST E K := by
  obtain ⟨A', pr, de, fu, j1, j2, j3, j4, j5, j6, j7, j8, j9, j10, ⟨j11, j12, j13, j14, j15, j16, j17⟩, o1, o2⟩ := H
  exact ⟨j9, fun j B hB => ⟨(j10 j B hB).2.1, (j10 j B hB).2.2.2.2.1, (j10 j B hB).2.2.2.2.2.1, (j10 j B hB).2.2.2.2.2.2⟩, j12, j15, j16, j17⟩
theorem JS.of {pr de fu : Nat} (hK : KST E K) (hA : K.1[K.2.2 0]? = some A) (hon : aOn A) (C : CK (cA E) (eNo E 5 0) a (aF A) (K.2.2 1) h (K.2.2 3) el wA) (T : TLY (eNo E 5 5) sc pr de fu wA) (M : MK (dM E) b (K.2.2 0) sp (K.2.2 4) K.1.length (K.2.2 2) (K.2.2 5) (K.2.2 3) wM) (TM : TLM (eNo E 5 5) sc pr de fu wM) (hp : ∀ j, j < pr → j < 500 → gl wA 55 j = gl wM 86 j) (hm : MEM K.2.1 wA wM) (ha : ∀ j B, K.1[j]? = some B → ACM j B wA wM ∧ B.1 5 ≤ h ∧ B.1 6 ≤ sp) (hs : sp ≤ h) (hx : (i : Int) ≤ x + KK * sc ∧ x ≤ KK) (O1 : OFF PZA wA (E.1 4)) (O2 : OFF PZR wM (E.1 5)) : JS E K el a b h sp sc x i wA wM := by
  obtain ⟨k1, k2, k3, k4, k5, k6⟩ := hK
  exact ⟨A, pr, de, fu, hA, hon, C, T, M, TM, hp, hm, k1, fun j B hB => ⟨(ha j B hB).1, (k2 j B hB).1, (ha j B hB).2.1, (ha j B hB).2.2, (k2 j B hB).2⟩, ⟨hs, k3, hx.1, hx.2, k4, k5, k6⟩, O1, O2⟩
theorem ACM.nw (h : ACM j B wA wM) (e : ∀ k, 87 ≤ k → k ≤ 98 → ¬ (92 ≤ k ∧ k ≤ 97) → gi uM k j = gi wM k j) (hk : KEE (B.1 5) (B.1 4) (B.1 6) (B.1 7) wA wM uA uM) : ACM j B uA uM := by
  obtain ⟨m1, m2, m3, m4, m5, m6, m7, m8⟩ := h
  refine ⟨(e 87 (by omega) (by omega) (by omega)).trans m1, (e 98 (by omega) (by omega) (by omega)).trans m2, (e 88 (by omega) (by omega) (by omega)).trans m3, (e 89 (by omega) (by omega) (by omega)).trans m4, (e 90 (by omega) (by omega) (by omega)).trans m5, (e 91 (by omega) (by omega) (by omega)).trans m6, m7.imp id (fun z => ⟨z.1, z.2.1, z.2.2.1, ?_⟩), m8.tr hk⟩
  exact (hk.2.2.2.1 96 (B.1 7 - 1) (by omega) (by omega) (by omega)).trans z.2.2.2
/-- a call pending: the new activation N, its memory of S words -/
def callG (G : GHO) (mt S : Nat) (F : Nat → Int64) : GHO := fun k x q ty va vm => G k x q ty va vm ∨ (k = 3 ∧ x = 0 ∧ ty = 0 ∧ va = 0 ∧ mt ≤ q ∧ q < mt + S ∧ vm = F q)
def callK (K : CXT) (S : Nat) (F : Nat → Int64) (N : ACT) : CXT := (K.1 ++ [N], callG K.2.1 (K.2.2 2) S F, fun k => if k = 2 then K.2.2 2 + S else if k = 3 then K.2.2 3 + 1 else if k = 4 then K.2.2 4 + 1 else K.2.2 k)
theorem app_at {as : List ACT} {j : Nat} {B N : ACT} (h : (as ++ [N])[j]? = some B) : as[j]? = some B ∧ j < as.length ∨ j = as.length ∧ B = N := by
  by_cases q : j < as.length
  · rw [List.getElem?_append_left q] at h; exact Or.inl ⟨h, q⟩
  · have hl : j < (as ++ [N]).length := by
      rcases List.getElem?_eq_some_iff.mp h with ⟨z, _⟩
      exact z
    rw [List.length_append, List.length_singleton] at hl
    have e : j = as.length := by omega
    subst e
    rw [List.getElem?_append_right (Nat.le_refl _), Nat.sub_self] at h
    exact Or.inr ⟨rfl, (Option.some.inj h).symm⟩
theorem at_app {as : List ACT} {j : Nat} {B : ACT} {l : List ACT} (h : as[j]? = some B) : (as ++ l)[j]? = some B := by
  rcases List.getElem?_eq_some_iff.mp h with ⟨q, _⟩
  rw [List.getElem?_append_left q]; exact h
theorem at_last {as : List ACT} {N : ACT} : (as ++ [N])[as.length]? = some N := by
  rw [List.getElem?_append_right (Nat.le_refl _), Nat.sub_self]; rfl
theorem cnO_app : ∀ (as : List ACT) (N : ACT), cnO (as ++ [N]) = cnO as + (if N.1 10 = 1 then 1 else 0) := by
  intro as N
  induction as with
  | nil => show (if N.1 10 = 1 then 1 else 0) + cnO [] = cnO [] + _; unfold cnO; omega
  | cons A r ih => show (if A.1 10 = 1 then 1 else 0) + cnO (r ++ [N]) = (if A.1 10 = 1 then 1 else 0) + cnO r + _; rw [ih]; omega
theorem DIS.call {G : GHO} {tp mt : Nat} (h : DIS G tp mt el) (hm : mt + S ≤ 1048576) : DIS (callG G mt S F) tp (mt + S) el := by
  obtain ⟨d1, d2, d3⟩ := h
  refine ⟨?_, ?_, ?_⟩
  · intro k x q ty va vm k' x' q' ty' va' vm' g g' hk hk' e
    rcases g with g | g
    · rcases g' with g' | g'
      · exact d1 _ _ _ _ _ _ _ _ _ _ _ _ g g' hk hk' e
      · omega
    · omega
  · intro k x q ty va vm k' x' q' ty' va' vm' g g' hk hk' e
    rcases g with g | g
    · rcases g' with g' | g'
      · exact d2 _ _ _ _ _ _ _ _ _ _ _ _ g g' hk hk' e
      · rcases (d3 _ _ _ _ _ _ g).2.2.1 hk with z | z <;> omega
    · rcases g' with g' | g'
      · rcases (d3 _ _ _ _ _ _ g').2.2.1 hk' with z | z <;> omega
      · obtain ⟨g1, g2, g3, g4, g5, g6, g7⟩ := g
        obtain ⟨r1, r2, r3, r4, r5, r6, r7⟩ := g'
        subst e
        exact ⟨by omega, by omega, g3.trans r3.symm, g4.trans r4.symm, g7.trans r7.symm⟩
  · intro k x q ty va vm g
    rcases g with g | g
    · obtain ⟨b1, b2, b3, b4⟩ := d3 _ _ _ _ _ _ g
      exact ⟨b1, b2, fun hk => (b3 hk).imp (fun z => ⟨by omega, z.2⟩) id, b4⟩
    · exact ⟨by omega, fun hk => by omega, fun hk => Or.inl ⟨by omega, by omega⟩, fun hk => by omega⟩
theorem callG.old {G : GHO} {mt : Nat} : ∀ k x q ty va vm, G k x q ty va vm → callG G mt S F k x q ty va vm := fun _ _ _ _ _ _ g => Or.inl g
theorem KST.call (h : KST E K) (hN : ¬ aOn N) (hb : N.1 4 ≤ K.2.2 3 + 1 ∧ N.1 7 ≤ K.2.2 4 + 1 ∧ aB N ≤ 199000) (hS : S ≤ eNo E 5 7) (hm : K.2.2 2 + S ≤ 1048576) : KST E (callK K S F N) := by
  obtain ⟨k1, k2, k3, k4, k5, k6⟩ := h
  refine ⟨k1.call hm, fun j B hB => ?_, ?_, ?_, ?_, ?_⟩
  · show B.1 4 ≤ K.2.2 3 + 1 ∧ B.1 7 ≤ K.2.2 4 + 1 ∧ aB B ≤ 199000 ∧ (aOn B → SEA E (K.1 ++ [N]) (callG K.2.1 (K.2.2 2) S F) j B)
    rcases app_at hB with ⟨q, _⟩ | ⟨_, q⟩
    · obtain ⟨z1, z2, z3, z4⟩ := k2 j B q
      exact ⟨by omega, by omega, z3, fun ho => (z4 ho).mono EXA.app callG.old⟩
    · subst q
      exact ⟨hb.1, hb.2.1, hb.2.2, fun ho => absurd ho hN⟩
  · show K.2.2 4 + 1 ≤ 4 * (K.2.2 3 + 1) + 4
    omega
  · show (K.1 ++ [N]).length ≤ K.2.2 3 + 1 + 1
    rw [List.length_append, List.length_singleton]; omega
  · show K.2.2 2 + S ≤ eNo E 5 1 + (K.1 ++ [N]).length * eNo E 5 7
    rw [List.length_append, List.length_singleton, Nat.add_mul, Nat.one_mul]; omega
  · show K.2.2 1 ≤ 6096 + 1690 * cnO (K.1 ++ [N])
    have : cnO K.1 ≤ cnO (K.1 ++ [N]) := by rw [cnO_app]; omega
    omega
/-- LABELS, with one activation more -/
theorem HND.app {K' : CXT} (h : HND E K Lim) (e1 : K'.1 = K.1 ++ [N]) (hg : ∀ k x q ty va vm, K.2.1 k x q ty va vm → K'.2.1 k x q ty va vm) (hN : aOn N → ∀ (s : Nat) (r : List Nat) (l : Nat), (s :: r) <:+ aK N → own E s (aP N) → l ∈ eSL E s → gi (vM E) 19 l = 4 → False) : HND E K' Lim := fun j A s r l h1 h2 h3 h4 h5 h6 => by
  rw [e1] at h1
  rcases app_at h1 with ⟨q, hj⟩ | ⟨_, q⟩
  · obtain ⟨K2, ⟨z1, z2⟩, k2, k3, k4, k5, k6⟩ := h j A s r l q h2 h3 h4 h5 h6
    refine ⟨K2, ⟨?_, z2⟩, fun k x q ty va vm g => hg _ _ _ _ _ _ (k2 _ _ _ _ _ _ g), k3, k4, k5, k6⟩
    rw [z1, e1, List.take_append_of_le_length (by omega)]
  · subst q
    exact absurd (hN h2 s r l h3 h4 h5 h6) id
end KS7
