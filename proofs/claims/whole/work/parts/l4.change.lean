/-! BOTH MACHINES: what's innermost is changed -/
section LE4
variable {E : SENV} {K K' : CXT} {Lim p nx a a1 b b1 h sp sc i el el1 j h0 sp0 h1 sp1 i1 el' : Nat} {x x1 : Int} {wA wM uA uM : Wd} {A A' B B0 N : ACT} {G' : GHO} {s : Nat} {r stk : List Nat}
/-- the same activation, but for its SCOPES and their ELEMENTS -/
def SMA (B0 B : ACT) : Prop := (∀ k, k < 100 → B.1 k = B0.1 k) ∧ B.2.2 = B0.2.2
theorem SMA.rf : SMA B B := ⟨fun _ _ => rfl, rfl⟩
theorem SMA.on (h : SMA B0 B) : aOn B ↔ aOn B0 := by unfold aOn; rw [h.1 10 (by omega)]
theorem ACM.sma (h : SMA B0 B) (hm : ACM j B0 wA wM) : ACM j B wA wM := by
  obtain ⟨h1, h2⟩ := h
  have e : ∀ k, k < 100 → B0.1 k = B.1 k := fun k hk => (h1 k hk).symm
  unfold ACM aB aP at hm ⊢
  rw [e 2 (by omega), e 0 (by omega), e 3 (by omega), e 7 (by omega), e 6 (by omega), e 8 (by omega), e 4 (by omega), e 5 (by omega), ← h2] at hm
  exact hm
theorem JS.ch (H : JS E K el a b h sp sc x i wA wM) (hK : KST E K') (hc : ∀ (j : Nat) (B : ACT), K'.1[j]? = some B → ∃ B0, K.1[j]? = some B0 ∧ SMA B0 B) (hA : K'.1[K'.2.2 0]? = some A) (hon : aOn A) {pr de fu : Nat} (C : CK (cA E) (eNo E 5 0) a1 (aF A) (K'.2.2 1) h1 (K'.2.2 3) el1 uA) (T : TLY (eNo E 5 5) sc pr de fu uA) (M : MK (dM E) b1 (K'.2.2 0) sp1 (K'.2.2 4) K'.1.length (K'.2.2 2) (K'.2.2 5) (K'.2.2 3) uM) (TM : TLM (eNo E 5 5) sc pr de fu uM) (hp : ∀ pr0 de0 fu0, TLY (eNo E 5 5) sc pr0 de0 fu0 wA → pr0 = pr) (hm : MEM K'.2.1 uA uM) (OA : OFF (fun k j => (k = 48 ∧ 10 ≤ j) ∨ k = 50 ∨ (k = 51 ∧ h0 ≤ j) ∨ (k = 56 ∧ j = 6)) uA wA) (OM : OFF (fun k j => (k = 0 ∧ 127 ≤ j) ∨ k = 83 ∨ k = 84 ∨ (k = 85 ∧ sp0 ≤ j)) uM wM) (L : LOWK K h0 sp0) (hb : h0 ≤ h1 ∧ sp0 ≤ sp1 ∧ sp1 ≤ h1) (hx : (i1 : Int) ≤ x1 + KK * sc ∧ x1 ≤ KK) : JS E K' el1 a1 b1 h1 sp1 sc x1 i1 uA uM := by
  obtain ⟨_, pr', de', fu', j1, j2, j3, j4, j5, j6, j7, j8, j9, j10, _, o1, o2⟩ := H
  have ep := hp _ _ _ j4
  refine JS.of hK hA hon C T M TM (fun q q1 q2 => ?_) hm (fun j B hB => ?_) hb.2.2 hx (OFF.tr (OA.mono fun k j p => by unfold PZA; omega) o1) (OFF.tr (OM.mono fun k j p => by unfold PZR; omega) o2)
  · rw [(OA 55 q (by omega)).2, (OM 86 q (by omega)).2]; exact j7 q (by omega) q2
  · obtain ⟨B0, hB0, hs⟩ := hc j B hB
    obtain ⟨m1, _⟩ := j10 j B0 hB0
    obtain ⟨l1, l2⟩ := L j B0 hB0
    refine ⟨ACM.sma hs (m1.nw (fun k p1 p2 p3 => (OM k j (by omega)).1) ⟨fun j' hj' => (OA 51 j' (by omega)).2, fun k j' p q' r => (OA k j' (by omega)).1, fun j' hj' => (OM 85 j' (by omega)).2, fun k j' p q' r => (OM k j' (by omega)).1, PSD.eq (OA 56 3 (by omega)).1 (OA 56 4 (by omega)).1⟩), ?_, ?_⟩
    · rw [hs.1 5 (by omega)]; omega
    · rw [hs.1 6 (by omega)]; omega
/-- another last activation, other cells -/
def newK (K : CXT) (A' : ACT) (G' : GHO) (el' : Nat) : CXT := (K.1.take (K.2.2 0) ++ [A'], G', fun k => if k = 5 then el' else K.2.2 k)
theorem last_eqK {as : List ACT} {n : Nat} (h : as[n]? = some A) (hl : as.length = n + 1) : as = as.take n ++ [A] := by
  have e := List.take_append_drop n as
  have hd : as.drop n = [A] := by
    rw [List.drop_eq_getElem_cons (by omega), List.drop_of_length_le (by omega)]
    have : as[n]? = some as[n] := List.getElem?_eq_getElem (by omega)
    rw [← Option.some.inj (h.symm.trans this)]
  rw [hd] at e
  exact e.symm
theorem newK_len (hl : K.1.length = K.2.2 0 + 1) : (newK K A' G' el').1.length = K.1.length := by
  show (K.1.take (K.2.2 0) ++ [A']).length = K.1.length
  rw [List.length_append, List.length_take, List.length_singleton]; omega
theorem newK_at (hl : K.1.length = K.2.2 0 + 1) : (newK K A' G' el').1[(newK K A' G' el').2.2 0]? = some A' := by
  show (K.1.take (K.2.2 0) ++ [A'])[K.2.2 0]? = some A'
  have e : (K.1.take (K.2.2 0)).length = K.2.2 0 := by rw [List.length_take]; omega
  have := at_last (as := K.1.take (K.2.2 0)) (N := A')
  rw [e] at this
  exact this
theorem newK_old (hl : K.1.length = K.2.2 0 + 1) {B : ACT} (h : (newK K A' G' el').1[j]? = some B) : j < K.2.2 0 ∧ K.1[j]? = some B ∨ j = K.2.2 0 ∧ B = A' := by
  have e : (K.1.take (K.2.2 0)).length = K.2.2 0 := by rw [List.length_take]; omega
  rcases app_at (show (K.1.take (K.2.2 0) ++ [A'])[j]? = some B from h) with ⟨q, hj⟩ | ⟨hj, q⟩
  · rw [e] at hj
    rw [List.getElem?_take_of_lt hj] at q
    exact Or.inl ⟨hj, q⟩
  · rw [e] at hj
    exact Or.inr ⟨hj, q⟩
theorem newK_of (hl : K.1.length = K.2.2 0 + 1) {B : ACT} (h : K.1[j]? = some B) (hj : j < K.2.2 0) : (newK K A' G' el').1[j]? = some B := by
  have e : (K.1.take (K.2.2 0)).length = K.2.2 0 := by rw [List.length_take]; omega
  refine at_app ?_
  rw [List.getElem?_take_of_lt hj]
  exact h
theorem cnO_sma : ∀ (as : List ACT) (A A' : ACT), A'.1 10 = A.1 10 → cnO (as ++ [A']) = cnO (as ++ [A]) := by
  intro as A A' h
  rw [cnO_app, cnO_app, h]
theorem newK_exa (hA : K.1[K.2.2 0]? = some A) (hl : K.1.length = K.2.2 0 + 1) (ha : ALK A A') : EXA K.1 (newK K A' G' el').1 := fun j B hB hon => by
  by_cases e : j = K.2.2 0
  · subst e
    have := Option.some.inj (hA.symm.trans hB)
    subst this
    refine ⟨A', newK_at hl, ?_, ha⟩
    unfold aOn
    rw [ha.1 10 (by omega)]; exact hon
  · have hj : j < K.2.2 0 := by
      rcases List.getElem?_eq_some_iff.mp hB with ⟨z, _⟩
      omega
    exact ⟨B, newK_of hl hB hj, hon, ALK.rf⟩
theorem KST.nk (h : KST E K) (hA : K.1[K.2.2 0]? = some A) (hon : aOn A) (hl : K.1.length = K.2.2 0 + 1) (ha : ALK A A') (hg : ∀ k x q ty va vm, K.2.1 k x q ty va vm → G' k x q ty va vm) (hD : DIS G' (K.2.2 1) (K.2.2 2) el') (hS : SEA E (newK K A' G' el').1 G' (K.2.2 0) A') : KST E (newK K A' G' el') := by
  obtain ⟨k1, k2, k3, k4, k5, k6⟩ := h
  refine ⟨hD, fun j B hB => ?_, k3, ?_, ?_, ?_⟩
  · show B.1 4 ≤ K.2.2 3 ∧ B.1 7 ≤ K.2.2 4 ∧ aB B ≤ 199000 ∧ (aOn B → SEA E (newK K A' G' el').1 G' j B)
    rcases newK_old hl hB with ⟨hj, q⟩ | ⟨hj, q⟩
    · obtain ⟨z1, z2, z3, z4⟩ := k2 j B q
      exact ⟨z1, z2, z3, fun ho => (z4 ho).mono (newK_exa hA hl ha) hg⟩
    · subst hj
      subst q
      obtain ⟨z1, z2, z3, z4⟩ := k2 _ A hA
      refine ⟨?_, ?_, ?_, fun _ => hS⟩
      · rw [ha.1 4 (by omega)]; exact z1
      · rw [ha.1 7 (by omega)]; exact z2
      · rw [ha.eB]; exact z3
  · rw [newK_len hl]; exact k4
  · rw [newK_len hl]; exact k5
  · show K.2.2 1 ≤ 6096 + 1690 * cnO (K.1.take (K.2.2 0) ++ [A'])
    rw [cnO_sma _ A A' (ha.1 10 (by omega)), ← last_eqK hA hl]; exact k6
/-- LABELS of what's further out -/
theorem HND.nk (h : HND E K Lim) (hA : K.1[K.2.2 0]? = some A) (hl : K.1.length = K.2.2 0 + 1) (hg : ∀ k x q ty va vm, K.2.1 k x q ty va vm → G' k x q ty va vm) (hn : ∀ (s : Nat) (r : List Nat) (l : Nat), aOn A' → (s :: r) <:+ aK A' → own E s (aP A') → l ∈ eSL E s → gi (vM E) 19 l = 4 →
    ∃ K2 : CXT, (K2.1 = K.1.take (K.2.2 0) ++ [(A'.1, s :: r, A'.2.2)] ∧ K2.2.2 0 = K.2.2 0 ∧ K2.2.2 1 = aF A' + eNo E 1 (aP A') ∧ K2.2.2 2 = aB A' + eNo E 3 (aP A') ∧ K2.2.2 3 = A'.1 4 ∧ K2.2.2 4 = A'.1 7 ∧ K2.2.2 5 = kvO E A' (s :: r)) ∧
    (∀ k x q ty va vm, K2.2.1 k x q ty va vm → G' k x q ty va vm) ∧ DIS K2.2.1 (K2.2.2 1) (K2.2.2 2) (K2.2.2 5) ∧ (∀ i B, K2.1[i]? = some B → aOn B → SEA E K2.1 K2.2.1 i B) ∧ (A'.1 6 ≤ A'.1 5 ∧ A'.1 7 ≤ 4 * A'.1 4 + 4 ∧ aX A' ≤ KK ∧ K2.1.length ≤ A'.1 4 + 1 ∧ K2.2.2 2 ≤ eNo E 5 1 + K2.1.length * eNo E 5 7 ∧ K2.2.2 1 ≤ 6096 + 1690 * cnO K2.1 ∧ K2.2.2 5 ≤ 2000 ∧ ∀ (q : Nat) (B' : ACT), K2.1[q]? = some B' → B'.1 5 ≤ A'.1 5 ∧ B'.1 6 ≤ A'.1 6 ∧ B'.1 4 ≤ A'.1 4 ∧ B'.1 7 ≤ A'.1 7) ∧
    ∀ a c el uA uM sc i, gl (cA E) 41 (l + 1) = Int64.ofNat a → gi (dM E) 55 l = Int32.ofNat c → JS E K2 el a c (A'.1 5) (A'.1 6) sc (aX A' - KK) i uA uM → eNo E 5 5 < Lim + sc → GD E i uA uM) : HND E (newK K A' G' el') Lim := fun j B s r l h1 h2 h3 h4 h5 h6 => by
  have et : (K.1.take (K.2.2 0)).length = K.2.2 0 := by rw [List.length_take]; omega
  rcases newK_old hl h1 with ⟨hj, q⟩ | ⟨hj, q⟩
  · obtain ⟨K2, ⟨z1, z2⟩, k2, k3, k4, k5, k6⟩ := h j B s r l q h2 h3 h4 h5 h6
    refine ⟨K2, ⟨?_, z2⟩, fun k x q ty va vm g => hg _ _ _ _ _ _ (k2 _ _ _ _ _ _ g), k3, k4, k5, k6⟩
    rw [z1]
    show K.1.take j ++ _ = (K.1.take (K.2.2 0) ++ [A']).take j ++ _
    rw [List.take_append_of_le_length (by omega), List.take_take, Nat.min_eq_left (by omega)]
  · subst hj
    subst q
    obtain ⟨K2, ⟨z1, z2⟩, k2, k3⟩ := hn s r l h2 h3 h4 h5 h6
    refine ⟨K2, ⟨?_, z2⟩, k2, k3⟩
    rw [z1]
    show K.1.take (K.2.2 0) ++ _ = (K.1.take (K.2.2 0) ++ [B]).take (K.2.2 0) ++ _
    rw [List.take_append_of_le_length (by omega), List.take_take, Nat.min_self]
end LE4
