/-! BOTH MACHINES: the assignment -/
section AG9
variable {E : SENV} {K : CXT} {Lim n p nx m a a1 a2 b b1 b2 h sp sc i el j : Nat} {x x1 : Int} {wA wM uA uM : Wd} {stk : List Nat} {ty : Int32} {A B : ACT}
/-- m places, one behind the other -/
def TGZ (E : SENV) (Lim : Nat) (stk : List Nat) (p : Nat) (ty : Int32) (nx : Nat) : Nat → Nat → Nat → Nat → Nat → Prop
  | 0, a, a', b, b' => a' = a ∧ b' = b
  | m + 1, a, a', b, b' => ∃ a1 b1, a ≤ a1 ∧ a1 ≤ a' ∧ SIG E Lim stk p (PP ty) 1 nx a a1 b b1 ∧ TGZ E Lim stk p ty nx m a1 a' b1 b'
/-- places in a row, the last first -/
def ROWP (K : CXT) (ty : Int32) (l : List (Nat × Nat)) (m h sp : Nat) (uA uM : Wd) : Prop := l.length = m ∧ ∀ q c, l[q]? = some c → gl uA 51 (h + m - 1 - q) = Int64.ofNat c.1 ∧ gl uM 85 (sp + m - 1 - q) = Int64.ofNat c.2 ∧ K.2.1 0 c.1 c.2 ty 0 0
theorem TGZ.run (hE : EOKS E) : ∀ (m a a1 b b1 : Nat), TGZ E Lim stk p ty nx m a a1 b b1 → ∀ (K : CXT) (A : ACT) (h sp sc : Nat) (x : Int) (i : Nat) (wA wM : Wd), K.1[K.2.2 0]? = some A → aOn A → (∀ s ∈ stk, s ∈ aK A) → aP A = p → JS E K (K.2.2 5) a b h sp sc x i wA wM → HND E K Lim → eNo E 5 5 ≤ Lim + sc → h + m + nx ≤ 502 * (K.2.2 3 + 1) → (∀ (j : Nat) (B : ACT), K.1[j]? = some B → x + (a1 - a) ≤ aX B) → x + (a1 - a) ≤ KK →
    (∀ uA uM sc' i' l, JS E K (K.2.2 5) a1 b1 (h + m) (sp + m) sc' (x + (a1 - a)) i' uA uM → sc ≤ sc' → ROWP K ty l m h sp uA uM → KEE h (K.2.2 3) sp (K.2.2 4) wA wM uA uM → GD E i' uA uM) → GD E i wA wM := by
  intro m
  induction m with
  | zero =>
    intro a a1 b b1 hT K A h sp sc x i wA wM hA hon hst hp H hH hL hh hxa hxk hc
    obtain ⟨e1, e2⟩ := hT
    subst e1
    subst e2
    have e : x + ((a1 : Int) - a1) = x := by omega
    rw [e] at hc
    exact hc wA wM sc i [] H (Nat.le_refl _) ⟨rfl, fun q c hq => absurd hq (by simp)⟩ KEE.rf
  | succ m ih =>
    intro a a1 b b1 ⟨a2, b2, q1, q2, hS, hT⟩ K A h sp sc x i wA wM hA hon hst hp H hH hL hh hxa hxk hc
    refine hS K A h sp sc x i wA wM hA hon hst hp H hH hL (by omega) (fun j B hB => by have := hxa j B hB; omega) (by omega) ?_
    intro uA uM sc1 i1 J1 s1 ⟨xx, qq, v1, v2, hG⟩ k1
    refine ih _ _ _ _ hT K A (h + 1) (sp + 1) sc1 _ i1 uA uM hA hon hst hp J1 hH (by omega) (by omega) (fun j B hB => by have := hxa j B hB; omega) (by omega) ?_
    intro yA yM sc2 i2 l J2 s2 ⟨hl, hr⟩ k2
    have e : x + (a2 - a) + ((a1 : Int) - a2) = x + (a1 - a) := by omega
    have e1 : h + 1 + m = h + (m + 1) := by omega
    have e2 : sp + 1 + m = sp + (m + 1) := by omega
    rw [e, e1, e2] at J2
    refine hc yA yM sc2 i2 (l ++ [(xx, qq)]) J2 (by omega) ⟨by rw [List.length_append, hl]; rfl, fun q c hq => ?_⟩ (k1.tr (k2.le (by omega) (Nat.le_refl _) (by omega) (Nat.le_refl _)))
    by_cases z : q < m
    · rw [List.getElem?_append_left (by omega)] at hq
      have := hr q c hq
      rw [show h + 1 + m - 1 - q = h + (m + 1) - 1 - q by omega, show sp + 1 + m - 1 - q = sp + (m + 1) - 1 - q by omega] at this
      exact this
    · have hqm : q = m := by
        rcases List.getElem?_eq_some_iff.mp hq with ⟨w, _⟩
        rw [List.length_append, hl] at w
        have w : q < m + 1 := w
        omega
      subst hqm
      rw [List.getElem?_append_right (by omega), hl, Nat.sub_self] at hq
      have hc' : (xx, qq) = c := Option.some.inj hq
      rw [← hc', show h + (q + 1) - 1 - q = h by omega, show sp + (q + 1) - 1 - q = sp by omega]
      exact ⟨(k2.1 h (by omega)).trans v1, (k2.2.2.1 sp (by omega)).trans v2, hG⟩
theorem SIS.assign (hE : EOKS E) (hT : TGZ E Lim stk p ty n m (a + 1) a1 (b + 1) b1) (hv : SIV E Lim stk p ty n a1 a2 b1 b2) (w1 : gl (cA E) 41 a = wdC 40 0 0) (w2 : gl (cA E) 41 a2 = wdC 26 0 (Int32.ofNat m)) {X Y Z Y' Z' : Int32} (o1 : opW (dM E) b 12 X Y Z) (o2 : opW (dM E) b2 7 (Int32.ofNat m) Y' Z') (hm : 1 ≤ m ∧ m ≤ 1000) (ha : a + 1 ≤ a1 ∧ a1 ≤ a2 ∧ a2 < eNo E 5 0) (hb : b < 60000 ∧ b2 < 60000) (hn : m + n ≤ nx) : SIS E Lim stk p nx a (a2 + 1) b (b2 + 1) := by
  intro K A h sp sc x i wA wM hA hon hst hp H hH hL hh hxa hxk hc
  refine JS.pay (x1 := x + 1) hE H hA hon w1 o1 (by omega) hb.1 ⟨by unfold KK at *; omega, by omega⟩ (fun uA uM hs J k0 _ => ?_)
  refine TGZ.run hE m _ _ _ _ hT K A h sp (sc + 1) (x + 1) _ uA uM hA hon hst hp J hH (by omega) (by omega) (fun j B hB => by have := hxa j B hB; omega) (by omega) ?_
  intro yA yM sc2 i2 l J2 s2 ⟨hl, hr⟩ k2
  refine hv K A (h + m) (sp + m) sc2 _ i2 yA yM hA hon hst hp J2 hH (by omega) (by omega) (fun j B hB => by have := hxa j B hB; omega) (by omega) ?_
  intro zA zM v sc3 i3 J3 s3 v1 v2 hvt k3
  subst hl
  refine JS.store (x1 := x + ((a2 + 1 : Nat) - (a : Int))) hE J3 hA H.lod H.dep.2.2.1 hm (fun q c hq => ?_) (v1.trans v2.symm) (v1.symm ▸ hvt) w2 o2 (by omega) hb.2 ⟨by omega, hxk⟩ (fun tA tM J4 k4 => hc tA tM sc3 _ J4 (by omega) trivial ((k0.tr (k2.tr (k3.le (by omega) (Nat.le_refl _) (by omega) (Nat.le_refl _)))).tr k4))
  have hql : q < l.length := by
    rcases List.getElem?_eq_some_iff.mp hq with ⟨w, _⟩
    exact w
  obtain ⟨g1, g2, g3⟩ := hr q c hq
  exact ⟨(k3.1 _ (by omega)).trans g1, (k3.2.2.1 _ (by omega)).trans g2, g3⟩
end AG9
