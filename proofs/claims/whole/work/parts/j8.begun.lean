/-! BOTH MACHINES: a call is pending -/
section BG8
variable {E : SENV} {K : CXT} {Lim p nx a a1 b b1 h sp sc i el j S lk c n : Nat} {x x1 : Int} {wA wM uA uM : Wd} {A B N : ACT} {F : Nat → Int64} {t : Int32}
/-- an activation -/
def mkA (p f bs lk dp h sp cp el on : Nat) (row : List Nat) (uA uM : Wd) (ax : Int) : ACT := (fun k => if k = 0 then p else if k = 1 then f else if k = 2 then bs else if k = 3 then lk else if k = 4 then dp else if k = 5 then h else if k = 6 then sp else if k = 7 then cp else if k = 8 then el else if k = 10 then on else 0, row, uA, uM, ax)
/-- the one that's called, before its frame is there -/
abbrev pndA (K : CXT) (p lk h sp : Nat) (uA uM : Wd) : ACT := mkA p (K.2.2 1) (K.2.2 2) lk (K.2.2 3 + 1) h sp (K.2.2 4 + 1) (K.2.2 5) 0 [] uA uM KK
theorem pndA_off {K : CXT} {p lk h sp : Nat} {uA uM : Wd} : ¬ aOn (pndA K p lk h sp uA uM) := fun e => by
  have e : (0 : Nat) = 1 := e
  omega
theorem JS.pnd (H : JS E K (K.2.2 5) a b h sp sc x i wA wM) (hA : K.1[K.2.2 0]? = some A) (hon : aOn A) {pr de fu b0 : Nat} (T0 : TLY (eNo E 5 5) sc pr de fu wA) (C : CK (cA E) (eNo E 5 0) (a + 1) (aF A) (K.2.2 1) h (K.2.2 3 + 1) (K.2.2 5) uA) (T : TLY (eNo E 5 5) (sc + 1) pr (max de (K.2.2 3 + 1)) fu uA) (OA : OFF (fun k j => (k = 48 ∧ (j = 11 ∨ j = 15)) ∨ (k = 56 ∧ (j = 4 ∨ j = 5))) uA wA)
    (M : MK (dM E) c K.1.length sp (K.2.2 4 + 1) (K.1.length + 1) (K.2.2 2 + S) (K.2.2 5) (K.2.2 3 + 1) uM) (TM : TLM (eNo E 5 5) (sc + 1) pr (max de (K.2.2 3 + 1)) fu uM) (AC : ACW K.1.length (K.2.2 2) p lk (K.2.2 4 + 1) sp (K.2.2 5) uM) (CT : CTM (K.2.2 4) b0 (K.2.2 0) 0 t (K.2.2 3) uM) (OM : OFF (fun k j => (k = 0 ∧ j = 128) ∨ PNM (K.2.2 4) K.1.length (K.2.2 2) k j) uM wM) (hS : S ≤ eNo E 5 7) (hx : ((i + n : Nat) : Int) ≤ x1 + KK * ((sc + 1 : Nat) : Int) ∧ x1 ≤ KK) :
    JPS E (callK K S (fun q => gl uM 83 q) (pndA K p lk h sp uA uM)) (K.2.2 5) (a + 1) c K.1.length h sp (sc + 1) x1 (i + n) uA uM ∧ KST E (callK K S (fun q => gl uM 83 q) (pndA K p lk h sp uA uM)) := by
  have hl1 : 1 ≤ K.1.length := by
    rcases List.getElem?_eq_some_iff.mp hA with ⟨q, _⟩
    omega
  have hn := H.num hA
  obtain ⟨_, pr', de', fu', j1, j2, j3, j4, j5, j6, j7, j8, j9, j10, ⟨j11, j12, j13, j14, j15, j16, j17⟩, o1, o2⟩ := id H
  have ep := T0.uq j4
  subst ep
  have hmt := M.2.2.2.2.2.2.2.2.2.2.2.2.2.2.2.1
  have hdp := C.2.2.2.2.2.2.2.2.2.2.2.1
  have hna := M.2.2.2.2.2.2.2.2.2.2.2.1
  have hK : KST E (callK K S (fun q => gl uM 83 q) (pndA K p lk h sp uA uM)) := H.kst.call pndA_off ⟨Nat.le_refl _, Nat.le_refl _, by show K.2.2 2 ≤ 199000; omega⟩ hS (by omega)
  have O9 : OFF (fun k j => k = 0 ∧ j = 129) (si uM 0 129 (Int32.ofNat (K.2.2 0))) uM := OFF.si ⟨rfl, rfl⟩
  have OM' : OFF (fun k j => (k = 0 ∧ (j = 128 ∨ j = 129)) ∨ PNM (K.2.2 4) K.1.length (K.2.2 2) k j) (si uM 0 129 (Int32.ofNat (K.2.2 0))) wM := OFF.tr (O9.mono fun k j p => by omega) (OM.mono fun k j p => p.elim (fun c => Or.inl (by omega)) Or.inr)
  have e0 : ∀ j, j ≠ 129 → gi (si uM 0 129 (Int32.ofNat (K.2.2 0))) 0 j = gi uM 0 j := fun j hj => gi_si1 (by omega)
  have M' : MK (dM E) c (K.2.2 0) sp (K.2.2 4 + 1) (K.1.length + 1) (K.2.2 2 + S) (K.2.2 5) (K.2.2 3 + 1) (si uM 0 129 (Int32.ofNat (K.2.2 0))) := M.nw (O9.mono fun k j p => by omega) ((e0 128 (by omega)).trans M.2.2.1) (gi_si0 _ _ _ _) ((e0 130 (by omega)).trans M.2.2.2.2.1) ((e0 127 (by omega)).trans M.2.2.2.2.2.1) ((e0 131 (by omega)).trans M.2.2.2.2.2.2.1) ((e0 132 (by omega)).trans M.2.2.2.2.2.2.2.1) ((e0 133 (by omega)).trans M.2.2.2.2.2.2.2.2.1) ((e0 134 (by omega)).trans M.2.2.2.2.2.2.2.2.2.1) ⟨M.2.2.2.2.2.2.2.2.2.2.1, hn.2.2.1, M.2.2.2.2.2.2.2.2.2.2.2.2⟩
  suffices J : JS E (callK K S (fun q => gl uM 83 q) (pndA K p lk h sp uA uM)) (K.2.2 5) (a + 1) c h sp (sc + 1) x1 (i + n) uA (si uM 0 129 (Int32.ofNat (K.2.2 0))) from ⟨⟨M.2.2.1, M.2.2.2.1, hna, J⟩, hK⟩
  refine JS.of (A := A) (pr := pr) (de := max de (K.2.2 3 + 1)) (fu := fu) hK (at_app hA) hon C T ?_ (TM.off O9 (fun k j p => by omega)) (fun q q1 q2 => ?_) ?_ (fun j B hB => ?_) j11 hx (OFF.tr (OA.mono fun k j p => by unfold PZA; omega) o1) (OFF.tr (OM'.mono fun k j p => by unfold PNM at p; unfold PZR; omega) o2)
  · have e : (callK K S (fun q => gl uM 83 q) (pndA K p lk h sp uA uM)).1.length = K.1.length + 1 := by
      show (K.1 ++ [_]).length = _
      rw [List.length_append]; rfl
    rw [e]; exact M'
  · rw [(OA 55 q (by omega)).2, (OM' 86 q (by unfold PNM; omega)).2]; exact j7 q q1 q2
  · intro k x' q ty va vm g
    rcases g with g | ⟨g1, g2, g3, g4, g5, g6, g7⟩
    · have b3 := j9.2.2 _ _ _ _ _ _ g
      have eA : gl uA 50 x' = gl wA 50 x' := (OA 50 x' (by omega)).2
      have eM : k ≠ 2 → RMq (si uM 0 129 (Int32.ofNat (K.2.2 0))) q = RMq wM q := fun hk => by
        unfold RMq
        rcases b3.2.2.1 hk with z | z
        · rw [if_pos z.2, if_pos z.2]
          exact (OM' 83 q (by unfold PNM; omega)).2
        · rw [if_neg (by omega), if_neg (by omega)]
          exact (OM' 84 _ (by unfold PNM; omega)).2
      obtain ⟨h1, h2, h3⟩ := j8 _ _ _ _ _ _ g
      refine ⟨fun hk => ?_, fun hk => ?_, fun hk => ?_⟩
      · rw [eA, eM (by omega)]; exact h1 hk
      · rw [eA]; exact h2 hk
      · rw [eM (by omega)]; exact h3 hk
    · subst g1
      refine ⟨fun hk => absurd hk (by omega), fun hk => by omega, fun _ => ?_⟩
      unfold RMq
      rw [if_pos (by omega), gl_si, g7]
  · rcases app_at hB with ⟨q, hj⟩ | ⟨hj, q⟩
    · obtain ⟨m1, n1, n2, n3, n4, n5, n6⟩ := j10 j B q
      refine ⟨m1.nw (fun k p1 p2 p3 => (OM' k j (by unfold PNM; omega)).1) ⟨fun j' _ => (OA 51 j' (by omega)).2, fun k j' p q' r => (OA k j' (by omega)).1, fun j' _ => (OM' 85 j' (by unfold PNM; omega)).2, fun k j' p q' r => (OM' k j' (by unfold PNM; omega)).1, T0.psd T (by omega)⟩, n2, n3⟩
    · subst hj
      subst q
      obtain ⟨a1, a2, a3, a4, a5, a6⟩ := AC
      have e : ∀ k j', k ≠ 0 → gi (si uM 0 129 (Int32.ofNat (K.2.2 0))) k j' = gi uM k j' := fun k j' hk => gi_si1 (by omega)
      refine ⟨⟨(e 87 _ (by omega)).trans a1, (e 98 _ (by omega)).trans a2, (e 88 _ (by omega)).trans a3, (e 89 _ (by omega)).trans a4, (e 90 _ (by omega)).trans a5, (e 91 _ (by omega)).trans a6, Or.inr ⟨by omega, ?_, ?_, ?_⟩, ⟨fun _ _ => rfl, fun _ _ _ _ _ => rfl, fun _ _ => gl_si _ _ _ _ _ _, fun k j' p1 _ _ => e k j' (by omega), PSD.eq rfl rfl⟩⟩, Nat.le_refl _, Nat.le_refl _⟩
      · show 1 ≤ K.2.2 4 + 1
        omega
      · show 1 ≤ K.2.2 3 + 1
        omega
      · show gi _ 96 (K.2.2 4 + 1 - 1) = Int32.ofNat (K.2.2 3 + 1 - 1)
        rw [Nat.add_sub_cancel, Nat.add_sub_cancel]
        exact (e 96 _ (by omega)).trans CT.2.2.2.2
end BG8
