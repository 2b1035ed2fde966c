/-! BOTH MACHINES: places are set -/
section SO8
variable {E : SENV} {K : CXT} {Lim n p nx a a1 b b1 h sp sc i el j tp mt : Nat} {x x1 : Int} {wA wM uA uM : Wd} {stk : List Nat} {ty : Int32} {A B : ACT} {v : Int64} {G : GHO}
/-- the reference's words set -/
def setWM : List Nat → Int64 → Wd → Wd
  | [], _, w => w
  | q :: r, v, w => setWM r v (WMq w q v)
theorem WMq_off {w : Wd} {q : Nat} : OFF (fun k _ => k = 83 ∨ k = 84) (WMq w q v) w := by
  unfold WMq
  by_cases h : q < 1048576
  · rw [if_pos h]; exact OFF.sl (by omega)
  · rw [if_neg h]; exact OFF.sl (by omega)
theorem setWM_off : ∀ (qs : List Nat) (w : Wd), OFF (fun k _ => k = 83 ∨ k = 84) (setWM qs v w) w := by
  intro qs
  induction qs with
  | nil => exact fun _ => OFF.rf
  | cons q r ih => exact fun w => OFF.tr (ih _) WMq_off
theorem setWM_ok : ∀ (qs : List Nat) (w : Wd), (∀ q ∈ qs, q < 200000 ∨ 1048576 ≤ q ∧ q < 1048576 + 2000) → setM (qs.map Int64.ofNat) v w (setWM qs v w) := by
  intro qs
  induction qs with
  | nil => exact fun w _ => rfl
  | cons q r ih =>
    intro w hq
    refine ⟨WMq w q v, ?_, ih _ (fun q' h => hq q' (List.mem_cons_of_mem _ h))⟩
    unfold WMq
    rcases hq q List.mem_cons_self with c | ⟨c, d⟩
    · rw [if_pos (by omega)]
      exact Or.inl ⟨q, c, rfl, rfl⟩
    · rw [if_neg (by omega)]
      exact Or.inr ⟨q - 1048576, by omega, congrArg Int64.ofNat (show q = 1048576 + (q - 1048576) by omega), rfl⟩
/-- cells of a row set -/
theorem MEM.row : ∀ (l : List (Nat × Nat)) (wA wM : Wd), MEM G wA wM → DIS G tp mt el → (∀ c ∈ l, G 0 c.1 c.2 ty 0 0) → VT ty v → MEM G (setW (l.map Prod.fst) v wA) (setWM (l.map Prod.snd) v wM) := by
  intro l
  induction l with
  | nil => exact fun wA wM h _ _ _ => h
  | cons c r ih =>
    intro wA wM h hD hc hv
    exact ih _ _ (h.set hD (hc c List.mem_cons_self) hv) hD (fun c' h' => hc c' (List.mem_cons_of_mem _ h')) hv
/-- the same activations and cells, other values in them -/
theorem JS.tm (H : JS E K el a b h sp sc x i wA wM) {h1 sp1 : Nat} (L : LOWD K h1 sp1 (K.2.2 3) (K.2.2 4)) (hA : OFF (fun k j => (k = 48 ∧ (j = 11 ∨ j = 14)) ∨ k = 50) uA wA) (hM : OFF (fun k j => (k = 0 ∧ (j = 128 ∨ j = 130)) ∨ k = 83 ∨ k = 84) uM wM) (c1 : gi uA 48 11 = Int32.ofNat a1) (c2 : gi uA 48 14 = Int32.ofNat h1) (d1 : gi uM 0 128 = Int32.ofNat b1) (d2 : gi uM 0 130 = Int32.ofNat sp1) (hm : MEM K.2.1 uA uM) (hb : b1 ≤ 60000 ∧ h1 ≤ 30622 ∧ sp1 ≤ h1) (hx : x + 1 ≤ x1 ∧ x1 ≤ KK) : JS E K el a1 b1 h1 sp1 sc x1 (i + 1) uA uM := by
  obtain ⟨A', pr, de, fu, j1, j2, C, j4, M, j6, j7, j8, j9, j10, ⟨j11, j12, j13, j14, j15, j16, j17⟩, o1, o2⟩ := H
  have Cn : CK (cA E) (eNo E 5 0) a1 (aF A') (K.2.2 1) h1 (K.2.2 3) el uA := C.nw (hA.mono fun k j p => by omega) c1 (by rw [(hA 48 12 (by omega)).1]; exact C.2.2.2.1) (by rw [(hA 48 13 (by omega)).1]; exact C.2.2.2.2.1) c2 (by rw [(hA 48 15 (by omega)).1]; exact C.2.2.2.2.2.2.1) (by rw [(hA 48 16 (by omega)).1]; exact C.2.2.2.2.2.2.2.1) ⟨C.2.2.2.2.2.2.2.2.1, C.2.2.2.2.2.2.2.2.2.1, by omega, C.2.2.2.2.2.2.2.2.2.2.2⟩
  have Mn : MK (dM E) b1 (K.2.2 0) sp1 (K.2.2 4) K.1.length (K.2.2 2) (K.2.2 5) (K.2.2 3) uM := M.nw (hM.mono fun k j p => by omega) d1 (by rw [(hM 0 129 (by omega)).1]; exact M.2.2.2.1) d2 (by rw [(hM 0 127 (by omega)).1]; exact M.2.2.2.2.2.1) (by rw [(hM 0 131 (by omega)).1]; exact M.2.2.2.2.2.2.1) (by rw [(hM 0 132 (by omega)).1]; exact M.2.2.2.2.2.2.2.1) (by rw [(hM 0 133 (by omega)).1]; exact M.2.2.2.2.2.2.2.2.1) (by rw [(hM 0 134 (by omega)).1]; exact M.2.2.2.2.2.2.2.2.2.1) ⟨by omega, M.2.2.2.2.2.2.2.2.2.2.2.1, by omega, M.2.2.2.2.2.2.2.2.2.2.2.2.2⟩
  refine ⟨A', pr, de, fu, j1, j2, Cn, j4.off hA (fun k j p => by omega), Mn, j6.off hM (fun k j p => by omega), fun q q1 q2 => ?_, hm, j9, fun q B hB => ?_, ⟨hb.2.2, j12, by omega, hx.2, j15, j16, j17⟩, OFF.tr (hA.mono fun k j p => by unfold PZA; omega) o1, OFF.tr (hM.mono fun k j p => by unfold PZR; omega) o2⟩
  · rw [(hA 55 q (by omega)).2, (hM 86 q (by omega)).2]; exact j7 q q1 q2
  · obtain ⟨⟨m1, m2, m3, m4, m5, m6, m7, m8⟩, n1, n2, n3, n4, n5, n6⟩ := j10 q B hB
    obtain ⟨l1, l2, l3, l4⟩ := L q B hB
    have e : ∀ k j, 87 ≤ k → gi uM k j = gi wM k j := fun k j p => (hM k j (by omega)).1
    refine ⟨⟨(e 87 _ (by omega)).trans m1, (e 98 _ (by omega)).trans m2, (e 88 _ (by omega)).trans m3, (e 89 _ (by omega)).trans m4, (e 90 _ (by omega)).trans m5, (e 91 _ (by omega)).trans m6, m7.imp id (fun z => ⟨z.1, z.2.1, z.2.2.1, by rw [e 96 _ (by omega)]; exact z.2.2.2⟩), m8.tr ⟨fun j _ => (hA 51 j (by omega)).2, fun k j p q _ => (hA k j (by omega)).1, fun j _ => (hM 85 j (by omega)).2, fun k j p q _ => (hM k j (by omega)).1, PSD.eq (hA 56 3 (by omega)).1 (hA 56 4 (by omega)).1⟩⟩, n1, l1, l2, n4, n5, n6⟩
/-- places in a row are set to a value -/
theorem JS.store (hE : EOKS E) {l : List (Nat × Nat)} (H : JS E K (K.2.2 5) a b (h + l.length + 1) (sp + l.length + 1) sc x i wA wM) (hA : K.1[K.2.2 0]? = some A) (L : LOWD K h sp (K.2.2 3) (K.2.2 4)) (hsp : sp ≤ h) (hl : 1 ≤ l.length ∧ l.length ≤ 1000) (hr : ∀ q c, l[q]? = some c → gl wA 51 (h + l.length - 1 - q) = Int64.ofNat c.1 ∧ gl wM 85 (sp + l.length - 1 - q) = Int64.ofNat c.2 ∧ K.2.1 0 c.1 c.2 ty 0 0) (hv : gl wA 51 (h + l.length) = gl wM 85 (sp + l.length)) (hvt : VT ty (gl wA 51 (h + l.length))) (hw : gl (cA E) 41 a = wdC 26 0 (Int32.ofNat l.length)) {Y Z : Int32} (ho : opW (dM E) b 7 (Int32.ofNat l.length) Y Z) (ha : a < eNo E 5 0) (hb : b < 60000) (hx : x + 1 ≤ x1 ∧ x1 ≤ KK)
    (g : ∀ uA uM, JS E K (K.2.2 5) (a + 1) (b + 1) h sp sc x1 (i + 1) uA uM → KEE h (K.2.2 3) sp (K.2.2 4) wA wM uA uM → GD E (i + 1) uA uM) : GD E i wA wM := by
  have hd := H.dep
  obtain ⟨C, M⟩ := H.cka hA
  obtain ⟨hM, hD⟩ := H.mem
  have l1 : (l.map Prod.fst).length = l.length := List.length_map ..
  have l2 : ((l.map Prod.snd).map Int64.ofNat).length = l.length := by rw [List.length_map, List.length_map]
  have hcell : ∀ c ∈ l, K.2.1 0 c.1 c.2 ty 0 0 := fun c hc => by
    obtain ⟨q, hq⟩ := List.mem_iff_getElem?.mp hc
    exact (hr q c hq).2.2
  have C' := C
  have M' := M
  rw [← l1] at C' hw
  rw [← l2] at M' ho
  have tk := k_store C' ha hw (fun q xx hq => by
    rw [List.getElem?_map] at hq
    obtain ⟨c, hc, e⟩ := Option.map_eq_some_iff.mp hq
    rw [l1, ← e]
    exact ⟨(hr q c hc).1, ((hD.2.2 _ _ _ _ _ _ (hr q c hc).2.2).2.1 (by omega)).1⟩) (by omega) (by omega)
  have qb : ∀ q ∈ l.map Prod.snd, q < 200000 ∨ 1048576 ≤ q ∧ q < 1048576 + 2000 := fun q hq => by
    obtain ⟨c, hc, e⟩ := List.mem_map.mp hq
    have c1 := M.2.2.2.2.2.2.2.2.2.2.2.2.2.2.2.1
    have c2 := M.2.2.2.2.2.2.2.2.2.2.2.2.2.2.2.2.1
    rw [← e]
    rcases (hD.2.2 _ _ _ _ _ _ (hcell c hc)).2.2.1 (by omega) with z | z
    · exact Or.inl (by omega)
    · exact Or.inr ⟨z.1, by omega⟩
  have st := rm_set M' hb ho (fun q pp hq => by
    rw [List.getElem?_map, List.getElem?_map] at hq
    obtain ⟨c, hc, e⟩ := Option.map_eq_some_iff.mp hq
    obtain ⟨c', hc', e'⟩ := Option.map_eq_some_iff.mp hc
    rw [l2, ← e, ← e']
    exact (hr q c' hc').2.1) (by omega) (by omega) (setWM_ok (l.map Prod.snd) _ qb)
  rw [l1] at tk
  rw [l2] at st
  have hMr := MEM.row (v := gl wA 51 (h + l.length)) l (si (popW wA (a + 1) (h + l.length)) 48 14 (Int32.ofNat h)) (si (si (si wM 0 128 (Int32.ofNat (b + 1))) 0 130 (Int32.ofNat (sp + l.length))) 0 130 (Int32.ofNat sp)) (hM.agr (fun _ _ _ _ _ _ _ _ => rfl) (fun _ _ _ _ _ _ _ _ => rfl)) hD hcell hvt
  rw [← hv] at st
  have OA : OFF (fun k j => (k = 48 ∧ (j = 11 ∨ j = 14)) ∨ k = 50) (setW (l.map Prod.fst) (gl wA 51 (h + l.length)) (si (popW wA (a + 1) (h + l.length)) 48 14 (Int32.ofNat h))) wA := OFF.tr (setW_off _ _ (fun _ _ => Or.inr rfl)) (OFF.tr (OFF.si (by omega)) (popW_off.mono fun k j p => Or.inl p))
  have OM : OFF (fun k j => (k = 0 ∧ (j = 128 ∨ j = 130)) ∨ k = 83 ∨ k = 84) (setWM (l.map Prod.snd) (gl wA 51 (h + l.length)) (si (si (si wM 0 128 (Int32.ofNat (b + 1))) 0 130 (Int32.ofNat (sp + l.length))) 0 130 (Int32.ofNat sp))) wM := OFF.tr ((setWM_off _ _).mono fun k j p => Or.inr p) (OFF.tr (OFF.si (by omega)) (OFF.tr (OFF.si (by omega)) (OFF.si (by omega))))
  have SA := setW_off (Q := fun k _ => k = 50) (v := gl wA 51 (h + l.length)) (l.map Prod.fst) (si (popW wA (a + 1) (h + l.length)) 48 14 (Int32.ofNat h)) (fun _ _ => rfl)
  have SM := setWM_off (v := gl wA 51 (h + l.length)) (l.map Prod.snd) (si (si (si wM 0 128 (Int32.ofNat (b + 1))) 0 130 (Int32.ofNat (sp + l.length))) 0 130 (Int32.ofNat sp))
  have J := H.tm (a1 := a + 1) (b1 := b + 1) (x1 := x1) L OA OM (by rw [(SA 48 11 (by omega)).1, gi_si1 (by omega)]; unfold popW; rw [gi_si1 (by omega), gi_si0]) (by rw [(SA 48 14 (by omega)).1, gi_si0]) (by rw [(SM 0 128 (by omega)).1, gi_si1 (by omega), gi_si1 (by omega), gi_si0]) (by rw [(SM 0 130 (by omega)).1, gi_si0]) hMr ⟨by omega, by omega, hsp⟩ hx
  exact J.go hE (TKS.one hd.2.2.2.2 tk) (SPS.one (M.runs (by rw [l2] at ho; exact ho) hb (by decide)) st) (by omega) (g _ _ J ⟨fun j _ => (OA 51 j (by omega)).2, fun k j p q _ => (OA k j (by omega)).1, fun j _ => (OM 85 j (by omega)).2, fun k j p q _ => (OM k j (by omega)).1, PSD.eq (OA 56 3 (by omega)).1 (OA 56 4 (by omega)).1⟩)
end SO8
