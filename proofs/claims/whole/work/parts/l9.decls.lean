/-! BOTH MACHINES: DECLS of a BLOCK -/
section LJ9
variable {E : SENV} {K : CXT} {Lim p a a0 a1 a2 b b1 b2 h sp sc i i0 i1 i2 el s bk sg W m1 m1' s0 m2 y q0 tp mt nb j nx t : Nat} {x x1 : Int} {wA wM uA uM : Wd} {A B : ACT} {G G' N : GHO} {stk : List Nat}
/-- DECLS of a BLOCK: symbols i .. i1 - 1 -/
def DCT (E : SENV) (Lim : Nat) (stk : List Nat) (p s bk i i1 sg W m1' s0 m2 a a1 b b1 : Nat) : Prop := ∀ (K : CXT) (A : ACT) (sc : Nat) (x : Int) (t : Nat) (wA wM : Wd), K.1[K.2.2 0]? = some A → aOn A → aK A = stk → aP A = p → (K.2.2 1 = aF A + eNo E 1 p ∧ K.2.2 2 = aB A + eNo E 3 p ∧ K.2.2 3 = A.1 4) → DCI E K A s bk i sg W m1' s0 m2 → JS E K (K.2.2 5) a b (A.1 5) (A.1 6) sc x t wA wM → HND E K Lim → eNo E 5 5 ≤ Lim + sc → A.1 5 + 502 ≤ 502 * (A.1 4 + 1) ∧ A.1 7 + 1 ≤ 4 * A.1 4 + 4 → (∀ (j : Nat) (B : ACT), K.1[j]? = some B → x + (a1 - a) ≤ aX B) → x + (a1 - a) ≤ KK →
  (∀ (K' : CXT) uA uM sc' t', K'.1 = K.1 → (∀ k, k ≠ 5 → K'.2.2 k = K.2.2 k) → (∀ k x q ty va vm, K.2.1 k x q ty va vm → K'.2.1 k x q ty va vm) → K.2.2 5 ≤ K'.2.2 5 → DCI E K' A s bk i1 sg W m1' s0 m2 → JS E K' (K'.2.2 5) a1 b1 (A.1 5) (A.1 6) sc' (x + (a1 - a)) t' uA uM → HND E K' Lim → eNo E 5 5 ≤ Lim + sc' → GD E t' uA uM) → GD E t wA wM
theorem DCI.mv (h : DCI E K A s bk i sg W m1' s0 m2) (hi : i ≤ i1) (hn : ∀ y ∈ eSL E s, gi (vM E) 19 y = 2 → ¬ (i ≤ y ∧ y < i1)) : DCI E K A s bk i1 sg W m1' s0 m2 := by
  obtain ⟨h1, h2⟩ := h
  exact ⟨fun y y1 y2 => ⟨fun c => (h1 y y1 y2).1 (by have := hn y y1 y2; omega), fun c => (h1 y y1 y2).2 (by omega)⟩, h2⟩
theorem DCT.no (hi : i ≤ i1) (hn : ∀ y ∈ eSL E s, gi (vM E) 19 y = 2 → ¬ (i ≤ y ∧ y < i1)) : DCT E Lim stk p s bk i i1 sg W m1' s0 m2 a a b b := by
  intro K A sc x t wA wM hA hon hr hp hT hD H hH hL hroom hxa hxk g
  have e : x + ((a : Int) - a) = x := by omega
  rw [e] at g
  exact g K wA wM sc t rfl (fun _ _ => rfl) (fun _ _ _ _ _ _ g => g) (Nat.le_refl _) (hD.mv hi hn) H hH hL
/-- over a procedure or a switch -/
theorem DCT.jmp (hE : EOKS E) (hi : i ≤ i1) (hn : ∀ y ∈ eSL E s, gi (vM E) 19 y = 2 → ¬ (i ≤ y ∧ y < i1)) (hw : gl (cA E) 41 a = jwC 33 a1) (ha : a < a1 ∧ a < eNo E 5 0 ∧ a1 ≤ 36872) : DCT E Lim stk p s bk i i1 sg W m1' s0 m2 a a1 b b := by
  intro K A sc x t wA wM hA hon hr hp hT hD H hH hL hroom hxa hxk g
  have hd := H.dep
  obtain ⟨C, M⟩ := H.cka hA
  have hw' : gl (cA E) 41 a = wdC 33 0 (Int32.ofNat a1) := hw.trans (jwC_wdC (x := 33) (by omega) (by omega))
  have OA : OFF (PSK (A.1 5)) (si (si wA 48 11 (Int32.ofNat (a + 1))) 48 11 (Int32.ofNat a1)) wA := OFF.tr (OFF.si (Or.inl ⟨rfl, Or.inl rfl⟩)) (OFF.si (Or.inl ⟨rfl, Or.inl rfl⟩))
  refine JS.stp (k := 1) (j := 0) (h0 := A.1 5) (sp0 := A.1 6) (h1 := A.1 5) (sp1 := A.1 6) (a1 := a1) (b1 := b) (x1 := x + (a1 - a)) hE H (TKS.one hd.2.2.2.2 (k_jump C ha.2.1 hw' (by omega))) (show SPS 0 wM wM from rfl) (by omega) H.low OA OFF.rf (gi_si0 _ _ _ _) ?_ M.2.2.1 M.2.2.2.2.1 (by omega) (by omega) (fun J => ?_)
  · rw [gi_si1 (by omega), gi_si1 (by omega)]; exact C.2.2.2.2.2.1
  · exact g K _ wM sc _ rfl (fun _ _ => rfl) (fun _ _ _ _ _ _ g => g) (Nat.le_refl _) (hD.mv hi hn) J hH hL
theorem DCT.seq (h1 : DCT E Lim stk p s bk i i1 sg W m1' s0 m2 a a1 b b1) (h2 : DCT E Lim stk p s bk i1 i2 sg W m1' s0 m2 a1 a2 b1 b2) (ha : a ≤ a1 ∧ a1 ≤ a2) : DCT E Lim stk p s bk i i2 sg W m1' s0 m2 a a2 b b2 := by
  intro K A sc x t wA wM hA hon hr hp hT hD H hH hL hroom hxa hxk g
  refine h1 K A sc x t wA wM hA hon hr hp hT hD H hH hL hroom (fun j B hB => by have := hxa j B hB; omega) (by omega) (fun K1 uA uM sc1 t1 k1 k2 k3 k4 k5 J1 H1 s1 => ?_)
  refine h2 K1 A sc1 _ t1 uA uM (by rw [k1, k2 0 (by omega)]; exact hA) hon hr hp ⟨by rw [k2 1 (by omega)]; exact hT.1, by rw [k2 2 (by omega)]; exact hT.2.1, by rw [k2 3 (by omega)]; exact hT.2.2⟩ k5 J1 H1 s1 hroom (fun j B hB => by rw [k1] at hB; have := hxa j B hB; omega) (by omega) (fun K2 vA vM sc2 t2 l1 l2 l3 l4 l5 J2 H2 s2 => ?_)
  have e : x + (a1 - a) + ((a2 : Int) - a1) = x + (a2 - a) := by omega
  rw [e] at J2
  exact g K2 vA vM sc2 t2 (l1.trans k1) (fun k hk => (l2 k hk).trans (k2 k hk)) (fun k x q ty va vm gg => l3 _ _ _ _ _ _ (k3 _ _ _ _ _ _ gg)) (Nat.le_trans k4 l4) l5 J2 H2 s2
/-- ARRAYS made, one after the other -/
theorem mks (hE : EOKS E) (hB : BLS E s p bk sg W m1 m1') (hm2 : m1' ≤ s0) (hn : 1 ≤ nb ∧ nb ≤ 3) (hy : ∀ q, q < j → y + q ∈ eSL E s ∧ gi (vM E) 19 (y + q) = 2 ∧ nd (vM E) 24 (y + q) = nb ∧ gl (cA E) 41 (a2 + q) = wdC 30 (Int32.ofNat nb) (Int32.ofNat (sA E (y + q))) ∧ opW (dM E) (b2 + q) 24 (Int32.ofNat (sM E (y + q))) (Int32.ofNat nb) 0) (ha : a2 + j ≤ eNo E 5 0 ∧ b2 + j ≤ 60000) (hon : aOn A) (hp : aP A = p) : ∀ (r q : Nat), q + r = j → ∀ (K : CXT) (sc : Nat) (x : Int) (t : Nat) (wA wM : Wd), K.1[K.2.2 0]? = some A → (K.2.2 1 = aF A + eNo E 1 p ∧ K.2.2 2 = aB A + eNo E 3 p) → DCI E K A s bk (y + q) sg W m1' s0 m2 → JS E K (K.2.2 5) (a2 + q) (b2 + q) (h + 2 * nb) (sp + 2 * nb) sc x t wA wM → HND E K Lim → ROWV (2 * nb) h sp wA wM → x + r ≤ KK →
    (∀ (K' : CXT) uA uM t', K'.1 = K.1 → (∀ k, k ≠ 5 → K'.2.2 k = K.2.2 k) → (∀ k x q ty va vm, K.2.1 k x q ty va vm → K'.2.1 k x q ty va vm) → K.2.2 5 ≤ K'.2.2 5 → DCI E K' A s bk (y + j) sg W m1' s0 m2 → JS E K' (K'.2.2 5) (a2 + j) (b2 + j) (h + 2 * nb) (sp + 2 * nb) sc (x + r) t' uA uM → HND E K' Lim → GD E t' uA uM) → GD E t wA wM := by
  intro r
  induction r with
  | zero =>
    intro q hq K sc x t wA wM hA hT hD H hH hR hx g
    have e : q = j := by omega
    subst e
    have e : x + ((0 : Nat) : Int) = x := by omega
    rw [e] at g
    exact g K wA wM t rfl (fun _ _ => rfl) (fun _ _ _ _ _ _ g => g) (Nat.le_refl _) hD H hH
  | succ r ih =>
    intro q hq K sc x t wA wM hA hT hD H hH hR hx g
    obtain ⟨y1, y2, y3, y4, y5⟩ := hy q (by omega)
    obtain ⟨⟨s1, s2, s3, s4, s5⟩, ⟨w1, w2, w3, w4, w5, w6⟩, ⟨r1, r2⟩, hyb, hyy, _⟩ := id hB
    have ln := lnY_2 (E := E) y2
    rw [y3] at ln
    have hb1 := (hyb _ y1).2.2.2.2 (by omega)
    have act := H.act hA
    have S := act.2.2.2.2.2.2.2 hon
    have h60 := S.f60 H.mem.2
    obtain ⟨C, M⟩ := H.cka hA
    have hmt : K.2.2 2 ≤ 199000 := M.2.2.2.2.2.2.2.2.2.2.2.2.2.2.2.1
    have hF := (hD.1 _ y1 y2).2 (Nat.le_refl _)
    rw [ln] at hF
    refine JS.make (ty := gi (vM E) 20 (y + q)) (x1 := x + 1) hE H hA hon y4 y5 (by omega) (by omega) hn hR (by omega) (by omega) ((hyb _ y1).2.2.1 (Or.inr y2)) hF (by omega) (fun uA uM sz fA fM he hDe J kk => ?_)
    refine ih (q + 1) (by omega) (grK K (orG K.2.1 (arN (aF A + sA E (y + q)) (aB A + sM E (y + q)) (2 + 2 * nb) (gi (vM E) 20 (y + q)) (K.2.2 5) sz fA fM)) (K.2.2 5 + sz)) sc (x + 1) (t + 1) uA uM hA hT ?_ J (hH.gr (fun _ _ _ _ _ _ g => Or.inl g)) (fun k hk => ?_) (by omega) (fun K' vA vM t' k1 k2 k3 k4 k5 J' H' => ?_)
    · obtain ⟨d1, d2, d3, d4, d5⟩ := hD
      refine ⟨fun z z1 z2 => ⟨fun c => ?_, fun c => ?_⟩, fun z z1 z2 z3 => Or.inl (d2 z z1 z2 z3), ?_, ?_, Or.inl d5⟩
      · by_cases c2 : z = y + q
        · subst c2
          rw [y3]; exact hDe
        · exact ((d1 z z1 z2).1 (by omega)).mono (fun _ _ _ _ _ _ g => Or.inl g)
      · have lz := lnY_2 (E := E) z2
        have hbz := (hyb _ z1).2.2.2.2 (by omega)
        have hdz := hyy _ y1 _ z1 (by omega) (by omega) (by omega)
        intro k x q' t va vm gg
        rcases gg with gg | ⟨g1, g2, d, g3, g4, g5, g6, g7⟩ | ⟨g1, g2, g6, g7, d, g3, g4, g5, g8⟩
        · exact (d1 z z1 z2).2 (by omega) _ _ _ _ _ _ gg
        · exact ⟨fun _ => by omega, fun _ => by omega⟩
        · exact ⟨fun _ => by omega, fun _ => by omega⟩
      · intro k x q' t va vm gg
        rcases gg with gg | ⟨g1, g2, d, g3, g4, g5, g6, g7⟩ | ⟨g1, g2, g6, g7, d, g3, g4, g5, g8⟩
        · exact d3 _ _ _ _ _ _ gg
        · exact ⟨fun _ => by omega, fun _ _ => by omega⟩
        · exact ⟨fun _ => by omega, fun _ _ => by omega⟩
      · intro k x q' t va vm gg
        rcases gg with gg | ⟨g1, g2, d, g3, g4, g5, g6, g7⟩ | ⟨g1, g2, g6, g7, d, g3, g4, g5, g8⟩
        · exact d4 _ _ _ _ _ _ gg
        · exact ⟨fun _ => by omega, fun _ => by omega⟩
        · exact ⟨fun _ => by omega, fun _ => by omega⟩
    · rw [kk.1 _ (by omega), kk.2.2.1 _ (by omega)]; exact hR k hk
    · have e : x + 1 + ((r : Nat) : Int) = x + ((r + 1 : Nat) : Int) := by omega
      rw [e] at J'
      refine g K' vA vM t' k1 (fun k hk => (k2 k hk).trans (if_neg hk)) (fun k x q ty va vm gg => k3 _ _ _ _ _ _ (Or.inl gg)) (Nat.le_trans (show K.2.2 5 ≤ K.2.2 5 + sz by omega) k4) k5 J' H'
/-- ARRAYS with their bounds -/
theorem DCT.arr (hE : EOKS E) (hB : BLS E s p bk sg W m1 m1') (hm2 : m1' ≤ s0) (hn : 1 ≤ nb ∧ nb ≤ 3) (hv : SIG E Lim stk p (fun _ => ROWV (2 * nb)) (2 * nb) nx a a2 b b2) (hnx : nx ≤ 502) (hy : ∀ q, q < j → y + q ∈ eSL E s ∧ gi (vM E) 19 (y + q) = 2 ∧ nd (vM E) 24 (y + q) = nb ∧ gl (cA E) 41 (a2 + q) = wdC 30 (Int32.ofNat nb) (Int32.ofNat (sA E (y + q))) ∧ opW (dM E) (b2 + q) 24 (Int32.ofNat (sM E (y + q))) (Int32.ofNat nb) 0) (w2 : gl (cA E) 41 (a2 + j) = wdC 27 0 (Int32.ofNat (2 * nb))) (o2 : opW (dM E) (b2 + j) 25 (Int32.ofNat (2 * nb)) 0 0) (ha : a ≤ a2 ∧ a2 + j < eNo E 5 0 ∧ b2 + j < 60000) : DCT E Lim stk p s bk y (y + j) sg W m1' s0 m2 a (a2 + j + 1) b (b2 + j + 1) := by
  intro K A sc x t wA wM hA hon hr hp hT hD H hH hL hroom hxa hxk g
  refine hv K A (A.1 5) (A.1 6) sc x t wA wM hA hon (fun s hs => by rw [hr]; exact hs) hp H hH hL (by rw [hT.2.2]; omega) (fun j B hB => by have := hxa j B hB; omega) (by omega) (fun uA uM sc1 t1 J1 s1 hR k1 => ?_)
  refine mks (h := A.1 5) (sp := A.1 6) (Lim := Lim) hE hB hm2 hn hy ⟨by omega, by omega⟩ hon hp j 0 (by omega) K sc1 _ t1 uA uM hA ⟨hT.1, hT.2.1⟩ hD J1 hH hR (by omega) (fun K' vA vM t2 l1 l2 l3 l4 l5 J2 H2 => ?_)
  have hA' : K'.1[K'.2.2 0]? = some A := by rw [l1, l2 0 (by omega)]; exact hA
  have hd := J2.dep
  have hEN := hE.1
  obtain ⟨C, M⟩ := J2.cka hA'
  have low : LOWK K' (A.1 5) (A.1 6) := fun q B hB => by
    rw [l1] at hB
    exact H.low q B hB
  have OM : OFF (PSO (A.1 6)) (si (si vM 0 128 (Int32.ofNat (b2 + j + 1))) 0 130 (Int32.ofNat (A.1 6))) vM := OFF.tr (OFF.si (Or.inl ⟨rfl, Or.inr rfl⟩)) (OFF.si (Or.inl ⟨rfl, Or.inl rfl⟩))
  have hsp : A.1 6 ≤ A.1 5 := H.dep.2.2.1
  refine JS.stp (k := 1) (j := 1) (h0 := A.1 5) (sp0 := A.1 6) (h1 := A.1 5) (sp1 := A.1 6) (a1 := a2 + j + 1) (b1 := b2 + j + 1) (x1 := x + ((a2 + j + 1 : Nat) - (a : Int))) hE J2 (TKS.one hd.2.2.2.2 (k_drop C (by omega) w2 (by omega))) (SPS.one (M.runs o2 (by omega) (by decide)) (rm_drop M (by omega) o2)) (by omega) low (popW_off.mono fun k j p => Or.inl p) OM ?_ (gi_si0 _ _ _ _) ?_ (gi_si0 _ _ _ _) (by omega) (by omega) (fun J3 => ?_)
  · unfold popW; rw [gi_si1 (by omega), gi_si0]
  · rw [gi_si1 (by omega), gi_si0]
  · exact g K' _ _ sc1 _ l1 l2 l3 l4 l5 J3 H2 (by omega)
end LJ9
