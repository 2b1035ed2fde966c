/-! BOTH MACHINES: STATEMENTS in a row, choices; LEVEL -/
section LF5
variable {E : SENV} {K K' : CXT} {Lim p nx a a1 a2 a3 b b1 b2 b3 h sp sc i el el1 j sg m1 s0 m2 kp n1 : Nat} {x x1 : Int} {wA wM uA uM : Wd} {A A' B B0 N : ACT} {G G' : GHO} {s s' : Nat} {r stk : List Nat} {as as' : List ACT}
theorem SIT.of (h : SIS E Lim stk p nx a a1 b b1) (hn : nx ≤ 502) (haa : a ≤ a1) : SIT E Lim stk p sg m1 s0 m2 a a1 b b1 := by
  intro K A sc x i wA wM hA hon hl hr hp hT hF H hH hL hroom hxa hxk hx1 hx2 g
  refine h K A (A.1 5) (A.1 6) sc x i wA wM hA hon (fun s hs => by rw [hr]; exact hs) hp H hH hL ?_ (fun j B hB => by have := hxa j B hB; omega) (by omega) (fun uA uM sc' i' J s1 _ _ => g uA uM sc' i' (J.up (by omega) hxk) (by omega))
  rw [hT.2.2.1]; omega
theorem SIT.no : SIT E Lim stk p sg m1 s0 m2 a a b b := by
  intro K A sc x i wA wM hA hon hl hr hp hT hF H hH hL hroom hxa hxk hx1 hx2 g
  have e : x + 4 * ((a : Int) - a) = x := by omega
  rw [e] at g
  exact g wA wM sc i H hL
theorem SIT.seq (h1 : SIT E Lim stk p sg m1 s0 m2 a a1 b b1) (h2 : SIT E Lim stk p sg m1 s0 m2 a1 a2 b1 b2) (ha : a ≤ a1 ∧ a1 ≤ a2) : SIT E Lim stk p sg m1 s0 m2 a a2 b b2 := by
  intro K A sc x i wA wM hA hon hl hr hp hT hF H hH hL hroom hxa hxk hx1 hx2 g
  refine h1 K A sc x i wA wM hA hon hl hr hp hT hF H hH hL hroom (fun j B hB => by have := hxa j B hB; omega) (by omega) hx1 hx2 (fun uA uM sc' i' J s1 => ?_)
  refine h2 K A sc' (x + 4 * (a1 - a)) i' uA uM hA hon hl hr hp hT hF J hH s1 hroom (fun j B hB => by have := hxa j B hB; omega) (by omega) (by omega) hx2 (fun yA yM sc2 i2 J2 s2 => ?_)
  have e : x + 4 * (a1 - a) + 4 * ((a2 : Int) - a1) = x + 4 * (a2 - a) := by omega
  rw [e] at J2
  exact g yA yM sc2 i2 J2 s2
/-- if .. then .. else .. -/
theorem SIT.if3 (hE : EOKS E) (h1 : SIV E Lim stk p 2 n1 (a + 1) a1 (b + 1) b1) (h2 : SIT E Lim stk p sg m1 s0 m2 (a1 + 1) a2 (b1 + 1) b2) (h3 : SIT E Lim stk p sg m1 s0 m2 (a2 + 1) a3 (b2 + 1) b3) (w0 : gl (cA E) 41 a = wdC 40 0 0) {X Y Z : Int32} (o0 : opW (dM E) b 12 X Y Z) (ha : a + 1 ≤ a1 ∧ a1 + 1 ≤ a2 ∧ a2 + 1 ≤ a3 ∧ a3 < eNo E 5 0) (hb : b < 60000 ∧ b1 < 60000 ∧ b2 < 60000 ∧ b3 ≤ 60000) (hn : n1 ≤ 502)
    (w1 : gl (cA E) 41 a1 = jwC 34 (a2 + 1)) (w2 : gl (cA E) 41 a2 = jwC 33 a3) (o1 : opW (dM E) b1 11 (Int32.ofNat (b2 + 1)) 0 0) (o2 : opW (dM E) b2 10 (Int32.ofNat b3) 0 0) : SIT E Lim stk p sg m1 s0 m2 a a3 b b3 := by
  intro K A sc x i wA wM hA hon hl hr hp hT hF H hH hL hroom hxa hxk hx1 hx2 g
  have hN := hE.1
  have hst : ∀ s ∈ stk, s ∈ aK A := fun s hs => by rw [hr]; exact hs
  refine JS.pay (x1 := x + 1) hE H hA hon w0 o0 (by omega) hb.1 ⟨by unfold KK at *; omega, by omega⟩ (fun uA uM hs J k0 _ => ?_)
  refine h1 K A (A.1 5) (A.1 6) (sc + 1) (x + 1) _ uA uM hA hon hst hp J hH (by omega) (by rw [hT.2.2.1]; omega) (fun j B hB => by have := hxa j B hB; omega) (by omega) ?_
  intro yA yM v sc1 i1 J1 s1 v1 v2 hv kk
  refine J1.cho hE H.low (v1.trans v2.symm) w1 o1 (by omega) (by omega) (x1 := x + ((a2 + 1 : Nat) - (a : Int))) (by omega) (fun zA zM OA OM J2 z => ?_) (fun zA zM OA OM J2 z => ?_)
  · refine h2 K A sc1 _ _ zA zM hA hon hl hr hp hT hF J2 hH (by omega) hroom (fun j B hB => by have := hxa j B hB; omega) (by omega) (by omega) hx2 (fun qA qM sc2 i2 J3 s2 => ?_)
    refine J3.jmp hE H.low w2 o2 (by omega) (by omega) (x1 := x + 4 * (a3 - a)) (by omega) (fun vA vM PA PM J4 => ?_)
    exact g vA vM sc2 _ J4 s2
  · refine h3 K A sc1 _ _ zA zM hA hon hl hr hp hT hF J2 hH (by omega) hroom (fun j B hB => by have := hxa j B hB; omega) (by omega) (by omega) hx2 (fun qA qM sc2 i2 J3 s2 => ?_)
    exact g qA qM sc2 i2 (J3.up (by omega) hxk) s2
/-- if .. then .. -/
theorem SIT.if2 (hE : EOKS E) (h1 : SIV E Lim stk p 2 n1 (a + 1) a1 (b + 1) b1) (h2 : SIT E Lim stk p sg m1 s0 m2 (a1 + 1) a2 (b1 + 1) b2) (w0 : gl (cA E) 41 a = wdC 40 0 0) {X Y Z : Int32} (o0 : opW (dM E) b 12 X Y Z) (ha : a + 1 ≤ a1 ∧ a1 + 1 ≤ a2 ∧ a2 < eNo E 5 0) (hb : b < 60000 ∧ b1 < 60000 ∧ b2 ≤ 60000) (hn : n1 ≤ 502)
    (w1 : gl (cA E) 41 a1 = jwC 34 a2) (o1 : opW (dM E) b1 11 (Int32.ofNat b2) 0 0) : SIT E Lim stk p sg m1 s0 m2 a a2 b b2 := by
  intro K A sc x i wA wM hA hon hl hr hp hT hF H hH hL hroom hxa hxk hx1 hx2 g
  have hN := hE.1
  have hst : ∀ s ∈ stk, s ∈ aK A := fun s hs => by rw [hr]; exact hs
  refine JS.pay (x1 := x + 1) hE H hA hon w0 o0 (by omega) hb.1 ⟨by unfold KK at *; omega, by omega⟩ (fun uA uM hs J k0 _ => ?_)
  refine h1 K A (A.1 5) (A.1 6) (sc + 1) (x + 1) _ uA uM hA hon hst hp J hH (by omega) (by rw [hT.2.2.1]; omega) (fun j B hB => by have := hxa j B hB; omega) (by omega) ?_
  intro yA yM v sc1 i1 J1 s1 v1 v2 hv kk
  refine J1.cho hE H.low (v1.trans v2.symm) w1 o1 (by omega) (by omega) (x1 := x + (a2 - a)) (by omega) (fun zA zM OA OM J2 z => ?_) (fun zA zM OA OM J2 z => ?_)
  · refine h2 K A sc1 _ _ zA zM hA hon hl hr hp hT hF J2 hH (by omega) hroom (fun j B hB => by have := hxa j B hB; omega) (by omega) (by omega) hx2 (fun qA qM sc2 i2 J3 s2 => ?_)
    exact g qA qM sc2 i2 (J3.up (by omega) hxk) s2
  · exact g zA zM sc1 _ (J2.up (by omega) hxk) (by omega)
/-- where the class keeps the number of ELEMENTS that stay -/
def kpO (E : SENV) (p : Nat) : List Nat → Nat
  | [] => 2
  | s :: r => if own E s p then (if gi (vM E) 17 s = -1 then kpO E p r else eNo E 4 s) else 2
theorem SEA.kpt (hB : ∀ s, s < eNo E 5 6 → gi (vM E) 17 s = -1 ∨ ∃ bk, gi (vM E) 17 s = Int32.ofNat bk ∧ bk < 9000) (S : SEA E as G i A) : ∀ (st : List Nat), st <:+ aK A → ∃ k q vm, (k = 1 ∨ k = 2) ∧ G k (aF A + kpO E (aP A) st) q 0 (Int64.ofNat (kvO E A st)) vm := by
  obtain ⟨s1, s2, s3, s4, s5, s6, s7, s8, s9, s10, s11, _⟩ := S
  intro st
  induction st with
  | nil => exact fun _ => ⟨2, 0, 0, Or.inr rfl, s3⟩
  | cons s r ih =>
    intro hs
    have hsm : s ∈ aK A := hs.subset List.mem_cons_self
    have hsl : s < eNo E 5 6 := s8.lt s hsm
    by_cases q : gi (vM E) 15 s = Int32.ofNat (aP A)
    · by_cases q1 : gi (vM E) 17 s = -1
      · have e1 : kpO E (aP A) (s :: r) = kpO E (aP A) r := by
          show (if own E s (aP A) then (if gi (vM E) 17 s = -1 then kpO E (aP A) r else eNo E 4 s) else 2) = _
          rw [if_pos q, if_pos q1]
        have e2 : kvO E A (s :: r) = kvO E A r := by
          show (if own E s (aP A) then (if gi (vM E) 17 s = -1 then kvO E A r else A.1 (100 + s)) else A.1 8) = _
          rw [if_pos q, if_pos q1]
        rw [e1, e2]
        exact ih ((List.suffix_cons _ _).trans hs)
      · have e1 : kpO E (aP A) (s :: r) = eNo E 4 s := by
          show (if own E s (aP A) then (if gi (vM E) 17 s = -1 then kpO E (aP A) r else eNo E 4 s) else 2) = _
          rw [if_pos q, if_neg q1]
        have e2 : kvO E A (s :: r) = A.1 (100 + s) := by
          show (if own E s (aP A) then (if gi (vM E) 17 s = -1 then kvO E A r else A.1 (100 + s)) else A.1 8) = _
          rw [if_pos q, if_neg q1]
        rcases hB s hsl with z | ⟨bk, z1, z2⟩
        · exact absurd z q1
        · rw [e1, e2]
          exact ⟨1, _, _, Or.inl rfl, (s11 s r hs q bk z1 z2).1⟩
    · have e1 : kpO E (aP A) (s :: r) = 2 := by
        show (if own E s (aP A) then (if gi (vM E) 17 s = -1 then kpO E (aP A) r else eNo E 4 s) else 2) = _
        rw [if_neg q]
      have e2 : kvO E A (s :: r) = A.1 8 := by
        show (if own E s (aP A) then (if gi (vM E) 17 s = -1 then kvO E A r else A.1 (100 + s)) else A.1 8) = _
        rw [if_neg q]
      rw [e1, e2]
      exact ⟨2, 0, 0, Or.inr rfl, s3⟩
/-- LEVEL: the class's ELEMENTS are those that stay -/
theorem JS.lev (hE : EOKS E) (H : JS E K el a b h sp sc x i wA wM) (hA : K.1[K.2.2 0]? = some A) (hon : aOn A) (hw : gl (cA E) 41 a = wdC 32 0 (Int32.ofNat kp)) (ha : a < eNo E 5 0) {k q : Nat} {vm : Int64} (hk : k = 1 ∨ k = 2) (hG : K.2.1 k (aF A + kp) q 0 (Int64.ofNat (K.2.2 5)) vm) (hx : x + 1 ≤ x1 ∧ x1 ≤ KK) (g : ∀ uA, JS E K (K.2.2 5) (a + 1) b h sp sc x1 (i + 1) uA wM → OFF (fun k j => k = 48) uA wA → GD E (i + 1) uA wM) : GD E i wA wM := by
  have hd := H.dep
  obtain ⟨C, M⟩ := H.cka hA
  obtain ⟨hM, hD⟩ := H.mem
  have e1 := (hM _ _ _ _ _ _ hG).2.1 hk
  have l1 := ((hD.2.2 _ _ _ _ _ _ hG).2.1 (by omega)).1
  have tk := k_level C ha hw l1 e1
  have hel := M.2.2.2.2.2.2.2.2.2.2.2.2.2.2.2.2.1
  have OA : OFF (fun k j => k = 48 ∧ (j = 11 ∨ j = 16)) (si (si wA 48 11 (Int32.ofNat (a + 1))) 48 16 (Int32.ofNat (K.2.2 5))) wA := OFF.tr (OFF.si (by omega)) (OFF.si (by omega))
  obtain ⟨_, pr, de, fu, j1, j2, j3, j4, j5, j6, j7, j8, j9, j10, ⟨j11, j12, j13, j14, j15, j16, j17⟩, o1, o2⟩ := id H
  have Cn : CK (cA E) (eNo E 5 0) (a + 1) (aF A) (K.2.2 1) h (K.2.2 3) (K.2.2 5) (si (si wA 48 11 (Int32.ofNat (a + 1))) 48 16 (Int32.ofNat (K.2.2 5))) := C.nw (OA.mono fun k j p => by omega) (by rw [gi_si1 (by omega), gi_si0]) ((OA 48 12 (by omega)).1.trans C.2.2.2.1) ((OA 48 13 (by omega)).1.trans C.2.2.2.2.1) ((OA 48 14 (by omega)).1.trans C.2.2.2.2.2.1) ((OA 48 15 (by omega)).1.trans C.2.2.2.2.2.2.1) (gi_si0 _ _ _ _) ⟨C.2.2.2.2.2.2.2.2.1, C.2.2.2.2.2.2.2.2.2.1, C.2.2.2.2.2.2.2.2.2.2.1, hd.1, hel⟩
  have J : JS E K (K.2.2 5) (a + 1) b h sp sc x1 (i + 1) (si (si wA 48 11 (Int32.ofNat (a + 1))) 48 16 (Int32.ofNat (K.2.2 5))) wM := JS.ch (h0 := h) (sp0 := sp) H H.kst (fun j B hB => ⟨B, hB, SMA.rf⟩) hA hon Cn (j4.off OA (fun k j p => by omega)) M j6 (fun pr0 de0 fu0 T => T.uq j4) (hM.agr (fun _ _ _ _ _ _ _ _ => (OA 50 _ (by omega)).2) (fun _ _ _ _ _ _ _ _ => rfl)) (OA.mono fun k j p => by omega) OFF.rf H.low ⟨Nat.le_refl _, Nat.le_refl _, hd.2.2.1⟩ ⟨by omega, hx.2⟩
  exact J.go hE (TKS.one hd.2.2.2.2 tk) (show SPS 0 wM wM from rfl) (by omega) (g _ J (OA.mono fun k j p => p.1))
/-- a LABEL before a STATEMENT -/
theorem SIT.lab (hE : EOKS E) (hB : ∀ s, s < eNo E 5 6 → gi (vM E) 17 s = -1 ∨ ∃ bk, gi (vM E) 17 s = Int32.ofNat bk ∧ bk < 9000) (hs : SIT E Lim stk p sg m1 s0 m2 (a + 1) a1 b b1) (hw : gl (cA E) 41 a = wdC 32 0 (Int32.ofNat (kpO E p stk))) (ha : a + 1 ≤ a1 ∧ a < eNo E 5 0) : SIT E Lim stk p sg m1 s0 m2 a a1 b b1 := by
  intro K A sc x i wA wM hA hon hl hr hp hT hF H hH hL hroom hxa hxk hx1 hx2 g
  obtain ⟨k, q, vm, k1, k2⟩ := SEA.kpt hB ((H.act hA).2.2.2.2.2.2.2 hon) (aK A) (List.suffix_refl _)
  rw [← hT.2.2.2.2, hp, hr] at k2
  refine JS.lev (x1 := x + 1) hE H hA hon hw ha.2 k1 k2 ⟨by omega, by omega⟩ (fun uA J OA => ?_)
  refine hs K A sc (x + 1) _ uA wM hA hon hl hr hp hT hF J hH hL hroom (fun j B hB => by have := hxa j B hB; omega) (by omega) (by omega) hx2 (fun yA yM sc2 i2 J2 s2 => ?_)
  exact g yA yM sc2 i2 (J2.up (by omega) hxk) s2
end LF5
