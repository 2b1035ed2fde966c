/-! BOTH MACHINES: a for -/
section MJ9
variable {E : SENV} {K : CXT} {Lim p a a' a1 a2 a3 b b' b1 b2 h sp sc i el nx L T t sg m1 m2 s0 c e H x4 b3 e3 M v1 pl j k q aE bE n1 S cnt : Nat} {x x1 x0 xs cap : Int} {stk : List Nat} {wA wM uA uM : Wd} {A B : ACT} {PT PR : Nat → Nat → Wd → Prop}
theorem FG.zero (hE : EOKS E) (hA : K.1[K.2.2 0]? = some A) (hon : aOn A) (w1 : gl (cA E) 41 a = wdC 40 0 0) {X Y Z : Int32} (o1 : opW (dM E) b 12 X Y Z) (ha : a < eNo E 5 0) (hb : b < 60000) (hx : cap + 1 ≤ KK + KK) : FG E 0 K A cap a b := fun sc x t wA wM J hx' hL => by
  refine JS.pay (x1 := KK) hE J hA hon w1 o1 ha hb ⟨by omega, by omega⟩ (fun uA uM hs J1 k0 _ => ?_)
  omega
/-- an ELEMENT on both sides: words a .. a', codes b .. b'; n: where the list of ELEMENTS ends -/
def FEI (E : SENV) (Lim : Nat) (stk : List Nat) (p nx pl sg H m2 x4 : Nat) (PT PR : Nat → Nat → Wd → Prop) (a a' b b' : Nat) : Prop :=
  (gl (cA E) 41 a = wdC 40 0 0 ∧ gl (cA E) 41 (a + 1) = wdC 35 0 (Int32.ofNat pl) ∧ opW (dM E) b 12 0 0 0 ∧ ∃ v1 b1 b2, (∀ L, L ≤ Lim → SIV E L stk p 1 nx (a + 2) v1 b1 b2) ∧ gl (cA E) 41 v1 = wdC 26 0 1 ∧ PT (b + 1) b1 (dM E) ∧ opW (dM E) b2 7 1 0 0 ∧ a + 2 ≤ v1 ∧ b + 1 ≤ b1 ∧ b1 ≤ b2 ∧
    ((gl (cA E) 41 (v1 + 1) = wdC 37 0 (Int32.ofNat sg) ∧ gl (cA E) 41 (v1 + 2) = jwC 33 H ∧ opW (dM E) (b2 + 1) 30 (Int32.ofNat m2) (Int32.ofNat (b2 + 3)) 0 ∧ opW (dM E) (b2 + 2) 10 (Int32.ofNat x4) 0 0 ∧ a' = v1 + 3 ∧ b' = b2 + 3)
    ∨ (∃ u1 d1, (∀ L, L ≤ Lim → SIV E L stk p 2 nx (v1 + 1) u1 (b2 + 1) d1) ∧ gl (cA E) 41 u1 = jwC 34 (u1 + 4) ∧ gl (cA E) 41 (u1 + 1) = wdC 37 0 (Int32.ofNat sg) ∧ gl (cA E) 41 (u1 + 2) = jwC 33 H ∧ gl (cA E) 41 (u1 + 3) = jwC 33 a ∧ opW (dM E) d1 11 (Int32.ofNat (d1 + 3)) 0 0 ∧ opW (dM E) (d1 + 1) 30 (Int32.ofNat m2) (Int32.ofNat b) 0 ∧ opW (dM E) (d1 + 2) 10 (Int32.ofNat x4) 0 0 ∧ v1 + 1 ≤ u1 ∧ b2 + 1 ≤ d1 ∧ a' = u1 + 4 ∧ b' = d1 + 3)
    ∨ (∃ s2 u3 d2 d3 b4 d5 d6, (∀ L, L ≤ Lim → SIV E L stk p 1 nx (v1 + 2) s2 (b2 + 2) d2 ∧ SIV E L stk p 1 nx (s2 + 4) u3 d5 d6) ∧ FSU E pl (v1 + 2) s2 u3 sg H (b2 + 2) d2 d3 b4 d5 d6 m2 x4 PT PR ∧ gl (cA E) 41 (v1 + 1) = jwC 33 (s2 + 1) ∧ opW (dM E) (b2 + 1) 10 (Int32.ofNat (b4 + 3)) 0 0 ∧ a' = u3 + 12 ∧ b' = d6 + 3)))
def FLS (E : SENV) (Lim : Nat) (stk : List Nat) (p nx pl sg H m2 x4 : Nat) (PT PR : Nat → Nat → Wd → Prop) (aE bE : Nat) : Nat → Nat → Nat → Prop
  | 0, a, b => aE = a ∧ bE = b
  | n + 1, a, b => ∃ a1 b1, a ≤ a1 ∧ a1 ≤ aE ∧ b1 ≤ bE ∧ FEI E Lim stk p nx pl sg H m2 x4 PT PR a a1 b b1 ∧ FLS E Lim stk p nx pl sg H m2 x4 PT PR aE bE n a1 b1
/-- the VARIABLE of a for -/
def VARF (E : SENV) (Lim : Nat) (stk : List Nat) (p nx T pl : Nat) (PT PR : Nat → Nat → Wd → Prop) : Prop := ∀ (L : Nat) (K : CXT) (A : ACT), L ≤ Lim → K.1[K.2.2 0]? = some A → aOn A → aK A = stk → aP A = p → HND E K L → (∃ h sp sc x i wA wM a b, JS E K (K.2.2 5) a b h sp sc x i wA wM) → FVX E L K 1 nx T pl PT PR
theorem FLS.run (hE : EOKS E) (hV : ∀ L, L ≤ Lim → FVX E L K 1 nx T pl PT PR) (hF : FCX E Lim K A stk p) (hT : FTM K A x0 M) (hS : ∀ L, L ≤ Lim → FST E L K A stk p sg m1 s0 m2 H b3 x4 e3) (hn : nx + 4 ≤ 502) (hM : M + 1 < KK ∧ S + 4 * (b3 - H) + 2 ≤ M) (hb : bE < 60000 ∧ aE < eNo E 5 0) (a0 : Nat) (hTS : 3 * T + 2 * (aE - a0) + 20 ≤ S) (gE : ∀ L, L ≤ Lim → FG E L K A (x0 + M) aE bE) :
    ∀ (L : Nat), L ≤ Lim → (∀ n a b, a0 ≤ a → FLS E Lim stk p nx pl sg H m2 x4 PT PR aE bE n a b → FG E L K A (x0 + M) a b) ∧ (∀ n v1 s2 u3 b2 d2 d3 b4 d5 d6, a0 ≤ v1 → u3 + 12 ≤ aE → (∀ L, L ≤ Lim → SIV E L stk p 1 nx (v1 + 2) s2 (b2 + 2) d2 ∧ SIV E L stk p 1 nx (s2 + 4) u3 d5 d6) → FSU E pl (v1 + 2) s2 u3 sg H (b2 + 2) d2 d3 b4 d5 d6 m2 x4 PT PR → FLS E Lim stk p nx pl sg H m2 x4 PT PR aE bE n (u3 + 12) (d6 + 3) → FG E L K A (x0 + M) (u3 + 4) (d2 + 1)) := by
  have hA := hF.1
  have hon := hF.2.1
  have hT2 := hT.2.1
  intro L
  induction L with
  | zero =>
    intro _
    refine ⟨fun n a b h0 hl => ?_, fun n v1 s2 u3 b2 d2 d3 b4 d5 d6 h0 h1 hv hC hl => ?_⟩
    · cases n with
      | zero =>
        obtain ⟨e1, e2⟩ := hl
        subst e1
        subst e2
        exact gE 0 (by omega)
      | succ n =>
        obtain ⟨a1, b1', l1, l2, l3, ⟨w1, w2, o1, v1, b1, b2, _, _, _, _, l4, l5, l6, hk⟩, hr⟩ := hl
        have hbb : b < 60000 ∧ a < eNo E 5 0 := by
          rcases hk with ⟨_, _, _, _, e1, e2⟩ | ⟨u1, d1, _, _, _, _, _, _, _, _, g1, g2, e1, e2⟩ | ⟨s2, u3, d2, d3, b4, d5, d6, _, ⟨_, _, _, _, g1, g2⟩, _, _, e1, e2⟩
          · omega
          · omega
          · omega
        exact FG.zero hE hA hon w1 o1 hbb.2 hbb.1 (by omega)
    · obtain ⟨_, ⟨w1, _⟩, ⟨_, o1, _⟩, _, g1, g2⟩ := hC
      exact FG.zero hE hA hon w1 o1 (by omega) (by omega) (by omega)
  | succ L ih =>
    intro hL
    obtain ⟨ih1, ih2⟩ := ih (by omega)
    have hFL : FCX E (L + 1) K A stk p := hF.le hL
    refine ⟨fun n a b h0 hl => ?_, fun n v1 s2 u3 b2 d2 d3 b4 d5 d6 h0 h1 hv hC hl => ?_⟩
    · cases n with
      | zero =>
        obtain ⟨e1, e2⟩ := hl
        subst e1
        subst e2
        exact gE (L + 1) hL
      | succ n =>
        have hl' := hl
        obtain ⟨a1, b1', l1, l2, l3, ⟨w1, w2, o1, v1, b1, b2, hv, w3, hP, o3, l4, l5, l6, hk⟩, hr⟩ := hl
        rcases hk with ⟨c1, c2, c3, c4, e1, e2⟩ | ⟨u1, d1, hc, c1, c2, c3, c4, c5, c6, c7, g1, g2, e1, e2⟩ | ⟨s2, u3, d2, d3, b4, d5, d6, hsu, hC, c1, c2, e1, e2⟩
        · subst e1
          subst e2
          exact FG.val (S := S) hE hFL hT (hV L (by omega)) (hS L (by omega)) (hv L (by omega)) w1 w2 w3 c1 c2 o1 hP o3 c3 c4 ⟨l4, by omega⟩ ⟨by omega, by omega, by omega⟩ (by omega) ⟨by omega, by omega, hM.2⟩ ((ih1 n _ _ (by omega) hr).le (by omega))
        · subst e1
          subst e2
          exact FG.whi (S := S) hE hFL hT (hV L (by omega)) (hS L (by omega)) (hv L (by omega)) (hc L (by omega)) w1 w2 w3 c1 c2 c3 c4 o1 hP o3 c5 c6 c7 ⟨l4, g1, by omega⟩ ⟨by omega, by omega, by omega, by omega⟩ (by omega) ⟨by omega, by omega, hM.2⟩ (ih1 (n + 1) _ _ h0 hl') ((ih1 n _ _ (by omega) hr).le (by omega))
        · subst e1
          subst e2
          obtain ⟨_, _, _, _, g1, g2⟩ := id hC
          exact FSU.beg (S := S) hE hFL hT (hV L (by omega)) (hS L (by omega)) (hv L (by omega)) (hsu L (by omega)).1 (hsu L (by omega)).2 hC w1 w2 w3 c1 o1 hP o3 c2 ⟨l4, by omega⟩ ⟨by omega, by omega, by omega⟩ hn ⟨hM.1, by omega, hM.2⟩ ((ih2 n v1 s2 u3 b2 d2 d3 b4 d5 d6 (by omega) (by omega) hsu hC hr).le (by omega)) ((ih1 n _ _ (by omega) hr).le (by omega))
    · obtain ⟨_, _, _, _, g1, g2⟩ := id hC
      exact FSU.rnd (S := S) hE hFL hT (hV L (by omega)) (hS L (by omega)) (hv L (by omega)).1 (hv L (by omega)).2 hC hn ⟨hM.1, by omega, hM.2⟩ ((ih2 n v1 s2 u3 b2 d2 d3 b4 d5 d6 h0 h1 hv hC hl).le (by omega)) ((ih1 n _ _ (by omega) hl).le (by omega))
theorem SIT.fr (hE : EOKS E) (hV : VARF E Lim stk p nx (n1 - a) (a + 2) PT PR) (w0 : gl (cA E) 41 a = wdC 40 0 0) (w1 : gl (cA E) 41 (a + 1) = jwC 33 (n1 + 1)) {X Y Z : Int32} (o0 : opW (dM E) b 12 X Y Z) (hj : ∀ ev sp cp na mt el us w, MK (dM E) (b + 1) ev sp cp na mt el us w → ∃ q y, q ≤ 4 ∧ SPS q w y ∧ OFF (fun k j => k = 0 ∧ j = 128) y w ∧ MK (dM E) (e3 + 1) ev sp cp na mt el us y) (hl : FLS E Lim stk p nx (a + 2) sg (aE + 1) m2 x4 PT PR aE bE cnt (n1 + 1) (e3 + 1)) (wE : gl (cA E) 41 aE = jwC 33 (b3 + 1)) (hS : ∀ L, L ≤ Lim → SIT E L stk p (sg + 1) m1 s0 (m2 + 1) (aE + 1) b3 x4 e3) (w3 : gl (cA E) 41 b3 = wdC 38 0 (Int32.ofNat sg)) {Y2 Z2 : Int32} (o3 : opW (dM E) e3 29 (Int32.ofNat m2) Y2 Z2) (hbd : m1 ≤ s0 ∧ s0 ≤ m2 ∧ sg + 1 ≤ eNo E 1 p ∧ m2 + 1 ≤ eNo E 3 p ∧ m2 ≤ 60000) (hn : nx + 4 ≤ 502) (ha : a + 2 ≤ n1 ∧ n1 + 6 ≤ aE ∧ aE + 1 ≤ b3 ∧ b3 < eNo E 5 0) (hb : b < 60000 ∧ e3 + 1 ≤ bE ∧ bE < 60000 ∧ x4 ≤ 60000 ∧ e3 < 60000) : SIT E Lim stk p sg m1 s0 m2 a (b3 + 1) b bE := by
  intro K A sc x i wA wM hA hon hln hr hp hT hF H hH hL hroom hxa hxk hx1 hx2 g
  have hEN := hE.1
  have hFC : FCX E Lim K A stk p := ⟨hA, hon, hln, hr, hp, hT, hH, hroom⟩
  have hTM : FTM K A x (4 * (b3 + 1 - a) - 2) := ⟨fun j B hB => by have := hxa j B hB; omega, by omega, hx1, hx2⟩
  have hVV : ∀ L, L ≤ Lim → FVX E L K 1 nx (n1 - a) (a + 2) PT PR := fun L hl => hV L K A hl hA hon hr hp (hH.le hl) ⟨_, _, _, _, _, _, _, _, _, H⟩
  have hSS : ∀ L, L ≤ Lim → FST E L K A stk p sg m1 s0 m2 (aE + 1) b3 x4 e3 := fun L hl => ⟨hF, hbd, hS L hl, w3, ⟨_, _, o3⟩, by omega, by omega, hb.2.2.2.1, hb.2.2.2.2⟩
  have gE : ∀ L, L ≤ Lim → FG E L K A (x + ((4 * (b3 + 1 - a) - 2 : Nat) : Int)) aE bE := fun L hl sc' x' t uA uM J hx' hL' => by
    refine JS.jcl (x1 := x + 4 * ((b3 + 1 : Nat) - (a : Int))) hE J hA wE ⟨by omega, by omega⟩ ⟨by omega, hxk⟩ (fun vA J2 _ => ?_)
    exact g vA uM sc' _ J2 (by omega)
  have run := FLS.run (S := 4 * (aE - a) + 4) hE hVV hFC hTM hSS hn ⟨by unfold KK; omega, by omega⟩ ⟨hb.2.2.1, by omega⟩ (n1 + 1) (by omega) gE Lim (Nat.le_refl _)
  refine JS.pay (x1 := x + 1) hE H hA hon w0 o0 (by omega) hb.1 ⟨by unfold KK at *; omega, by omega⟩ (fun uA uM hs J k0 _ => ?_)
  obtain ⟨C, M1⟩ := J.cka hA
  have hd := J.dep
  obtain ⟨q, zM, q1, q2, q3, q4⟩ := hj _ _ _ _ _ _ _ _ M1
  have hw' : gl (cA E) 41 (a + 1) = wdC 33 0 (Int32.ofNat (n1 + 1)) := w1.trans (jwC_wdC (x := 33) (by omega) (by omega))
  have OA : OFF (PSK (A.1 5)) (si (si uA 48 11 (Int32.ofNat (a + 1 + 1))) 48 11 (Int32.ofNat (n1 + 1))) uA := OFF.tr (OFF.si (Or.inl ⟨rfl, Or.inl rfl⟩)) (OFF.si (Or.inl ⟨rfl, Or.inl rfl⟩))
  refine JS.stp (k := 1) (j := q) (h0 := A.1 5) (sp0 := A.1 6) (h1 := A.1 5) (sp1 := A.1 6) (a1 := n1 + 1) (b1 := e3 + 1) (x1 := x + 2) hE J (TKS.one hd.2.2.2.2 (k_jump C (by omega) hw' (by omega))) q2 (by omega) J.low OA (q3.mono fun k j p => by unfold PSO; omega) (gi_si0 _ _ _ _) ?_ q4.2.2.1 q4.2.2.2.2.1 (by omega) ⟨by omega, by omega⟩ (fun J2 => ?_)
  · rw [gi_si1 (by omega), gi_si1 (by omega)]; exact C.2.2.2.2.2.1
  · exact run.1 cnt (n1 + 1) (e3 + 1) (Nat.le_refl _) hl (sc + 1) (x + 2) _ _ zM J2 (by omega) (by omega)
end MJ9
