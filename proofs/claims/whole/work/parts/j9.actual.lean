/-! BOTH MACHINES: what a formal holds; ACTUALS that aren't worked out, their words and how the reference notes them -/
section AC9
/-- what a formal f holds: the class's words, the reference's -/
def FVL (E : SENV) (as : List ACT) (G : GHO) (f : Nat) (v1 v2 m1 m2 : Int64) : Prop :=
  (gi (vM E) 24 f = 1 → gi (vM E) 28 f ≠ 0 → v1 = m1 ∧ VT (gi (vM E) 20 f) v1) ∧
  (gi (vM E) 24 f = 1 → gi (vM E) 28 f = 0 → ∃ a t j B, as[j]? = some B ∧ aOn B ∧ v1 = Int64.ofNat a ∧ m1 = Int64.ofNat t ∧ v2 = Int64.ofNat (aF B) ∧ m2 = Int64.ofNat j ∧ THV E a t (gi (vM E) 20 f) B) ∧
  (gi (vM E) 24 f = 2 → ∃ x q nb, v1 = Int64.ofNat x ∧ m1 = Int64.ofNat q ∧ DESC G x q (gi (vM E) 20 f) nb) ∧
  (gi (vM E) 24 f = 3 → ∃ p j B, as[j]? = some B ∧ aOn B ∧ v1 = Int64.ofNat (eNo E 0 p) ∧ m1 = Int64.ofNat p ∧ v2 = Int64.ofNat (aF B) ∧ m2 = Int64.ofNat j ∧ CAB E B p ∧ gi (vM E) 31 p = 0 ∧ gi (vM E) 20 (nd (vM E) 29 p) = gi (vM E) 20 f) ∧
  (gi (vM E) 24 f = 4 → ∃ a t j B, as[j]? = some B ∧ aOn B ∧ v1 = Int64.ofNat a ∧ m1 = Int64.ofNat t ∧ v2 = Int64.ofNat (aF B) ∧ m2 = Int64.ofNat j ∧ THL E a t B) ∧
  (gi (vM E) 24 f = 5 → ∃ k j B x, as[j]? = some B ∧ aOn B ∧ gl (cA E) 41 (k + 1) = Int64.ofNat x ∧ v1 = Int64.ofNat x ∧ m1 = Int64.ofNat k ∧ v2 = Int64.ofNat (aF B) ∧ m2 = Int64.ofNat j ∧ SWV E k B)
/-- words of a formal in the class's frame -/
def wdF (E : SENV) (f : Nat) : Nat := if gi (vM E) 24 f = 2 ∨ (gi (vM E) 24 f = 1 ∧ gi (vM E) 28 f ≠ 0) then 1 else 2
/-- words a .. a1 leave v1 (and v2) on the class's stack, while a call is pending -/
def CWD (E : SENV) (K : CXT) (f a a1 : Nat) (v1 v2 : Int64) : Prop := ∀ (S : Nat) (F : Nat → Int64) (N : ACT) (h sp sc : Nat) (x : Int) (i b ev : Nat) (wA wM : Wd), JPS E (callK K S F N) (K.2.2 5) a b ev h sp sc x i wA wM → sp ≤ h → h + 2 ≤ 30622 → x + (a1 - a) ≤ KK → (∀ uA i', JPS E (callK K S F N) (K.2.2 5) a1 b ev (h + wdF E f) sp sc (x + (a1 - a)) i' uA wM → gl uA 51 h = v1 → (wdF E f = 2 → gl uA 51 (h + 1) = v2) → OFF (PSK h) uA wA → GD E i' uA wM) → GD E i wA wM
/-- how the reference notes an ACTUAL, noted at ac -/
def RFM (E : SENV) (K : CXT) (wM : Wd) (ac f : Nat) (m1 m2 : Int64) : Prop := ∀ (y : Wd) (slot : Nat), (∀ j, j < K.1.length → gi y 88 j = gi wM 88 j ∧ gi y 87 j = gi wM 87 j) → (∀ q, q < K.2.2 2 → gl y 83 q = gl wM 83 q) → K.2.2 2 ≤ slot → slot + 1 < 200000 → ∃ v, FM1 (dM E) (K.2.2 0) ac slot y v ∧ gl v 83 slot = m1 ∧ (gi (vM E) 24 f ≠ 2 → gl v 83 (slot + 1) = m2)
variable {E : SENV} {K : CXT} {Lim p nx a a1 b b1 h sp sc i el j S k n f ac y th : Nat} {x x1 : Int} {wA wM uA uM : Wd} {A B N : ACT} {F : Nat → Int64} {stk : List Nat}
theorem cdm5_1 {fM g : Wd} {lu : Nat → Nat} {lev b' : Nat} (h : gi fM 24 f = 1) : CDM fM lu lev (k + 1) 5 n f ac b b' g = (gi g 52 ac = 1 ∧ opW g b 10 (Int32.ofNat b') 0 0 ∧ ∃ th b1, th < 6000 ∧ gi g 53 ac = Int32.ofNat th ∧ gi g 47 th = Int32.ofNat (b + 1) ∧ b' = b1 + 1 ∧
          (if gi fM 7 n = 4 ∨ gi fM 7 n = 3 ∧ (gi fM 19 (lu (nd fM 12 n) - 1) = 1 ∨ FO fM (lu (nd fM 12 n) - 1) 1 ∧ gi fM 28 (lu (nd fM 12 n) - 1) ≠ 0) then gi g 48 th = 1 ∧ CDM fM lu lev k 1 n 0 0 (b + 1) b1 g ∧ opW g b1 17 1 0 0
          else if gi fM 7 n = 3 ∧ FO fM (lu (nd fM 12 n) - 1) 1 then gi g 48 th = 2 ∧ opW g (b + 1) 4 (upI fM lev (lu (nd fM 12 n) - 1)) (gi fM 26 (lu (nd fM 12 n) - 1)) 2 ∧ b1 = b + 2 ∧ opW g b1 17 0 0 0
          else gi g 48 th = 0 ∧ CDM fM lu lev k 0 n 0 0 (b + 1) b1 g ∧ opW g b1 17 0 0 0)) := by
  rw [CDM]
  try dsimp only
  rw [if_neg (by decide), if_neg (by decide), if_neg (by decide), if_pos rfl, if_pos h]
theorem cdm5_4 {fM g : Wd} {lu : Nat → Nat} {lev b' : Nat} (h : gi fM 24 f = 4) : CDM fM lu lev (k + 1) 5 n f ac b b' g = (gi g 52 ac = 4 ∧ opW g b 10 (Int32.ofNat b') 0 0 ∧ ∃ th b1, th < 6000 ∧ gi g 53 ac = Int32.ofNat th ∧ gi g 47 th = Int32.ofNat (b + 1) ∧ gi g 48 th = 0 ∧ b' = b1 + 1 ∧ CDM fM lu lev k 2 n 0 0 (b + 1) b1 g ∧ opW g b1 17 0 0 0) := by
  rw [CDM]
  try dsimp only
  rw [if_neg (by decide), if_neg (by decide), if_neg (by decide), if_pos rfl, if_neg (by rw [h]; decide), if_pos h]
theorem cdm5_d {fM g : Wd} {lu : Nat → Nat} {lev b' : Nat} (h1 : gi fM 24 f ≠ 1) (h4 : gi fM 24 f ≠ 4) (h0 : gi fM 24 f ≠ 0) : CDM fM lu lev (k + 1) 5 n f ac b b' g = (b' = b ∧ (FO fM (lu (nd fM 12 n) - 1) 0 ∨ gi g 53 ac = upI fM lev (lu (nd fM 12 n) - 1) ∧ (FO fM (lu (nd fM 12 n) - 1) (gi fM 24 f) ∧ gi g 52 ac = 10 ∧ gi g 54 ac = gi fM 26 (lu (nd fM 12 n) - 1)
        ∨ gi fM 19 (lu (nd fM 12 n) - 1) = gi fM 24 f ∧ gi fM 19 (lu (nd fM 12 n) - 1) ≠ 6 ∧ gi g 52 ac = gi fM 24 f ∧ gi g 54 ac = (if gi fM 24 f = 3 then gi fM 24 (lu (nd fM 12 n) - 1) else if gi fM 24 f = 5 then Int32.ofNat (lu (nd fM 12 n) - 1) else gi fM 26 (lu (nd fM 12 n) - 1))))) := by
  rw [CDM]
  try dsimp only
  rw [if_neg (by decide), if_neg (by decide), if_neg (by decide), if_pos rfl, if_neg h1, if_neg h4, if_neg h0]
theorem JPS.low (H : JPS E K el a b j h sp sc x i wA wM) : LOWK K h sp := H.2.2.2.low
/-- thunks -/
theorem CWD.thk (hE : EOKS E) (hA : K.1[K.2.2 0]? = some A) (w1 : gl (cA E) 41 a = jwC 33 a1) (w2 : gl (cA E) 41 a1 = wdC 23 0 (Int32.ofNat (a + 1))) (ha : a + 1 ≤ a1 ∧ a1 < eNo E 5 0) (h2 : wdF E f = 2) : CWD E K f a (a1 + 1) (Int64.ofNat (a + 1)) (Int64.ofNat (aF A)) := by
  intro S F N h sp sc x i b ev wA wM H hsp hh hx g
  refine JPS.thk (x1 := x + ((a1 + 1 : Nat) - (a : Int))) hE H (at_app hA) w1 w2 ⟨by omega, ha.2⟩ H.low hsp hh ⟨by omega, hx⟩ (fun uA J g1 g2 O => ?_)
  rw [h2] at g
  exact g uA _ J g1 (fun _ => g2) O
theorem CWD.pair (hE : EOKS E) (hA : K.1[K.2.2 0]? = some A) {nn q q2 : Nat} {t t2 : Int32} {va vm va2 vm2 : Int64} (F : FNW E K A y j nn B) (hw : gl (cA E) 41 a = wdC 21 (Int32.ofNat nn) (Int32.ofNat (sA E y))) (hG : K.2.1 1 (aF B + sA E y) q t va vm) (hG2 : K.2.1 1 (aF B + sA E y + 1) q2 t2 va2 vm2) (ha : a < eNo E 5 0) (h2 : wdF E f = 2) : CWD E K f a (a + 1) va va2 := by
  intro S F' N h sp sc x i b ev wA wM H hsp hh hx g
  obtain ⟨f1, f2, f3, f4, f5, f6, f7⟩ := F
  have hy : HOP wA ((callK K S F' N).2.2 1) (aF A) nn (aF B) := Or.inl ⟨by omega, (H.2.2.2.lnk (f5.app callG.old) (at_app hA) (at_app f2)).1⟩
  refine JPS.pair (x1 := x + ((a + 1 : Nat) - (a : Int))) hE H (at_app hA) hw hy (Or.inl hG) (Or.inl hG2) ha H.low hsp hh ⟨by omega, hx⟩ (fun uA J g1 g2 O => ?_)
  rw [h2] at g
  exact g uA _ J g1 (fun _ => g2) O
theorem CWD.at_ (hE : EOKS E) (hA : K.1[K.2.2 0]? = some A) {nn s xx : Nat} (F : FNW E K A y j nn B) (hw : gl (cA E) 41 a = wdC 22 (Int32.ofNat nn) (Int32.ofNat s)) (hs : s < eNo E 5 0) (hx' : gl (cA E) 41 s = Int64.ofNat xx) (hx9 : xx < 40000) (ha : a < eNo E 5 0) (h2 : wdF E f = 2) : CWD E K f a (a + 1) (Int64.ofNat xx) (Int64.ofNat (aF B)) := by
  intro S F' N h sp sc x i b ev wA wM H hsp hh hx g
  obtain ⟨f1, f2, f3, f4, f5, f6, f7⟩ := F
  have hy : HOP wA ((callK K S F' N).2.2 1) (aF A) nn (aF B) := Or.inl ⟨by omega, (H.2.2.2.lnk (f5.app callG.old) (at_app hA) (at_app f2)).1⟩
  refine JPS.at_ (x1 := x + ((a + 1 : Nat) - (a : Int))) hE H (at_app hA) hw hs hx' hx9 hy (Nat.le_of_lt (H.2.2.2.frm (at_app f2) f3)) ha H.low hsp hh ⟨by omega, hx⟩ (fun uA J g1 g2 O => ?_)
  rw [h2] at g
  exact g uA _ J g1 (fun _ => g2) O
theorem CWD.plc (hE : EOKS E) (hA : K.1[K.2.2 0]? = some A) {nn q : Nat} {t : Int32} {va vm : Int64} (F : FNW E K A y j nn B) (hw : gl (cA E) 41 a = wdC 20 (Int32.ofNat nn) (Int32.ofNat (sA E y))) (hG : K.2.1 1 (aF B + sA E y) q t va vm) (ha : a < eNo E 5 0) (h2 : wdF E f = 1) {v2 : Int64} : CWD E K f a (a + 1) (Int64.ofNat (aF B + sA E y)) v2 := by
  intro S F' N h sp sc x i b ev wA wM H hsp hh hx g
  obtain ⟨f1, f2, f3, f4, f5, f6, f7⟩ := F
  have hy : HOP wA ((callK K S F' N).2.2 1) (aF A) nn (aF B) := Or.inl ⟨by omega, (H.2.2.2.lnk (f5.app callG.old) (at_app hA) (at_app f2)).1⟩
  refine JPS.plc (x1 := x + ((a + 1 : Nat) - (a : Int))) hE H (at_app hA) hw hy (Or.inl hG) ha H.low hsp (by omega) ⟨by omega, hx⟩ (fun uA J g1 O => ?_)
  rw [h2] at g
  exact g uA _ J g1 (fun z => absurd z (by decide)) O
theorem CWD.val (hE : EOKS E) (hA : K.1[K.2.2 0]? = some A) {nn q : Nat} {t : Int32} {va vm : Int64} (F : FNW E K A y j nn B) (hw : gl (cA E) 41 a = wdC 19 (Int32.ofNat nn) (Int32.ofNat (sA E y))) (hG : K.2.1 1 (aF B + sA E y) q t va vm) (ha : a < eNo E 5 0) (h2 : wdF E f = 1) {v2 : Int64} : CWD E K f a (a + 1) va v2 := by
  intro S F' N h sp sc x i b ev wA wM H hsp hh hx g
  obtain ⟨f1, f2, f3, f4, f5, f6, f7⟩ := F
  have hy : HOP wA ((callK K S F' N).2.2 1) (aF A) nn (aF B) := Or.inl ⟨by omega, (H.2.2.2.lnk (f5.app callG.old) (at_app hA) (at_app f2)).1⟩
  refine JPS.val (x1 := x + ((a + 1 : Nat) - (a : Int))) hE H (at_app hA) hw hy (Or.inl hG) ha H.low hsp (by omega) ⟨by omega, hx⟩ (fun uA J g1 O => ?_)
  rw [h2] at g
  exact g uA _ J g1 (fun z => absurd z (by decide)) O
/-- the reference's notes -/
theorem RFM.thk (h52 : gi (dM E) 52 ac = 1 ∨ gi (dM E) 52 ac = 4) (h53 : gi (dM E) 53 ac = Int32.ofNat th) (ht : th < 6000) : RFM E K wM ac f (Int64.ofNat th) (Int64.ofNat (K.2.2 0)) := by
  intro y slot _ _ _ _
  refine ⟨_, Or.inl ⟨h52, rfl⟩, ?_, fun _ => gl_sl0 _ _ _ _⟩
  rw [gl_sl1 (by omega), gl_sl0, h53, i64_iN (by omega)]
/-- .. out of links -/
theorem LNK.ach {as : List ACT} {G : GHO} {y : Wd} (hl : as.length ≤ 64) (hy : ∀ j B, as[j]? = some B → gi y 88 j = Int32.ofNat (B.1 3)) : ∀ {n q j : Nat}, LNK as G n q j → ACH y n q j := by
  intro n
  induction n with
  | zero => exact fun h => h
  | succ n ih =>
    intro q j ⟨A, L, h1, h2, h3, h4, h5, h6⟩
    refine ⟨?_, A.1 3, hy _ _ h1, ih h6⟩
    rcases List.getElem?_eq_some_iff.mp h1 with ⟨z, _⟩
    omega
theorem RFM.far (H : JS E K el a b h sp sc x i wA wM) {nn s : Nat} (F : FNW E K A y j nn B) (h53 : gi (dM E) 53 ac = Int32.ofNat nn) (h54 : gi (dM E) 54 ac = Int32.ofNat s) (hs : s < 100000) {m1 m2 : Int64}
    (hc : (gi (dM E) 52 ac = 10 ∧ aB B + s < K.2.2 2 ∧ gl wM 83 (aB B + s) = m1 ∧ aB B + s + 1 < 200000 ∧ (gi (vM E) 24 f ≠ 2 → aB B + s + 1 < K.2.2 2 ∧ gl wM 83 (aB B + s + 1) = m2)) ∨ (gi (dM E) 52 ac = 2 ∧ gi (vM E) 24 f = 2 ∧ aB B + s < 200000 ∧ m1 = Int64.ofNat (aB B + s)) ∨ ((gi (dM E) 52 ac = 3 ∨ gi (dM E) 52 ac = 5) ∧ m1 = Int64.ofNat s ∧ m2 = Int64.ofNat j)) (hmt : K.2.2 2 ≤ 200000) : RFM E K wM ac f m1 m2 := by
  intro z slot e1 e2 e3 e4
  obtain ⟨f1, f2, f3, f4, f5, f6, f7, f8, f9, f10⟩ := F
  have hl : K.1.length ≤ 64 := by
    have hd := H.dep
    obtain ⟨A', pr, de, fu, j1, j2, j3, j4, j5, j6, j7, j8, j9, j10, ⟨j11, j12, j13, j14, j15, j16⟩, o1⟩ := H
    omega
  have hlt : ∀ {q : Nat} {C : ACT}, K.1[q]? = some C → q < K.1.length := fun {q C} hq => by
    rcases List.getElem?_eq_some_iff.mp hq with ⟨z, _⟩
    exact z
  have ha : ACH z nn (K.2.2 0) j := f5.ach hl (fun q C hq => (e1 q (hlt hq)).1.trans (H.act hq).1.2.2.1)
  have h87 : gi z 87 j = Int32.ofNat (aB B) := (e1 j (hlt f2)).2.trans (H.act f2).1.1
  have hb : ∀ v : Wd, FM1 (dM E) (K.2.2 0) ac slot z v → gl v 83 slot = m1 ∧ (gi (vM E) 24 f ≠ 2 → gl v 83 (slot + 1) = m2) → ∃ v, FM1 (dM E) (K.2.2 0) ac slot z v ∧ gl v 83 slot = m1 ∧ (gi (vM E) 24 f ≠ 2 → gl v 83 (slot + 1) = m2) := fun v a b => ⟨v, a, b⟩
  rcases hc with ⟨c1, c2, c3, c4, c5⟩ | ⟨c1, c2, c3, c4⟩ | ⟨c1, c2, c3⟩
  · refine hb _ (Or.inr ⟨nn, j, aB B, s, h53, by omega, ha, f9, h87, h54, hs, Or.inl ⟨c1, c4, rfl⟩⟩) ⟨?_, fun z9 => ?_⟩
    · rw [gl_sl1 (by omega), gl_sl0, e2 _ (by omega)]; exact c3
    · obtain ⟨c6, c7⟩ := c5 z9
      rw [gl_sl0, gl_sl1 (by omega), e2 _ c6]; exact c7
  · refine hb _ (Or.inr ⟨nn, j, aB B, s, h53, by omega, ha, f9, h87, h54, hs, Or.inr (Or.inl ⟨c1, c3, rfl⟩)⟩) ⟨?_, fun e => absurd c2 e⟩
    rw [gl_sl0]; exact c4.symm
  · refine hb _ (Or.inr ⟨nn, j, aB B, s, h53, by omega, ha, f9, h87, h54, hs, Or.inr (Or.inr ⟨c1, rfl⟩)⟩) ⟨?_, fun _ => ?_⟩
    · rw [gl_sl1 (by omega), gl_sl0]; exact c2.symm
    · rw [gl_sl0]; exact c3.symm
end AC9
