/-! PASS 2, THE CLASS: signs worked out -/
/-- places that it changes; from word a and operand ob on -/
def PW2 (a ob k j : Nat) : Prop := (k = 3 ∧ (j = 6 ∨ j = 7)) ∨ (k = 40 ∧ j = 1) ∨ (k = 41 ∧ a ≤ j) ∨ (k = 43 ∧ j = 5) ∨ ((k = 46 ∨ k = 47) ∧ ob ≤ j)
/-- operands only -/
def PO2 (ob k j : Nat) : Prop := (k = 43 ∧ j = 5) ∨ ((k = 46 ∨ k = 47) ∧ ob ≤ j)
def on1T (k : Nat) : Int32 := if k = 29 then 2 else 1
def on1N (k : Nat) : Nat := if k = 33 then 0 else 1
def tw2T (k : Nat) : Int32 := if stg k ≤ 6 then 2 else 1
/-- faults of a sign for two; x: the right one, y: the left one -/
def tw2L (k : Nat) (x y : Int32 × Nat) : List (Nat × Int32) := if k = 38 ∨ k = 49 then difT y.1 x.1 x.2 else difT (if 5 ≤ stg k then 1 else 2) y.1 y.2 ++ difT (if 5 ≤ stg k then 1 else 2) x.1 x.2
section CP
variable {wr : Nat → Nat} {z ob a : Nat} {S : List (Int32 × Nat)} {w u : Wd}
theorem TW.pw {v : Wd} (h : TW wr z w) (hO : OFF (PW2 a ob) v w) : TW wr z v := TW.off h hO (fun k j hk => by unfold PW2 at hk; omega)
theorem c2_71 {ty : Int32} {tk : Nat} {x : Int32 × Nat} (h : CCS ob a (x :: S) w) (hS : ob + S.length < 512) : CCS ob a ((ty, tk) :: S) (fX2_reduceOne_71 (Int32.ofNat tk) ty w) ∧ OFF (PO2 ob) (fX2_reduceOne_71 (Int32.ofNat tk) ty w) w := by
  obtain ⟨u1, o1, h1, f1⟩ := ca_pop h hS
  obtain ⟨h2, f2⟩ := ca_push (ty := ty) (s := tk) h1 hS
  unfold fX2_reduceOne_71
  rw [o1, lt2q, ltq]
  exact ⟨h2, OFF.tr (f2.mono fun k j hk => by unfold PO2; omega) (f1.mono fun k j hk => by unfold PO2; omega)⟩
theorem c2_11 {b ty : Int32} {tk k : Nat} {x : Int32 × Nat} (hb : b = (if k = 29 then 29 else if k = 34 then -34 else -33)) (hk : k = 29 ∨ k = 33 ∨ k = 34) (hT : TW wr z w) (h : CCS ob a (x :: S) w) (hS : ob + S.length < 512) (hx : x.2 < z) (ha : a < 36872) :
    ∃ u, fX2_reduceOne_11 ty b (Int32.ofNat tk) w = u ∧ CCS ob (a + on1N k) ((ty, tk) :: S) u ∧ TW wr z u ∧ FLA u = FNL wr (difT ty x.1 x.2) (FLA w) ∧ OFF (PW2 a ob) u w ∧ (k ≠ 33 → gl u 41 a = wdC (if k = 29 then 17 else 16) 0 0) := by
  obtain ⟨t1, t2⟩ := ca_type0 h hS
  obtain ⟨c1, c2, c3, c4⟩ := ca_check (x := ty) (y := x.1) hT h hx
  unfold fX2_reduceOne_11
  rw [t1, t2, ltq, ltq, ltq]
  generalize fX1_check ty x.1 (Int32.ofNat x.2) w = w1 at c1 c2 c3 c4
  have hO1 : OFF (PW2 a ob) w1 w := c4.mono fun k j hk => by unfold PW2; omega
  rcases hk with q | q | q
  · subst q
    have hb' : b = 29 := by rw [hb]; rfl
    obtain ⟨u2, o2, h2, g2, f2⟩ := ca_put1 (x := 17) c1 ha
    obtain ⟨h3, f3⟩ := c2_71 (ty := ty) (tk := tk) h2 hS
    rw [if_pos hb', o2, lt2q]
    have hO : OFF (PW2 a ob) (fX2_reduceOne_71 (Int32.ofNat tk) ty u2) w := OFF.tr (f3.mono fun k j hk => by unfold PO2 at hk; unfold PW2; omega) (OFF.tr (f2.mono fun k j hk => by unfold PW2; omega) hO1)
    refine ⟨_, rfl, h3, hT.pw hO, ?_, hO, fun _ => ?_⟩
    · rw [← c3]
      unfold FLA
      rw [(f3 3 6 (by unfold PO2; omega)).1, (f3 3 7 (by unfold PO2; omega)).1, (f2 3 6 (by omega)).1, (f2 3 7 (by omega)).1]
    · rw [(f3 41 a (by unfold PO2; omega)).2, g2]
      rfl
  · subst q
    have hb' : b = -33 := by rw [hb]; rfl
    have n29 : ¬ b = 29 := by rw [hb']; decide
    have n34 : ¬ b = -34 := by rw [hb']; decide
    obtain ⟨h3, f3⟩ := c2_71 (ty := ty) (tk := tk) c1 hS
    rw [if_neg n29, if_neg n34]
    have hO : OFF (PW2 a ob) (fX2_reduceOne_71 (Int32.ofNat tk) ty w1) w := OFF.tr (f3.mono fun k j hk => by unfold PO2 at hk; unfold PW2; omega) hO1
    refine ⟨_, rfl, h3, hT.pw hO, ?_, hO, fun h => absurd rfl h⟩
    rw [← c3]
    unfold FLA
    rw [(f3 3 6 (by unfold PO2; omega)).1, (f3 3 7 (by unfold PO2; omega)).1]
  · subst q
    have hb' : b = -34 := by rw [hb]; rfl
    obtain ⟨u2, o2, h2, g2, f2⟩ := ca_put1 (x := 16) c1 ha
    obtain ⟨h3, f3⟩ := c2_71 (ty := ty) (tk := tk) h2 hS
    rw [if_neg (show ¬ b = 29 by rw [hb']; decide), if_pos hb', o2, lt2q]
    have hO : OFF (PW2 a ob) (fX2_reduceOne_71 (Int32.ofNat tk) ty u2) w := OFF.tr (f3.mono fun k j hk => by unfold PO2 at hk; unfold PW2; omega) (OFF.tr (f2.mono fun k j hk => by unfold PW2; omega) hO1)
    refine ⟨_, rfl, h3, hT.pw hO, ?_, hO, fun _ => ?_⟩
    · rw [← c3]
      unfold FLA
      rw [(f3 3 6 (by unfold PO2; omega)).1, (f3 3 7 (by unfold PO2; omega)).1, (f2 3 6 (by omega)).1, (f2 3 7 (by omega)).1]
    · rw [(f3 41 a (by unfold PO2; omega)).2, g2]
      rfl
/-- a sign for one operand -/
theorem c2_one {s : EV} {x : Int32 × Nat} (hs : okE s) (h1 : s.1 = 1) (hT : TW wr z w) (h : CCS ob a (x :: S) w) (hS : ob + S.length < 512) (hx : x.2 < z) (ha : a < 36872) :
    ∃ u, fX2_reduceOne (sgI s) (Int32.ofNat s.2.2) w = u ∧ CCS ob (a + on1N s.2.1) ((on1T s.2.1, s.2.2) :: S) u ∧ TW wr z u ∧ FLA u = FNL wr (difT (on1T s.2.1) x.1 x.2) (FLA w) ∧ OFF (PW2 a ob) u w ∧ (s.2.1 ≠ 33 → gl u 41 a = wdC (if s.2.1 = 29 then 17 else 16) 0 0) := by
  have hk : s.2.1 = 29 ∨ s.2.1 = 33 ∨ s.2.1 = 34 := by
    rcases hs.2.2.2 with q | q
    · exact q.2
    · omega
  have hb : sgI s = (if s.2.1 = 29 then 29 else if s.2.1 = 34 then -34 else -33) := by
    unfold sgI
    rcases hk with q | q | q
    · rw [q, if_neg (by omega), if_pos rfl]; rfl
    · rw [q, if_pos ⟨h1, by omega⟩, if_neg (by omega), if_neg (by omega)]; rfl
    · rw [q, if_pos ⟨h1, by omega⟩, if_neg (by omega), if_pos rfl]; rfl
  have hh := c2_11 (b := sgI s) (ty := on1T s.2.1) (tk := s.2.2) hb hk hT h hS hx ha
  have he : fX2_reduceOne (sgI s) (Int32.ofNat s.2.2) w = fX2_reduceOne_11 (on1T s.2.1) (sgI s) (Int32.ofNat s.2.2) w := by
    unfold fX2_reduceOne on1T
    rw [hb]
    rcases hk with q | q | q
    · rw [q]; rfl
    · rw [q]; rfl
    · rw [q]; rfl
  rw [he]
  exact hh
end CP
