/-! THE CLASS: bounds -/
section P1
variable {kd wr : Nat → Nat} {z d : Nat}
/-- PAIRS of EXPRS, r of them at most: the TOKEN behind the last -/
def bdY (kd : Nat → Nat) (d : Nat) : Nat → Nat → Sum Nat Nat
  | 0, t => .inl t
  | r + 1, t => sb (xw kd 41 d t) fun e1 => if kd e1 = 42 then sb (xw kd 41 d (e1 + 1)) fun e2 => if kd e2 = 40 ∧ r ≠ 0 then bdY kd d r (e2 + 1) else .inr e2 else .inl e1
/-- how many -/
def bdC (kd : Nat → Nat) (d : Nat) : Nat → Nat → Nat
  | 0, _ => 0
  | r + 1, t => match xw kd 41 d t with
    | .inl _ => 0
    | .inr e1 => match xw kd 41 d (e1 + 1) with
      | .inl _ => 0
      | .inr e2 => if kd e2 = 40 ∧ r ≠ 0 then bdC kd d r (e2 + 1) + 1 else 1
/-- their forms -/
def FBD (kd : Nat → Nat) (fA : Wd) (d : Nat) : Nat → Nat → Prop
  | 0, _ => True
  | r + 1, t => fmW kd fA 41 d t ∧ ∀ e1, xw kd 41 d t = .inr e1 → fmW kd fA 41 d (e1 + 1) ∧ ∀ e2, xw kd 41 d (e1 + 1) = .inr e2 → kd e2 = 40 ∧ r ≠ 0 → FBD kd fA d r (e2 + 1)
theorem bdY_lt : ∀ (r t e : Nat), bdY kd d r t = .inr e → t < e := by
  intro r
  induction r with
  | zero => intro t e h; exact nomatch h
  | succ r ih =>
    intro t e h
    unfold bdY at h
    rcases h1 : xw kd 41 d t with p | e1
    · rw [h1] at h; exact nomatch h
    · rw [h1] at h
      have l1 := xw_lt _ _ _ _ h1
      unfold sb at h
      dsimp only at h
      by_cases q : kd e1 = 42
      · rw [if_pos q] at h
        rcases h2 : xw kd 41 d (e1 + 1) with p | e2
        · rw [h2] at h; exact nomatch h
        · rw [h2] at h
          have l2 := xw_lt _ _ _ _ h2
          dsimp only at h
          by_cases q2 : kd e2 = 40 ∧ r ≠ 0
          · rw [if_pos q2] at h
            have := ih _ _ h
            omega
          · rw [if_neg q2] at h
            injection h with h
            omega
      · rw [if_neg q] at h; exact nomatch h
theorem FBD.agr {uA wA : Wd} : ∀ (r t e : Nat), bdY kd d r t = .inr e → FBD kd wA d r t → AG9 uA wA t e → FBD kd uA d r t := by
  intro r
  induction r with
  | zero => intro t e _ _ _; trivial
  | succ r ih =>
    intro t e h hf ha
    unfold bdY at h
    obtain ⟨f1, f2⟩ := hf
    rcases h1 : xw kd 41 d t with p | e1
    · rw [h1] at h; exact nomatch h
    · rw [h1] at h
      have l1 := xw_lt _ _ _ _ h1
      obtain ⟨f3, f4⟩ := f2 e1 h1
      unfold sb at h
      dsimp only at h
      by_cases q : kd e1 = 42
      · rw [if_pos q] at h
        rcases h2 : xw kd 41 d (e1 + 1) with p | e2
        · rw [h2] at h; exact nomatch h
        · rw [h2] at h
          have l2 := xw_lt _ _ _ _ h2
          dsimp only at h
          have he2 : e2 ≤ e := by
            by_cases q2 : kd e2 = 40 ∧ r ≠ 0
            · rw [if_pos q2] at h
              have := bdY_lt _ _ _ h
              omega
            · rw [if_neg q2] at h
              injection h with h
              omega
          refine ⟨fmW_agr 41 d t e1 h1 f1 (fun k j a b c e => ha k j a b c (by omega)), fun e1' he1 => ?_⟩
          rw [h1] at he1
          injection he1 with he1
          subst he1
          refine ⟨fmW_agr 41 d (e1 + 1) e2 h2 f3 (fun k j a b c e => ha k j a b (by omega) (by omega)), fun e2' he2' q2 => ?_⟩
          rw [h2] at he2'
          injection he2' with he2'
          subst he2'
          rw [if_pos q2] at h
          exact ih _ _ h (f4 e2 h2 q2) (fun k j a b c e => ha k j a b (by omega) e)
      · rw [if_neg q] at h; exact nomatch h
/-- the loop over PAIRS alone -/
def brL : Nat → Int32 → Int32 → Wd → Option (Int32 × Wd)
  | 0 => fun _ _ _ => none
  | n + 1 => fun a2 a3 w => if 3 ≤ a3 then some (a3, w) else if a3 = 0 then fX4_bounds_60 (brL n) a2 a3 w else lt2 (fX9_take 40 w) fun c w4 => if c = true then fX4_bounds_60 (brL n) a2 a3 w4 else some (a3, w4)
theorem brL_S {n : Nat} {a2 a3 : Int32} {w : Wd} : brL (n + 1) a2 a3 w = if 3 ≤ a3 then some (a3, w) else if a3 = 0 then fX4_bounds_60 (brL n) a2 a3 w else lt2 (fX9_take 40 w) fun c w4 => if c = true then fX4_bounds_60 (brL n) a2 a3 w4 else some (a3, w4) := rfl
theorem br_60 {k k2 : Int32 → Int32 → Wd → Option (Int32 × Wd)} (h : ∀ a2 a3 w, k a2 a3 w = bn2 (k2 a2 a3 w) fun a u => fX4_bounds_93 a u) {a2 a3 : Int32} {w : Wd} : fX4_bounds_60 k a2 a3 w = bn2 (fX4_bounds_60 k2 a2 a3 w) fun a u => fX4_bounds_93 a u := by
  unfold fX4_bounds_60
  rw [bn2_bn2]
  refine bn2_cg fun x w2 => ?_
  rw [ltq, ltq, bn2_bn2]
  refine bn2_cg fun y w5 => ?_
  rw [ltq, ltq, h]
theorem brL_eq : ∀ (n : Nat) (a2 a3 : Int32) (w : Wd), oX4_bounds_39 n a2 a3 w = bn2 (brL n a2 a3 w) fun a u => fX4_bounds_93 a u := by
  intro n
  induction n with
  | zero => intro a2 a3 w; rfl
  | succ n ih =>
    intro a2 a3 w
    show fX4_bounds_39 (oX4_bounds_39 n) a2 a3 w = bn2 (if 3 ≤ a3 then some (a3, w) else if a3 = 0 then fX4_bounds_60 (brL n) a2 a3 w else lt2 (fX9_take 40 w) fun c w4 => if c = true then fX4_bounds_60 (brL n) a2 a3 w4 else some (a3, w4)) _
    unfold fX4_bounds_39
    by_cases q3 : 3 ≤ a3
    · rw [if_pos q3, if_pos q3, bn2_so]
    · rw [if_neg q3, if_neg q3]
      by_cases q0 : a3 = 0
      · rw [if_pos q0, if_pos q0]
        exact br_60 ih
      · rw [if_neg q0, if_neg q0]
        rcases fX9_take 40 w with ⟨_ | _, u⟩
        · rw [lt2q, lt2q, if_neg (show ¬ (false = true) by decide), if_neg (show ¬ (false = true) by decide), bn2_so]
        · rw [lt2q, lt2q, if_pos rfl, if_pos rfl]
          exact br_60 ih
theorem AG9.p1 {u v : Wd} {t t' : Nat} (h : OFF (PE1 t') u v) : AG9 u v t t' := fun k j a b c e => (h k j (by unfold PE1; omega)).1
theorem bdY_0 (h : kd (z - 1) = 0) (r : Nat) : ∃ q, bdY kd d r (z - 1) = .inl q := by
  cases r with
  | zero => exact ⟨_, rfl⟩
  | succ r =>
    unfold bdY
    rw [xw_0 h 41 d]
    exact ⟨_, rfl⟩
/-- one, then the other, which may end at once -/
theorem RUN.bind2 {r : Option (Int32 × Wd)} {k : Int32 → Wd → Option (Int32 × Wd)} {w0 : Wd} {t0 base : Nat} {o : Sum Nat Nat} {fa : Int32} {Q Q2 : Int32 → Nat → Wd → Prop} {g : Nat → Sum Nat Nat} (hwr : ∀ i, wr i ≤ 8192) (hz : t0 < z) (h : RUN kd wr z r w0 t0 base o fa Q) (hg : (∃ q, g (z - 1) = .inl q) ∨ g (z - 1) = .inr (z - 1))
    (K1 : ∀ x v t, o = .inr t → IN1 kd wr z v t base fa → t0 ≤ t → OFF (PE1 t0) v w0 → Q x t v → RUN kd wr z (k x v) v t base (g t) fa Q2)
    (K0 : ∀ x v p, o = .inl p → IN1 kd wr z v (z - 1) base (FA wr fa p) → ∃ Qd, RUN kd wr z (k x v) v (z - 1) base (g (z - 1)) (FA wr fa p) Qd) : RUN kd wr z (bn2 r k) w0 t0 base (sb o g) fa Q2 := by
  obtain ⟨x, v, a, b, c, d, e⟩ := h
  rw [a, bn2_so]
  rcases o with p | e1
  · obtain ⟨Qd, h1⟩ := K0 x v p rfl (d p rfl)
    obtain ⟨x2, v2, a2, b2, c2, d2, e2⟩ := h1.tr b c (by omega)
    refine ⟨x2, v2, a2, b2, c2, fun p' hp => ?_, fun e' he => nomatch he⟩
    have hp' : p = p' := by injection hp
    subst hp'
    rcases hg with ⟨q, hq⟩ | hq
    · have := d2 q hq
      rw [FA_FA hwr] at this
      exact this
    · exact (e2 (z - 1) hq).2.1
  · obtain ⟨h1, h2, h3⟩ := e e1 rfl
    exact (K1 x v e1 rfl h2 h1 c h3).tr b c h1
theorem a_pair (hwr : ∀ i, wr i ≤ 8192) (hz1 : ∀ i, i + 1 < z → kd i ≠ 0) {K : Wd → Option (Int32 × Wd)} {g : Nat → Sum Nat Nat} {Q2 : Nat → Int32 → Nat → Wd → Prop} (hg : (∃ q, g (z - 1) = .inl q) ∨ g (z - 1) = .inr (z - 1)) {t : Nat} {fa : Int32} {w : Wd} (h : IN1 kd wr z w t 0 fa) (hd : d ≤ 40 ∨ d ≤ 41 ∧ kd t = 0)
    (H : ∀ v t' fa', IN1 kd wr z v t' 0 fa' → (d ≤ 40 ∨ d ≤ 41 ∧ kd t' = 0) → RUN kd wr z (K v) v t' 0 (g t') fa' (Q2 t')) :
    RUN kd wr z (bn2 (RX2_typed 900 0 (Int32.ofNat d) 1 0 w) fun _ w2 => lt (fX9_need (Int32.ofNat 42) w2) fun w3 => bn2 (RX2_typed 900 0 (Int32.ofNat d) 1 0 w3) fun _ w5 => K w5) w t 0 (sb (xw kd 41 d t) fun e1 => if kd e1 = 42 then sb (xw kd 41 d (e1 + 1)) g else .inl e1) fa (fun x e v => fmW kd v 41 d t ∧ ∀ e1, xw kd 41 d t = .inr e1 → fmW kd v 41 d (e1 + 1) ∧ ∀ e2, xw kd 41 d (e1 + 1) = .inr e2 → Q2 e2 x e v) := by
  have hk0 := h.zk
  have hE := ex1_all hwr hz1 41
  have hrun : ∀ (u : Wd) (t1 : Nat) (fa1 : Int32), IN1 kd wr z u t1 0 fa1 → (d ≤ 40 ∨ d ≤ 41 ∧ kd t1 = 0) → RUN kd wr z (RX2_typed 900 0 (Int32.ofNat d) 1 0 u) u t1 0 (xw kd 41 d t1) fa1 (QW kd 41 d t1) := fun u t1 fa1 h1 hd1 => a2_tQ (rc := RX2_typed 899) (hE 899 d (by omega) (by omega)) u t1 0 fa1 h1 (by omega) hd1
  have hdn : ∀ t1, (kd t1 = 0 ∨ d ≤ 40) → d ≤ 40 ∨ d ≤ 41 ∧ kd t1 = 0 := fun t1 ht => by
    rcases ht with ht | ht
    · rcases hd with hd | hd
      · exact Or.inl hd
      · exact Or.inr ⟨hd.1, ht⟩
    · exact Or.inl ht
  have hlive : ∀ t1 t2, xw kd 41 d t1 = .inr t2 → (d ≤ 40 ∨ d ≤ 41 ∧ kd t1 = 0) → d ≤ 40 := fun t1 t2 h1 hd1 => by
    rcases hd1 with hd1 | hd1
    · exact hd1
    · rw [xw_0 hd1.2 41 d] at h1
      exact nomatch h1
  have hg1 : ∃ q, (fun e1 => if kd e1 = 42 then sb (xw kd 41 d (e1 + 1)) g else .inl e1 : Nat → Sum Nat Nat) (z - 1) = .inl q := ⟨z - 1, if_neg (by omega)⟩
  have hg2 : ∃ q, (fun t1 => sb (xw kd 41 d t1) g : Nat → Sum Nat Nat) (z - 1) = .inl q := ⟨z - 1, by show sb (xw kd 41 d (z - 1)) g = _; rw [xw_0 hk0 41 d]; rfl⟩
  refine RUN.bind hwr h.tz (hrun w t fa h hd) hg1 (fun x v t' fa' hv ht hO hl => ?_)
  have hn := RUN.need (k := 42) (K := fun w3 => bn2 (RX2_typed 900 0 (Int32.ofNat d) 1 0 w3) fun _ w5 => K w5) (g := fun t1 => sb (xw kd 41 d t1) g) (Q2 := fun x e u => kd t' = 42 → fmW kd u 41 d (t' + 1) ∧ ∀ e2, xw kd 41 d (t' + 1) = .inr e2 → Q2 e2 x e u) hwr hv (by omega) (by omega) (by
    obtain ⟨q, hq⟩ := hg2
    exact ⟨q, Or.inl hq⟩) (fun v2 t2 fa2 hv2 hO2 hc2 => by
    have hd2 : d ≤ 40 ∨ d ≤ 41 ∧ kd t2 = 0 := by
      rcases hc2 with ⟨c1, c2⟩ | ⟨c1, c2⟩
      · rcases hl with ⟨l1, l2⟩ | ⟨⟨pp, l1⟩, l2⟩
        · exact Or.inl (hlive t t' l1 hd)
        · rw [l2] at c1; omega
      · exact hdn t2 (Or.inl (by rw [c2]; exact hk0))
    refine RUN.bind2 hwr hv2.tz (hrun v2 t2 fa2 hv2 hd2) hg (fun x3 v3 t3 l1 hv3 ht3 hO3 l2 => ?_) (fun x3 v3 pp l1 hv3 => ⟨_, H v3 (z - 1) _ hv3 (hdn (z - 1) (Or.inl hk0))⟩)
    have hd3 : d ≤ 40 ∨ d ≤ 41 ∧ kd t3 = 0 := Or.inl (hlive t2 t3 l1 hd2)
    refine (H v3 t3 fa2 hv3 hd3).mono (fun x4 e u he hOu hq => fun h42 => ?_)
    rcases hc2 with ⟨c1, c2⟩ | ⟨c1, c2⟩
    · rw [← c2]
      refine ⟨fmW_agr 41 d t2 t3 l1 l2 (AG9.p1 hOu), fun e2 he2 => ?_⟩
      rw [l1] at he2
      injection he2 with he2
      rw [← he2]
      exact hq
    · exact absurd h42 c1)
  refine hn.mono (fun x4 e u he hOu hq => ?_)
  have hk42 : kd t' = 42 := by
    by_cases q : kd t' = 42
    · exact q
    · rw [if_neg q] at he
      exact nomatch he
  rcases hl with ⟨l1, l2⟩ | ⟨_, l2⟩
  · refine ⟨fmW_agr 41 d t t' l1 l2 (AG9.p1 hOu), fun e1 he1 => ?_⟩
    rw [l1] at he1
    injection he1 with he1
    rw [← he1]
    exact hq hk42
  · rw [l2] at hk42
    omega
def bdG (kd : Nat → Nat) (d r : Nat) (e2 : Nat) : Sum Nat Nat := if kd e2 = 40 ∧ r ≠ 0 then bdY kd d r (e2 + 1) else .inr e2
def bdQ (kd : Nat → Nat) (d r a : Nat) (e2 : Nat) (x : Int32) (_ : Nat) (v : Wd) : Prop := x = Int32.ofNat (a + (if kd e2 = 40 ∧ r ≠ 0 then bdC kd d r (e2 + 1) + 1 else 1)) ∧ (kd e2 = 40 ∧ r ≠ 0 → FBD kd v d r (e2 + 1))
theorem bdC_e {r t e1 e2 : Nat} (h1 : xw kd 41 d t = .inr e1) (h2 : xw kd 41 d (e1 + 1) = .inr e2) : bdC kd d (r + 1) t = if kd e2 = 40 ∧ r ≠ 0 then bdC kd d r (e2 + 1) + 1 else 1 := by
  rw [show bdC kd d (r + 1) t = (match xw kd 41 d t with
    | .inl _ => 0
    | .inr e1 => match xw kd 41 d (e1 + 1) with
      | .inl _ => 0
      | .inr e2 => if kd e2 = 40 ∧ r ≠ 0 then bdC kd d r (e2 + 1) + 1 else 1) from rfl, h1]
  dsimp only
  rw [h2]
theorem a_brS (hwr : ∀ i, wr i ≤ 8192) (hz1 : ∀ i, i + 1 < z → kd i ≠ 0) {r n a t : Nat} {fa : Int32} {w : Wd} (h : IN1 kd wr z w t 0 fa) (hd : d ≤ 40 ∨ d ≤ 41 ∧ kd t = 0)
    (H : ∀ v t' fa', IN1 kd wr z v t' 0 fa' → (d ≤ 40 ∨ d ≤ 41 ∧ kd t' = 0) → RUN kd wr z (brL (n + r + 1) (Int32.ofNat d) (Int32.ofNat (a + 1)) v) v t' 0 (bdG kd d r t') fa' (bdQ kd d r a t')) :
    RUN kd wr z (fX4_bounds_60 (brL (n + r + 1)) (Int32.ofNat d) (Int32.ofNat a) w) w t 0 (bdY kd d (r + 1) t) fa (fun x _ v => x = Int32.ofNat (a + bdC kd d (r + 1) t) ∧ FBD kd v d (r + 1) t) := by
  have hp := a_pair (d := d) (K := fun w5 => brL (n + r + 1) (Int32.ofNat d) (Int32.ofNat (a + 1)) w5) (g := bdG kd d r) (Q2 := bdQ kd d r a) hwr hz1 (Or.inr (if_neg (fun hq => by have := h.zk; omega))) h hd H
  have e : fX4_bounds_60 (brL (n + r + 1)) (Int32.ofNat d) (Int32.ofNat a) w = bn2 (RX2_typed 900 0 (Int32.ofNat d) 1 0 w) fun _ w2 => lt (fX9_need (Int32.ofNat 42) w2) fun w3 => bn2 (RX2_typed 900 0 (Int32.ofNat d) 1 0 w3) fun _ w5 => brL (n + r + 1) (Int32.ofNat d) (Int32.ofNat (a + 1)) w5 := by
    unfold fX4_bounds_60
    rw [show (42 : Int32) = Int32.ofNat 42 from rfl, ← ad1_iN a]
    rfl
  rw [e]
  refine hp.mono (fun x e' u he hO hq => ?_)
  obtain ⟨f1, f2⟩ := hq
  rcases h1 : xw kd 41 d t with p | e1
  · rw [h1] at he; exact nomatch he
  · rw [h1] at he
    obtain ⟨f3, f4⟩ := f2 e1 h1
    unfold sb at he
    dsimp only at he
    by_cases q : kd e1 = 42
    · rw [if_pos q] at he
      rcases h2 : xw kd 41 d (e1 + 1) with p | e2
      · rw [h2] at he; exact nomatch he
      · obtain ⟨g1, g2⟩ := f4 e2 h2
        refine ⟨?_, f1, fun e1' he1 => ?_⟩
        · rw [g1, bdC_e h1 h2]
        · rw [h1] at he1
          injection he1 with he1
          subst he1
          refine ⟨f3, fun e2' he2 q2 => ?_⟩
          rw [h2] at he2
          injection he2 with he2
          subst he2
          exact g2 q2
    · rw [if_neg q] at he; exact nomatch he
theorem a_brL (hwr : ∀ i, wr i ≤ 8192) (hz1 : ∀ i, i + 1 < z → kd i ≠ 0) : ∀ (r n a t : Nat) (fa : Int32) (w : Wd), a + (r + 1) = 3 → IN1 kd wr z w t 0 fa → (d ≤ 40 ∨ d ≤ 41 ∧ kd t = 0) →
    RUN kd wr z (fX4_bounds_60 (brL (n + r + 1)) (Int32.ofNat d) (Int32.ofNat a) w) w t 0 (bdY kd d (r + 1) t) fa (fun x _ v => x = Int32.ofNat (a + bdC kd d (r + 1) t) ∧ FBD kd v d (r + 1) t) := by
  intro r
  induction r with
  | zero =>
    intro n a t fa w ha h hd
    refine a_brS (r := 0) (n := n) (a := a) hwr hz1 h hd (fun v t' fa' hv hd' => ?_)
    have ha2 : a = 2 := by omega
    subst ha2
    have e : bdG kd d 0 t' = .inr t' := if_neg (by omega)
    rw [e]
    have e3 : brL (n + 0 + 1) (Int32.ofNat d) (Int32.ofNat (2 + 1)) v = some (Int32.ofNat (2 + 1), v) := by
      rw [brL_S, if_pos (by decide)]
    rw [e3]
    refine RUN.done hv OFF.rf ⟨?_, fun h => absurd rfl h.2⟩
    rw [if_neg (by omega)]
  | succ r ih =>
    intro n a t fa w ha h hd
    refine a_brS (r := r + 1) (n := n) (a := a) hwr hz1 h hd (fun v t' fa' hv hd' => ?_)
    show RUN kd wr z (if 3 ≤ Int32.ofNat (a + 1) then some (Int32.ofNat (a + 1), v) else if Int32.ofNat (a + 1) = 0 then fX4_bounds_60 (brL (n + (r + 1))) (Int32.ofNat d) (Int32.ofNat (a + 1)) v else lt2 (fX9_take 40 v) fun c w4 => if c = true then fX4_bounds_60 (brL (n + (r + 1))) (Int32.ofNat d) (Int32.ofNat (a + 1)) w4 else some (Int32.ofNat (a + 1), w4)) v t' 0 _ fa' _
    rw [show (40 : Int32) = Int32.ofNat 40 from rfl, if_neg (show ¬ ((3 : Int32) ≤ Int32.ofNat (a + 1)) from nle_iN (a := 3) (by omega) (by omega)), if_neg (show ¬ (Int32.ofNat (a + 1) = 0) from fun h => absurd ((eq_iN (a := a + 1) (b := 0) (by omega) (by omega)).mp h) (by omega))]
    by_cases q : kd t' = 40
    · obtain ⟨e1, e2⟩ := a_take (k := Int32.ofNat 40) hv.1 (by omega) (by rw [q])
      rw [e1, lt2q, if_pos rfl]
      have e : bdG kd d (r + 1) t' = bdY kd d (r + 1) (t' + 1) := if_pos ⟨q, by omega⟩
      rw [e]
      have hO : OFF (fun k j => k = 4 ∧ (j = 9 ∨ j = 10)) (si v 4 9 (Int32.ofNat (t' + 1))) v := OFF.si ⟨rfl, Or.inl rfl⟩
      have hd40 : d ≤ 40 := by
        rcases hd' with hd' | hd'
        · exact hd'
        · omega
      refine ((ih n (a + 1) (t' + 1) fa' (si v 4 9 (Int32.ofNat (t' + 1))) (by omega) (hv.tok hO e2) (Or.inl hd40)).tr (LOW.tk hO) (hO.mono (fun _ _ hp => PE1.tk hp)) (by omega)).mono (fun x e u he hOu hq => ?_)
      refine ⟨?_, fun _ => hq.2⟩
      rw [if_pos ⟨q, by omega⟩, hq.1]
      congr 1
      omega
    · rw [a_take_no (k := 40) hv.1 (by omega) q, lt2q, if_neg (show ¬ (false = true) by decide)]
      have e : bdG kd d (r + 1) t' = .inr t' := if_neg (fun h => q h.1)
      rw [e]
      refine RUN.done hv OFF.rf ⟨?_, fun h => absurd h.1 q⟩
      rw [if_neg (fun h => q h.1)]
/-- behind the bracket: PAIRS, then ] -/
def bdZ (kd : Nat → Nat) (d t : Nat) : Sum Nat Nat := sb (bdY kd d 3 t) fun e => if kd e = 46 then .inr (e + 1) else .inl e
theorem a_bnds (hwr : ∀ i, wr i ≤ 8192) (hz1 : ∀ i, i + 1 < z → kd i ≠ 0) {t : Nat} {fa : Int32} {w : Wd} (h : IN1 kd wr z w t 0 fa) (h26 : gi w 26 10 = 0) (hd : d ≤ 40 ∨ d ≤ 41 ∧ kd t = 0) :
    RUN kd wr z (lt (fX7_hide w) fun w5 => oX4_bounds_39 FU (Int32.ofNat d) 0 w5) w t 0 (bdZ kd d t) fa (fun x e v => x = Int32.ofNat (bdC kd d 3 t) ∧ FBD kd v d 3 t) := by
  obtain ⟨N, hN⟩ : ∃ N, N = FU := ⟨_, rfl⟩
  obtain ⟨fo, hfo⟩ := FU_ge (k := 4) (by omega)
  rw [← hN] at hfo ⊢
  have hO1 : OFF (fun k j => k = 26 ∧ j = 10) (fX7_hide w) w := OFF.si ⟨rfl, rfl⟩
  have hin : IN1 kd wr z (fX7_hide w) t 0 fa := h.off hO1 (fun k j hk => by omega)
  have hr := a_brL (d := d) hwr hz1 2 fo 0 t fa (fX7_hide w) (by omega) hin hd
  have e1 : brL (fo + 2 + 1 + 1) (Int32.ofNat d) 0 (fX7_hide w) = fX4_bounds_60 (brL (fo + 2 + 1)) (Int32.ofNat d) (Int32.ofNat 0) (fX7_hide w) := by
    rw [brL_S, if_neg (by decide), if_pos rfl]
    rfl
  rw [ltq, brL_eq, show N = fo + 2 + 1 + 1 by omega, e1]
  obtain ⟨x, v, r1, r2, r3, r4, r5⟩ := hr
  rw [r1, bn2_so]
  unfold fX4_bounds_93
  have hO2 : OFF (fun k j => k = 26 ∧ j = 10) (fX7_showAll v) v := OFF.si ⟨rfl, rfl⟩
  have h0 : gi (fX7_showAll v) 26 10 = 0 := gi_si0 _ _ _ _
  have hOw : OFF (PE1 t) (fX7_showAll v) w := fun k j hk => by
    by_cases q : k = 26 ∧ j = 10
    · rw [q.1, q.2]
      refine ⟨h0.trans h26.symm, ?_⟩
      show gl v 26 10 = gl w 26 10
      rw [(r3 26 10 (by unfold PE1; omega)).2]
      rfl
    · have g1 := hO2 k j q
      have g2 := r3 k j hk
      have g3 := hO1 k j q
      exact ⟨g1.1.trans (g2.1.trans g3.1), g1.2.trans (g2.2.trans g3.2)⟩
  have hLw : LOW 0 (fX7_showAll v) w := fun j hj => absurd hj (by omega)
  rw [ltq, show (46 : Int32) = Int32.ofNat 46 from rfl]
  unfold bdZ
  rcases ho : bdY kd d 3 t with p | e
  · have hv := (r4 p ho).off hO2 (fun k j hk => by omega)
    have hz46 : kd (z - 1) ≠ 46 := by have := h.zk; omega
    have hl := RUN.last (k := 46) (K := fun w2 => some (x, w2)) (Q2 := fun x' e' v' => x' = Int32.ofNat (bdC kd d 3 t) ∧ FBD kd v' d 3 t) hv (by omega) (by omega) (fun u hu => ⟨x, u, rfl, OFF.rf, fun hk => absurd hk hz46⟩)
    rw [if_neg hz46] at hl
    obtain ⟨x2, v2, a2, b2, c2, d2, e2⟩ := hl.tr hLw hOw (by have := h.tz; omega)
    refine ⟨x2, v2, a2, b2, c2, fun p' hp => ?_, fun e' he => nomatch he⟩
    have hp' : p = p' := by
      injection hp
    subst hp'
    have := d2 (z - 1) rfl
    rw [FA_FA hwr] at this
    exact this
  · obtain ⟨s1, s2, s3⟩ := r5 e ho
    have hv := s2.off hO2 (fun k j hk => by omega)
    have hl := RUN.last (k := 46) (K := fun w2 => some (x, w2)) (Q2 := fun x' e' v' => x' = Int32.ofNat (bdC kd d 3 t) ∧ FBD kd v' d 3 t) hv (by omega) (by omega) (fun u hu => ⟨x, u, rfl, OFF.rf, fun hk => ⟨by rw [s3.1, Nat.zero_add], FBD.agr 3 t e ho s3.2 (fun k j a b c e => ((hu k j (by omega)).1).trans (hO2 k j (by omega)).1)⟩⟩)
    exact hl.tr hLw hOw s1
end P1
