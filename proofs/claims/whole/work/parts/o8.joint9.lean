/-! BOTH SIDES MAKE DECLS' CODES, AND WHAT THEY DO: in a row -/
abbrev RTD : Type := (Nat → Nat → Nat → Wd → Prop) → List ARE → List (Nat × List (Nat × Nat)) → List (Nat × Int32) → Prop
def swT : List (Nat × List (Nat × Nat)) → Nat
  | [] => 0
  | y :: r => smT y.2 + 1 + swT r
/-- no faults in DECLS, the reference's way -/
def NFD (nm TK : Nat → Nat) (SL : Nat → List Nat) (fM : Wd) (p s0 : Nat) (st : List Nat) (ars : List ARE) (swl : List (Nat × List (Nat × Nat))) : Prop := arL fM (luN nm TK SL st) p FUJ ars = [] ∧ ∀ y ∈ swl, ((y.2.map Prod.fst).flatMap fun x => FLX fM (luN nm TK SL (s0 :: st)) p FUJ 2 x 0) = []
/-- both sides of DECLS: S: the class's part -/
def JDX (S : List (Nat × Int32) → (Nat → Nat → Nat → Wd → Prop) → Nat → Prop) (kd wr nm TK SG : Nat → Nat) (m : Nat) (SL : Nat → List Nat) (fA fM : Wd) (NS ns lev : Nat) (R : RTD) (p sg W s e s0 : Nat) (st al : List Nat) (C C' : CV) (T : Nat) : Prop :=
  (C 1 ≤ C' 1 ∧ C' 1 ≤ ns) ∧ (s ≤ e ∧ wr s ≤ wr e ∧ T ≤ wr e - wr s) ∧ ∃ (PD : Nat → Nat → Nat → Wd → Prop) (ars : List ARE) (swl : List (Nat × List (Nat × Nat))) (LA : List (Nat × Int32)), S LA PD (4 * (wr e - wr s)) ∧
  (ars.map Prod.fst = al ∧ ∀ x ∈ ars, arS kd wr m fM (luN nm TK SL st) lev p FUJ x) ∧
  ((∀ y ∈ swl, C 1 ≤ y.1 ∧ y.1 < C' 1 ∧ gi fM 19 y.1 = 5 ∧ swS kd wr m fM (fun _ => luN nm TK SL (s0 :: st)) lev p FUJ (fun _ => y.2) y.1 ∧ (gi fM 0 10 = 0 → y.1 ∈ SL s0) ∧ ∀ v ∈ y.2.map Prod.fst, OKN fM FUJ 2 v ∧ NDX fM FUJ 2 v ≤ 502) ∧ swl.Pairwise (fun a b => a.1 < b.1) ∧ ∀ i ∈ SL s0, C 1 ≤ i → i < C' 1 → gi fM 19 i = 5 → ∃ ps, (i, ps) ∈ swl) ∧
  arT ars + swT swl ≤ T ∧ R PD ars swl LA ∧
  (∀ E : SENV, EQJ E nm TK SG SL fA fM NS ns (s0 :: st) lev p sg → NFD nm TK SL fM p s0 st ars swl → SYS E → (∀ a a' Z, PD a a' Z (cA E) → a ≤ a') ∧ ∀ b b', arP fM (luN nm TK SL st) p lev FUJ ars b b' (dM E) → b ≤ b') ∧
  ∀ (E : SENV) (s1 Lim bk m1 m1' : Nat), EQJ E nm TK SG SL fA fM NS ns (s0 :: st) lev p sg → m1' ≤ s1 → NFD nm TK SL fM p s0 st ars swl → SOK E Lim → BLS E s0 p bk sg W m1 m1' → DCQ E Lim st p s0 bk (C 1) (C' 1) sg W m1' s1 PD (fun b b' g => arP fM (luN nm TK SL st) p lev FUJ ars b b' g)
section OI8
variable {kd wr nm TK SG : Nat → Nat} {vv : Nat → Int64} {m z : Nat} {Cf C C1 C' : Nat → Nat} {SL : Nat → List Nat} {fA fM : Wd} {NS ns SZ lev : Nat} {pn : Nat → Int32} {p sg W s e e1 s0 d j : Nat} {st al al1 al2 : List Nat} {R R1 R2 : RTD} {rc : TX4_block} {E : SENV} {lu : Nat → Nat} {K cur T T' : Nat} {g : Wd}
theorem arP_app : ∀ (l l' : List ARE) (b b' : Nat), arP fM lu cur lev K (l ++ l') b b' g → ∃ b1, arP fM lu cur lev K l b b1 g ∧ arP fM lu cur lev K l' b1 b' g := by
  intro l
  induction l with
  | nil => exact fun l' b b' h => ⟨b, rfl, h⟩
  | cons x r ih =>
    intro l' b b' ⟨b1, h1, h2, h3, h4⟩
    obtain ⟨b2, h5, h6⟩ := ih l' _ _ h4
    exact ⟨b2, ⟨b1, h1, h2, h3, h5⟩, h6⟩
theorem arL_app : ∀ (l l' : List ARE), arL fM lu cur K (l ++ l') = arL fM lu cur K l ++ arL fM lu cur K l' := by
  intro l
  induction l with
  | nil => exact fun _ => rfl
  | cons x r ih =>
    intro l'
    show bdL fM lu cur K _ ++ arL fM lu cur K (r ++ l') = (bdL fM lu cur K _ ++ arL fM lu cur K r) ++ arL fM lu cur K l'
    rw [ih, List.append_assoc]
theorem arT_app : ∀ (l l' : List ARE), arT (l ++ l') = arT l + arT l' := by
  intro l
  induction l with
  | nil => exact fun l' => (Nat.zero_add _).symm
  | cons x r ih =>
    intro l'
    show 2 * x.2.2.1 + smT x.2.2.2.2 + 1 + arT (r ++ l') = 2 * x.2.2.1 + smT x.2.2.2.2 + 1 + arT r + arT l'
    rw [ih]; omega
theorem swT_app : ∀ (l l' : List (Nat × List (Nat × Nat))), swT (l ++ l') = swT l + swT l' := by
  intro l
  induction l with
  | nil => exact fun l' => (Nat.zero_add _).symm
  | cons x r ih =>
    intro l'
    show smT x.2 + 1 + swT (r ++ l') = smT x.2 + 1 + swT r + swT l'
    rw [ih]; omega
theorem NFD.app {ars ars2 : List ARE} {swl swl2 : List (Nat × List (Nat × Nat))} (h : NFD nm TK SL fM p s0 st (ars ++ ars2) (swl ++ swl2)) : NFD nm TK SL fM p s0 st ars swl ∧ NFD nm TK SL fM p s0 st ars2 swl2 := by
  obtain ⟨h1, h2⟩ := h
  rw [arL_app] at h1
  obtain ⟨a, b⟩ := app_nil h1
  exact ⟨⟨a, fun y hy => h2 y (List.mem_append_left _ hy)⟩, b, fun y hy => h2 y (List.mem_append_right _ hy)⟩
/-- DECLS' codes hold those of a part -/
def COD (E : SENV) (PD' PD : Nat → Nat → Nat → Wd → Prop) (ars' ars : List ARE) (nm TK : Nat → Nat) (SL : Nat → List Nat) (fM : Wd) (p lev : Nat) (st : List Nat) : Prop := (∀ a a' Z, PD' a a' Z (cA E) → ∃ x x', a ≤ x ∧ x ≤ x' ∧ x' ≤ a' ∧ PD x x' Z (cA E)) ∧ ∀ b b', arP fM (luN nm TK SL st) p lev FUJ ars' b b' (dM E) → ∃ y y', b ≤ y ∧ y ≤ y' ∧ y' ≤ b' ∧ arP fM (luN nm TK SL st) p lev FUJ ars y y' (dM E)
theorem jdl_nil (hR : R (fun b b' _ _ => b' = b) [] [] []) (h : ¬ (kd s = 6 ∨ kd s = 7 ∨ kd s = 8 ∨ kd s = 9 ∨ kd s = 10 ∨ kd s = 13)) (hi : C 1 ≤ ns) : JDX (fun LA PD T => DLC kd wr nm TK z fA SL NS ns SZ lev pn rc d 0 (sg + W) sg (C 2) (C 2) (C 1) (C 1) s s (s0 :: st) LA PD T) kd wr nm TK SG m SL fA fM NS ns lev R p sg W s s s0 st [] C C 0 := by
  refine ⟨⟨Nat.le_refl _, hi⟩, ⟨Nat.le_refl _, Nat.le_refl _, Nat.zero_le _⟩, _, [], [], [], (show DLC kd wr nm TK z fA SL NS ns SZ lev pn rc d 0 (sg + W) sg (C 2) (C 2) (C 1) (C 1) s s (s0 :: st) [] (fun b b' _ _ => b' = b) (4 * (wr s - wr s)) by rw [Nat.sub_self]; exact dlc_nil h hi), ⟨rfl, fun x hx => absurd hx (by simp)⟩, ⟨fun y hy => absurd hy (by simp), List.Pairwise.nil, fun i _ h1 h2 => absurd h2 (by omega)⟩, Nat.zero_le _, hR, fun E _ _ _ => ⟨fun a a' Z hA => by have hA : a' = a := hA; omega, fun b b' hM => by have hM : b' = b := hM; omega⟩, fun E s1 Lim bk m1 m1' hEQ _ _ _ _ => dcq_no (Nat.le_refl _) (fun y h1 h2 => absurd h2 (by omega))⟩
theorem jdl_cons (hRd : ∀ PD PD2 ars ars2 swl swl2 LA LA2, (∀ E, EQJ E nm TK SG SL fA fM NS ns (s0 :: st) lev p sg → NFD nm TK SL fM p s0 st (ars ++ ars2) (swl ++ swl2) → SYS E → COD E (PSQ PD PD2) PD (ars ++ ars2) ars nm TK SL fM p lev st ∧ COD E (PSQ PD PD2) PD2 (ars ++ ars2) ars2 nm TK SL fM p lev st) → R1 PD ars swl LA → R2 PD2 ars2 swl2 LA2 → R (PSQ PD PD2) (ars ++ ars2) (swl ++ swl2) (LA ++ LA2))
    (hk : kd s = 6 ∨ kd s = 7 ∨ kd s = 8 ∨ kd s = 9 ∨ kd s = 10 ∨ kd s = 13) (h41 : kd e1 = 41) (hw1 : wr e1 + 1 ≤ wr (e1 + 1))
    (h1 : JDX (fun LA PD T => SSC kd wr nm TK z fA SL NS ns SZ lev pn (sg + W) sg (C 2) (C1 2) (C 1) (C1 1) s e1 (s0 :: st) LA PD T (fun w => rc 2 (Int32.ofNat d) 0 0 w)) kd wr nm TK SG m SL fA fM NS ns lev R1 p sg W s e1 s0 st al1 C C1 T)
    (h2 : JDX (fun LA PD T => DLC kd wr nm TK z fA SL NS ns SZ lev pn rc d j (sg + W) sg (C1 2) (C' 2) (C1 1) (C' 1) (e1 + 1) e (s0 :: st) LA PD T) kd wr nm TK SG m SL fA fM NS ns lev R2 p sg W (e1 + 1) e s0 st al2 C1 C' T') :
    JDX (fun LA PD T => DLC kd wr nm TK z fA SL NS ns SZ lev pn rc d (j + 1) (sg + W) sg (C 2) (C' 2) (C 1) (C' 1) s e (s0 :: st) LA PD T) kd wr nm TK SG m SL fA fM NS ns lev R p sg W s e s0 st (al1 ++ al2) C C' (T + T') := by
  obtain ⟨c1, c2, PD, ars, swl, LA, hS, ⟨a1, a2⟩, ⟨w1, w2, w3⟩, hT, hR1, hm, hsim⟩ := h1
  obtain ⟨c1', c2', PD', ars', swl', LA', hS', ⟨a1', a2'⟩, ⟨w1', w2', w3'⟩, hT', hR2, hm', hsim'⟩ := h2
  refine ⟨by omega, by omega, _, ars ++ ars', swl ++ swl', _, fun f q hf hq w a sz hG ha => ?_, ⟨by rw [List.map_append, a1, a1'], fun x hx => (List.mem_append.mp hx).elim (a2 x) (a2' x)⟩, ⟨fun y hy => ?_, ?_, fun i hi h1 h2 h5 => ?_⟩, ?_, hRd _ _ _ _ _ _ _ _ (fun E hEQ hN hS => ?_) hR1 hR2, fun E hEQ hN hS => ?_, fun E s1 Lim bk m1 m1' hEQ hm1 hN hSO hB => ?_⟩
  · obtain ⟨u, a', sz', u1, u2⟩ := dlc_cons hk hS h41 c2.1 hS' f q hf hq w a sz hG (by omega)
    exact ⟨u, a', sz', u1, u2.wk (fun b b' Z g h => h) (by omega) (by have := u2.2.2.2.2.1; omega)⟩
  · rcases List.mem_append.mp hy with h | h
    · have := w1 y h
      exact ⟨by omega, by omega, this.2.2⟩
    · have := w1' y h
      exact ⟨by omega, by omega, this.2.2⟩
  · exact List.pairwise_append.mpr ⟨w2, w2', fun x hx y hy => by have := (w1 x hx).2.1; have := (w1' y hy).1; omega⟩
  · by_cases q : i < C1 1
    · obtain ⟨ps, hp⟩ := w3 i hi h1 q h5
      exact ⟨ps, List.mem_append_left _ hp⟩
    · obtain ⟨ps, hp⟩ := w3' i hi (by omega) h2 h5
      exact ⟨ps, List.mem_append_right _ hp⟩
  · rw [arT_app, swT_app]; omega
  · obtain ⟨n1, n2⟩ := hN.app
    obtain ⟨x1, x2⟩ := hm E hEQ n1 hS
    obtain ⟨x3, x4⟩ := hm' E hEQ n2 hS
    refine ⟨⟨fun a a' Z ⟨b1, g1, g2⟩ => ?_, fun b b' hP => ?_⟩, fun a a' Z ⟨b1, g1, g2⟩ => ?_, fun b b' hP => ?_⟩
    · have := x1 _ _ _ g1; have := x3 _ _ _ g2
      exact ⟨_, _, by omega, by omega, by omega, g1⟩
    · obtain ⟨b1, g1, g2⟩ := arP_app _ _ _ _ hP
      have := x2 _ _ g1; have := x4 _ _ g2
      exact ⟨_, _, by omega, by omega, by omega, g1⟩
    · have := x1 _ _ _ g1; have := x3 _ _ _ g2
      exact ⟨_, _, by omega, by omega, by omega, g2⟩
    · obtain ⟨b1, g1, g2⟩ := arP_app _ _ _ _ hP
      have := x2 _ _ g1; have := x4 _ _ g2
      exact ⟨_, _, by omega, by omega, by omega, g2⟩
  · obtain ⟨n1, n2⟩ := hN.app
    obtain ⟨x1, x2⟩ := hm E hEQ n1 hS
    obtain ⟨x3, x4⟩ := hm' E hEQ n2 hS
    refine ⟨fun a a' Z ⟨b1, g1, g2⟩ => ?_, fun b b' hP => ?_⟩
    · have := x1 _ _ _ g1; have := x3 _ _ _ g2
      omega
    · obtain ⟨b1, g1, g2⟩ := arP_app _ _ _ _ hP
      have := x2 _ _ g1; have := x4 _ _ g2
      omega
  · obtain ⟨n1, n2⟩ := hN.app
    obtain ⟨x3, x4⟩ := hm' E hEQ n2 hSO.2.1
    have hq := dcq_seq (hsim E s1 Lim bk m1 m1' hEQ hm1 n1 hSO hB) (hsim' E s1 Lim bk m1 m1' hEQ hm1 n2 hSO hB) ⟨c1.1, c1'.1⟩ x3 x4
    exact fun a a' Z b b' m2 hA hM => hq a a' Z b b' m2 hA (arP_app _ _ _ _ hM)
end OI8
