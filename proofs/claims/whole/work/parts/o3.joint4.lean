/-! BOTH SIDES MAKE A STATEMENT'S CODES, AND WHAT THEY DO: for -/
section OD3
variable {kd wr nm TK SG : Nat → Nat} {vv : Nat → Int64} {m z : Nat} {Cf C C' C1 C2 : Nat → Nat} {SL : Nat → List Nat} {fA fM : Wd} {NS ns SZ lev : Nat} {pn : Nat → Int32} {p sg kp s e n d q q' q1 x y v N N1 tk K nx aE H pl : Nat} {stk : List Nat} {R : RTY} {lo lo' lo2 e1 e2 cn k cur : Nat} {rc rc0 : TX4_block} {E : SENV} {sc ty : Int32} {Lim : Nat} {lu : Nat → Nat} {LT LR : List (Nat × Int32)}
/-- EXPRS of an ELEMENT's node fit -/
def EFT (fM : Wd) (n B : Nat) : Prop := (∃ x, gi fM 8 n = Int32.ofNat x ∧ x < 24000 ∧ FITX fM x B) ∧ (gi fM 7 n ≠ 30 → ∃ y, gi fM 9 n = Int32.ofNat y ∧ y < 24000 ∧ FITX fM y B) ∧ (gi fM 7 n = 31 → ∃ v, gi fM 10 n = Int32.ofNat v ∧ v < 24000 ∧ FITX fM v B)
theorem elt_fit (hk9 : ∀ i, 9000 ≤ i → kd i = 0) (h : ELT kd fA fM sc d tk lo n s e lo') (hn : n < 24000) (he : e ≤ 9000) (hd : d ≤ 40) : EFT fM n (NBd d) := by
  obtain ⟨_, _, x, e1, c1, h8, hx, h⟩ := h
  rcases h with ⟨h7, hn1, he1, _, _⟩ | ⟨h7, k1, y, c2, h9, hn1, hy⟩ | ⟨h7, k1, y, v, e2, c2, c3, h9, h10, hn1, hy, k2, hv⟩
  · exact ⟨⟨x, h8, by omega, xpr_fit hk9 hx hd (by omega) (by omega)⟩, fun c => absurd h7 c, fun c => absurd (c.symm.trans h7) (by decide)⟩
  · have l1 := kd_lt hk9 k1 (by decide)
    have hxy := (PWR.agr 41 fM fM _ _ _ _ _ _ hy.2).1
    exact ⟨⟨x, h8, by omega, xpr_fit hk9 hx hd (by omega) (by omega)⟩, fun _ => ⟨y, h9, by omega, xpr_fit hk9 hy hd he (by omega)⟩, fun c => absurd (c.symm.trans h7) (by decide)⟩
  · have l1 := kd_lt hk9 k1 (by decide)
    have l2 := kd_lt hk9 k2 (by decide)
    have hxy := (PWR.agr 41 fM fM _ _ _ _ _ _ hy.2).1
    have hyv := (PWR.agr 41 fM fM _ _ _ _ _ _ hv.2).1
    exact ⟨⟨x, h8, by omega, xpr_fit hk9 hx hd (by omega) (by omega)⟩, fun _ => ⟨y, h9, by omega, xpr_fit hk9 hy hd (by omega) (by omega)⟩, fun _ => ⟨v, h10, by omega, xpr_fit hk9 hv hd he (by omega)⟩⟩
theorem elx_fit (hk9 : ∀ i, 9000 ≤ i → kd i = 0) (hd : d ≤ 40) (he : e ≤ 9000) (hlo : lo' ≤ 24000) : ∀ (xs : List Nat) (lo s : Nat), CHNW kd fM 40 (ELT kd fA fM sc d tk) xs lo s e lo' → ∀ n ∈ xs, EFT fM n (NBd d) := by
  intro xs
  induction xs with
  | nil => exact fun _ _ h => h.elim
  | cons x r ih =>
    intro lo s h n hn
    cases r with
    | nil =>
      obtain ⟨h1, _⟩ := h
      rw [List.mem_singleton] at hn
      subst hn
      have := elt_lt h1
      exact elt_fit hk9 h1 (by omega) he hd
    | cons y r' =>
      obtain ⟨e1, l1, h1, h2, _, h3⟩ := h
      have a1 := elt_lt h1
      have a2 := els_lt _ _ _ h3
      have a3 := kd_lt hk9 h2 (by decide)
      rcases List.mem_cons.mp hn with rfl | hn
      · exact elt_fit hk9 h1 (by omega) (by omega) hd
      · exact ih _ _ h3 n hn
theorem enf_of {xx : FEL} {B : Nat} (hS : feS kd wr m (vM E) lu lev cur K xx) (hF : EFT (vM E) xx.1 B) (hB : B ≤ nx) (hK : 72003 ≤ K) : ENF E K nx xx := by
  obtain ⟨s1, s2, s3⟩ := hS
  obtain ⟨⟨x, f1, f2, f3⟩, f4, f5⟩ := hF
  have u : ∀ {a b : Nat}, Int32.ofNat a = Int32.ofNat b → a < 24000 → b < 24000 → a = b := fun h h1 h2 => (eq_iN (by omega) (by omega)).mp h
  have ex : ∀ {a : Nat}, a < 24000 → FITX (vM E) a B → ENX E K nx a := fun h1 h2 => by
    have := h2 K (by omega)
    exact ⟨this.1, by omega⟩
  refine ⟨?_, fun c => ?_, fun c => ?_⟩
  · rw [← u (f1.symm.trans s1) f2 s2.1]; exact ex f2 f3
  · rcases s3 with ⟨t0, _⟩ | ⟨t0, t1, t2, t3⟩ | ⟨t0, t1, t2, t3, _⟩
    · exact absurd t0 c
    · obtain ⟨y, g1, g2, g3⟩ := f4 (by rw [t1]; decide)
      rw [← u (g1.symm.trans t2) g2 t3.1]; exact ex g2 g3
    · obtain ⟨y, g1, g2, g3⟩ := f4 (by rw [t1]; decide)
      rw [← u (g1.symm.trans t2) g2 t3.1]; exact ex g2 g3
  · rcases s3 with ⟨t0, _⟩ | ⟨t0, _⟩ | ⟨t0, t1, t2, t3, t4, t5⟩
    · omega
    · omega
    · obtain ⟨y, g1, g2, g3⟩ := f5 t1
      rw [← u (g1.symm.trans t4) g2 t5.1]; exact ex g2 g3
/-- the class's words of ELEMENTS lie behind one another -/
theorem els_le (h : SYS E) (hk : SCE E stk) : ∀ (l : List FEL) (a : Nat), (∀ xx ∈ l, feS kd wr m (vM E) lu lev cur K xx ∧ ENF E K nx xx) → elsPc (vM E) (vA E) (eLU E stk) p (eLV E p) K (Int32.ofNat pl) (Int32.ofNat sg) (l.map Prod.fst) H a aE (cA E) → fesL (vM E) (eLU E stk) p K v ty LT LR l = [] → a ≤ aE := by
  have ml : ∀ {x a a1 : Nat} {t : Int32}, valC (vM E) (vA E) (eLU E stk) p (eLV E p) K x a a1 (cA E) → mbL (vM E) (eLU E stk) p K x t = [] → ENX E K nx x → a ≤ a1 := fun {x a a1 t} hm hF hO => by
    obtain ⟨f1, f2⟩ := app_nil (show FLX (vM E) (eLU E stk) p K 0 x 0 ++ misT (TYX (vM E) (eLU E stk) K x) t (nd (vM E) 12 x) = [] from hF)
    exact (WLE (cur := p) h hk K 0 x 0 (Or.inl (by omega)) hO.1 f1).1 _ _ _ _ (hm f1)
  intro l
  induction l with
  | nil =>
    intro a _ hm _
    have hm : aE = a := hm
    omega
  | cons xx r ih =>
    intro a hS ⟨a1, hm1, hm2⟩ hF
    obtain ⟨f1, f2⟩ := app_nil (show feL (vM E) (eLU E stk) p K v ty LT LR xx ++ fesL (vM E) (eLU E stk) p K v ty LT LR r = [] from hF)
    have q := ih a1 (fun z hz => hS z (List.mem_cons_of_mem _ hz)) hm2 f2
    obtain ⟨⟨s1, s2, s3⟩, t2⟩ := hS xx List.mem_cons_self
    obtain ⟨_, _, v1, hv1, _, hm1⟩ := hm1
    rw [nd_of s1 (by have := s2.1; omega)] at hv1
    unfold feL at f1
    rcases s3 with ⟨t0, t1⟩ | ⟨t0, t1, t3, t4⟩ | ⟨t0, t1, t3, t4, t5, t6⟩
    · rw [if_pos t0] at f1
      obtain ⟨_, g2⟩ := app_nil (show LT ++ (if ty = 2 then [(nd (vM E) 12 v, 4)] else []) ++ mbL (vM E) (eLU E stk) p K xx.2.2.1.1 1 = [] from f1)
      have := ml hv1 g2 t2.1
      rcases hm1 with ⟨_, _, _, e⟩ | ⟨c, _⟩ | ⟨c, _⟩
      · omega
      · exact absurd (t1.symm.trans c) (by decide)
      · exact absurd (t1.symm.trans c) (by decide)
    · rw [if_neg (by omega), if_pos t0] at f1
      obtain ⟨g0, g3⟩ := app_nil f1
      obtain ⟨_, g2⟩ := app_nil (show LT ++ (if ty = 2 then [(nd (vM E) 12 v, 4)] else []) ++ mbL (vM E) (eLU E stk) p K xx.2.2.1.1 1 = [] from g0)
      have := ml hv1 g2 t2.1
      rcases hm1 with ⟨c, _⟩ | ⟨_, u1, hu, _, _, _, _, e⟩ | ⟨c, _⟩
      · exact absurd (t1.symm.trans c) (by decide)
      · rw [nd_of t3 (by have := t4.1; omega)] at hu
        have := ml hu g3 (t2.2.1 (by omega))
        omega
      · exact absurd (t1.symm.trans c) (by decide)
    · rw [if_neg (by omega), if_neg (by omega)] at f1
      obtain ⟨g1, g9⟩ := app_nil f1
      obtain ⟨g1, _⟩ := app_nil g1
      obtain ⟨g1, _⟩ := app_nil g1
      obtain ⟨g1, _⟩ := app_nil g1
      obtain ⟨g1, g3⟩ := app_nil g1
      obtain ⟨_, g2⟩ := app_nil (show LT ++ (if ty = 2 then [(nd (vM E) 12 v, 4)] else []) ++ mbL (vM E) (eLU E stk) p K xx.2.2.1.1 1 = [] from g1)
      have := ml hv1 g2 t2.1
      rcases hm1 with ⟨c, _⟩ | ⟨c, _⟩ | ⟨_, s2', u3, _, hu, _, _, _, _, hu3, _, _, _, _, _, _, _, _, _, _, _, _, _, _, e⟩
      · exact absurd (t1.symm.trans c) (by decide)
      · exact absurd (t1.symm.trans c) (by decide)
      · rw [nd_of t3 (by have := t4.1; omega)] at hu
        rw [nd_of t5 (by have := t6.1; omega)] at hu3
        have := ml hu g3 (t2.2.1 (by omega))
        have := ml hu3 g9 (t2.2.2 (by omega))
        omega
theorem fes_leS {m2 x4 bE : Nat} {PT PR : Nat → Nat → Wd → Prop} (h : SYS E) (hk : SCE E stk) (hPT : ∀ b b', PT b b' (dM E) → b ≤ b') (hPR : ∀ b b', PR b b' (dM E) → b ≤ b') : ∀ (l : List FEL) (b : Nat), (∀ xx ∈ l, feS kd wr m (vM E) lu lev cur K xx ∧ ENF E K nx xx) → fesP (vM E) (eLU E stk) p (eLV E p) K PT PR m2 x4 l b bE (dM E) → fesL (vM E) (eLU E stk) p K v ty LT LR l = [] → b ≤ bE := by
  have ml : ∀ {x b b1 : Nat} {t : Int32}, mbP (vM E) (eLU E stk) p (eLV E p) K x b b1 (dM E) → mbL (vM E) (eLU E stk) p K x t = [] → ENX E K nx x → b ≤ b1 := fun {x b b1 t} hm hF hO => by
    obtain ⟨f1, f2⟩ := app_nil (show FLX (vM E) (eLU E stk) p K 0 x 0 ++ misT (TYX (vM E) (eLU E stk) K x) t (nd (vM E) 12 x) = [] from hF)
    exact (WLE (cur := p) h hk K 0 x 0 (Or.inl (by omega)) hO.1 f1).2 _ _ _ _ _ (hm f1)
  have sl : ∀ {x b b1 : Nat}, stP (vM E) (eLU E stk) p (eLV E p) K x PT b b1 (dM E) → stL (vM E) (eLU E stk) p K v x ty LT = [] → ENX E K nx x → b ≤ b1 := fun {x b b1} hm hF hO => by
    obtain ⟨c1, c2, o1, hP, hv, o2, e⟩ := hm
    obtain ⟨_, f2⟩ := app_nil (show LT ++ (if ty = 2 then [(nd (vM E) 12 v, 4)] else []) ++ mbL (vM E) (eLU E stk) p K x 1 = [] from hF)
    have := hPT _ _ hP
    have := ml hv f2 hO
    omega
  intro l
  induction l with
  | nil =>
    intro b _ hm _
    have hm : bE = b := hm
    omega
  | cons xx r ih =>
    intro b hS ⟨b1, hm1, hm2⟩ hF
    obtain ⟨f1, f2⟩ := app_nil (show feL (vM E) (eLU E stk) p K v ty LT LR xx ++ fesL (vM E) (eLU E stk) p K v ty LT LR r = [] from hF)
    have q := ih b1 (fun z hz => hS z (List.mem_cons_of_mem _ hz)) hm2 f2
    obtain ⟨t1, t2⟩ := hS xx List.mem_cons_self
    unfold feL at f1
    rcases hm1 with ⟨c0, c1, hst, _, _, e⟩ | ⟨c0, c1, c2, hst, hv, _, _, _, e⟩ | ⟨c0, c1, c2, c3, c4, c5, c6, hst, _, hv, _, _, hP, hR, _, _, _, _, hR2, hv2, _, _, _, e⟩
    · rw [if_pos c0] at f1
      have := sl hst f1 t2.1
      omega
    · rw [if_neg (by omega), if_pos c0] at f1
      obtain ⟨g1, g2⟩ := app_nil f1
      have := sl hst g1 t2.1
      have := ml hv g2 (t2.2.1 (by omega))
      omega
    · rw [if_neg (by omega), if_neg (by omega)] at f1
      obtain ⟨g1, g9⟩ := app_nil f1
      obtain ⟨g1, _⟩ := app_nil g1
      obtain ⟨g1, _⟩ := app_nil g1
      obtain ⟨g1, _⟩ := app_nil g1
      obtain ⟨g1, g2⟩ := app_nil g1
      have := sl hst g1 t2.1
      have := ml hv g2 (t2.2.1 (by omega))
      have := hPT _ _ hP
      have := hPR _ _ hR
      have := hPR _ _ hR2
      have := ml hv2 g9 (t2.2.2 c0)
      omega
theorem fv_le (h : SYS E) (hk : SCE E stk) (hF : FLX (vM E) (eLU E stk) p K 1 v 1 = []) (hO : OKN (vM E) K 1 v) : (∀ b b', PTN (vM E) (eLU E stk) p (eLV E p) K v b b' (dM E) → b ≤ b') ∧ ∀ l b b', cdY (vM E) (eLV E p) l b b' (dM E) → b ≤ b' :=
  ⟨fun b b' hP => (WLE (cur := p) h hk K 1 v 1 (Or.inl (by omega)) hO hF).2 _ _ _ _ _ (hP hF), fun l b b' hP => by
    rcases hP with ⟨_, e⟩ | ⟨_, ⟨_, _, e⟩ | ⟨_, _, e⟩ | ⟨_, ⟨_, e⟩ | ⟨_, _, e⟩⟩ | ⟨_, e⟩⟩ <;> omega⟩
end OD3
