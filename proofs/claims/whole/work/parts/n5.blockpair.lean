/-! BOTH SIDES' CODES: DECLS, a BLOCK -/
section NE5
variable {E : SENV} {Lim k p K y j nb s bk i i1 i2 a a' a0 a1 a2 b b' b1 b2 b3 q q' sg W m1 m1' s0 m2 Z nx W0 SZ kp lo hi i0 : Nat} {stk : List Nat} {PA PD PD1 PD2 PS : Nat → Nat → Nat → Wd → Prop} {PR1 PR2 : Nat → Nat → Wd → Prop} {ty : Int32}
/-- switches among symbols i .. i1 - 1 -/
def swN (E : SENV) (s i : Nat) : Nat → Nat
  | 0 => 0
  | n + 1 => swN E s i n + (if i ≤ n ∧ gi (vM E) 19 n = 5 ∧ n ∈ eSL E s then 1 else 0)
theorem swN_z : ∀ {n : Nat}, n ≤ i → swN E s i n = 0 := by
  intro n
  induction n with
  | zero => exact fun _ => rfl
  | succ n ih =>
    intro h
    show swN E s i n + (if i ≤ n ∧ gi (vM E) 19 n = 5 ∧ n ∈ eSL E s then 1 else 0) = 0
    rw [ih (by omega), if_neg (by omega)]
theorem swN_app : ∀ {n : Nat}, i ≤ i1 → i1 ≤ n → swN E s i n = swN E s i i1 + swN E s i1 n := by
  intro n
  induction n with
  | zero =>
    intro h1 h2
    have : i1 = 0 := by omega
    subst this
    show (0 : Nat) = 0 + 0
    rfl
  | succ n ih =>
    intro h1 h2
    by_cases e : i1 = n + 1
    · subst e
      rw [swN_z (Nat.le_refl (n + 1))]; omega
    · have := ih h1 (by omega)
      show swN E s i n + (if i ≤ n ∧ gi (vM E) 19 n = 5 ∧ n ∈ eSL E s then 1 else 0) = swN E s i i1 + (swN E s i1 n + (if i1 ≤ n ∧ gi (vM E) 19 n = 5 ∧ n ∈ eSL E s then 1 else 0))
      rw [this]
      by_cases c : gi (vM E) 19 n = 5 ∧ n ∈ eSL E s
      · rw [if_pos ⟨by omega, c⟩, if_pos ⟨by omega, c⟩]; omega
      · rw [if_neg (fun z => c z.2), if_neg (fun z => c z.2)]; omega
theorem swN_no (h : ∀ n, i ≤ n → n < i1 → n ∈ eSL E s → gi (vM E) 19 n ≠ 5) : swN E s i i1 = 0 := by
  induction i1 with
  | zero => rfl
  | succ n ih =>
    show swN E s i n + (if i ≤ n ∧ gi (vM E) 19 n = 5 ∧ n ∈ eSL E s then 1 else 0) = 0
    rw [ih (fun k h1 h2 => h k h1 (by omega)), if_neg (fun c => h n c.1 (by omega) c.2.2 c.2.1)]
/-- DECLS of a BLOCK by their codes -/
def DCQ (E : SENV) (Lim : Nat) (stk : List Nat) (p s bk i i1 sg W m1' s0 : Nat) (PD : Nat → Nat → Nat → Wd → Prop) (PR : Nat → Nat → Wd → Prop) : Prop := ∀ a a' Z b b' m2, PD a a' Z (cA E) → PR b b' (dM E) → a' < eNo E 5 0 → b' < 60000 → (a ≤ a' ∧ b ≤ b' ∧ swN E s i i1 ≤ a' - a) ∧ DCT E Lim stk p s bk i i1 sg W m1' s0 m2 a a' b b'
theorem dcq_no (hi : i ≤ i1) (hn : ∀ y, i ≤ y → y < i1 → gi (vM E) 19 y ≠ 2 ∧ gi (vM E) 19 y ≠ 5) : DCQ E Lim stk p s bk i i1 sg W m1' s0 (fun b b' _ _ => b' = b) (fun b b' _ => b' = b) := fun a a' Z b b' m2 hA hM _ _ => by
  subst hA
  subst hM
  exact ⟨⟨Nat.le_refl _, Nat.le_refl _, by rw [swN_no (fun n h1 h2 _ => (hn n h1 h2).2)]; omega⟩, DCT.no hi (fun y _ h2 h3 => (hn y h3.1 h3.2).1 h2)⟩
/-- over a switch or a procedure -/
theorem dcq_jmp (hE : EOKS E) (hi : i ≤ i1) (hn : ∀ y ∈ eSL E s, gi (vM E) 19 y = 2 → ¬ (i ≤ y ∧ y < i1)) (hsw : swN E s i i1 ≤ 1) (hP : ∀ a a' Z, PD a a' Z (cA E) → gl (cA E) 41 a = jwC 33 a' ∧ a < a') : DCQ E Lim stk p s bk i i1 sg W m1' s0 PD (fun b b' _ => b' = b) := fun a a' Z b b' m2 hA hM ha hb => by
  have hEN := hE.1
  obtain ⟨w1, w2⟩ := hP _ _ _ hA
  subst hM
  exact ⟨⟨by omega, Nat.le_refl _, by omega⟩, DCT.jmp hE hi hn w1 ⟨w2, by omega, by omega⟩⟩
theorem dcq_seq (h1 : DCQ E Lim stk p s bk i i1 sg W m1' s0 PD1 PR1) (h2 : DCQ E Lim stk p s bk i1 i2 sg W m1' s0 PD2 PR2) (hi : i ≤ i1 ∧ i1 ≤ i2) (hle2 : ∀ a a' Z, PD2 a a' Z (cA E) → a ≤ a') (hleM : ∀ b b', PR2 b b' (dM E) → b ≤ b') : DCQ E Lim stk p s bk i i2 sg W m1' s0 (fun b b' Z g => ∃ b1, PD1 b b1 Z g ∧ PD2 b1 b' Z g) (fun b b' g => ∃ b1, PR1 b b1 g ∧ PR2 b1 b' g) := fun a a' Z b b' m2 ⟨a1, hA1, hA2⟩ ⟨b1, hM1, hM2⟩ ha hb => by
  have u1 := hle2 _ _ _ hA2
  have u2 := hleM _ _ hM2
  obtain ⟨⟨g1, g2, g3⟩, d1⟩ := h1 _ _ _ _ _ m2 hA1 hM1 (by omega) (by omega)
  obtain ⟨⟨g4, g5, g6⟩, d2⟩ := h2 _ _ _ _ _ m2 hA2 hM2 ha hb
  exact ⟨⟨by omega, by omega, by rw [swN_app hi.1 hi.2]; omega⟩, DCT.seq d1 d2 ⟨g1, g4⟩⟩
/-- bounds -/
theorem bdc_rw : ∀ (xs : List Nat) (i a a' : Nat), bdPc (vM E) (vA E) (eLU E stk) p (eLV E p) K xs a a' (cA E) → rwM (fun x _ a a' => valC (vM E) (vA E) (eLU E stk) p (eLV E p) K x a a' (cA E)) xs i a a' := by
  intro xs
  induction xs with
  | nil => exact fun _ _ _ h => h
  | cons x r ih => exact fun i a a' ⟨b1, h1, h2⟩ => ⟨b1, h1, ih (i + 1) _ _ h2⟩
theorem bdm_rw : ∀ (xs : List Nat) (i b b' : Nat), bdP (vM E) (eLU E stk) p (eLV E p) K xs b b' (dM E) → rwM (fun x _ b b' => mbP (vM E) (eLU E stk) p (eLV E p) K x b b' (dM E)) xs i b b' := by
  intro xs
  induction xs with
  | nil => exact fun _ _ _ h => h
  | cons x r ih => exact fun i b b' ⟨b1, h1, h2⟩ => ⟨b1, h1, ih (i + 1) _ _ h2⟩
theorem rwM_leq {V : Nat → Nat → Nat → Nat → Prop} : ∀ (xs : List Nat) (i b b' : Nat), (∀ x ∈ xs, ∀ i b b', V x i b b' → b ≤ b') → rwM V xs i b b' → b ≤ b' := by
  intro xs
  induction xs with
  | nil =>
    intro i b b' _ h
    have h : b' = b := h
    omega
  | cons x r ih =>
    intro i b b' hV ⟨b1, h1, h2⟩
    have := hV x List.mem_cons_self _ _ _ h1
    have := ih (i + 1) b1 b' (fun z hz => hV z (List.mem_cons_of_mem _ hz)) h2
    omega
/-- ARRAYS -/
theorem dcq_arr (h : SOK E Lim) (hk : SCE E stk) (hB : BLS E s p bk sg W m1 m1') (hm2 : m1' ≤ s0) {xx : ARE} {xs : List Nat} (e1 : xx.2.1 = y) (e2 : xx.2.2.1 = j) (e3 : xx.2.2.2.1 = nb) (e4 : xx.2.2.2.2.map Prod.fst = xs) (hlen : xs.length = 2 * nb) (hnb : 1 ≤ nb ∧ nb ≤ 3) (hF : bdL (vM E) (eLU E stk) p K xs = []) (hO : ∀ v ∈ xs, ENX E K nx v) (hnx : nx + 6 ≤ 502) (hy : ∀ q, q < j → y + q ∈ eSL E s ∧ gi (vM E) 19 (y + q) = 2 ∧ nd (vM E) 24 (y + q) = nb ∧ y + q < eNo E 5 2) : DCQ E Lim stk p s bk y (y + j) sg W m1' s0 (PARc (vM E) (vA E) (eLU E stk) p (eLV E p) K y j nb xs) (fun b b' g => arP (vM E) (eLU E stk) p (eLV E p) K [xx] b b' g) := fun a a' Z b b' m2 hA hM ha hb => by
  obtain ⟨hE, hS, _⟩ := id h
  obtain ⟨a2, hc, w1, w2, ea⟩ := hA
  obtain ⟨b2, hm, o1, o2, eb⟩ := hM
  have eb : b' = b2 + xx.2.2.1 + 1 := eb
  rw [e4] at hm
  rw [e2, e3] at o1 o2
  rw [e1] at o1
  rw [e2] at eb
  have hFx : ∀ v ∈ xs, mbL (vM E) (eLU E stk) p K v 1 = [] := fun v hv => by
    have : xs.flatMap (fun x => FLX (vM E) (eLU E stk) p K 0 x 0 ++ misT (TYX (vM E) (eLU E stk) K x) 1 (nd (vM E) 12 x)) = [] := hF
    exact List.flatMap_eq_nil_iff.mp this v hv
  have hcr := bdc_rw xs 0 a a2 hc
  have hmr := bdm_rw xs 0 b b2 hm
  have hle : ∀ v ∈ xs, ∀ a a' b b', valC (vM E) (vA E) (eLU E stk) p (eLV E p) K v a a' (cA E) → mbP (vM E) (eLU E stk) p (eLV E p) K v b b' (dM E) → a ≤ a' ∧ b ≤ b' := fun v hv a a' b b' g1 g2 => mb_le h hk g1 g2 (hFx v hv) (hO v hv)
  have hrow : ∀ v ∈ xs, ∀ (iA iM a a' b b' : Nat), valC (vM E) (vA E) (eLU E stk) p (eLV E p) K v a a' (cA E) → mbP (vM E) (eLU E stk) p (eLV E p) K v b b' (dM E) → a ≤ a' ∧ b ≤ b' ∧ (a' < eNo E 5 0 → b' < 60000 → SIV E Lim stk p 1 nx a a' b b') := fun v hv _ _ a a' b b' g1 g2 => by
    obtain ⟨l1, l2⟩ := hle v hv _ _ _ _ g1 g2
    exact ⟨l1, l2, fun q1 q2 => mb_val h hk g1 g2 (hFx v hv) (hO v hv) q1 q2 Lim (Nat.le_refl _)⟩
  have la : a ≤ a2 ∧ b ≤ b2 := by
    have : ∀ (xs' : List Nat) (iA iM a a1 b b1 : Nat), (∀ v ∈ xs', v ∈ xs) → rwM (fun x _ a a' => valC (vM E) (vA E) (eLU E stk) p (eLV E p) K x a a' (cA E)) xs' iA a a1 → rwM (fun x _ b b' => mbP (vM E) (eLU E stk) p (eLV E p) K x b b' (dM E)) xs' iM b b1 → a ≤ a1 ∧ b ≤ b1 := by
      intro xs'
      induction xs' with
      | nil =>
        intro iA iM a a1 b b1 _ g1 g2
        have g1 : a1 = a := g1
        have g2 : b1 = b := g2
        omega
      | cons v r ih =>
        intro iA iM a a1 b b1 hv ⟨a3, g1, g2⟩ ⟨b3, g3, g4⟩
        have := hle v (hv v List.mem_cons_self) _ _ _ _ g1 g3
        have := ih (iA + 1) (iM + 1) _ _ _ _ (fun z hz => hv z (List.mem_cons_of_mem _ hz)) g2 g4
        omega
    exact this xs 0 0 a a2 b b2 (fun v hv => hv) hcr hmr
  subst ea
  subst eb
  have hv : SIG E Lim stk p (fun _ => ROWV (2 * nb)) (2 * nb) (nx + 2 * nb) a a2 b b2 := by
    intro K' A hh sp sc x i wA wM q1 q2 q3 q4 q5 q6 q7 q8 q9 q10 q11
    have := (SIR (Lim := Lim) (stk := stk) (p := p) (M := nx) hE xs 0 0 a a2 b b2 (fun v hv iA iM a a' b b' g1 g2 => hrow v hv iA iM a a' b b' g1 g2) hcr hmr (by omega) (by omega) K' A hh sp sc x i wA wM q1 q2 q3 q4 q5 q6 q7 (by rw [hlen]; omega) q9 q10 (by rw [hlen]; exact q11)).2.2
    exact this
  obtain ⟨kd, m, C, c1, c2, c3, c4, c5, c6, c7, c8, _⟩ := id hS
  refine ⟨⟨by omega, by omega, ?_⟩, DCT.arr hE hB hm2 hnb hv (by omega) (fun q hq => ?_) w2 o2 ⟨la.1, by omega, by omega⟩⟩
  · rw [swN_no (fun n h1 h2 _ => ?_)]
    · omega
    · have := (hy (n - y) (by omega)).2.1
      rw [show y + (n - y) = n by omega] at this
      rw [this]; decide
  · obtain ⟨g1, g2, g3, g4⟩ := hy q hq
    obtain ⟨f1, f2, f3, f4⟩ := c8 (y + q) (by omega) (Or.inr (Or.inl g2))
    refine ⟨g1, g2, g3, ?_, ?_⟩
    · rw [w1 q hq, show y + q + 1 = y + q + 1 from rfl, f3]
    · have := o1 q hq
      rw [f1] at this
      exact this
/-- the reference jumps over switches -/
theorem sw_jms {slu : Nat → Nat → Nat} {sps : Nat → List (Nat × Nat)} {ev sp cp na mt el us : Nat} : ∀ (l : List Nat) (b q b' q' lo hi : Nat) (w : Wd), (∀ i ∈ l, i ∈ eSL E s) → swkP (vM E) slu p (eLV E p) K sps l b q b' q' (dM E) → swD (vM E) l lo hi → b' ≤ 60000 → (∀ i ∈ l, gi (vM E) 19 i = 5 → ∀ b q b' q', PSW (vM E) (slu i) p (eLV E p) K i ((sps i).map Prod.fst) b q b' q' (dM E) → b < b') → MK (dM E) b ev sp cp na mt el us w → b ≤ b' ∧ q' = q ∧ ∃ n y, n ≤ swN E s lo hi ∧ SPS n w y ∧ OFF (fun k j => k = 0 ∧ j = 128) y w ∧ MK (dM E) b' ev sp cp na mt el us y := by
  intro l
  have LE : ∀ (l : List Nat) (b q b' q' : Nat), swkP (vM E) slu p (eLV E p) K sps l b q b' q' (dM E) → (∀ i ∈ l, gi (vM E) 19 i = 5 → ∀ b q b' q', PSW (vM E) (slu i) p (eLV E p) K i ((sps i).map Prod.fst) b q b' q' (dM E) → b < b') → b ≤ b' := by
    intro l
    induction l with
    | nil =>
      intro b q b' q' h _
      have := h.1
      omega
    | cons i r ih =>
      intro b q b' q' h hP
      rcases h with ⟨h5, b1, q1, h1, h2⟩ | ⟨h5, h2⟩
      · have := hP i List.mem_cons_self h5 _ _ _ _ h1
        have := ih _ _ _ _ h2 (fun z hz => hP z (List.mem_cons_of_mem _ hz))
        omega
      · exact ih _ _ _ _ h2 (fun z hz => hP z (List.mem_cons_of_mem _ hz))
  induction l with
  | nil =>
    intro b q b' q' lo hi w hls h hD hb hP M
    obtain ⟨e1, e2⟩ := h
    subst e1
    exact ⟨Nat.le_refl _, e2, 0, w, Nat.zero_le _, rfl, OFF.rf, M⟩
  | cons i r ih =>
    intro b q b' q' lo hi w hls h hD hb hP M
    rcases h with ⟨h5, b1, q1, h1, h2⟩ | ⟨h5, h2⟩
    · obtain ⟨d1, d2, d3⟩ := hD.1 h5
      have l1 := hP i List.mem_cons_self h5 _ _ _ _ h1
      have l2 := LE r _ _ _ _ h2 (fun z hz => hP z (List.mem_cons_of_mem _ hz))
      obtain ⟨y, y1, y2, y3⟩ := jm1 M h1.1 ⟨by omega, by omega⟩
      obtain ⟨g1, g2, n, z, z1, z2, z3, z4⟩ := ih b1 q1 b' q' lo i y (fun z hz => hls z (List.mem_cons_of_mem _ hz)) h2 d3 hb (fun z hz => hP z (List.mem_cons_of_mem _ hz)) y3
      refine ⟨by omega, g2.trans h1.2.1, 1 + n, z, ?_, SPS.tr y1 z2, OFF.tr z3 y2, z4⟩
      have e := swN_app (E := E) (s := s) (i := lo) (i1 := i) (n := hi) d1 (by omega)
      have : 1 ≤ swN E s i hi := by
        have e2 := swN_app (E := E) (s := s) (i := i) (i1 := i + 1) (n := hi) (by omega) (by omega)
        have e3 : swN E s i (i + 1) = swN E s i i + 1 := by
          show swN E s i i + (if i ≤ i ∧ gi (vM E) 19 i = 5 ∧ i ∈ eSL E s then 1 else 0) = _
          rw [if_pos ⟨Nat.le_refl _, h5, hls i List.mem_cons_self⟩]
        omega
      omega
    · exact ih b q b' q' lo hi w (fun z hz => hls z (List.mem_cons_of_mem _ hz)) h2 (hD.2 h5) hb (fun z hz => hP z (List.mem_cons_of_mem _ hz)) M
end NE5
