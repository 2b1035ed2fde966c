/-! BOTH SIDES: the STATEMENTS of a BLOCK, one after the other -/
section JT
variable {kd wr nm : Nat → Nat} {vv : Nat → Int64} {m z : Nat} {gA gM : Wd} {lv : Bool} {sl us B : Nat} {stk obl stkF : List Nat} {prs : PRL} {C TK : Nat → Nat} {SL : Nat → List Nat} {t d b : Nat} {fa : Int32} {wA wM : Wd} {γ α : Type} {wd : γ → Wd} {S : γ → α → Wd → Prop} {P : (Nat → Nat) → Nat → Wd → Wd → Prop}
/-- a TOKEN that may be there, at DEPTH 41 only if it isn't -/
theorem J.take41 (hT : TOKS kd wr nm vv m z gA gM) (hS : STBJ stk prs obl P) (hst : STJ kd wr nm vv m z gA gM lv sl us stk prs C TK SL t d b fa wA wM) (hP : lv = true → P C t wA wM) {c : Nat} (hc : 2 ≤ c ∧ c ≤ 50) (hd : lv = true → d ≤ 40 ∨ kd t ≠ c) (hs1 : sl ≤ 1) {KA : Bool → Wd → Option γ} {KM : Bool → Wd → Option (Option α × Wd)} {x : Int32} (hx : x = Int32.ofNat (kM c))
    (H1 : kd t = c → ∀ uA uM, STJ kd wr nm vv m z gA gM lv 0 us stk prs C TK SL (t + 1) d b fa uA uM → (lv = true → d ≤ 40 ∧ t + 1 ≤ m ∧ P C (t + 1) uA uM) → GLJ kd wr nm z gA gM wd lv stkF fa B (KA true uA) (KM true uM) S)
    (H2 : kd t ≠ c → GLJ kd wr nm z gA gM wd lv stkF fa B (KA false wA) (KM false wM) S) :
    GLJ kd wr nm z gA gM wd lv stkF fa B (lt2 (fX9_take (Int32.ofNat c) wA) KA) (be (fX12_skip x wM) KM) S := by
  by_cases q : kd t = c
  · obtain ⟨hlv, _, hJ⟩ := hst.live (by omega)
    exact J.take hT hS hst hP hc (fun h => (hd h).resolve_right (fun hn => hn q)) hs1 hx (fun h uA uM h1 h2 => H1 h uA uM h1 (fun hl => ⟨(hd hl).resolve_right (fun hn => hn q), h2 hl⟩)) H2
  · rw [a_take_no hst.in1.1 (by omega) q, lt2q]
    refine GLJ.ref (rM' := KM false wM) (fun hl => ?_) (H2 q)
    rw [m_skip_no (hst.jl hl).2.2.1 hx (by omega) q]
    rfl
/-- the reference behind a BLOCK's STATEMENTS -/
def blkE (x7 x12 : Int32) (K : Int32 → Wd → Option (Option α × Wd)) (w2 : Wd) : Option (Option α × Wd) := lt (si w2 0 8 ((gi w2 0 8) - 1)) fun w5 => be (fX12_expect 257 w5) fun _ w10 => lt (si w10 0 29 x7) fun w12 => K x12 w12
theorem m_ex {x : Int32} {w : Wd} {K : Int32 → Wd → Option (Option α × Wd)} {α' : Type} {f : Int32 → Wd → Option (Option α' × Wd)} {g : α' → Wd → Option (Option α × Wd)} (hfg : ∀ x w, be (f x w) g = K x w) : be (bn2 (fX12_kind w) fun x6 w7 => if x6 = x then (be (fX12_taken w7) f) else (bn (fX12_bad w7) fun w13 => some (none, w13))) g = be (fX12_expect x w) K := by
  unfold fX12_expect
  rw [be_bn2, be_bn2]
  refine bn2_cg fun x1 w2 => ?_
  by_cases q : x1 = x
  · rw [if_pos q, if_pos q, be_be, be_be]
    refine be_cg fun y u => ?_
    rw [hfg, be_so]
  · rw [if_neg q, if_neg q]
    rcases fX12_bad w2 with _ | u <;> rfl
theorem m_243 {rm : TX12_block} {k : Int32 → Int32 → Int32 → Int32 → Wd → Option (Option Int32 × Wd)} {a2 a3 a5 a8 : Int32} {w : Wd} {K : Int32 → Wd → Option (Option α × Wd)} : be (fX12_block_243 rm k a2 a3 a5 a8 w) K = be (fX12_skip 59 w) fun x1 w2 => if x1 = true then be (k a2 a3 a5 a8 w2) K else blkE a3 a5 K w2 := by
  unfold fX12_block_243 blkE
  rw [be_be]
  refine be_cg fun x1 w2 => ?_
  cases x1
  · rw [if_neg (by decide), if_neg (by decide), ltq, ltq]
    exact m_ex (fun x w => rfl)
  · rw [if_pos rfl, if_pos rfl]
/-- STATEMENTS so far -/
def STQ (kd : Nat → Nat) (fM : Wd) (W : PSTT) (d : Nat) (stk : List Nat) (p sg : Nat) (r : PRL) (s0 q0 : Nat) (xs : List Nat) (xl : Nat) (C0 : Nat → Nat) (t q : Nat) (C : Nat → Nat) : Prop := ∀ y rest e q' C', (xs ≠ [] → gi fM 11 xl = Int32.ofNat y) → STSX kd fM W d stk p sg r (y :: rest) t e q q' C C' → STSX kd fM W d stk p sg r (xs ++ y :: rest) s0 e q0 q' C0 C'
theorem STQ.nil {fM : Wd} {W : PSTT} {p sg s0 q0 xl : Nat} {r : PRL} {C0 : Nat → Nat} : STQ kd fM W d stk p sg r s0 q0 [] xl C0 s0 q0 C0 := fun _ _ _ _ _ _ h => h
theorem STQ.end {fM : Wd} {W : PSTT} {p sg s0 q0 xl t q y e q' : Nat} {xs : List Nat} {r : PRL} {C0 C C' : Nat → Nat} (h : STQ kd fM W d stk p sg r s0 q0 xs xl C0 t q C) (hx : xs ≠ [] → gi fM 11 xl = Int32.ofNat y) (hw : W d t e y stk ((p, sg, q) :: r) q q' C C') (hy : gi fM 11 y = -1) (hk : kd e ≠ 41) : STSX kd fM W d stk p sg r (xs ++ [y]) s0 e q0 q' C0 C' := h y [] e q' C' hx ⟨hw, hy, hk⟩
theorem STQ.next {fM : Wd} {W : PSTT} {p sg s0 q0 xl t q y e q1 : Nat} {xs : List Nat} {r : PRL} {C0 C C1 : Nat → Nat} (h : STQ kd fM W d stk p sg r s0 q0 xs xl C0 t q C) (hx : xs ≠ [] → gi fM 11 xl = Int32.ofNat y) (hw : W d t e y stk ((p, sg, q) :: r) q q1 C C1) (hk : kd e = 41) : STQ kd fM W d stk p sg r s0 q0 (xs ++ [y]) y C0 (e + 1) q1 C1 := fun y2 rest e2 q2 C2 hx2 hr => by
  have := h y (y2 :: rest) e2 q2 C2 hx ⟨e, q1, C1, hw, hk, hx2 (by simp), hr⟩
  rw [List.append_assoc]
  exact this
theorem a_140 {rc : TX4_block} {n base j : Nat} {a2 a3 a4 : Int32} {w : Wd} {K : Int32 → Wd → Option γ} (h : IN1 kd wr z w t base fa) (hj : j + 1 ≤ 8192) : bn2 (oX4_block_140 rc (n + 1) a2 a3 a4 (Int32.ofNat (j + 1)) w) K = lt2 (fX9_take (Int32.ofNat 41) w) fun c w7 => if c = true then bn2 (bn2 (rc 5 a2 0 0 w7) fun _ w4 => oX4_block_140 rc n a2 a3 a4 (Int32.ofNat (j + 1 + 1)) w4) K else bn2 (fX4_block_176 rc a3 a4 w7) K := by
  show bn2 (fX4_block_140 rc (oX4_block_140 rc n) a2 a3 a4 (Int32.ofNat (j + 1)) w) K = _
  unfold fX4_block_140
  rw [if_neg (show ¬ ((8193 : Int32) ≤ Int32.ofNat (j + 1)) from nle_iN (a := 8193) (by omega) (by omega)), if_neg (show ¬ (Int32.ofNat (j + 1) = 0) from fun h => absurd ((eq_iN (a := j + 1) (b := 0) (by omega) (by omega)).mp h) (by omega)), show (41 : Int32) = Int32.ofNat 41 from rfl]
  rcases fX9_take (Int32.ofNat 41) w with ⟨_ | _, u⟩
  · rw [lt2q, lt2q, if_neg (show ¬ (false = true) by decide), if_neg (show ¬ (false = true) by decide)]
  · rw [lt2q, lt2q, if_pos rfl, if_pos rfl, ad1_iN (j + 1)]
    rfl
theorem sts_loop (hT : TOKS kd wr nm vv m z gA gM) {β t0 q0 s p sg bk : Nat} {r : PRL} {C0 : Nat → Nat} {KA : Int32 → Wd → Option γ} {KM : Int32 → Wd → Option (Option α × Wd)} {rc : TX4_block} {rm : TX12_block} {W : Wd → Wd → PSTT} {x12 a3 a4 v40 v33 : Int32}
    (hD : SPC kd wr nm vv m z gA gM (fun w => rc 5 (Int32.ofNat d) 0 0 w) (fun w => rm 4 0 0 0 w) true (fun _ _ => True) d β (fun fA fM => W fA fM d)) (hdz : ∀ w fa, IN1 kd wr z w (z - 1) 0 fa → rc 5 (Int32.ofNat d) 0 0 w = some (0, w)) (hW5 : ∀ fA fM s e n stk prs q q' C C', d = 41 → kd s = 5 → W fA fM d s e n stk prs q q' C C' → e = s) (hd41 : d ≤ 41) (hb : 2800 ≤ b) (hB : b + β ≤ 3900) (hbk : bk < 9000) (hbo : bk ∈ obl) (hS : ∀ sg q, STBJ (s :: stk) ((p, sg, q) :: r) obl P) (hP11 : ∀ C t a c xl x, C0 0 ≤ xl → P C t a c → P C t a (si c 11 xl x))
    (HX : ∀ lv' t' fa' uA uM C' TK' SL' q' xs, STJ kd wr nm vv m z gA gM lv' 0 (C' 1) (s :: stk) ((p, sg, q') :: r) C' TK' SL' t' d (b + β) fa' uA uM → (lv' = true → (d ≤ 40 ∨ kd t' = 5) ∧ t0 ≤ t' ∧ t' ≤ m ∧ LEC C0 C' ∧ C' 0 + 2 * t0 ≤ C0 0 + 2 * t' + 1 ∧ C' 6 + C0 4 = C' 4 + C0 6 ∧ P C' t' uA uM ∧ gi uM 40 bk = v40 ∧ gi uM 39 bk = Int32.ofNat (xs.headD 0) ∧ gi uA 33 (s + 1) = v33 ∧ FACT (s :: stk) ((p, sg, q') :: r) obl (C0 0) C' t' (C' 0) (fun fA fM => STSX kd fM (W fA fM) d (s :: stk) p sg r xs t0 t' q0 q' C0 C') uA uM) → (lv' = false → t' = z - 1) → GLJ kd wr nm z gA gM wd lv' stkF fa' B (bn2 (fX4_block_176 rc a3 a4 uA) KA) (blkE (hdM stk) x12 KM uM) S)
    {fo fm : Nat} : ∀ (n : Nat) (lv : Bool) (C TK : Nat → Nat) (SL : Nat → List Nat) (t : Nat) (fa : Int32) (wA wM : Wd) (q : Nat) (xs : List Nat) (xl j : Nat) (a7 : Int32), z ≤ t + n → j + 1 ≤ t → STJ kd wr nm vv m z gA gM lv 0 (C 1) (s :: stk) ((p, sg, q) :: r) C TK SL t d (b + β) fa wA wM → (xs = [] → a7 = -1) → (xs ≠ [] → a7 = Int32.ofNat xl) →
      (lv = true → ((d ≤ 40 ∨ kd t = 5) ∧ OBK d r C obl) ∧ t0 ≤ t ∧ LEC C0 C ∧ C 0 + 2 * t0 ≤ C0 0 + 2 * t ∧ C0 0 ≤ 2 * t0 + 98 ∧ C 6 + C0 4 = C 4 + C0 6 ∧ bk < C 3 ∧ s < C 2 ∧ (xs ≠ [] → xl < C 0 ∧ C0 0 ≤ xl) ∧ P C t wA wM ∧ gi wM 40 bk = v40 ∧ (xs ≠ [] → gi wM 39 bk = Int32.ofNat (xs.headD 0)) ∧ gi wA 33 (s + 1) = v33 ∧ FACT (s :: stk) ((p, sg, q) :: r) obl (C0 0) C t xl (fun fA fM => STQ kd fM (W fA fM) d (s :: stk) p sg r t0 q0 xs xl C0 t q C) wA wM) → (lv = false → t = z - 1) →
      GLJ kd wr nm z gA gM wd lv stkF fa B (bn2 (bn2 (rc 5 (Int32.ofNat d) 0 0 wA) fun _ w4 => oX4_block_140 rc (fo + n + 1) (Int32.ofNat d) a3 a4 (Int32.ofNat (j + 1)) w4) KA) (be (fX12_block_212 rm (oX12_block_212 rm (fm + n)) (Int32.ofNat bk) (hdM stk) x12 a7 wM) KM) S := by
  intro n
  induction n with
  | zero =>
    intro lv C TK SL t fa wA wM q xs xl j a7 hz hj hst
    have := hst.in1.tz
    omega
  | succ n ih =>
    intro lv C TK SL t fa wA wM q xs xl j a7 hz hj hst ha0 ha1 hl hdd
    have hin := hst.in1
    have htz := hin.tz
    have hz9 := hin.z9
    cases lv
    · have ht := hdd rfl
      rw [ht] at hin
      rw [hdz _ _ hin, bn2_so, show fo + (n + 1) + 1 = (fo + n + 1) + 1 by omega, a_140 hin (by omega), a_take_no hin.1 (by omega) (by have := hin.1.2.2.2.1 (z - 1) (by omega); omega), lt2q, if_neg (show ¬ (false = true) by decide)]
      refine GLJ.ref (rM' := blkE (hdM stk) x12 KM wM) (fun h => absurd h (by decide)) ?_
      exact HX false t fa wA wM C TK SL q [] hst (fun h => absurd h (by decide)) hdd
    · obtain ⟨⟨y0, yob⟩, y1, y2, y3, y3', y4, y6, y6', y7, y8, y9, y10, y10', y11⟩ := hl rfl
      have hJ := (hst.jl rfl).2
      unfold fX12_block_212
      rw [bn2_bn2, be_be]
      refine SPC.go (P := fun C' t' a c => P C' t' a c ∧ PFA (s :: stk) ((p, sg, q) :: r) obl (C0 0) C t xl (fun fA fM => STQ kd fM (W fA fM) d (s :: stk) p sg r t0 q0 xs xl C0 t q C) C' t' a c) (rA := fun w => rc 5 (Int32.ofNat d) 0 0 w) (rM := fun w => rm 4 0 0 0 w) hD (fun _ => by simp) (STBJ.and (hS sg q) PFA.stb) (hst.bw (b' := b) (Or.inr rfl)) (fun _ => ⟨y8, LEC.rf, Nat.le_refl _, y11⟩) (fun _ => ⟨trivial, by omega, y0, yob⟩) hb hB (fun lv1 x t1 fa1 uA uM y C1 TK1 SL1 q1 hst1 hl1 hd1 => ?_)
      have hin1 := hst1.in1
      rw [show fo + (n + 1) + 1 = (fo + n + 1) + 1 by omega, a_140 hin1 (by omega)]
      cases lv1
      · have ht1 := hd1 rfl
        rw [a_take_no hin1.1 (by omega) (by rw [ht1]; have := hin1.1.2.2.2.1 (z - 1) (by omega); omega), lt2q, if_neg (show ¬ (false = true) by decide)]
        refine GLJ.ref (rM' := blkE (hdM stk) x12 KM uM) (fun h => absurd h (by decide)) ?_
        exact HX false t1 fa1 uA uM C1 TK1 SL1 q1 [] hst1 (fun h => absurd h (by decide)) hd1
      · obtain ⟨w0, _, w1, w2, w3, w4, w5, w6, w7, w8, w9, w10⟩ := hl1 rfl
        have hJ1 := (hst1.jl rfl).2
        have h0 := w3 0
        have hy24 : y < 24000 := by have := hJ1.2.2.2.2.2.1.1; have := hJ1.2.2.1; have := hJ1.2.1.1.1; have := hJ1.2.1.2.1; omega
        have hd1' : d ≤ 40 ∨ kd t1 = 5 := by
          rcases y0 with y0 | y0
          · exact Or.inl y0
          · by_cases q40 : d ≤ 40
            · exact Or.inl q40
            · have := hW5 uA uM t t1 y _ _ _ _ _ _ (by omega) y0 w10.now
              rw [this]
              exact Or.inr y0
        have o40 : gi uM 40 bk = v40 := (w0.2 40 bk (Or.inr (Or.inr (Or.inr (Or.inr (Or.inr (Or.inr (Or.inl ⟨Or.inr rfl, y6, by simp⟩)))))))).1.trans y9
        have o39 : xs ≠ [] → gi uM 39 bk = Int32.ofNat (xs.headD 0) := fun h => (w0.2 39 bk (Or.inr (Or.inr (Or.inr (Or.inr (Or.inr (Or.inr (Or.inl ⟨Or.inl rfl, y6, by simp⟩)))))))).1.trans (y10 h)
        have o33 : gi uA 33 (s + 1) = v33 := (w0.1 33 (s + 1) (Or.inr (Or.inr (Or.inr (Or.inr (Or.inr (Or.inr ⟨rfl, by omega, by simp⟩))))))).trans y10'
        have hhd : (xs ++ [y]).headD 0 = if xs = [] then y else xs.headD 0 := by
          cases xs with
          | nil => rfl
          | cons a r => rfl
        have hgo : ∀ yM : Wd, STJ kd wr nm vv m z gA gM true 0 (C1 1) (s :: stk) ((p, sg, q1) :: r) C1 TK1 SL1 t1 d (b + β) fa1 uA yM → P C1 t1 uA yM → OFF (fun k j => (k = 11 ∧ j = xl ∧ xs ≠ []) ∨ (k = 39 ∧ j = bk)) yM uM → (xs ≠ [] → gi yM 11 xl = Int32.ofNat y) → gi yM 39 bk = Int32.ofNat ((xs ++ [y]).headD 0) → GLJ kd wr nm z gA gM wd true stkF fa1 B (lt2 (fX9_take (Int32.ofNat 41) uA) fun c w7 => if c = true then bn2 (bn2 (rc 5 (Int32.ofNat d) 0 0 w7) fun _ w4 => oX4_block_140 rc (fo + n + 1) (Int32.ofNat d) a3 a4 (Int32.ofNat (j + 1 + 1)) w4) KA else bn2 (fX4_block_176 rc a3 a4 w7) KA) (be (fX12_block_243 rm (oX12_block_212 rm (fm + (n + 1))) (Int32.ofNat bk) (hdM stk) x12 (Int32.ofNat y) yM) KM) S := by
          intro yM hsy hPy hO hset h39
          rw [m_243]
          have h40y : gi yM 40 bk = v40 := (hO 40 bk (by omega)).1.trans o40
          have h11 : gi yM 11 y = -1 := (hO 11 y (fun hq => by
            rcases hq with hq | hq
            · have := y7 hq.2.2; omega
            · omega)).1.trans w7
          have hF : FACT (s :: stk) ((p, sg, q1) :: r) obl (C0 0) C1 t1 y (fun fA fM => STQ kd fM (W fA fM) d (s :: stk) p sg r t0 q0 xs xl C0 t q C ∧ W fA fM d t t1 y (s :: stk) ((p, sg, q) :: r) q q1 C C1 ∧ (xs ≠ [] → gi fM 11 xl = Int32.ofNat y)) uA yM := fun fA fM hA hM hE => by
            refine ⟨w6.2.2.2 fA fM (EXTA.wk hA w3 (by omega) (fun _ h _ => h)) (fun k j hk => ?_) ((EXF.off hO (fun k j hk => by omega)).tr hE), w10 fA fM hA (fun k j hk => ?_) ((EXF.off hO (fun k j hk => by omega)).tr hE), fun h => ?_⟩
            · have hk' := ((hM.wk (lo := C0 0) (C := C) (pd := xl) (Nat.le_refl _) w3 (Or.inr (Or.inl (by omega)))).ctx (fun _ h _ => h) (fun y hy _ => pr_same y hy) (fun _ h _ => h) : EXTL (C0 0) C (s :: stk) ((p, sg, q) :: r) obl xl yM fM) k j hk
              have h2 := hO k j (fun hq => by
                rcases hq with hq | hq
                · rcases hk with hk | hk | hk | hk | hk | hk | hk | hk | hk <;> omega
                · rcases hk with hk | hk | hk | hk | hk | hk | hk | hk | hk <;> first | omega | exact hk.2.2 (by rw [hq.2]; exact hbo))
              exact ⟨hk'.1.trans h2.1, hk'.2.trans h2.2⟩
            · have hk' := (hM.wk (lo := C 0) (C := C1) (pd := y) (y2 0) LEC.rf (Or.inl rfl)) k j hk
              have h2 := hO k j (fun hq => by
                rcases hq with hq | hq
                · have := y7 hq.2.2
                  rcases hk with hk | hk | hk | hk | hk | hk | hk | hk | hk <;> omega
                · rcases hk with hk | hk | hk | hk | hk | hk | hk | hk | hk <;> first | omega | exact hk.2.2 (by rw [hq.2]; exact hbo))
              exact ⟨hk'.1.trans h2.1, hk'.2.trans h2.2⟩
            · rw [(hM 11 xl (Or.inr (Or.inl ⟨rfl, (y7 h).2, by have := y7 h; omega, by have := y7 h; omega⟩))).1]
              exact hset h
          refine J.take41 (c := 41) (obl := []) (P := fun C' t' a c => P C' t' a c ∧ PFA (s :: stk) ((p, sg, q1) :: r) obl (C0 0) C1 t1 y (fun fA fM => STQ kd fM (W fA fM) d (s :: stk) p sg r t0 q0 xs xl C0 t q C ∧ W fA fM d t t1 y (s :: stk) ((p, sg, q) :: r) q q1 C C1 ∧ (xs ≠ [] → gi fM 11 xl = Int32.ofNat y)) C' t' a c ∧ PF C1 t1 (s :: stk) ((p, sg, q1) :: r) [] uA yM C' t' a c) hT (STBJ.and (hS sg q1).ob (STBJ.and PFA.ob PF.st0)) hsy (fun _ => ⟨hPy, ⟨LEC.rf, Nat.le_refl _, hF⟩, STEP.rf⟩) (by omega) (fun _ => by
            rcases hd1' with h | h
            · exact Or.inl h
            · exact Or.inr (by omega)) (by omega) rfl (fun h41 sA sM hst3 hl3 => ?_) (fun h41 => ?_)
          · obtain ⟨k0, k1, k2, k3, k4⟩ := hl3 rfl
            rw [if_pos rfl, if_pos rfl]
            have e3 : ∀ a2 a3 a5 a7 w, oX12_block_212 rm (fm + (n + 1)) a2 a3 a5 a7 w = fX12_block_212 rm (oX12_block_212 rm (fm + n)) a2 a3 a5 a7 w := fun _ _ _ _ _ => rfl
            rw [e3]
            have hb3 : bk < C1 3 := by have := w3 3; omega
            refine ih true C1 TK1 SL1 (t1 + 1) fa1 sA sM q1 (xs ++ [y]) y (j + 1) (Int32.ofNat y) (by omega) (by omega) hst3 (fun h => absurd h (by simp)) (fun _ => rfl) (fun _ => ⟨⟨Or.inl k0, yob.le w3⟩, by omega, y2.tr w3, by omega, y3', by omega, hb3, by have := w3 2; omega, fun _ => ⟨w8, by have := y2 0; omega⟩, k2, ?_, fun _ => ?_, ?_, ?_⟩) (fun h => absurd h (by decide))
            · exact (k4.2.2.2.1 40 bk (Or.inr (Or.inr (Or.inr (Or.inr (Or.inr (Or.inr (Or.inl ⟨Or.inr rfl, hb3, by simp⟩)))))))).1.trans h40y
            · exact (k4.2.2.2.1 39 bk (Or.inr (Or.inr (Or.inr (Or.inr (Or.inr (Or.inr (Or.inl ⟨Or.inl rfl, hb3, by simp⟩)))))))).1.trans h39
            · exact (k4.2.2.1 33 (s + 1) (Or.inr (Or.inr (Or.inr (Or.inr (Or.inr (Or.inr ⟨rfl, by have := w3 2; omega, by simp⟩))))))).trans o33
            · exact (k3.2.2.wk (Nat.le_refl _) LEC.rf (by omega) (Or.inl rfl) (fun _ h _ => h) (fun y hy _ => ⟨y, hy, rfl⟩) (fun _ h _ => h)).imp (fun fA fM hh => hh.1.next hh.2.2 hh.2.1 h41)
          · rw [if_neg (show ¬ (false = true) by decide), if_neg (show ¬ (false = true) by decide)]
            refine HX true t1 fa1 uA yM C1 TK1 SL1 q1 (xs ++ [y]) hsy (fun _ => ⟨hd1', by omega, w2, y2.tr w3, by omega, by omega, hPy, h40y, h39, o33, ?_⟩) (fun h => absurd h (by decide))
            have h1 : FACT (s :: stk) ((p, sg, q1) :: r) obl (C0 0) C1 t1 (C1 0) (fun _ fM => gi fM 11 y = -1) uA yM := fun fA fM hA hM hE => (hM 11 y (Or.inr (Or.inl ⟨rfl, by have := y2 0; omega, w8, by omega⟩))).1.trans h11
            have h2 := hF.wk (lo' := C0 0) (Cf' := C1) (tf' := t1) (pd' := C1 0) (stk' := s :: stk) (prs' := (p, sg, q1) :: r) (obl' := obl) (Nat.le_refl _) LEC.rf (Nat.le_refl _) (Or.inr (Or.inl (Nat.le_refl _))) (fun _ h _ => h) (fun y hy _ => ⟨y, hy, rfl⟩) (fun _ h _ => h)
            exact (h2.and h1).imp (fun fA fM hh => hh.1.1.end hh.1.2.2 hh.1.2.1 hh.2 h41)
        by_cases q : xs = []
        · rw [ha0 q, if_neg (show ¬ ((0 : Int32) ≤ -1) by decide), if_pos (inb_iN hbk (by omega)), tc_iN (by omega)]
          have hO9 : OFF (fun k j => k = 39 ∧ j = bk) (si uM 39 bk (Int32.ofNat y)) uM := OFF.si ⟨rfl, rfl⟩
          refine hgo (si uM 39 bk (Int32.ofNat y)) (hst1.setB (fun _ => hO9.mono fun k j hk => by omega)) ?_ (hO9.mono fun k j hk => Or.inr hk) (fun h => absurd q h) (by rw [hhd, if_pos q]; exact gi_si0 _ _ _ _)
          exact hS sg q1 _ _ _ _ _ _ _ _ w6.1 ⟨LEC.rf, Nat.le_refl _, EXTA.rf, fun k j hk => hO9 k j (fun hq => by rcases hk with hk | hk | hk | hk | hk | hk | hk | hk | hk <;> first | omega | exact hk.2.2 (by rw [hq.2]; exact hbo)), EXF.off hO9 (fun k j hk => by omega)⟩
        · have hxl := y7 q
          rw [ha1 q, if_pos (zl_iN (by omega)), if_pos (inb_iN (by omega) (by omega)), tc_iN (by omega)]
          have hO1 : OFF (fun k j => k = 11 ∧ j = xl) (si uM 11 xl (Int32.ofNat y)) uM := OFF.si ⟨rfl, rfl⟩
          have hse : ∀ f : Wd → Option (Option Int32 × Wd), be (lt (si uM 11 xl (Int32.ofNat y)) f) KM = lt (si uM 11 xl (Int32.ofNat y)) fun w => be (f w) KM := fun _ => rfl
          rw [hse]
          refine J.setM (obl := []) (P := fun _ _ _ _ => True) hT (fun _ _ _ _ _ _ _ _ _ _ => trivial) hst1 (fun _ => trivial) (fun _ => Or.inr (Or.inr (Or.inr rfl))) (fun _ => trivial) (fun hst3 => ?_)
          refine hgo (si uM 11 xl (Int32.ofNat y)) hst3 (hP11 _ _ _ _ _ _ hxl.2 w6.1) (hO1.mono fun k j hk => Or.inl ⟨hk.1, hk.2, q⟩) (fun _ => gi_si0 _ _ _ _) ?_
          rw [gi_si1 (by omega), hhd, if_neg q]
          exact o39 q
end JT
