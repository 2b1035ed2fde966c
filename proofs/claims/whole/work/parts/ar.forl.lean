/-! BOTH SIDES: the elements of a for, one after the other -/
section JT
variable {kd wr nm : Nat → Nat} {vv : Nat → Int64} {m z : Nat} {gA gM : Wd} {lv : Bool} {sl us B : Nat} {stk obl stkF : List Nat} {prs : PRL} {C TK : Nat → Nat} {SL : Nat → List Nat} {t d b : Nat} {fa : Int32} {wA wM : Wd} {γ α : Type} {wd : γ → Wd} {S : γ → α → Wd → Prop} {P : (Nat → Nat) → Nat → Wd → Wd → Prop}
theorem be_cg {β : Type} {a : Option (Option β × Wd)} {f g : β → Wd → Option (Option α × Wd)} (h : ∀ x w, f x w = g x w) : be a f = be a g := by
  have e : f = g := by
    funext x w
    exact h x w
  rw [e]
theorem bn2_cg {β δ : Type} {a : Option (β × Wd)} {f g : β → Wd → Option δ} (h : ∀ x w, f x w = g x w) : bn2 a f = bn2 a g := by
  have e : f = g := by
    funext x w
    exact h x w
  rw [e]
theorem bn_cg {δ : Type} {a : Option Wd} {f g : Wd → Option δ} (h : ∀ w, f w = g w) : bn a f = bn a g := by
  have e : f = g := by
    funext w
    exact h w
  rw [e]
theorem lp_120 {rc : TX4_block} {k : Int32 → Int32 → Int32 → Int32 → Int32 → Wd → Option (Int32 × Wd)} {a2 a3 a6 a7 a8 : Int32} {w : Wd} {K : Int32 → Wd → Option γ} : bn2 (fX4_loop_120 rc k a2 a3 a6 a7 a8 w) K = bn2 (fX4_element a2 (a3 + 1) a6 a7 w) fun x1 w2 => bn2 (k a2 a3 a6 x1 (a8 + 1) w2) K := by
  unfold fX4_loop_120
  rw [bn2_bn2]
  rfl
theorem lp_34 {rm : TX12_block} {k : Int32 → Int32 → Int32 → Int32 → Wd → Option (Option Int32 × Wd)} {a1 a2 a4 a5 : Int32} {w : Wd} {K : Int32 → Wd → Option (Option α × Wd)} : be (fX12_loop_34 rm k a1 a2 a4 a5 w) K = be (RX12_variable 900 4 0 0 0 w) fun x1 w2 => be (fX12_skip 272 w2) fun x4 w5 => if x4 = true then (be (RX12_variable 900 4 0 0 0 w5) fun x8 w9 => be (fX12_expect 273 w9) fun _ w12 => be (RX12_variable 900 4 0 0 0 w12) fun x14 w15 => bn2 (fX12_node 31 x1 x8 x14 a1 w15) fun y w => be (fX12_loop_134 rm k a1 a2 a4 a5 y w) K) else (be (fX12_skip 274 w5) fun x19 w20 => if x19 = true then (be (RX12_variable 900 4 0 0 0 w20) fun x23 w24 => bn2 (fX12_node 32 x1 x23 0 a1 w24) fun y w => be (fX12_loop_134 rm k a1 a2 a4 a5 y w) K) else (bn2 (fX12_node 30 x1 0 0 a1 w20) fun y w => be (fX12_loop_134 rm k a1 a2 a4 a5 y w) K)) := by
  unfold fX12_loop_34
  rw [be_be]
  refine be_cg fun x1 w2 => ?_
  rw [be_be]
  refine be_cg fun x4 w5 => ?_
  cases x4
  · rw [if_neg (by decide), if_neg (by decide), be_be]
    refine be_cg fun x19 w20 => ?_
    cases x19
    · rw [if_neg (by decide), if_neg (by decide), be_bn2]
    · rw [if_pos rfl, if_pos rfl, be_be]
      refine be_cg fun x23 w24 => ?_
      rw [be_bn2]
  · rw [if_pos rfl, if_pos rfl, be_be]
    refine be_cg fun x8 w9 => ?_
    rw [be_be]
    refine be_cg fun _ w12 => ?_
    rw [be_be]
    refine be_cg fun x14 w15 => ?_
    rw [be_bn2]
/-- what follows the elements, of the reference -/
def lpK (rm : TX12_block) (a1 a2 a4 : Int32) (K : Int32 → Wd → Option (Option α × Wd)) (w2 : Wd) : Option (Option α × Wd) := be (fX12_expect 271 w2) fun _ w6 => be (rm 3 0 0 0 w6) fun x8 w9 => lt (si w9 0 8 ((gi w9 0 8) - 1)) fun w11 => bn2 (fX12_node 26 a2 a4 x8 a1 w11) K
theorem lp_155 {rm : TX12_block} {k : Int32 → Int32 → Int32 → Int32 → Wd → Option (Option Int32 × Wd)} {a1 a2 a4 a7 : Int32} {w : Wd} {K : Int32 → Wd → Option (Option α × Wd)} : be (fX12_loop_155 rm k a1 a2 a4 a7 w) K = be (fX12_skip 44 w) fun x1 w2 => if x1 = true then be (k a1 a2 a4 a7 w2) K else lpK rm a1 a2 a4 K w2 := by
  unfold fX12_loop_155 lpK
  rw [be_be]
  refine be_cg fun x1 w2 => ?_
  cases x1
  · rw [if_neg (by decide), if_neg (by decide), be_be]
    refine be_cg fun _ w6 => ?_
    rw [be_be]
    refine be_cg fun x8 w9 => ?_
    rw [ltq, ltq, m_some (x := 0) (w := si w9 0 8 (gi w9 0 8 - 1)) (f := fun w => fX12_node 26 a2 a4 x8 a1 w)]
  · rw [if_pos rfl, if_pos rfl]
theorem for_loop (hT : TOKS kd wr nm vv m z gA gM) {t0 lo0 s0 tk us : Nat} {C0 : Nat → Nat} {wA0 wM0 : Wd} {KA : Int32 → Wd → Option γ} {KM : Int32 → Wd → Option (Option α × Wd)} {rc : TX4_block} {rm : TX12_block} {x2 x3 a6 : Int32}
    {Q : Prop} (hd41 : d ≤ 41) (hb : 2800 ≤ b) (hlo0 : C0 0 ≤ lo0)
    (HX : ∀ lv' t' fa' uA uM C' a7 xs, STJ kd wr nm vv m z gA gM lv' 0 us stk prs C' TK SL t' d b fa' uA uM → (lv' = true → Q ∧ t0 < t' ∧ t' ≤ m ∧ xs ≠ [] ∧ C' 0 + 2 * t0 ≤ C0 0 + 2 * t' ∧ lo0 ≤ C' 0 ∧ (∀ i, i ≠ 0 → C' i = C0 i) ∧ STEP C0 t0 stk prs obl wA0 wM0 C' t' uA uM ∧ FACT stk prs obl lo0 C' t' (C' 0) (fun fA fM => CHNW kd fM 40 (ELT kd fA fM (hdM stk) d tk) xs lo0 s0 t' (C' 0)) uA uM) → (lv' = false → t' = z - 1) → GLJ kd wr nm z gA gM wd lv' stkF fa' B (bn2 (fX4_loop_140 rc (Int32.ofNat d) a6 a7 uA) KA) (lpK rm (Int32.ofNat tk) x2 (Int32.ofNat (xs.headD 0)) KM uM) S)
    {fo fm : Nat} : ∀ (n : Nat) (lv : Bool) (C : Nat → Nat) (t : Nat) (fa : Int32) (wA wM : Wd) (a7 a4 a5 : Int32) (xs : List Nat) (xl : Nat), z ≤ t + n → xs.length + 1 ≤ t → STJ kd wr nm vv m z gA gM lv 0 us stk prs C TK SL t d b fa wA wM → (lv = true → d ≤ 40) → (xs = [] → a4 = -1) → (xs ≠ [] → a4 = Int32.ofNat (xs.headD 0) ∧ a5 = Int32.ofNat xl ∧ xs.headD 0 ≤ xl) →
      (lv = true → (Q ∧ t0 ≤ t ∧ C0 0 ≤ 2 * t0 + 98) ∧ C 0 + 2 * t0 ≤ C0 0 + 2 * t ∧ lo0 ≤ C 0 ∧ (xs ≠ [] → lo0 ≤ xl ∧ xl < C 0) ∧ (∀ i, i ≠ 0 → C i = C0 i) ∧ STEP C0 t0 stk prs obl wA0 wM0 C t wA wM ∧ FACT stk prs obl lo0 C t xl (fun fA fM => CHK kd 40 (ELT kd fA fM (hdM stk) d tk) lo0 s0 xs xl (C 0) t fM) wA wM) →
      GLJ kd wr nm z gA gM wd lv stkF fa B (bn2 (fX4_loop_120 rc (oX4_loop_95 rc (fo + n + 1)) (Int32.ofNat d) x3 a6 a7 (Int32.ofNat xs.length) wA) KA) (be (fX12_loop_34 rm (oX12_loop_34 rm (fm + n)) (Int32.ofNat tk) x2 a4 a5 wM) KM) S := by
  intro n
  induction n with
  | zero =>
    intro lv C t fa wA wM a7 a4 a5 xs xl hz hj hst
    have := hst.in1.tz
    omega
  | succ n ih =>
    intro lv C t fa wA wM a7 a4 a5 xs xl hz hj hst hd40 ha0 ha1 hl
    have hin := hst.in1
    have htz := hin.tz
    have hz9 := hin.z9
    rw [lp_120, lp_34]
    have hPFs : STBJ stk prs obl (PF C0 t0 stk prs obl wA0 wM0) := PF.stb (fun _ h _ => h) (fun y hy _ => ⟨y, hy, rfl⟩) (fun _ h _ => h)
    refine J.elem (P := fun C' t' a c => lv = true → PF C0 t0 stk prs obl wA0 wM0 C' t' a c ∧ PFA stk prs obl lo0 C t xl (fun fA fM => CHK kd 40 (ELT kd fA fM (hdM stk) d tk) lo0 s0 xs xl (C 0) t fM) C' t' a c) hT (STBJ.if fun _ => STBJ.and hPFs PFA.stb) hst (fun h _ => ⟨(hl h).2.2.2.2.2.1, LEC.rf, Nat.le_refl _, (hl h).2.2.2.2.2.2⟩) ⟨by omega, hd40⟩ hb (fun h => by have := hl h; omega) (fun lv1 x t2 fa2 vA vM y hst1 hl1 hd1 => ?_)
    have e2 : ∀ (a7 a8 : Int32) (w : Wd), oX4_loop_95 rc (fo + (n + 1) + 1) (Int32.ofNat d) x3 a6 a7 a8 w = fX4_loop_95 rc (oX4_loop_95 rc (fo + n + 1)) (Int32.ofNat d) x3 a6 a7 a8 w := fun _ _ _ => rfl
    rw [ad1_iN xs.length, e2]
    unfold fX4_loop_95
    rw [if_neg (show ¬ ((8193 : Int32) ≤ Int32.ofNat (xs.length + 1)) from nle_iN (a := 8193) (by omega) (by omega)), if_neg (show ¬ (Int32.ofNat (xs.length + 1) = 0) from fun h => absurd ((eq_iN (a := xs.length + 1) (b := 0) (by omega) (by omega)).mp h) (by omega))]
    have hbr : ∀ (p : Bool × Wd) (f g : Wd → Option (Int32 × Wd)), bn2 (lt2 p fun x3 w4 => if x3 = true then f w4 else g w4) KA = lt2 p fun x3 w4 => if x3 = true then bn2 (f w4) KA else bn2 (g w4) KA := fun p f g => by
      rcases p with ⟨_ | _, w⟩ <;> rfl
    have hin2 := hst1.in1
    rw [show (40 : Int32) = Int32.ofNat 40 from rfl, hbr]
    cases lv1
    · -- the class alone
      have ht2 := hd1 rfl
      refine GLJ.ref (rM' := lpK rm (Int32.ofNat tk) x2 (Int32.ofNat ((xs ++ [y]).headD 0)) KM vM) (fun h => absurd h (by decide)) ?_
      rw [a_take_no hin2.1 (by omega) (by rw [ht2]; have := hin2.1.2.2.2.1 (z - 1) (by omega); omega), lt2q, if_neg (show ¬ (false = true) by decide)]
      exact HX false t2 fa2 vA vM _ x (xs ++ [y]) hst1 (fun h => absurd h (by decide)) hd1
    · obtain ⟨w1, w2, w3, w4, w5, w6, w7, w8⟩ := hl1 rfl
      obtain ⟨u1, u2⟩ := w6 w1
      obtain ⟨y1, y2, y3, y4, y5, y6, y7⟩ := hl w1
      have hJ2 := (hst1.jl rfl).2
      have hC1s : (upC C 0 (y + 1)) 0 = y + 1 := upC_s
      have hC1n : ∀ i, i ≠ 0 → (upC C 0 (y + 1)) i = C0 i := fun i i0 => by rw [upC_n i0, y5 i i0]
      have hhd : (xs ++ [y]).headD 0 = if xs = [] then y else xs.headD 0 := by
        cases xs with
        | nil => rfl
        | cons a r => rfl
      have hy24 : y < 24000 := by have := hJ2.2.2.2.2.2.1.1; have := hJ2.2.1.1.1; rw [upC_s] at *; omega
      have hLC : LEC C (upC C 0 (y + 1)) := upC_le (by omega)
      have hgo : ∀ wM', STJ kd wr nm vv m z gA gM true 0 us stk prs (upC C 0 (y + 1)) TK SL t2 d b fa2 vA wM' → OFF (fun k j => xs ≠ [] ∧ k = 11 ∧ j = xl) wM' vM → (xs ≠ [] → gi wM' 11 xl = Int32.ofNat y) → GLJ kd wr nm z gA gM wd true stkF fa2 B (lt2 (fX9_take (Int32.ofNat 40) vA) fun x3' w4 => if x3' = true then bn2 (fX4_loop_120 rc (oX4_loop_95 rc (fo + n + 1)) (Int32.ofNat d) x3 a6 x (Int32.ofNat (xs.length + 1)) w4) KA else bn2 (fX4_loop_140 rc (Int32.ofNat d) a6 x w4) KA) (be (fX12_loop_155 rm (oX12_loop_34 rm (fm + (n + 1))) (Int32.ofNat tk) x2 (Int32.ofNat ((xs ++ [y]).headD 0)) (Int32.ofNat y) wM') KM) S := by
        intro wM' hst2 hO hset
        rw [lp_155]
        have hne : xs ≠ [] → xl ≠ y := fun h => by have := y4 h; omega
        have hS2 : STEP C0 t0 stk prs obl wA0 wM0 (upC C 0 (y + 1)) t2 vA wM' := STEP.q u1 hO (fun k j hk => Or.inr ⟨hk.2.1, by have := y4 hk.1; omega⟩) (fun i => by
          by_cases i0 : i = 0
          · rw [i0, hC1s]; omega
          · rw [hC1n i i0]; exact Nat.le_refl _)
        have h11 : gi wM' 11 y = -1 := (hO 11 y (fun h => hne h.1 h.2.2.symm)).1.trans w7
        have hF : FACT stk prs obl lo0 (upC C 0 (y + 1)) t2 y (fun fA fM => CHK kd 40 (ELT kd fA fM (hdM stk) d tk) lo0 s0 xs xl (C 0) t fM ∧ ELT kd fA fM (hdM stk) d tk (C 0) y t t2 (y + 1) ∧ (xs ≠ [] → gi fM 11 xl = Int32.ofNat y)) vA wM' := fun fA fM hA hM hE => by
          have hM2 : EXTL lo0 C stk prs obl xl wM' fM := hM.wk (Nat.le_refl _) hLC (Or.inr (Or.inl (by omega)))
          refine ⟨u2.2.2 fA fM (hA.wk hLC (by omega) (fun _ h _ => h)) (fun k j hk => ?_) ((EXF.off hO (fun k j hk => by omega)).tr hE), w8 fA fM hA (fun k j hk => ?_) ((EXF.off hO (fun k j hk => by omega)).tr hE), fun h => ?_⟩
          · by_cases q : k = 11 ∧ j = xl
            · omega
            · have h1 := hM2 k j hk
              have h2 := hO k j (fun h => q h.2)
              exact ⟨h1.1.trans h2.1, h1.2.trans h2.2⟩
          · have h1 := hM k j (by
              rcases hk with h | h | h
              · exact Or.inl ⟨h.1, by omega, h.2.2⟩
              · exact Or.inr (Or.inl ⟨h.1, by omega, h.2.2⟩)
              · exact Or.inr (Or.inr h))
            have h2 := hO k j (fun h => by have := y4 h.1; omega)
            exact ⟨h1.1.trans h2.1, h1.2.trans h2.2⟩
          · have h1 := (hM 11 xl (Or.inr (Or.inl ⟨rfl, (y4 h).1, by rw [hC1s]; have := y4 h; omega, hne h⟩))).1
            rw [h1]
            exact hset h
        refine J.take (c := 40) (P := fun C' t' a c => PF C0 t0 stk prs obl wA0 wM0 C' t' a c ∧ PFA stk prs obl lo0 (upC C 0 (y + 1)) t2 y (fun fA fM => CHK kd 40 (ELT kd fA fM (hdM stk) d tk) lo0 s0 xs xl (C 0) t fM ∧ ELT kd fA fM (hdM stk) d tk (C 0) y t t2 (y + 1) ∧ (xs ≠ [] → gi fM 11 xl = Int32.ofNat y)) C' t' a c) hT (STBJ.and hPFs PFA.stb) hst2 (fun _ => ⟨hS2, LEC.rf, Nat.le_refl _, hF⟩) (by omega) (fun _ => hd40 w1) (by omega) rfl (fun h40 sA sM hst3 hl3 => ?_) (fun h40 => ?_)
        · obtain ⟨k1, k2⟩ := hl3 rfl
          rw [if_pos rfl, if_pos rfl]
          have e3 : ∀ a4 a5 w, oX12_loop_34 rm (fm + (n + 1)) (Int32.ofNat tk) x2 a4 a5 w = fX12_loop_34 rm (oX12_loop_34 rm (fm + n)) (Int32.ofNat tk) x2 a4 a5 w := fun _ _ _ => rfl
          rw [e3]
          have hlen : (xs ++ [y]).length = xs.length + 1 := by simp
          have := ih true (upC C 0 (y + 1)) (t2 + 1) fa2 sA sM x (Int32.ofNat ((xs ++ [y]).headD 0)) (Int32.ofNat y) (xs ++ [y]) y (by omega) (by rw [hlen]; omega) hst3 (fun _ => hd40 w1) (fun h => by simp at h) (fun _ => ⟨rfl, rfl, by
            rw [hhd]
            by_cases q : xs = []
            · rw [if_pos q]; exact Nat.le_refl _
            · rw [if_neg q]
              have := ha1 q
              have := y4 q
              omega⟩) (fun _ => ⟨⟨y1.1, by omega, y1.2.2⟩, by rw [hC1s]; omega, by rw [hC1s]; omega, fun _ => ⟨by omega, by rw [hC1s]; omega⟩, hC1n, k2.1, ?_⟩)
          · rw [hlen] at this
            exact this
          · exact (k2.2.2.2.wk (Nat.le_refl _) LEC.rf (by omega) (Or.inl rfl) (fun _ h _ => h) (fun y hy _ => ⟨y, hy, rfl⟩) (fun _ h _ => h)).imp (fun fA fM hh => by
              rw [hC1s]
              exact hh.1.next hh.2.2 hh.2.1 h40)
        · rw [if_neg (show ¬ (false = true) by decide), if_neg (show ¬ (false = true) by decide)]
          refine HX true t2 fa2 vA wM' _ x (xs ++ [y]) hst2 (fun _ => ⟨y1.1, by omega, w3, by simp, by rw [hC1s]; omega, by rw [hC1s]; omega, hC1n, hS2, ?_⟩) (fun h => absurd h (by decide))
          have h1 : FACT stk prs obl lo0 (upC C 0 (y + 1)) t2 ((upC C 0 (y + 1)) 0) (fun _ fM => gi fM 11 y = -1) vA wM' := fun fA fM hA hM hE => (hM 11 y (Or.inr (Or.inl ⟨rfl, by omega, by rw [hC1s]; omega, by rw [hC1s]; omega⟩))).1.trans h11
          have h2 := hF.wk (lo' := lo0) (Cf' := upC C 0 (y + 1)) (tf' := t2) (pd' := (upC C 0 (y + 1)) 0) (stk' := stk) (prs' := prs) (obl' := obl) (Nat.le_refl _) LEC.rf (Nat.le_refl _) (Or.inr (Or.inl (Nat.le_refl _))) (fun _ h _ => h) (fun y hy _ => ⟨y, hy, rfl⟩) (fun _ h _ => h)
          exact (h2.and h1).imp (fun fA fM hh => by
            rw [hC1s]
            exact hh.1.1.end hh.1.2.2 hh.1.2.1 hh.2)
      unfold fX12_loop_134
      by_cases q : xs = []
      · rw [ha0 q, if_neg (show ¬ ((0 : Int32) ≤ -1) by decide)]
        have := hgo vM hst1 OFF.rf (fun h => absurd q h)
        rw [hhd, if_pos q] at this
        exact this
      · obtain ⟨g1, g2, g3⟩ := ha1 q
        have hxl := y4 q
        rw [g1, g2, if_pos (zl_iN (by omega)), if_pos (inb_iN (by omega) (by omega)), tc_iN (by omega)]
        have hse : ∀ f : Wd → Option (Option Int32 × Wd), be (lt (si vM 11 xl (Int32.ofNat y)) f) KM = lt (si vM 11 xl (Int32.ofNat y)) fun w => be (f w) KM := fun _ => rfl
        rw [hse]
        refine J.setM (obl := []) (P := fun _ _ _ _ => True) hT (fun _ _ _ _ _ _ _ _ _ _ => trivial) hst1 (fun _ => trivial) (fun _ => Or.inr (Or.inr (Or.inr rfl))) (fun _ => trivial) (fun hst2 => ?_)
        have := hgo _ hst2 (OFF.si ⟨q, rfl, rfl⟩) (fun _ => gi_si0 _ _ _ _)
        rw [hhd, if_neg q] at this
        exact this
end JT
