/-! BOTH SIDES MAKE A STATEMENT'S CODES, AND WHAT THEY DO: assignments -/
section OF5
variable {kd wr nm TK SG : Nat → Nat} {vv : Nat → Int64} {m z : Nat} {Cf C C' C1 C2 : Nat → Nat} {SL : Nat → List Nat} {fA fM : Wd} {NS ns SZ lev : Nat} {pn : Nat → Int32} {p sg kp s e n d q x y v N k : Nat} {stk : List Nat} {R : RTY} {lo lo2 e1 e2 : Nat} {rc rc0 : TX4_block} {E : SENV} {sc : Int32}
theorem tyP_12 (hS : SYS E) (hk : SCE E stk) (h7 : gi (vM E) 7 v = 3 ∨ gi (vM E) 7 v = 4) (hF : FLX (vM E) (eLU E stk) p (k + 1) 1 v 0 = []) : tyP (vM E) (eLU E stk) p 0 v ≠ 0 ∧ (tyP (vM E) (eLU E stk) p 0 v = 1 ∨ tyP (vM E) (eLU E stk) p 0 v = 2) := by
  have fin : ∀ y, y < eNo E 5 2 → gi (vM E) 20 y ≠ 0 → tyP (vM E) (eLU E stk) p 0 v = gi (vM E) 20 y → tyP (vM E) (eLU E stk) p 0 v ≠ 0 ∧ (tyP (vM E) (eLU E stk) p 0 v = 1 ∨ tyP (vM E) (eLU E stk) p 0 v = 2) := fun y hy h0 e => by
    rw [e]
    refine ⟨h0, ?_⟩
    rcases hS.t3 hy with c | c | c
    · exact absurd c h0
    · exact Or.inl c
    · exact Or.inr c
  rcases h7 with h7 | h7
  · obtain ⟨q, hq⟩ := flx13_n (hS.no0 hk) h7 hF
    obtain ⟨y, ey⟩ : ∃ y, eLU E stk (nd (vM E) 12 v) = y + 1 := ⟨eLU E stk (nd (vM E) 12 v) - 1, (Nat.sub_add_cancel (Nat.pos_of_ne_zero q)).symm⟩
    have hy := hS.nm hk ey
    rw [ey, Nat.add_sub_cancel] at hq
    have e1 : tyP (vM E) (eLU E stk) p 0 v = plT (vM E) p 0 (y + 1) := by
      unfold tyP
      rw [if_neg (by rw [h7]; decide), ey]
    rcases hq with c | c | ⟨c, c2, c3⟩
    · exact fin y hy (hS.tn hy (Or.inl c)) (by rw [e1]; unfold plT; rw [if_neg (by omega), Nat.add_sub_cancel, if_pos (Or.inl c)])
    · exact fin y hy (hS.tn hy (Or.inr (Or.inl c))) (by rw [e1]; unfold plT; rw [if_neg (by omega), Nat.add_sub_cancel, if_pos (Or.inr c)])
    · refine fin y hy c2 ?_
      rw [e1]
      unfold plT
      rw [if_neg (by omega), Nat.add_sub_cancel, if_neg (fun z => z.elim (fun z => absurd (c.symm.trans z) (by decide)) (fun z => absurd (c.symm.trans z.1) (by decide))), if_pos ⟨rfl, c, c2, c3⟩]
  · rw [flx1_4 h7 rfl] at hF
    have hl := elL_n (hS.no0 hk) hF
    obtain ⟨y, ey⟩ : ∃ y, eLU E stk (nd (vM E) 12 v) = y + 1 := ⟨eLU E stk (nd (vM E) 12 v) - 1, (Nat.sub_add_cancel (Nat.pos_of_ne_zero hl.1)).symm⟩
    have hy := hS.nm hk ey
    have hl2 := hl.2.2
    rw [ey, Nat.add_sub_cancel] at hl2
    refine fin y hy (hS.tn hy (hl2.elim (fun c => Or.inr (Or.inr (Or.inl c.1))) (fun c => Or.inr (Or.inr (Or.inr c.1))))) ?_
    unfold tyP
    rw [if_pos h7, ey]
    unfold tyE
    rw [if_neg (by omega), Nat.add_sub_cancel, if_pos (hl2.elim (fun c => Or.inl c.1) (fun c => Or.inr c.1))]
/-- targets fit -/
theorem tgs_fit (hk9 : ∀ i, 9000 ≤ i → kd i = 0) (hd : d ≤ 40) (hy : y < 24000) : ∀ (r : List Nat) (x lo s : Nat), TGS kd fA fM sc d (x :: r) lo y s e → e ≤ 9000 → lo ≤ y ∧ FITX fM y (NBd d) ∧ ∀ v ∈ r, v < 24000 ∧ (gi fM 7 v = 3 ∨ gi fM 7 v = 4) ∧ FITX fM v (NBd d) := by
  intro r
  induction r with
  | nil =>
    intro x lo s h he
    obtain ⟨cn, h1, _⟩ := h
    exact ⟨(PWR.agr 41 fM fM _ _ _ _ _ _ h1.2).1, xpr_fit hk9 h1 hd he hy, fun v hv => absurd hv (by simp)⟩
  | cons v r ih =>
    intro x lo s h he
    obtain ⟨e1, cn, h1, h2, h3, _, h4⟩ := h
    have l1 := kd_lt hk9 h3 (by decide)
    obtain ⟨g1, g2, g3⟩ := ih v (v + 1) (e1 + 1) h4 he
    have g4 := (PWR.agr 41 fM fM _ _ _ _ _ _ h1.2).1
    refine ⟨by omega, g2, fun w hw => ?_⟩
    rcases List.mem_cons.mp hw with rfl | hw
    · exact ⟨by omega, h2, xpr_fit hk9 h1 hd (by omega) (by omega)⟩
    · exact g3 w hw
theorem fit1 {K B : Nat} (hB : 2 ≤ B) (hK : 3 * v + 3 ≤ K) (h : FITX fM v B) (h7 : gi fM 7 v = 3 ∨ gi fM 7 v = 4) : OKN fM K 1 v ∧ NDX fM K 1 v ≤ B := by
  obtain ⟨h1, h2⟩ := h K hK
  refine ⟨okn01 h1 h7, ?_⟩
  obtain ⟨k, rfl⟩ : ∃ k, K = k + 1 := ⟨K - 1, by omega⟩
  rw [NDX] at h2 ⊢
  try dsimp only at h2 ⊢
  rw [if_neg (by decide), if_pos rfl]
  rcases h7 with h7 | h7
  · rw [if_neg (by rw [h7]; decide)]; omega
  · rw [if_pos h7]
    rw [if_pos rfl, if_neg (by rw [h7]; decide), if_neg (by rw [h7]; decide), if_neg (by rw [h7]; decide), if_pos h7] at h2
    exact h2
theorem jp_assign (hc : CTJ kd wr nm TK vv m z Cf SL fA fM stk lev p pn) {xs : List Nat} (hRg : ∀ PA PM, R PA PM (FLX fM (luN nm TK SL stk) p FUJ 1 x 0 ++ TGA fM (luN nm TK SL stk) p FUJ y (tyP fM (luN nm TK SL stk) p 0 x) 1 xs) (TGF fM (luN nm TK SL stk) p FUJ y 0 (x :: xs))) (hx19 : gi fM 0 10 = 0 → xs.length ≤ 19) (hk1 : kd (s + 1) = 50 ∨ kd (s + 1) = 45) (hd : 1 ≤ d ∧ d ≤ 40) (h7 : gi fM 7 n = 21) (h8 : gi fM 8 n = Int32.ofNat x) (h9 : gi fM 9 n = Int32.ofNat y) (hny : n = y + 1) (hx : PLC kd (hdM stk) lo x d s e1 fA fM) (h50 : kd e1 = 50) (hTG : TGS kd fA fM (hdM stk) d (x :: xs) (x + 1) y (e1 + 1) e) (hfo : kd e ≠ 50) (hn : n < 24000) (he : e ≤ m) (hC1 : C' 1 = C 1) (hC2 : C' 2 = C 2) (hi : C 1 ≤ ns) : JSP kd wr nm TK SG m z SL fA fM NS ns SZ lev pn R p sg kp N s e n stk q q C C' (wr e - wr s) 0 (fX4_statement_61 rc (Int32.ofNat d)) := by
  have hk9 := hc.k9
  have hfu := fuj
  have hm9 := hc.m9
  obtain ⟨hT, hB, hcu, hU, hl, hCX⟩ := hc
  obtain ⟨hSY, hFM, hPN, hwr, hz, hW, hz9, hk0⟩ := id hCX
  obtain ⟨k, ek⟩ : ∃ k, FUJ = k + 1 := ⟨FUJ - 1, by omega⟩
  obtain ⟨g1, g2, g3⟩ := tgs_fit (e := e) hk9 hd.2 (show y < 24000 by omega) xs x (x + 1) (e1 + 1) hTG (by omega)
  have hplc := plc_fit hk9 hx (show x < 24000 by omega) FUJ (by omega)
  have hx7 : gi fM 7 x = 3 ∨ gi fM 7 x = 4 := by
    obtain ⟨_, _, _, ⟨_, c, _⟩ | ⟨_, _, c, _⟩⟩ := hx
    · exact Or.inl c
    · exact Or.inr c
  have hs := s_assign (rc := rc) (K := FUJ) hCX hx (by omega) (by omega) he hd.2 hfo (by omega) hk1 h50 hTG (fun v hv => (g3 v hv).1)
  have hm := rs_assign (lev := lev) (i := C 1) (K := FUJ) (N := N) hB hT hFM hcu hk9 hU hl (by omega) hn he hd.2 h7 h8 h9 hny hx hTG
  have hbP : PKd d ≤ NBd d := by unfold PKd NBd; omega
  have hbN : NBd d ≤ 478 ∧ 10 ≤ NBd d := by unfold NBd; omega
  have hgen : ∀ E, EQJ E nm TK SG SL fA fM NS ns stk lev p kp → TGF fM (luN nm TK SL stk) p FUJ y 0 (x :: xs) = [] → SYS E → (TGF (vM E) (eLU E stk) p FUJ y 0 (x :: xs) = [] ∧ (OKN (vM E) FUJ 0 y ∧ NDX (vM E) FUJ 0 y ≤ NBd d)) ∧ (∀ v ∈ x :: xs, OKN (vM E) FUJ 1 v ∧ NDX (vM E) FUJ 1 v ≤ NBd d ∧ (FLX (vM E) (eLU E stk) p FUJ 1 v 0 = [] → tyP (vM E) (eLU E stk) p 0 v ≠ 0 ∧ (tyP (vM E) (eLU E stk) p 0 v = 1 ∨ tyP (vM E) (eLU E stk) p 0 v = 2))) ∧ xs.length ≤ 19 := fun E ⟨q1, q2, q3, q4, q5, q6, q7, q8, q9, q10⟩ hL hS => by
    have hlen : xs.length ≤ 19 := hx19 (by rw [← q1]; exact q10.1)
    rw [← q1, ← q3] at hL
    rw [← q1] at hplc hx7 g2
    have g3' : ∀ v ∈ xs, v < 24000 ∧ (gi (vM E) 7 v = 3 ∨ gi (vM E) 7 v = 4) ∧ FITX (vM E) v (NBd d) := by rw [q1]; exact g3
    have hy := g2 FUJ (by omega)
    refine ⟨⟨hL, hy⟩, fun v hv => ?_, hlen⟩
    rcases List.mem_cons.mp hv with rfl | hv
    · exact ⟨hplc.1, by omega, fun f => tyP_12 (k := k) hS q5 hx7 (by rw [← ek]; exact f)⟩
    · obtain ⟨r1, r2, r3⟩ := g3' v hv
      have := fit1 (K := FUJ) (by omega) (by omega) r3 r2
      exact ⟨this.1, this.2, fun f => tyP_12 (k := k) hS q5 r2 (by rw [← ek]; exact f)⟩
  rw [JSP, hC1, hC2]
  refine ⟨⟨Nat.le_refl _, Nat.le_refl _⟩, _, _, _, _, ((SSC.ec hs hi).wk (fun b b' Z g h => h) (by omega)), hm, hRg _ _, fun E hEQ hL hS => ?_, fun E s0 Lim hEQ hq hL hS a a' Z b qq b' q2' hA hM hZ hq' ha hb h0 => ?_⟩
  · obtain ⟨⟨hL, hy⟩, hall, hlen⟩ := hgen E hEQ hL hS
    obtain ⟨q1, q2, q3, q4, q5, q6⟩ := id hEQ
    -- order
    have oA : ∀ (r : List Nat) (t : Int32) (j a a' : Nat), (∀ v ∈ r, v ∈ x :: xs) → TGF (vM E) (eLU E stk) p FUJ y t r = [] → TGK (vM E) (vA E) (eLU E stk) p (eLV E p) FUJ y j r a a' (cA E) → a ≤ a' := by
      intro r
      induction r with
      | nil =>
        intro t j a a' _ hF ⟨a2, hc, _, ea⟩
        obtain ⟨f1, _⟩ := app_nil (show FLX (vM E) (eLU E stk) p FUJ 0 y 0 ++ difT (TYX (vM E) (eLU E stk) FUJ y) t (nd (vM E) 12 y) = [] from hF)
        have := (WLE (cur := p) hS q5 FUJ 0 y 0 (Or.inl (by omega)) hy.1 f1).1 _ _ _ _ (hc f1)
        omega
      | cons v r ih =>
        intro t j a a' hv hF ⟨a2, hc, h2⟩
        obtain ⟨f12, f3⟩ := app_nil (show FLX (vM E) (eLU E stk) p FUJ 1 v 0 ++ difT (tyP (vM E) (eLU E stk) p 0 v) t (nd (vM E) 12 v) ++ TGF (vM E) (eLU E stk) p FUJ y (if t = 0 then tyP (vM E) (eLU E stk) p 0 v else t) r = [] from hF)
        obtain ⟨f1, _⟩ := app_nil f12
        have := (WLE (cur := p) hS q5 FUJ 1 v 0 (Or.inl (by omega)) (hall v (hv v List.mem_cons_self)).1 f1).1 _ _ _ _ (hc f1)
        have := ih _ _ _ _ (fun w hw => hv w (List.mem_cons_of_mem _ hw)) f3 h2
        omega
    have oM : ∀ (r : List Nat) (t : Int32) (j b b' : Nat), (∀ v ∈ r, v ∈ x :: xs) → TGF (vM E) (eLU E stk) p FUJ y t r = [] → TGC (vM E) (eLU E stk) p (eLV E p) FUJ y j r b b' (dM E) → b ≤ b' := by
      intro r
      induction r with
      | nil =>
        intro t j b b' _ hF ⟨b2, hc, _, eb⟩
        obtain ⟨f1, _⟩ := app_nil (show FLX (vM E) (eLU E stk) p FUJ 0 y 0 ++ difT (TYX (vM E) (eLU E stk) FUJ y) t (nd (vM E) 12 y) = [] from hF)
        have := (WLE (cur := p) hS q5 FUJ 0 y 0 (Or.inl (by omega)) hy.1 f1).2 _ _ _ _ _ (hc f1)
        omega
      | cons v r ih =>
        intro t j b b' hv hF ⟨b2, hc, h2⟩
        obtain ⟨f12, f3⟩ := app_nil (show FLX (vM E) (eLU E stk) p FUJ 1 v 0 ++ difT (tyP (vM E) (eLU E stk) p 0 v) t (nd (vM E) 12 v) ++ TGF (vM E) (eLU E stk) p FUJ y (if t = 0 then tyP (vM E) (eLU E stk) p 0 v else t) r = [] from hF)
        obtain ⟨f1, _⟩ := app_nil f12
        have := (WLE (cur := p) hS q5 FUJ 1 v 0 (Or.inl (by omega)) (hall v (hv v List.mem_cons_self)).1 f1).2 _ _ _ _ _ (hc f1)
        have := ih _ _ _ _ (fun w hw => hv w (List.mem_cons_of_mem _ hw)) f3 h2
        omega
    refine ⟨fun a a' Z hA => ?_, fun b qq b' q2' hM => ?_⟩
    · rw [← q1, ← q2, ← q3, ← q4] at hA
      obtain ⟨_, a1, hc, h2⟩ := hA
      have := oA (x :: xs) 0 0 (a + 1) a' (fun v hv => hv) hL ⟨a1, hc, h2⟩
      omega
    · rw [← q1, ← q3, ← q4] at hM
      obtain ⟨_, h2, e9⟩ := hM
      have := oM (x :: xs) 0 0 (b + 1) b' (fun v hv => hv) hL h2
      omega
  obtain ⟨⟨hL, hy⟩, hall, hlen⟩ := hgen E hEQ hL hS.2.1
  obtain ⟨q1, q2, q3, q4, q5, q6⟩ := id hEQ
  rw [← q1, ← q2, ← q3, ← q4] at hA
  rw [← q1, ← q3, ← q4] at hM
  obtain ⟨⟨r1, r2, r3⟩, r4⟩ := sp_assign (Z := 0) (nx := NBd d) (sg := sg) (m1 := q) (s0 := s0) (m2 := qq) hS q5 hA hM hL hall hy (by omega) ha hb
  exact ⟨⟨r1, r2, by omega⟩, r4⟩
end OF5
