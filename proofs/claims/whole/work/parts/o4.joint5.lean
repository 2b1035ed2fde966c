/-! BOTH SIDES MAKE A STATEMENT'S CODES, AND WHAT THEY DO: for, whole -/
section OE4
variable {kd wr nm TK SG : Nat → Nat} {vv : Nat → Int64} {m z : Nat} {Cf C C' C1 C2 : Nat → Nat} {SL : Nat → List Nat} {fA fM : Wd} {NS ns SZ lev : Nat} {pn : Nat → Int32} {p sg kp s e n d q q' q1 x y v N k : Nat} {stk : List Nat} {R R1 : RTY} {lo lo2 e1 e2 cur T F : Nat} {rc rc0 : TX4_block} {lu : Nat → Nat}
theorem fx10 (h7 : gi fM 7 x = 3 ∨ gi fM 7 x = 4) (h : FLX fM lu cur (k + 1) 1 x 1 = []) : FLX fM lu cur (k + 1) 1 x 0 = [] := by
  rcases h7 with h7 | h7
  · rw [flx1_3 h7] at h ⊢
    obtain ⟨f1, f2⟩ := app_nil h
    rw [f1, List.nil_append]
    by_cases c : lu (nd fM 12 x) = 0 ∨ gi fM 19 (lu (nd fM 12 x) - 1) = 1 ∨ FO fM (lu (nd fM 12 x) - 1) 1
    · rw [if_pos c]
    · rw [if_neg c, if_neg (fun c => absurd c.1 (by decide))] at f2
      rw [if_neg c]
      split
      · rfl
      · exact f2
  · rw [flx1_4 h7 rfl] at h ⊢
    exact h
theorem jp_for (hc : CTJ kd wr nm TK vv m z Cf SL fA fM stk lev p pn) {xs : List Nat} (hRn : ∀ l PA PM PA' PM' LA LM, l.map Prod.fst = xs → gi fM 7 x = 3 → (∀ xx ∈ l, feS kd wr m fM (luN nm TK SL stk) lev p (FUJ + 1) xx) → (∀ E, EQJ E nm TK SG SL fA fM NS ns stk lev p kp → (LM ++ fesL fM (luN nm TK SL stk) p (FUJ + 1) x (plT fM p 1 (luN nm TK SL stk (s + 1))) (FLX fM (luN nm TK SL stk) p (FUJ + 1) 1 x 1) (flY fM (luN nm TK SL stk (s + 1)) (s + 1)) l) = [] → SYS E → CON E PA' PA PM' PM) → R1 PA PM LA LM → R PA' PM' (FLX fM (luN nm TK SL stk) p (FUJ + 1) 1 x 1 ++ difT 1 (tyP fM (luN nm TK SL stk) p 1 x) (s + 1) ++ elsFc fM (luN nm TK SL stk) p (FUJ + 1) xs ++ LA) (LM ++ fesL fM (luN nm TK SL stk) p (FUJ + 1) x (plT fM p 1 (luN nm TK SL stk (s + 1))) (FLX fM (luN nm TK SL stk) p (FUJ + 1) 1 x 1) (flY fM (luN nm TK SL stk (s + 1)) (s + 1)) l)) (hRe : ∀ l PA PM PA' PM' LA LM, l.map Prod.fst = xs → gi fM 7 x = 4 → (∀ xx ∈ l, feS kd wr m fM (luN nm TK SL stk) lev p (FUJ + 1) xx) → (∀ E, EQJ E nm TK SG SL fA fM NS ns stk lev p kp → (elF fM (luN nm TK SL stk) p (FUJ + 1) x ++ LM ++ fesL fM (luN nm TK SL stk) p (FUJ + 1) x (tyE fM (luN nm TK SL stk (nd fM 12 x))) [] [] l) = [] → SYS E → CON E PA' PA PM' PM) → R1 PA PM LA LM → R PA' PM' (FLX fM (luN nm TK SL stk) p (FUJ + 2) 1 x 1 ++ difT 1 (tyP fM (luN nm TK SL stk) p 1 x) (s + 1) ++ elsFc fM (luN nm TK SL stk) p (FUJ + 1) xs ++ LA) (elF fM (luN nm TK SL stk) p (FUJ + 1) x ++ LM ++ fesL fM (luN nm TK SL stk) p (FUJ + 1) x (tyE fM (luN nm TK SL stk (nd fM 12 x))) [] [] l))
    (h18 : kd s = 18) (hd : d ≤ 39) (h7 : gi fM 7 n = 26) (h8 : gi fM 8 n = Int32.ofNat x) (h9 : gi fM 9 n = Int32.ofNat (xs.headD 0)) (h10 : gi fM 10 n = Int32.ofNat y) (hx : PLC kd (hdM stk) lo x (d + 1) (s + 1) e1 fA fM) (h50 : kd e1 = 50) (hE : CHNW kd fM 40 (ELT kd fA fM (hdM stk) (d + 1) s) xs (x + 1) (e1 + 1) e2 lo2) (h19 : kd e2 = 19) (hxn : x < n) (hlo2 : lo2 ≤ n) (hee : e2 + 1 ≤ e) (hn : n < 24000) (he : e ≤ m) (hsg : sg + 1 ≤ SZ) (hCC : C 1 ≤ C' 1 ∧ C' 1 ≤ ns) (hi : C 1 ≤ ns) (h7f : ∀ w, rc 7 (Int32.ofNat d) 0 0 w = fX4_loop rc0 (Int32.ofNat d) w)
    (hS : JSS kd wr nm TK SG m z SL fA fM NS ns SZ lev pn R1 p (sg + 1) kp N (e2 + 1) e y stk q q' C C' T F (fun w => rc0 4 (Int32.ofNat (d + 1)) 0 0 w)) : JSP kd wr nm TK SG m z SL fA fM NS ns SZ lev pn R p sg kp (N + 1) s e n stk q q' C C' (T + (wr (e2 + 1) - wr s)) (F + 1) (fX4_statement_61 rc (Int32.ofNat d)) := by
  have hk9 := hc.k9
  have hfu := fuj
  have hm9 := hc.m9
  obtain ⟨hT, hB, hcu, hU, hl, hCX⟩ := hc
  obtain ⟨hSY, hFM, hPN, hwr, hz, hW, hz9, hk0⟩ := id hCX
  obtain ⟨hq9, PA, PM, LA, LM, hS1, hS2, hR1, hmon, hsim⟩ := hS
  have hlt := els_lt _ _ _ hE
  have hs9 := kd_lt hk9 h18 (by decide)
  have ex12 : nd fM 12 x = s + 1 := nd_of hx.2.1 (by omega)
  have hxs : xs ≠ [] := fun c => by subst c; exact hE
  have hplc := plc_fit hk9 hx (show x < 24000 by omega)
  have hels := elx_fit (tk := s) hk9 (show d + 1 ≤ 40 by omega) (show e2 ≤ 9000 by omega) (show lo2 ≤ 24000 by omega) _ _ _ hE
  have hbP : PKd (d + 1) ≤ 490 := by unfold PKd; omega
  have hbN : NBd (d + 1) ≤ 490 := by unfold NBd; omega
  have hwb : wr s ≤ wr (e2 + 1) ∧ wr (e2 + 1) ≤ wr e := by
    have a1 := wr_mo hW (e2 + 1) (s := s) (by
      have := plc_spe hCX hx (by omega) (by omega) (f := 1) (by omega) (show 4 * x + 1 ≤ FUJ by omega)
      omega) (by omega)
    have a2 : wr (e2 + 1) ≤ wr e := by
      by_cases q9 : e2 + 1 = e
      · rw [q9]; exact Nat.le_refl _
      · have := wr_mo hW e (s := e2 + 1) (by omega) he
        omega
    omega
  obtain ⟨l, hl1, hfe, hm⟩ := rs_for (K := FUJ) (tk := s) hB hwr hT hFM hcu hk9 hU hl (by omega) hn he hd h18 h7 h8 h9 h10 hx h50 hE h19 hxn hlo2 hee (T := T + (wr (e2 + 1) - wr s)) ⟨Nat.le_refl _, by omega⟩ hS2 hCC.1
  have hl0 : l ≠ [] := fun c => hxs (by rw [← hl1, c]; rfl)
  rcases hm with ⟨hk45, hx7, hm⟩ | ⟨hk45, hx7, hm⟩
  · have hs := s_ford (rc := rc) (K := FUJ + 1) (Kx := FUJ + 1) hCX hB h18 (show d < 40 by omega) (by omega) (by omega) hx (by omega) h50 hE (by omega) h19 (by omega) hsg hi h7f hS1
    rw [JSP]
    refine ⟨⟨hq9.1, by omega⟩, _, _, _, _, hs.wk (fun b b' Z g h => h) (by omega) (by omega), hm, hRn l PA PM _ _ LA LM hl1 hx7 hfe (fun E hEQ hL hSY => ?_) hR1, fun E hEQ hL hSY => ?_, fun E s0 Lim hEQ hq hL hSO a a' Z b qq b' q2' hA hM hZ hq' ha hb h0 => ?_⟩
    · obtain ⟨q1', q2, q3, q4, q5, q6, q7⟩ := id hEQ
      obtain ⟨l2, l1⟩ := app_nil hL
      obtain ⟨m1, m2⟩ := hmon E hEQ l2 hSY
      rw [← q1', ← q3] at l1
      rw [← q1'] at hx7 ex12 hplc hels
      rw [← q1', ← q3] at hfe
      have hO : ∀ xx ∈ l, feS kd wr m (vM E) (eLU E stk) lev p (FUJ + 1) xx ∧ ENF E (FUJ + 1) 490 xx := fun xx hxx => ⟨hfe xx hxx, enf_of (hfe xx hxx) (hels xx.1 (by rw [← hl1]; exact List.mem_map_of_mem hxx)) hbN (by omega)⟩
      obtain ⟨f1, f2⟩ := fes_hd hl0 l1
      have hOv := hplc (FUJ + 1) (by omega)
      obtain ⟨leT, leR⟩ := fv_le (p := p) hSY q5 f1 hOv.1
      have wl := WLE (cur := p) hSY q5 (FUJ + 1) 1 x 0 (Or.inl (by omega)) hOv.1 (fx10 (Or.inl hx7) f1)
      refine ⟨fun a a' Z hA => ?_, fun b qq b' q2' hM => ?_⟩
      · rw [← q1', ← q2, ← q3, ← q4] at hA
        obtain ⟨_, _, n1, aE, b3, _, hc, _, he9, _, hP2, _, e9⟩ := hA
        have := wl.1 _ _ _ _ (hc f1)
        have := m1 _ _ _ hP2
        rw [← hl1] at he9
        have := els_le hSY q5 l (n1 + 1) hO he9 l1
        exact ⟨_, _, by omega, by omega, by omega, hP2⟩
      · rw [← q1', ← q3, ← q4] at hM
        obtain ⟨_, e3, _, hP1, _, hfes⟩ := hM
        have := m2 _ _ _ _ hP1
        have := fes_leS hSY q5 leT (fun b b' h => leR _ b b' h) l (e3 + 1) hO hfes l1
        exact ⟨_, _, _, _, by omega, by omega, by omega, by omega, by omega, by omega, hP1⟩
    · obtain ⟨q1', q2, q3, q4, q5, q6, q7⟩ := id hEQ
      obtain ⟨l2, l1⟩ := app_nil hL
      obtain ⟨m1, m2⟩ := hmon E hEQ l2 hSY
      rw [← q1', ← q3] at l1
      rw [← q1'] at hx7 ex12 hplc hels
      rw [← q1', ← q3] at hfe
      have hO : ∀ xx ∈ l, feS kd wr m (vM E) (eLU E stk) lev p (FUJ + 1) xx ∧ ENF E (FUJ + 1) 490 xx := fun xx hxx => ⟨hfe xx hxx, enf_of (hfe xx hxx) (hels xx.1 (by rw [← hl1]; exact List.mem_map_of_mem hxx)) hbN (by omega)⟩
      obtain ⟨f1, f2⟩ := fes_hd hl0 l1
      have hOv := hplc (FUJ + 1) (by omega)
      obtain ⟨leT, leR⟩ := fv_le (p := p) hSY q5 f1 hOv.1
      have wl := WLE (cur := p) hSY q5 (FUJ + 1) 1 x 0 (Or.inl (by omega)) hOv.1 (fx10 (Or.inl hx7) f1)
      refine ⟨fun a a' Z hA => ?_, fun b qq b' q2' hM => ?_⟩
      · rw [← q1', ← q2, ← q3, ← q4] at hA
        obtain ⟨_, _, n1, aE, b3, _, hc, _, he9, _, hP2, _, e9⟩ := hA
        have := wl.1 _ _ _ _ (hc f1)
        have := m1 _ _ _ hP2
        rw [← hl1] at he9
        have := els_le hSY q5 l (n1 + 1) hO he9 l1
        omega
      · rw [← q1', ← q3, ← q4] at hM
        obtain ⟨_, e3, _, hP1, _, hfes⟩ := hM
        have := m2 _ _ _ _ hP1
        have := fes_leS hSY q5 leT (fun b b' h => leR _ b b' h) l (e3 + 1) hO hfes l1
        omega
    · obtain ⟨q1', q2, q3, q4, q5, q6, q7⟩ := id hEQ
      obtain ⟨l2, l1⟩ := app_nil hL
      have hsimL : ∀ L, L ≤ Lim → SPQ E L stk p (sg + 1) q s0 PA PM := fun L hLL => hsim E s0 L hEQ hq l2 (hSO.le hLL)
      rw [← q1', ← q3] at l1
      rw [← q1'] at hx7 ex12 hplc hels
      rw [← q1', ← q3] at hfe
      have hO : ∀ xx ∈ l, feS kd wr m (vM E) (eLU E stk) lev p (FUJ + 1) xx ∧ ENF E (FUJ + 1) 490 xx := fun xx hxx => ⟨hfe xx hxx, enf_of (hfe xx hxx) (hels xx.1 (by rw [← hl1]; exact List.mem_map_of_mem hxx)) hbN (by omega)⟩
      rw [← q1', ← q2, ← q3, ← q4] at hA
      rw [← q1', ← q3, ← q4, ← ex12] at hM
      rw [← ex12] at l1
      exact sp_forn hSO q5 hl1 hl0 hsimL (by omega) hx7 hA hM l1 hO (by omega) hZ ⟨hq', q6⟩ ha hb h0
  · have hs := s_ford (rc := rc) (K := FUJ + 1) (Kx := FUJ + 2) hCX hB h18 (show d < 40 by omega) (by omega) (by omega) hx (by omega) h50 hE (by omega) h19 (by omega) hsg hi h7f hS1
    rw [JSP]
    refine ⟨⟨hq9.1, by omega⟩, _, _, _, _, hs.wk (fun b b' Z g h => h) (by omega) (by omega), hm, hRe l PA PM _ _ LA LM hl1 hx7 hfe (fun E hEQ hL hSY => ?_) hR1, fun E hEQ hL hSY => ?_, fun E s0 Lim hEQ hq hL hSO a a' Z b qq b' q2' hA hM hZ hq' ha hb h0 => ?_⟩
    · obtain ⟨q1', q2, q3, q4, q5, q6, q7⟩ := id hEQ
      obtain ⟨l02, l1⟩ := app_nil hL
      obtain ⟨l0, l2⟩ := app_nil l02
      obtain ⟨m1, m2⟩ := hmon E hEQ l2 hSY
      rw [← q1', ← q3] at l1 l0
      rw [← q1'] at hx7 hplc hels
      rw [← q1', ← q3] at hfe
      have hO : ∀ xx ∈ l, feS kd wr m (vM E) (eLU E stk) lev p (FUJ + 1) xx ∧ ENF E (FUJ + 1) 490 xx := fun xx hxx => ⟨hfe xx hxx, enf_of (hfe xx hxx) (hels xx.1 (by rw [← hl1]; exact List.mem_map_of_mem hxx)) hbN (by omega)⟩
      have hOv := hplc (FUJ + 1 + 1) (by omega)
      have f10 : FLX (vM E) (eLU E stk) p (FUJ + 1 + 1) 1 x 0 = [] := by rw [flx1_4 hx7 rfl]; exact l0
      have f11 : FLX (vM E) (eLU E stk) p (FUJ + 1 + 1) 1 x 1 = [] := by rw [flx1_4 hx7 rfl]; exact l0
      have wl := WLE (cur := p) hSY q5 (FUJ + 1 + 1) 1 x 0 (Or.inl (by omega)) hOv.1 f10
      refine ⟨fun a a' Z hA => ?_, fun b qq b' q2' hM => ?_⟩
      · rw [← q1', ← q2, ← q3, ← q4] at hA
        obtain ⟨_, _, n1, aE, b3, _, hc, _, he9, _, hP2, _, e9⟩ := hA
        have := wl.1 _ _ _ _ (hc f11)
        have := m1 _ _ _ hP2
        rw [← hl1] at he9
        have := els_le hSY q5 l (n1 + 1) hO he9 l1
        exact ⟨_, _, by omega, by omega, by omega, hP2⟩
      · rw [← q1', ← q3, ← q4] at hM
        obtain ⟨_, r1, _, hel, _, e3, _, hP1, _, hfes⟩ := hM
        have := wl.2 (eLV E p) 0 (b + 2) r1 (dM E) (by rw [cdm1_4 hx7 rfl]; exact hel l0)
        have := m2 _ _ _ _ hP1
        have := fes_leS hSY q5 (fun b b' h => by have := h.2; omega) (fun b b' h => by have := h.2.2; omega) l (e3 + 1) hO hfes l1
        exact ⟨_, _, _, _, by omega, by omega, by omega, by omega, by omega, by omega, hP1⟩
    · obtain ⟨q1', q2, q3, q4, q5, q6, q7⟩ := id hEQ
      obtain ⟨l02, l1⟩ := app_nil hL
      obtain ⟨l0, l2⟩ := app_nil l02
      obtain ⟨m1, m2⟩ := hmon E hEQ l2 hSY
      rw [← q1', ← q3] at l1 l0
      rw [← q1'] at hx7 hplc hels
      rw [← q1', ← q3] at hfe
      have hO : ∀ xx ∈ l, feS kd wr m (vM E) (eLU E stk) lev p (FUJ + 1) xx ∧ ENF E (FUJ + 1) 490 xx := fun xx hxx => ⟨hfe xx hxx, enf_of (hfe xx hxx) (hels xx.1 (by rw [← hl1]; exact List.mem_map_of_mem hxx)) hbN (by omega)⟩
      have hOv := hplc (FUJ + 1 + 1) (by omega)
      have f10 : FLX (vM E) (eLU E stk) p (FUJ + 1 + 1) 1 x 0 = [] := by rw [flx1_4 hx7 rfl]; exact l0
      have f11 : FLX (vM E) (eLU E stk) p (FUJ + 1 + 1) 1 x 1 = [] := by rw [flx1_4 hx7 rfl]; exact l0
      have wl := WLE (cur := p) hSY q5 (FUJ + 1 + 1) 1 x 0 (Or.inl (by omega)) hOv.1 f10
      refine ⟨fun a a' Z hA => ?_, fun b qq b' q2' hM => ?_⟩
      · rw [← q1', ← q2, ← q3, ← q4] at hA
        obtain ⟨_, _, n1, aE, b3, _, hc, _, he9, _, hP2, _, e9⟩ := hA
        have := wl.1 _ _ _ _ (hc f11)
        have := m1 _ _ _ hP2
        rw [← hl1] at he9
        have := els_le hSY q5 l (n1 + 1) hO he9 l1
        omega
      · rw [← q1', ← q3, ← q4] at hM
        obtain ⟨_, r1, _, hel, _, e3, _, hP1, _, hfes⟩ := hM
        have := wl.2 (eLV E p) 0 (b + 2) r1 (dM E) (by rw [cdm1_4 hx7 rfl]; exact hel l0)
        have := m2 _ _ _ _ hP1
        have := fes_leS hSY q5 (fun b b' h => by have := h.2; omega) (fun b b' h => by have := h.2.2; omega) l (e3 + 1) hO hfes l1
        omega
    · obtain ⟨q1', q2, q3, q4, q5, q6, q7⟩ := id hEQ
      obtain ⟨l02, l1⟩ := app_nil hL
      obtain ⟨l0, l2⟩ := app_nil l02
      have hsimL : ∀ L, L ≤ Lim → SPQ E L stk p (sg + 1) q s0 PA PM := fun L hLL => hsim E s0 L hEQ hq l2 (hSO.le hLL)
      rw [← q1', ← q3] at l1 l0
      rw [← q1'] at hx7 hplc hels
      rw [← q1', ← q3] at hfe
      have hO : ∀ xx ∈ l, feS kd wr m (vM E) (eLU E stk) lev p (FUJ + 1) xx ∧ ENF E (FUJ + 1) 490 xx := fun xx hxx => ⟨hfe xx hxx, enf_of (hfe xx hxx) (hels xx.1 (by rw [← hl1]; exact List.mem_map_of_mem hxx)) hbN (by omega)⟩
      have hOv := hplc (FUJ + 1 + 1) (by omega)
      have f11 : FLX (vM E) (eLU E stk) p (FUJ + 1 + 1) 1 x 1 = [] := by rw [flx1_4 hx7 rfl]; exact l0
      rw [← q1', ← q2, ← q3, ← q4] at hA
      rw [← q1', ← q3, ← q4] at hM
      exact sp_fore hSO q5 hl1 hl0 hsimL (by omega) hx7 hA hM l0 f11 l1 hO ⟨hOv.1, Nat.le_trans hOv.2 hbP⟩ (by omega) hZ ⟨hq', q6⟩ ha hb h0
end OE4
