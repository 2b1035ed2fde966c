/-! PASS 2, THE REFERENCE: EXPRS, whole -/
section SG
variable {kd wr nm : Nat → Nat} {vv : Nat → Int64} {m lev cur : Nat} {fA fM : Wd} {C TK : Nat → Nat} {SL : Nat → List Nat}
/-- signs: the reference's numbers -/
theorem kM_29 : Int32.ofNat (kM 29) = 281 := by decide +kernel
/-- a node of events evs: the costs of its calls, what's done with it -/
theorem lpR_all {Q : EV → Prop} {f : Nat → RS} {l : Nat} (hs : ∀ t, Q (2, kd t, t)) (hf : ∀ t r, f t = .inr r → ∀ x ∈ r.2, Q x) : ∀ (n t : Nat) (ev : List EV) (r : Nat × List EV), (∀ x ∈ ev, Q x) → lpR kd f l n t ev = .inr r → ∀ x ∈ r.2, Q x := by
  intro n
  induction n with
  | zero => intro t ev r hq h; injection h with h; rw [← h]; exact hq
  | succ n ih =>
    intro t ev r hq h
    unfold lpR at h
    by_cases q : stb (kd t) = l
    · rw [if_pos q] at h
      rcases hx : f (t + 1) with p | r2
      · rw [hx] at h; exact nomatch h
      · rw [hx] at h
        have hq2 : ∀ x ∈ ev ++ r2.2 ++ [(2, kd t, t)], Q x := fun x hm => by
          rcases List.mem_append.mp hm with hm | hm
          · rcases List.mem_append.mp hm with hm | hm
            · exact hq x hm
            · exact hf _ _ hx x hm
          · rw [List.mem_singleton.mp hm]; exact hs t
        dsimp only at h
        by_cases q6 : l = 6
        · rw [if_pos q6] at h
          injection h with h
          rw [← h]
          exact hq2
        · rw [if_neg q6] at h
          exact ih _ _ _ hq2 h
    · rw [if_neg q] at h
      injection h with h
      rw [← h]
      exact hq
theorem rdN_all {Q : EV → Prop} {f : Nat → Nat → RS} (hs : ∀ t, Q (1, kd t, t)) (hf : ∀ d t r, f d t = .inr r → ∀ x ∈ r.2, Q x) : ∀ (n d t : Nat) (r : Nat × List EV), rdN kd f n d t = .inr r → ∀ x ∈ r.2, Q x := by
  intro n
  induction n with
  | zero => exact fun d t r h => hf d t r h
  | succ n ih =>
    intro d t r h
    unfold rdN at h
    by_cases q : kd t = 29
    · rw [if_pos q] at h
      by_cases q2 : 40 ≤ d
      · rw [if_pos q2] at h; exact nomatch h
      · rw [if_neg q2] at h
        rcases hx : rdN kd f n (d + 1) (t + 1) with p | r2
        · rw [hx] at h; exact nomatch h
        · rw [hx] at h
          have h1 := ih _ _ _ hx
          injection h with h
          rw [← h]
          intro x hm
          rcases List.mem_append.mp hm with hm | hm
          · exact h1 x hm
          · rw [List.mem_singleton.mp hm, ← q]; exact hs t
    · rw [if_neg q] at h
      exact hf _ _ _ h
/-- what all events of a level have -/
theorem rd_all {Q : EV → Prop} {pr : Nat → Nat → Sum Nat Nat} (h0 : ∀ t d, Q (0, t, d)) (h1 : ∀ t, Q (1, kd t, t)) (h2 : ∀ t, Q (2, kd t, t)) : ∀ (j d t : Nat) (r : Nat × List EV), rd kd pr j d t = .inr r → ∀ x ∈ r.2, Q x := by
  intro j
  induction j with
  | zero =>
    intro d t r h
    unfold rd at h
    rcases hx : pr d t with p | e
    · rw [hx] at h; exact nomatch h
    · rw [hx] at h
      injection h with h
      rw [← h]
      intro x hm
      rw [List.mem_singleton.mp hm]
      exact h0 _ _
  | succ j ih =>
    intro d t r h
    unfold rd at h
    by_cases q : j = 4
    · rw [if_pos q] at h
      exact rdN_all h1 ih _ _ _ _ h
    · rw [if_neg q] at h
      by_cases q2 : j = 2 ∧ (kd t = 33 ∨ kd t = 34)
      · rw [if_pos q2] at h
        rcases hx : rd kd pr j d (t + 1) with p | r2
        · rw [hx] at h; exact nomatch h
        · rw [hx] at h
          refine lpR_all h2 (fun t r h => ih d t r h) _ _ _ _ (fun x hm => ?_) h
          rcases List.mem_append.mp hm with hm | hm
          · exact ih _ _ _ hx x hm
          · rw [List.mem_singleton.mp hm]; exact h1 t
      · rw [if_neg q2] at h
        rcases hx : rd kd pr j d t with p | r2
        · rw [hx] at h; exact nomatch h
        · rw [hx] at h
          exact lpR_all h2 (fun t r h => ih d t r h) _ _ _ _ (ih _ _ _ hx) h
theorem pev_all (hT : TBM kd wr nm vv m C TK SL fA fM) (hFM : PFM fM (C 1)) (hcu : CUR fM cur) (hk9 : ∀ i, 9000 ≤ i → kd i = 0) {k : Nat} {stk : List Nat} (hU : UPM (C 2) fM stk) (hl : stk.length < 9000)
    (hW : ∀ d, d ≤ 39 → ∀ lo x s e cn, PWR kd fM (hdM stk) k lo x (d + 1) s e cn → x < 24000 → e ≤ m → lo ≤ x ∧ s < e ∧ ALN kd wr m fM (luN nm TK SL stk) lev cur x (e - s) cn (40 * (40 - d) + 36)) : ∀ (q lo n d s : Nat) (evs : List EV) (cn : Nat), PEV kd fM (PWR kd fM (hdM stk) k) (hdM stk) q lo n d s evs cn → n < 24000 → (∀ x ∈ evs, x.1 = 0 → ∃ e', xp kd k x.2.2 x.2.1 = .inr e' ∧ e' ≤ m) → (∀ x ∈ evs, x.1 ≠ 0 → x.2.1 < 51) → lnS (xp kd k) evs ≤ 8193 →
    ∃ h, (∀ st, cst evs st = h :: st) ∧ 1 ≤ lnS (xp kd k) evs ∧ s < m ∧ gi fM 12 n = Int32.ofNat s ∧ gi fM 45 n = Int32.ofNat cn ∧ (cn = 1 ∨ cn = 3) ∧
      ((gi fM 7 n = 6 ∨ gi fM 7 n = 7) ∧ cn = 1 ∧ (∀ K N, 4 * n + 1 ≤ K → h ≤ N → VS kd wr m fM (luN nm TK SL stk) lev cur K N n (lnS (xp kd k) evs)) ∨ gi fM 7 n ≠ 6 ∧ gi fM 7 n ≠ 7 ∧ h = 40 * (41 - d) + 4 ∧ ALN kd wr m fM (luN nm TK SL stk) lev cur n (lnS (xp kd k) evs) cn (40 * (41 - d) + 2)) ∧
      (∀ K M, 4 * n + 1 ≤ K → h ≤ M + 2 → 2 ≤ M → DS kd wr m fM (luN nm TK SL stk) lev cur K M n (lnS (xp kd k) evs)) ∧ (gi fM 7 n ≠ 6 → ∀ K N, 4 * n + 1 ≤ K → h ≤ N + 2 → VS kd wr m fM (luN nm TK SL stk) lev cur K N n (lnS (xp kd k) evs)) := by
  have hm := hT.2.1.1.1
  intro q
  induction q with
  | zero => exact fun _ _ _ _ _ _ h => h.elim
  | succ q ih =>
    intro lo n d s evs cn h hn hq hsg hln
    obtain ⟨h0, h4⟩ := h
    rcases h4 with ⟨k7, c1, k45, k12, x, y, sg, tk, s2, ex, ey, cx, cy, b1, b2, b3, b4, b5, b6, b7, b8, b9⟩ | ⟨k7, c1, k45, k12, x, sg, ex, cx, b1, b2, b3, b4, b5, b6⟩ | ⟨e, h5, h6⟩
    · -- a sign for two
      subst b7
      have hl1 : lnS (xp kd k) (ex ++ ey ++ [(2, sg, tk)]) = lnS (xp kd k) ex + lnS (xp kd k) ey + 1 := by
        rw [lnS_app, lnS_app]
        rfl
      rw [hl1] at hln
      obtain ⟨hx, x1, x2, x3, x4, x5, x6, x7, x8, x9⟩ := ih _ _ _ _ _ _ b8 (by omega) (fun z hz => hq z (List.mem_append_left _ (List.mem_append_left _ hz))) (fun z hz => hsg z (List.mem_append_left _ (List.mem_append_left _ hz))) (by omega)
      obtain ⟨hy, y1, y2, y3, y4, y5, y6, y7, y8, y9⟩ := ih _ _ _ _ _ _ b9 (by omega) (fun z hz => hq z (List.mem_append_left _ (List.mem_append_right _ hz))) (fun z hz => hsg z (List.mem_append_left _ (List.mem_append_right _ hz))) (by omega)
      have hsg5 : sg < 51 := hsg _ (List.mem_append_right _ (List.mem_singleton.mpr rfl)) (show 2 ≠ 0 by omega)
      have htw : TWN fM m n x y s s2 sg := ⟨hn, by omega, by omega, k7, b1, b2, b3, b4, hsg5, x4, y4, by omega, by omega⟩
      have hVy : ∀ K N, 4 * y + 1 ≤ K → hy ≤ N → VS kd wr m fM (luN nm TK SL stk) lev cur K N y (lnS (xp kd k) ey) := fun K N hK hN => by
        rcases y7 with ⟨_, _, g⟩ | ⟨g1, _, _, _⟩
        · exact g K N hK hN
        · exact y9 g1 K N hK (by omega)
      have hDS : ∀ K M, 4 * n + 1 ≤ K → max hx (hy + 4) ≤ M + 2 → 2 ≤ M → DS kd wr m fM (luN nm TK SL stk) lev cur K M n (lnS (xp kd k) ex + lnS (xp kd k) ey + 1) := fun K M hK hM h2 => by
        obtain ⟨K1, rfl⟩ : ∃ K1, K = K1 + 1 := ⟨K - 1, by omega⟩
        obtain ⟨M1, rfl⟩ : ∃ M1, M = M1 + 2 := ⟨M - 2, by omega⟩
        exact ds_two htw (x8 K1 (M1 + 2) (by omega) (by omega) (by omega)) (fun N' hN' => hVy K1 N' (by omega) (by omega)) x2 y2
      rw [hl1]
      refine ⟨max hx (hy + 4), fun st => ?_, by omega, x3, k12, by rw [c1]; exact k45, Or.inl c1, Or.inl ⟨Or.inl k7, c1, fun K N hK hN => ?_⟩, hDS, fun g => absurd k7 g⟩
      · rw [cst_app, cst_app, x1, y1]
        rfl
      · obtain ⟨M, rfl⟩ : ∃ M, N = M + 2 := ⟨N - 2, by omega⟩
        exact vs_two (hDS K M hK (by omega) (by omega)) hn k7 (by omega)
    · -- a sign for one
      subst b5
      have hl1 : lnS (xp kd k) (ex ++ [(1, sg, s)]) = lnS (xp kd k) ex + 1 := by
        rw [lnS_app]
        rfl
      rw [hl1] at hln
      obtain ⟨hx, x1, x2, x3, x4, x5, x6, x7, x8, x9⟩ := ih _ _ _ _ _ _ b6 (by omega) (fun z hz => hq z (List.mem_append_left _ hz)) (fun z hz => hsg z (List.mem_append_left _ hz)) (by omega)
      have hVx : ∀ K N, 4 * x + 1 ≤ K → hx ≤ N → VS kd wr m fM (luN nm TK SL stk) lev cur K N x (lnS (xp kd k) ex) := fun K N hK hN => by
        rcases x7 with ⟨_, _, g⟩ | ⟨g1, _, _, _⟩
        · exact g K N hK hN
        · exact x9 g1 K N hK (by omega)
      have hVn : ∀ K N, 4 * n + 1 ≤ K → hx + 4 ≤ N + 2 → VS kd wr m fM (luN nm TK SL stk) lev cur K N n (lnS (xp kd k) ex + 1) := fun K N hK hN => by
        obtain ⟨K1, rfl⟩ : ∃ K1, K = K1 + 1 := ⟨K - 1, by omega⟩
        obtain ⟨N1, rfl⟩ : ∃ N1, N = N1 + 2 := ⟨N - 2, by omega⟩
        exact vs_one hn (by omega) k7 b1 x4 (by omega) x2 (hVx K1 N1 (by omega) (by omega))
      rw [hl1]
      refine ⟨hx + 4, fun st => ?_, by omega, by omega, k12, by rw [c1]; exact k45, Or.inl c1, Or.inl ⟨Or.inr k7, c1, fun K N hK hN => hVn K N hK (by omega)⟩, fun K M hK hM _ => ds_one (hVn K M hK hM) hn (by rw [k7]; decide), fun _ K N hK hN => hVn K N hK hN⟩
      rw [cst_app, x1]
      rfl
    · -- an operand
      subst h5
      obtain ⟨e', g1, g2⟩ := hq (0, s, d) (List.mem_singleton.mpr rfl) rfl
      have hp := h6
      obtain ⟨_, k12, k13, k45, h7⟩ := h6
      have hlt9 : ∀ i, kd i ≠ 0 → i < 9000 := fun i hi => by
        by_cases q9 : 9000 ≤ i
        · exact absurd (hk9 i q9) hi
        · omega
      have he9 : e ≤ 9000 := by
        rcases h7 with ⟨_, z1, z2, _⟩ | ⟨_, z1, z2, _⟩ | ⟨_, z1, _, _, e1, _, _, _, z2, z3⟩ | ⟨_, z1, _, _, z2, _⟩ | ⟨c, _, e1, z0, _, _, _, _, _, _, z1, z2⟩
        · have := hlt9 s (by omega); omega
        · have := hlt9 s (by omega); omega
        · have := hlt9 e1 (by omega); omega
        · have := hlt9 s (by omega); omega
        · have := hlt9 e1 (by omega); omega
      -- it ends where it's said to
      have hee : e = e' := by
        have := PRI_xp (k := k) (W := PWR kd fM (hdM stk) k) (fun lo x d s e cn h => PWR_xw k h) hp he9
        rw [g1] at this
        injection this with this
        exact this.symm
      subst hee
      have hln1 : lnS (xp kd k) [(0, s, d)] = e - s := by
        show lnE (xp kd k) (0, s, d) + 0 = _
        unfold lnE
        rw [if_pos rfl]
        dsimp only
        rw [g1]
        rfl
      obtain ⟨r1, r2⟩ := pri_all hT hFM hcu hU hl (fun hd lo x s e cn h => hW d hd lo x s e cn h) hp hn g2
      have hcn := r2.2.2.2.2.2.2.2.2.2
      have hk6 : gi fM 7 n ≠ 6 ∧ gi fM 7 n ≠ 7 := by
        rcases h7 with ⟨g, _⟩ | ⟨g, _⟩ | ⟨g, _⟩ | ⟨g, _⟩ | ⟨_, _, _, g, _⟩
        · rw [g]; decide
        · rw [g]; decide
        · rw [g]; decide
        · rw [g]; decide
        · rcases g with ⟨g, _⟩ | ⟨g, _⟩ <;> rw [g] <;> decide
      have hV := r2.2.2.2.1
      rw [hln1]
      refine ⟨40 * (41 - d) + 4, fun st => rfl, by omega, by omega, k12, k45, hcn, Or.inr ⟨hk6.1, hk6.2, rfl, r2⟩, fun K M hK hM _ => ds_one (hV K M hK (by omega)) hn hk6.1, fun _ K N hK hN => hV K N hK (by omega)⟩
/-- a simple EXPR -/
theorem psm_all (hT : TBM kd wr nm vv m C TK SL fA fM) (hFM : PFM fM (C 1)) (hcu : CUR fM cur) (hk9 : ∀ i, 9000 ≤ i → kd i = 0) {k : Nat} {stk : List Nat} (hU : UPM (C 2) fM stk) (hl : stk.length < 9000)
    (hW : ∀ d, d ≤ 39 → ∀ lo x s e cn, PWR kd fM (hdM stk) k lo x (d + 1) s e cn → x < 24000 → e ≤ m → lo ≤ x ∧ s < e ∧ ALN kd wr m fM (luN nm TK SL stk) lev cur x (e - s) cn (40 * (40 - d) + 36)) {lo n d s e cn : Nat} (h : PSM kd fM k (PWR kd fM (hdM stk) k) (hdM stk) lo n d s e cn) (hn : n < 24000) (he : e ≤ m) : lo ≤ n ∧ s < e ∧ ALN kd wr m fM (luN nm TK SL stk) lev cur n (e - s) cn (40 * (41 - d) + 36) := by
  have hm := hT.2.1.1.1
  have hk50 := hT.2.1.1.2.2.2.1
  obtain ⟨evs, q, h1, h2⟩ := h
  have hpq := rd_pq (fun d t e h => xp_lt k d t e h) 9 d s _ h1
  have hsg := rd_all (Q := fun x => x.1 ≠ 0 → x.2.1 < 51) (fun t d g => absurd rfl g) (fun t _ => by have := hk50 t; show kd t < 51; omega) (fun t _ => by have := hk50 t; show kd t < 51; omega) 9 d s _ h1
  obtain ⟨hq1, hh, hq2, hq3⟩ := rd_mq (fun d t e h => xp_lt k d t e h) 9 d s _ h1
  have hq1 : e = s + lnS (xp kd k) evs := hq1
  have hg9 : gl5 9 = 8 := by decide
  rw [hg9] at hq2
  obtain ⟨h', x1, x2, x3, x4, x5, x6, x7, x8, x9⟩ := pev_all hT hFM hcu hk9 hU hl hW q lo n d s evs cn h2 hn (fun x hx h0 => by
    obtain ⟨_, e', g1, g2⟩ := hpq x hx h0
    exact ⟨e', g1, Nat.le_trans g2 he⟩) hsg (by omega)
  have hhe : h' = hh := by
    have := (x1 []).symm.trans (hq3 [])
    injection this
  refine ⟨PEV_lo h2, by omega, ?_⟩
  rw [show e - s = lnS (xp kd k) evs by omega]
  rcases x7 with ⟨g1, g2, g3⟩ | ⟨_, _, _, g⟩
  · have n3 : gi fM 7 n ≠ 3 ∧ gi fM 7 n ≠ 4 := by
      rcases g1 with g | g <;> rw [g] <;> decide
    refine aln_mk hT hU hl hn x2 x4 x3 x5 x6 (fun g => absurd g n3.1) (fun K N hK hN => g3 K N hK (by omega)) (fun g => by omega) (fun g => g.elim (fun g => absurd g n3.1) (fun g => absurd g n3.2)) (fun K N hK hN hL => ?_)
    rcases g1 with g | g
    · exact as_other (s := 6) hn g (by omega) (by omega) (by omega) (by omega) (by omega) x4 (by omega) hL
    · exact as_other (s := 7) hn g (by omega) (by omega) (by omega) (by omega) (by omega) x4 (by omega) hL
  · exact g.up (by omega)
/-- an EXPR -/
theorem pwr_all (hT : TBM kd wr nm vv m C TK SL fA fM) (hFM : PFM fM (C 1)) (hcu : CUR fM cur) (hk9 : ∀ i, 9000 ≤ i → kd i = 0) {stk : List Nat} (hU : UPM (C 2) fM stk) (hl : stk.length < 9000) : ∀ (k lo n d s e cn : Nat), PWR kd fM (hdM stk) k lo n d s e cn → n < 24000 → e ≤ m → lo ≤ n ∧ s < e ∧ ALN kd wr m fM (luN nm TK SL stk) lev cur n (e - s) cn (40 * (41 - d) + 36) := by
  intro k
  induction k with
  | zero => exact fun _ _ _ _ _ _ h => h.elim
  | succ k ih =>
    intro lo n d s e cn h hn he
    have hW : ∀ d, d ≤ 39 → ∀ lo x s e cn, PWR kd fM (hdM stk) k lo x (d + 1) s e cn → x < 24000 → e ≤ m → lo ≤ x ∧ s < e ∧ ALN kd wr m fM (luN nm TK SL stk) lev cur x (e - s) cn (40 * (40 - d) + 36) := fun d hd lo x s e cn h hx he => by
      have := ih lo x (d + 1) s e cn h hx he
      rw [show 41 - (d + 1) = 40 - d by omega] at this
      exact this
    rcases h with ⟨a1, a2, h0, a3, a4, a5, c, y, z, e1, e2, cc, cy, cz, b1, b2, b3, b4, b5, b6, c1, c2, c3, c4, c5, c6⟩ | ⟨h1, h2⟩
    · have l1 := xw_lt _ _ _ _ (PWR_xw k c1)
      have l2 := smX_lt (fun d t e h => xp_lt k d t e h) (PSM_sm c3)
      have l3 := xw_lt _ _ _ _ (PWR_xw k c5)
      obtain ⟨_, _, x1, x2, ⟨tx, x31, x32⟩, x4, x5, x6, x7, x8, x9⟩ := hW d a2 _ _ _ _ _ c1 (by omega) (by omega)
      have hy := psm_all hT hFM hcu hk9 hU hl hW c3 (by omega) (by omega)
      rw [show 41 - (d + 1) = 40 - d by omega] at hy
      obtain ⟨_, _, y1, y2, ⟨ty, y31, y32⟩, y4, y5, y6, y7, y8, y9⟩ := hy
      obtain ⟨_, _, z1, z2, ⟨tz, z31, z32⟩, z4, z5, z6, z7, z8, z9⟩ := hW d a2 _ _ _ _ _ c5 (by omega) (by omega)
      refine ⟨h0, by omega, ?_⟩
      rw [show e - s = (e1 - (s + 1)) + (e2 - (e1 + 1)) + (e - (e2 + 1)) + 3 by omega]
      refine aln_mk hT hU hl hn (by omega) a4 (by omega) a5 (by rw [c6]; split <;> omega) (fun g => absurd (a3.symm.trans g) (by decide)) (fun K N hK hN => ?_) (fun g K N hK hN => ?_) (fun g => g.elim (fun g => absurd (a3.symm.trans g) (by decide)) (fun g => absurd (a3.symm.trans g) (by decide))) (fun K N hK hN hL => ?_)
      · obtain ⟨k1, rfl⟩ : ∃ k1, K = k1 + 1 := ⟨K - 1, by omega⟩
        obtain ⟨N1, rfl⟩ : ∃ N1, N = N1 + 2 := ⟨N - 2, by omega⟩
        exact vs_if hn x1 z1 a3 b1 b2 b3 y1 x31 (by omega) z31 (by omega) x2 y2 z2 (x4 _ _ (by omega) (by omega)) (y4 _ _ (by omega) (by omega)) (z4 _ _ (by omega) (by omega))
      · obtain ⟨k1, rfl⟩ : ∃ k1, K = k1 + 1 := ⟨K - 1, by omega⟩
        obtain ⟨N1, rfl⟩ : ∃ N1, N = N1 + 2 := ⟨N - 2, by omega⟩
        have hyz : cy = 3 ∧ cz = 3 := by
          rw [g] at c6
          by_cases q : cy = 3 ∧ cz = 3
          · exact q
          · rw [if_neg q] at c6
            omega
        exact ns_if hn x1 y1 z1 a3 b1 b2 b3 x31 (by omega) x2 y2 z2 (x4 _ _ (by omega) (by omega)) (y8 hyz.1 _ _ (by omega) (by omega)) (z8 hyz.2 _ _ (by omega) (by omega))
      · obtain ⟨N1, rfl⟩ : ∃ N1, N = N1 + 1 := ⟨N - 1, by omega⟩
        exact as_if hn x1 y1 z1 a3 b1 b2 b3 x31 (by omega) x2 y2 z2 (x4 _ _ (by omega) (by omega)) (y6 _ _ (by omega) (by omega)) (z6 _ _ (by omega) (by omega))
    · exact psm_all hT hFM hcu hk9 hU hl hW h2 hn he
/-- AIMS -/
theorem pam_all (hT : TBM kd wr nm vv m C TK SL fA fM) (hFM : PFM fM (C 1)) (hcu : CUR fM cur) (hk9 : ∀ i, 9000 ≤ i → kd i = 0) {stk : List Nat} (hU : UPM (C 2) fM stk) (hl : stk.length < 9000) : ∀ (k lo n d s e : Nat), PAM kd fM (hdM stk) k lo n d s e → n < 24000 → e ≤ m → lo ≤ n ∧ s < e ∧ gi fM 12 n = Int32.ofNat s ∧ ∀ K N, 4 * n + 1 ≤ K → 40 * (41 - d) + 38 ≤ N → AIS kd wr m fM (luN nm TK SL stk) lev cur K N n (e - s) := by
  intro k
  induction k with
  | zero => exact fun _ _ _ _ _ h => h.elim
  | succ k ih =>
    intro lo n d s e h hn he
    have hm := hT.2.1.1.1
    obtain ⟨h0, h12, h13, h4⟩ := h
    rcases h4 with ⟨a1, a2, a3, c, y, z, e1, e2, cc, b1, b2, b3, b4, b5, b6, c1, c2, c3, c4, c5⟩ | ⟨a1, a2, a3, x, e1, b1, b2, b3, b4, b5⟩ | ⟨a1, a2, a3, a4, a5, x, e1, cx, b1, b2, b3, b4, b5⟩ | ⟨a1, a2, a3, a4⟩
    · have l2 := amX_lt k _ _ _ (PAM_am k c3)
      have l3 := amX_lt k _ _ _ (PAM_am k c5)
      obtain ⟨_, g1, x1, x2, ⟨tx, x31, x32⟩, x4, _⟩ := pwr_all hT hFM hcu hk9 hU hl k _ _ _ _ _ _ c1 (by omega) (by omega)
      obtain ⟨_, _, y3, y4⟩ := ih _ _ _ _ _ c3 (by omega) (by omega)
      obtain ⟨_, _, z3, z4⟩ := ih _ _ _ _ _ c5 (by omega) (by omega)
      refine ⟨h0, by omega, h12, fun K N hK hN => ?_⟩
      obtain ⟨k1, rfl⟩ : ∃ k1, K = k1 + 1 := ⟨K - 1, by omega⟩
      obtain ⟨N1, rfl⟩ : ∃ N1, N = N1 + 2 := ⟨N - 2, by omega⟩
      rw [show e - s = (e1 - (s + 1)) + (e2 - (e1 + 1)) + (e - (e2 + 1)) + 3 by omega]
      exact as_if hn x1 (by omega) (by omega) a3 b1 b2 b3 x31 (by omega) x2 (by omega) (by omega) (x4 _ _ (by omega) (by omega)) (y4 _ _ (by omega) (by omega)) (z4 _ _ (by omega) (by omega))
    · obtain ⟨_, g1, y3, y4⟩ := ih _ _ _ _ _ b3 (by omega) (by omega)
      refine ⟨h0, by omega, h12, fun K N hK hN => ?_⟩
      obtain ⟨k1, rfl⟩ : ∃ k1, K = k1 + 1 := ⟨K - 1, by omega⟩
      obtain ⟨N1, rfl⟩ : ∃ N1, N = N1 + 1 := ⟨N - 1, by omega⟩
      rw [show e - s = (e1 - (s + 1)) + 2 by omega]
      exact as_group hn (by omega) a3 b1 (y4 _ _ (by omega) (by omega))
    · obtain ⟨_, g1, x1, x2, ⟨tx, x31, x32⟩, x4, _⟩ := pwr_all hT hFM hcu hk9 hU hl k _ _ _ _ _ _ b3 (by omega) (by omega)
      refine ⟨h0, by omega, h12, fun K N hK hN => ?_⟩
      obtain ⟨k1, rfl⟩ : ∃ k1, K = k1 + 1 := ⟨K - 1, by omega⟩
      obtain ⟨N1, rfl⟩ : ∃ N1, N = N1 + 2 := ⟨N - 2, by omega⟩
      rw [show e - s = (e1 - (s + 2)) + 3 by omega]
      exact as_index hT hU hl hn x1 a4 a5 b1 h12 h13 (by omega) a1 x31 (by omega) x2 (x4 _ _ (by omega) (by omega))
    · refine ⟨h0, by omega, h12, fun K N hK hN => ?_⟩
      obtain ⟨k1, rfl⟩ : ∃ k1, K = k1 + 1 := ⟨K - 1, by omega⟩
      obtain ⟨N1, rfl⟩ : ∃ N1, N = N1 + 1 := ⟨N - 1, by omega⟩
      rw [show e - s = 1 by omega]
      exact as_name hT hU hl hn a3 h12 h13 (by omega) a1
end SG
