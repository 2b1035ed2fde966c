/-! PASS 2, THE CLASS: simple EXPRS as nodes -/
section EC
variable {kd wr : Nat → Nat} {z : Nat} {fA fM : Wd} {lu : Nat → Nat} {lev cur : Nat} {pn : Nat → Int32} {m G : Nat} {C TK : Nat → Nat}
theorem PRI_em {W : PWT} {sc : Int32} {lo n d s e cn : Nat} (hk0 : ∀ i, m ≤ i → kd i = 0) (h : PRI kd fM W sc lo n d s e cn) : e ≤ m := by
  have hsm : ∀ i, kd i ≠ 0 → i < m := fun i hk => by
    by_cases q : i < m
    · exact q
    · exact absurd (hk0 i (by omega)) hk
  obtain ⟨h0, h12, h13, h45, h4⟩ := h
  rcases h4 with ⟨k7, q1, q2, q3⟩ | ⟨k7, q1, q2, q3⟩ | ⟨k7, q1, q2, x, e1, q3, q4, q5, q6, q7⟩ | ⟨k7, q1, q2, q3, q4, q5⟩ | ⟨c, xs, e1, q0, q1, q2, q3, q4, q5, q6, q7, q8⟩
  · have := hsm s (by omega); omega
  · have := hsm s (by omega); omega
  · have := hsm e1 (by omega); omega
  · have := hsm s (by omega); omega
  · have := hsm e1 (by omega); omega
/-- all that's told of what stays, while codes of a procedure are made -/
def CTX (kd wr : Nat → Nat) (m z : Nat) (C TK : Nat → Nat) (fA fM : Wd) (lu : Nat → Nat) (lev cur : Nat) (pn : Nat → Int32) : Prop :=
  SYT kd m C TK lu fA fM ∧ PFM fM (C 1) ∧ PNR fM fA C lev cur pn ∧ (∀ i, wr i ≤ 8192) ∧ z ≤ 8193 ∧ (∀ i, i < m → wr i + 1 ≤ wr (i + 1)) ∧ m < z ∧ (∀ i, m ≤ i → kd i = 0)
theorem alc_psm (hc : CTX kd wr m z C TK fA fM lu lev cur pn) {sc : Int32} {k lo n d s e cn : Nat} (h : PSM kd fM k (PWR kd fM sc k) sc lo n d s e cn) (hfm : fmS kd k (fmW kd fA k) fA d s) (IH : ∀ lo x d s e cn, PWR kd fM sc k lo x d s e cn → x < 24000 → e ≤ m → d ≤ 40 → fmW kd fA k d s → s < e ∧ ALC kd wr m z fA fM lu lev cur pn d x s e cn G) (hk15 : kd s ≠ 15) (hn : n < 24000) (he : e ≤ m) (hd : d ≤ 40) :
    s < e ∧ ALC kd wr m z fA fM lu lev cur pn d n s e cn (G + 6) ∧ ∀ K N, 4 * n + 1 ≤ K → G + 5 ≤ N → SPE kd wr z fA lu lev pn d s e (TYX fM lu K n) (FLX fM lu cur K 0 n 0) (fun b b' g => FLX fM lu cur K 0 n 0 = [] → CDC fM fA lu lev K 0 n 0 b b' g) (4 * (wr e - wr s) - 1) (fun w => RX2_typed N 3 (Int32.ofNat d) 0 0 w) := by
  obtain ⟨hS, hFM, hPN, hwr, hz, hW, hz9, hk0⟩ := hc
  obtain ⟨evs, q, hrd, hpev⟩ := h
  have hk9 : ∀ i, 9000 ≤ i → kd i = 0 := fun i hi => hk0 i (by omega)
  have hlt : ∀ d t e, xp kd k d t = .inr e → t < e := fun d t e h => xp_lt k d t e h
  obtain ⟨hse, hqd2, hqd3, hnd, hqd5⟩ := rd_qd (kd := kd) (pr := xp kd k) hW hlt 9 d s (e, evs) hrd
  have hse : s < e := hse
  have hwe := wr_mo hW e hse he
  obtain ⟨h10, h8, h9, hinP⟩ := hfm (e, evs) hrd
  have h10 : gi fA 10 s = Int32.ofNat e := h10
  have h8 : gi fA 8 s = (if evs = [(0, s, d)] then fmX kd k d s else 6) := h8
  -- parts with their forms
  have hWf : ∀ lo x d s e cn, (PWR kd fM sc k lo x d s e cn ∧ fmW kd fA k d s) → xw kd k d s = .inr e ∧ lo ≤ x := fun lo x d s e cn h => ⟨PWR_xw k h.1, (PWR.agr k fM fM _ _ _ _ _ _ h.1).1⟩
  have hI : ∀ d n, d ≤ 39 → n < 24000 → RWY kd wr m z fA fM lu lev cur pn (fun lo x d s e cn => PWR kd fM sc k lo x d s e cn ∧ fmW kd fA k d s) n (d + 1) G := fun d n hd hn lo x s e cn h hx he => IH lo x (d + 1) s e cn h.1 (by omega) he (by omega) h.2
  have hPf : ∀ {lo n d t e cn}, PRI kd fM (PWR kd fM sc k) sc lo n d t e cn → inP kd k (fmW kd fA k) d t → PRI kd fM (fun lo x d s e cn => PWR kd fM sc k lo x d s e cn ∧ fmW kd fA k d s) sc lo n d t e cn := fun {lo n d t e cn} h hin => PRI.forms (V := fmW kd fA k) (fun lo x d s e cn h => ⟨PWR_xw k h, xw_lt _ _ _ _ (PWR_xw k h)⟩) h hin (by have := PRI_em hk0 h; omega)
  have hPx : ∀ {lo n d t e cn}, PRI kd fM (PWR kd fM sc k) sc lo n d t e cn → xp kd k d t = .inr e := fun {lo n d t e cn} h => PRI_xp (fun lo x d s e cn h => PWR_xw k h) h (by have := PRI_em hk0 h; omega)
  -- faults
  have hM0 : ∀ K, 4 * n + 1 ≤ K → MSF kd lu s e (FLX fM lu cur K 0 n 0) := fun K hK => by
    obtain ⟨nn, kk, hN⟩ := pev_nn q K lo n d s evs cn hpev hnd
    refine c_simpleM (nn := nn) (kk := kk) hk9 hrd hN hn hK (fun t d' ht e' he' => ?_)
    obtain ⟨lo', e2, cn', p1, p2, p3, _⟩ := PEVN.pri q K lo n d s evs cn hN hK hn t d' ht
    have hee : e2 = e' := by
      have := hPx p1
      rw [he'] at this
      injection this with this
      exact this.symm
    subst hee
    exact ms_pri (G := G) hz hk0 hz9 hWf (fun h39 => hI d' (nn t) h39 p2) (hPf p1 (hinP _ ht rfl)) p2 (PRI_em hk0 p1) p3
  -- the class goes over it
  have hX3 : ∀ K N, 4 * n + 1 ≤ K → G + 5 ≤ N → SPE kd wr z fA lu lev pn d s e (TYX fM lu K n) (FLX fM lu cur K 0 n 0) (fun b b' g => FLX fM lu cur K 0 n 0 = [] → CDC fM fA lu lev K 0 n 0 b b' g) (4 * (wr e - wr s) - 1) (fun w => RX2_typed N 3 (Int32.ofNat d) 0 0 w) := fun K N hK hN => by
    obtain ⟨N, rfl⟩ : ∃ N', N = N' + 1 := ⟨N - 1, by omega⟩
    obtain ⟨nn, kk, hNN⟩ := pev_nn q K lo n d s evs cn hpev hnd
    refine (c_simpleE (rc := RX2_typed N) (k := k) (nn := nn) (kk := kk) hwr hW hz9 hk9 hrd hNN hn hK he hd (fun t d' ht e' he' hem => ?_) (fun x hx => ((hM0 K hK).1 x hx).1) h10 h8 h9).wk (fun _ _ _ h => h) (Nat.le_refl _)
    obtain ⟨lo', e2, cn', p1, p2, p3, _⟩ := PEVN.pri q K lo n d s evs cn hNN hK hn t d' ht
    have hee : e2 = e' := by
      have := hPx p1
      rw [he'] at this
      injection this with this
      exact this.symm
    subst hee
    exact c_pri (G := G) hS hFM hwr hz hW hz9 hk0 hWf (fun h39 => hI d' (nn t) h39 p2) (hPf p1 (hinP _ ht rfl)) p2 hem p3 (by omega)
  have hX2 : ∀ K N, 4 * n + 1 ≤ K → G + 6 ≤ N → SPE kd wr z fA lu lev pn d s e (TYX fM lu K n) (FLX fM lu cur K 0 n 0) (fun b b' g => FLX fM lu cur K 0 n 0 = [] → CDC fM fA lu lev K 0 n 0 b b' g) (4 * (wr e - wr s) - 1) (fun w => RX2_typed N 2 (Int32.ofNat d) 0 0 w) := fun K N hK hN => by
    obtain ⟨N, rfl⟩ : ∃ N', N = N' + 1 := ⟨N - 1, by omega⟩
    intro w a base ob hw hb ho ha
    obtain ⟨u, a', u1, u2⟩ := hX3 K N hK (by omega) w a base ob hw hb ho ha
    refine ⟨u, a', ?_, u2⟩
    show fX2_expression (RX2_typed N) (Int32.ofNat d) w = _
    have u1' : RX2_typed N 3 (Int32.ofNat d) 0 0 w = some (TYX fM lu K n, u) := u1
    have hk50 := hw.1.2.2.1 s
    unfold fX2_expression
    rw [ltq, ltq, a_kind hw.1, if_neg (show ¬ (Int32.ofNat (kd s) = 15) from of_ne (k := 15) (by omega) (by omega) hk15), u1', bn2_so]
  refine ⟨hse, ?_, hX3⟩
  obtain ⟨nn, kk, hNN⟩ := pev_nn q (4 * n + 1) lo n d s evs cn hpev hnd
  obtain ⟨⟨_, h12⟩, _⟩ := pevn_all (fA := fM) (lev := 0) (lu := lu) (cur := cur) hk9 q _ lo n d s evs cn hNN hn (Nat.le_refl _)
  have hG : ∀ fm : Int32, gi fA 8 s = fm → (gi fM 7 n = 3 ↔ fm = 1) → (gi fM 7 n = 4 ↔ fm = 2 ∨ fm = 3) → (gi fM 7 n = 3 ∨ gi fM 7 n = 4 → kd s = 2) → (gi fM 7 n = 3 → e = s + 1) → NDF kd wr z fA fM n s e := fun fm h1 h2 h3 h4 h5 => ⟨hse, by omega, hwe, h12, by rw [h1]; exact h2, by rw [h1]; exact h3, h4, h5, h10⟩
  have h9z : gi fA 8 s = 6 ∨ gi fA 8 s = 3 → gi fA 9 s = 0 := fun g => by
    refine Classical.byContradiction fun g9 => ?_
    have := h9.mp g9
    rcases g with g | g <;> rw [g] at this <;> (rcases this with h | h | ⟨h, _⟩ <;> exact absurd h (by decide))
  obtain ⟨q, rfl⟩ : ∃ q', q = q' + 1 := by
    cases q with
    | zero => exact hpev.elim
    | succ q => exact ⟨q, rfl⟩
  obtain ⟨hlo, hp⟩ := hpev
  -- signs before or between
  have hsig : (gi fM 7 n = 6 ∨ gi fM 7 n = 7) → cn = 1 → gi fM 45 n = 1 → evs ≠ [(0, s, d)] → ALC kd wr m z fA fM lu lev cur pn d n s e cn (G + 6) := fun h67 hcn h45 hne => by
    rw [if_neg hne] at h8
    have n3 : gi fM 7 n ≠ 3 := by rcases h67 with g | g <;> rw [g] <;> decide
    have n4 : gi fM 7 n ≠ 4 := by rcases h67 with g | g <;> rw [g] <;> decide
    have n8 : gi fM 7 n ≠ 8 := by rcases h67 with g | g <;> rw [g] <;> decide
    have n9 : gi fM 7 n ≠ 9 := by rcases h67 with g | g <;> rw [g] <;> decide
    rw [hcn]
    exact alc_mis hwr hz hW hn he (hG 6 h8 ⟨fun g => absurd g n3, fun g => absurd g (by decide)⟩ ⟨fun g => absurd g n4, fun g => absurd g (by decide)⟩ (fun g => g.elim (fun g => absurd g n3) (fun g => absurd g n4)) (fun g => absurd g n3)) h45 (h9z (Or.inl h8)) (by omega) hX2 (fun g => g.elim (fun g => absurd g n3) (fun g => absurd g n4)) hM0 (fun K hK g => g.elim (fun g => absurd g n3) (fun g => absurd g n4)) hk15 (fun _ => h8) (fun _ => Or.inl h8) (by rw [h8]; decide) n9 n8 n3 (fun g => n4 g.1)
  rcases hp with ⟨k7, c1, k45, _, x, y, sg, tk, s2, ex, ey, cx, cy, _, _, _, _, _, _, hev, h1, _⟩ | ⟨k7, c1, k45, _, x, sg, ex, cx, _, _, _, _, hev, h1⟩ | ⟨e2, hev, h1⟩
  · refine hsig (Or.inl k7) c1 k45 (fun g => ?_)
    rw [hev] at g
    have := congrArg List.getLast? g
    rw [List.getLast?_append] at this
    have h2 : some ((2, sg, tk) : EV) = some (0, s, d) := this
    injection h2 with h2
    injection h2 with h2 _
    omega
  · refine hsig (Or.inr k7) c1 k45 (fun g => ?_)
    rw [hev] at g
    have := congrArg List.getLast? g
    rw [List.getLast?_append] at this
    have h2 : some ((1, sg, s) : EV) = some (0, s, d) := this
    injection h2 with h2
    injection h2 with h2 _
    omega
  · have hee : e2 = e := by
      have h2 := (rd_mq hlt 9 d s (e, evs) hrd).1
      have h2 : e = s + lnS (xp kd k) evs := h2
      rw [hev] at h2
      have h3 : lnS (xp kd k) [(0, s, d)] = e2 - s + 0 := by
        show lnE (xp kd k) (0, s, d) + 0 = _
        unfold lnE
        rw [if_pos rfl]
        dsimp only
        rw [hPx h1]
      have := hlt _ _ _ (hPx h1)
      omega
    subst hee
    rw [if_pos hev] at h8
    have hin := hinP (0, s, d) (by rw [hev]; exact List.mem_singleton.mpr rfl) rfl
    have h1' := hPf h1 hin
    obtain ⟨_, _, _, h45, h4⟩ := h1'
    rcases h4 with ⟨k7, q1, q2, q3⟩ | ⟨k7, q1, q2, q3⟩ | ⟨k7, q1, q2, x, e1, q3, q4, q5, q6, q7⟩ | ⟨k7, q1, q2, q3, q4, q5⟩ | ⟨c, xs, e1, q0, q1, q2, q3, q4, q5, q6, q7, q8⟩
    · have hf6 : gi fA 8 s = 6 := by
        rw [h8]
        unfold fmX
        rw [if_neg (by omega), if_neg (by omega)]
      have n3 : gi fM 7 n ≠ 3 := by rw [k7]; decide
      have n4 : gi fM 7 n ≠ 4 := by rw [k7]; decide
      rw [q3] at h45 ⊢
      exact alc_mis hwr hz hW hn he (hG 6 hf6 ⟨fun g => absurd g n3, fun g => absurd g (by decide)⟩ ⟨fun g => absurd g n4, fun g => absurd g (by decide)⟩ (fun g => g.elim (fun g => absurd g n3) (fun g => absurd g n4)) (fun g => absurd g n3)) h45 (h9z (Or.inl hf6)) (by omega) hX2 (fun g => g.elim (fun g => absurd g n3) (fun g => absurd g n4)) hM0 (fun K hK g => g.elim (fun g => absurd g n3) (fun g => absurd g n4)) hk15 (fun _ => hf6) (fun _ => Or.inl hf6) (by rw [hf6]; decide) (by rw [k7]; decide) (by rw [k7]; decide) n3 (fun g => n4 g.1)
    · have hf6 : gi fA 8 s = 6 := by
        rw [h8]
        unfold fmX
        rw [if_neg (by omega), if_neg (by omega)]
      have n3 : gi fM 7 n ≠ 3 := by rw [k7]; decide
      have n4 : gi fM 7 n ≠ 4 := by rw [k7]; decide
      rw [q3] at h45 ⊢
      exact alc_mis hwr hz hW hn he (hG 6 hf6 ⟨fun g => absurd g n3, fun g => absurd g (by decide)⟩ ⟨fun g => absurd g n4, fun g => absurd g (by decide)⟩ (fun g => g.elim (fun g => absurd g n3) (fun g => absurd g n4)) (fun g => absurd g n3)) h45 (h9z (Or.inl hf6)) (by omega) hX2 (fun g => g.elim (fun g => absurd g n3) (fun g => absurd g n4)) hM0 (fun K hK g => g.elim (fun g => absurd g n3) (fun g => absurd g n4)) hk15 (fun _ => hf6) (fun _ => Or.inl hf6) (by rw [hf6]; decide) (by rw [k7]; decide) (by rw [k7]; decide) n3 (fun g => n4 g.1)
    · have hf4 : gi fA 8 s = 4 := by
        rw [h8]
        unfold fmX
        rw [if_pos q1]
      have n3 : gi fM 7 n ≠ 3 := by rw [k7]; decide
      have n4 : gi fM 7 n ≠ 4 := by rw [k7]; decide
      obtain ⟨g1, g2⟩ := IH lo x (d + 1) (s + 1) e1 cn q5.1 (by omega) (by omega) (by omega) q5.2
      refine alc_9 hW hz9 hn he (hG 4 hf4 ⟨fun g => absurd g n3, fun g => absurd g (by decide)⟩ ⟨fun g => absurd g n4, fun g => absurd g (by decide)⟩ (fun g => g.elim (fun g => absurd g n3) (fun g => absurd g n4)) (fun g => absurd g n3)) h45 ?_ k7 q1 q2 q3 q4 q6 q7 (by rw [hf4]; decide) g2 (by omega) hX2 hM0
      rw [h9, hf4]
      exact ⟨fun g => g.elim (fun g => absurd g (by decide)) (fun g => g.elim (fun g => absurd g (by decide)) (fun g => g.2)), fun g => Or.inr (Or.inr ⟨rfl, g⟩)⟩
    · have hf1 : gi fA 8 s = 1 := by
        rw [h8]
        unfold fmX
        rw [if_neg (by omega), if_pos q1, if_neg q2, if_neg q3]
      have n4 : gi fM 7 n ≠ 4 := by rw [k7]; decide
      have hD := hG 1 hf1 ⟨fun _ => rfl, fun _ => k7⟩ ⟨fun g => absurd g n4, fun g => absurd g (by decide)⟩ (fun _ => q1) (fun _ => q4)
      have h9' : gi fA 9 s ≠ 0 := h9.mpr (Or.inl hf1)
      rw [q5] at h45 ⊢
      subst q4
      exact alc_3 hS hPN hz hW hz9 hn he hD h45 h9' k7 q1 q3 hf1 (by omega) hX2 hM0
    · obtain ⟨r1, r2⟩ := rowR_nx (by omega) (fun lo x s e cn h => (hWf _ _ _ _ _ _ h).2) xs lo (s + 2) e1 q5 q6
      have hxe : Int32.ofNat (xs.headD 0) = gi fM 8 n := q3.symm
      rw [hxe] at r1
      have hlen := row_len (fun lo x s e cn h hx he => xw_lt _ _ _ _ (hWf _ _ _ _ _ _ h).1) xs lo (s + 2) e1 q5 q6 (show e1 ≤ m by omega)
      have h12s : nd fM 12 n = s := by
        unfold nd
        rw [h12, tc_iN (by omega)]
      rcases q0 with ⟨k7, k1, k2, k3⟩ | ⟨k7, k1, k2, k3⟩
      · have hcnt := rowR_cnt (f := xw kd k (d + 1)) (fun lo x s e cn h => ⟨(hWf _ _ _ _ _ _ h).1, xw_lt _ _ _ _ (hWf _ _ _ _ _ _ h).1⟩) xs lo (s + 2) e1 (9000 - (s + 2)) q5 (by omega) (by omega)
        have hf : gi fA 8 s = (if xs.length = 1 then 2 else 3) := by
          rw [h8]
          unfold fmX
          rw [if_neg (by omega), if_pos q1, if_neg (by omega), if_pos k1, hcnt]
        have n3 : gi fM 7 n ≠ 3 := by rw [k7]; decide
        have hD := hG _ hf ⟨fun g => absurd g n3, fun g => by split at g <;> exact absurd g (by decide)⟩ ⟨fun _ => by split <;> first | exact Or.inl rfl | exact Or.inr rfl, fun _ => k7⟩ (fun _ => q1) (fun g => absurd g n3)
        have hPL : ∀ K N f, f ≤ 1 → 4 * n + 1 ≤ K → G + 6 ≤ N → SPE kd wr z fA lu lev pn d s e2 (tyP fM lu cur f n) (FLX fM lu cur K 1 n f) (fun b b' g => FLX fM lu cur K 1 n f = [] → CDC fM fA lu lev K 1 n 0 b b' g) (4 * (wr e2 - wr s) - 1) (fun w => RX2_typed N 7 (Int32.ofNat d) (if f = 0 then 1 else 0) 0 w) := fun K N f hf hK hN => by
          obtain ⟨K, rfl⟩ : ∃ K', K = K' + 1 := ⟨K - 1, by omega⟩
          obtain ⟨N, rfl⟩ : ∃ N', N = N' + 3 := ⟨N - 3, by omega⟩
          have hnx : nxL fM K (gi fM 8 n) = xs := nxL_eq _ _ _ r1 (by omega)
          rw [q8]
          exact (c_place4 (rc := RX2_typed (N + 2)) (rc2 := RX2_typed (N + 1)) (rc3 := RX2_typed N) (k := K) (bnd := n) (W := fun lo x d s e cn => PWR kd fM sc k lo x d s e cn ∧ fmW kd fA k d s) hS hwr hW hz9 (fun _ _ _ _ => rfl) (fun _ _ _ => rfl) (fun lo x s e cn h hx he => by
            obtain ⟨g1, g2⟩ := IH lo x (d + 1) s e cn h.1 (by omega) he (by omega) h.2
            exact ⟨g1, g2.1.2.2.1.tk hz, g2.2.1 K N (by omega) (by omega)⟩) k7 q4 h12s hnx q5 q6 (by omega) (by omega) q1 k1 (by omega)).wk (fun _ _ _ h => h) (Nat.le_refl _)
        have hM1 : ∀ K, 4 * n + 1 ≤ K → ∀ f, MSR kd lu s e2 (FLX fM lu cur K 1 n f) := fun K hK f => by
          obtain ⟨K, rfl⟩ : ∃ K', K = K' + 1 := ⟨K - 1, by omega⟩
          have := (hM0 (K + 1) hK).1
          rw [flx0_4 k7 rfl] at this
          rw [flx1_4 k7 rfl]
          exact this
        by_cases q1l : xs.length = 1
        · rw [if_pos q1l] at hf k3
          obtain ⟨x, hxs⟩ : ∃ x, xs = [x] := by
            match xs, q1l with
            | [x], _ => exact ⟨x, rfl⟩
          have h9n : gi fM 9 n = 1 := by rw [q4, q1l]; rfl
          rw [hxs] at q5 q6 q3
          obtain ⟨⟨cx, hx1, hx2⟩, _⟩ := q5
          have hxn := q6 x List.mem_cons_self
          obtain ⟨g1, g2⟩ := IH lo x (d + 1) (s + 2) e1 cx hx1 (by omega) (by omega) (by omega) hx2
          have h6 : gi fA 8 s ≠ 6 := by rw [hf]; decide
          have h3 : gi fA 8 s ≠ 3 := by rw [hf]; decide
          have h9' : gi fA 9 s ≠ 0 := h9.mpr (Or.inr (Or.inl hf))
          have h8x : nd fM 8 n = x := by
            unfold nd
            rw [q3]
            exact tc_iN (by show x < 2147483648; omega)
          have hx12 : nd fM 12 x = s + 2 := g2.1.2.2.1.tk hz
          have hgse := g2.1.2.2.1.1
          rw [k3] at h45 ⊢
          refine ⟨⟨hn, he, hD, h45, Or.inr rfl, ⟨fun _ => rfl, fun _ => h9'⟩⟩, hX2, fun _ K N hK hN => ?_, fun K N hK hN => ?_, fun _ => hPL, fun K hK => ⟨hM0 K hK, fun _ => ?_, fun hK3 => ?_, fun _ => hM1 K hK⟩⟩
          · obtain ⟨K, rfl⟩ : ∃ K', K = K' + 1 := ⟨K - 1, by omega⟩
            obtain ⟨N, rfl⟩ : ∃ N', N = N' + 2 := ⟨N - 2, by omega⟩
            rw [q8]
            exact (aim_4 (N := N) hS hwr (by omega) hz hz9 hW h12 k7 h9n q1 k1 q2 q3 hxn hn (by omega) (by omega) g2 h6 h3 hK (by omega)).2
          · obtain ⟨K, rfl⟩ : ∃ K', K = K' + 1 := ⟨K - 1, by omega⟩
            obtain ⟨N, rfl⟩ : ∃ N', N = N' + 2 := ⟨N - 2, by omega⟩
            rw [q8]
            exact (aim_4 (N := N) hS hwr (by omega) hz hz9 hW h12 k7 h9n q1 k1 q2 q3 hxn hn (by omega) (by omega) g2 h6 h3 (by omega) (by omega)).1
          · obtain ⟨K, rfl⟩ : ∃ K', K = K' + 1 := ⟨K - 1, by omega⟩
            rw [flx3_o (by rw [k7]; decide) (by rw [k7]; decide), h12s, if_pos k7, h8x, hx12]
            refine ⟨(MSR.notD q1 (Nat.le_refl _) hse).app (((g2.ms0 (by omega)).1.wd (by omega) (by omega)).app (MSR.mis (by omega) (by omega))), fun _ hl => List.mem_append_left _ ?_⟩
            unfold notD
            rw [if_pos hl]
            exact List.mem_singleton.mpr rfl
          · obtain ⟨K, rfl⟩ : ∃ K', K = K' + 1 := ⟨K - 1, by omega⟩
            rw [flx2_4 k7 h9n, h12s, h8x, hx12]
            refine ((MSR.notD q1 (Nat.le_refl _) hse).app (((g2.ms0 (by omega)).1.wd (by omega) (by omega)).app (MSR.mis (by omega) (by omega)))).app ?_
            split
            · exact MSR.nil
            · exact MSR.misS (Nat.le_refl _) hse
        · rw [if_neg q1l] at hf k3
          have h9n : gi fM 9 n ≠ 1 := by
            rw [q4]
            exact of_ne (k := 1) (by omega) (by omega) q1l
          rw [k3] at h45 ⊢
          exact alc_mis hwr hz hW hn he hD h45 (h9z (Or.inr hf)) (by omega) hX2 (fun _ => hPL) hM0 (fun K hK _ => hM1 K hK) hk15 (fun g => by omega) (fun _ => Or.inr hf) (by rw [hf]; decide) (by rw [k7]; decide) (by rw [k7]; decide) n3 (fun g => h9n g.2)
      · have hf6 : gi fA 8 s = 6 := by
          rw [h8]
          unfold fmX
          rw [if_neg (by omega), if_pos q1, if_pos k1]
        have n3 : gi fM 7 n ≠ 3 := by rw [k7]; decide
        have n4 : gi fM 7 n ≠ 4 := by rw [k7]; decide
        rw [k3] at h45 ⊢
        exact alc_mis hwr hz hW hn he (hG 6 hf6 ⟨fun g => absurd g n3, fun g => absurd g (by decide)⟩ ⟨fun g => absurd g n4, fun g => absurd g (by decide)⟩ (fun g => g.elim (fun g => absurd g n3) (fun g => absurd g n4)) (fun g => absurd g n3)) h45 (h9z (Or.inl hf6)) (by omega) hX2 (fun g => g.elim (fun g => absurd g n3) (fun g => absurd g n4)) hM0 (fun K hK g => g.elim (fun g => absurd g n3) (fun g => absurd g n4)) hk15 (fun _ => hf6) (fun _ => Or.inl hf6) (by rw [hf6]; decide) (by rw [k7]; decide) (by rw [k7]; decide) n3 (fun g => n4 g.1)
end EC
