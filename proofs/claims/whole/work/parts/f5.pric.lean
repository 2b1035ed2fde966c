/-! PASS 2, THE CLASS: PRIMARIES, out of what's in them -/
section RW
variable {kd : Nat → Nat} {fM : Wd}
theorem rowR_nx {W : PWT} {d bnd : Nat} (hb : bnd ≤ 24000) (hlo : ∀ lo x s e cn, W lo x d s e cn → lo ≤ x) : ∀ (xs : List Nat) (lo s e : Nat), rowR kd fM W xs lo d s e → (∀ x ∈ xs, x < bnd) → nxC fM xs (Int32.ofNat (xs.headD 0)) ∧ lo + xs.length ≤ bnd := by
  intro xs
  induction xs with
  | nil => exact fun _ _ _ h => h.elim
  | cons x r ih =>
    intro lo s e h hx
    have hxb := hx x List.mem_cons_self
    cases r with
    | nil =>
      obtain ⟨⟨cn, h1⟩, h2⟩ := h
      have := hlo _ _ _ _ _ h1
      exact ⟨⟨rfl, by omega, h2⟩, by show lo + 1 ≤ bnd; omega⟩
    | cons y r =>
      obtain ⟨e1, ⟨cn, h1⟩, h2, h3, h4, h5, h6⟩ := h
      obtain ⟨i1, i2⟩ := ih _ _ _ h6 (fun z hz => hx z (List.mem_cons_of_mem _ hz))
      refine ⟨⟨rfl, by omega, ?_⟩, ?_⟩
      · rw [h3]
        exact i1
      · have : (x :: y :: r).length = (y :: r).length + 1 := rfl
        omega
theorem rowR_and {W : PWT} {V : Nat → Prop} {f : Nat → Sum Nat Nat} {d : Nat} (hf : ∀ lo x s e cn, W lo x d s e cn → f s = .inr e ∧ s < e) : ∀ (xs : List Nat) (lo s e n : Nat), rowR kd fM W xs lo d s e → rowF kd f V n s → e ≤ s + n → rowR kd fM (fun lo x d s e cn => W lo x d s e cn ∧ V s) xs lo d s e := by
  intro xs
  induction xs with
  | nil => exact fun _ _ _ _ h => h.elim
  | cons x r ih =>
    intro lo s e n h hF hn
    cases r with
    | nil =>
      obtain ⟨⟨cn, h1⟩, h2⟩ := h
      obtain ⟨g1, g2⟩ := hf _ _ _ _ _ h1
      obtain ⟨n', rfl⟩ : ∃ n', n = n' + 1 := ⟨n - 1, by omega⟩
      exact ⟨⟨cn, h1, hF.1⟩, h2⟩
    | cons y r =>
      obtain ⟨e1, ⟨cn, h1⟩, h2, h3, h4, h5, h6⟩ := h
      obtain ⟨g1, g2⟩ := hf _ _ _ _ _ h1
      have hle : ∀ (xs : List Nat) (lo s e : Nat), rowR kd fM W xs lo d s e → s < e := by
        intro xs
        induction xs with
        | nil => exact fun _ _ _ h => h.elim
        | cons x r ih =>
          intro lo s e h
          cases r with
          | nil => obtain ⟨⟨cn, h1⟩, h2⟩ := h; exact (hf _ _ _ _ _ h1).2
          | cons y r =>
            obtain ⟨e1, ⟨cn, h1⟩, h2, h3, h4, h5, h6⟩ := h
            have := ih _ _ _ h6
            have := (hf _ _ _ _ _ h1).2
            omega
      have := hle _ _ _ _ h6
      obtain ⟨n', rfl⟩ : ∃ n', n = n' + 1 := ⟨n - 1, by omega⟩
      exact ⟨e1, ⟨cn, h1, hF.1⟩, h2, h3, h4, h5, ih _ _ _ n' h6 (hF.2 e1 g1 h2) (by omega)⟩
theorem rowR_cnt {W : PWT} {f : Nat → Sum Nat Nat} {d : Nat} (hf : ∀ lo x s e cn, W lo x d s e cn → f s = .inr e ∧ s < e) : ∀ (xs : List Nat) (lo s e n : Nat), rowR kd fM W xs lo d s e → e ≤ s + n → kd e ≠ 40 → cntR kd f n s = xs.length := by
  intro xs
  induction xs with
  | nil => exact fun _ _ _ _ h => h.elim
  | cons x r ih =>
    intro lo s e n h hn hk
    cases r with
    | nil =>
      obtain ⟨⟨cn, h1⟩, h2⟩ := h
      obtain ⟨g1, g2⟩ := hf _ _ _ _ _ h1
      obtain ⟨n', rfl⟩ : ∃ n', n = n' + 1 := ⟨n - 1, by omega⟩
      unfold cntR
      rw [g1]
      dsimp only
      rw [if_neg hk]
      rfl
    | cons y r =>
      obtain ⟨e1, ⟨cn, h1⟩, h2, h3, h4, h5, h6⟩ := h
      obtain ⟨g1, g2⟩ := hf _ _ _ _ _ h1
      have hle : ∀ (xs : List Nat) (lo s e : Nat), rowR kd fM W xs lo d s e → s < e := by
        intro xs
        induction xs with
        | nil => exact fun _ _ _ h => h.elim
        | cons x r ih =>
          intro lo s e h
          cases r with
          | nil => obtain ⟨⟨cn, h1⟩, h2⟩ := h; exact (hf _ _ _ _ _ h1).2
          | cons y r =>
            obtain ⟨e1, ⟨cn, h1⟩, h2, h3, h4, h5, h6⟩ := h
            have := ih _ _ _ h6
            have := (hf _ _ _ _ _ h1).2
            omega
      have := hle _ _ _ _ h6
      obtain ⟨n', rfl⟩ : ∃ n', n = n' + 1 := ⟨n - 1, by omega⟩
      unfold cntR
      rw [g1]
      dsimp only
      rw [if_pos h2, ih _ _ _ n' h6 (by omega) hk]
      rfl
/-- a row's part is its own -/
theorem rowR_sub {W W' : PWT} {d : Nat} (hW : ∀ lo x s e cn, W lo x d s e cn → W' lo x d s e cn) : ∀ (xs : List Nat) (lo s e : Nat), rowR kd fM W xs lo d s e → rowR kd fM W' xs lo d s e := by
  intro xs
  induction xs with
  | nil => exact fun _ _ _ h => h
  | cons x r ih =>
    intro lo s e h
    cases r with
    | nil =>
      obtain ⟨⟨cn, h1⟩, h2⟩ := h
      exact ⟨⟨cn, hW _ _ _ _ _ h1⟩, h2⟩
    | cons y r =>
      obtain ⟨e1, ⟨cn, h1⟩, h2, h3, h4, h5, h6⟩ := h
      exact ⟨e1, ⟨cn, hW _ _ _ _ _ h1⟩, h2, h3, h4, h5, ih _ _ _ h6⟩
/-- the parts of a PRIMARY have their forms -/
theorem PRI.forms {W : PWT} {V : Nat → Nat → Prop} {sc : Int32} {k lo n d s e cn : Nat} (hf : ∀ lo x d s e cn, W lo x d s e cn → xw kd k d s = .inr e ∧ s < e) (h : PRI kd fM W sc lo n d s e cn) (hI : inP kd k V d s) (he : e ≤ 9000) : PRI kd fM (fun lo x d s e cn => W lo x d s e cn ∧ V d s) sc lo n d s e cn := by
  obtain ⟨h0, h12, h13, h45, h4⟩ := h
  refine ⟨h0, h12, h13, h45, ?_⟩
  rcases h4 with h4 | h4 | ⟨k7, q1, q2, x, e1, q3, q4, q5, q6, q7⟩ | h4 | ⟨c, xs, e1, q0, q1, q2, q3, q4, q5, q6, q7, q8⟩
  · exact Or.inl h4
  · exact Or.inr (Or.inl h4)
  · exact Or.inr (Or.inr (Or.inl ⟨k7, q1, q2, x, e1, q3, q4, ⟨q5, hI.1 q1⟩, q6, q7⟩))
  · exact Or.inr (Or.inr (Or.inr (Or.inl h4)))
  · refine Or.inr (Or.inr (Or.inr (Or.inr ⟨c, xs, e1, q0, q1, q2, q3, q4, ?_, q6, q7, q8⟩)))
    exact rowR_sub (W := fun lo x d9 s e cn => W lo x d9 s e cn ∧ V (d + 1) s) (d := d + 1) (fun lo x s e cn h => h) xs lo (s + 2) e1 (rowR_and (V := V (d + 1)) (f := xw kd k (d + 1)) (fun lo x s e cn h => hf _ _ _ _ _ _ h) xs lo (s + 2) e1 (9000 - (s + 2)) q5 (hI.2 q1 (by rcases q0 with g | g <;> omega)) (by omega))
end RW
section EC
variable {kd wr : Nat → Nat} {z : Nat} {fA fM : Wd} {lu : Nat → Nat} {lev cur : Nat} {pn : Nat → Int32} {m : Nat} {C TK : Nat → Nat}
theorem tyx_1 {k n : Nat} (h : gi fM 7 n = 1) : TYX fM lu (k + 1) n = 1 := by rw [TYX, if_pos h]
theorem tyx_2 {k n : Nat} (h : gi fM 7 n = 2) : TYX fM lu (k + 1) n = 2 := by rw [TYX, if_neg (by rw [h]; decide), if_pos h]
theorem tyx_9 {k n : Nat} (h : gi fM 7 n = 9) : TYX fM lu (k + 1) n = TYX fM lu k (nd fM 8 n) := by rw [TYX, if_neg (by rw [h]; decide), if_neg (by rw [h]; decide), if_pos h]
theorem tyx_3 {k n : Nat} (h : gi fM 7 n = 3) : TYX fM lu (k + 1) n = tyY fM (lu (nd fM 12 n)) := by rw [TYX, if_neg (by rw [h]; decide), if_neg (by rw [h]; decide), if_neg (by rw [h]; decide), if_pos h]
theorem tyx_4 {k n : Nat} (h : gi fM 7 n = 4) : TYX fM lu (k + 1) n = tyE fM (lu (nd fM 12 n)) := by rw [TYX, if_neg (by rw [h]; decide), if_neg (by rw [h]; decide), if_neg (by rw [h]; decide), if_neg (by rw [h]; decide), if_pos h]
theorem tyx_5 {k n : Nat} (h : gi fM 7 n = 5) : TYX fM lu (k + 1) n = tyC fM (lu (nd fM 12 n)) := by rw [TYX, if_neg (by rw [h]; decide), if_neg (by rw [h]; decide), if_neg (by rw [h]; decide), if_neg (by rw [h]; decide), if_neg (by rw [h]; decide), if_pos h]
theorem SPP.wk {d t e : Nat} {X : Int32} {L : List (Nat × Int32)} {P P1 : Nat → Nat → Wd → Prop} {T T1 : Nat} {fm : Int32} {r r' : Wd → Option (Int32 × Wd)} (h : SPP kd wr z fA lu lev pn d t e X L P T fm r) (hP : ∀ b b' g, P b b' g → P1 b b' g) (hT : T ≤ T1) (hr : ∀ w, r' w = r w) : SPP kd wr z fA lu lev pn d t e X L P1 T1 fm r' := fun w a base ob hw hb ho ha => by
  obtain ⟨u, a', u1, u2⟩ := h w a base ob hw hb ho (by omega)
  exact ⟨u, a', (hr w).trans u1, u2.wk hP hT⟩
/-- PRIMARIES, out of what's in them -/
theorem c_pri {W : PWT} {sc : Int32} {k lo n d s e cn G : Nat} (hS : SYT kd m C TK lu fA fM) (hFM : PFM fM (C 1)) (hwr : ∀ i, wr i ≤ 8192) (hz : z ≤ 8193) (hW : ∀ i, i < m → wr i + 1 ≤ wr (i + 1)) (hz9 : m < z) (hk0 : ∀ i, m ≤ i → kd i = 0) (hf : ∀ lo x d s e cn, W lo x d s e cn → xw kd k d s = .inr e ∧ lo ≤ x) (hI : d ≤ 39 → RWY kd wr m z fA fM lu lev cur pn W n (d + 1) G) (h : PRI kd fM W sc lo n d s e cn) (hn : n < 24000) (he : e ≤ m) {K N : Nat} (hK : 4 * n + 1 ≤ K) (hN : G + 4 ≤ N) :
    SPP kd wr z fA lu lev pn d s e (TYX fM lu K n) (FLX fM lu cur K 0 n 0) (fun b b' g => FLX fM lu cur K 0 n 0 = [] → CDC fM fA lu lev K 0 n 0 b b' g) (4 * (wr e - wr s) - 1) (fmX kd k d s) (fun w => if kd s = 2 then RX2_typed N 5 (Int32.ofNat d) 0 0 w else RX2_typed N 4 (Int32.ofNat d) 0 0 w) := by
  obtain ⟨K, rfl⟩ : ∃ K', K = K' + 1 := ⟨K - 1, by omega⟩
  obtain ⟨N, rfl⟩ : ∃ N', N = N' + 4 := ⟨N - 4, by omega⟩
  obtain ⟨h0, h12, h13, h45, h4⟩ := h
  have hlt : ∀ lo x d s e cn, W lo x d s e cn → xw kd k d s = .inr e ∧ s < e := fun lo x d s e cn h => ⟨(hf _ _ _ _ _ _ h).1, xw_lt _ _ _ _ (hf _ _ _ _ _ _ h).1⟩
  have hr4 : ∀ w, kd s ≠ 2 → (if kd s = 2 then RX2_typed (N + 4) 5 (Int32.ofNat d) 0 0 w else RX2_typed (N + 4) 4 (Int32.ofNat d) 0 0 w) = fX2_unnamed (RX2_typed (N + 3)) (Int32.ofNat d) w := fun w hk => by rw [if_neg hk]; rfl
  have hr5 : ∀ w, kd s = 2 → (if kd s = 2 then RX2_typed (N + 4) 5 (Int32.ofNat d) 0 0 w else RX2_typed (N + 4) 4 (Int32.ofNat d) 0 0 w) = fX2_named (RX2_typed (N + 3)) (Int32.ofNat d) w := fun w hk => by rw [if_pos hk]; rfl
  have hsm : kd s ≠ 0 → s < m := fun hk => by
    by_cases q : s < m
    · exact q
    · exact absurd (hk0 s (by omega)) hk
  have h12' : s < m → nd fM 12 n = s := fun hsm => by
    unfold nd
    rw [h12, tc_iN (by omega)]
  rcases h4 with ⟨k7, q1, q2, q3⟩ | ⟨k7, q1, q2, q3⟩ | ⟨k7, q1, q2, x, e1, q3, q4, q5, q6, q7⟩ | ⟨k7, q1, q2, q3, q4, q5⟩ | ⟨c, xs, e1, q0, q1, q2, q3, q4, q5, q6, q7, q8⟩
  · have hs := hW s (hsm (by omega))
    have hfm : fmX kd k d s = 6 := by
      unfold fmX
      rw [if_neg (by omega), if_neg (by omega)]
    rw [tyx_1 k7, flx0_1 (Or.inl k7), q2, hfm]
    have hg := c_lit (wr := wr) (z := z) (fA := fA) (lu := lu) (lev := lev) (pn := pn) (rc := RX2_typed (N + 3)) (d := d) (Or.inl q1 : kd s = 3 ∨ kd s = 23 ∨ kd s = 24)
    rw [if_pos q1] at hg
    refine hg.wk (fun b b' g hg _ => ?_) (by omega) (fun w => hr4 w (by omega))
    rw [cdc0_1 k7, h12' (hsm (by omega))]
    rw [if_pos q1] at hg
    exact hg
  · have hs := hW s (hsm (by omega))
    have h3 : kd s ≠ 3 := by omega
    have hfm : fmX kd k d s = 6 := by
      unfold fmX
      rw [if_neg (by omega), if_neg (by omega)]
    rw [tyx_2 k7, flx0_1 (Or.inr k7), q2, hfm]
    have hg := c_lit (wr := wr) (z := z) (fA := fA) (lu := lu) (lev := lev) (pn := pn) (rc := RX2_typed (N + 3)) (d := d) (by omega : kd s = 3 ∨ kd s = 23 ∨ kd s = 24)
    rw [if_neg h3] at hg
    refine hg.wk (fun b b' g hg _ => ?_) (by omega) (fun w => hr4 w (by omega))
    rw [cdc0_2 k7]
    rw [if_neg h3] at hg
    refine ⟨hg.1, ?_, hg.2.2⟩
    rw [hg.2.1]
    rcases q1 with ⟨g1, g2⟩ | ⟨g1, g2⟩
    · rw [if_pos g1, if_pos g2]
    · rw [if_neg (by omega), if_neg (by rw [g2]; decide)]
  · obtain ⟨g1, g2⟩ := hI q2 lo x (s + 1) e1 cn q5 q4 (by omega)
    have hs := hW s (by omega)
    have hs1 := wr_mo hW e1 g1 (by omega)
    have he1 := hW e1 (by omega)
    have hfm : fmX kd k d s = 4 := by
      unfold fmX
      rw [if_pos q1]
    have e8 : nd fM 8 n = x := by
      unfold nd
      rw [q3, tc_iN (by omega)]
    rw [tyx_9 k7, flx0_9 k7, e8, q7, hfm]
    have hX := g2.2.1 K (N + 3) (by omega) (by omega)
    refine (c_group (rc := RX2_typed (N + 3)) (by omega) q1 q6 (by omega) hX).wk (fun b b' g hg hL => ?_) (by omega) (fun w => hr4 w (by omega))
    rw [cdc0_9 k7, e8]
    exact hg hL
  · have hs := hW s (hsm (by omega))
    have hfm : fmX kd k d s = 1 := by
      unfold fmX
      rw [if_neg (by omega), if_pos q1, if_neg q2, if_neg q3]
    have h12s := h12' (hsm (by omega))
    rw [tyx_3 k7, flx0_3 k7, h12s, q4, hfm]
    refine (c_named3 (rc := RX2_typed (N + 3)) (rc2 := RX2_typed (N + 2)) hS hwr (fun _ _ _ _ => rfl) q1 q2 q3).wk (fun b b' g hg _ => ?_) (by omega) (fun w => hr5 w q1)
    rw [cdc0_3 k7, h12s]
    exact hg
  · obtain ⟨r1, r2⟩ := rowR_nx (by omega) (fun lo x s e cn h => (hf _ _ _ _ _ _ h).2) xs lo (s + 2) e1 q5 q6
    have hlen := row_len (fun lo x s e cn h hx he => (hlt _ _ _ _ _ _ h).2) xs lo (s + 2) e1 q5 q6 (show e1 ≤ m by omega)
    have hsm' : s < m := by omega
    have h12s := h12' hsm'
    have hxe : Int32.ofNat (xs.headD 0) = gi fM 8 n := q3.symm
    rw [hxe] at r1
    have hs := hW s hsm'
    have hs1 : wr (s + 1) + 1 ≤ wr (s + 2) := hW (s + 1) (by omega)
    have hs2 := wr_mo hW e1 (s := s + 2) (by omega) (by omega)
    have he1 := hW e1 (by omega)
    have hcnt := rowR_cnt (f := xw kd k (d + 1)) (fun lo x s e cn h => hlt _ _ _ _ _ _ h) xs lo (s + 2) e1 (9000 - (s + 2)) q5 (by omega)
    have hII := hI q2
    rcases q0 with ⟨k7, k1, k2, k3⟩ | ⟨k7, k1, k2, k3⟩
    · have hnx : nxL fM K (gi fM 8 n) = xs := nxL_eq _ _ _ r1 (by omega)
      have hfm : fmX kd k d s = (if xs.length = 1 then 2 else 3) := by
        unfold fmX
        rw [if_neg (by omega), if_pos q1, if_neg (by omega), if_pos k1, hcnt (by omega)]
      rw [tyx_4 k7, h12s, q8, hfm]
      refine (c_named4 (rc := RX2_typed (N + 3)) (rc2 := RX2_typed (N + 2)) (rc3 := RX2_typed (N + 1)) (W := W) (k := K) (bnd := n) hS hwr hW hz9 (fun _ _ _ _ => rfl) (fun _ _ _ => rfl) (fun lo x s e cn h hx he => ?_) k7 q4 h12s hnx q5 q6 (by omega) (by omega) q1 k1 (by omega)).wk (fun b b' g hg => hg) (Nat.le_refl _) (fun w => hr5 w q1)
      obtain ⟨g1, g2⟩ := hII lo x s e cn h hx he
      exact ⟨g1, g2.1.2.2.1.tk hz, g2.2.1 K (N + 1) (by omega) (by omega)⟩
    · have hnx : nxL fM K (gi fM 8 n) = xs := nxL_eq _ _ _ r1 (by omega)
      have hfm : fmX kd k d s = 6 := by
        unfold fmX
        rw [if_neg (by omega), if_pos q1, if_pos k1]
      obtain ⟨K1, rfl⟩ : ∃ K1, K = K1 + 1 := ⟨K - 1, by omega⟩
      rw [tyx_5 k7, h12s, q8, hfm]
      exact (c_named5 (N := N + 2) (W := W) (k := K1) (bnd := n) hS hFM hwr hW hz9 hII (by omega) (by omega) k7 q4 h12s hnx q5 q6 (by omega) (by omega) q1 k1 (by omega)).wk (fun b b' g hg => hg) (Nat.le_refl _) (fun w => hr5 w q1)
end EC
