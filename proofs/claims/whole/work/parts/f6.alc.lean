/-! PASS 2, THE CLASS: all that's done with a node, by its kind -/
section EC
variable {kd wr : Nat → Nat} {z : Nat} {fA fM : Wd} {lu : Nat → Nat} {lev cur : Nat} {pn : Nat → Int32} {d n s e l m G cn : Nat} {C TK : Nat → Nat}
theorem ALC.ms0 (h : ALC kd wr m z fA fM lu lev cur pn d n s e cn G) {K : Nat} (hK : 4 * n + 1 ≤ K) : MSF kd lu s e (FLX fM lu cur K 0 n 0) := (h.2.2.2.2.2 K hK).1
theorem ALC.ms3 (h : ALC kd wr m z fA fM lu lev cur pn d n s e cn G) (hc : cn = 3) {K : Nat} (hK : 4 * n + 1 ≤ K) : MSF kd lu s e (FLX fM lu cur K 3 n 0) := (h.2.2.2.2.2 K hK).2.1 hc
theorem ALC.ms2 (h : ALC kd wr m z fA fM lu lev cur pn d n s e cn G) {K : Nat} (hK : 4 * n + 3 ≤ K) : MSR kd lu s e (FLX fM lu cur K 2 n 0) := (h.2.2.2.2.2 K (by omega)).2.2.1 hK
theorem ALC.ms1 (h : ALC kd wr m z fA fM lu lev cur pn d n s e cn G) (h7 : gi fM 7 n = 3 ∨ gi fM 7 n = 4) {K : Nat} (hK : 4 * n + 1 ≤ K) (f : Nat) : MSR kd lu s e (FLX fM lu cur K 1 n f) := (h.2.2.2.2.2 K hK).2.2.2 h7 f
theorem ALC.ms5 (hz : z ≤ 8193) (h : ALC kd wr m z fA fM lu lev cur pn d n s e cn G) {K f : Nat} (hK : 4 * n + 3 ≤ K) : MSR kd lu s e (FLX fM lu cur (K + 1) 5 n f) := by
  have hD := h.1.2.2.1
  have htk : nd fM 12 n = s := hD.tk hz
  have hse : s < e := hD.1
  by_cases q1 : gi fM 24 f = 1
  · rw [flx5_1 q1, htk]
    refine MSR.app ?_ (MSR.mis (Nat.le_refl _) hse)
    split
    · exact MSR.nil
    · split
      · rename_i q4
        exact h.ms1 (Or.inr q4) (by omega) 0
      · exact (h.ms0 (by omega)).1
  · by_cases q4 : gi fM 24 f = 4
    · rw [flx5_4 q4]
      exact h.ms2 (by omega)
    · by_cases q0 : gi fM 24 f = 0
      · rw [flx5_0 q0]
        exact (h.ms4 (by omega)).1
      · rw [flx5_d q1 q4 q0, htk]
        by_cases q3 : gi fM 7 n = 3
        · rw [if_neg (fun g => g q3)]
          have hk := hD.2.2.2.2.2.2.1 (Or.inl q3)
          refine (MSR.notD hk (Nat.le_refl _) hse).app ?_
          split
          · exact MSR.nil
          · split
            · split
              · exact MSR.s5 (Nat.le_refl _) hse
              · exact MSR.nil
            · exact MSR.misS (Nat.le_refl _) hse
        · rw [if_pos q3]
          exact (MSR.s4 (Nat.le_refl _) hse).app (h.ms4 (by omega)).1
/-- rows of parts that lie in s .. e -/
def RWZ (kd wr : Nat → Nat) (m z : Nat) (fA fM : Wd) (lu : Nat → Nat) (lev cur : Nat) (pn : Nat → Int32) (d G t0 e0 : Nat) (xs : List Nat) : Prop := ∀ x ∈ xs, ∃ s e cn, t0 ≤ s ∧ e ≤ e0 ∧ ALC kd wr m z fA fM lu lev cur pn d x s e cn G
theorem rowR_z {W : PWT} {bnd : Nat} (hI : RWY kd wr m z fA fM lu lev cur pn W bnd d G) : ∀ (xs : List Nat) (lo s e : Nat), rowR kd fM W xs lo d s e → (∀ x ∈ xs, x < bnd) → e ≤ m → RWZ kd wr m z fA fM lu lev cur pn d G s e xs := by
  intro xs
  induction xs with
  | nil => exact fun _ _ _ h => h.elim
  | cons x r ih =>
    intro lo s e h hx he y hy
    have hxb := hx x List.mem_cons_self
    cases r with
    | nil =>
      obtain ⟨⟨cn, h1⟩, h2⟩ := h
      rw [List.mem_singleton.mp hy]
      exact ⟨s, e, cn, Nat.le_refl _, Nat.le_refl _, (hI _ _ _ _ _ h1 hxb he).2⟩
    | cons y2 r =>
      obtain ⟨e1, ⟨cn, h1⟩, h2, h3, h4, h5, h6⟩ := h
      have hr := row_len (fun lo x s e cn h hx he => (hI lo x s e cn h hx he).1) (y2 :: r) _ _ _ h6 (fun z hz => hx z (List.mem_cons_of_mem _ hz)) he
      obtain ⟨g1, g2⟩ := hI _ _ _ _ _ h1 hxb (by omega)
      rcases List.mem_cons.mp hy with rfl | hy
      · exact ⟨s, e1, cn, Nat.le_refl _, by omega, g2⟩
      · obtain ⟨s9, e9, c9, k1, k2, k3⟩ := ih _ _ _ h6 (fun z hz => hx z (List.mem_cons_of_mem _ hz)) he y hy
        exact ⟨s9, e9, c9, by omega, k2, k3⟩
/-- faults of PRIMARIES lie in them -/
theorem ms_pri {W : PWT} {sc : Int32} {k lo : Nat} (hz : z ≤ 8193) (hk0 : ∀ i, m ≤ i → kd i = 0) (hz9 : m < z) (hf : ∀ lo x d s e cn, W lo x d s e cn → xw kd k d s = .inr e ∧ lo ≤ x) (hI : d ≤ 39 → RWY kd wr m z fA fM lu lev cur pn W n (d + 1) G) (h : PRI kd fM W sc lo n d s e cn) (hn : n < 24000) (he : e ≤ m) {K : Nat} (hK : 4 * n + 1 ≤ K) : MSF kd lu s e (FLX fM lu cur K 0 n 0) := by
  obtain ⟨K, rfl⟩ : ∃ K', K = K' + 1 := ⟨K - 1, by omega⟩
  obtain ⟨h0, h12, h13, h45, h4⟩ := h
  have hsm : kd s ≠ 0 → s < m := fun hk => by
    by_cases q : s < m
    · exact q
    · exact absurd (hk0 s (by omega)) hk
  have h12' : s < m → nd fM 12 n = s := fun hsm => by
    unfold nd
    rw [h12, tc_iN (by omega)]
  rcases h4 with ⟨k7, q1, q2, q3⟩ | ⟨k7, q1, q2, q3⟩ | ⟨k7, q1, q2, x, e1, q3, q4, q5, q6, q7⟩ | ⟨k7, q1, q2, q3, q4, q5⟩ | ⟨c, xs, e1, q0, q1, q2, q3, q4, q5, q6, q7, q8⟩
  · rw [flx0_1 (Or.inl k7)]
    exact ⟨MSR.nil, fun g => by omega⟩
  · rw [flx0_1 (Or.inr k7)]
    exact ⟨MSR.nil, fun g => by omega⟩
  · obtain ⟨g1, g2⟩ := hI q2 lo x (s + 1) e1 cn q5 q4 (by omega)
    have e8 : nd fM 8 n = x := by
      unfold nd
      rw [q3, tc_iN (by omega)]
    rw [flx0_9 k7, e8]
    exact ⟨(g2.ms0 (by omega)).1.wd (by omega) (by omega), fun g => by omega⟩
  · have h12s := h12' (hsm (by omega))
    rw [flx0_3 k7, h12s]
    unfold flY
    have hse : s < e := by omega
    refine ⟨?_, fun _ hl => ?_⟩
    · split
      · intro x hx
        rw [List.mem_singleton.mp hx]
        exact ⟨(show (2 : Int32) ≠ 0 by decide), Nat.le_refl _, hse, Or.inr ⟨rfl, q1, by assumption⟩⟩
      · split
        · exact MSR.nil
        · split
          · split
            · exact MSR.s4 (Nat.le_refl _) hse
            · split
              · exact MSR.s5 (Nat.le_refl _) hse
              · exact MSR.nil
          · split
            · exact MSR.nil
            · exact MSR.s4 (Nat.le_refl _) hse
    · rw [if_pos hl]
      exact List.mem_singleton.mpr rfl
  · obtain ⟨r1, r2⟩ := rowR_nx (by omega) (fun lo x s e cn h => (hf _ _ _ _ _ _ h).2) xs lo (s + 2) e1 q5 q6
    have hxe : Int32.ofNat (xs.headD 0) = gi fM 8 n := q3.symm
    rw [hxe] at r1
    have hlen := row_len (fun lo x s e cn h hx he => xw_lt _ _ _ _ (hf _ _ _ _ _ _ h).1) xs lo (s + 2) e1 q5 q6 (show e1 ≤ m by omega)
    have h12s := h12' (show s < m by omega)
    have hZ := rowR_z (hI q2) xs lo (s + 2) e1 q5 q6 (by omega)
    have hse : s < e := by omega
    have hnx : nxL fM K (gi fM 8 n) = xs := nxL_eq _ _ _ r1 (by omega)
    have hnD : MSR kd lu s e (notD (lu s) s) := MSR.notD q1 (Nat.le_refl _) hse
    have hD2 : lu s = 0 → ((s, (2 : Int32)) : Nat × Int32) ∈ notD (lu s) s := fun hl => by
      unfold notD
      rw [if_pos hl]
      exact List.mem_singleton.mpr rfl
    rcases q0 with ⟨k7, k1, k2, k3⟩ | ⟨k7, k1, k2, k3⟩
    · rw [flx0_4 k7 hnx]
      unfold elL
      rw [h12s]
      refine ⟨(hnD.app (MSR.flat fun x hx => ?_)).app ?_, fun _ hl => List.mem_append_left _ (List.mem_append_left _ (hD2 hl))⟩
      · obtain ⟨s9, e9, c9, z1, z2, z3⟩ := hZ x hx
        have hx12 : nd fM 12 x = s9 := z3.1.2.2.1.tk hz
        have hse9 := z3.1.2.2.1.1
        rw [hx12]
        exact ((z3.ms0 (by have := q6 x hx; omega)).1.wd (by omega) (by omega)).app (MSR.mis (by omega) (by omega))
      · split
        · exact MSR.nil
        · split
          · split
            · exact MSR.s5 (Nat.le_refl _) hse
            · exact MSR.nil
          · exact MSR.misS (Nat.le_refl _) hse
    · rw [flx0_5 k7 hnx, h12s]
      refine ⟨hnD.app ?_, fun _ hl => List.mem_append_left _ (hD2 hl)⟩
      have hx4 : ∀ x ∈ xs, MSR kd lu s e (FLX fM lu cur K 4 x 0) := fun x hx => by
        obtain ⟨s9, e9, c9, z1, z2, z3⟩ := hZ x hx
        exact (z3.ms4 (by have := q6 x hx; omega)).1.wd (by omega) (by omega)
      have hx5 : ∀ x ∈ xs, ∀ f, MSR kd lu s e (FLX fM lu cur K 5 x f) := fun x hx f => by
        obtain ⟨s9, e9, c9, z1, z2, z3⟩ := hZ x hx
        have hxn := q6 x hx
        obtain ⟨K1, rfl⟩ : ∃ K1, K = K1 + 1 := ⟨K - 1, by omega⟩
        exact (z3.ms5 hz (by omega)).wd (by omega) (by omega)
      split
      · refine (MSR.flat hx4).app ?_
        split
        · exact MSR.nil
        · split
          · refine (MSR.s5 (Nat.le_refl _) hse).app ?_
            split
            · exact MSR.s4 (Nat.le_refl _) hse
            · exact MSR.nil
          · exact MSR.misS (Nat.le_refl _) hse
      · refine (MSR.app ?_ ?_).app (fun y hy => ?_)
        · split
          · exact MSR.s4 (Nat.le_refl _) hse
          · exact MSR.nil
        · split
          · exact MSR.s5 (Nat.le_refl _) hse
          · exact MSR.nil
        · obtain ⟨xi, y1, y2⟩ := List.mem_flatMap.mp hy
          have hxm : xi.1 ∈ xs := by
            obtain ⟨x9, i9⟩ := xi
            exact (List.mem_zipIdx y1).2.2 ▸ List.getElem_mem _
          by_cases qi : xi.2 < nd fM 31 (nd fM 24 (lu s - 1))
          · rw [if_pos qi] at y2
            exact hx5 xi.1 hxm _ y y2
          · rw [if_neg qi] at y2
            exact hx4 xi.1 hxm y y2
/-- what can't be an AIM -/
theorem alc_mis (hwr : ∀ i, wr i ≤ 8192) (hz : z ≤ 8193) (hW : ∀ i, i < m → wr i + 1 ≤ wr (i + 1)) (hn : n < 24000) (he : e ≤ m) (hD : NDF kd wr z fA fM n s e) (h45 : gi fM 45 n = 1) (h9a : gi fA 9 s = 0) (h1G : 1 ≤ G)
    (hX : ∀ K N, 4 * n + 1 ≤ K → G ≤ N → SPE kd wr z fA lu lev pn d s e (TYX fM lu K n) (FLX fM lu cur K 0 n 0) (fun b b' g => FLX fM lu cur K 0 n 0 = [] → CDC fM fA lu lev K 0 n 0 b b' g) (4 * (wr e - wr s) - 1) (fun w => RX2_typed N 2 (Int32.ofNat d) 0 0 w))
    (hPL : gi fM 7 n = 3 ∨ gi fM 7 n = 4 → ∀ K N f, f ≤ 1 → 4 * n + 1 ≤ K → G ≤ N → SPE kd wr z fA lu lev pn d s e (tyP fM lu cur f n) (FLX fM lu cur K 1 n f) (fun b b' g => FLX fM lu cur K 1 n f = [] → CDC fM fA lu lev K 1 n 0 b b' g) (4 * (wr e - wr s) - 1) (fun w => RX2_typed N 7 (Int32.ofNat d) (if f = 0 then 1 else 0) 0 w))
    (hM0 : ∀ K, 4 * n + 1 ≤ K → MSF kd lu s e (FLX fM lu cur K 0 n 0)) (hM1 : ∀ K, 4 * n + 1 ≤ K → gi fM 7 n = 3 ∨ gi fM 7 n = 4 → ∀ f, MSR kd lu s e (FLX fM lu cur K 1 n f))
    (h15 : kd s ≠ 15) (h43 : kd s = 43 → gi fA 8 s = 6) (h2 : kd s = 2 → gi fA 8 s = 6 ∨ gi fA 8 s = 3) (h0 : gi fA 8 s ≠ 0) (k9 : gi fM 7 n ≠ 9) (k8 : gi fM 7 n ≠ 8) (k3 : gi fM 7 n ≠ 3) (k4 : ¬ (gi fM 7 n = 4 ∧ gi fM 9 n = 1)) : ALC kd wr m z fA fM lu lev cur pn d n s e 1 G := by
  have hM4 : ∀ K, 4 * n + 2 ≤ K → MSF kd lu s e (FLX fM lu cur K 4 n 0) := fun K hK => by
    obtain ⟨k, rfl⟩ : ∃ k, K = k + 1 := ⟨K - 1, by omega⟩
    rw [flx_4, if_pos h45]
    exact hM0 k (by omega)
  have hl2 : ∀ K, 4 * n + 3 ≤ K → FLX fM lu cur K 2 n 0 = [(s, 4)] ++ FLX fM lu cur (K - 1) 4 n 0 := fun K hK => by
    obtain ⟨k, rfl⟩ : ∃ k, K = k + 1 := ⟨K - 1, by omega⟩
    rw [flx2_o k9 k8 k3 k4, hD.tk hz, Nat.add_sub_cancel]
  refine ⟨⟨hn, he, hD, h45, Or.inl rfl, ⟨fun g => absurd h9a g, fun g => by omega⟩⟩, hX, fun g => by omega, fun K N hK hN => ?_, hPL, fun K hK => ⟨hM0 K hK, fun g => by omega, fun hK3 => ?_, hM1 K hK⟩⟩
  · obtain ⟨N1, rfl⟩ : ∃ N1, N = N1 + 1 := ⟨N - 1, by omega⟩
    rw [hl2 K hK]
    exact (c_aimM (st := 1) hwr hW he hD.2.1 hD.1 hD.2.2.2.2.2.2.2.2 (hM4 (K - 1) (by omega)) h15 h43 h2 h0).wk (fun b b' g _ hL => absurd hL (by simp)) (by omega)
  · rw [hl2 K hK3]
    exact (MSR.s4 (Nat.le_refl _) hD.1).app (hM4 (K - 1) (by omega)).1
end EC
