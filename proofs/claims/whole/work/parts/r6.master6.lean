/-! THE MASTER: DECLS and STATEMENTS in a row -/
section RR6
variable {kd wr nm TK SG ph : Nat → Nat} {vv : Nat → Int64} {m z : Nat} {Cf : CV} {SL : Nat → List Nat} {fA fM : Wd} {NS ns SZ : Nat} {q0 : Int32 × Int32} {d lev p sg sgx sgx' s e s0 j n q q' F0 WW N kp : Nat} {st stk : List Nat} {pn : Nat → Int32} {C C' : CV} {W : PSTT} {r : PRL} {rc rc0 : TX4_block}
def anO : Option Nat → List Nat
  | none => []
  | some x => [x]
theorem dcl_j (hC : MC kd wr TK ph m Cf SL fM NS ns SZ q0) (hW : WAL kd fA fM W) (ih : MIH kd wr nm TK SG ph vv m z Cf SL fA fM NS ns SZ q0 W) (hM : MH kd wr nm TK vv m z Cf SL fA fM d s e (s0 :: st) lev p sgx pn C C') (hlv : lev = r.length) (hd40 : d ≤ 40) (hF : 3 * (41 - d) + 8 ≤ F0) (h41 : kd e = 41) {an : Option Nat} (h : DCLX kd fA fM W d (s0 :: st) (hdM st) p r s e sgx sgx' q q' an C C') :
    (kd s = 6 ∨ kd s = 7 ∨ kd s = 8 ∨ kd s = 9 ∨ kd s = 10 ∨ kd s = 13) ∧ ∃ T, JDX (fun LA PD T => SSC kd wr nm TK z fA SL NS ns SZ lev pn (sg + WW) sg (C 2) (C' 2) (C 1) (C' 1) s e (s0 :: st) LA PD T (fun w => RX4_block F0 2 (Int32.ofNat d) 0 0 w)) kd wr nm TK SG m SL fA fM NS ns lev (RXD kd wr nm TK SG ph m Cf SL fA fM NS ns SZ q0 lev p sg s0 st s e C C' T) p sg WW s e s0 st (anO an) C C' T := by
  rcases h with ⟨s1, j, ty, own, ho, hty, h1, h2, hj, hN, he, han, h9, hD, h10, h11⟩ | ⟨s1, ty, j, n, xs, e1, b, ho, hj, hN, h45, hn, han, _, h8, h9, h10, hd, hb, hb1, hb3, hx, h46, he, hy, hD, _, _, hCC⟩ | ⟨h13, hN, h50, h19, han, hD, ⟨xs, h25, hx⟩, h40, _, _, hCC⟩ | ⟨s1, ty, pp, nf, W0, sb, nb, q1, ho, hs1, h22, h19, h20, hd, hpp, h24, h29, h30, h37, h31, h32, h33, hsb, hW0, hs1b, han, hD1, hDf, hfm, h14, h17, h14b, h17b, h15, h15b, hB, _, _, _, h35, hff⟩
  · subst han
    refine ⟨?_, jm_var hC hM h41 (by omega) ho hty h1 h2 hj hN he (fun i hi => (h9 i hi).1) (fun c => (h10 c).2.2) (fun c => (h11 c).2.2)⟩
    rcases ho with ⟨_, h6, _⟩ | ⟨_, h6⟩
    · exact Or.inl h6
    · rw [h6, Nat.add_sub_cancel] at hty
      omega
  · subst han
    refine ⟨?_, jm_arr hC hM (by omega) ho hj hN h45 h8 h9 h10 hd hb hb1 hb3 hx h46 he (fun i hi => ⟨(hy i hi).1, (hy i hi).2.2.1⟩) hD hCC⟩
    rcases ho with ⟨h9, _⟩ | ⟨h6, a, b, _⟩ <;> omega
  · subst han
    exact ⟨by omega, jm_sw hC hM (by omega) h13 hd40 hN h50 h19 hD h25 hx h40 hCC⟩
  · subst han
    subst hpp
    subst hlv
    refine ⟨?_, jm_proc hC hW ih hM rfl hF hM.2.1.1 ho hs1 h22 h19 hd h24 h29 h30 h37 h31 h32 h33 hsb hW0 hs1b hD1 hDf (fun i hi => ⟨(hfm i hi).1, (hfm i hi).2.1, (hfm i hi).2.2.1⟩) h14 h17 h14b h17b h15 h15b hB h35 hff⟩
    rcases ho with ⟨h9, _⟩ | ⟨h6, a, b, _⟩ <;> omega
theorem dcs_j (hC : MC kd wr TK ph m Cf SL fM NS ns SZ q0) (hW : WAL kd fA fM W) (ih : MIH kd wr nm TK SG ph vv m z Cf SL fA fM NS ns SZ q0 W) (hlv : lev = r.length) (hF : 3 * (41 - d) + 8 ≤ F0) : ∀ (j s e eE sgx sgx' q q' : Nat) (al : List Nat) (C C' : CV), MH kd wr nm TK vv m z Cf SL fA fM d s eE (s0 :: st) lev p sgx pn C C' → e ≤ eE → DCSX kd fA fM W d (s0 :: st) (hdM st) p r j s e sgx sgx' q q' al C C' →
    ∃ T, JDX (fun LA PD T => DLC kd wr nm TK z fA SL NS ns SZ lev pn (RX4_block F0) d j (sg + WW) sg (C 2) (C' 2) (C 1) (C' 1) s e (s0 :: st) LA PD T) kd wr nm TK SG m SL fA fM NS ns lev (RXD kd wr nm TK SG ph m Cf SL fA fM NS ns SZ q0 lev p sg s0 st s e C C' T) p sg WW s e s0 st al C C' T := by
  intro j
  induction j with
  | zero =>
    intro s e eE sgx sgx' q q' al C C' hM hee ⟨h1, _, _, h4, h5, h6⟩
    subst h1
    subst h4
    subst h5
    have := hM.2.2.2.2.2.1 1
    obtain ⟨hNS, hns, _⟩ := hC.1
    exact ⟨0, jdl_nil (rxd_nil rfl (Nat.le_refl _)) h6 (by omega)⟩
  | succ j ihj =>
    intro s e eE sgx sgx' q q' al C C' hM hee ⟨e1, sgx1, q1, C1, an, al1, hX, h41, hal, _, _, hR⟩
    obtain ⟨hCT, ⟨hd1, hd2, _⟩, ⟨_, hstk, _⟩, hO, hsg, hL, h7f, h7s, hem, hk50⟩ := id hM
    have hT := hCT.1
    have hB := hCT.2.1
    have hm9 := hCT.m9
    have hPH := hC.2.1
    obtain ⟨a1, a2, _⟩ := dcl_tp hW.tp hX
    obtain ⟨b1, b2, _⟩ := dcs_tp hW.tp _ _ _ _ _ _ _ _ _ _ hR
    have sd := dcl_sd hW.tp hX
    have wX := dcl_ws hW.ws hX
    have wR := dcs_ws hW.ws _ _ _ _ _ _ _ _ _ _ hR
    have xX := dcl_9 hW.w9 hW.tp hX
    have xR := dcs_9 hW.w9 hW.tp _ _ _ _ _ _ _ _ _ _ hR
    have hs0 : s0 < C 2 := hstk s0 List.mem_cons_self
    have f2 := hL 2
    have g2 := a2 2
    have g2' := b2 2
    have hk : kd s ≠ 5 := by
      rcases hX with ⟨s1, j, ty, own, ho, hty, h1, h2, _⟩ | ⟨s1, ty, j, n, xs, e1, b, ho, _⟩ | ⟨h13, _⟩ | ⟨s1, ty, pp, nf, W0, sb, nb, q1, ho, _⟩
      · rcases ho with ⟨_, h6, _⟩ | ⟨_, h6⟩
        · omega
        · rw [h6, Nat.add_sub_cancel] at hty
          omega
      · rcases ho with ⟨h9, _⟩ | ⟨h6, a, b, _⟩ <;> omega
      · omega
      · rcases ho with ⟨h9, _⟩ | ⟨h6, a, b, _⟩ <;> omega
    have hd40 : d ≤ 40 := by
      rcases hd2 with c | c
      · exact c
      · exact absurd c.2 hk
    have c17 := xX.2.2.1 h7s (by omega)
    have hM1 : MH kd wr nm TK vv m z Cf SL fA fM d s e1 (s0 :: st) lev p sgx pn C C1 := hM.mv ⟨Nat.le_refl _, hd2⟩ (Nat.le_refl _) LEC.rf (hO.ll hT wR (fun t ht => by rw [ht]; exact hs0) g2 f2) hsg ⟨b2.tr3 hL, c7_in h7f xR.2.1, h7s, by omega, by rw [h41]; decide⟩
    have hM2 : MH kd wr nm TK vv m z Cf SL fA fM d (e1 + 1) eE (s0 :: st) lev p sgx1 pn C1 C' := hM.mv ⟨Nat.le_refl _, Or.inl hd40⟩ (by omega) a2 (hO.rr hT wX (fun t ht => by rw [ht]; show s0 < C1 2; omega) g2' f2) ⟨by have := sd.1; omega, by have := sd.2.2.1; omega⟩ ⟨hL, h7f, by omega, hem, hk50⟩
    obtain ⟨hk6, T1, hJ1⟩ := dcl_j (SG := SG) (sg := sg) (WW := WW) hC hW ih hM1 hlv hd40 hF h41 hX
    obtain ⟨T2, hJ2⟩ := ihj _ _ _ _ _ _ _ _ _ _ hM2 hee hR
    have eal : al = anO an ++ al1 := by
      rw [hal]
      cases an with
      | none => rfl
      | some x => rfl
    rw [eal]
    have hw1 := hB.lt (show e1 < e1 + 1 by omega) (by omega)
    exact ⟨T1 + T2, jdl_cons (fun PD PD2 ars ars2 swl swl2 LA LA2 hcon h g => rxd_cons rfl ⟨hB.mono (by omega) (by omega), by omega, hB.mono (by omega) (by omega)⟩ ⟨hPH.mono (by omega) (by omega), hPH.mono (by omega) (by omega), hPH.mono (by omega) (by omega)⟩ ⟨a2 3, b2 3⟩ ⟨a2 4, b2 4⟩ ⟨a2 5, b2 5⟩ xR.2.1 hcon h g) hk6 h41 hw1 hJ1 hJ2⟩
/-- a STATEMENT that is nothing -/
theorem pst_no {k : Nat} {prs : PRL} (h : PSTX kd fA fM k d s e n stk prs q q' C C') (h5 : kd s = 5) : e = s := by
  cases k with
  | zero => exact h.elim
  | succ k =>
    obtain ⟨⟨j, h1, h2, h3, p, sg, q0, r, hp, h4⟩, _⟩ := h
    have hj : j = 0 := by
      refine Classical.byContradiction fun c => ?_
      have := (h1.2 0 (by omega)).1
      rw [show s + 2 * 0 = s by omega, h5] at this
      exact absurd this (by decide)
    subst hj
    rw [show s + 2 * 0 = s by omega] at h4
    rcases h4 with h | h | h | h | h | h | h | h
    · exact absurd (h5.symm.trans h.1) (by decide)
    · exact absurd (h5.symm.trans h.1) (by decide)
    · exact absurd (h5.symm.trans h.1) (by decide)
    · exact absurd (h5.symm.trans h.1) (by decide)
    · exact absurd (h5.symm.trans h.1) (by decide)
    · exact absurd (h5.symm.trans h.1) (by decide)
    · obtain ⟨_, _, _, _, _, _, h4, _⟩ := h
      exact absurd (h5.symm.trans h4) (by decide)
    · exact h.2.2.1
theorem sts_j (hC : MC kd wr TK ph m Cf SL fM NS ns SZ q0) (hW : WAL kd fA fM W) (ih : MIH kd wr nm TK SG ph vv m z Cf SL fA fM NS ns SZ q0 W) (hlv : lev = r.length) (hN : 3 * (41 - d) + 1 ≤ N) (hF : 3 * (41 - d) + 8 ≤ F0) : ∀ (xs : List Nat) (s e q q' : Nat) (C C' : CV), MH kd wr nm TK vv m z Cf SL fA fM d s e stk lev p sg pn C C' → e < m → STSX kd fM W d stk p sg r xs s e q q' C C' →
    ∃ T F, JRW kd wr nm TK SG m z SL fA fM NS ns SZ lev pn (RXS kd wr nm TK SG ph m Cf SL fA fM NS ns SZ q0 lev p kp stk s e C C' T F) p sg kp N d (RX4_block F0) xs s e stk q q' C C' T F := by
  obtain ⟨F1, rfl⟩ : ∃ F1, F0 = F1 + 1 := ⟨F0 - 1, by omega⟩
  intro xs
  induction xs with
  | nil => exact fun _ _ _ _ _ _ _ _ h => h.elim
  | cons x xr ihx =>
    intro s e q q' C C' hM hlt h
    have hCT := hM.1
    have hB := hCT.2.1
    have hm9 := hCT.m9
    have hPH := hC.2.1
    have hT := hCT.1
    obtain ⟨hNS, hns, _⟩ := hC.1
    obtain ⟨_, ⟨hd1, hd2, _⟩, ⟨hne, hstk, _⟩, hO, hsg, hL, h7f, h7s, hem, hk50⟩ := id hM
    cases xr with
    | nil =>
      obtain ⟨hX, _, hk41⟩ := h
      obtain ⟨a1, a2, _⟩ := hW.tp _ _ _ _ _ _ _ _ _ _ hX
      have l1 := a2 1
      have f1 := hL 1
      obtain ⟨T, F, hJ⟩ := ih d s e x stk q q' C C' lev p sg q r pn kp N F1 hX hlv hM hN (by omega)
      refine ⟨T, F, jrw_one (R1 := RXS kd wr nm TK SG ph m Cf SL fA fM NS ns SZ q0 lev p kp stk s e C C' T F) (fun PA PM PA' PM' a b hcon h1 => ?_) ⟨l1, by omega⟩ hk41 ?_ a1 (hB.mono a1 hem) (by rw [RA5]; exact hJ)⟩
      · refine rx_mk h1 ⟨rfl, rfl⟩ ⟨rfl, rfl⟩ ⟨rfl, rfl⟩ ⟨rfl, rfl⟩ ⟨rfl, rfl⟩ (Nat.le_refl _) (Nat.le_refl _) (fun X hX => hX) (fun z hz => hz) (fun E hEQ hLM hSY => ?_)
        exact ⟨hLM, hcon E hEQ rfl hLM hSY⟩
      · omega
    | cons y yr =>
      obtain ⟨e1, q1, C1, hX, h41, _, hR⟩ := h
      obtain ⟨a1, a2, _⟩ := hW.tp _ _ _ _ _ _ _ _ _ _ hX
      obtain ⟨b1, b2, _⟩ := sts_tp hW.tp _ _ _ _ _ _ _ hR
      have wX := hW.ws _ _ _ _ _ _ _ _ _ _ hX
      have wR := sts_ws hW.ws _ _ _ _ _ _ _ hR
      have xX := hW.w9 _ _ _ _ _ _ _ _ _ _ hX
      have xR := sts_9 hW.w9 hW.tp _ _ _ _ _ _ _ hR
      have l1 := a2 1
      have f1 := hL 1
      have f2 := hL 2
      have g2 := a2 2
      have g2' := b2 2
      have c17 := xX.2.2.1 h7s (by omega)
      have hs0 : stk.headD 0 < C 2 := by
        cases stk with
        | nil => exact absurd rfl hne
        | cons t r => exact hstk t List.mem_cons_self
      have hd40 : d ≤ 40 := by
        rcases hd2 with c | c
        · exact c
        · obtain ⟨k, hk⟩ := hW
          have := pst_no (hk _ _ _ _ _ _ _ _ _ _ hX) c.2
          rw [this] at h41
          exact absurd (c.2.symm.trans h41) (by decide)
      have hM1 : MH kd wr nm TK vv m z Cf SL fA fM d s e1 stk lev p sg pn C C1 := hM.mv ⟨Nat.le_refl _, hd2⟩ (Nat.le_refl _) LEC.rf (hO.ll hT wR (fun t ht => by rw [ht]; exact hs0) g2 f2) hsg ⟨b2.tr3 hL, c7_in h7f xR.2.1, h7s, by omega, by rw [h41]; decide⟩
      have hM2 : MH kd wr nm TK vv m z Cf SL fA fM d (e1 + 1) e stk lev p sg pn C1 C' := hM.mv ⟨Nat.le_refl _, Or.inl hd40⟩ (by omega) a2 (hO.rr hT wX (fun t ht => by rw [ht]; omega) g2' f2) ⟨hsg.1, by
        have := cntP_mono (w := fM) (p := p) l1
        omega⟩ ⟨hL, h7f, by omega, hem, hk50⟩
      obtain ⟨T, F, hJ⟩ := ih d s e1 x stk q q1 C C1 lev p sg q r pn kp N F1 hX hlv hM1 hN (by omega)
      obtain ⟨T2, F2, hJ2⟩ := ihx _ _ _ _ _ _ hM2 hlt hR
      have hw1 := hB.lt (show e1 < e1 + 1 by omega) (by omega)
      have hw0 := hB.mono a1 (show e1 ≤ m by omega)
      have hw2 := hB.mono b1 hem
      have hp0 := hPH.mono a1 (show e1 ≤ m by omega)
      have hp1 := hPH.mono (show e1 ≤ e1 + 1 by omega) (show e1 + 1 ≤ m by omega)
      have hp2 := hPH.mono b1 hem
      refine ⟨T + T2 + 1, F + F2, jrw_cons (R1 := RXS kd wr nm TK SG ph m Cf SL fA fM NS ns SZ q0 lev p kp stk s e1 C C1 T F) (R2 := RXS kd wr nm TK SG ph m Cf SL fA fM NS ns SZ q0 lev p kp stk (e1 + 1) e C1 C' T2 F2) (fun PA PM PA2 PM2 PA' PM' a b c dd hcon h1 h2 => ?_) l1 h41 ?_ a1 hw0 hw1 (by rw [RA5]; exact hJ) (by simp) hJ2⟩
      · refine rx_mk2 h1 h2 ⟨rfl, rfl⟩ ⟨rfl, rfl⟩ ⟨rfl, rfl⟩ ⟨rfl, rfl⟩ ⟨rfl, rfl⟩ ⟨a2 3, b2 3⟩ ⟨a2 4, b2 4⟩ ⟨a2 5, b2 5⟩ xR.2.1 (by omega) (by omega) (fun X Y hX hY => ?_) (fun z hz => hz) (fun E hEQ hLM hSY => ?_)
        · refine (FLR.app hX hY).perm (fun w => ?_)
          simp only [List.mem_append, List.nil_append]
          constructor
          · rintro ((h | h) | h | h) <;> simp [h]
          · rintro ((h | h) | h | h) <;> simp [h]
        · obtain ⟨n1, n2⟩ := app_nil hLM
          have n1 : b = [] := n1
          exact ⟨⟨n1, n2⟩, hcon E hEQ rfl n1 n2 hSY⟩
      · omega
end RR6
