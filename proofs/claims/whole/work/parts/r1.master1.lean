/-! THE MASTER: SCOPES of STATEMENTS; STATEMENTS with none within -/
section RR1
variable {kd wr nm TK SG ph : Nat → Nat} {vv : Nat → Int64} {m z : Nat} {Cf : CV} {SL : Nat → List Nat} {fA fM : Wd} {NS ns SZ : Nat} {q0 : Int32 × Int32} {d lev p sg s e j n q q' qq kp N F0 : Nat} {stk : List Nat} {pn : Nat → Int32} {C C' : CV} {W : PSTT} {r : PRL} {rc : TX4_block}
/-- LABELS, then symbols of SCOPES begun there -/
def WLB (fA fM : Wd) (W : PSTT) : Prop := ∀ d s e n stk prs q q' C C', W d s e n stk prs q q' C C' → ∃ j, (∀ i, i < j → gi fM 19 (C 1 + i) = 4) ∧ WSH fA fM (fun _ => False) (upD C 1 j) C'
theorem wlb_pst : ∀ k, WLB fA fM (PSTX kd fA fM k) := by
  intro k
  cases k with
  | zero => exact fun _ _ _ _ _ _ _ _ _ _ h => h.elim
  | succ k =>
    intro d s e n stk prs q q' C C' h
    obtain ⟨⟨j, h1, h2, h3, h4⟩, _⟩ := h
    exact ⟨j, fun i hi => (h1.2 i hi).2.2.2.1, pln_ws (pst_ws k) h4⟩
/-- what's used of a W -/
def WAL (kd : Nat → Nat) (fA fM : Wd) (W : PSTT) : Prop := ∃ k, ∀ d s e n stk prs q q' C C', W d s e n stk prs q q' C C' → PSTX kd fA fM k d s e n stk prs q q' C C'
theorem WAL.tp (h : WAL kd fA fM W) : WTP W := by
  obtain ⟨k, h⟩ := h
  exact fun d s e n stk prs q q' C C' g => pst_tp k _ _ _ _ _ _ _ _ _ _ (h _ _ _ _ _ _ _ _ _ _ g)
theorem WAL.ws (h : WAL kd fA fM W) : WSP fA fM W := by
  obtain ⟨k, h⟩ := h
  exact fun d s e n stk prs q q' C C' g => pst_ws k _ _ _ _ _ _ _ _ _ _ (h _ _ _ _ _ _ _ _ _ _ g)
theorem WAL.w9 (h : WAL kd fA fM W) : W9 fM W := by
  obtain ⟨k, h⟩ := h
  exact fun d s e n stk prs q q' C C' g => pst_9 k _ _ _ _ _ _ _ _ _ _ (h _ _ _ _ _ _ _ _ _ _ g)
theorem WAL.sq (h : WAL kd fA fM W) : WSQ fM W := by
  obtain ⟨k, h⟩ := h
  exact fun d s e n stk prs q q' C C' g => pst_sq k _ _ _ _ _ _ _ _ _ _ (h _ _ _ _ _ _ _ _ _ _ g)
theorem WAL.lb (h : WAL kd fA fM W) : WLB fA fM W := by
  obtain ⟨k, h⟩ := h
  exact fun d s e n stk prs q q' C C' g => wlb_pst k _ _ _ _ _ _ _ _ _ _ (h _ _ _ _ _ _ _ _ _ _ g)
/-- a SCOPE of a STATEMENT has LABELS only -/
theorem ins_lab (hT : TBM kd wr nm vv m Cf TK SL fA fM) (hW : WAL kd fA fM W) {prs : PRL} (h : INS9 fM W d s e n stk prs q q' C C') (hO : OUT SL C C') (hf : C' 2 ≤ Cf 2) : C 2 < C' 2 ∧ ∀ l ∈ SL (C 2), C 1 ≤ l ∧ l < C' 1 ∧ gi fM 19 l = 4 := by
  obtain ⟨_, _, _, hB⟩ := h
  have u1 : upD C 2 1 1 = C 1 := upD_n (by decide)
  have u2 : upD C 2 1 2 = C 2 + 1 := upD_s
  have hL := (hW.tp _ _ _ _ _ _ _ _ _ _ hB).2.1 2
  rw [u2] at hL
  obtain ⟨j, h1, ⟨g1, g2, g3⟩, h2, _⟩ := hW.lb _ _ _ _ _ _ _ _ _ _ hB
  rw [u1] at h1
  refine ⟨by omega, fun l hl => ?_⟩
  obtain ⟨o1, o2⟩ := hO (C 2) l (Nat.le_refl _) (by omega) hl
  refine ⟨o1, o2, ?_⟩
  by_cases c : l < C 1 + j
  · have := h1 (l - C 1) (by omega)
    rw [show C 1 + (l - C 1) = l by omega] at this
    exact this
  · have v1 : upD (upD C 2 1) 1 j 1 = C 1 + j := by rw [upD_s, u1]
    have v2 : upD (upD C 2 1) 1 j 2 = C 2 + 1 := by rw [upD_n (by decide), u2]
    obtain ⟨t, p, hD, ht⟩ := h2 l (by omega) o2
    have := nil_in hT hD.2.2 (by omega) hl
    rcases ht with ht | ht
    · exact ht.elim
    · omega
/-- a STATEMENT in a SCOPE of its own -/
theorem ins_j (hC : MC kd wr TK ph m Cf SL fM NS ns SZ q0) (hW : WAL kd fA fM W) (ih : MIH kd wr nm TK SG ph vv m z Cf SL fA fM NS ns SZ q0 W) (h : INS9 fM W d s e n stk ((p, sg, qq) :: r) q q' C C') (hl : lev = r.length) (hM : MH kd wr nm TK vv m z Cf SL fA fM d s e stk lev p sg pn C C') (hlen : stk.length + 1 ≤ 2 * d + 2) (hN : 3 * (41 - d) + 1 ≤ N) (hF : 3 * (41 - d) + 8 ≤ F0) :
    ∃ T F, JSS kd wr nm TK SG m z SL fA fM NS ns SZ lev pn (RXS kd wr nm TK SG ph m Cf SL fA fM NS ns SZ q0 lev p kp stk s e C C' T F) p sg kp N s e n stk q q' C C' T F (fX4_scoped (RX4_block F0) (Int32.ofNat d)) := by
  have hT := hM.1.1
  have hL := hM.2.2.2.2.2.1
  obtain ⟨hlt, hlb⟩ := ins_lab hT hW h hM.2.2.2.1 (hL 2)
  obtain ⟨h14, h17, h15, hB⟩ := h
  have h15 : gi fM 15 (C 2) = Int32.ofNat p := h15
  obtain ⟨hNS, hns, _⟩ := hC.1
  have hU := hM.1.2.2.2.1
  have l1 := hL 1
  have l2 := hL 2
  have l9 := (hW.tp _ _ _ _ _ _ _ _ _ _ hB).2.1 1
  have u1 : upD C 2 1 1 = C 1 := upD_n (by decide)
  rw [u1] at l9
  obtain ⟨F1, rfl⟩ : ∃ F1, F0 = F1 + 1 := ⟨F0 - 1, by omega⟩
  have hl9 := hM.2.2.1.2.2.2.2.1
  have hd := hM.2.1.2.1
  obtain ⟨T, F, hJ⟩ := ih d s e n (C 2 :: stk) q q' (upD C 2 1) C' lev p sg qq r pn kp N F1 hB hl (hM.ins h14 h15 hlen (by omega) (fun i hi => by rw [(hlb i hi).2.2]; decide)) hN (by omega)
  refine ⟨T, F, jss_ins (R1 := RXS kd wr nm TK SG ph m Cf SL fA fM NS ns SZ q0 lev p kp (C 2 :: stk) s e (upD C 2 1) C' T F) (fun PA PM a b hR => rx_ins h15 h17 (by omega) hR ⟨(upD_n (by decide)).symm, rfl⟩ ⟨(upD_n (by decide)).symm, rfl⟩ ⟨(upD_n (by decide)).symm, rfl⟩ ⟨(upD_n (by decide)).symm, rfl⟩ ⟨(upD_n (by decide)).symm, rfl⟩) hT (by omega) hNS (by omega) h14 h17 h15 hU (by rw [List.length_cons]; omega) hlb ?_⟩
  rw [RA5]
  exact hJ
theorem dmP.mono {wr : Nat → Nat} {a b : Nat} {x : Int32} (h : dmP wr q0 (a, x)) (hab : a = b ∨ wr a < wr b) (hb : wr b < 2147483648) : dmP wr q0 (b, x) := by
  rcases hab with rfl | hab
  · exact h
  · obtain ⟨h1, h2⟩ := h
    refine ⟨h1, Or.inl ?_⟩
    have e1 : (Int32.ofNat (wr a)).toInt = (wr a : Int) := ti_iN (by omega)
    have e2 : (Int32.ofNat (wr b)).toInt = (wr b : Int) := ti_iN hb
    rw [Int32.lt_iff_toInt_lt]
    show q0.2.toInt < (Int32.ofNat (wr b)).toInt
    rcases h2 with h2 | h2
    · have h2 : q0.2 < Int32.ofNat (wr a) := h2
      rw [Int32.lt_iff_toInt_lt] at h2
      omega
    · have h2 : q0.2 = Int32.ofNat (wr a) := h2.1
      rw [h2]
      omega
theorem jm_none (hC : MC kd wr TK ph m Cf SL fM NS ns SZ q0) (hM : MH kd wr nm TK vv m z Cf SL fA fM d s e stk lev p sg pn C C') (hn : n < 24000) (hk : ¬ (kd s = 2 ∨ kd s = 4 ∨ kd s = 14 ∨ kd s = 15 ∨ kd s = 18 ∨ kd s = 32)) (h7 : gi fM 7 n = 20) (he : e = s) (hq : q' = q) (hCC : C' = upC C 0 (n + 1)) :
    ∃ T F, JSP kd wr nm TK SG m z SL fA fM NS ns SZ lev pn (RXS kd wr nm TK SG ph m Cf SL fA fM NS ns SZ q0 lev p kp stk s e C C' T F) p sg kp N s e n stk q q' C C' T F (fX4_statement_61 rc (Int32.ofNat d)) := by
  subst he
  subst hq
  have hL := hM.2.2.2.2.2.1 1
  have k1 : C' 1 = C 1 := by rw [hCC]; exact upC_n (by decide)
  obtain ⟨hNS, hns, _⟩ := hC.1
  exact ⟨0, 0, jp_none hM.1 (fun PA PM L => rx_leaf k1 (by rw [hCC]; exact upC_n (by decide)) (by rw [hCC]; exact upC_n (by decide)) (by rw [hCC]; exact upC_n (by decide)) (Nat.zero_le _) rfl FLR.rf (F7X.rf (by rw [hCC]; exact upC_n (by decide)))) hk h7 hn k1 (by rw [hCC]; exact upC_n (by decide)) (by omega) N⟩
theorem jm_print (hC : MC kd wr TK ph m Cf SL fM NS ns SZ q0) (hM : MH kd wr nm TK vv m z Cf SL fA fM d s e stk lev p sg pn C C') (hn : n < 24000) {x lo e1 cn : Nat} (h32 : kd s = 32) (h43 : kd (s + 1) = 43) (hd : d ≤ 39) (h7 : gi fM 7 n = 23) (h8 : gi fM 8 n = Int32.ofNat x) (hnx : n = x + 1) (hx : XPR kd (hdM stk) lo x (d + 1) (s + 2) e1 cn fA fM) (h44 : kd e1 = 44) (he : e = e1 + 1) (hq : q' = q) (hCC : C' = upC C 0 (n + 1)) :
    ∃ T F, JSP kd wr nm TK SG m z SL fA fM NS ns SZ lev pn (RXS kd wr nm TK SG ph m Cf SL fA fM NS ns SZ q0 lev p kp stk s e C C' T F) p sg kp N s e n stk q q' C C' T F (fX4_statement_61 rc (Int32.ofNat d)) := by
  subst he
  subst hq
  have hL := hM.2.2.2.2.2.1 1
  have k1 : C' 1 = C 1 := by rw [hCC]; exact upC_n (by decide)
  obtain ⟨hNS, hns, _⟩ := hC.1
  exact ⟨_, 0, jp_print hM.1 (fun PA PM L => rx_leaf k1 (by rw [hCC]; exact upC_n (by decide)) (by rw [hCC]; exact upC_n (by decide)) (by rw [hCC]; exact upC_n (by decide)) (Nat.le_refl _) rfl FLR.rf (F7X.rf (by rw [hCC]; exact upC_n (by decide)))) h32 h43 hd h7 h8 hnx hx h44 hn hM.2.2.2.2.2.2.2.2.1 k1 (by rw [hCC]; exact upC_n (by decide)) (by omega) N⟩
theorem jm_goto (hC : MC kd wr TK ph m Cf SL fM NS ns SZ q0) (hM : MH kd wr nm TK vv m z Cf SL fA fM d s e stk lev p sg pn C C') (hn : n < 24000) {x lo : Nat} (h14 : kd s = 14) (hd : d ≤ 40) (h7 : gi fM 7 n = 24) (h8 : gi fM 8 n = Int32.ofNat x) (hnx : n = x + 1) (hx : XAM kd (hdM stk) lo x d (s + 1) e fA fM) (hq : q' = q) (hCC : C' = upC C 0 (n + 1)) :
    ∃ T F, JSP kd wr nm TK SG m z SL fA fM NS ns SZ lev pn (RXS kd wr nm TK SG ph m Cf SL fA fM NS ns SZ q0 lev p kp stk s e C C' T F) p sg kp N s e n stk q q' C C' T F (fX4_statement_61 rc (Int32.ofNat d)) := by
  subst hq
  have hL := hM.2.2.2.2.2.1 1
  have he := hM.2.2.2.2.2.2.2.2.1
  have hlt := amX_lt _ _ _ _ (PAM_am _ hx.2)
  have k1 : C' 1 = C 1 := by rw [hCC]; exact upC_n (by decide)
  obtain ⟨hNS, hns, _⟩ := hC.1
  exact ⟨_, 0, jp_goto hM.1 (fun PA PM L => rx_leaf k1 (by rw [hCC]; exact upC_n (by decide)) (by rw [hCC]; exact upC_n (by decide)) (by rw [hCC]; exact upC_n (by decide)) (Nat.le_refl _) rfl FLR.rf (F7X.rf (by rw [hCC]; exact upC_n (by decide)))) h14 hd h7 h8 hnx hx hn he (by omega) k1 (by rw [hCC]; exact upC_n (by decide)) (by omega) N⟩
theorem jm_call (hC : MC kd wr TK ph m Cf SL fM NS ns SZ q0) (hM : MH kd wr nm TK vv m z Cf SL fA fM d s e stk lev p sg pn C C') (hn : n < 24000) {x lo : Nat} (h50 : kd (s + 1) ≠ 50) (h45 : kd (s + 1) ≠ 45) (h7 : gi fM 7 n = 22) (h8 : gi fM 8 n = Int32.ofNat x) (hnx : n = x + 1) (hx : CLC kd (hdM stk) lo x d s e fA fM) (hq : q' = q) (hCC : C' = upC C 0 (n + 1)) :
    ∃ T F, JSP kd wr nm TK SG m z SL fA fM NS ns SZ lev pn (RXS kd wr nm TK SG ph m Cf SL fA fM NS ns SZ q0 lev p kp stk s e C C' T F) p sg kp N s e n stk q q' C C' T F (fX4_statement_61 rc (Int32.ofNat d)) := by
  subst hq
  have hL := hM.2.2.2.2.2.1 1
  have he := hM.2.2.2.2.2.2.2.2.1
  have k1 : C' 1 = C 1 := by rw [hCC]; exact upC_n (by decide)
  obtain ⟨hNS, hns, _⟩ := hC.1
  exact ⟨_, 0, jp_call hM.1 (fun PA PM L => rx_leaf k1 (by rw [hCC]; exact upC_n (by decide)) (by rw [hCC]; exact upC_n (by decide)) (by rw [hCC]; exact upC_n (by decide)) (Nat.le_refl _) rfl FLR.rf (F7X.rf (by rw [hCC]; exact upC_n (by decide)))) h50 h45 h7 h8 hnx hx hn he k1 (by rw [hCC]; exact upC_n (by decide)) (by omega)⟩
theorem jm_assign (hC : MC kd wr TK ph m Cf SL fM NS ns SZ q0) (hM : MH kd wr nm TK vv m z Cf SL fA fM d s e stk lev p sg pn C C') (hn : n < 24000) {x y lo e1 : Nat} {xs : List Nat} {c7 : Nat} (hd : d ≤ 40) (hk1 : kd (s + 1) = 50 ∨ kd (s + 1) = 45) (h7 : gi fM 7 n = 21) (h8 : gi fM 8 n = Int32.ofNat x) (h9 : gi fM 9 n = Int32.ofNat y) (hny : n = y + 1) (hx : PLC kd (hdM stk) lo x d s e1 fA fM) (h50 : kd e1 = 50) (hTG : TGS kd fA fM (hdM stk) d (x :: xs) (x + 1) y (e1 + 1) e) (hq : q' = q) (hCC : C' = upC (upC C 0 (n + 1)) 7 c7) (hc7 : xs.length ≤ 19 ∧ c7 = C 7 ∨ 20 ≤ xs.length ∧ ∃ tk, gi fM 12 (xs.getD 19 0) = Int32.ofNat tk ∧ tk < 8194 ∧ c7 = if C 7 = 0 then tk + 1 else C 7) :
    ∃ T F, JSP kd wr nm TK SG m z SL fA fM NS ns SZ lev pn (RXS kd wr nm TK SG ph m Cf SL fA fM NS ns SZ q0 lev p kp stk s e C C' T F) p sg kp N s e n stk q q' C C' T F (fX4_statement_61 rc (Int32.ofNat d)) := by
  subst hq
  obtain ⟨hCT, ⟨hd1, _⟩, ⟨_, _, _, _, _, hfo⟩, _, _, hL, h7f, h7s, he, hk50⟩ := id hM
  have hL1 := hL 1
  have hk9 := hCT.k9
  have hm9 := hCT.m9
  obtain ⟨hT, hB, hcu, hU, hl9, hS, hFM, hPN, hwr, _⟩ := id hCT
  have kk : ∀ i, i ≠ 0 → i ≠ 7 → C' i = C i := fun i h0 h7 => by rw [hCC, upC_n h7]; exact upC_n h0
  have k7 : C' 7 = c7 := by rw [hCC]; exact upC_s
  obtain ⟨hc0, hPH, _, ⟨hq7, hz7⟩, hFO, _⟩ := id hC
  obtain ⟨hNS, hns, _⟩ := hc0
  have k1 := kk 1 (by decide) (by decide)
  have lx := plc_lt hx
  obtain ⟨g1, g2, lo', s', cn', g3, g4⟩ := tgs_tk _ _ _ _ hTG
  have ex12 : nd fM 12 x = s := nd_of hx.2.1 (by omega)
  have g3' := PWR_lt9 _ _ _ _ _ _ _ g3.2
  have ey12 : nd fM 12 y = s' := nd_of (pwr_12 hk9 g3.2 (by omega) (by omega)) (by omega)
  have hx7 : gi fM 7 x = 3 ∨ gi fM 7 x = 4 := by
    rcases hx.2.2.2 with ⟨_, h, _⟩ | ⟨_, h⟩
    · exact Or.inl h
    · exact Or.inr h.2.1
  have h20 : 20 ≤ xs.length → dmP wr q0 (nd fM 12 (xs.getD 19 0), 5) ∧ (C 7 = 0 → C' 7 = nd fM 12 (xs.getD 19 0) + 1) ∧ Cf 7 ≠ 0 := fun h => by
    rcases hc7 with ⟨c, _⟩ | ⟨_, tk, t1, t2, t3⟩
    · omega
    · have et : nd fM 12 (xs.getD 19 0) = tk := nd_of t1 (by omega)
      have hm : xs.getD 19 0 ∈ xs := by
        rw [List.getD_eq_getElem?_getD, List.getElem?_eq_getElem (by omega)]
        exact List.getElem_mem _
      obtain ⟨tk', u1, u2, u3⟩ := g2 _ hm
      have etk : tk' = tk := (eq_iN (by omega) (by omega)).mp (u1.symm.trans t1)
      rw [et]
      have hc0 : C' 7 ≠ 0 := by rw [k7, t3]; split <;> omega
      have hcf := h7f hc0
      have hdm := hq7 (by omega)
      refine ⟨hdm.mono ?_ (by have := hwr tk; omega), fun c => by rw [k7, t3, if_pos c], by omega⟩
      rw [k7, t3] at hcf
      by_cases c : C 7 = 0
      · rw [if_pos c] at hcf
        exact Or.inl (by omega)
      · rw [if_neg c] at hcf
        exact Or.inr (hB.lt (by omega) (by omega))
  refine ⟨_, 0, jp_assign (xs := xs) hCT (fun PA PM => ?_) (fun h0 => ?_) hk1 ⟨hd1, hd⟩ h7 h8 h9 hny hx h50 hTG hk50 hn he k1 (kk 2 (by decide) (by decide)) (by omega)⟩
  · refine rx_leaf k1 (kk 3 (by decide) (by decide)) (kk 4 (by decide) (by decide)) (kk 5 (by decide) (by decide)) (Nat.le_refl _) rfl ?_ ?_
    · have hFU : FUJ = 99999 + 1 := by unfold FUJ; rfl
      rw [hFU]
      refine asg_flr hT (fun t ht => UPM.lt hU t ht) hx7 (fun tk htk => ?_) (fun h1 h2 tk k hw => ?_) (fun h => (h20 h).1)
      · rw [ex12]
        rcases htk with rfl | ⟨v, hv, rfl⟩
        · rw [ey12]
          exact hB.lt (by omega) (by omega)
        · obtain ⟨tk', u1, u2, u3⟩ := g2 v hv
          rw [nd_of u1 (by omega)]
          exact hB.lt (by omega) (by omega)
      · obtain ⟨i1, t, t1, t2⟩ := lu_in hT (fun t ht => UPM.lt hU t ht) h1
        obtain ⟨tk0, v1, v2⟩ := hfo t t1 _ t2 h2.1
        have hf := hFO _ i1 h2
        rw [nd_of v2 (by omega)] at hf
        rw [ex12] at hw
        have := hB.lt v1 (by omega)
        exact fln_dm hf (by omega) (by have := hwr tk; omega)
    · intro c0 c1
      rcases hc7 with ⟨c, c'⟩ | ⟨h20', _⟩
      · exact absurd (k7.trans (c'.trans c0)) c1
      · rw [(h20 h20').2.1 c0, Nat.add_sub_cancel]
        exact List.mem_append_right _ ((tga_mem xs 1).mpr (Or.inr ⟨19, rfl, by omega, rfl⟩))
  · refine Classical.byContradiction fun c => ?_
    exact (h20 (by omega)).2.2 (hz7 h0)
end RR1
