/-! THE MASTER: choices, loops -/
section RR2
variable {kd wr nm TK SG ph : Nat → Nat} {vv : Nat → Int64} {m z : Nat} {Cf : CV} {SL : Nat → List Nat} {fA fM : Wd} {NS ns SZ : Nat} {q0 : Int32 × Int32} {d lev p sg s e j n q q' qq kp N F0 : Nat} {stk : List Nat} {pn : Nat → Int32} {C C' : CV} {W : PSTT} {r : PRL} {rc : TX4_block}
theorem FLR.perm {LA LR LR1 : List (Nat × Int32)} (h : FLR wr q0 LA LR) (hp : ∀ x, x ∈ LR ↔ x ∈ LR1) : FLR wr q0 LA LR1 := h.cgR hp
/-- counters go on: what's told of a part between -/
theorem c7_in {C1 : CV} (h7 : C' 7 ≠ 0 → Cf 7 = C' 7) (h : C1 7 ≠ 0 → C' 7 = C1 7) : C1 7 ≠ 0 → Cf 7 = C1 7 := fun c => by
  have := h c
  rw [h7 (by omega), this]
theorem jm_if1 (hC : MC kd wr TK ph m Cf SL fM NS ns SZ q0) (hW : WAL kd fA fM W) (ih : MIH kd wr nm TK SG ph vv m z Cf SL fA fM NS ns SZ q0 W) (hl : lev = r.length) (hM : MH kd wr nm TK vv m z Cf SL fA fM d s e stk lev p sg pn C C') (hn : n < 24000) (hN : 3 * (41 - d) ≤ N) (hF : 3 * (41 - d) + 7 ≤ F0) {x y e1 cn : Nat} {C1 : CV} (h15 : kd s = 15) (hd : d ≤ 39) (h7 : gi fM 7 n = 25) (h8 : gi fM 8 n = Int32.ofNat x) (h9 : gi fM 9 n = Int32.ofNat y) (hx : XPR kd (hdM stk) (C 0) x (d + 1) (s + 1) e1 cn fA fM) (h16 : kd e1 = 16) (hI : INS9 fM W (d + 1) (e1 + 1) e y stk ((p, sg, qq) :: r) q q' (upC C 0 (x + 1)) C1) (hk17 : kd e ≠ 17) (h10 : gi fM 10 n = -1) (hn1 : n = C1 0) (hCC : C' = upC C1 0 (n + 1)) (hlo : C 0 ≤ x) :
    ∃ T F, JSP kd wr nm TK SG m z SL fA fM NS ns SZ lev pn (RXS kd wr nm TK SG ph m Cf SL fA fM NS ns SZ q0 lev p kp stk s e C C' T F) p sg kp N s e n stk q q' C C' T F (fX4_statement_61 (RX4_block F0) (Int32.ofNat d)) := by
  have hCT := hM.1
  have hT := hCT.1
  have hB := hCT.2.1
  obtain ⟨hd1, hd2, _⟩ := hM.2.1
  have hlen := hM.2.2.1.2.2.2.2.1
  have hO := hM.2.2.2.1
  have hsg := hM.2.2.2.2.1
  obtain ⟨hL, h7f, h7s, he, hk50⟩ := hM.2.2.2.2.2
  obtain ⟨hc0, hPH, _⟩ := id hC
  obtain ⟨hNS, hns, _⟩ := hc0
  have lx := PWR_lt9 _ _ _ _ _ _ _ hx.2
  obtain ⟨t1, t2, t3, t4⟩ := ins_tp hW.tp hI
  have kk : ∀ i, i ≠ 0 → C' i = C1 i := fun i h0 => by rw [hCC]; exact upC_n h0
  have uu : ∀ i, i ≠ 0 → upC C 0 (x + 1) i = C i := fun i h0 => upC_n h0
  have u0 : upC C 0 (x + 1) 0 = x + 1 := upC_s
  rw [u0] at t3
  have hLC : LEC C (upC C 0 (x + 1)) := upC_le (by omega)
  have hL1 : LEC C1 C' := by rw [hCC]; exact upC_le (by omega)
  have l1 := t2 1
  have l2 := hL 1
  rw [uu 1 (by decide)] at l1
  have m1 := kk 1 (by decide)
  obtain ⟨F1, rfl⟩ : ∃ F1, F0 = F1 + 2 := ⟨F0 - 2, by omega⟩
  have hMi : MH kd wr nm TK vv m z Cf SL fA fM (d + 1) (e1 + 1) e stk lev p sg pn (upC C 0 (x + 1)) C1 := hM.mv ⟨by omega, Or.inl (by omega)⟩ (by omega) hLC (hO.sub (uu 1 (by decide)) (by rw [uu 2 (by decide)]; exact Nat.le_refl _) (by omega) (by rw [kk 2 (by decide)]; exact Nat.le_refl _)) (by rw [uu 1 (by decide)]; omega) ⟨hL1.tr3 hL, by rw [← kk 7 (by decide)]; exact h7f, by rw [uu 7 (by decide)]; omega, he, hk50⟩
  obtain ⟨T, F, hJ⟩ := ins_j (kp := kp) (N := N) (F0 := F1) (SG := SG) hC hW ih hI hl hMi (by omega) (by omega) (by omega)
  refine ⟨_, F, jp_if1 (T := T) (F := F) (rc0 := RX4_block (F1 + 1)) (R1 := RXS kd wr nm TK SG ph m Cf SL fA fM NS ns SZ q0 lev p kp stk (e1 + 1) e (upC C 0 (x + 1)) C1 T F) hCT (fun L PA PM PA' PM' a b hcon h1 => ?_) h15 hd h7 h8 h9 h10 hx (by omega) (by omega) h16 hk17 t1 hn he (by omega) (by omega) (fun w => RB6) ?_⟩
  · refine rx_mk h1 ⟨(uu 1 (by decide)).symm, kk 1 (by decide)⟩ ⟨(uu 3 (by decide)).symm, kk 3 (by decide)⟩ ⟨(uu 4 (by decide)).symm, kk 4 (by decide)⟩ ⟨(uu 5 (by decide)).symm, kk 5 (by decide)⟩ ⟨(uu 7 (by decide)).symm, kk 7 (by decide)⟩ ?_ ?_ (fun X hX => ?_) (fun z hz => List.mem_append_right _ hz) (fun E hEQ hLM hSY => ?_)
    · have := hB.mono (show s ≤ e1 + 1 by omega) (by omega)
      have := hB.mono t1 he
      omega
    · have := hPH.mono (show s ≤ e1 + 1 by omega) (by omega)
      have := hPH.mono t1 he
      omega
    · rw [List.append_assoc]
      exact FLR.app FLR.rf hX
    · obtain ⟨n1, n2⟩ := app_nil hLM
      exact ⟨n2, hcon E hEQ n1 n2 hSY⟩
  · exact jss_cg hJ (uu 1 (by decide)).symm (uu 2 (by decide)).symm (kk 1 (by decide)) (kk 2 (by decide))
theorem jm_if2 (hC : MC kd wr TK ph m Cf SL fM NS ns SZ q0) (hW : WAL kd fA fM W) (ih : MIH kd wr nm TK SG ph vv m z Cf SL fA fM NS ns SZ q0 W) (hl : lev = r.length) (hM : MH kd wr nm TK vv m z Cf SL fA fM d s e stk lev p sg pn C C') (hn : n < 24000) (hN : 3 * (41 - d) ≤ N) (hF : 3 * (41 - d) + 7 ≤ F0) {x y v e1 e2 cn q1 : Nat} {C1 C2 : CV} (h15 : kd s = 15) (hd : d ≤ 39) (h7 : gi fM 7 n = 25) (h8 : gi fM 8 n = Int32.ofNat x) (h9 : gi fM 9 n = Int32.ofNat y) (hx : XPR kd (hdM stk) (C 0) x (d + 1) (s + 1) e1 cn fA fM) (h16 : kd e1 = 16) (hI : INS9 fM W (d + 1) (e1 + 1) e2 y stk ((p, sg, qq) :: r) q q1 (upC C 0 (x + 1)) C1) (h17 : kd e2 = 17) (h10 : gi fM 10 n = Int32.ofNat v) (hI2 : INS9 fM W (d + 1) (e2 + 1) e v stk ((p, sg, q1) :: r) q1 q' C1 C2) (hn1 : n = C2 0) (hCC : C' = upC C2 0 (n + 1)) (hlo : C 0 ≤ x) :
    ∃ T F, JSP kd wr nm TK SG m z SL fA fM NS ns SZ lev pn (RXS kd wr nm TK SG ph m Cf SL fA fM NS ns SZ q0 lev p kp stk s e C C' T F) p sg kp N s e n stk q q' C C' T F (fX4_statement_61 (RX4_block F0) (Int32.ofNat d)) := by
  have hCT := hM.1
  have hT := hCT.1
  have hB := hCT.2.1
  obtain ⟨hd1, hd2, _⟩ := hM.2.1
  have hlen := hM.2.2.1.2.2.2.2.1
  have hstk := hM.2.2.1.2.1
  have hO := hM.2.2.2.1
  have hsg := hM.2.2.2.2.1
  obtain ⟨hL, h7f, h7s, he, hk50⟩ := hM.2.2.2.2.2
  obtain ⟨hc0, hPH, _⟩ := id hC
  obtain ⟨hNS, hns, _⟩ := hc0
  have lx := PWR_lt9 _ _ _ _ _ _ _ hx.2
  obtain ⟨t1, t2, t3, t4⟩ := ins_tp hW.tp hI
  obtain ⟨v1, v2, v3, v4⟩ := ins_tp hW.tp hI2
  have x1 := ins_9 hW.w9 hI
  have x2 := ins_9 hW.w9 hI2
  have kk : ∀ i, i ≠ 0 → C' i = C2 i := fun i h0 => by rw [hCC]; exact upC_n h0
  have uu : ∀ i, i ≠ 0 → upC C 0 (x + 1) i = C i := fun i h0 => upC_n h0
  have u0 : upC C 0 (x + 1) 0 = x + 1 := upC_s
  rw [u0] at t3
  have hLC : LEC C (upC C 0 (x + 1)) := upC_le (by omega)
  have hL1 : LEC C2 C' := by rw [hCC]; exact upC_le (by omega)
  have hLC1 := hLC.tr3 t2
  have l1 := t2 1
  have l2 := hL 1
  have l3 := v2 1
  rw [uu 1 (by decide)] at l1
  have m1 := kk 1 (by decide)
  have hm9 := hCT.m9
  have w1 := ins_ws (H := fun _ => False) hW.ws hI
  have w2 := ins_ws (H := fun _ => False) hW.ws hI2
  have hO1 : OUT SL (upC C 0 (x + 1)) C2 := hO.sub (uu 1 (by decide)) (by rw [uu 2 (by decide)]; exact Nat.le_refl _) (by omega) (by rw [kk 2 (by decide)]; exact Nat.le_refl _)
  have hf2 : C2 2 ≤ Cf 2 := by have := hL1.tr3 hL; exact this 2
  have h7c : C2 7 ≠ 0 → Cf 7 = C2 7 := by rw [← kk 7 (by decide)]; exact h7f
  have c17 : C1 7 ≤ e2 := x1.2.2.1 (by rw [uu 7 (by decide)]; omega) (by omega)
  obtain ⟨F1, rfl⟩ : ∃ F1, F0 = F1 + 2 := ⟨F0 - 2, by omega⟩
  have hMi : MH kd wr nm TK vv m z Cf SL fA fM (d + 1) (e1 + 1) e2 stk lev p sg pn (upC C 0 (x + 1)) C1 := hM.mv ⟨by omega, Or.inl (by omega)⟩ (by omega) hLC (hO1.ll hT w2 (fun _ h => h.elim) (t2 2) hf2) (by rw [uu 1 (by decide)]; omega) ⟨v2.tr3 (hL1.tr3 hL), c7_in h7c x2.2.1, by rw [uu 7 (by decide)]; omega, by omega, by rw [h17]; decide⟩
  have hMi2 : MH kd wr nm TK vv m z Cf SL fA fM (d + 1) (e2 + 1) e stk lev p sg pn C1 C2 := hM.mv ⟨by omega, Or.inl (by omega)⟩ (by omega) hLC1 (hO1.rr hT w1 (fun _ h => h.elim) (v2 2) hf2) (by
    have := cntP_mono (w := fM) (p := p) l1
    omega) ⟨hL1.tr3 hL, h7c, by omega, he, hk50⟩
  obtain ⟨T, F, hJ⟩ := ins_j (kp := kp) (N := N) (F0 := F1) (SG := SG) hC hW ih hI hl hMi (by omega) (by omega) (by omega)
  obtain ⟨T2, F2, hJ2⟩ := ins_j (kp := kp) (N := N) (F0 := F1) (SG := SG) hC hW ih hI2 hl hMi2 (by omega) (by omega) (by omega)
  refine ⟨_, F + F2, jp_if2 (T := T) (F := F) (T' := T2) (F' := F2) (q1 := q1) (C1 := C1) (rc0 := RX4_block (F1 + 1)) (R1 := RXS kd wr nm TK SG ph m Cf SL fA fM NS ns SZ q0 lev p kp stk (e1 + 1) e2 (upC C 0 (x + 1)) C1 T F) (R2 := RXS kd wr nm TK SG ph m Cf SL fA fM NS ns SZ q0 lev p kp stk (e2 + 1) e C1 C2 T2 F2) hCT (fun L PA PM PA2 PM2 PA' PM' a b c dd hcon h1 h2 => ?_) h15 hd h7 h8 h9 h10 hx (by omega) (by omega) (by omega) h16 h17 ⟨t1, v1⟩ hn he (by omega) (by omega) (fun w => RB6) ?_ ?_⟩
  · refine rx_mk2 h1 h2 ⟨(uu 1 (by decide)).symm, kk 1 (by decide)⟩ ⟨(uu 3 (by decide)).symm, kk 3 (by decide)⟩ ⟨(uu 4 (by decide)).symm, kk 4 (by decide)⟩ ⟨(uu 5 (by decide)).symm, kk 5 (by decide)⟩ ⟨(uu 7 (by decide)).symm, kk 7 (by decide)⟩ ⟨t2 3, v2 3⟩ ⟨t2 4, v2 4⟩ ⟨t2 5, v2 5⟩ x2.2.1 ?_ ?_ (fun X Y hX hY => ?_) (fun z hz => ?_) (fun E hEQ hLM hSY => ?_)
    · have := hB.mono (show s ≤ e1 + 1 by omega) (by omega)
      have := hB.mono t1 (by omega)
      have := hB.mono (show e2 ≤ e2 + 1 by omega) (by omega)
      have := hB.mono v1 he
      omega
    · have := hPH.mono (show s ≤ e1 + 1 by omega) (by omega)
      have := hPH.mono t1 (by omega)
      have := hPH.mono (show e2 ≤ e2 + 1 by omega) (by omega)
      have := hPH.mono v1 he
      omega
    · refine (FLR.app (FLR.app (FLR.rf (L := L)) hX) hY).perm (fun w => ?_)
      simp only [List.mem_append]
      constructor
      · rintro ((h | h | h) | h | h) <;> simp [h]
      · rintro (((h | h) | h) | h | h) <;> simp [h]
    · simp only [List.mem_append] at hz ⊢
      rcases hz with h | h <;> simp [h]
    · obtain ⟨n1, n3⟩ := app_nil hLM
      obtain ⟨n1, n2⟩ := app_nil n1
      exact ⟨⟨n2, n3⟩, hcon E hEQ n1 n2 n3 hSY⟩
  · exact jss_cg hJ (uu 1 (by decide)).symm (uu 2 (by decide)).symm rfl rfl
  · exact jss_cg hJ2 rfl rfl (kk 1 (by decide)) (kk 2 (by decide))
end RR2
