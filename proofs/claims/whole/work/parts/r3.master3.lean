/-! THE MASTER: loops -/
section RR3
variable {kd wr nm TK SG ph : Nat → Nat} {vv : Nat → Int64} {m z : Nat} {Cf : CV} {SL : Nat → List Nat} {fA fM : Wd} {NS ns SZ : Nat} {q0 : Int32 × Int32} {d lev p sg s e j n q q' qq kp N F0 : Nat} {stk : List Nat} {pn : Nat → Int32} {C C' : CV} {W : PSTT} {r : PRL} {rc : TX4_block}
theorem jm_for (hC : MC kd wr TK ph m Cf SL fM NS ns SZ q0) (hW : WAL kd fA fM W) (ih : MIH kd wr nm TK SG ph vv m z Cf SL fA fM NS ns SZ q0 W) (hl : lev = r.length) (hM : MH kd wr nm TK vv m z Cf SL fA fM d s e stk lev p sg pn C C') (hn : n < 24000) (hN : 3 * (41 - d) ≤ N) (hF : 3 * (41 - d) + 7 ≤ F0) {x y e1 e2 lo : Nat} {xs : List Nat} {C1 : CV} (h18 : kd s = 18) (hd : d ≤ 39) (h7 : gi fM 7 n = 26) (h8 : gi fM 8 n = Int32.ofNat x) (h9 : gi fM 9 n = Int32.ofNat (xs.headD 0)) (h10 : gi fM 10 n = Int32.ofNat y) (hx : PLC kd (hdM stk) (C 0) x (d + 1) (s + 1) e1 fA fM) (h50 : kd e1 = 50) (hE : CHNW kd fM 40 (ELT kd fA fM (hdM stk) (d + 1) s) xs (x + 1) (e1 + 1) e2 lo) (h19 : kd e2 = 19) (hI : INS9 fM W (d + 1) (e2 + 1) e y stk ((p, sg + 1, qq) :: r) q q' (upC C 0 lo) C1) (hn1 : n = C1 0) (hCC : C' = upC C1 0 (n + 1)) (hlo : x < lo) :
    ∃ T F, JSP kd wr nm TK SG m z SL fA fM NS ns SZ lev pn (RXS kd wr nm TK SG ph m Cf SL fA fM NS ns SZ q0 lev p kp stk s e C C' T F) p sg kp N s e n stk q q' C C' T F (fX4_statement_61 (RX4_block F0) (Int32.ofNat d)) := by
  have hCT := hM.1
  have hT := hCT.1
  have hB := hCT.2.1
  have hk9 := hCT.k9
  have hU := hCT.2.2.2.1
  obtain ⟨hd1, hd2, _, _, hp4⟩ := hM.2.1
  have hlen := hM.2.2.1.2.2.2.2.1
  have hO := hM.2.2.2.1
  have hsg := hM.2.2.2.2.1
  obtain ⟨hL, h7f, h7s, he, hk50⟩ := hM.2.2.2.2.2
  obtain ⟨hc0, hPH, ⟨hSZ, _⟩, _⟩ := id hC
  obtain ⟨hNS, hns, _⟩ := hc0
  have lx := plc_lt hx
  have lE := chn_lt (fun lo x s e lo' h => (elt_lt h).2.2) _ _ _ _ _ hE
  obtain ⟨t1, t2, t3, t4⟩ := ins_tp hW.tp hI
  have hm9 := hCT.m9
  have ex12 : nd fM 12 x = s + 1 := nd_of hx.2.1 (by omega)
  have kk : ∀ i, i ≠ 0 → C' i = C1 i := fun i h0 => by rw [hCC]; exact upC_n h0
  have uu : ∀ i, i ≠ 0 → upC C 0 lo i = C i := fun i h0 => upC_n h0
  have u0 : upC C 0 lo 0 = lo := upC_s
  rw [u0] at t3
  have hL1 : LEC C1 C' := by rw [hCC]; exact upC_le (by omega)
  have l1 := t2 1
  have l2 := hL 1
  have l4 := hL 4
  have lc4 := t2 4
  rw [uu 1 (by decide)] at l1
  rw [uu 4 (by decide)] at lc4
  have m1 := kk 1 (by decide)
  have m4 := kk 4 (by decide)
  have cm := cntP_mono (w := fM) (p := p) (show C 1 ≤ Cf 1 by omega)
  have hz := hSZ p (by omega)
  obtain ⟨N1, rfl⟩ : ∃ N1, N = N1 + 1 := ⟨N - 1, by omega⟩
  obtain ⟨F1, rfl⟩ : ∃ F1, F0 = F1 + 2 := ⟨F0 - 2, by omega⟩
  have hMi : MH kd wr nm TK vv m z Cf SL fA fM (d + 1) (e2 + 1) e stk lev p (sg + 1) pn (upC C 0 lo) C1 := hM.mv' ⟨by omega, Or.inl (by omega)⟩ (by omega) ⟨by rw [uu 2 (by decide)]; exact Nat.le_refl _, by rw [uu 4 (by decide)]; exact Nat.le_refl _⟩ (hO.sub (uu 1 (by decide)) (by rw [uu 2 (by decide)]; exact Nat.le_refl _) (by omega) (by rw [kk 2 (by decide)]; exact Nat.le_refl _)) (by rw [uu 1 (by decide)]; omega) ⟨hL1.tr3 hL, by rw [← kk 7 (by decide)]; exact h7f, by rw [uu 7 (by decide)]; omega, he, hk50⟩
  obtain ⟨T, F, hJ⟩ := ins_j (kp := kp) (N := N1) (F0 := F1) (SG := SG) hC hW ih hI hl hMi (by omega) (by omega) (by omega)
  have hxs : xs ≠ [] := fun c => by subst c; exact hE
  have hwr : wr s ≤ wr (e2 + 1) ∧ wr (e2 + 1) ≤ wr e := ⟨hB.mono (by omega) (by omega), hB.mono t1 he⟩
  have hph : ph s + 9 ≤ ph (e2 + 1) ∧ ph (e2 + 1) ≤ ph e := by
    have a1 := (hPH s (by omega)).2.2.2.1 h18
    have a2 := (hPH (s + 1) (by omega)).2.2.2.2.2 hx.1
    have a3 := hPH.mono (show s + 1 + 1 ≤ e2 by omega) (by omega)
    have a4 := (hPH e2 (by omega)).2.2.2.2.1 h19
    have a5 := hPH.mono t1 he
    omega
  refine ⟨_, F + 1, jp_for (T := T) (F := F) (xs := xs) (e2 := e2) (lo2 := lo) (rc0 := RX4_block (F1 + 1)) (R1 := RXS kd wr nm TK SG ph m Cf SL fA fM NS ns SZ q0 lev p kp stk (e2 + 1) e (upC C 0 lo) C1 T F) hCT (fun l PA PM PA' PM' LA LM hl1 hx7 hfe hcon h1 => ?_) (fun l PA PM PA' PM' LA LM hl1 hx7 hfe hcon h1 => ?_) h18 hd h7 h8 h9 h10 hx h50 hE h19 (by omega) (by omega) t1 hn he (by omega) (by omega) (by omega) (fun w => RB7) ?_⟩
  · have hl0 : l ≠ [] := fun c => hxs (by rw [← hl1, c]; rfl)
    have hfl := for_flrn (q0 := q0) (p := p) (K := FUJ) hT (fun t ht => UPM.lt hU t ht) hx7 ex12 hl0 hfe hl1
    refine rx_mk h1 ⟨(uu 1 (by decide)).symm, kk 1 (by decide)⟩ ⟨(uu 3 (by decide)).symm, kk 3 (by decide)⟩ ⟨(uu 4 (by decide)).symm, kk 4 (by decide)⟩ ⟨(uu 5 (by decide)).symm, kk 5 (by decide)⟩ ⟨(uu 7 (by decide)).symm, kk 7 (by decide)⟩ (by omega) (by omega) (fun X hX => ?_) (fun z hz => List.mem_append_right _ hz) (fun E hEQ hLM hSY => ?_)
    · refine (FLR.app hfl hX).perm (fun w => ?_)
      simp only [List.mem_append]
      constructor
      · rintro (h | h | h) <;> simp [h]
      · rintro ((h | h) | h) <;> simp [h]
    · exact ⟨(app_nil hLM).1, hcon E hEQ hLM hSY⟩
  · have hl0 : l ≠ [] := fun c => hxs (by rw [← hl1, c]; rfl)
    have hfl := for_flre (q0 := q0) (p := p) (K := FUJ) hT (fun t ht => UPM.lt hU t ht) hx7 ex12 hl0 hfe hl1
    refine rx_mk h1 ⟨(uu 1 (by decide)).symm, kk 1 (by decide)⟩ ⟨(uu 3 (by decide)).symm, kk 3 (by decide)⟩ ⟨(uu 4 (by decide)).symm, kk 4 (by decide)⟩ ⟨(uu 5 (by decide)).symm, kk 5 (by decide)⟩ ⟨(uu 7 (by decide)).symm, kk 7 (by decide)⟩ (by omega) (by omega) (fun X hX => ?_) (fun z hz => List.mem_append_right _ hz) (fun E hEQ hLM hSY => ?_)
    · refine (FLR.app hfl hX).perm (fun w => ?_)
      simp only [List.mem_append]
      constructor
      · rintro ((h | h) | h | h) <;> simp [h]
      · rintro (((h | h) | h) | h) <;> simp [h]
    · exact ⟨(app_nil (app_nil hLM).1).2, hcon E hEQ hLM hSY⟩
  · exact jss_cg hJ (uu 1 (by decide)).symm (uu 2 (by decide)).symm (kk 1 (by decide)) (kk 2 (by decide))
end RR3
