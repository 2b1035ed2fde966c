/-! PASS 2, THE REFERENCE: the place of an ELEMENT; thunks -/
section SG
variable {kd wr nm : Nat → Nat} {vv : Nat → Int64} {m lev cur sp : Nat} {fA fM : Wd} {c c1 c2 C TK : Nat → Nat} {SL : Nat → List Nat} {w u v : Wd} {L L1 L2 : List (Nat × Int32)} {P P1 P2 : Nat → Nat → Wd → Prop} {a0 a1 a2 a3 b0 b1 b2 b3 : Nat} {lu : Nat → Nat}
theorem ps_index (hT : TBM kd wr nm vv m C TK SL fA fM) {k N n tk f : Nat} {stk : List Nat} {ps : List (Nat × Nat)} (hU : UPM (C 2) fM stk) (hl : stk.length < 9000) (hn : n < 24000) (h7 : gi fM 7 n = 4) (h12 : gi fM 12 n = Int32.ofNat tk) (h13 : gi fM 13 n = hdM stk) (ht : tk < m) (hk : kd tk = 2) (hx : nxC fM (ps.map Prod.fst) (gi fM 8 n)) (hps : ∀ p ∈ ps, RWN kd wr m fM (luN nm TK SL stk) lev cur k N p) (hlen : ps.length ≤ k) : PS kd wr m fM (luN nm TK SL stk) lev cur (k + 1) (N + 3) n f (smT ps + 2) := by
  intro c sp w h hf
  unfold FIT at hf
  have e3 : inb (Int32.ofNat n) 24000 = true := inb_iN hn (by omega)
  have e4 : (Int32.ofNat n).toNatClampNeg = n := tc_iN (by omega)
  have e2 : gi w 7 n = 4 := ((h.fx (k := 7) (by unfold PGM PGX; omega)).1).trans h7
  have e1 : RX12_mustBe (N + 3) 5 (Int32.ofNat n) (Int32.ofNat f) 0 w = fX12_place (RX12_mustBe (N + 2)) (Int32.ofNat n) (Int32.ofNat f) w := rfl
  have e5 : ∀ v, RX12_mustBe (N + 2) 4 (Int32.ofNat n) 0 0 v = fX12_element (RX12_mustBe (N + 1)) (Int32.ofNat n) v := fun _ => rfl
  have h2l := smT_len ps hps
  obtain ⟨u1, d1, r1, r2⟩ := g_elem hT h hU hl hn h12 h13 ht hk hx hps hlen (by unfold FIT; omega)
  have hfl : FLX fM (luN nm TK SL stk) cur (k + 1) 1 n f = elF fM (luN nm TK SL stk) cur k n := by
    rw [FLX]
    dsimp only
    rw [if_neg (by omega), if_pos rfl, if_pos h7]
    rfl
  refine ⟨u1, d1, ?_, (r2.fls hfl.symm).wk (fun b b' g hg hnil => ?_) (by omega)⟩
  · rw [e1, if_pos h7]
    unfold fX12_place
    rw [if_pos e3, e4, e2, if_pos rfl, e5, r1]
    rfl
  · rw [hfl] at hnil
    obtain ⟨b2, g4, g5⟩ := hg hnil
    rw [CDM]
    dsimp only
    rw [if_neg (by omega), if_pos rfl, if_pos h7]
    exact ⟨b2, g4, g5⟩
/-- one thunk -/
theorem EM.thk (h : GCS kd wr m fM lev cur c sp w) (hc : c 1 < 6000) {a : Int32} : ∃ u, fX12_newThunk a w = some (Int32.ofNat (c 1), u) ∧ EM kd wr m fM lev cur sp c (upC c 1 (c 1 + 1)) w u [] (fun b b' g => b' = b ∧ gi g 47 (c 1) = Int32.ofNat b ∧ gi g 48 (c 1) = a) 0 1 0 0 := by
  obtain ⟨u, u1, u2, u3, u4, u5⟩ := g_thunk h hc (a := a)
  have e1 : upC c 1 (c 1 + 1) 1 = c 1 + 1 := upC_s
  have en : ∀ i, i ≠ 1 → upC c 1 (c 1 + 1) i = c i := fun i hi => upC_n hi
  refine ⟨u, u1, u2, ?_, u5.mono fun k j hk => by unfold PGX; omega, fun k j hk => (u5 k j (by omega)).1, fun j _ => (u5 59 j (by omega)).1, LEC.up (by omega), by rw [e1, en 0 (by omega), en 2 (by omega), en 3 (by omega)]; omega, fun g hg => ⟨en 0 (by omega), ?_, ?_⟩⟩
  · show (gi u 0 10, gi u 0 11) = (gi w 0 10, gi w 0 11)
    rw [(u5 0 10 (by omega)).1, (u5 0 11 (by omega)).1]
  · rw [hg 47 (c 1) (by rw [e1]; omega)]; exact u3
  · rw [hg 48 (c 1) (by rw [e1]; omega)]; exact u4
/-- the end of a thunk: its TYPE, FINISH, the jump over it -/
theorem thk_end {N n tk kind th : Nat} {ty is : Int32} {v1 v2 : Wd} {d1 : Nat → Nat} (hn : n < 24000) (h12 : gi fM 12 n = Int32.ofNat tk) (ht : tk ≤ m) (hc : c 0 < 60000) (h0 : EM kd wr m fM lev cur sp c (upC c 0 (c 0 + 1)) w v1 [] (fun b b' g => opW g b 10 0 0 0 ∧ b' = b + 1) 1 0 0 0)
    (h1 : EM kd wr m fM lev cur sp (upC c 0 (c 0 + 1)) d1 v1 v2 L P a0 a1 a2 a3) (hd : d1 0 < 60000) :
    ∃ u c', fX12_thunk_212 (RX12_mustBe N) (Int32.ofNat n) ty (Int32.ofNat (c 0)) (Int32.ofNat kind) (Int32.ofNat th) is v2 = some (Int32.ofNat th, u) ∧ EM kd wr m fM lev cur sp c c' w u (L ++ (if is ≠ 0 ∧ is ≠ ty then [(tk, 4)] else [])) (fun b b' g => opW g b 10 (Int32.ofNat b') 0 0 ∧ ∃ q, P (b + 1) q g ∧ opW g q 17 (if Int32.ofNat kind = 1 then 1 else 0) 0 0 ∧ b' = q + 1) (a0 + 2) a1 a2 a3 := by
  have hfin : ∀ v L', EM kd wr m fM lev cur sp (upC c 0 (c 0 + 1)) d1 v1 v L' P a0 a1 a2 a3 → ∃ u c', (if Int32.ofNat kind = 1 then (fX12_thunk_248 (RX12_mustBe N) 17 true (Int32.ofNat (c 0)) (Int32.ofNat th) v) else (fX12_thunk_248 (RX12_mustBe N) 17 false (Int32.ofNat (c 0)) (Int32.ofNat th) v)) = some (Int32.ofNat th, u) ∧ EM kd wr m fM lev cur sp c c' w u L' (fun b b' g => opW g b 10 (Int32.ofNat b') 0 0 ∧ ∃ q, P (b + 1) q g ∧ opW g q 17 (if Int32.ofNat kind = 1 then 1 else 0) 0 0 ∧ b' = q + 1) (a0 + 2) a1 a2 a3 := fun v L' hv => by
    have hgo : ∀ (bb : Bool) (x : Int32), b2i bb = x → ∃ u c', fX12_thunk_248 (RX12_mustBe N) 17 bb (Int32.ofNat (c 0)) (Int32.ofNat th) v = some (Int32.ofNat th, u) ∧ EM kd wr m fM lev cur sp c c' w u L' (fun b b' g => opW g b 10 (Int32.ofNat b') 0 0 ∧ ∃ q, P (b + 1) q g ∧ opW g q 17 x 0 0 ∧ b' = q + 1) (a0 + 2) a1 a2 a3 := fun bb x hb => by
      obtain ⟨u, u1, u2⟩ := EM.op hv.1 hd (a := 17) (x := x) (y := 0) (z := 0)
      have h3 := hv.seq u2
      rw [List.append_nil] at h3
      obtain ⟨p1, p2⟩ := EM.jmp h0 h3 hc
      refine ⟨_, _, ?_, p2.wk (fun b b' g hg => hg) (by omega)⟩
      unfold fX12_thunk_248
      rw [hb, u1, bn2_so, p1]
      rfl
    by_cases q : Int32.ofNat kind = 1
    · rw [if_pos q, if_pos q]
      exact hgo true 1 rfl
    · rw [if_neg q, if_neg q]
      exact hgo false 0 rfl
  unfold fX12_thunk_212
  by_cases q0 : is = 0
  · rw [if_pos q0, if_neg (show ¬ (is ≠ 0 ∧ is ≠ ty) from fun g => g.1 q0), List.append_nil]
    exact hfin v2 L h1
  · rw [if_neg q0]
    by_cases q1 : is = ty
    · rw [if_pos q1, if_neg (show ¬ (is ≠ 0 ∧ is ≠ ty) from fun g => g.2 q1), List.append_nil]
      exact hfin v2 L h1
    · obtain ⟨u', w1, w2, w3, w4⟩ := g_found h1.1 ht (num := 4)
      rw [if_neg q1, if_pos (inb_iN hn (by omega)), tc_iN (by omega), (h1.1.fx (k := 12) (by unfold PGM PGX; omega)).1, h12, w1, bn_so, if_pos (show is ≠ 0 ∧ is ≠ ty from ⟨q0, q1⟩)]
      exact hfin u' _ ((h1.seq (EM.fl w2 (L := [(tk, 4)]) w3 w4)).wk (fun b b' g hg => by
        obtain ⟨b1, g1, g2⟩ := hg
        rw [g2]
        exact g1) (by omega))
end SG
