/-! PASS 2, THE REFERENCE: a STATEMENT's codes, out of what it is; T: its bytes -/
section EX
variable {kd wr nm : Nat → Nat} {vv : Nat → Int64} {m lev cur : Nat} {fA fM : Wd} {c c1 c2 c' C C' TK : Nat → Nat} {SL : Nat → List Nat} {i i0 i1 i2 i3 : Nat} {stk : List Nat} {L1 L2 : List (Nat × Int32)} {P1 P2 : Nat → Nat → Nat → Nat → Wd → Prop}
theorem rs_print (hB : BYW kd wr m) (hT : TBM kd wr nm vv m C TK SL fA fM) (hFM : PFM fM (C 1)) (hcu : CUR fM cur) (hk9 : ∀ i, 9000 ≤ i → kd i = 0) (hU : UPM (C 2) fM stk) (hl : stk.length < 9000) {K N n x lo d s e e1 cn : Nat} (hK : 96100 ≤ K) (hn : n < 24000) (he : e ≤ m) (h7 : gi fM 7 n = 23) (h8 : gi fM 8 n = Int32.ofNat x) (hnx : n = x + 1) (hx : XPR kd (hdM stk) lo x (d + 1) (s + 2) e1 cn fA fM) (hee : e = e1 + 1) :
    STP kd wr m fM lev cur N i i n (wr e - wr s) (FLX fM (luN nm TK SL stk) cur K 0 x 0) (PRP fM (luN nm TK SL stk) cur lev K x) := by
  obtain ⟨x1, x2, _, x5, _⟩ := xpr_ok (lev := lev) hT hFM hcu hk9 hU hl hx (by omega) (by omega) hK
  have hb := hB.len (s := s) (e := e) (by omega) he
  exact stp_print hn h7 h8 (by omega) (x5 1700 (by omega)) (by omega) (by omega)
theorem rs_goto (hB : BYW kd wr m) (hT : TBM kd wr nm vv m C TK SL fA fM) (hFM : PFM fM (C 1)) (hcu : CUR fM cur) (hk9 : ∀ i, 9000 ≤ i → kd i = 0) (hU : UPM (C 2) fM stk) (hl : stk.length < 9000) {K N n x lo d s e : Nat} (hK : 96100 ≤ K) (hn : n < 24000) (he : e ≤ m) (h7 : gi fM 7 n = 24) (h8 : gi fM 8 n = Int32.ofNat x) (hnx : n = x + 1) (hx : XAM kd (hdM stk) lo x d (s + 1) e fA fM) :
    STP kd wr m fM lev cur N i i n (wr e - wr s) (FLX fM (luN nm TK SL stk) cur K 2 x 0) (PGO fM (luN nm TK SL stk) cur lev K x) := by
  obtain ⟨g1, g2, g3, g4⟩ := pam_all (lev := lev) hT hFM hcu hk9 hU hl 41 lo x d (s + 1) e hx.2 (by omega) he
  have hb := hB.len (s := s) (e := e) (by omega) he
  exact stp_goto hn h7 h8 (by omega) (g4 K 1700 (by omega) (by omega)) (by omega) (by omega)
theorem rs_call (hB : BYW kd wr m) (hT : TBM kd wr nm vv m C TK SL fA fM) (hFM : PFM fM (C 1)) (hcu : CUR fM cur) (hk9 : ∀ i, 9000 ≤ i → kd i = 0) (hU : UPM (C 2) fM stk) (hl : stk.length < 9000) {K N n x lo d s e : Nat} (hK : 96100 ≤ K) (hn : n < 24000) (he : e ≤ m) (h7 : gi fM 7 n = 22) (h8 : gi fM 8 n = Int32.ofNat x) (hnx : n = x + 1) (hx : CLC kd (hdM stk) lo x d s e fA fM) :
    (kd (s + 1) ≠ 43 ∧ gi fM 7 x = 3 ∧ STP kd wr m fM lev cur N i i n (wr e - wr s) (FCL fM (luN nm TK SL stk) s) (PCN fM (luN nm TK SL stk) lev s)) ∨ (kd (s + 1) = 43 ∧ gi fM 7 x = 5 ∧ STP kd wr m fM lev cur N i i n (wr e - wr s) (FLX fM (luN nm TK SL stk) cur K 0 x 1) (PCA fM (luN nm TK SL stk) cur lev K x)) := by
  obtain ⟨hk, h12, h13, ⟨q1, q2, q3⟩ | ⟨q1, q2⟩⟩ := hx
  · have hb := hB.len (s := s) (e := e) (by omega) he
    exact Or.inl ⟨q1, q2, stp_name hT hU hl hn h7 h8 (by omega) q2 h12 h13 (by omega) hk (by omega)⟩
  · obtain ⟨g1, g2⟩ := clc_cls (lev := lev) hT hFM hcu hk9 hU hl hk h12 h13 q2 (by omega) he
    have hb := hB.len (s := s) (e := e) (by omega) he
    obtain ⟨ps, p1, p2, p3, p4, p5, p6, p7, p8⟩ := rwc_row (lev := lev) hT hFM hcu hk9 hU hl q2 (by omega) he
    have hC := g2 K 1700 (by omega) (by omega)
    have hC' : CLS kd wr m fM (luN nm TK SL stk) lev cur K 1700 x 1 (wr e - wr s) := fun c sp w hG hf => by
      obtain ⟨u, c', o, E⟩ := hC c sp w hG (by unfold FIT at hf ⊢; omega)
      exact ⟨u, c', o, E.wk (fun b b' g hg => hg) (by omega)⟩
    exact Or.inr ⟨q1, q2.2.1, stp_call hn h7 h8 (by omega) q2.2.1 hC' (by omega)⟩
theorem rs_assign (hB : BYW kd wr m) (hT : TBM kd wr nm vv m C TK SL fA fM) (hFM : PFM fM (C 1)) (hcu : CUR fM cur) (hk9 : ∀ i, 9000 ≤ i → kd i = 0) (hU : UPM (C 2) fM stk) (hl : stk.length < 9000) {K N n x y lo d s e e1 : Nat} {xs : List Nat} (hK : 96100 ≤ K) (hn : n < 24000) (he : e ≤ m) (hd : d ≤ 40) (h7 : gi fM 7 n = 21) (h8 : gi fM 8 n = Int32.ofNat x) (h9 : gi fM 9 n = Int32.ofNat y) (hny : n = y + 1) (hx : PLC kd (hdM stk) lo x d s e1 fA fM) (hxs : TGS kd fA fM (hdM stk) d (x :: xs) (x + 1) y (e1 + 1) e) :
    STP kd wr m fM lev cur N i i n (wr e - wr s) (TGF fM (luN nm TK SL stk) cur K y 0 (x :: xs)) (PAS fM (luN nm TK SL stk) cur lev K y (x :: xs)) := by
  obtain ⟨ps, p1, p2, p3, p4, p5, Ty, ty, p6, p7, p8, p9, p10⟩ := tgs_ok (lev := lev) hT hFM hcu hk9 hU hl (by omega) he hK xs x (x + 1) (e1 + 1) hxs
  obtain ⟨g1, g2⟩ := plc_ps (lev := lev) hT hFM hcu hk9 hU hl hx (by omega) (by omega) hd
  have hm := hT.2.1.1.1
  have hb := hB.len (s := s) (e := e) (by omega) he
  have hlen : ∀ ps : List (Nat × Nat), ps.length ≤ smT ps := by
    intro ps
    induction ps with
    | nil => exact Nat.le_refl _
    | cons q r ih =>
      show r.length + 1 ≤ q.2 + 1 + smT r
      omega
  have hl2 := hlen ps
  have hs0 : smT ((x, e1 - s) :: ps) = e1 - s + 1 + smT ps := rfl
  have := stp_assign (i := i) (N := N) (K := K) (T := wr e - wr s) (ps := (x, e1 - s) :: ps) hn h7 (by rw [List.map_cons, p1]; exact ⟨h8, by show x < 24000; omega, p2⟩) (by omega) h9 p8 p9 p7 p10 (fun p hp => by
    rcases List.mem_cons.mp hp with rfl | hp
    · exact ⟨by show 1 ≤ e1 - s; omega, ⟨s, hx.2.1, by omega⟩, g2 K 1700 0 (by omega) (by show 4 * x + 1 ≤ K; omega) (by omega)⟩
    · exact p5 p hp) (by rw [hs0]; omega) (by show ps.length + 1 ≤ 9000; omega)
  rw [List.map_cons, p1] at this
  exact this
theorem rs_if1 (hB : BYW kd wr m) (hT : TBM kd wr nm vv m C TK SL fA fM) (hFM : PFM fM (C 1)) (hcu : CUR fM cur) (hk9 : ∀ i, 9000 ≤ i → kd i = 0) (hU : UPM (C 2) fM stk) (hl : stk.length < 9000) {K N n x y lo d s e e1 cn T1 T : Nat} (hK : 96100 ≤ K) (hn : n < 24000) (he : e ≤ m) (h7 : gi fM 7 n = 25) (h8 : gi fM 8 n = Int32.ofNat x) (h9 : gi fM 9 n = Int32.ofNat y) (h10 : gi fM 10 n = -1) (hx : XPR kd (hdM stk) lo x (d + 1) (s + 1) e1 cn fA fM) (hxn : x < n) (hyn : y < n) (h16 : kd e1 = 16) (hee : e1 + 1 ≤ e) (hT1 : T1 + (wr (e1 + 1) - wr s) ≤ T ∧ T ≤ wr e - wr s) (hS : STS kd wr m fM lev cur N i0 i1 y T1 L1 P1) (hi : i0 ≤ i1) :
    STP kd wr m fM lev cur N i0 i1 n T (mbL fM (luN nm TK SL stk) cur K x 2 ++ L1) (PI1 fM (luN nm TK SL stk) cur lev K x P1) := by
  obtain ⟨x1, x2, ⟨tx, x3, x4⟩, x5, _⟩ := xpr_ok (lev := lev) hT hFM hcu hk9 hU hl hx (by omega) (by omega) hK
  have hb1 := hB.len (s := s) (e := e1 + 1) (by omega) (by omega)
  have hb2 := hB.len (s := e1 + 1) (e := e) (by omega) he
  exact stp_if1 hn h7 h8 h9 h10 (by omega) (by omega) x3 (by omega) (x5 1699 (by omega)) hS hi (by omega) (by omega)
theorem rs_if2 (hB : BYW kd wr m) (hT : TBM kd wr nm vv m C TK SL fA fM) (hFM : PFM fM (C 1)) (hcu : CUR fM cur) (hk9 : ∀ i, 9000 ≤ i → kd i = 0) (hU : UPM (C 2) fM stk) (hl : stk.length < 9000) {K N n x y z lo d s e e1 e2 cn T1 T2 T : Nat} (hK : 96100 ≤ K) (hn : n < 24000) (he : e ≤ m) (h7 : gi fM 7 n = 25) (h8 : gi fM 8 n = Int32.ofNat x) (h9 : gi fM 9 n = Int32.ofNat y) (h10 : gi fM 10 n = Int32.ofNat z) (hx : XPR kd (hdM stk) lo x (d + 1) (s + 1) e1 cn fA fM) (hxn : x < n) (hyn : y < n) (hzn : z < n) (hee : e1 + 1 ≤ e2 ∧ e2 + 1 ≤ e) (hT1 : T1 + T2 + (wr (e1 + 1) - wr s) + (wr (e2 + 1) - wr e2) ≤ T ∧ T ≤ wr e - wr s) (hS1 : STS kd wr m fM lev cur N i0 i1 y T1 L1 P1) (hS2 : STS kd wr m fM lev cur N i1 i2 z T2 L2 P2) (hi : i0 ≤ i1) (hi2 : i1 ≤ i2) :
    STP kd wr m fM lev cur N i0 i2 n T (mbL fM (luN nm TK SL stk) cur K x 2 ++ L1 ++ L2) (PI2 fM (luN nm TK SL stk) cur lev K x P1 P2) := by
  obtain ⟨x1, x2, ⟨tx, x3, x4⟩, x5, _⟩ := xpr_ok (lev := lev) hT hFM hcu hk9 hU hl hx (by omega) (by omega) hK
  have hb1 := hB.len (s := s) (e := e1 + 1) (by omega) (by omega)
  have hb2 := hB.len (s := e1 + 1) (e := e2) (by omega) (by omega)
  have hb3 := hB.len (s := e2) (e := e2 + 1) (by omega) (by omega)
  have hb4 := hB.len (s := e2 + 1) (e := e) (by omega) he
  exact stp_if2 hn h7 h8 h9 h10 (by omega) (by omega) (by omega) x3 (by omega) (x5 1699 (by omega)) hS1 hS2 hi hi2 (by omega) (by omega)
end EX
