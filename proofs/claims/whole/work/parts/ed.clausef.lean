/-! PASS 2, THE REFERENCE: for and DECLS, out of what they are -/
section EX
variable {kd wr nm : Nat → Nat} {vv : Nat → Int64} {m lev cur : Nat} {fA fM : Wd} {c c1 c2 c' C C' TK : Nat → Nat} {SL : Nat → List Nat} {i i0 i1 i2 i3 : Nat} {stk : List Nat} {L1 L2 : List (Nat × Int32)} {P1 P2 : Nat → Nat → Nat → Nat → Wd → Prop}
theorem fes_len : ∀ l : List FEL, l.length ≤ fesT l := by
  intro l
  induction l with
  | nil => exact Nat.le_refl _
  | cons x r ih =>
    have : 1 ≤ feT x := by
      unfold feT
      split
      · omega
      · split <;> omega
    show r.length + 1 ≤ feT x + fesT r
    omega
theorem rs_for (hB : BYW kd wr m) (hw : ∀ i, wr i ≤ 8192) (hT : TBM kd wr nm vv m C TK SL fA fM) (hFM : PFM fM (C 1)) (hcu : CUR fM cur) (hk9 : ∀ i, 9000 ≤ i → kd i = 0) (hU : UPM (C 2) fM stk) (hl : stk.length < 9000) {K N n x y lo lo2 d s e e1 e2 tk T1 T : Nat} {xs : List Nat} (hK : 96100 ≤ K) (hn : n < 24000) (he : e ≤ m) (hd : d ≤ 39) (h18 : kd s = 18) (h7 : gi fM 7 n = 26) (h8 : gi fM 8 n = Int32.ofNat x) (h9 : gi fM 9 n = Int32.ofNat (xs.headD 0)) (h10 : gi fM 10 n = Int32.ofNat y) (hx : PLC kd (hdM stk) lo x (d + 1) (s + 1) e1 fA fM) (h50 : kd e1 = 50) (hE : CHNW kd fM 40 (ELT kd fA fM (hdM stk) (d + 1) tk) xs (x + 1) (e1 + 1) e2 lo2) (h19 : kd e2 = 19) (hxn : x < n) (hlo2 : lo2 ≤ n) (hee : e2 + 1 ≤ e) (hT1 : T1 + (wr (e2 + 1) - wr s) ≤ T ∧ T ≤ wr e - wr s) (hS : STS kd wr m fM lev cur N i0 i1 y T1 L1 P1) (hi : i0 ≤ i1) :
    ∃ l : List FEL, l.map Prod.fst = xs ∧ (∀ z ∈ l, feS kd wr m fM (luN nm TK SL stk) lev cur (K + 1) z) ∧
      ((kd (s + 2) ≠ 45 ∧ gi fM 7 x = 3 ∧ STP kd wr m fM lev cur (N + 1) i0 i1 n T (L1 ++ fesL fM (luN nm TK SL stk) cur (K + 1) x (plT fM cur 1 (luN nm TK SL stk (s + 1))) (FLX fM (luN nm TK SL stk) cur (K + 1) 1 x 1) (flY fM (luN nm TK SL stk (s + 1)) (s + 1)) l) (PFN fM (luN nm TK SL stk) cur lev (K + 1) x (s + 1) P1 l))
      ∨ (kd (s + 2) = 45 ∧ gi fM 7 x = 4 ∧ STP kd wr m fM lev cur (N + 1) i0 i1 n T (elF fM (luN nm TK SL stk) cur (K + 1) x ++ L1 ++ fesL fM (luN nm TK SL stk) cur (K + 1) x (tyE fM (luN nm TK SL stk (nd fM 12 x))) [] [] l) (PFE fM (luN nm TK SL stk) cur lev (K + 1) x P1 l))) := by
  have hm := hT.2.1.1.1
  obtain ⟨l, p1, p2, p3, p4, p5, p6, p7⟩ := els_ok (lev := lev) (K := K + 1) hB hT hFM hcu hk9 hU hl (by omega) (by omega) (by omega) xs (x + 1) (e1 + 1) hE
  have hse : s + 1 < e1 := by
    obtain ⟨_, _, _, ⟨_, _, q⟩ | ⟨_, q⟩⟩ := hx
    · omega
    · obtain ⟨ps, _, _, _, q4, _⟩ := rwc_row (lev := lev) hT hFM hcu hk9 hU hl q (by omega) (by omega)
      omega
  have hb0 := hB.one h18 (by omega)
  have hb1 := hB.len (s := s + 1) (e := e1) (by omega) (by omega)
  have hb2 := hB.one h50 (by omega)
  have hb3 := hB.one h19 (by omega)
  have hb4 := hB.len (s := e2 + 1) (e := e) (by omega) he
  have w18 : wlN 18 = 3 := rfl
  have w50 : wlN 50 = 2 := rfl
  have w19 : wlN 19 = 2 := rfl
  have hll := fes_len l
  have hwe := hw e2
  refine ⟨l, p1, p7, ?_⟩
  rw [← p1] at p2
  have h9' : nxC fM (l.map Prod.fst) (gi fM 9 n) := by
    rw [h9, ← p1]
    exact p2
  obtain ⟨hk, h12, h13, ⟨q1, q2, q3⟩ | ⟨q1, q2⟩⟩ := hx
  · exact Or.inl ⟨q1, q2, stp_forn hT hcu hU hl hn h7 h8 (by omega) q2 h12 h13 (by omega) hk h10 hS hi h9' p7 (by omega) (by omega)⟩
  · obtain ⟨ps, r1, r2, r3, r4, r5, r6, r7, r8⟩ := rwc_row (lev := lev) hT hFM hcu hk9 hU hl q2 (by omega) (by omega)
    have hd39 := q2.1
    refine Or.inr ⟨q1, q2.2.1, stp_fore hT hcu hU hl hn h7 h8 (by omega) q2.2.1 h12 h13 (by omega) hk r1 (fun p hp => ?_) (by omega) h10 hS hi h9' p7 (by omega) (by omega)⟩
    obtain ⟨hp0, cp, a1, a2, ⟨tx, a31, a32⟩, a4, _⟩ := r8 p hp
    exact ⟨a4 (K + 1) 1698 (by omega) (by omega), ⟨tx, a31, by omega⟩, a2⟩
/-- a node of ARRAYS -/
theorem rs_arrays (hT : TBM kd wr nm vv m C TK SL fA fM) (hFM : PFM fM (C 1)) (hcu : CUR fM cur) (hk9 : ∀ i, 9000 ≤ i → kd i = 0) (hU : UPM (C 2) fM stk) (hl : stk.length < 9000) {K n f0 j b d s e1 lo' : Nat} {xs : List Nat} (hK : 96100 ≤ K) (hlo : lo' ≤ 24000) (he : e1 ≤ m) (h8 : gi fM 8 n = Int32.ofNat f0) (h9 : gi fM 9 n = Int32.ofNat (f0 + j)) (h10 : gi fM 10 n = Int32.ofNat (xs.headD 0)) (hb : xs.length = 2 * b) (hb3 : b ≤ 3) (hj : 1 ≤ j) (hf : f0 + j ≤ 5000) (hx : PRSX kd fA fM (hdM stk) d xs (n + 1) s e1 lo') :
    ∃ ps : List (Nat × Nat), ps.map Prod.fst = xs ∧ n + 1 < lo' ∧ s < e1 ∧ arS kd wr m fM (luN nm TK SL stk) lev cur K (n, f0, j, b, ps) ∧ 2 * j + smT ps + 1 = 2 * j + (e1 - s) + 2 := by
  obtain ⟨ps, p1, p2, p3, p4, p5, p6, p7⟩ := prs_ok (lev := lev) hT hFM hcu hk9 hU hl hlo he hK b xs (n + 1) s hb hx
  have hlen : ps.length = xs.length := by rw [← p1, List.length_map]
  refine ⟨ps, p1, by omega, p5, ⟨h8, h9, ?_, ?_, hb3, hf, hj, p7⟩, by omega⟩
  · show nxC fM (ps.map Prod.fst) (gi fM 10 n)
    rw [p1, h10]
    exact p2
  · show ps.length = 2 * b
    omega
end EX
