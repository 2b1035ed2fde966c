/-! PASS 2, THE REFERENCE: ELEMENTS of a for, out of what a PROGRAM is; bytes -/
section EX
variable {kd wr nm : Nat → Nat} {vv : Nat → Int64} {m lev cur : Nat} {fA fM : Wd} {c c1 c2 c' C C' TK : Nat → Nat} {SL : Nat → List Nat} {i i0 i1 i2 i3 : Nat} {stk : List Nat}
/-- TOKENS have so many bytes -/
def BYW (kd wr : Nat → Nat) (m : Nat) : Prop := ∀ i, i < m → wr i + wlN (kd i) ≤ wr (i + 1)
theorem BYW.le (h : BYW kd wr m) : ∀ (n s : Nat), s + n ≤ m → wr s + n ≤ wr (s + n) := by
  intro n
  induction n with
  | zero => exact fun s _ => Nat.le_refl _
  | succ n ih =>
    intro s hs
    have h1 := ih s (by omega)
    have h2 := h (s + n) (by omega)
    have h3 := wlN_1 (kd (s + n))
    rw [show s + (n + 1) = s + n + 1 by omega]
    omega
theorem BYW.len (h : BYW kd wr m) {s e : Nat} (h1 : s ≤ e) (h2 : e ≤ m) : wr s + (e - s) ≤ wr e := by
  have := h.le (e - s) s (by omega)
  rw [show s + (e - s) = e by omega] at this
  exact this
theorem BYW.one (h : BYW kd wr m) {s k : Nat} (hk : kd s = k) (hs : s < m) : wr s + wlN k ≤ wr (s + 1) := by
  have := h s hs
  rw [hk] at this
  exact this
theorem els_ok (hB : BYW kd wr m) (hT : TBM kd wr nm vv m C TK SL fA fM) (hFM : PFM fM (C 1)) (hcu : CUR fM cur) (hk9 : ∀ i, 9000 ≤ i → kd i = 0) (hU : UPM (C 2) fM stk) (hl : stk.length < 9000) {K d e lo' tk : Nat} (hlo : lo' ≤ 24000) (he : e ≤ m) (hK : 96100 ≤ K) : ∀ (xs : List Nat) (lo s : Nat), CHNW kd fM 40 (ELT kd fA fM (hdM stk) d tk) xs lo s e lo' →
    ∃ l : List FEL, l.map Prod.fst = xs ∧ nxC fM xs (Int32.ofNat (xs.headD 0)) ∧ lo < xs.headD 0 ∧ xs.headD 0 < lo' ∧ s < e ∧ wr s + fesT l ≤ wr e + 1 ∧ ∀ x ∈ l, feS kd wr m fM (luN nm TK SL stk) lev cur K x := by
  -- one of them
  have hone : ∀ (n lo s e lo' : Nat), lo' ≤ 24000 → e ≤ m → ELT kd fA fM (hdM stk) d tk lo n s e lo' → ∃ x : FEL, x.1 = n ∧ lo' = n + 1 ∧ lo < n ∧ s < e ∧ wr s + feT x ≤ wr e + 1 ∧ feS kd wr m fM (luN nm TK SL stk) lev cur K x := by
    intro n lo s e lo' hlo he h
    obtain ⟨h1, _, x, e1, c1, h2, h3, h4⟩ := h
    rcases h4 with ⟨k1, k2, k3, _, _⟩ | ⟨k1, k2, y, c2, k3, k4, k5⟩ | ⟨k1, k2, y, v, e2, c2, c3, k3, k4, k5, k6, k7, k8⟩
    · subst k3
      obtain ⟨x1, x2, ⟨tx, x3, x4⟩, x5, _⟩ := xpr_ok (lev := lev) hT hFM hcu hk9 hU hl h3 (by omega) he hK
      have hb := hB.len (s := s) (e := e) (by omega) he
      refine ⟨(n, 0, (x, e - s), (0, 0), (0, 0)), rfl, h1, by omega, x2, ?_, h2, ⟨by show x < 24000; omega, x5 1699 (by omega), ⟨tx, x3, by omega⟩, by show 1 ≤ e - s; omega⟩, Or.inl ⟨rfl, k1⟩⟩
      show wr s + (if (0 : Nat) = 0 then e - s + 1 else _) ≤ wr e + 1
      rw [if_pos rfl]
      omega
    · obtain ⟨y1, y2, ⟨ty, y3, y4⟩, y5, _⟩ := xpr_ok (lev := lev) hT hFM hcu hk9 hU hl k5 (by omega) he hK
      obtain ⟨x1, x2, ⟨tx, x3, x4⟩, x5, _⟩ := xpr_ok (lev := lev) hT hFM hcu hk9 hU hl h3 (by omega) (by omega) hK
      have hb := hB.len (s := s) (e := e) (by omega) he
      refine ⟨(n, 1, (x, e1 - s), (y, e - (e1 + 1)), (0, 0)), rfl, h1, by omega, by omega, ?_, h2, ⟨by show x < 24000; omega, x5 1699 (by omega), ⟨tx, x3, by omega⟩, by show 1 ≤ e1 - s; omega⟩, Or.inr (Or.inl ⟨rfl, k1, k3, by show y < 24000; omega, y5 1699 (by omega), ⟨ty, y3, by omega⟩, by show 1 ≤ e - (e1 + 1); omega⟩)⟩
      show wr s + (if (1 : Nat) = 0 then _ else if (1 : Nat) = 1 then e1 - s + (e - (e1 + 1)) + 2 else _) ≤ wr e + 1
      rw [if_neg (by omega), if_pos rfl]
      omega
    · obtain ⟨z1, z2, ⟨tz, z3, z4⟩, z5, _⟩ := xpr_ok (lev := lev) hT hFM hcu hk9 hU hl k8 (by omega) he hK
      obtain ⟨y1, y2, ⟨ty, y3, y4⟩, y5, _⟩ := xpr_ok (lev := lev) hT hFM hcu hk9 hU hl k6 (by omega) (by omega) hK
      obtain ⟨x1, x2, ⟨tx, x3, x4⟩, x5, _⟩ := xpr_ok (lev := lev) hT hFM hcu hk9 hU hl h3 (by omega) (by omega) hK
      have hb1 := hB.len (s := s) (e := e1) (by omega) (by omega)
      have hb2 := hB.len (s := e1 + 1) (e := e2) (by omega) (by omega)
      have hb3 := hB.len (s := e2 + 1) (e := e) (by omega) he
      have hs1 := hB.one k2 (by omega)
      have hs2 := hB.one k7 (by omega)
      have w20 : wlN 20 = 4 := rfl
      have w21 : wlN 21 = 5 := rfl
      refine ⟨(n, 2, (x, e1 - s), (y, e2 - (e1 + 1)), (v, e - (e2 + 1))), rfl, h1, by omega, by omega, ?_, h2, ⟨by show x < 24000; omega, x5 1699 (by omega), ⟨tx, x3, by omega⟩, by show 1 ≤ e1 - s; omega⟩, Or.inr (Or.inr ⟨rfl, k1, k3, ⟨by show y < 24000; omega, y5 1699 (by omega), ⟨ty, y3, by omega⟩, by show 1 ≤ e2 - (e1 + 1); omega⟩, k4, by show v < 24000; omega, z5 1699 (by omega), ⟨tz, z3, by omega⟩, by show 1 ≤ e - (e2 + 1); omega⟩)⟩
      show wr s + (if (2 : Nat) = 0 then _ else if (2 : Nat) = 1 then _ else e1 - s + (e2 - (e1 + 1)) + (e - (e2 + 1)) + 10) ≤ wr e + 1
      rw [if_neg (by omega), if_neg (by omega)]
      omega
  intro xs
  induction xs with
  | nil => exact fun _ _ h => h.elim
  | cons n r ih =>
    intro lo s h
    cases r with
    | nil =>
      obtain ⟨h1, h2⟩ := h
      obtain ⟨x, x1, x2, x3, x4, x5, x6⟩ := hone n lo s e lo' hlo he h1
      refine ⟨[x], by rw [List.map_cons, x1]; rfl, ⟨rfl, by omega, h2⟩, x3, by show n < lo'; omega, x4, by show wr s + (feT x + 0) ≤ wr e + 1; omega, fun q hq => ?_⟩
      rcases List.mem_cons.mp hq with rfl | hq
      · exact x6
      · exact absurd hq (by simp)
    | cons n2 r =>
      obtain ⟨e1, l1, h1, h3, h4, h5⟩ := h
      obtain ⟨l, p1, p2, p3, p4, p5, p6, p7⟩ := ih l1 (e1 + 1) h5
      have hy : (n2 :: r).headD 0 = n2 := rfl
      rw [hy] at p2 p3 p4
      obtain ⟨x, x1, x2, x3, x4, x5, x6⟩ := hone n lo s e1 l1 (by omega) (by omega) h1
      have hs := hB.one h3 (by omega)
      have w40 : wlN 40 = 1 := rfl
      refine ⟨x :: l, by rw [List.map_cons, p1, x1], ⟨rfl, by omega, by rw [h4]; exact p2⟩, x3, by show n < lo'; omega, by omega, by show wr s + (feT x + fesT l) ≤ wr e + 1; omega, fun q hq => ?_⟩
      rcases List.mem_cons.mp hq with rfl | hq
      · exact x6
      · exact p7 q hq
end EX
