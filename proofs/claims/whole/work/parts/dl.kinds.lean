/-! PASS 2, THE REFERENCE: of what kind a NAME's thunk is -/
/-- 0: worked out, 1: a place, 2: what the formal's own is -/
def kdY (fM : Wd) (l : Nat) : Nat := if l = 0 then 0 else if gi fM 19 (l - 1) = 1 then 1 else if FO fM (l - 1) 1 then (if gi fM 28 (l - 1) = 0 then 2 else 1) else 0
section SG
variable {kd wr nm : Nat → Nat} {vv : Nat → Int64} {m lev cur sp : Nat} {fA fM : Wd} {c c1 c2 C TK : Nat → Nat} {SL : Nat → List Nat} {w u v : Wd}
theorem tk_kind (hT : TBM kd wr nm vv m C TK SL fA fM) {N n tk : Nat} {ty j : Int32} {stk : List Nat} {v1 : Wd} (h : GCS kd wr m fM lev cur c sp v1) (hU : UPM (C 2) fM stk) (hl : stk.length < 9000) (hn : n < 24000) (h7 : gi fM 7 n = 3) (h12 : gi fM 12 n = Int32.ofNat tk) (h13 : gi fM 13 n = hdM stk) (ht : tk < m) (hk : kd tk = 2) : fX12_thunk_26 (RX12_mustBe N) (Int32.ofNat n) ty j false v1 = fX12_thunk_119 (RX12_mustBe N) (Int32.ofNat n) ty j (Int32.ofNat (kdY fM (luN nm TK SL stk tk))) v1 := by
  have hC := hT.2.2.2.1
  have hle := luN_le hT hU (tk := tk)
  have hm := h.1.1.1
  have hlk := g_look hT h hU hl (tk := tk)
  have e : ∀ k j, (7 ≤ k ∧ k ≤ 32) → gi v1 k j = gi fM k j := fun k j hk => (h.fx (by unfold PGM PGX; omega)).1
  have e4 : gl v1 4 tk = vv (nm tk) := ((h.fx (k := 4) (by unfold PGM PGX; omega)).2).trans (hT.2.2.2.2.2.1 tk ht hk)
  have hnb : inb (Int32.ofNat n) 24000 = true := inb_iN hn (by omega)
  have hnc : (Int32.ofNat n).toNatClampNeg = n := tc_iN (by omega)
  unfold fX12_thunk_26
  rw [if_pos hnb, hnc, e 7 n (by omega), if_pos h7, if_pos hnb, if_pos hnb, e 12 n (by omega), h12, if_pos (inb_iN (by omega) (by omega)), tc_iN (by omega), e 13 n (by omega), h13, e4, hlk, bn2_so]
  generalize luN nm TK SL stk tk = l at hle ⊢
  unfold kdY
  by_cases q0 : l = 0
  · rw [if_pos q0, if_pos (show (-1 : Int32) < 0 by decide), if_pos q0]
    unfold fX12_thunk_101
    rw [if_pos (show (-1 : Int32) < 0 by decide)]
    rfl
  · obtain ⟨y, rfl⟩ : ∃ y, l = y + 1 := ⟨l - 1, by omega⟩
    have hy5 : inb (Int32.ofNat y) 5000 = true := inb_iN (by omega) (by omega)
    have hyc : (Int32.ofNat y).toNatClampNeg = y := tc_iN (by omega)
    have hfo := g_isFormal h (k := y) (by omega) (x := 1)
    rw [if_neg q0, if_neg q0, Nat.add_sub_cancel, if_neg (nlt0 (n := y) (by omega)), if_pos hy5, hyc, e 19 y (by omega)]
    by_cases k1 : gi fM 19 y = 1
    · rw [if_pos k1, if_pos k1]
      rfl
    · rw [if_neg k1, if_neg k1, hfo, bn2_so]
      by_cases k2 : FO fM y 1
      · rw [decide_eq_true (show gi fM 19 y = 6 ∧ gi fM 24 y = 1 from k2), if_pos rfl, if_pos hy5, e 28 y (by omega), if_pos k2]
        by_cases k3 : gi fM 28 y = 0
        · rw [if_pos k3, if_pos k3]
          unfold fX12_thunk_101
          rw [if_neg (nlt0 (n := y) (by omega)), hfo, bn2_so, decide_eq_true (show gi fM 19 y = 6 ∧ gi fM 24 y = 1 from k2), if_pos rfl]
          rfl
        · rw [if_neg k3, if_neg k3]
          rfl
      · rw [decide_eq_false (show ¬ (gi fM 19 y = 6 ∧ gi fM 24 y = 1) from k2), if_neg (show ¬ (false = true) by decide), if_neg k2]
        unfold fX12_thunk_101
        rw [if_neg (nlt0 (n := y) (by omega)), hfo, bn2_so, decide_eq_false (show ¬ (gi fM 19 y = 6 ∧ gi fM 24 y = 1) from k2), if_neg (show ¬ (false = true) by decide)]
        rfl
end SG
