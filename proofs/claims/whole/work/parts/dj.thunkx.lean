/-! PASS 2, THE REFERENCE: thunks of what's no NAME -/
section SG
variable {kd wr nm : Nat → Nat} {vv : Nat → Int64} {m lev cur sp : Nat} {fA fM : Wd} {c c1 c2 C TK : Nat → Nat} {SL : Nat → List Nat} {w u v : Wd} {L L1 L2 : List (Nat × Int32)} {P P1 P2 : Nat → Nat → Wd → Prop} {a0 a1 a2 a3 b0 b1 b2 b3 : Nat} {lu : Nat → Nat}
/-- an EXPR that is neither a NAME nor an ELEMENT -/
theorem tk_other {k N n tk T : Nat} {ty : Int32} (h : GCS kd wr m fM lev cur c sp w) (hn : n < 24000) (h3 : gi fM 7 n ≠ 3) (h4 : gi fM 7 n ≠ 4) (h12 : gi fM 12 n = Int32.ofNat tk) (ht : tk ≤ m) (hf : FTA c sp T) (hT1 : 1 ≤ T) (hV : VS kd wr m fM lu lev cur k N n T) :
    ∃ u c', RX12_mustBe (N + 1) 11 (Int32.ofNat n) ty 0 w = some (Int32.ofNat (c 1), u) ∧ EM kd wr m fM lev cur sp c c' w u (FLX fM lu cur k 0 n 0 ++ (if TYX fM lu k n ≠ 0 ∧ TYX fM lu k n ≠ ty then [(tk, 4)] else [])) (thP (c 1) (Int32.ofNat 0) (fun b b' g => FLX fM lu cur k 0 n 0 = [] → CDM fM lu lev k 0 n 0 0 b b' g)) (2 * T + 1) ((T - 1) / 2 + 1) ((T + 1) / 2) ((T - 1) / 2) := by
  have hc : c 0 < 60000 := by
    unfold FTA at hf
    omega
  obtain ⟨v1, x1, x2⟩ := thk_eq (N := N) (ty := ty) h hn hc
  have h26 : fX12_thunk_26 (RX12_mustBe N) (Int32.ofNat n) ty (Int32.ofNat (c 0)) false v1 = fX12_thunk_119 (RX12_mustBe N) (Int32.ofNat n) ty (Int32.ofNat (c 0)) (Int32.ofNat 0) v1 := by
    unfold fX12_thunk_26
    rw [if_pos (inb_iN hn (by omega)), tc_iN (by omega), (x1.1.fx (k := 7) (by unfold PGM PGX; omega)).1, if_neg h3]
    rfl
  rw [x2, if_neg h4, h26, thk_0]
  exact thk_body (N := N) (kind := 0) (F := fun w2 => RX12_mustBe N 1 (Int32.ofNat n) 0 0 w2) hn h12 ht hf hT1 x1 (fun d v hv hfd => hV d sp v hv hfd)
/-- an ELEMENT -/
theorem tk_index {k N n tk T : Nat} {ty : Int32} (h : GCS kd wr m fM lev cur c sp w) (hn : n < 24000) (h4 : gi fM 7 n = 4) (h12 : gi fM 12 n = Int32.ofNat tk) (ht : tk ≤ m) (hf : FTA c sp T) (hT1 : 1 ≤ T) (hV : PS kd wr m fM lu lev cur k N n 0 T) :
    ∃ u c', RX12_mustBe (N + 1) 11 (Int32.ofNat n) ty 0 w = some (Int32.ofNat (c 1), u) ∧ EM kd wr m fM lev cur sp c c' w u (FLX fM lu cur k 1 n 0 ++ (if tyE fM (lu (nd fM 12 n)) ≠ 0 ∧ tyE fM (lu (nd fM 12 n)) ≠ ty then [(tk, 4)] else [])) (thP (c 1) (Int32.ofNat 1) (fun b b' g => FLX fM lu cur k 1 n 0 = [] → CDM fM lu lev k 1 n 0 0 b b' g)) (2 * T + 1) ((T - 1) / 2 + 1) ((T + 1) / 2) ((T - 1) / 2) := by
  have hc : c 0 < 60000 := by
    unfold FTA at hf
    omega
  have h3 : gi fM 7 n ≠ 3 := by rw [h4]; decide
  obtain ⟨v1, x1, x2⟩ := thk_eq (N := N) (ty := ty) h hn hc
  have h26 : fX12_thunk_26 (RX12_mustBe N) (Int32.ofNat n) ty (Int32.ofNat (c 0)) true v1 = fX12_thunk_119 (RX12_mustBe N) (Int32.ofNat n) ty (Int32.ofNat (c 0)) (Int32.ofNat 1) v1 := by
    unfold fX12_thunk_26
    rw [if_pos (inb_iN hn (by omega)), tc_iN (by omega), (x1.1.fx (k := 7) (by unfold PGM PGX; omega)).1, if_neg h3]
    rfl
  rw [x2, if_pos h4, h26, thk_1]
  refine thk_body (N := N) (kind := 1) (F := fun w2 => RX12_mustBe N 5 (Int32.ofNat n) 0 0 w2) hn h12 ht hf hT1 x1 (fun d v hv hfd => ?_)
  obtain ⟨u, c', u1, u2⟩ := hV d sp v hv hfd
  rw [if_pos h4] at u1
  exact ⟨u, c', u1, u2⟩
end SG
