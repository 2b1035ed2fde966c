/-! WORDS AND CODES GO ON -/
section MN
variable {E : SENV} {stk : List Nat} {fM fA : Wd} {cur lev k n f b b' y l tk : Nat} {g : Wd}
theorem rwM_le {W : Nat → Nat → Nat → Nat → Prop} : ∀ (xs : List Nat) (i b b' : Nat), (∀ q x, xs[q]? = some x → ∀ b b', W x (i + q) b b' → b ≤ b') → rwM W xs i b b' → b ≤ b' := by
  intro xs
  induction xs with
  | nil =>
    intro i b b' _ h
    have h : b' = b := h
    omega
  | cons x r ih =>
    intro i b b' hW h
    obtain ⟨b1, h1, h2⟩ := h
    have e1 := hW 0 x rfl b b1 h1
    have e2 := ih (i + 1) b1 b' (fun q y hy c c' hc => hW (q + 1) y (by simpa using hy) c c' (by rw [show i + (q + 1) = i + 1 + q by omega]; exact hc)) h2
    omega
/-- an ACTUAL for a TYPE formal, as a value and as a place -/
theorem flx5_s {lu : Nat → Nat} (h1 : gi fM 24 f = 1) (h : FLX fM lu cur (k + 2) 5 n f = []) : FLX fM lu cur (k + 1) 0 n 0 = [] ∧ ((gi fM 7 n = 3 ∧ lu (nd fM 12 n) ≠ 0 ∧ (FO fM (lu (nd fM 12 n) - 1) 1 ∨ gi fM 19 (lu (nd fM 12 n) - 1) = 1)) ∨ gi fM 7 n = 4 → FLX fM lu cur (k + 1) 1 n 0 = []) := by
  rw [flx5_1 h1] at h
  obtain ⟨h2, _⟩ := app_nil h
  by_cases q : gi fM 7 n = 3 ∧ lu (nd fM 12 n) ≠ 0 ∧ (FO fM (lu (nd fM 12 n) - 1) 1 ∨ gi fM 19 (lu (nd fM 12 n) - 1) = 1)
  · obtain ⟨q1, q2, q3⟩ := q
    refine ⟨?_, fun _ => ?_⟩
    · rw [flx0_3 q1]
      unfold flY
      rw [if_neg q2, if_pos (q3.elim Or.inr Or.inl)]
    · rw [flx1_3 q1]
      unfold notD
      rw [if_neg q2, if_pos (Or.inr (q3.elim Or.inr Or.inl))]
      rfl
  · rw [if_neg q] at h2
    by_cases q4 : gi fM 7 n = 4
    · rw [if_pos q4] at h2
      refine ⟨?_, fun _ => h2⟩
      rw [flx0_4 q4 rfl]
      rw [flx1_4 q4 rfl] at h2
      exact h2
    · rw [if_neg q4] at h2
      exact ⟨h2, fun c => c.elim (fun c => absurd c q) (fun c => absurd c q4)⟩
theorem puC_le {fA : Wd} {lev s b b' : Nat} {g : Wd} (h : puC fA lev s b b' g) : b ≤ b' := by
  obtain ⟨_, h⟩ := h
  omega
theorem vaC_le {fA : Wd} {lev s b b' : Nat} {g : Wd} (h : vaC fA lev s b b' g) : b ≤ b' := by
  rcases h with ⟨_, _, _, h⟩ | ⟨_, _, h⟩ <;> omega
theorem plC_le {fA : Wd} {lev s b b' : Nat} {g : Wd} (h : plC fA lev s b b' g) : b ≤ b' := by
  rcases h with ⟨_, _, _, h⟩ | ⟨_, _, h⟩ <;> omega
theorem cdL_le {lev l b b' : Nat} {g : Wd} (h : cdL fM lev l b b' g) : b ≤ b' := by
  rcases h with ⟨_, _, h⟩ | ⟨_, _, _, h⟩ | ⟨_, _, _, h⟩ | ⟨_, _, h⟩ | ⟨_, h⟩ <;> omega
theorem cdE_le {lev l n b b' : Nat} {g : Wd} (h : cdE fM lev l n b b' g) : b ≤ b' := by
  rcases h with ⟨_, _, h⟩ | ⟨_, _, h⟩ | ⟨_, h⟩ <;> omega
theorem cdY_le {lev l b b' : Nat} {g : Wd} (h : cdY fM lev l b b' g) : b ≤ b' := by
  rcases h with ⟨_, h⟩ | ⟨_, h⟩
  · omega
  · rcases h with ⟨_, _, h⟩ | ⟨_, _, h⟩ | ⟨_, h⟩ | ⟨_, h⟩
    · omega
    · omega
    · rcases h with ⟨_, h⟩ | ⟨_, _, h⟩ <;> omega
    · omega
/-- symbols, by their words -/
theorem SYS.is (hS : SYS E) (hk : SCE E stk) {tk : Nat} {x : Int32} (hx : x ≠ 6) (h0 : x ≠ 0) : gi (vA E) 14 (eLU E stk tk) = x ↔ eLU E stk tk ≠ 0 ∧ (gi (vM E) 19 (eLU E stk tk - 1) = x ∨ FO (vM E) (eLU E stk tk - 1) x) := by
  by_cases q : eLU E stk tk = 0
  · obtain ⟨kd, m, C, c1, c2, c3, c4, c5, _⟩ := hS
    rw [q, c5.1]
    exact ⟨fun g => absurd g.symm h0, fun g => absurd rfl g.1⟩
  · have hn := hS.nm hk (tk := tk) (y := eLU E stk tk - 1) (Nat.sub_add_cancel (Nat.pos_of_ne_zero q)).symm
    obtain ⟨kd, m, C, c1, c2, c3, c4, c5, c6, _⟩ := hS
    have := (c6 _ (Nat.lt_of_lt_of_eq hn c1.symm)).is hx
    rw [show eLU E stk tk - 1 + 1 = eLU E stk tk from Nat.sub_add_cancel (Nat.pos_of_ne_zero q)] at this
    rw [this]
    exact ⟨fun g => ⟨q, g⟩, fun g => g.2⟩
/-- formals of a procedure that's declared -/
theorem SYS.pf (hS : SYS E) (hy : y < eNo E 5 2) (h3 : gi (vM E) 19 y = 3) : ∃ p nf ff, 1 ≤ p ∧ p < eNo E 5 3 ∧ gi (vM E) 24 y = Int32.ofNat p ∧ nd (vM E) 24 y = p ∧ gi (vM E) 29 p = Int32.ofNat y ∧ gi (vM E) 31 p = Int32.ofNat nf ∧ nd (vM E) 31 p = nf ∧ gi (vM E) 32 p = Int32.ofNat ff ∧ nd (vM E) 32 p = ff ∧ ff + nf ≤ eNo E 5 2 ∧ nf ≤ 4100 ∧ ff ≤ 4100 ∧ p < 1200 ∧ y < ff ∧ ∀ i, i < nf → gi (vM E) 19 (ff + i) = 6 := by
  obtain ⟨kd, m, C, c1, c2, c3, c4, c5, c6, _⟩ := hS
  obtain ⟨_, _, _, _, _, _, _, _, hK⟩ := c6 y (by omega)
  rcases hK with k | k | k | k | k | k
  · exact absurd (h3.symm.trans k.1) (by decide)
  · exact absurd (h3.symm.trans k.1) (by decide)
  · obtain ⟨_, _, _, p, nf, ff, p1, p2, p3, p4, p5, p6, p7, p8, p9, p10⟩ := k
    have e24 : nd (vM E) 24 y = p := by unfold nd; rw [p3]; exact tc_iN (by omega)
    have e31 : nd (vM E) 31 p = nf := by unfold nd; rw [p5]; exact tc_iN (by omega)
    have e32 : nd (vM E) 32 p = ff := by unfold nd; rw [p6]; exact tc_iN (by omega)
    refine ⟨p, nf, ff, p1, by omega, p3, e24, p4, p5, e31, p6, e32, by omega, by omega, by omega, by omega, p9, fun i hi => ?_⟩
    have := c5.2 y (by omega) h3
    rw [e24, e31, e32] at this
    exact this i hi
  · exact absurd (h3.symm.trans k.1) (by decide)
  · exact absurd (h3.symm.trans k.1) (by decide)
  · exact absurd (h3.symm.trans k.1) (by decide)
theorem SYS.sy (hS : SYS E) (hy : y < eNo E 5 2) : ∃ kd m C, SYM kd m C E.2.2.2.2 (vA E) (vM E) y := by
  obtain ⟨kd, m, C, c1, c2, c3, c4, c5, c6, _⟩ := hS
  exact ⟨kd, m, C, c6 y (by omega)⟩
/-- what an ACTUAL's formal is -/
def MD5 (E : SENV) (md f : Nat) : Prop := md ≤ 2 ∨ md = 5 ∧ f < eNo E 5 2 ∧ gi (vM E) 19 f = 6
/-- ACTUALS of a call without faults -/
theorem act_n (hS : SYS E) (hk : SCE E stk) {k : Nat} (h7 : gi (vM E) 7 n = 5) (ho : OKN (vM E) (k + 1) 0 n) (hf : FLX (vM E) (eLU E stk) cur (k + 1) 0 n f = []) : ∃ y p nf ff, eLU E stk (nd (vM E) 12 n) = y + 1 ∧ y < eNo E 5 2 ∧ gi (vM E) 19 y = 3 ∧ (f = 0 → gi (vM E) 20 y ≠ 0) ∧ (1 ≤ p ∧ p < eNo E 5 3 ∧ gi (vM E) 24 y = Int32.ofNat p ∧ nd (vM E) 24 y = p ∧ gi (vM E) 31 p = Int32.ofNat nf ∧ nd (vM E) 31 p = nf ∧ gi (vM E) 32 p = Int32.ofNat ff ∧ nd (vM E) 32 p = ff) ∧ (nxL (vM E) k (gi (vM E) 8 n)).length = nf ∧ nd (vM E) 9 n = nf ∧ ff + nf ≤ eNo E 5 2 ∧
    ∀ q x, (nxL (vM E) k (gi (vM E) 8 n))[q]? = some x → MD5 E 5 (ff + q) ∧ OKN (vM E) k 5 x ∧ FLX (vM E) (eLU E stk) cur k 5 x (ff + q) = [] := by
  obtain ⟨h1, h2, h3, h4, h5⟩ := flx5_n (hS.no0 hk) h7 rfl hf
  rw [okn0_5 h7] at ho
  have ey : eLU E stk (nd (vM E) 12 n) = (eLU E stk (nd (vM E) 12 n) - 1) + 1 := (Nat.sub_add_cancel (Nat.pos_of_ne_zero h1)).symm
  have hy := hS.nm hk ey
  obtain ⟨p, nf, ff, p1, p2, p3, p4, p5, p6, p7, p8, p9, p10, p11, p12, p13, p14, p15⟩ := hS.pf hy h2
  rw [p4] at h4 h5
  have hlen : (nxL (vM E) k (gi (vM E) 8 n)).length = nf := by
    have := p6.symm.trans (h4.trans ho.1)
    exact ((eq_iN (by omega) (by have := ho.2.1; omega)).mp this).symm
  refine ⟨_, p, nf, ff, ey, hy, h2, h3, ⟨p1, p2, p3, p4, p6, p7, p8, p9⟩, hlen, ?_, p10, fun q x hx => ?_⟩
  · unfold nd
    rw [ho.1, tc_iN (by have := ho.2.1; omega)]; exact hlen
  · have hq : q < nf := by
      rcases List.getElem?_eq_some_iff.mp hx with ⟨c, _⟩
      omega
    have := h5 (x, q) (List.mem_zipIdx_iff_getElem?.mpr hx)
    dsimp only at this
    rw [p7, p9, if_pos hq] at this
    exact ⟨Or.inr ⟨rfl, by omega, p15 q hq⟩, ho.2.2 x (List.mem_of_getElem? hx), this⟩
end MN
