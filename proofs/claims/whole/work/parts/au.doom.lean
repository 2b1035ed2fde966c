/-! THE REFERENCE at DEPTH 41: DECLS and STATEMENTS -/
section JT
variable {kd wr nm : Nat → Nat} {m : Nat}
theorem dp_taken : DEP kd wr m (fun w => fX12_taken w) := fun w t h => m_taken_no h (Or.inl rfl)
theorem dp_be {f : Wd → Option (Option Int32 × Wd)} {K : Int32 → Wd → Option (Option Int32 × Wd)} (h : DEP kd wr m f) : DEP kd wr m (fun w => be (f w) K) := fun w t hs => by
  show be (f w) K = _
  rw [h w t hs]
  rfl
theorem dp_expect {k : Nat} {x : Int32} (hx : x = Int32.ofNat (kM k)) (hk : 2 ≤ k ∧ k ≤ 50) : DEP kd wr m (fun w => fX12_expect x w) := fun w t h => m_expect_no h hx (by omega) (Or.inl rfl) hk.1
theorem dp_blk {rm : TX12_block} : DEP kd wr m (fun w => fX12_block rm w) := fun w t h => by
  have e : fX12_expect 256 w = some (none, si w 0 9 (Int32.ofNat (wr t))) := dp_expect (kd := kd) (wr := wr) (m := m) (k := 4) (x := 256) rfl (by omega) w t h
  show fX12_block rm w = _
  unfold fX12_block
  rw [e]
  rfl
theorem dp_loop {rm : TX12_block} : DEP kd wr m (fun w => fX12_loop rm w) := fun w t h => by
  have e : fX12_taken w = some (none, si w 0 9 (Int32.ofNat (wr t))) := dp_taken w t h
  show fX12_loop rm w = _
  unfold fX12_loop
  rw [e]
  rfl
theorem dp_proc {rm : TX12_block} {a : Int32} : DEP kd wr m (fun w => fX12_procedure rm a w) := fun w t h => by
  have e : fX12_taken w = some (none, si w 0 9 (Int32.ofNat (wr t))) := dp_taken w t h
  show fX12_procedure rm a w = _
  unfold fX12_procedure
  rw [e]
  rfl
theorem dp_arr {a1 a2 : Int32} : DEP kd wr m (fun w => fX12_arrays a1 a2 w) := fun w t h => by
  have e : fX12_taken w = some (none, si w 0 9 (Int32.ofNat (wr t))) := dp_taken w t h
  show fX12_arrays a1 a2 w = _
  unfold fX12_arrays
  rw [e]
  rfl
theorem m_sw41 {w : Wd} {t : Nat} (h : SM kd wr m w t 41) : fX12_aSwitch w = some (none, si w 0 9 (Int32.ofNat (wr t))) := by
  have e : fX12_taken w = some (none, si w 0 9 (Int32.ofNat (wr t))) := dp_taken w t h
  unfold fX12_aSwitch
  rw [e]
  rfl
theorem m_kq {w : Wd} {t d : Nat} {γ : Type} {K : Int32 → Wd → Option γ} (h : SM kd wr m w t d) : bn2 (fX12_kind w) K = K (Int32.ofNat (kM (kd t))) w := by
  rw [m_kind h]
  rfl
theorem dp_skip {k : Nat} {x : Int32} (hx : x = Int32.ofNat (kM k)) {K : Bool → Wd → Option (Option Int32 × Wd)} {w : Wd} {t : Nat} (h : SM kd wr m w t 41) (hk : kd t = k) : be (fX12_skip x w) K = some (none, si w 0 9 (Int32.ofNat (wr t))) := by
  unfold fX12_skip
  rw [m_kq h, hk, ← hx, if_pos rfl, show fX12_taken w = _ from dp_taken w t h]
  rfl
theorem SM.ofP {P : Nat → Nat → Prop} {u w : Wd} {t d : Nat} (h : SM kd wr m w t d) (hO : OFF P u w) (hP : ∀ k j, P k j → k ≠ 2 ∧ k ≠ 3 ∧ (k = 0 → j ≠ 7 ∧ j ≠ 8)) : SM kd wr m u t d := by
  obtain ⟨⟨a1, a2, a3, a4, a5⟩, a6, a7, a8, a9⟩ := h
  exact ⟨⟨a1, a2, a3, a4, fun i hi => by rw [(hO 2 i (fun q => (hP _ _ q).1 rfl)).1, (hO 3 i (fun q => (hP _ _ q).2.1 rfl)).1]; exact a5 i hi⟩, a6, a7, by rw [(hO 0 7 (fun q => ((hP _ _ q).2.2 rfl).1 rfl)).1]; exact a8, by rw [(hO 0 8 (fun q => ((hP _ _ q).2.2 rfl).2 rfl)).1]; exact a9⟩
theorem m_isType {w : Wd} {t d : Nat} (h : SM kd wr m w t d) : fX12_isType w = some (decide (kd t = 7 ∨ kd t = 8), w) := by
  have h50 := h.1.2.2.2.1
  unfold fX12_isType
  rw [m_kq h]
  by_cases q : kd t = 7
  · rw [if_pos ((kq h50 (k := 7) (x := 259) rfl (by omega)).mpr q), decide_eq_true (Or.inl q)]
  · rw [if_neg (fun e => q ((kq h50 (k := 7) (x := 259) rfl (by omega)).mp e)), m_kq h]
    by_cases q2 : kd t = 8
    · rw [if_pos ((kq h50 (k := 8) (x := 260) rfl (by omega)).mpr q2), decide_eq_true (Or.inr q2)]
    · rw [if_neg (fun e => q2 ((kq h50 (k := 8) (x := 260) rfl (by omega)).mp e)), decide_eq_false (by omega)]
/-- what begins with a look at the TOKEN -/
theorem m_kif {w : Wd} {t d k : Nat} {γ : Type} {x : Int32} {A B : Wd → Option γ} (h : SM kd wr m w t d) (hx : x = Int32.ofNat (kM k)) (hk : k ≤ 50) : (bn2 (fX12_kind w) fun x1 w2 => if x1 = x then A w2 else B w2) = if kd t = k then A w else B w := by
  have h50 := h.1.2.2.2.1
  rw [m_kq h]
  by_cases q : kd t = k
  · rw [if_pos q, if_pos ((kq h50 hx hk).mpr q)]
  · rw [if_neg q, if_neg (fun e => q ((kq h50 hx hk).mp e))]
theorem dp_decl {rm : TX12_block} {a : Int32} (h2 : ∀ a, DEP kd wr m (fun w => rm 2 a 0 0 w)) : DEP kd wr m (fun w => fX12_declaration rm a w) := fun w t h => by
  have h50 := h.1.2.2.2.1
  have h87 : ∀ a3, fX12_declaration_87 rm false a3 w = some (none, si w 0 9 (Int32.ofNat (wr t))) := fun a3 => by
    unfold fX12_declaration_87
    rw [if_neg (by decide), m_kif h (k := 10) (x := 262) rfl (by omega)]
    by_cases q : kd t = 10
    · rw [if_pos q, show rm 2 a3 0 0 w = _ from h2 a3 w t h]
      rfl
    · rw [if_neg q]
      obtain ⟨n, hn⟩ := FU_ge (k := 1) (by omega)
      rw [hn]
      show fX12_declaration_108 rm (oX12_declaration_108 rm n) false a3 w = _
      unfold fX12_declaration_108
      rw [show fX12_expect 285 w = _ from dp_expect (k := 2) (x := 285) rfl (by omega) w t h]
      rfl
  show fX12_declaration rm a w = _
  unfold fX12_declaration
  rw [m_kif h (k := 13) (x := 265) rfl (by omega)]
  by_cases q : kd t = 13
  · rw [if_pos q, m_sw41 h]
    rfl
  · rw [if_neg q]
    by_cases q6 : kd t = 6
    · exact dp_skip (k := 6) (x := 258) rfl h q6
    · rw [m_skip_no h (k := 6) (x := 258) rfl (by omega) q6, be_so, m_isType h]
      show (if decide (kd t = 7 ∨ kd t = 8) = true then _ else _) = _
      by_cases q7 : kd t = 7 ∨ kd t = 8
      · rw [decide_eq_true q7, if_pos rfl, show fX12_taken w = _ from dp_taken w t h]
        rfl
      · rw [decide_eq_false q7, if_neg (by decide), if_neg (by decide)]
        unfold fX12_declaration_58
        rw [if_neg (by decide), m_kif h (k := 9) (x := 261) rfl (by omega)]
        by_cases q9 : kd t = 9
        · rw [if_pos q9, if_pos rfl, show fX12_arrays 1 a w = _ from dp_arr w t h]
          rfl
        · rw [if_neg q9]
          exact h87 0
/-- throws, or a node for nothing -/
def DN (kd wr : Nat → Nat) (m : Nat) (r : Wd → Option (Option Int32 × Wd)) : Prop := ∀ w t c0, SM kd wr m w t 41 → gi w 0 23 = Int32.ofNat c0 → c0 < 24000 → r w = some (none, si w 0 9 (Int32.ofNat (wr t))) ∨ ∃ u, r w = some (some (Int32.ofNat c0), u) ∧ SM kd wr m u t 41 ∧ OFF PMM u w
theorem dn_plain {rm : TX12_block} (h0 : DEP kd wr m (fun w => rm 0 0 0 0 w)) (h6 : DEP kd wr m (fun w => rm 6 0 0 0 w)) : DN kd wr m (fun w => fX12_plain rm w) := fun w t c0 h hc hc2 => by
  have h50 := h.1.2.2.2.1
  have hT := dp_taken w t h
  have htk : fX12_taken w = some (none, si w 0 9 (Int32.ofNat (wr t))) := hT
  show fX12_plain rm w = _ ∨ ∃ u, fX12_plain rm w = _ ∧ _
  unfold fX12_plain
  rw [ltq, m_kq h]
  have hq : ∀ (k : Nat) (x : Int32), x = Int32.ofNat (kM k) → k ≤ 50 → ((Int32.ofNat (kM (kd t)) = x) ↔ kd t = k) := fun k x hx hk => kq h50 hx hk
  by_cases q4 : kd t = 4
  · rw [if_pos ((hq 4 256 rfl (by omega)).mpr q4), show rm 0 0 0 0 w = _ from h0 w t h]
    exact Or.inl rfl
  rw [if_neg (fun e => q4 ((hq 4 256 rfl (by omega)).mp e))]
  by_cases q14 : kd t = 14
  · rw [if_pos ((hq 14 266 rfl (by omega)).mpr q14), htk]
    exact Or.inl rfl
  rw [if_neg (fun e => q14 ((hq 14 266 rfl (by omega)).mp e))]
  by_cases q15 : kd t = 15
  · rw [if_pos ((hq 15 267 rfl (by omega)).mpr q15), htk]
    exact Or.inl rfl
  rw [if_neg (fun e => q15 ((hq 15 267 rfl (by omega)).mp e))]
  by_cases q18 : kd t = 18
  · rw [if_pos ((hq 18 270 rfl (by omega)).mpr q18), show rm 6 0 0 0 w = _ from h6 w t h]
    exact Or.inl rfl
  rw [if_neg (fun e => q18 ((hq 18 270 rfl (by omega)).mp e))]
  by_cases q32 : kd t = 32
  · rw [if_pos ((hq 32 284 rfl (by omega)).mpr q32), htk]
    exact Or.inl rfl
  rw [if_neg (fun e => q32 ((hq 32 284 rfl (by omega)).mp e))]
  by_cases q2 : kd t = 2
  · rw [if_pos ((hq 2 285 rfl (by omega)).mpr q2), m_soc h50 h q2]
    refine Or.inl ?_
    by_cases q43 : kd (t + 1) = 43
    · rw [if_pos q43, show RX12_variable 900 2 0 0 0 w = fX12_call (RX12_variable 899) w from rfl, show fX12_call (RX12_variable 899) w = _ from dp_call w t h]
      rfl
    · rw [if_neg q43, show RX12_variable 900 0 0 0 0 w = fX12_variable (RX12_variable 899) w from rfl, show fX12_variable (RX12_variable 899) w = _ from dp_var w t h]
      rfl
  · rw [if_neg (fun e => q2 ((hq 2 285 rfl (by omega)).mp e))]
    obtain ⟨u, e1, e2, _, _, _, _, _, _, _, _, e3⟩ := nd_ok (a1 := 20) (a2 := 0) (a3 := 0) (a4 := 0) (a5 := gi w 0 7) h hc hc2
    rw [e1]
    exact Or.inr ⟨u, rfl, e2, e3.mono (fun k j hk => by unfold PN at hk; unfold PMM; omega)⟩
theorem dn_stat {rm : TX12_block} (h5 : DN kd wr m (fun w => rm 5 0 0 0 w)) : DN kd wr m (fun w => fX12_statement rm w) := fun w t c0 h hc hc2 => by
  have h50 := h.1.2.2.2.1
  have htk : fX12_taken w = some (none, si w 0 9 (Int32.ofNat (wr t))) := dp_taken w t h
  have h60 : ∀ a, fX12_statement_60 rm a w = some (none, si w 0 9 (Int32.ofNat (wr t))) ∨ ∃ u, fX12_statement_60 rm a w = some (some (Int32.ofNat c0), u) ∧ SM kd wr m u t 41 ∧ OFF PMM u w := fun a => by
    unfold fX12_statement_60
    rcases h5 w t c0 h hc hc2 with e | ⟨u, e1, e2, e3⟩
    · rw [show rm 5 0 0 0 w = _ from e]
      exact Or.inl rfl
    · rw [show rm 5 0 0 0 w = _ from e1, be_so, if_pos (inb_iN hc2 (by omega)), tc_iN (by omega), ltq]
      exact Or.inr ⟨_, rfl, e2.si (by omega) (by omega), OFF.tr (OFF.si (by unfold PMM; omega)) e3⟩
  show fX12_statement rm w = _ ∨ ∃ u, fX12_statement rm w = _ ∧ _
  unfold fX12_statement
  obtain ⟨n, hn⟩ := FU_ge (k := 1) (by omega)
  rw [hn]
  show fX12_statement_2 rm (oX12_statement_2 rm n) (-1) w = _ ∨ ∃ u, fX12_statement_2 rm (oX12_statement_2 rm n) (-1) w = _ ∧ _
  unfold fX12_statement_2
  rw [m_kif h (k := 2) (x := 285) rfl (by omega)]
  by_cases q : kd t = 2
  · have h7 := h.2.2.2.1
    have hm := h.lt (by omega)
    have hb := h.1.1
    rw [if_pos q, h7, ad1_iN, if_pos (inb_iN (by omega) (by omega))]
    by_cases q2 : gi w 2 (Int32.toNatClampNeg (Int32.ofNat (t + 1))) = 58
    · rw [if_pos q2, htk]
      exact Or.inl rfl
    · rw [if_neg q2]
      exact h60 _
  · rw [if_neg q]
    exact h60 _
end JT
