/-! PASS 2, THE CLASS: DECLS -/
section EC
variable {kd wr : Nat → Nat} {z : Nat} {fA fM : Wd} {lu : Nat → Nat} {lev cur : Nat} {pn : Nat → Int32} {base ob t a d : Nat} {w u : Wd}
/-- into a BLOCK -/
theorem c_open4 (h : GC2 kd wr z fA lu lev pn t a base ob w) (hk : kd t = 4) (hd : d < 40 ∨ d = 40 ∧ kd (t + 1) = 5) : fX9_open (Int32.ofNat d) w = (Int32.ofNat (d + 1), si w 4 9 (Int32.ofNat (t + 1))) ∧ EC kd wr z fA lu lev pn base ob (t + 1) a a w (si w 4 9 (Int32.ofNat (t + 1))) [] (fun b b' _ => b' = b) 0 := by
  have E := EC.go (t1 := t + 1) h (kdlt h.1 (by omega)) (by omega)
  refine ⟨?_, E⟩
  unfold fX9_open
  rw [a_kind h.1, hk, ltq, if_pos (show Int32.ofNat 4 = 4 from rfl)]
  unfold fX9_open_13
  rw [show gi w 4 9 = Int32.ofNat t from h.1.2.2.2.2.2.2.2.1, ad1_iN, ltq, ad1_iN]
  by_cases q : d < 40
  · rw [if_pos (show Int32.ofNat d < 40 from ylt_iN (b := 40) q (by omega))]
  · rw [if_neg (show ¬ (Int32.ofNat d < 40) from nlt_iN (b := 40) (by omega) (by omega)), if_pos rfl, a_kind E.1.1, ltq, if_pos (show Int32.ofNat (kd (t + 1)) = 5 by rw [show kd (t + 1) = 5 by omega]; rfl)]
/-- a TYPE, or none -/
theorem c_typ0 (h : GC2 kd wr z fA lu lev pn t a base ob w) (h7 : kd t ≠ 7) (h8 : kd t ≠ 8) : fX4_type w = (0, w) := by
  unfold fX4_type
  rw [show (7 : Int32) = Int32.ofNat 7 from rfl, c_ntake h (by omega) h7, lt2q, if_neg (show ¬ (false = true) from by decide), show (8 : Int32) = Int32.ofNat 8 from rfl, c_ntake h (by omega) h8, lt2q, if_neg (show ¬ (false = true) from by decide)]
theorem c_typ1 {ty : Nat} (h : GC2 kd wr z fA lu lev pn t a base ob w) (hk : kd t = 6 + ty) (h1 : 1 ≤ ty) (h2 : ty ≤ 2) : fX4_type w = (Int32.ofNat ty, si w 4 9 (Int32.ofNat (t + 1))) ∧ EC kd wr z fA lu lev pn base ob (t + 1) a a w (si w 4 9 (Int32.ofNat (t + 1))) [] (fun b b' _ => b' = b) 0 := by
  obtain ⟨t1, t2⟩ := EC.take h (k := Int32.ofNat (kd t)) (by omega) rfl
  refine ⟨?_, t2⟩
  unfold fX4_type
  by_cases q : ty = 1
  · rw [q] at hk ⊢
    rw [hk] at t1
    rw [show (7 : Int32) = Int32.ofNat (6 + 1) from rfl, t1, lt2q, if_pos rfl]
    rfl
  · have q2 : ty = 2 := by omega
    rw [q2] at hk ⊢
    rw [hk] at t1
    rw [show (7 : Int32) = Int32.ofNat 7 from rfl, c_ntake h (by omega) (by omega), lt2q, if_neg (show ¬ (false = true) from by decide), show (8 : Int32) = Int32.ofNat (6 + 2) from rfl, t1, lt2q, if_pos rfl]
    rfl
theorem dc_own {rc : TX4_block} {ty : Nat} (h : GC2 kd wr z fA lu lev pn t a base ob w) (hk : kd t = 6) (hk1 : kd (t + 1) = 6 + ty) (h1 : 1 ≤ ty) (h2 : ty ≤ 2) : ∃ w', fX4_declaration rc (Int32.ofNat d) w = (bn (fX4_variables (Int32.ofNat ty) true w') fun w => some ((0 : Int32), w)) ∧ EC kd wr z fA lu lev pn base ob (t + 2) a a w w' [] (fun b b' _ => b' = b) 0 := by
  obtain ⟨t1, t2⟩ := EC.take h (k := 6) (by omega) (by rw [hk]; rfl)
  obtain ⟨t3, t4⟩ := c_typ1 t2.1 hk1 h1 h2
  refine ⟨_, ?_, ((t2.seq t4).wk (fun b b' g ⟨b1, g1, g2⟩ => by rw [g2, g1]) (Nat.le_refl _)).cL rfl⟩
  unfold fX4_declaration
  rw [t1, lt2q, t3, lt2q, if_pos rfl]
  have h0 : ¬ ((Int32.ofNat ty, si (si w 4 9 (Int32.ofNat (t + 1))) 4 9 (Int32.ofNat (t + 1 + 1))).1 = 0) := of_ne (k := 0) (by omega) (by omega) (by omega)
  rw [if_neg h0]
  unfold fX4_declaration_33
  rw [if_pos rfl]
/-- DECLS that begin with a TYPE or none, up to what they declare -/
theorem dc_33 {rc : TX4_block} {ty t1 : Nat} (h : GC2 kd wr z fA lu lev pn t a base ob w) (hk : kd t ≠ 6) (hty : ty = 0 ∧ t1 = t ∧ kd t ≠ 7 ∧ kd t ≠ 8 ∨ 1 ≤ ty ∧ ty ≤ 2 ∧ kd t = 6 + ty ∧ t1 = t + 1) : ∃ w', fX4_declaration rc (Int32.ofNat d) w = fX4_declaration_33 rc (Int32.ofNat d) false (Int32.ofNat ty) w' ∧ EC kd wr z fA lu lev pn base ob t1 a a w w' [] (fun b b' _ => b' = b) 0 := by
  have e6 : fX9_take 6 w = (false, w) := c_ntake (k := 6) h (by omega) hk
  rcases hty with ⟨rfl, rfl, q7, q8⟩ | ⟨q1, q2, q3, rfl⟩
  · refine ⟨w, ?_, EC.no h⟩
    unfold fX4_declaration
    rw [e6, lt2q, c_typ0 h q7 q8, lt2q, if_neg (show ¬ (false = true) from by decide)]
    rfl
  · obtain ⟨t3, t4⟩ := c_typ1 h q3 q1 q2
    refine ⟨_, ?_, t4⟩
    unfold fX4_declaration
    rw [e6, lt2q, t3, lt2q, if_neg (show ¬ (false = true) from by decide)]
theorem dc_var {rc : TX4_block} {ty : Nat} (h : GC2 kd wr z fA lu lev pn t a base ob w) (hk : kd t = 2) : fX4_declaration_33 rc (Int32.ofNat d) false (Int32.ofNat ty) w = (bn (fX4_variables (Int32.ofNat ty) false w) fun w => some ((0 : Int32), w)) := by
  unfold fX4_declaration_33
  rw [if_neg (by decide), a_kind h.1, ltq, hk, if_pos (show Int32.ofNat 2 = 2 from rfl)]
theorem dc_proc {rc : TX4_block} {ty : Nat} (h : GC2 kd wr z fA lu lev pn t a base ob w) (hk : kd t = 10) : fX4_declaration_33 rc (Int32.ofNat d) false (Int32.ofNat ty) w = (bn2 (rc 3 (Int32.ofNat d) (Int32.ofNat ty) 0 w) fun _ w9 => some ((0 : Int32), w9)) := by
  unfold fX4_declaration_33
  rw [if_neg (by decide), a_kind h.1, ltq, hk, if_neg (by decide), ltq, if_pos (show Int32.ofNat 10 = 10 from rfl)]
theorem dc_switch {rc : TX4_block} (h : GC2 kd wr z fA lu lev pn t a base ob w) (hk : kd t = 13) : fX4_declaration_33 rc (Int32.ofNat d) false (Int32.ofNat 0) w = (bn (fX4_aims (Int32.ofNat d) w) fun w => some ((0 : Int32), w)) := by
  unfold fX4_declaration_33
  rw [if_neg (by decide), a_kind h.1, ltq, hk, if_neg (by decide), ltq, if_neg (by decide), ltq, if_pos (show Int32.ofNat 13 = 13 from rfl), if_pos (show Int32.ofNat 0 = 0 from rfl)]
theorem dc_array {rc : TX4_block} {ty : Nat} (hty : ty ≤ 2) (h : GC2 kd wr z fA lu lev pn t a base ob w) (hk : kd t = 9) : fX4_declaration_33 rc (Int32.ofNat d) false (Int32.ofNat ty) w = (bn (fX4_arrays (Int32.ofNat d) (if ty = 0 then 1 else Int32.ofNat ty) w) fun w => some ((0 : Int32), w)) := by
  unfold fX4_declaration_33
  rw [if_neg (by decide), a_kind h.1, ltq, hk, if_neg (by decide), ltq, if_neg (by decide), ltq, if_neg (by decide)]
  unfold fX4_declaration_102
  by_cases q : ty = 0
  · rw [q, if_pos (show Int32.ofNat 0 = 0 from rfl), if_pos rfl]
  · rw [if_neg (show ¬ (Int32.ofNat ty = 0) from of_ne (k := 0) (by omega) (by omega) q), if_neg q]
theorem c_isD (h : GC2 kd wr z fA lu lev pn t a base ob w) : fX4_isDeclaration w = true ↔ (kd t = 6 ∨ kd t = 7 ∨ kd t = 8 ∨ kd t = 9 ∨ kd t = 10 ∨ kd t = 13) := by
  have hk := h.1.2.2.1 t
  unfold fX4_isDeclaration
  rw [a_kind h.1, ltq]
  have e : ∀ n : Nat, n ≤ 50 → (Int32.ofNat (kd t) = Int32.ofNat n ↔ kd t = n) := fun n hn => eq_iN (by omega) (by omega)
  have e6 : Int32.ofNat (kd t) = 6 ↔ kd t = 6 := e 6 (by omega)
  have e7 : Int32.ofNat (kd t) = 7 ↔ kd t = 7 := e 7 (by omega)
  have e8 : Int32.ofNat (kd t) = 8 ↔ kd t = 8 := e 8 (by omega)
  have e9 : Int32.ofNat (kd t) = 9 ↔ kd t = 9 := e 9 (by omega)
  have e10 : Int32.ofNat (kd t) = 10 ↔ kd t = 10 := e 10 (by omega)
  have e13 : Int32.ofNat (kd t) = 13 ↔ kd t = 13 := e 13 (by omega)
  by_cases q : kd t = 6 ∨ kd t = 7 ∨ kd t = 8 ∨ kd t = 9 ∨ kd t = 10 ∨ kd t = 13
  · rw [if_pos (by rw [e6, e7, e8, e9, e10, e13]; exact q)]
    exact ⟨fun _ => q, fun _ => rfl⟩
  · rw [if_neg (by rw [e6, e7, e8, e9, e10, e13]; exact q)]
    exact ⟨fun h => absurd h (by decide), fun h => absurd h q⟩
end EC
section ES
variable {kd wr nm TK : Nat → Nat} {z : Nat} {fA fM : Wd} {SL : Nat → List Nat} {NS ns SZ lev cur m : Nat} {pn : Nat → Int32} {i i0 i1 i2 s t e e1 d sg kp nsc nsc1 nsc2 T1 T2 : Nat} {stk : List Nat} {L1 L2 : List (Nat × Int32)} {P1 P2 : Nat → Nat → Nat → Wd → Prop}
/-- what two parts come to, one after the other -/
def PSQ (P1 P2 : Nat → Nat → Nat → Wd → Prop) (b b' Z : Nat) (g : Wd) : Prop := ∃ b1, P1 b b1 Z g ∧ P2 b1 b' Z g
/-- DECLS from TOKEN s on, as the loop goes over them: at most j -/
def DLC (kd wr nm TK : Nat → Nat) (z : Nat) (fA : Wd) (SL : Nat → List Nat) (NS ns SZ lev : Nat) (pn : Nat → Int32) (rc : TX4_block) (d j sg kp nsc nsc' i0 i1 s e : Nat) (stk : List Nat) (L : List (Nat × Int32)) (P : Nat → Nat → Nat → Wd → Prop) (T : Nat) : Prop :=
  ∀ f q : Nat, j ≤ f → q ≤ s → SSC kd wr nm TK z fA SL NS ns SZ lev pn sg kp nsc nsc' i0 i1 s e stk L P T (fun w => oX4_declarations_2 rc (f + 1) (Int32.ofNat d) (Int32.ofNat q) w)
theorem dlc_nil {rc : TX4_block} (h : ¬ (kd s = 6 ∨ kd s = 7 ∨ kd s = 8 ∨ kd s = 9 ∨ kd s = 10 ∨ kd s = 13)) (hi : i ≤ ns) : DLC kd wr nm TK z fA SL NS ns SZ lev pn rc d 0 sg kp nsc nsc i i s s stk [] (fun b b' _ _ => b' = b) 0 := by
  intro f q hf hq w a sz hG ha
  have hcf := hG.cfit
  refine ⟨w, a, sz, ?_, ESC.no hG hi⟩
  show fX4_declarations_2 rc (oX4_declarations_2 rc f) _ _ w = _
  unfold fX4_declarations_2
  rw [if_neg (show ¬ ((8193 : Int32) ≤ Int32.ofNat q) from nle_iN (a := 8193) (by omega) (by omega)), ltq, if_neg (fun e => h ((c_isD hG.gc).mp e))]
theorem dlc_cons {rc : TX4_block} {j : Nat} (hk : kd s = 6 ∨ kd s = 7 ∨ kd s = 8 ∨ kd s = 9 ∨ kd s = 10 ∨ kd s = 13) (h1 : SSC kd wr nm TK z fA SL NS ns SZ lev pn sg kp nsc nsc1 i0 i1 s e1 stk L1 P1 T1 (fun w => rc 2 (Int32.ofNat d) 0 0 w)) (h41 : kd e1 = 41) (hse : s ≤ e1) (h2 : DLC kd wr nm TK z fA SL NS ns SZ lev pn rc d j sg kp nsc1 nsc2 i1 i2 (e1 + 1) e stk L2 P2 T2) : DLC kd wr nm TK z fA SL NS ns SZ lev pn rc d (j + 1) sg kp nsc nsc2 i0 i2 s e stk (L1 ++ L2) (PSQ P1 P2) (T1 + T2) := by
  intro f q hf hq w a sz hG ha
  have hcf := hG.cfit
  obtain ⟨f, rfl⟩ : ∃ f', f = f' + 1 := ⟨f - 1, by omega⟩
  obtain ⟨u, a1, sz1, u1, u2⟩ := h1 w a sz hG (by omega)
  have hb5 := u2.2.2.2.2.1
  obtain ⟨n1, n2⟩ := EC.need u2.1.gc (k := 41) h41 (by omega)
  have E := u2.seq (ESC.ec (i := i1) u2.1 n2 (by omega))
  obtain ⟨v, a2, sz2, v1, v2⟩ := h2 f (q + 1) (by omega) (by omega) _ a1 sz1 E.1 (by omega)
  have hv5 := v2.2.2.2.2.1
  refine ⟨v, a2, sz2, ?_, ((E.seq v2).wk (fun b b' Z g hg => ?_) (by omega)).cL (by simp)⟩
  · have u1' : rc 2 (Int32.ofNat d) 0 0 w = some (0, u) := u1
    show fX4_declarations_2 rc (oX4_declarations_2 rc (f + 1)) _ _ w = _
    unfold fX4_declarations_2
    rw [if_neg (show ¬ ((8193 : Int32) ≤ Int32.ofNat q) from nle_iN (a := 8193) (by omega) (by omega)), ltq, if_pos ((c_isD hG.gc).mpr hk), u1', bn2_so, show (41 : Int32) = Int32.ofNat 41 from rfl, n1, ltq, ad1_iN, ltq]
    exact v1
  · obtain ⟨b1, ⟨b2, g1, g2⟩, g3⟩ := hg
    rw [g2] at g3
    exact ⟨b2, g1, g3⟩
end ES
