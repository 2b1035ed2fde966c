/-! PASS 2, THE CLASS: words as numbers; jumps that hang together -/
section WN
theorem i64_iN {x : Nat} (hx : x < 2147483648) : Int32.toInt64 (Int32.ofNat x) = Int64.ofNat x := by
  apply Int64.toBitVec_inj.mp
  show (BitVec.ofNat 32 x).signExtend 64 = BitVec.ofNat 64 x
  rw [BitVec.signExtend_eq_setWidth_of_msb_false]
  · apply BitVec.eq_of_toNat_eq
    simp only [BitVec.toNat_setWidth, BitVec.toNat_ofNat]
    omega
  · rw [BitVec.msb_eq_decide]
    simp only [BitVec.toNat_ofNat]
    have : x % 2 ^ 32 = x := Nat.mod_eq_of_lt (by omega)
    rw [this]
    simp
    omega
def wdN (x y c : Nat) : Nat := x * 268435456 + y * 4194304 + c
theorem wdC_iN {x y c : Nat} (hx : x < 64) (hy : y < 64) (hc : c < 4194304) : wdC (Int32.ofNat x) (Int32.ofNat y) (Int32.ofNat c) = Int64.ofNat (wdN x y c) := by
  unfold wdC
  rw [i64_iN (by omega), i64_iN (by omega), i64_iN (by omega)]
  apply Int64.toBitVec_inj.mp
  rw [Int64.toBitVec_or, Int64.toBitVec_or, Int64.toBitVec_shiftLeft, Int64.toBitVec_shiftLeft]
  have e28 : (BitVec.smod (Int32.toInt64 28 &&& 63).toBitVec 64) = 28#64 := by decide
  have e22 : (BitVec.smod (Int32.toInt64 22 &&& 63).toBitVec 64) = 22#64 := by decide
  rw [e28, e22]
  show (BitVec.ofNat 64 x <<< 28#64 ||| BitVec.ofNat 64 y <<< 22#64) ||| BitVec.ofNat 64 c = BitVec.ofNat 64 (wdN x y c)
  apply BitVec.eq_of_toNat_eq
  rw [BitVec.toNat_or, BitVec.toNat_or, BitVec.shiftLeft_eq', BitVec.shiftLeft_eq', BitVec.toNat_shiftLeft, BitVec.toNat_shiftLeft, BitVec.toNat_ofNat, BitVec.toNat_ofNat, BitVec.toNat_ofNat, BitVec.toNat_ofNat]
  have s1 : (x % 2 ^ 64) <<< (28 % 2 ^ 64) % 2 ^ 64 = x <<< 28 := by
    rw [Nat.mod_eq_of_lt (show x < 2 ^ 64 by omega), show 28 % 2 ^ 64 = 28 from rfl, Nat.shiftLeft_eq]
    exact Nat.mod_eq_of_lt (by omega)
  have s2 : (y % 2 ^ 64) <<< (22 % 2 ^ 64) % 2 ^ 64 = y <<< 22 := by
    rw [Nat.mod_eq_of_lt (show y < 2 ^ 64 by omega), show 22 % 2 ^ 64 = 22 from rfl, Nat.shiftLeft_eq]
    exact Nat.mod_eq_of_lt (by omega)
  rw [s1, s2, BitVec.toNat_ofNat, BitVec.toNat_ofNat, Nat.mod_eq_of_lt (show c < 2 ^ 64 by omega), Nat.or_assoc, ← Nat.shiftLeft_add_eq_or_of_lt (show c < 2 ^ 22 by omega), ← Nat.shiftLeft_add_eq_or_of_lt (show y <<< 22 + c < 2 ^ 28 by rw [Nat.shiftLeft_eq]; omega), Nat.shiftLeft_eq, Nat.shiftLeft_eq]
  unfold wdN
  rw [Nat.mod_eq_of_lt (by omega)]
  omega
theorem wd_op {x y c : Nat} (hc : c < 4194304) : Int64.toInt32 (Int64.ofNat (wdN x y c) &&& 4194303) = Int32.ofNat c := by
  apply Int32.toBitVec_inj.mp
  rw [Int64.toBitVec_toInt32, BitVec.signExtend_eq_setWidth_of_le _ (by omega)]
  show BitVec.setWidth 32 (BitVec.ofNat 64 (wdN x y c) &&& 4194303#64) = BitVec.ofNat 32 c
  apply BitVec.eq_of_toNat_eq
  rw [BitVec.toNat_setWidth, BitVec.toNat_and, BitVec.toNat_ofNat, BitVec.toNat_ofNat, BitVec.toNat_ofNat]
  unfold wdN
  rw [show (4194303 % 2 ^ 64) = 2 ^ 22 - 1 by decide, Nat.and_two_pow_sub_one_eq_mod]
  omega
theorem wd_hops {x y c : Nat} (hx : x < 64) (hy : y < 64) (hc : c < 4194304) : Int64.toInt32 ((Int64.ofNat (wdN x y c) >>> (Int32.toInt64 22 &&& 63)) &&& 63) = Int32.ofNat y := by
  apply Int32.toBitVec_inj.mp
  have e22 : (BitVec.smod (Int32.toInt64 22 &&& 63).toBitVec 64) = 22#64 := by decide
  rw [Int64.toBitVec_toInt32, BitVec.signExtend_eq_setWidth_of_le _ (by omega)]
  show BitVec.setWidth 32 ((Int64.ofNat (wdN x y c) >>> (Int32.toInt64 22 &&& 63)).toBitVec &&& 63#64) = BitVec.ofNat 32 y
  rw [Int64.toBitVec_shiftRight, e22]
  show BitVec.setWidth 32 ((BitVec.ofNat 64 (wdN x y c)).sshiftRight (22#64).toNat &&& 63#64) = BitVec.ofNat 32 y
  have hN : wdN x y c < 2 ^ 35 := by unfold wdN; omega
  have hm : (BitVec.ofNat 64 (wdN x y c)).msb = false := by
    rw [BitVec.msb_eq_decide, BitVec.toNat_ofNat, Nat.mod_eq_of_lt (by omega)]
    simp
    omega
  rw [BitVec.sshiftRight_eq_of_msb_false hm]
  apply BitVec.eq_of_toNat_eq
  rw [BitVec.toNat_setWidth, BitVec.toNat_and, BitVec.toNat_ushiftRight, BitVec.toNat_ofNat, BitVec.toNat_ofNat, BitVec.toNat_ofNat, Nat.shiftRight_eq_div_pow, BitVec.toNat_ofNat, show 22 % 2 ^ 64 = 22 from rfl]
  unfold wdN at hN ⊢
  rw [show (63 % 2 ^ 64) = 2 ^ 6 - 1 by decide, Nat.and_two_pow_sub_one_eq_mod]
  omega
theorem wd_what {x y c : Nat} (hx : x < 64) (hy : y < 64) (hc : c < 4194304) : Int64.toInt32 (Int64.ofNat (wdN x y c) >>> (Int32.toInt64 28 &&& 63)) = Int32.ofNat x := by
  apply Int32.toBitVec_inj.mp
  have e28 : (BitVec.smod (Int32.toInt64 28 &&& 63).toBitVec 64) = 28#64 := by decide
  rw [Int64.toBitVec_toInt32, BitVec.signExtend_eq_setWidth_of_le _ (by omega)]
  show BitVec.setWidth 32 ((Int64.ofNat (wdN x y c) >>> (Int32.toInt64 28 &&& 63)).toBitVec) = BitVec.ofNat 32 x
  rw [Int64.toBitVec_shiftRight, e28]
  show BitVec.setWidth 32 ((BitVec.ofNat 64 (wdN x y c)).sshiftRight (28#64).toNat) = BitVec.ofNat 32 x
  have hN : wdN x y c < 2 ^ 35 := by unfold wdN; omega
  have hm : (BitVec.ofNat 64 (wdN x y c)).msb = false := by
    rw [BitVec.msb_eq_decide, BitVec.toNat_ofNat, Nat.mod_eq_of_lt (by omega)]
    simp
    omega
  rw [BitVec.sshiftRight_eq_of_msb_false hm]
  apply BitVec.eq_of_toNat_eq
  rw [BitVec.toNat_setWidth, BitVec.toNat_ushiftRight, BitVec.toNat_ofNat, BitVec.toNat_ofNat, Nat.shiftRight_eq_div_pow, BitVec.toNat_ofNat, show 28 % 2 ^ 64 = 28 from rfl]
  unfold wdN at hN ⊢
  omega
theorem i64_add {a b : Nat} : Int64.ofNat a + Int64.ofNat b = Int64.ofNat (a + b) := by
  apply Int64.toBitVec_inj.mp
  show BitVec.ofNat 64 a + BitVec.ofNat 64 b = BitVec.ofNat 64 (a + b)
  rw [BitVec.ofNat_add]
theorem i64_sub {a b : Nat} (h : b ≤ a) : Int64.ofNat a - Int64.ofNat b = Int64.ofNat (a - b) := by
  have e : Int64.ofNat a = Int64.ofNat (a - b) + Int64.ofNat b := by rw [i64_add, Nat.sub_add_cancel h]
  rw [e]
  simp
theorem jwC_iN {x n : Nat} (hx : x < 64) (hn : n < 4194304) : jwC (Int32.ofNat x) n = Int64.ofNat (wdN x 0 n) := by
  unfold jwC
  rw [show wdC (Int32.ofNat x) 0 0 = wdC (Int32.ofNat x) (Int32.ofNat 0) (Int32.ofNat 0) from rfl, wdC_iN hx (by omega) (by omega), i64_iN (by omega), i64_add]
  rfl
theorem jwC_wdC {x n : Nat} (hx : x < 64) (hn : n < 4194304) : jwC (Int32.ofNat x) n = wdC (Int32.ofNat x) 0 (Int32.ofNat n) := by
  rw [jwC_iN hx hn, show wdC (Int32.ofNat x) 0 (Int32.ofNat n) = wdC (Int32.ofNat x) (Int32.ofNat 0) (Int32.ofNat n) from rfl, wdC_iN hx (by omega) hn]
end WN
section EC
variable {kd wr : Nat → Nat} {z : Nat} {fA fM : Wd} {lu : Nat → Nat} {lev cur : Nat} {pn : Nat → Int32} {base ob t t1 t2 t3 a a1 a2 a3 n s e d f l m p p1 : Nat} {w w1 w2 w3 w4 u v : Wd} {L L1 L2 L3 : List (Nat × Int32)} {P P1 P2 P3 : Nat → Nat → Wd → Prop} {B B1 B2 B3 : Nat} {C TK : Nat → Nat}
/-- a jump that hangs is patched -/
theorem GC2.patchN {q : Nat} (h : GC2 kd wr z fA lu lev pn t n base ob v) (hp : p < 36872) (hq : q < 4194304) (hn : n < 4194304) (hw : gl v 41 p = wdC 33 0 (Int32.ofNat q)) : fX0_patch (Int32.ofNat p) v = (Int32.ofNat q, sl v 41 p (jwC 33 n)) ∧ GC2 kd wr z fA lu lev pn t n base ob (sl v 41 p (jwC 33 n)) := by
  obtain ⟨h1, h2, h3, h4, h5, h6⟩ := h
  have hO : OFF (fun k j => k = 41 ∧ j = p) (sl v 41 p (jwC 33 n)) v := OFF.sl ⟨rfl, rfl⟩
  have hw' : gl v 41 p = Int64.ofNat (wdN 33 0 q) := by
    rw [hw]
    exact wdC_iN (x := 33) (y := 0) (c := q) (by omega) (by omega) hq
  have ho : ∀ v, fX0_operand (Int64.ofNat (wdN 33 0 q)) v = Int32.ofNat q := fun _ => wd_op (x := 33) (y := 0) hq
  have hv : (Int64.ofNat (wdN 33 0 q) - Int32.toInt64 (Int32.ofNat q)) + Int32.toInt64 (gi v 40 1) = jwC 33 n := by
    rw [h3, i64_iN (by omega), i64_iN (by omega), i64_sub (by unfold wdN; omega), i64_add, show jwC 33 n = Int64.ofNat (wdN 33 0 n) from jwC_iN (x := 33) (by omega) hn]
    unfold wdN
    rw [show 33 * 268435456 + 0 * 4194304 + q - q + n = 33 * 268435456 + 0 * 4194304 + n by omega]
  refine ⟨?_, h1.off hO (fun k j hk => by omega), h2, h3, h4, h5, h6.off hO (fun k j hk => by omega)⟩
  unfold fX0_patch
  rw [rgl_iN hp (by omega), hw', ltq, ho, ltq, hv]
  unfold fX0_set
  rw [rsl_iN hp (by omega)]
  simp only [ltq, ho]
/-- jumps, the last first, each with where the one before is -/
def LNKC (u : Wd) : List Nat → Prop
  | [] => True
  | p :: r => gl u 41 p = wdC 33 0 (Int32.ofNat (r.headD 0)) ∧ LNKC u r
theorem LNKC.agr : ∀ {ps : List Nat}, LNKC w ps → (∀ p ∈ ps, gl u 41 p = gl w 41 p) → LNKC u ps := by
  intro ps
  induction ps with
  | nil => exact fun _ _ => trivial
  | cons p r ih => exact fun h hA => ⟨(hA p List.mem_cons_self).trans h.1, ih h.2 (fun q hq => hA q (List.mem_cons_of_mem _ hq))⟩
/-- with jumps ps that still hang: H: where they will go -/
def EFL (kd wr : Nat → Nat) (z : Nat) (fA : Wd) (lu : Nat → Nat) (lev : Nat) (pn : Nat → Int32) (base ob t' a a' : Nat) (w u : Wd) (ps : List Nat) (L : List (Nat × Int32)) (P : Nat → Nat → Nat → Wd → Prop) (B : Nat) : Prop :=
  GC2 kd wr z fA lu lev pn t' a' base ob u ∧ (∀ x ∈ L, x.2 ≠ 0) ∧ FLA u = FNL wr L (FLA w) ∧ OFF (F2 a base ob) u w ∧ (a ≤ a' ∧ a' ≤ a + B) ∧ (∀ p ∈ ps, a ≤ p ∧ p < a') ∧ ∀ H g, (∀ j, a ≤ j → j < a' → j ∉ ps → gl g 41 j = gl u 41 j) → (∀ p ∈ ps, gl g 41 p = jwC 33 H) → P H a a' g
theorem EFL.ec (h : EC kd wr z fA lu lev pn base ob t a a1 w u L P B) : EFL kd wr z fA lu lev pn base ob t a a1 w u [] L (fun _ b b' g => P b b' g) B := by
  obtain ⟨h1, h2, h3, h4, h5, h6⟩ := h
  exact ⟨h1, h2, h3, h4, h5, fun p hp => absurd hp (by simp), fun H g hg _ => h6 g (fun j j1 j2 => hg j j1 j2 (by simp))⟩
theorem EFL.wk {P P1 : Nat → Nat → Nat → Wd → Prop} {ps : List Nat} (h : EFL kd wr z fA lu lev pn base ob t a a1 w u ps L P B) (hP : ∀ H b b' g, P H b b' g → P1 H b b' g) (hb : B ≤ B1) : EFL kd wr z fA lu lev pn base ob t a a1 w u ps L P1 B1 := by
  obtain ⟨h1, h2, h3, h4, h5, h6, h7⟩ := h
  exact ⟨h1, h2, h3, h4, by omega, h6, fun H g hg hp => hP _ _ _ _ (h7 H g hg hp)⟩
theorem EFL.cL {P : Nat → Nat → Nat → Wd → Prop} {ps : List Nat} (h : EFL kd wr z fA lu lev pn base ob t a a1 w u ps L P B) (e : L1 = L) : EFL kd wr z fA lu lev pn base ob t a a1 w u ps L1 P B := by rw [e]; exact h
theorem EFL.seq {P1 P2 : Nat → Nat → Nat → Wd → Prop} {ps qs : List Nat} (h : EFL kd wr z fA lu lev pn base ob t a a1 w u ps L1 P1 B1) (h' : EFL kd wr z fA lu lev pn base ob t1 a1 a2 u v qs L2 P2 B2) : EFL kd wr z fA lu lev pn base ob t1 a a2 w v (qs ++ ps) (L1 ++ L2) (fun H b b' g => ∃ b1, P1 H b b1 g ∧ P2 H b1 b' g) (B1 + B2) := by
  obtain ⟨h1, h2, h3, h4, h5, h6, h7⟩ := h
  obtain ⟨g1, g2, g3, g4, g5, g6, g7⟩ := h'
  refine ⟨g1, fun x hx => (List.mem_append.mp hx).elim (h2 x) (g2 x), by rw [FNL_app, g3, h3], OFF.tr (g4.mono fun k j hk => hk.le h5.1 (Nat.le_refl _) (Nat.le_refl _)) h4, by omega, fun p hp => ?_, fun H g hg hp => ⟨a1, h7 H g (fun j j1 j2 j3 => ?_) (fun p hq => hp p (List.mem_append_right _ hq)), g7 H g (fun j j1 j2 j3 => hg j (by omega) j2 (fun hq => ?_)) (fun p hq => hp p (List.mem_append_left _ hq))⟩⟩
  · rcases List.mem_append.mp hp with hp | hp
    · have := g6 p hp; omega
    · have := h6 p hp; omega
  · rw [hg j j1 (by omega) (fun hq => ?_), (g4 41 j (by unfold F2; omega)).2]
    rcases List.mem_append.mp hq with hq | hq
    · have := g6 j hq; omega
    · exact j3 hq
  · rcases List.mem_append.mp hq with hq | hq
    · exact j3 hq
    · have := h6 j hq; omega
/-- a jump that's to hang -/
theorem EFL.hang {x : Int64} (h : EC kd wr z fA lu lev pn base ob t a (a + 1) w u [] (fun b b' g => gl g 41 b = x ∧ b' = b + 1) 1) : EFL kd wr z fA lu lev pn base ob t a (a + 1) w u [a] [] (fun H b b' g => gl g 41 b = jwC 33 H ∧ b' = b + 1) 1 := by
  obtain ⟨h1, h2, h3, h4, h5, h6⟩ := h
  exact ⟨h1, h2, h3, h4, h5, fun p hp => by rw [List.mem_singleton.mp hp]; omega, fun H g hg hp => ⟨hp a List.mem_cons_self, rfl⟩⟩
/-- one jump to behind what's made next -/
theorem EFL.jmp {P : Nat → Nat → Nat → Wd → Prop} {ps : List Nat} {x : Int32} (h0 : EC kd wr z fA lu lev pn base ob t a (a + 1) w w1 [] (fun b b' g => gl g 41 b = wdC x 0 0 ∧ b' = b + 1) 1) (h : EFL kd wr z fA lu lev pn base ob t1 (a + 1) a1 w1 w2 ps L P B) (ha : a < 36872) (hx : Int64.toInt32 (wdC x 0 0 &&& 4194303) = 0) :
    ∃ y u, fX0_patch (Int32.ofNat a) w2 = (y, u) ∧ EFL kd wr z fA lu lev pn base ob t1 a a1 w u ps L (fun H b b' g => gl g 41 b = jwC x b' ∧ P H (b + 1) b' g) (B + 1) ∧ ∀ p, p ≠ a → gl u 41 p = gl w2 41 p := by
  obtain ⟨h1, h2, h3, h4, h5, h6, h7⟩ := h
  obtain ⟨g1, g2, g3, g4, g5, g6⟩ := h0
  have hw : gl w2 41 a = wdC x 0 0 := by
    rw [(h4 41 a (by unfold F2; omega)).2]
    exact (g6 w1 (fun _ _ _ => rfl)).1
  obtain ⟨y, p1, p2⟩ := GC2.patch h1 ha hw hx
  have hO : OFF (fun k j => k = 41 ∧ j = a) (sl w2 41 a (jwC x a1)) w2 := OFF.sl ⟨rfl, rfl⟩
  have hna : a ∉ ps := fun hq => by have := h6 a hq; omega
  refine ⟨y, _, p1, ⟨p2, h2, ?_, OFF.tr (hO.mono fun k j hk => by unfold F2; omega) (OFF.tr (h4.mono fun k j hk => hk.le (by omega) (Nat.le_refl _) (Nat.le_refl _)) g4), by omega, fun p hp => by have := h6 p hp; omega, fun H g hg hp => ⟨?_, ?_⟩⟩, fun p hp => (hO 41 p (by omega)).2⟩
  · show (gi _ 3 6, gi _ 3 7) = _
    rw [(hO 3 6 (by omega)).1, (hO 3 7 (by omega)).1]
    exact h3.trans (by rw [g3]; rfl)
  · rw [hg a (Nat.le_refl _) (by omega) hna, gl_sl0]
  · exact h7 H g (fun j j1 j2 j3 => by rw [hg j (by omega) j2 j3, (hO 41 j (by omega)).2]) hp
/-- all of them go here -/
theorem c_pall {ps : List Nat} {nn : Nat} (h1 : GC2 kd wr z fA lu lev pn t nn base ob u) (hl : LNKC u ps) (hd : ps.Nodup) (h6 : ∀ p ∈ ps, 0 < p ∧ p < 36872) (ha : nn ≤ 36872) (hn : ps.length ≤ 36000) : ∃ v, fX0_patchAll (Int32.ofNat (ps.headD 0)) u = some v ∧ GC2 kd wr z fA lu lev pn t nn base ob v ∧ OFF (fun k j => k = 41 ∧ j ∈ ps) v u ∧ ∀ p ∈ ps, gl v 41 p = jwC 33 nn := by
  have hlp : ∀ (qs ds : List Nat) (i fo : Nat) (x : Wd), ps = ds ++ qs → i + qs.length ≤ 36000 → LNKC x qs → GC2 kd wr z fA lu lev pn t nn base ob x → OFF (fun k j => k = 41 ∧ j ∈ ps) x u → (∀ p ∈ ds, gl x 41 p = jwC 33 nn) → ∃ v, oX0_patchAll_4 (fo + qs.length + 1) (Int32.ofNat (qs.headD 0)) (Int32.ofNat i) x = some v ∧ GC2 kd wr z fA lu lev pn t nn base ob v ∧ OFF (fun k j => k = 41 ∧ j ∈ ps) v u ∧ ∀ p ∈ ps, gl v 41 p = jwC 33 nn := by
    intro qs
    induction qs with
    | nil =>
      intro ds i fo x hp hi hL hG hO hD
      refine ⟨x, ?_, hG, hO, fun p hq => hD p (by rw [hp, List.append_nil] at hq; exact hq)⟩
      show fX0_patchAll_4 _ _ _ _ = _
      unfold fX0_patchAll_4
      exact if_pos rfl
    | cons p qs ih =>
      intro ds i fo x hp hi hL hG hO hD
      have hln : (p :: qs).length = qs.length + 1 := rfl
      have hpp : p ∈ ps := by rw [hp]; exact List.mem_append_right _ List.mem_cons_self
      have hpb := h6 p hpp
      have hq4 : qs.headD 0 < 4194304 := by
        cases qs with
        | nil => show 0 < 4194304; omega
        | cons q r =>
          have := h6 q (by rw [hp]; exact List.mem_append_right _ (List.mem_cons_of_mem _ List.mem_cons_self))
          show q < 4194304
          omega
      obtain ⟨p1, p2⟩ := GC2.patchN hG (p := p) (by omega) hq4 (by omega) hL.1
      have hd := hd
      rw [hp] at hd
      have hnd := (List.nodup_append.mp hd)
      have hO1 : OFF (fun k j => k = 41 ∧ j = p) (sl x 41 p (jwC 33 nn)) x := OFF.sl ⟨rfl, rfl⟩
      obtain ⟨v, v1, v2, v3, v4⟩ := ih (ds ++ [p]) (i + 1) fo (sl x 41 p (jwC 33 nn)) (by rw [hp]; simp) (by omega) (hL.2.agr (fun q hq => (hO1 41 q (fun e => by
        have := (List.nodup_cons.mp hnd.2.1).1
        rw [← e.2] at this
        exact this hq)).2)) p2 (OFF.tr (hO1.mono fun k j hk => ⟨hk.1, by rw [hk.2]; exact hpp⟩) hO) (fun q hq => by
          rcases List.mem_append.mp hq with hq | hq
          · rw [(hO1 41 q (fun e => by
              have := hnd.2.2 q hq p List.mem_cons_self
              exact this e.2)).2]
            exact hD q hq
          · rw [List.mem_singleton.mp hq, gl_sl0])
      refine ⟨v, ?_, v2, v3, v4⟩
      show fX0_patchAll_4 (oX0_patchAll_4 (fo + qs.length + 1)) (Int32.ofNat p) (Int32.ofNat i) x = _
      unfold fX0_patchAll_4
      rw [if_neg (show ¬ (Int32.ofNat p = 0) from of_ne (k := 0) (by omega) (by omega) (by omega)), if_neg (show ¬ ((36872 : Int32) ≤ Int32.ofNat i) from nle_iN (a := 36872) (by omega) (by omega)), p1, lt2q, ad1_iN, ltq]
      exact v1
  obtain ⟨fo, hf⟩ := FU_ge (k := ps.length + 1) (by omega)
  obtain ⟨v, v1, v2, v3, v4⟩ := hlp ps [] 0 fo u rfl (by omega) hl h1 OFF.rf (fun p hp => absurd hp (by simp))
  refine ⟨v, ?_, v2, v3, v4⟩
  unfold fX0_patchAll
  rw [hf, ← Nat.add_assoc]
  exact v1
/-- the jump out is made, then all of them go behind it -/
theorem EFL.exit {P : Nat → Nat → Nat → Wd → Prop} {ps : List Nat} {x : Int64} (h : EFL kd wr z fA lu lev pn base ob t a a1 w u ps L P B) (J : EC kd wr z fA lu lev pn base ob t a1 (a1 + 1) u w1 [] (fun b b' g => gl g 41 b = x ∧ b' = b + 1) 1) (hl : LNKC u ps) (hd : ps.Nodup) (ha0 : 0 < a) (ha : a1 < 36872) (hn : ps.length ≤ 36000) :
    ∃ v0 v, fX0_patchAll (Int32.ofNat (ps.headD 0)) w1 = some v ∧ EC kd wr z fA lu lev pn base ob t a a1 w v0 L (fun b b' g => P (b' + 1) b b' g) B ∧ EC kd wr z fA lu lev pn base ob t a1 (a1 + 1) v0 v [] (fun b b' g => gl g 41 b = x ∧ b' = b + 1) 1 := by
  obtain ⟨h1, h2, h3, h4, h5, h6, h7⟩ := h
  obtain ⟨j1, j2, j3, j4, j5, j6⟩ := J
  have hpl : ∀ p ∈ ps, gl w1 41 p = gl u 41 p := fun p hp => (j4 41 p (by have := h6 p hp; unfold F2; omega)).2
  obtain ⟨v, v1, v2, v3, v4⟩ := c_pall j1 (hl.agr hpl) hd (fun p hp => by have := h6 p hp; omega) (by omega) hn
  have hO : OFF (fun k j => k = 40 ∧ j = 1) (si v 40 1 (Int32.ofNat a1)) v := OFF.si ⟨rfl, rfl⟩
  have hO' : OFF (fun k j => k = 40 ∧ j = 1) v (si v 40 1 (Int32.ofNat a1)) := fun k j hk => ⟨(hO k j hk).1.symm, (hO k j hk).2.symm⟩
  have hOu : OFF (F2 a base ob) v u := OFF.tr (v3.mono fun k j hk => by have := h6 j hk.2; unfold F2; omega) (j4.mono fun k j hk => hk.le h5.1 (Nat.le_refl _) (Nat.le_refl _))
  have hFv : FLA v = FLA u := by
    show (gi _ 3 6, gi _ 3 7) = _
    rw [(v3 3 6 (fun e => absurd e.1 (by decide))).1, (v3 3 7 (fun e => absurd e.1 (by decide))).1]
    exact j3
  have h41 : ∀ j, gl (si v 40 1 (Int32.ofNat a1)) 41 j = gl v 41 j := fun j => rfl
  obtain ⟨c1, c2, c3, c4, c5, c6⟩ := v2
  refine ⟨si v 40 1 (Int32.ofNat a1), v, v1, ⟨⟨c1.off hO (fun k j hk => by omega), by rw [(hO 3 5 (by omega)).1]; exact c2, gi_si0 _ _ _ _, by rw [(hO 43 5 (by omega)).1]; exact c4, by rw [(hO 43 4 (by omega)).1]; exact c5, c6.off hO (fun k j hk => by omega)⟩, h2, ?_, OFF.tr (hO.mono fun k j hk => by unfold F2; omega) (OFF.tr hOu h4), h5, fun g hg => h7 (a1 + 1) g (fun j q1 q2 q3 => ?_) (fun p hp => ?_)⟩, ⟨⟨c1, c2, c3, c4, c5, c6⟩, j2, ?_, hO'.mono fun k j hk => by unfold F2; omega, by omega, fun g hg => ⟨?_, rfl⟩⟩⟩
  · show (gi _ 3 6, gi _ 3 7) = _
    rw [(hO 3 6 (by omega)).1, (hO 3 7 (by omega)).1]
    exact hFv.trans h3
  · rw [hg j q1 q2, h41, (v3 41 j (fun e => q3 e.2)).2, (j4 41 j (by unfold F2; omega)).2]
  · have := h6 p hp
    rw [hg p this.1 this.2, h41, v4 p hp]
  · show (gi _ 3 6, gi _ 3 7) = _
    rw [← (hO 3 6 (by omega)).1, ← (hO 3 7 (by omega)).1]
    rfl
  · rw [hg a1 (Nat.le_refl _) (by omega), (v3 41 a1 (fun e => by have := h6 a1 e.2; omega)).2]
    exact (j6 w1 (fun _ _ _ => rfl)).1
end EC
