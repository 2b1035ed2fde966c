/-! THE CLASS'S MACHINE: what a word does (6): setting, frames -/
section M5
variable {gA : Wd} {N a fr tp h dp el a1 fr1 tp1 h1 dp1 el1 al sp pr de fu : Nat} {w u v : Wd}
theorem CK.st50 (H : CK gA N a fr tp h dp el w) {x : Nat} {v : Int64} : CK gA N a fr tp h dp el (sl w 50 x v) :=
  H.nw (OFF.sl (Or.inr (Nat.le_refl _))) H.2.2.1 H.2.2.2.1 H.2.2.2.2.1 H.2.2.2.2.2.1 H.2.2.2.2.2.2.1 H.2.2.2.2.2.2.2.1 H.2.2.2.2.2.2.2.2

/-- cells set to v, one after the other -/
def setW : List Nat → Int64 → Wd → Wd
  | [], _, w => w
  | x :: r, v, w => setW r v (sl w 50 x v)
theorem setW_off {Q : Nat → Nat → Prop} {v : Int64} : ∀ (r : List Nat) (w : Wd), (∀ x ∈ r, Q 50 x) → OFF Q (setW r v w) w := by
  intro r
  induction r with
  | nil => exact fun _ _ => OFF.rf
  | cons x r ih => exact fun w h => OFF.tr (ih _ (fun y hy => h y (List.mem_cons_of_mem _ hy))) (OFF.sl (h x List.mem_cons_self))
theorem asg_lp {v : Int64} : ∀ (xs : List Nat) (i fo : Nat) (w : Wd), CK gA N a fr tp (h + xs.length) dp el w → (∀ q x, xs[q]? = some x → gl w 51 (h + xs.length - 1 - q) = Int64.ofNat x ∧ x < tp) → i + xs.length ≤ 100000 →
    oX3_assign_8 (fo + xs.length + 1) (Int32.ofNat (i + xs.length)) v (Int32.ofNat i) w = some (setW xs v (if xs = [] then w else si w 48 14 (Int32.ofNat h))) := by
  intro xs
  induction xs with
  | nil =>
    intro i fo w H hx hi
    have hi : i + 0 ≤ 100000 := hi
    show fX3_assign_8 _ (Int32.ofNat (i + 0)) _ _ _ = _
    unfold fX3_assign_8
    rw [if_pos ((le_iN (a := i + 0) (b := i) (by omega) (by omega)).mpr (by omega)), if_pos rfl]
    rfl
  | cons x xs ih =>
    intro i fo w H hx hi
    have hl : (x :: xs).length = xs.length + 1 := rfl
    rw [hl] at H hx hi ⊢
    have hb := H.2.2.2.2.2.2.2.2.2.2.1
    show fX3_assign_8 (oX3_assign_8 (fo + xs.length + 1)) _ _ _ _ = _
    unfold fX3_assign_8
    obtain ⟨x1, x2⟩ := hx 0 x rfl
    rw [show h + (xs.length + 1) - 1 - 0 = h + xs.length by omega] at x1
    have H1 : CK gA N a fr tp (h + xs.length) dp el (si w 48 14 (Int32.ofNat (h + xs.length))) := H.ps (h0 := 0) (OFF.si (Or.inl ⟨rfl, Or.inr rfl⟩)) (by rw [gi_si1 (by omega)]; exact H.2.2.1) (gi_si0 _ _ _ _) (by omega)
    rw [if_neg (nle_iN (by omega) (by omega)), pop_ok (h := h + xs.length) H.2.2.2.2.2.1 (by omega), lt2q, x1, H1.write x2, ltq, ad1_iN, ltq, show i + (xs.length + 1) = i + 1 + xs.length by omega]
    rw [ih (i + 1) fo _ H1.st50 (fun q y hy => ?_) (by omega), if_neg (show ¬ (x :: xs = []) by simp)]
    · show some (setW xs v (if xs = [] then sl (si w 48 14 (Int32.ofNat (h + xs.length))) 50 x v else si (sl (si w 48 14 (Int32.ofNat (h + xs.length))) 50 x v) 48 14 (Int32.ofNat h))) = some (setW xs v (sl (si w 48 14 (Int32.ofNat h)) 50 x v))
      by_cases q : xs = []
      · subst q
        rfl
      · rw [if_neg q]
        have e : si (sl (si w 48 14 (Int32.ofNat (h + xs.length))) 50 x v) 48 14 (Int32.ofNat h) = sl (si w 48 14 (Int32.ofNat h)) 50 x v := by
          show (_ : Wd) = _
          refine Prod.ext ?_ ?_
          · funext k j
            show (if k = 48 ∧ j = 14 then Int32.ofNat h else if k = 48 ∧ j = 14 then Int32.ofNat (h + xs.length) else gi w k j) = if k = 48 ∧ j = 14 then Int32.ofNat h else gi w k j
            by_cases q1 : k = 48 ∧ j = 14
            · rw [if_pos q1, if_pos q1]
            · rw [if_neg q1, if_neg q1, if_neg q1]
          · rfl
        rw [e]
    · obtain ⟨y1, y2⟩ := hx (q + 1) y (by simpa using hy)
      have hq : q < xs.length := by
        rcases Nat.lt_or_ge q xs.length with g | g
        · exact g
        · rw [List.getElem?_eq_none g] at hy
          exact absurd hy (by simp)
      rw [gl_sl1 (by omega), gl_si, show h + xs.length - 1 - q = h + (xs.length + 1) - 1 - (q + 1) by omega]
      exact ⟨y1, y2⟩
/-- STORE: the places lie below the value, the last first in the list -/
theorem k_store {xs : List Nat} (H : CK gA N a fr tp (h + xs.length + 1) dp el w) (ha : a < N) (hw : gl gA 41 a = wdC 26 0 (Int32.ofNat xs.length)) (hx : ∀ q x, xs[q]? = some x → gl w 51 (h + xs.length - 1 - q) = Int64.ofNat x ∧ x < tp) (hl : xs.length < 90000) (hl1 : 1 ≤ xs.length) : fX3_tick w = some (setW xs (gl w 51 (h + xs.length)) (si (popW w (a + 1) (h + xs.length)) 48 14 (Int32.ofNat h))) := by
  have hb := H.2.2.2.2.2.2.2.2.2.2.1
  have H1 : CK gA N (a + 1) fr tp (h + xs.length) dp el (popW w (a + 1) (h + xs.length)) := popW_ck H (by omega)
  rw [tk_move (x := 26) (y := 0) (c := xs.length) H ha hw (by omega) (by omega) (by omega)]
  unfold fX3_move fX3_assign
  rw [if_neg (show ¬ (Int32.ofNat 26 = 16) by decide), if_neg (show ¬ (Int32.ofNat 26 = 17) by decide), if_neg (show ¬ (Int32.ofNat 26 = 18) by decide), if_neg (show ¬ (Int32.ofNat 26 = 19) by decide), if_neg (show ¬ (Int32.ofNat 26 = 20) by decide), if_neg (show ¬ (Int32.ofNat 26 = 21) by decide), if_neg (show ¬ (Int32.ofNat 26 = 22) by decide), if_neg (show ¬ (Int32.ofNat 26 = 23) by decide), if_neg (show ¬ (Int32.ofNat 26 = 24) by decide), if_neg (show ¬ (Int32.ofNat 26 = 25) by decide), if_pos (show Int32.ofNat 26 = 26 from rfl), pop_ok (h := h + xs.length) (by rw [gi_si1 (by omega)]; exact H.2.2.2.2.2.1) (by omega), gl_si, lt2q]
  obtain ⟨fo, hf⟩ := FU_ge (k := xs.length + 1) (by omega)
  rw [hf, ← Nat.add_assoc]
  have := asg_lp (v := gl w 51 (h + xs.length)) xs 0 fo (popW w (a + 1) (h + xs.length)) H1 (fun q x hq => hx q x hq) (by omega)
  rw [Nat.zero_add] at this
  have e : si (si w 48 11 (Int32.ofNat (a + 1))) 48 14 (Int32.ofNat (h + xs.length)) = popW w (a + 1) (h + xs.length) := rfl
  rw [e]
  refine (congrArg (fun x => bn x fun w54 => some w54) this).trans ?_
  rw [bn_so, if_neg (fun q => by rw [q] at hl1; exact absurd hl1 (by simp))]
/-- PRINT -/
theorem k_print (H : CK gA N a fr tp (h + 1) dp el w) (T : TLY al sp pr de fu w) (ha : a < N) (hw : gl gA 41 a = wdC 28 0 0) : fX3_tick w = some (si (if pr < 500 then sl (popW w (a + 1) h) 55 pr (gl w 51 h) else popW w (a + 1) h) 56 3 (Int32.ofNat (pr + 1))) := by
  have hb := H.2.2.2.2.2.2.2.2.2.2.1
  obtain ⟨t1, t2, t3, t4, t5, t6, t7, t8, t9, t10⟩ := T
  rw [tk_move (x := 28) (y := 0) (c := 0) H ha hw (by omega) (by omega) (by omega)]
  unfold fX3_move fX3_print
  rw [if_neg (show ¬ (Int32.ofNat 28 = 16) by decide), if_neg (show ¬ (Int32.ofNat 28 = 17) by decide), if_neg (show ¬ (Int32.ofNat 28 = 18) by decide), if_neg (show ¬ (Int32.ofNat 28 = 19) by decide), if_neg (show ¬ (Int32.ofNat 28 = 20) by decide), if_neg (show ¬ (Int32.ofNat 28 = 21) by decide), if_neg (show ¬ (Int32.ofNat 28 = 22) by decide), if_neg (show ¬ (Int32.ofNat 28 = 23) by decide), if_neg (show ¬ (Int32.ofNat 28 = 24) by decide), if_neg (show ¬ (Int32.ofNat 28 = 25) by decide), if_neg (show ¬ (Int32.ofNat 28 = 26) by decide), if_neg (show ¬ (Int32.ofNat 28 = 27) by decide), if_pos (show Int32.ofNat 28 = 28 from rfl), pop_ok (h := h) (by rw [gi_si1 (by omega)]; exact H.2.2.2.2.2.1) (by omega), gl_si, lt2q]
  have e : si (si w 48 11 (Int32.ofNat (a + 1))) 48 14 (Int32.ofNat h) = popW w (a + 1) h := rfl
  rw [e]
  have h3 : ∀ y : Wd, gi y 56 3 = Int32.ofNat pr → fX3_tally 3 y = Int32.ofNat pr := fun y hy => (tal_ok (j := 3) (by omega) (by omega)).trans hy
  have c3 : ∀ y : Wd, gi y 56 3 = Int32.ofNat pr → fX3_countOne 3 y = si y 56 3 (Int32.ofNat (pr + 1)) := fun y hy => by
    unfold fX3_countOne
    rw [h3 y hy, ltq, ltq, ad1_iN, show (3 : Int32) = Int32.ofNat 3 from rfl, rsi_iN (by omega) (by omega)]
  have p3 : gi (popW w (a + 1) h) 56 3 = Int32.ofNat pr := (popW_off 56 3 (by omega)).1.trans t3
  rw [h3 _ p3, ltq, ltq, ltq, ltq]
  by_cases q : pr < 500
  · rw [if_pos q, rsl_iN q (by omega)]
    dsimp only
    rw [c3 _ (show gi (sl (popW w (a + 1) h) 55 pr (gl w 51 h)) 56 3 = Int32.ofNat pr from p3)]
  · rw [if_neg q]
    have e2 : rsl (popW w (a + 1) h) 55 500 (Int32.ofNat pr) (gl w 51 h) = popW w (a + 1) h := by
      unfold rsl
      rw [if_neg]
      rw [inb_iNn (by omega) (by omega)]
      decide
    dsimp only
    rw [e2, c3 _ p3]
/-- CLEAR -/
def clrW : Nat → Nat → Wd → Wd
  | _, 0, w => w
  | x, n + 1, w => clrW (x + 1) n (sl w 50 x 0)
theorem clrW_off {Q : Nat → Nat → Prop} : ∀ (n x : Nat) (w : Wd), (∀ j, x ≤ j → j < x + n → Q 50 j) → OFF Q (clrW x n w) w := by
  intro n
  induction n with
  | zero => exact fun _ _ _ => OFF.rf
  | succ n ih => exact fun x w h => OFF.tr (ih (x + 1) _ (fun j h1 h2 => h j (by omega) (by omega))) (OFF.sl (h x (Nat.le_refl _) (by omega)))
theorem clrW_v : ∀ (n x : Nat) (w : Wd) (j : Nat), x ≤ j → j < x + n → gl (clrW x n w) 50 j = 0 := by
  intro n
  induction n with
  | zero => intro x w j h1 h2; omega
  | succ n ih =>
    intro x w j h1 h2
    by_cases q : j = x
    · rw [q]
      exact ((clrW_off (Q := fun k i => k = 50 ∧ x + 1 ≤ i) n (x + 1) _ (fun i g _ => ⟨rfl, g⟩)) 50 x (by omega)).2.trans (gl_sl0 _ _ _ _)
    · exact ih (x + 1) _ j (by omega) (by omega)
theorem clr_lp {s : Nat} : ∀ (n i fo : Nat) (w : Wd), CK gA N a fr tp h dp el w → fr + s + i + n ≤ tp → i + n ≤ 100000 → oX3_clear_2 (fo + n + 1) (Int32.ofNat s) (Int32.ofNat (i + n)) (Int32.ofNat i) w = some (clrW (fr + s + i) n w) := by
  intro n
  induction n with
  | zero =>
    intro i fo w H h1 h2
    show fX3_clear_2 _ _ _ _ _ = _
    unfold fX3_clear_2
    rw [if_pos ((le_iN (by omega) (by omega)).mpr (by omega))]
    rfl
  | succ n ih =>
    intro i fo w H h1 h2
    have ht := H.2.2.2.2.2.2.2.2.2.1
    show fX3_clear_2 (oX3_clear_2 (fo + n + 1)) _ _ _ _ = _
    unfold fX3_clear_2
    rw [if_neg (nle_iN (by omega) (by omega)), H.2.2.2.1, add_iN, add_iN, i64_iN (by omega), H.write (by omega), ltq, ad1_iN, ltq, show i + (n + 1) = i + 1 + n by omega, ih (i + 1) fo _ H.st50 (by omega) (by omega)]
    rfl
theorem sh11 {s n : Nat} (hs : s < 2048) (hn : n < 2048) : ((Int32.ofNat s <<< (11 &&& 31)) ||| Int32.ofNat n) = Int32.ofNat (s * 2048 + n) := by
  apply Int32.toBitVec_inj.mp
  rw [Int32.toBitVec_or, Int32.toBitVec_shiftLeft]
  have e11 : ((11 : Int32) &&& 31).toBitVec.smod 32 = 11#32 := by decide
  rw [e11]
  show (BitVec.ofNat 32 s <<< 11#32 ||| BitVec.ofNat 32 n) = BitVec.ofNat 32 (s * 2048 + n)
  apply BitVec.eq_of_toNat_eq
  rw [BitVec.toNat_or, BitVec.shiftLeft_eq', BitVec.toNat_shiftLeft, BitVec.toNat_ofNat, BitVec.toNat_ofNat, BitVec.toNat_ofNat, BitVec.toNat_ofNat, Nat.mod_eq_of_lt (show s < 2 ^ 32 by omega), Nat.mod_eq_of_lt (show n < 2 ^ 32 by omega), show 11 % 2 ^ 32 = 11 from rfl]
  have s1 : s <<< 11 % 2 ^ 32 = s <<< 11 := by
    rw [Nat.shiftLeft_eq]
    exact Nat.mod_eq_of_lt (by omega)
  rw [s1, ← Nat.shiftLeft_add_eq_or_of_lt (show n < 2 ^ 11 by omega), Nat.shiftLeft_eq]
  omega
theorem sr11 {s n : Nat} (hs : s < 2048) (hn : n < 2048) : Int32.ofNat (s * 2048 + n) >>> (11 &&& 31) = Int32.ofNat s ∧ Int32.ofNat (s * 2048 + n) &&& 2047 = Int32.ofNat n := by
  constructor
  · apply Int32.toBitVec_inj.mp
    rw [Int32.toBitVec_shiftRight]
    have e11 : ((11 : Int32) &&& 31).toBitVec.smod 32 = 11#32 := by decide
    rw [e11]
    show (BitVec.ofNat 32 (s * 2048 + n)).sshiftRight (11#32).toNat = BitVec.ofNat 32 s
    have hm : (BitVec.ofNat 32 (s * 2048 + n)).msb = false := by
      rw [BitVec.msb_eq_decide, BitVec.toNat_ofNat, Nat.mod_eq_of_lt (by omega)]
      simp
      omega
    rw [BitVec.sshiftRight_eq_of_msb_false hm]
    apply BitVec.eq_of_toNat_eq
    rw [BitVec.toNat_ushiftRight, BitVec.toNat_ofNat, BitVec.toNat_ofNat, Nat.shiftRight_eq_div_pow, BitVec.toNat_ofNat, show 11 % 2 ^ 32 = 11 from rfl]
    omega
  · apply Int32.toBitVec_inj.mp
    show (BitVec.ofNat 32 (s * 2048 + n)) &&& 2047#32 = BitVec.ofNat 32 n
    apply BitVec.eq_of_toNat_eq
    rw [BitVec.toNat_and, BitVec.toNat_ofNat, BitVec.toNat_ofNat, BitVec.toNat_ofNat, show (2047 % 2 ^ 32) = 2 ^ 11 - 1 by decide, Nat.and_two_pow_sub_one_eq_mod]
    omega
theorem k_clear {s n : Nat} (H : CK gA N a fr tp h dp el w) (ha : a < N) (hw : gl gA 41 a = wdC 29 0 ((Int32.ofNat s <<< (11 &&& 31)) ||| Int32.ofNat n)) (hs : s < 2048) (hn : n < 2048) (hx : fr + s + n ≤ tp) : fX3_tick w = some (clrW (fr + s) n (si w 48 11 (Int32.ofNat (a + 1)))) := by
  obtain ⟨r1, r2⟩ := sr11 hs hn
  rw [sh11 hs hn] at hw
  rw [tk_move (x := 29) (y := 0) (c := s * 2048 + n) H ha hw (by omega) (by omega) (by omega)]
  unfold fX3_move fX3_clear
  rw [if_neg (show ¬ (Int32.ofNat 29 = 16) by decide), if_neg (show ¬ (Int32.ofNat 29 = 17) by decide), if_neg (show ¬ (Int32.ofNat 29 = 18) by decide), if_neg (show ¬ (Int32.ofNat 29 = 19) by decide), if_neg (show ¬ (Int32.ofNat 29 = 20) by decide), if_neg (show ¬ (Int32.ofNat 29 = 21) by decide), if_neg (show ¬ (Int32.ofNat 29 = 22) by decide), if_neg (show ¬ (Int32.ofNat 29 = 23) by decide), if_neg (show ¬ (Int32.ofNat 29 = 24) by decide), if_neg (show ¬ (Int32.ofNat 29 = 25) by decide), if_neg (show ¬ (Int32.ofNat 29 = 26) by decide), if_neg (show ¬ (Int32.ofNat 29 = 27) by decide), if_neg (show ¬ (Int32.ofNat 29 = 28) by decide), r1, r2]
  obtain ⟨fo, hf⟩ := FU_ge (k := n + 1) (by omega)
  rw [hf, ← Nat.add_assoc]
  have := clr_lp (s := s) n 0 fo (si w 48 11 (Int32.ofNat (a + 1))) (H.nx (a + 1)) (by omega) (by omega)
  rw [Nat.zero_add, Nat.add_zero] at this
  rw [show (0 : Int32) = Int32.ofNat 0 from rfl, this, bn_so, Nat.add_zero]
end M5
