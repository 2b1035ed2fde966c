/-! BOTH MACHINES TO THEIR ENDS -/
section GD
/-- k words of the class's machine -/
def TKS : Nat → Wd → Wd → Prop
  | 0, w, u => u = w
  | k + 1, w, u => gi w 48 10 = -2 ∧ ∃ v, fX3_tick w = some v ∧ TKS k v u
/-- the reference's machine doesn't stand -/
def RUNS (w : Wd) : Prop := gi w 0 140 = 0 ∧ inb (4 * (gi w 0 128)) 240000 = true ∧ gi w 60 (Int32.toNatClampNeg (4 * (gi w 0 128))) ≠ 0
/-- k codes of the reference's machine -/
def SPS : Nat → Wd → Wd → Prop
  | 0, w, u => u = w
  | k + 1, w, u => RUNS w ∧ ∃ v, fX12_step w = some v ∧ SPS k v u
variable {w u v wA wM uA uM vA vM : Wd} {i j k l B : Nat} {F : Int32 → Wd → Wd → Prop}
theorem TKS.tr : ∀ {k : Nat} {w : Wd}, TKS k w u → TKS l u v → TKS (k + l) w v := by
  intro k
  induction k with
  | zero =>
    intro w h g
    have h : u = w := h
    subst h
    rw [Nat.zero_add]; exact g
  | succ k ih =>
    intro w h g
    obtain ⟨h1, y, h2, h3⟩ := h
    rw [show k + 1 + l = (k + l) + 1 by omega]
    exact ⟨h1, y, h2, ih h3 g⟩
theorem TKS.one (h : gi w 48 10 = -2) (g : fX3_tick w = some u) : TKS 1 w u := ⟨h, u, g, rfl⟩
theorem SPS.tr : ∀ {k : Nat} {w : Wd}, SPS k w u → SPS l u v → SPS (k + l) w v := by
  intro k
  induction k with
  | zero =>
    intro w h g
    have h : u = w := h
    subst h
    rw [Nat.zero_add]; exact g
  | succ k ih =>
    intro w h g
    obtain ⟨h1, y, h2, h3⟩ := h
    rw [show k + 1 + l = (k + l) + 1 by omega]
    exact ⟨h1, y, h2, ih h3 g⟩
theorem SPS.one (h : RUNS w) (g : fX12_step w = some u) : SPS 1 w u := ⟨h, u, g, rfl⟩
theorem MK.runs {gM : Wd} {b ev sp cp na mt el us : Nat} {a x y z : Int32} (H : MK gM b ev sp cp na mt el us w) (ho : opW gM b a x y z) (hb : b < 60000) (ha : a ≠ 0) : RUNS w := ⟨H.2.1, stM_go H ho hb ha⟩
/-- from here both end alike: i: time, at most B; the class has done no more words, the reference no more than four times as many codes -/
def GOOD (B : Nat) (F : Int32 → Wd → Wd → Prop) (t : Nat) (wA wM : Wd) : Prop := ∀ i fA fM : Nat, i ≤ t → FU ≤ fA + i → FU ≤ fM + 4 * t → ∃ x uA uM, oX3_go_23 fA (Int64.ofNat B) (Int64.ofNat i) wA = some (x, uA) ∧ oX12_run_184 fM wM = some (x, uM) ∧ F x uA uM
theorem go_tk {i0 : Nat} (hB : B < 100000000000) : ∀ (k i f : Nat) (w : Wd), TKS k w u → i + k ≤ B → oX3_go_23 (f + k) (Int64.ofNat B) (Int64.ofNat i) w = oX3_go_23 f (Int64.ofNat B) (Int64.ofNat (i + k)) u := by
  intro k
  induction k with
  | zero =>
    intro i f w h hi
    have h : u = w := h
    subst h
    rfl
  | succ k ih =>
    intro i f w h hi
    obtain ⟨h1, y, h2, h3⟩ := h
    show fX3_go_23 (oX3_go_23 (f + k)) (Int64.ofNat B) (Int64.ofNat i) w = _
    unfold fX3_go_23
    rw [if_pos h1, if_neg (fun hh => absurd ((le64 (by omega) (by omega)).mp hh) (by omega)), h2, bn_so, show (1 : Int64) = Int64.ofNat 1 from rfl, i64_add, ltq, show i + (k + 1) = i + 1 + k by omega]
    exact ih (i + 1) f y h3 (by omega)
theorem run_st : ∀ (k f : Nat) (w : Wd), SPS k w u → oX12_run_184 (f + k) w = oX12_run_184 f u := by
  intro k
  induction k with
  | zero =>
    intro f w h
    have h : u = w := h
    subst h
    rfl
  | succ k ih =>
    intro f w h
    obtain ⟨⟨h1, h2, h3⟩, y, h4, h5⟩ := h
    show fX12_run_184 (oX12_run_184 (f + k)) w = _
    unfold fX12_run_184
    rw [if_pos h1, if_pos h2, if_neg h3, h4, bn_so]
    exact ih f y h5
theorem GOOD.adw {q : Nat} (hB : B < 100000000000) (h1 : TKS k wA uA) (h2 : SPS j wM uM) (hj : j ≤ 4 * q) (hk : k ≤ q) (hi : i + q ≤ B) (h : GOOD B F (i + q) uA uM) : GOOD B F i wA wM := by
  intro t fA fM g0 g1 g2
  have hF : FU = 1099511627776 := by decide
  obtain ⟨a, ha⟩ : ∃ a, fA = a + k := ⟨fA - k, by omega⟩
  obtain ⟨m, hm⟩ : ∃ m, fM = m + j := ⟨fM - j, by omega⟩
  subst ha
  subst hm
  rw [go_tk (i0 := 0) hB k t a wA h1 (by omega), run_st j m wM h2]
  exact h (t + k) a m (by omega) (by omega) (by omega)
theorem GOOD.adv (hB : B < 100000000000) (h1 : TKS k wA uA) (h2 : SPS j wM uM) (hj : j ≤ 4 * k) (hi : i + k ≤ B) (h : GOOD B F (i + k) uA uM) : GOOD B F i wA wM := GOOD.adw hB h1 h2 hj (Nat.le_refl _) hi h
/-- the reference stands: with f (the class's word for it) -/
def ENDM (f : Int32) (w : Wd) : Prop := (gi w 0 140 = 100 ∧ f = -1) ∨ (gi w 0 140 = f ∧ f ≠ 0 ∧ f ≠ 100) ∨ (f = 0 ∧ gi w 0 140 = 0 ∧ inb (4 * (gi w 0 128)) 240000 = true ∧ gi w 60 (Int32.toNatClampNeg (4 * (gi w 0 128))) = 0)
theorem GOOD.fin {f : Int32} (hB : B < 100000000000) (hi : i ≤ B) (h1 : ENDA f wA) (h2 : ENDM f wM) (h : F f wA wM) : GOOD B F i wA wM := by
  intro t fA fM g0 g1 g2
  have hF : FU = 1099511627776 := by decide
  obtain ⟨a, ha⟩ : ∃ a, fA = a + 1 := ⟨fA - 1, by omega⟩
  obtain ⟨m, hm⟩ : ∃ m, fM = m + 1 := ⟨fM - 1, by omega⟩
  subst ha
  subst hm
  refine ⟨f, wA, wM, ?_, ?_, h⟩
  · show fX3_go_23 (oX3_go_23 a) _ _ _ = _
    unfold fX3_go_23 fX3_go_52
    rw [if_neg (fun hh => h1.2 (h1.1.symm.trans hh)), if_neg (fun hh => h1.2 (h1.1.symm.trans hh)), h1.1]
  · show fX12_run_184 (oX12_run_184 m) _ = _
    unfold fX12_run_184
    rcases h2 with ⟨q1, q2⟩ | ⟨q1, q2, q3⟩ | ⟨q1, q2, q3, q4⟩
    · rw [if_neg (by rw [q1]; decide), if_pos q1, q2]
    · rw [if_neg (by rw [q1]; exact q2), if_neg (by rw [q1]; exact q3), q1]
    · rw [if_pos q2, if_pos q3, if_pos q4, if_neg (by rw [q2]; decide), q2, q1]
end GD
