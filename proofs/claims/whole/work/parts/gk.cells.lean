/-! BOTH MACHINES: cells that belong together -/
section GH
/-- values of a TYPE -/
def VT (ty : Int32) (v : Int64) : Prop := (ty = 2 ∧ (v = 0 ∨ v = 1)) ∨ (ty = 1 ∧ R36 v)
theorem VT.r {ty : Int32} {v : Int64} (h : VT ty v) : R36 v := by
  rcases h with ⟨_, h | h⟩ | ⟨_, h⟩
  · rw [h]; exact R36.nat (n := 0) (by omega)
  · rw [h]; exact R36.nat (n := 1) (by omega)
  · exact h
theorem VT.z {ty : Int32} (h : ty = 1 ∨ ty = 2) : VT ty 0 := by
  rcases h with h | h
  · exact Or.inr ⟨h, R36.nat (n := 0) (by omega)⟩
  · exact Or.inl ⟨h, Or.inl rfl⟩
/-- the reference's word q: of memory, or an ELEMENT -/
def RMq (w : Wd) (q : Nat) : Int64 := if q < 1048576 then gl w 83 q else gl w 84 (q - 1048576)
/-- the reference's word q set -/
def WMq (w : Wd) (q : Nat) (v : Int64) : Wd := if q < 1048576 then sl w 83 q v else sl w 84 (q - 1048576) v
theorem RM_WM {w : Wd} {q r : Nat} {v : Int64} : RMq (WMq w q v) r = if r = q then v else RMq w r := by
  unfold RMq WMq
  by_cases q1 : q < 1048576
  · rw [if_pos q1]
    by_cases r1 : r < 1048576
    · rw [if_pos r1, if_pos r1]
      by_cases e : r = q
      · rw [e, if_pos rfl, gl_sl0]
      · rw [if_neg e, gl_sl1 (by omega)]
    · rw [if_neg r1, if_neg r1, if_neg (by omega), gl_sl1 (by omega)]
  · rw [if_neg q1]
    by_cases r1 : r < 1048576
    · rw [if_pos r1, if_pos r1, if_neg (by omega), gl_sl1 (by omega)]
    · rw [if_neg r1, if_neg r1]
      by_cases e : r = q
      · rw [e, if_pos rfl, gl_sl0]
      · rw [if_neg e, gl_sl1 (by omega)]
/-- cells: kind 0: of a TYPE, the same on both sides; 1: fixed on both; 2: fixed, the class's alone; 3: fixed, the reference's alone; x: the class's word, q: the reference's -/
abbrev GHO : Type := Nat → Nat → Nat → Int32 → Int64 → Int64 → Prop
def MEM (G : GHO) (wA wM : Wd) : Prop := ∀ k x q ty va vm, G k x q ty va vm → (k = 0 → gl wA 50 x = RMq wM q ∧ VT ty (gl wA 50 x)) ∧ (k = 1 ∨ k = 2 → gl wA 50 x = va) ∧ (k = 1 ∨ k = 3 → RMq wM q = vm)
/-- no word twice; bounds -/
def DIS (G : GHO) (tp mt el : Nat) : Prop :=
  (∀ k x q ty va vm k' x' q' ty' va' vm', G k x q ty va vm → G k' x' q' ty' va' vm' → k ≤ 2 → k' ≤ 2 → x = x' → k = k' ∧ q = q' ∧ ty = ty' ∧ va = va' ∧ vm = vm') ∧
  (∀ k x q ty va vm k' x' q' ty' va' vm', G k x q ty va vm → G k' x' q' ty' va' vm' → k ≠ 2 → k' ≠ 2 → q = q' → k = k' ∧ x = x' ∧ ty = ty' ∧ va = va' ∧ vm = vm') ∧
  (∀ k x q ty va vm, G k x q ty va vm → k ≤ 3 ∧ (k ≤ 2 → x < tp ∧ (x < 6096 → k = 0 ∧ (4096 ≤ x → q + 4096 = 1048576 + x))) ∧ (k ≠ 2 → (q < mt ∧ q < 1048576) ∨ (1048576 ≤ q ∧ q < 1048576 + el ∧ k = 0)) ∧ (k = 0 → ty = 1 ∨ ty = 2))
variable {G G' : GHO} {wA wM uA uM : Wd} {tp mt el x q : Nat} {ty : Int32} {v va vm : Int64}
theorem MEM.sub (h : MEM G wA wM) (hs : ∀ k x q ty va vm, G' k x q ty va vm → G k x q ty va vm) : MEM G' wA wM := fun k x q ty va vm g => h k x q ty va vm (hs _ _ _ _ _ _ g)
theorem DIS.sub (h : DIS G tp mt el) (hs : ∀ k x q ty va vm, G' k x q ty va vm → G k x q ty va vm) {tp' mt' el' : Nat} (hb : ∀ k x q ty va vm, G' k x q ty va vm → (k ≤ 2 → x < tp') ∧ (k ≠ 2 → (q < mt' ∧ mt' ≤ 1048576) ∨ (1048576 ≤ q ∧ q < 1048576 + el'))) : DIS G' tp' mt' el' :=
  ⟨fun k x q ty va vm k' x' q' ty' va' vm' g g' => h.1 _ _ _ _ _ _ _ _ _ _ _ _ (hs _ _ _ _ _ _ g) (hs _ _ _ _ _ _ g'), fun k x q ty va vm k' x' q' ty' va' vm' g g' => h.2.1 _ _ _ _ _ _ _ _ _ _ _ _ (hs _ _ _ _ _ _ g) (hs _ _ _ _ _ _ g'), fun k x q ty va vm g => by
    obtain ⟨h1, h2, h3, h4⟩ := h.2.2 _ _ _ _ _ _ (hs _ _ _ _ _ _ g)
    obtain ⟨b1, b2⟩ := hb _ _ _ _ _ _ g
    refine ⟨h1, fun hk => ⟨b1 hk, (h2 hk).2⟩, fun hk => ?_, h4⟩
    rcases h3 hk with c | c
    · rcases b2 hk with b | b
      · exact Or.inl ⟨b.1, c.2⟩
      · omega
    · rcases b2 hk with b | b
      · omega
      · exact Or.inr ⟨b.1, b.2, c.2.2⟩⟩
/-- worlds that agree where cells lie -/
theorem MEM.agr (h : MEM G wA wM) (hA : ∀ k x q ty va vm, G k x q ty va vm → k ≤ 2 → gl uA 50 x = gl wA 50 x) (hM : ∀ k x q ty va vm, G k x q ty va vm → k ≠ 2 → RMq uM q = RMq wM q) : MEM G uA uM := fun k x q ty va vm g => by
  obtain ⟨h1, h2, h3⟩ := h k x q ty va vm g
  refine ⟨fun hk => ?_, fun hk => ?_, fun hk => ?_⟩
  · rw [hA _ _ _ _ _ _ g (by omega), hM _ _ _ _ _ _ g (by omega)]; exact h1 hk
  · rw [hA _ _ _ _ _ _ g (by omega)]; exact h2 hk
  · rw [hM _ _ _ _ _ _ g (by omega)]; exact h3 hk
/-- a cell is set -/
theorem MEM.set (h : MEM G wA wM) (hD : DIS G tp mt el) (g : G 0 x q ty va vm) (hv : VT ty v) : MEM G (sl wA 50 x v) (WMq wM q v) := fun k' x' q' ty' va' vm' g' => by
  obtain ⟨h1, h2, h3⟩ := h _ _ _ _ _ _ g'
  have e1 : k' ≤ 2 → x' = x → k' = 0 ∧ q' = q ∧ ty' = ty := fun hk e => by
    have := hD.1 _ _ _ _ _ _ _ _ _ _ _ _ g g' (by omega) hk e.symm
    exact ⟨this.1.symm, this.2.1.symm, this.2.2.1.symm⟩
  have e2 : k' ≠ 2 → q' = q → k' = 0 ∧ x' = x ∧ ty' = ty := fun hk e => by
    have := hD.2.1 _ _ _ _ _ _ _ _ _ _ _ _ g g' (by omega) hk e.symm
    exact ⟨this.1.symm, this.2.1.symm, this.2.2.1.symm⟩
  refine ⟨fun hk => ?_, fun hk => ?_, fun hk => ?_⟩
  · rw [RM_WM]
    by_cases e : x' = x
    · obtain ⟨c1, c2, c3⟩ := e1 (by omega) e
      rw [e, gl_sl0, if_pos c2, c3]
      exact ⟨rfl, hv⟩
    · rw [gl_sl1 (by omega), if_neg (fun c => e (e2 (by omega) c).2.1)]
      exact h1 hk
  · rw [gl_sl1 (fun c => by have := e1 (by omega) c.2; omega)]
    exact h2 hk
  · rw [RM_WM, if_neg (fun c => by have := e2 (by omega) c; omega)]
    exact h3 hk
end GH
