/-! WHAT STANDS BESIDE BOTH SIDES: the statics of throws, the strings by the places from 600 on, the links of the string constants -/
def spl (i : Nat) : Nat := if i < 29 then 600 + i else 671 + i
def wtx : List Int32 := [98, 101, 103, 105, 110, 32, 101, 110, 100, 32, 111, 119, 110, 32, 105, 110, 116, 101, 103, 101, 114, 32, 98, 111, 111, 108, 101, 97, 110, 32, 97, 114, 114, 97, 121, 32, 112, 114, 111, 99, 101, 100, 117, 114, 101, 32, 118, 97, 108, 117, 101, 32, 108, 97, 98, 101, 108, 32, 115, 119, 105, 116, 99, 104, 32, 103, 111, 116, 111, 32, 105, 102, 32, 116, 104, 101, 110, 32, 101, 108, 115, 101, 32, 102, 111, 114, 32, 100, 111, 32, 115, 116, 101, 112, 32, 117, 110, 116, 105, 108, 32, 119, 104, 105, 108, 101, 32, 116, 114, 117, 101, 32, 102, 97, 108, 115, 101, 32, 97, 110, 100, 32, 111, 114, 32, 105, 109, 112, 108, 32, 101, 113, 117, 105, 118, 32, 110, 111, 116, 32, 100, 105, 118, 32, 109, 111, 100, 32, 112, 114, 105, 110, 116, 32]
def sbl (i : Nat) : Nat := if i < 29 then (wdl i).length else if i = 29 then 14 else wtx.length
def sbf (i : Nat) : Nat → Int32 := if i < 29 then fun j => (wdl i).getD j 0 else if i = 29 then sgb else fun j => wtx.getD j 0
def sioV (nz : Bool) (t : Nat) : Value := if nz = true then .null else .ref t
def LKS (hi : Nat → Nat) (U : State) : Prop := vk_R RX9 111 "+-*^<=>,;:()[]" (hi 700) U ∧ vk_R RX9 37 "begin end own integer boolean array procedure value label switch goto if then else for do step until while true false and or impl equiv not div mod print " (hi 701) U ∧ vk_R RX12 438 "+-*^<=>,;:()[]" (hi 700) U ∧ ∀ i, i < 29 → vk_R RX12 (wdx i) (wdt i) (hi (600 + i)) U
def EB (F : Nat → Prop) (hi : Nat → Nat) (nz : Bool) (U : State) (H : Heap) : Prop :=
  ENV F U H ∧ (∀ i, i < 31 → va_O "java/lang/String" (hi (spl i)) F U H ∧ va_OF "java/lang/String" "coder" "B" (.int 0) (hi (spl i)) F U H ∧ va_OF "java/lang/String" "value" "[B" (.ref (hi (spl i + 1000))) (hi (spl i)) F U H ∧ va_T .byte (hi (spl i + 1000)) (sbl i) (fun j => .int (sbf i j)) F U H) ∧ va_Z "java/lang/String" "COMPACT_STRINGS" "Z" (.int 1) F U H ∧ va_Z "jdk/internal/util/Preconditions" "SIOOBE_FORMATTER" "Ljava/util/function/BiFunction;" (sioV nz (hi 998)) F U H ∧ va_AO "java/lang/String" U ∧ LKS hi U
theorem EB.warm {F : Nat → Prop} {hi : Nat → Nat} {nz : Bool} {u U : State} {H : Heap} (hW : u.WarmedH U.vm) (h : EB F hi nz u H) : EB F hi nz U H := by
  obtain ⟨h1, h2, h3, h4, h5, l1, l2, l3, l4⟩ := h
  exact ⟨h1.alike hW.alike, fun i hi => ⟨va_O.moved hW.alike (h2 i hi).1, va_OF.moved hW.alike (h2 i hi).2.1, va_OF.moved hW.alike (h2 i hi).2.2.1, va_T.moved hW.alike (h2 i hi).2.2.2⟩, va_Z.moved hW.alike h3, va_Z.moved hW.alike h4, va_AO.moved hW.alike h5, l1.warm hW, l2.warm hW, l3.warm hW, fun i hi => (l4 i hi).warm hW⟩
theorem EB.kept {F : Nat → Prop} {hi : Nat → Nat} {nz : Bool} {U : State} {H H1 : Heap} (h : EB F hi nz U H) (hq : ∀ a : Nat, a < H.size → ¬ F a → H1[a]? = H[a]?) : EB F hi nz U H1 := by
  obtain ⟨h1, h2, h3, h4, h5, h6⟩ := h
  exact ⟨h1.kept hq, fun i hi => ⟨va_O.kept (h2 i hi).1 hq, va_OF.kept (h2 i hi).2.1 hq, va_OF.kept (h2 i hi).2.2.1 hq, va_T.kept (h2 i hi).2.2.2 hq⟩, va_Z.kept h3 hq, va_Z.kept h4 hq, h5, h6⟩
theorem spl_ge (i : Nat) : 600 ≤ spl i := by
  unfold spl
  by_cases h : i < 29
  · rw [if_pos h]; omega
  · rw [if_neg h]; omega
theorem stk_of {Γ : Gm} {F : Nat → Prop} {hi : Nat → Nat} {nz : Bool} (hE : ∀ (U : State) (H : Heap), gE Γ U H → EB F hi nz U H) (hAF : ∀ q, gAw Γ q → F q) (hhi : ∀ k, 600 ≤ k → gad Γ k = hi k) {i : Nat} (h31 : i < 31) : STK Γ F (spl i) (spl i + 1000) (sbl i) (sbf i) := by
  have e1 := hhi (spl i) (spl_ge i)
  have e2 := hhi (spl i + 1000) (by have := spl_ge i; omega)
  refine ⟨hAF, fun U H h => ?_, ?_⟩
  · obtain ⟨-, h2, h3, -⟩ := hE U H h
    rw [e1, e2]
    exact ⟨(h2 i h31).1, (h2 i h31).2.1, (h2 i h31).2.2.1, (h2 i h31).2.2.2, h3⟩
  · cases nz with
    | true => exact ⟨.null, Or.inl rfl, fun U H h => (hE U H h).2.2.2.1⟩
    | false =>
      refine ⟨.ref 998, Or.inr rfl, fun U H h => ?_⟩
      have h4 := (hE U H h).2.2.2.1
      show va_Z _ _ _ (.ref (gad Γ 998)) F U H
      rw [hhi 998 (by omega)]
      exact h4
/-- the class's string of signs -/
theorem sgn_EB {q : Gq} {l : Launch} {F : Nat → Prop} {hi : Nat → Nat} {nz : Bool} (hE : ∀ (U : State) (H : Heap), q.2.2.2 U H → EB F hi nz U H) (hAF : ∀ z, gAw (GA q) z → F z) (hhi : ∀ k, 600 ≤ k → q.2.2.1 k = hi k) : SGN q l :=
  sgn_ok (F := F) (fun U H h => by
    have h6 := (hE U H h).2.2.2.2.2.1
    show vk_R _ _ _ (q.2.2.1 700) U
    rw [hhi 700 (by omega)]
    exact h6) (stk_of (i := 29) hE hAF hhi (by omega))
/-- the reference's strings -/
theorem sgm_EB {q : Gq} {l : Launch} {F : Nat → Prop} {hi : Nat → Nat} {nz : Bool} (hE : ∀ (U : State) (H : Heap), q.2.2.2 U H → EB F hi nz U H) (hAF : ∀ z, gAw (GM q) z → F z) (hhi : ∀ k, 600 ≤ k → q.2.2.1 k = hi k) : SGM q l :=
  sgm_ok (F := F) (fun U H h => by
    have h6 := (hE U H h).2.2.2.2.2.2.2.1
    show vk_R _ _ _ (q.2.2.1 700) U
    rw [hhi 700 (by omega)]
    exact h6) (stk_of (i := 29) hE hAF hhi (by omega)) (fun i h29 => by
    have h := stk_of (Γ := GM q) (i := i) hE hAF hhi (by omega)
    unfold spl sbl sbf at h
    rw [if_pos h29, if_pos h29, if_pos h29, show 600 + i + 1000 = 1600 + i by omega] at h
    exact h)
/-- the row of words -/
theorem wdi_EB {q : Gq} {l : Launch} {F : Nat → Prop} {hi : Nat → Nat} {nz : Bool} (hE : ∀ (U : State) (H : Heap), q.2.2.2 U H → EB F hi nz U H) (hhi : ∀ k, 600 ≤ k → q.2.2.1 k = hi k) : WDI q F l :=
  wdi_ok (fun U H h => (hE U H h).2.2.2.2.1) (fun i h29 U H h => by
    rw [hhi (600 + i) (by omega)]
    exact (hE U H h).2.2.2.2.2.2.2.2 i h29) (fun i h29 U H h => by
    rw [hhi (600 + i) (by omega)]
    have h2 := ((hE U H h).2.1 i (by omega)).1
    unfold spl at h2
    rw [if_pos h29] at h2
    exact h2)
