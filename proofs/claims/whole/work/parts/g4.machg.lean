/-! THE CLASS'S MACHINE: what a word does (5): jumps -/
section M4
variable {gA : Wd} {N a fr tp h dp el a1 fr1 tp1 h1 dp1 el1 al sp pr de fu : Nat} {w u v : Wd}

theorem k_jump {n : Nat} (H : CK gA N a fr tp h dp el w) (ha : a < N) (hw : gl gA 41 a = wdC 33 0 (Int32.ofNat n)) (hn : n < 4194304) : fX3_tick w = some (si (si w 48 11 (Int32.ofNat (a + 1))) 48 11 (Int32.ofNat n)) := by
  rw [tk_jump (x := 33) (y := 0) (c := n) H ha hw (by omega) (by omega) hn]
  unfold fX3_jump
  rw [if_neg (show ¬ (Int32.ofNat 33 = 30) by decide), if_neg (show ¬ (Int32.ofNat 33 = 31) by decide), if_neg (show ¬ (Int32.ofNat 33 = 32) by decide), if_pos (show Int32.ofNat 33 = 33 from rfl), ltq]
theorem k_jf {n : Nat} (H : CK gA N a fr tp (h + 1) dp el w) (ha : a < N) (hw : gl gA 41 a = wdC 34 0 (Int32.ofNat n)) (hn : n < 4194304) : fX3_tick w = some (si (popW w (a + 1) h) 48 11 (Int32.ofNat (if gl w 51 h = 0 then n else a + 1))) := by
  have hb := H.2.2.2.2.2.2.2.2.2.2.1
  rw [tk_jump (x := 34) (y := 0) (c := n) H ha hw (by omega) (by omega) hn]
  unfold fX3_jump
  rw [if_neg (show ¬ (Int32.ofNat 34 = 30) by decide), if_neg (show ¬ (Int32.ofNat 34 = 31) by decide), if_neg (show ¬ (Int32.ofNat 34 = 32) by decide), if_neg (show ¬ (Int32.ofNat 34 = 33) by decide), if_pos (show Int32.ofNat 34 = 34 from rfl), pop_ok (h := h) (by rw [gi_si1 (by omega)]; exact H.2.2.2.2.2.1) (by omega), gl_si, lt2q]
  by_cases q : gl w 51 h = 0
  · rw [if_pos q, if_pos q, ltq]
    rfl
  · rw [if_neg q, if_neg q, ltq, gi_si1 (by omega), gi_si0]
    rfl
/-- GOSUB, END_SUB -/
theorem k_gosub {n : Nat} (H : CK gA N a fr tp h dp el w) (ha : a < N) (hw : gl gA 41 a = wdC 35 0 (Int32.ofNat n)) (hn : n < 4194304) (hh : h < 30622) : fX3_tick w = some (si (pshW w (a + 1) h (Int64.ofNat (a + 1))) 48 11 (Int32.ofNat n)) := by
  have hN := H.1.2.1
  rw [tk_jump (x := 35) (y := 0) (c := n) H ha hw (by omega) (by omega) hn]
  unfold fX3_jump
  rw [if_neg (show ¬ (Int32.ofNat 35 = 30) by decide), if_neg (show ¬ (Int32.ofNat 35 = 31) by decide), if_neg (show ¬ (Int32.ofNat 35 = 32) by decide), if_neg (show ¬ (Int32.ofNat 35 = 33) by decide), if_neg (show ¬ (Int32.ofNat 35 = 34) by decide), if_pos (show Int32.ofNat 35 = 35 from rfl), gi_si0, i64_iN (by omega), push_ok (h := h) (by rw [gi_si1 (by omega)]; exact H.2.2.2.2.2.1) hh, ltq, ltq]
  rfl
theorem k_esub {n : Nat} (H : CK gA N a fr tp (h + 2) dp el w) (ha : a < N) (hw : gl gA 41 a = wdC 36 0 0) (hx : gl w 51 h = Int64.ofNat n) : fX3_tick w = some (pshQ (si (si (popW w (a + 1) (h + 1)) 48 14 (Int32.ofNat h)) 48 11 (Int32.ofNat n)) h (gl w 51 (h + 1))) := by
  have hb := H.2.2.2.2.2.2.2.2.2.2.1
  rw [tk_jump (x := 36) (y := 0) (c := 0) H ha hw (by omega) (by omega) (by omega)]
  unfold fX3_jump
  rw [if_neg (show ¬ (Int32.ofNat 36 = 30) by decide), if_neg (show ¬ (Int32.ofNat 36 = 31) by decide), if_neg (show ¬ (Int32.ofNat 36 = 32) by decide), if_neg (show ¬ (Int32.ofNat 36 = 33) by decide), if_neg (show ¬ (Int32.ofNat 36 = 34) by decide), if_neg (show ¬ (Int32.ofNat 36 = 35) by decide), if_pos (show Int32.ofNat 36 = 36 from rfl), pop_ok (h := h + 1) (by rw [gi_si1 (by omega)]; exact H.2.2.2.2.2.1) (by omega), gl_si, lt2q, pop_ok (h := h) (gi_si0 _ _ _ _) (by omega), gl_si, gl_si, lt2q, hx, tl_iN, ltq, push_ok (h := h) (by rw [gi_si1 (by omega), gi_si0]) (by omega), ltq]
  rfl
/-- LINK, BACK -/
theorem k_link {s : Nat} (H : CK gA N a fr tp h dp el w) (ha : a < N) (hw : gl gA 41 a = wdC 37 0 (Int32.ofNat s)) (hs : fr + s < tp) : fX3_tick w = some (sl (si w 48 11 (Int32.ofNat (a + 1))) 50 (fr + s) (Int64.ofNat (a + 2))) := by
  have hN := H.1.2.1
  have ht := H.2.2.2.2.2.2.2.2.2.1
  rw [tk_jump (x := 37) (y := 0) (c := s) H ha hw (by omega) (by omega) (by omega)]
  unfold fX3_jump
  rw [if_neg (show ¬ (Int32.ofNat 37 = 30) by decide), if_neg (show ¬ (Int32.ofNat 37 = 31) by decide), if_neg (show ¬ (Int32.ofNat 37 = 32) by decide), if_neg (show ¬ (Int32.ofNat 37 = 33) by decide), if_neg (show ¬ (Int32.ofNat 37 = 34) by decide), if_neg (show ¬ (Int32.ofNat 37 = 35) by decide), if_neg (show ¬ (Int32.ofNat 37 = 36) by decide), if_pos (show Int32.ofNat 37 = 37 from rfl), gi_si1 (by omega), gi_si0, H.2.2.2.1, add_iN, i64_iN (by omega), ad1_iN, i64_iN (by omega), (H.nx (a + 1)).write hs, ltq]
theorem k_back {s n : Nat} (H : CK gA N a fr tp h dp el w) (ha : a < N) (hw : gl gA 41 a = wdC 38 0 (Int32.ofNat s)) (hs : fr + s < tp) (hn : gl w 50 (fr + s) = Int64.ofNat n) : fX3_tick w = some (si (si w 48 11 (Int32.ofNat (a + 1))) 48 11 (Int32.ofNat n)) := by
  have ht := H.2.2.2.2.2.2.2.2.2.1
  rw [tk_jump (x := 38) (y := 0) (c := s) H ha hw (by omega) (by omega) (by omega)]
  unfold fX3_jump
  rw [if_neg (show ¬ (Int32.ofNat 38 = 30) by decide), if_neg (show ¬ (Int32.ofNat 38 = 31) by decide), if_neg (show ¬ (Int32.ofNat 38 = 32) by decide), if_neg (show ¬ (Int32.ofNat 38 = 33) by decide), if_neg (show ¬ (Int32.ofNat 38 = 34) by decide), if_neg (show ¬ (Int32.ofNat 38 = 35) by decide), if_neg (show ¬ (Int32.ofNat 38 = 36) by decide), if_neg (show ¬ (Int32.ofNat 38 = 37) by decide), if_pos (show Int32.ofNat 38 = 38 from rfl), gi_si1 (by omega), H.2.2.2.1, add_iN, i64_iN (by omega), (H.nx (a + 1)).read hs, lt2q, gl_si, hn, tl_iN, ltq]
/-- FOR_TEST -/
def ftC (lim val by_ : Int64) : Prop := (0 < by_ ∧ lim < val) ∨ (by_ < 0 ∧ val < lim)
theorem k_ftest (H : CK gA N a fr tp (h + 3) dp el w) (ha : a < N) (hw : gl gA 41 a = wdC 39 0 0) : ∃ y, OFF (fun k j => k = 48 ∧ (j = 11 ∨ j = 14)) y w ∧ CK gA N (a + 1) fr tp h dp el y ∧ fX3_tick w = some (pshQ y h (@ite _ (ftC (gl w 51 (h + 2)) (gl w 51 (h + 1)) (gl w 51 h)) (Classical.propDecidable _) 0 1)) := by
  have hb := H.2.2.2.2.2.2.2.2.2.2.1
  rw [tk_jump (x := 39) (y := 0) (c := 0) H ha hw (by omega) (by omega) (by omega)]
  unfold fX3_jump fX3_forTest
  rw [if_neg (show ¬ (Int32.ofNat 39 = 30) by decide), if_neg (show ¬ (Int32.ofNat 39 = 31) by decide), if_neg (show ¬ (Int32.ofNat 39 = 32) by decide), if_neg (show ¬ (Int32.ofNat 39 = 33) by decide), if_neg (show ¬ (Int32.ofNat 39 = 34) by decide), if_neg (show ¬ (Int32.ofNat 39 = 35) by decide), if_neg (show ¬ (Int32.ofNat 39 = 36) by decide), if_neg (show ¬ (Int32.ofNat 39 = 37) by decide), if_neg (show ¬ (Int32.ofNat 39 = 38) by decide), pop_ok (h := h + 2) (by rw [gi_si1 (by omega)]; exact H.2.2.2.2.2.1) (by omega), gl_si, lt2q, pop_ok (h := h + 1) (gi_si0 _ _ _ _) (by omega), gl_si, gl_si, lt2q, pop_ok (h := h) (gi_si0 _ _ _ _) (by omega), gl_si, gl_si, gl_si, lt2q]
  have O1 : OFF (fun k j => k = 48 ∧ (j = 11 ∨ j = 14)) (si (si (si (si w 48 11 (Int32.ofNat (a + 1))) 48 14 (Int32.ofNat (h + 2))) 48 14 (Int32.ofNat (h + 1))) 48 14 (Int32.ofNat h)) w := OFF.tr (OFF.si (by omega)) (OFF.tr (OFF.si (by omega)) (OFF.tr (OFF.si (by omega)) (OFF.si (by omega))))
  have e11 : gi (si (si (si (si w 48 11 (Int32.ofNat (a + 1))) 48 14 (Int32.ofNat (h + 2))) 48 14 (Int32.ofNat (h + 1))) 48 14 (Int32.ofNat h)) 48 11 = Int32.ofNat (a + 1) := by rw [gi_si1 (by omega), gi_si1 (by omega), gi_si1 (by omega), gi_si0]
  have e14 : gi (si (si (si (si w 48 11 (Int32.ofNat (a + 1))) 48 14 (Int32.ofNat (h + 2))) 48 14 (Int32.ofNat (h + 1))) 48 14 (Int32.ofNat h)) 48 14 = Int32.ofNat h := gi_si0 _ _ _ _
  generalize si (si (si (si w 48 11 (Int32.ofNat (a + 1))) 48 14 (Int32.ofNat (h + 2))) 48 14 (Int32.ofNat (h + 1))) 48 14 (Int32.ofNat h) = y at O1 e11 e14 ⊢
  refine ⟨y, O1, H.ps (h0 := 0) (O1.mono fun k j p => Or.inl p) e11 e14 (by omega), ?_⟩
  have p0 : (lt (fX3_forTest_47 false y) fun w33 => some w33) = some (pshQ y h 1) := by
    unfold fX3_forTest_47
    rw [if_neg (show ¬ (false = true) by decide), push_ok e14 (by omega)]
    rfl
  have p1 : (lt (fX3_forTest_47 true y) fun w33 => some w33) = some (pshQ y h 0) := by
    unfold fX3_forTest_47
    rw [if_pos rfl, push_ok e14 (by omega)]
    rfl
  generalize gl w 51 (h + 2) = lim
  generalize gl w 51 (h + 1) = val
  generalize gl w 51 h = by_
  dsimp only
  unfold fX3_forTest_29
  have cc : ∀ x y : Int64, ¬ x ≤ y ↔ y < x := fun x y => by rw [Int64.le_iff_toInt_le, Int64.lt_iff_toInt_lt]; omega
  have c2 : ∀ x y : Int64, ¬ x < y ↔ y ≤ x := fun x y => by rw [Int64.le_iff_toInt_le, Int64.lt_iff_toInt_lt]; omega
  by_cases q1 : by_ ≤ 0
  · rw [if_pos q1]
    by_cases q2 : 0 ≤ by_
    · rw [if_pos q2, p0, if_neg (show ¬ ftC lim val by_ from fun hh => by
        rcases hh with hh | hh
        · exact (c2 _ _).mpr q1 hh.1
        · exact (c2 _ _).mpr q2 hh.1)]
    · rw [if_neg q2]
      by_cases q3 : lim ≤ val
      · rw [if_pos q3, p0, if_neg (show ¬ ftC lim val by_ from fun hh => by
          rcases hh with hh | hh
          · exact (c2 _ _).mpr q1 hh.1
          · exact (c2 _ _).mpr q3 hh.2)]
      · rw [if_neg q3, p1, if_pos (show ftC lim val by_ from Or.inr ⟨(cc _ _).mp q2, (cc _ _).mp q3⟩)]
  · rw [if_neg q1]
    by_cases q2 : lim < val
    · rw [if_pos q2, p1, if_pos (show ftC lim val by_ from Or.inl ⟨(cc _ _).mp q1, q2⟩)]
    · have q0 : 0 ≤ by_ := by
        have := (cc _ _).mp q1
        rw [Int64.lt_iff_toInt_lt] at this
        rw [Int64.le_iff_toInt_le]
        omega
      rw [if_neg q2, if_pos q0, p0, if_neg (show ¬ ftC lim val by_ from fun hh => by
        rcases hh with hh | hh
        · exact q2 hh.2
        · exact (c2 _ _).mpr q0 hh.1)]
/-- KEEP, LEVEL -/
theorem k_keep {s : Nat} (H : CK gA N a fr tp h dp el w) (ha : a < N) (hw : gl gA 41 a = wdC 31 0 (Int32.ofNat s)) (hs : fr + s < tp) : fX3_tick w = some (sl (si w 48 11 (Int32.ofNat (a + 1))) 50 (fr + s) (Int64.ofNat el)) := by
  have he := H.2.2.2.2.2.2.2.2.2.2.2.2
  have ht := H.2.2.2.2.2.2.2.2.2.1
  rw [tk_jump (x := 31) (y := 0) (c := s) H ha hw (by omega) (by omega) (by omega)]
  unfold fX3_jump
  rw [if_neg (show ¬ (Int32.ofNat 31 = 30) by decide), if_pos (show Int32.ofNat 31 = 31 from rfl), gi_si1 (by omega), gi_si1 (by omega), H.2.2.2.1, H.2.2.2.2.2.2.2.1, add_iN, i64_iN (by omega), i64_iN (by omega), (H.nx (a + 1)).write hs, ltq]
theorem k_level {s n : Nat} (H : CK gA N a fr tp h dp el w) (ha : a < N) (hw : gl gA 41 a = wdC 32 0 (Int32.ofNat s)) (hs : fr + s < tp) (hn : gl w 50 (fr + s) = Int64.ofNat n) : fX3_tick w = some (si (si w 48 11 (Int32.ofNat (a + 1))) 48 16 (Int32.ofNat n)) := by
  have ht := H.2.2.2.2.2.2.2.2.2.1
  rw [tk_jump (x := 32) (y := 0) (c := s) H ha hw (by omega) (by omega) (by omega)]
  unfold fX3_jump
  rw [if_neg (show ¬ (Int32.ofNat 32 = 30) by decide), if_neg (show ¬ (Int32.ofNat 32 = 31) by decide), if_pos (show Int32.ofNat 32 = 32 from rfl), gi_si1 (by omega), H.2.2.2.1, add_iN, i64_iN (by omega), (H.nx (a + 1)).read hs, lt2q, gl_si, hn, tl_iN, ltq]
end M4
