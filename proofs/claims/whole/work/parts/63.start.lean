/-! WHAT STANDS BESIDE BOTH SIDES, OUT OF THE STATEMENT -/
def tmS (i : Nat) : Term := if i < 29 then .string RX12 (wdx i) else if i = 29 then .string RX9 111 else .string RX9 37
def psS (i : Nat) : Nat := [536, 545, 552, 559, 570, 581, 590, 603, 612, 621, 631, 639, 645, 653, 661, 668, 674, 682, 691, 700, 708, 717, 724, 730, 738, 747, 754, 761, 768, 446, 288].getD i 0
def atS (i : Nat) : List Cond := .exactly (tmS i) "java/lang/String" :: .eq (.field (tmS i) "java/lang/String" "coder" "B") (.int 0) :: .arrayOf (.field (tmS i) "java/lang/String" "value" "[B") .byte :: .eq (.length (.field (tmS i) "java/lang/String" "value" "[B")) (.int (Int32.ofNat (sbl i))) :: (List.range (sbl i)).map (fun j => .eq (.elem (.field (tmS i) "java/lang/String" "value" "[B") (.int (Int32.ofNat j))) (.int (sbf i j)))
theorem atS_is : ∀ i : Nat, i < 31 → ((flatC (Jvm.Cond.and given_1 narrow_1)).drop (psS i)).take (4 + sbl i) = atS i := by decide +kernel
theorem sbl_sm : ∀ i : Nat, i < 31 → sbl i < 2 ^ 31 := by decide +kernel
theorem str_at {args : Array Value} {s : State} (hn : (Jvm.Cond.and given_1 narrow_1).before args s = true) {i : Nat} (hi : i < 31) : ∃ q : Nat × Nat, (tmS i).eval args s none [] s = some (.ref q.1) ∧ va_O "java/lang/String" q.1 (fun q => s.heap.size ≤ q) s s.heap ∧ va_OF "java/lang/String" "coder" "B" (.int 0) q.1 (fun q => s.heap.size ≤ q) s s.heap ∧ va_OF "java/lang/String" "value" "[B" (.ref q.2) q.1 (fun q => s.heap.size ≤ q) s s.heap ∧ va_T .byte q.2 (sbl i) (fun j => .int (sbf i j)) (fun q => s.heap.size ≤ q) s s.heap := by
  have hs := flat_of_before _ hn
  have hin : ∀ w ∈ atS i, w.before args s = true := fun w hw => hs w (by
    rw [← atS_is i hi] at hw
    exact List.mem_of_mem_drop (List.mem_of_mem_take hw))
  have hb : ∀ j, j < sbl i → ((List.range (sbl i)).map (sbf i)).getD j 0 = sbf i j := fun j hj => by
    rw [List.getD_eq_getElem?_getD, List.getElem?_map, List.getElem?_range hj]
    rfl
  obtain ⟨adK, adV, hS, hev⟩ := vk_Sof (args := args) (s := s) (N := 1) (tm := fun _ => tmS i) (len := [sbl i]) (byt := [(List.range (sbl i)).map (sbf i)]) (A := fun q => s.heap.size ≤ q)
    (fun j hj => by rw [show j = 0 by omega]; exact sbl_sm i hi) (fun j hj => hin _ List.mem_cons_self) (fun j hj => hin _ (List.mem_cons_of_mem _ List.mem_cons_self)) (fun j hj => hin _ (List.mem_cons_of_mem _ (List.mem_cons_of_mem _ List.mem_cons_self)))
    (fun j hj => by rw [show j = 0 by omega]; exact hin _ (List.mem_cons_of_mem _ (List.mem_cons_of_mem _ (List.mem_cons_of_mem _ List.mem_cons_self))))
    (fun j hj k hk => by
      rw [show j = 0 by omega] at hk ⊢
      have hk : k < sbl i := hk
      show (Cond.eq _ (.int (((List.range (sbl i)).map (sbf i)).getD k 0))).before args s = true
      rw [hb k hk]
      exact hin _ (List.mem_cons_of_mem _ (List.mem_cons_of_mem _ (List.mem_cons_of_mem _ (List.mem_cons_of_mem _ (List.mem_map.mpr ⟨k, List.mem_range.mpr hk, rfl⟩))))))
    (fun j k hj hk hne => absurd (show j = k by omega) hne) (fun a ha h => Nat.not_lt.mpr h ha)
  obtain ⟨h1, h2, h3, h4⟩ := hS.1 0 (by omega)
  refine ⟨(adK 0, adV 0), hev 0 (by omega), h1, h2, h3, ?_⟩
  obtain ⟨cell, g1, g2, g3, g4, g5, g6, g7⟩ := h4
  exact ⟨cell, g1, g2, g3, g4, g5, fun j hj => by rw [g6 j hj]; exact congrArg some (congrArg Value.int (hb j hj)), g7⟩
def hiS (ad : Nat → Nat × Nat) (t : Nat) (k : Nat) : Nat := if k = 998 then t else if k < 700 then (ad (k - 600)).1 else if k < 702 then (ad (k - 671)).1 else if k < 1700 then (ad (k - 1600)).2 else (ad (k - 1671)).2
theorem hiS_1 (ad : Nat → Nat × Nat) (t : Nat) {i : Nat} (hi : i < 31) : hiS ad t (spl i) = (ad i).1 := by
  unfold hiS spl
  by_cases h : i < 29
  · rw [if_pos h, if_neg (by omega), if_pos (by omega), show 600 + i - 600 = i by omega]
  · rw [if_neg h, if_neg (by omega), if_neg (by omega), if_pos (by omega), show 671 + i - 671 = i by omega]
theorem hiS_2 (ad : Nat → Nat × Nat) (t : Nat) {i : Nat} (hi : i < 31) : hiS ad t (spl i + 1000) = (ad i).2 := by
  unfold hiS spl
  by_cases h : i < 29
  · rw [if_pos h, if_neg (by omega), if_neg (by omega), if_neg (by omega), if_pos (by omega), show 600 + i + 1000 - 1600 = i by omega]
  · rw [if_neg h, if_neg (by omega), if_neg (by omega), if_neg (by omega), if_neg (by omega), show 671 + i + 1000 - 1671 = i by omega]
theorem wds_in : ∀ i : Nat, i < 29 → tables_1_9[50 + i]? = some (Cond.stringRef RX12 (wdx i) (wdt i)) := by decide +kernel
theorem eqs_in : (flatC (Jvm.Cond.and given_1 narrow_1))[795]? = some (Cond.eq (.string RX9 111) (.string RX12 438)) := by decide +kernel
theorem cps_in : (flatC (Jvm.Cond.and given_1 narrow_1))[4]? = some (Cond.eq (.static "java/lang/String" "COMPACT_STRINGS" "Z") (.int 1)) := by decide +kernel
theorem sio_in : (flatC (Jvm.Cond.and given_1 narrow_1))[5]? = some (Cond.isRef (.static "jdk/internal/util/Preconditions" "SIOOBE_FORMATTER" "Ljava/util/function/BiFunction;")) := by decide +kernel
theorem uns_in : (flatC (Jvm.Cond.and given_1 narrow_1))[9]? = some (Cond.isRef (.static Bundle.tN "UNASSIGNED_STACK" Bundle.steD)) := by decide +kernel
theorem sup_in : (flatC (Jvm.Cond.and given_1 narrow_1))[10]? = some (Cond.isRef (.static Bundle.tN "SUPPRESSED_SENTINEL" Bundle.listD)) := by decide +kernel
theorem xbad_in : ∀ w ∈ xbad, w ∈ lw_tbl := by
  intro w hw
  unfold xbad at hw
  simp only [List.mem_cons, List.not_mem_nil, or_false] at hw
  rcases hw with rfl | rfl | rfl | rfl | rfl | rfl | rfl
  · exact sg3 _ (List.mem_of_getElem? (i := 69) (by decide +kernel))
  · exact sg3 _ (List.mem_of_getElem? (i := 71) (by decide +kernel))
  · exact sg3 _ (List.mem_of_getElem? (i := 73) (by decide +kernel))
  · exact sg3 _ (List.mem_of_getElem? (i := 96) (by decide +kernel))
  · exact sg3 _ (List.mem_of_getElem? (i := 132) (by decide +kernel))
  · exact sg8 _ (List.mem_of_getElem? (i := 22) (by decide +kernel))
  · exact sg9 _ (List.mem_of_getElem? (i := 35) (by decide +kernel))
theorem eb_start {b : Nat} {s : State} (hts : ∀ w ∈ lw_tbl, w.before #[Value.ref b] s = true) (hn : (Jvm.Cond.and given_1 narrow_1).before #[Value.ref b] s = true) : ∃ (hi : Nat → Nat) (nz : Bool), EB (fun q => s.heap.size ≤ q) hi nz s s.heap := by
  have hs := flat_of_before _ hn
  have hA : ∀ a : Nat, a < s.heap.size → ¬ s.heap.size ≤ a := fun a ha h => Nat.not_lt.mpr h ha
  obtain ⟨ad, had⟩ := Classical.axiomOfChoice (fun i : Nat => show ∃ q : Nat × Nat, i < 31 → (tmS i).eval #[Value.ref b] s none [] s = some (.ref q.1) ∧ va_O "java/lang/String" q.1 (fun q => s.heap.size ≤ q) s s.heap ∧ va_OF "java/lang/String" "coder" "B" (.int 0) q.1 (fun q => s.heap.size ≤ q) s s.heap ∧ va_OF "java/lang/String" "value" "[B" (.ref q.2) q.1 (fun q => s.heap.size ≤ q) s s.heap ∧ va_T .byte q.2 (sbl i) (fun j => .int (sbf i j)) (fun q => s.heap.size ≤ q) s s.heap by
    by_cases hi : i < 31
    · obtain ⟨q, h⟩ := str_at hn hi
      exact ⟨q, fun _ => h⟩
    · exact ⟨(0, 0), fun h => absurd h hi⟩)
  have hz1 := hts _ (sg3 _ (List.mem_of_getElem? (i := 31) (show tables_1_3[31]? = some (Cond.laysStatic Bundle.tN "UNASSIGNED_STACK" Bundle.steD) by decide +kernel)))
  have hz2 := hts _ (sg3 _ (List.mem_of_getElem? (i := 33) (show tables_1_3[33]? = some (Cond.laysStatic Bundle.tN "SUPPRESSED_SENTINEL" Bundle.listD) by decide +kernel)))
  have hz3 := hts _ (sg1 _ (List.mem_of_getElem? (i := 18) (show tables_1_1[18]? = some (Cond.initialized Bundle.tN) by decide +kernel)))
  have hz4 := hts _ (sg1 _ (List.mem_of_getElem? (i := 71) (show tables_1_1[71]? = some (Cond.laysStatic "java/lang/String" "COMPACT_STRINGS" "Z") by decide +kernel)))
  have hz5 := hts _ (sg1 _ (List.mem_of_getElem? (i := 5) (show tables_1_1[5]? = some (Cond.initialized "java/lang/String") by decide +kernel)))
  have hz6 := hts _ (sg1 _ (List.mem_of_getElem? (i := 87) (show tables_1_1[87]? = some (Cond.laysStatic "jdk/internal/util/Preconditions" "SIOOBE_FORMATTER" "Ljava/util/function/BiFunction;") by decide +kernel)))
  have hz7 := hts _ (sg1 _ (List.mem_of_getElem? (i := 7) (show tables_1_1[7]? = some (Cond.initialized "jdk/internal/util/Preconditions") by decide +kernel)))
  have hz8 := hts _ (sg9 _ (List.mem_of_getElem? (i := 49) (show tables_1_9[49]? = some (Cond.arrayOver (.object "java/lang/String")) by decide +kernel)))
  have hr1 := hts _ (sg3 _ (List.mem_of_getElem? (i := 213) (show tables_1_3[213]? = some (Cond.stringRef RX9 111 "+-*^<=>,;:()[]") by decide +kernel)))
  have hr2 := hts _ (sg1 _ (List.mem_of_getElem? (i := 61) (show tables_1_1[61]? = some (Cond.stringRef RX9 37 "begin end own integer boolean array procedure value label switch goto if then else for do step until while true false and or impl equiv not div mod print ") by decide +kernel)))
  have hr3 := hts _ (sg11 _ (List.mem_of_getElem? (i := 88) (show tables_1_11[88]? = some (Cond.stringRef RX12 438 "+-*^<=>,;:()[]") by decide +kernel)))
  have hxb : ∀ w ∈ xbad, w.before #[] s = true := fun w hw => va_tabs (xbad_ok w hw).1 rfl (hts w (xbad_in w hw))
  obtain ⟨v, hv, hvr⟩ : ∃ v, (Term.static "jdk/internal/util/Preconditions" "SIOOBE_FORMATTER" "Ljava/util/function/BiFunction;").eval #[Value.ref b] s none [] s = some v ∧ v.isRef = true := by
    have h := hs _ (List.mem_of_getElem? sio_in)
    cases he : (Term.static "jdk/internal/util/Preconditions" "SIOOBE_FORMATTER" "Ljava/util/function/BiFunction;").eval #[Value.ref b] s none [] s with
    | none => simp [Cond.before, Cond.holds, Cond.value, he] at h
    | some v =>
      refine ⟨v, rfl, ?_⟩
      simp only [Cond.before, Cond.holds, Cond.value, he] at h
      cases v <;> simp_all [Value.isRef]
  obtain ⟨nz, t, hvt⟩ : ∃ (nz : Bool) (t : Nat), v = sioV nz t := by
    cases v with
    | null => exact ⟨true, 0, rfl⟩
    | ref t => exact ⟨false, t, rfl⟩
    | _ => exact Bool.noConfusion hvr
  have e29 := (had 29 (by omega)).1
  have e30 := (had 30 (by omega)).1
  refine ⟨hiS ad t, nz, ⟨vx_Zqof hz1 hz3 (hs _ (List.mem_of_getElem? uns_in)) hA, vx_Zqof hz2 hz3 (hs _ (List.mem_of_getElem? sup_in)) hA, hxb⟩, fun i hi => ?_, va_Zof hz4 hz5 (va_eqi (hs _ (List.mem_of_getElem? cps_in))) hA, ?_, va_AO.of hz8, ?_, ?_, ?_, fun i hi => ?_⟩
  · rw [hiS_1 ad t hi, hiS_2 ad t hi]
    exact (had i hi).2
  · show va_Z _ _ _ (sioV nz t) _ _ _
    exact va_Zof hz6 hz7 (hv.trans (congrArg some hvt)) hA
  · exact vk_R.of hr1 e29
  · exact vk_R.of hr2 e30
  · exact vk_R.of hr3 (va_eqR (hs _ (List.mem_of_getElem? eqs_in)) e29)
  · have e := (had i (by omega)).1
    unfold tmS at e
    rw [if_pos hi] at e
    have h1 : hiS ad t (600 + i) = (ad i).1 := by
      have h := hiS_1 ad t (i := i) (by omega)
      unfold spl at h
      rw [if_pos hi] at h
      exact h
    rw [h1]
    exact vk_R.of (hts _ (sg9 _ (List.mem_of_getElem? (wds_in i hi)))) e
