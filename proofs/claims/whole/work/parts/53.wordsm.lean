/-! THE REFERENCE'S STRINGS -/
section RTW2
variable {Γ : Gm} {l : Launch} {d : Nat} {y : MethodName} {cc : ByteArray} {nL : Nat} {ret : Option FieldType} {N : Option Value → Wd → Prop} {X : String → Wd → Prop} {pc : Nat} {rest : List Value} {loc : List (Nat × Value)} {w : Wd}
/-- a string constant by a wide index -/
theorem r_ldcT {k index : Nat} {tx : String} (hZ : ∀ (U : State) (H : Heap), gE Γ U H → vk_R y.cls index tx (gad Γ k) U) (hdg : decode cc pc = .ok (.ldc_w index, 3)) (kk : RT Γ l d y cc nL ret N X (pc + 3) (.ref k :: rest) loc w) : RT Γ l d y cc nL ret N X pc rest loc w := by
  intro p e s m args below meth c H locs ls hC hP hS hl
  obtain ⟨hx, hb, hr, hml, hown, hts, hlk, het, hK, hE, hG⟩ := id hC
  obtain ⟨z1, z2⟩ := hZ s s.heap hE
  intro T hT Y
  obtain ⟨t, a1, b1⟩ := kk p e s m args below meth c H locs ls hC hP hS hl T hT Y
  obtain ⟨k0, cf, i0, a0, hk, hcf, hcp, -, hres, hev⟩ := Cond.stringRef_spec hown z1
  cases z2.symm.trans hev
  obtain ⟨k1, hk1, he1⟩ := Y.warmed.alike.2.2 _ _ hk
  have hr1 : k1.resolved[index]? = some (some (.string (gad Γ k))) := by
    rcases Y.warmed.entry hk hk1 index with h | ⟨h, -⟩
    · rw [h]; exact hres
    · rw [hres] at h; cases h
  have hdc : decode c.code pc = .ok (.ldc_w index, 3) := by rw [hb]; exact hdg
  refine ⟨t, ?_, b1⟩
  jvm_step Y.here [hx, hdc, ldc_w.wp_string (e := e) (s := T) (f := F0 m pc ls (rest.map (tr Γ))) Y.here.top hk1 (by rw [he1]; exact hcf) hcp hr1]
  exact a1
end RTW2
theorem len_ok {n : Nat} {f : Nat → Int32} (hn : n < 2 ^ 31) : fJ0_length_8abf5 n f = Int32.ofNat n := sc_shr0 hn
theorem wdl_len : ∀ i : Nat, i < 29 → (wdl i).length < 100 := by decide +kernel
theorem wdl_chr : ∀ i : Nat, i < 29 → ∀ j : Nat, j < (wdl i).length → (((Int32.toUInt32 ((wdl i).getD j 0 &&& 255)) % 65536).toInt32) = (wdl i).getD j 0 := by decide +kernel
theorem inb_lt {i : Int32} {n : Nat} (h : inb i n = true) : i.toNatClampNeg < n ∧ ¬ i < 0 := by
  unfold inb at h
  simp only [Bool.and_eq_true, Bool.not_eq_true', decide_eq_false_iff_not, Nat.ble_eq] at h
  exact ⟨by omega, h.1⟩
theorem chr_ok {n : Nat} {f : Nat → Int32} {j : Int32} {w : Wd} (hn : n < 100) (hj : inb j n = true) : fJ0_charAt_5068e n f j w = some ((((Int32.toUInt32 (f j.toNatClampNeg &&& 255)) % 65536).toInt32), w) := by
  have hl : fJ0_isLatin1_aae02 n f = true := rfl
  obtain ⟨h1, h2⟩ := inb_lt hj
  have h3 : j < Int32.ofNat n := by
    apply Int32.lt_iff_toInt_lt.mpr
    rw [Int32.toInt_ofNat_of_lt (by omega)]
    have e := mt Int32.lt_iff_toInt_lt.mpr h2
    have z : (0 : Int32).toInt = 0 := rfl
    have h6 : j.toNatClampNeg = j.toInt.toNat := rfl
    rw [z] at e
    omega
  unfold fJ0_charAt_5068e fJ1_charAt_3b067 fJ0_checkIndex_df160 lt
  dsimp only
  rw [if_pos hl, if_pos ⟨h2, h3⟩]
  show bn2 (if inb j n = true then _ else none) _ = _
  rw [if_pos hj]
  rfl
theorem sgm_ok {q : Gq} {l : Launch} {F : Nat → Prop} (hL : ∀ (U : State) (H : Heap), gE (GM q) U H → vk_R RX12 438 "+-*^<=>,;:()[]" (gad (GM q) 700) U) (hs : STK (GM q) F 700 1700 14 sgb) (hw : ∀ i, i < 29 → STK (GM q) F (600 + i) (1600 + i) (wdl i).length (fun j => (wdl i).getD j 0)) : SGM q l := by
  refine ⟨fun d N X hd rest loc w k => ?_, fun d N X hd x rest loc w hr k => ?_, fun d N X hd i rest loc w hi hr k => ?_, fun d N X hd i j rest loc w hij hr k => ?_⟩
  · exact r_ldcT (pc := 271) hL dX12_cut_271 k
  · exact r_cXi (pc := 275) wyJ0_indexOf_0f7a4 hs.1 (fun U H h => (hs.2.1 U H h).1) rfl mlRX12_440 iyJ0_indexOf_0f7a4 syJ0_indexOf_0f7a4 ⟨Nat.le_trans (Nat.le_of_ble_eq_true rfl) hd, (Nat.le_of_ble_eq_true rfl)⟩ rfl rfl hr dX12_cut_275 (mJ0_indexOf_0f7a4 hs (ix_sgn x w) (pI.mk k))
  · have h29 := (inb_lt hi).1
    have hs := hw _ h29
    exact r_cXi (pc := 21) wyJ0_length_8abf5 hs.1 (fun U H h => (hs.2.1 U H h).1) rfl mlRX12_395 iyJ0_length_8abf5 syJ0_length_8abf5 ⟨Nat.le_trans (Nat.le_of_ble_eq_true rfl) hd, (Nat.le_of_ble_eq_true rfl)⟩ rfl rfl hr dX12_word_21 (mJ0_length_8abf5 hs (len_ok (by have := wdl_len _ h29; omega)) (pI.mk k))
  · have h29 := (inb_lt hij.1).1
    have hs := hw _ h29
    have hj := (inb_lt hij.2).1
    have hch : (((Int32.toUInt32 ((wdl i.toNatClampNeg).getD j.toNatClampNeg 0 &&& 255)) % 65536).toInt32) = wch i j := by
      rw [wdl_chr _ h29 _ hj]
      unfold wch
      rw [List.getD_eq_getElem?_getD]
    exact r_cXi (pc := 53) wyJ0_charAt_5068e hs.1 (fun U H h => (hs.2.1 U H h).1) rfl mlRX12_399 iyJ0_charAt_5068e syJ0_charAt_5068e ⟨Nat.le_trans (Nat.le_of_ble_eq_true rfl) hd, (Nat.le_of_ble_eq_true rfl)⟩ rfl rfl hr dX12_word_53 (mJ0_charAt_5068e hs (chr_ok (wdl_len _ h29) hij.2) (pI.mk (by rw [hch]; exact k)))
