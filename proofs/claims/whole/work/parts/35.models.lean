/-! the reference: methods that call each other -/
/-! X12_mustBe: methods that call each other: 0 X12_mustBe, 1 X12_value, 2 X12_two, 3 X12_joined, 4 X12_element, 5 X12_place, 6 X12_aimCode, 7 X12_called, 8 X12_loose, 9 X12_names, 10 X12_actual, 11 X12_thunk, 12 X12_byName -/
abbrev TX12_mustBe : Type := Nat → Int32 → Int32 → Int32 → Wd → Option (Int32 × Wd)
def HX12_mustBe (q : Gq) (l : Launch) (rc : TX12_mustBe) (dd : Nat) : Prop := ∀ (a1 : Int32) (a2 : Int32) (w : Wd) (x : Int32) (u : Wd) (N : Option Value → Wd → Prop) (X : String → Wd → Prop), rc 0 a1 a2 0 w = some (x, u) → N none u → Ct (GM q) l dd yX12_mustBe cX12_mustBe 4 (none) [.ref 0, .int a1, .int a2] w N X
def HX12_value (q : Gq) (l : Launch) (rc : TX12_mustBe) (dd : Nat) : Prop := ∀ (a1 : Int32) (w : Wd) (x : Int32) (u : Wd) (N : Option Value → Wd → Prop) (X : String → Wd → Prop), rc 1 a1 0 0 w = some (x, u) → N (some (.int x)) u → Ct (GM q) l dd yX12_value cX12_value 7 ((some .int)) [.ref 0, .int a1] w N X
def HX12_two (q : Gq) (l : Launch) (rc : TX12_mustBe) (dd : Nat) : Prop := ∀ (a1 : Int32) (w : Wd) (x : Int32) (u : Wd) (N : Option Value → Wd → Prop) (X : String → Wd → Prop), rc 2 a1 0 0 w = some (x, u) → N (some (.int x)) u → Ct (GM q) l dd yX12_two cX12_two 6 ((some .int)) [.ref 0, .int a1] w N X
def HX12_joined (q : Gq) (l : Launch) (rc : TX12_mustBe) (dd : Nat) : Prop := ∀ (a1 : Int32) (a2 : Int32) (a3 : Int32) (w : Wd) (x : Int32) (u : Wd) (N : Option Value → Wd → Prop) (X : String → Wd → Prop), rc 3 a1 a2 a3 w = some (x, u) → N (some (.int x)) u → Ct (GM q) l dd yX12_joined cX12_joined 7 ((some .int)) [.ref 0, .int a1, .int a2, .int a3] w N X
def HX12_element (q : Gq) (l : Launch) (rc : TX12_mustBe) (dd : Nat) : Prop := ∀ (a1 : Int32) (w : Wd) (x : Int32) (u : Wd) (N : Option Value → Wd → Prop) (X : String → Wd → Prop), rc 4 a1 0 0 w = some (x, u) → N (some (.int x)) u → Ct (GM q) l dd yX12_element cX12_element 5 ((some .int)) [.ref 0, .int a1] w N X
def HX12_place (q : Gq) (l : Launch) (rc : TX12_mustBe) (dd : Nat) : Prop := ∀ (a1 : Int32) (a2 : Int32) (w : Wd) (x : Int32) (u : Wd) (N : Option Value → Wd → Prop) (X : String → Wd → Prop), rc 5 a1 a2 0 w = some (x, u) → N (some (.int x)) u → Ct (GM q) l dd yX12_place cX12_place 5 ((some .int)) [.ref 0, .int a1, .int a2] w N X
def HX12_aimCode (q : Gq) (l : Launch) (rc : TX12_mustBe) (dd : Nat) : Prop := ∀ (a1 : Int32) (w : Wd) (x : Int32) (u : Wd) (N : Option Value → Wd → Prop) (X : String → Wd → Prop), rc 6 a1 0 0 w = some (x, u) → N none u → Ct (GM q) l dd yX12_aimCode cX12_aimCode 5 (none) [.ref 0, .int a1] w N X
def HX12_called (q : Gq) (l : Launch) (rc : TX12_mustBe) (dd : Nat) : Prop := ∀ (a1 : Int32) (a2 : Int32) (w : Wd) (x : Int32) (u : Wd) (N : Option Value → Wd → Prop) (X : String → Wd → Prop), rc 7 a1 a2 0 w = some (x, u) → N (some (.int x)) u → Ct (GM q) l dd yX12_called cX12_called 10 ((some .int)) [.ref 0, .int a1, .int a2] w N X
def HX12_loose (q : Gq) (l : Launch) (rc : TX12_mustBe) (dd : Nat) : Prop := ∀ (a1 : Int32) (w : Wd) (x : Int32) (u : Wd) (N : Option Value → Wd → Prop) (X : String → Wd → Prop), rc 8 a1 0 0 w = some (x, u) → N none u → Ct (GM q) l dd yX12_loose cX12_loose 4 (none) [.ref 0, .int a1] w N X
def HX12_names (q : Gq) (l : Launch) (rc : TX12_mustBe) (dd : Nat) : Prop := ∀ (a1 : Int32) (w : Wd) (x : Int32) (u : Wd) (N : Option Value → Wd → Prop) (X : String → Wd → Prop), rc 9 a1 0 0 w = some (x, u) → N none u → Ct (GM q) l dd yX12_names cX12_names 3 (none) [.ref 0, .int a1] w N X
def HX12_actual (q : Gq) (l : Launch) (rc : TX12_mustBe) (dd : Nat) : Prop := ∀ (a1 : Int32) (a2 : Int32) (a3 : Int32) (w : Wd) (x : Int32) (u : Wd) (N : Option Value → Wd → Prop) (X : String → Wd → Prop), rc 10 a1 a2 a3 w = some (x, u) → N none u → Ct (GM q) l dd yX12_actual cX12_actual 7 (none) [.ref 0, .int a1, .int a2, .int a3] w N X
def HX12_thunk (q : Gq) (l : Launch) (rc : TX12_mustBe) (dd : Nat) : Prop := ∀ (a1 : Int32) (a2 : Int32) (w : Wd) (x : Int32) (u : Wd) (N : Option Value → Wd → Prop) (X : String → Wd → Prop), rc 11 a1 a2 0 w = some (x, u) → N (some (.int x)) u → Ct (GM q) l dd yX12_thunk cX12_thunk 9 ((some .int)) [.ref 0, .int a1, .int a2] w N X
def HX12_byName (q : Gq) (l : Launch) (rc : TX12_mustBe) (dd : Nat) : Prop := ∀ (a1 : Int32) (a2 : Int32) (a3 : Int32) (w : Wd) (x : Int32) (u : Wd) (N : Option Value → Wd → Prop) (X : String → Wd → Prop), rc 12 a1 a2 a3 w = some (x, u) → N none u → Ct (GM q) l dd yX12_byName cX12_byName 8 (none) [.ref 0, .int a1, .int a2, .int a3] w N X
def HSX12_mustBe (q : Gq) (l : Launch) (rc : TX12_mustBe) (dd : Nat) : Prop := HX12_mustBe q l rc dd ∧ HX12_value q l rc dd ∧ HX12_two q l rc dd ∧ HX12_joined q l rc dd ∧ HX12_element q l rc dd ∧ HX12_place q l rc dd ∧ HX12_aimCode q l rc dd ∧ HX12_called q l rc dd ∧ HX12_loose q l rc dd ∧ HX12_names q l rc dd ∧ HX12_actual q l rc dd ∧ HX12_thunk q l rc dd ∧ HX12_byName q l rc dd
/-! AlgolMillModel.names (I)V: O, 1705 -/
theorem dX12_names_0 : decode cX12_names 0 = .ok (.aload_n 0, 1) := by decide +kernel
theorem dX12_names_1 : decode cX12_names 1 = .ok (.getfield 99, 3) := by decide +kernel
theorem dX12_names_4 : decode cX12_names 4 = .ok (.iload_n 1, 1) := by decide +kernel
theorem dX12_names_5 : decode cX12_names 5 = .ok (.iaload, 1) := by decide +kernel
theorem dX12_names_6 : decode cX12_names 6 = .ok (.bipush 9, 2) := by decide +kernel
theorem dX12_names_8 : decode cX12_names 8 = .ok (.if_icmp .ne 16, 3) := by decide +kernel
theorem dX12_names_11 : decode cX12_names 11 = .ok (.aload_n 0, 1) := by decide +kernel
theorem dX12_names_12 : decode cX12_names 12 = .ok (.aload_n 0, 1) := by decide +kernel
theorem dX12_names_13 : decode cX12_names 13 = .ok (.getfield 102, 3) := by decide +kernel
theorem dX12_names_16 : decode cX12_names 16 = .ok (.iload_n 1, 1) := by decide +kernel
theorem dX12_names_17 : decode cX12_names 17 = .ok (.iaload, 1) := by decide +kernel
theorem dX12_names_18 : decode cX12_names 18 = .ok (.invokevirtual 679, 3) := by decide +kernel
theorem dX12_names_21 : decode cX12_names 21 = .ok (.goto 75, 3) := by decide +kernel
theorem dX12_names_24 : decode cX12_names 24 = .ok (.aload_n 0, 1) := by decide +kernel
theorem dX12_names_25 : decode cX12_names 25 = .ok (.getfield 99, 3) := by decide +kernel
theorem dX12_names_28 : decode cX12_names 28 = .ok (.iload_n 1, 1) := by decide +kernel
theorem dX12_names_29 : decode cX12_names 29 = .ok (.iaload, 1) := by decide +kernel
theorem dX12_names_30 : decode cX12_names 30 = .ok (.bipush 8, 2) := by decide +kernel
theorem dX12_names_32 : decode cX12_names 32 = .ok (.if_icmp .ne 37, 3) := by decide +kernel
theorem dX12_names_35 : decode cX12_names 35 = .ok (.aload_n 0, 1) := by decide +kernel
theorem dX12_names_36 : decode cX12_names 36 = .ok (.aload_n 0, 1) := by decide +kernel
theorem dX12_names_37 : decode cX12_names 37 = .ok (.getfield 102, 3) := by decide +kernel
theorem dX12_names_40 : decode cX12_names 40 = .ok (.iload_n 1, 1) := by decide +kernel
theorem dX12_names_41 : decode cX12_names 41 = .ok (.iaload, 1) := by decide +kernel
theorem dX12_names_42 : decode cX12_names 42 = .ok (.iconst 2, 1) := by decide +kernel
theorem dX12_names_43 : decode cX12_names 43 = .ok (.invokevirtual 622, 3) := by decide +kernel
theorem dX12_names_46 : decode cX12_names 46 = .ok (.aload_n 0, 1) := by decide +kernel
theorem dX12_names_47 : decode cX12_names 47 = .ok (.aload_n 0, 1) := by decide +kernel
theorem dX12_names_48 : decode cX12_names 48 = .ok (.getfield 105, 3) := by decide +kernel
theorem dX12_names_51 : decode cX12_names 51 = .ok (.iload_n 1, 1) := by decide +kernel
theorem dX12_names_52 : decode cX12_names 52 = .ok (.iaload, 1) := by decide +kernel
theorem dX12_names_53 : decode cX12_names 53 = .ok (.invokevirtual 679, 3) := by decide +kernel
theorem dX12_names_56 : decode cX12_names 56 = .ok (.aload_n 0, 1) := by decide +kernel
theorem dX12_names_57 : decode cX12_names 57 = .ok (.aload_n 0, 1) := by decide +kernel
theorem dX12_names_58 : decode cX12_names 58 = .ok (.getfield 108, 3) := by decide +kernel
theorem dX12_names_61 : decode cX12_names 61 = .ok (.iload_n 1, 1) := by decide +kernel
theorem dX12_names_62 : decode cX12_names 62 = .ok (.iaload, 1) := by decide +kernel
theorem dX12_names_63 : decode cX12_names 63 = .ok (.invokevirtual 679, 3) := by decide +kernel
theorem dX12_names_66 : decode cX12_names 66 = .ok (.goto 30, 3) := by decide +kernel
theorem dX12_names_69 : decode cX12_names 69 = .ok (.aload_n 0, 1) := by decide +kernel
theorem dX12_names_70 : decode cX12_names 70 = .ok (.iload_n 1, 1) := by decide +kernel
theorem dX12_names_71 : decode cX12_names 71 = .ok (.invokevirtual 638, 3) := by decide +kernel
theorem dX12_names_74 : decode cX12_names 74 = .ok (.istore_n 2, 1) := by decide +kernel
theorem dX12_names_75 : decode cX12_names 75 = .ok (.aload_n 0, 1) := by decide +kernel
theorem dX12_names_76 : decode cX12_names 76 = .ok (.getfield 99, 3) := by decide +kernel
theorem dX12_names_79 : decode cX12_names 79 = .ok (.iload_n 1, 1) := by decide +kernel
theorem dX12_names_80 : decode cX12_names 80 = .ok (.iaload, 1) := by decide +kernel
theorem dX12_names_81 : decode cX12_names 81 = .ok (.iconst 4, 1) := by decide +kernel
theorem dX12_names_82 : decode cX12_names 82 = .ok (.if_icmp .ne 14, 3) := by decide +kernel
theorem dX12_names_85 : decode cX12_names 85 = .ok (.aload_n 0, 1) := by decide +kernel
theorem dX12_names_86 : decode cX12_names 86 = .ok (.aload_n 0, 1) := by decide +kernel
theorem dX12_names_87 : decode cX12_names 87 = .ok (.getfield 102, 3) := by decide +kernel
theorem dX12_names_90 : decode cX12_names 90 = .ok (.iload_n 1, 1) := by decide +kernel
theorem dX12_names_91 : decode cX12_names 91 = .ok (.iaload, 1) := by decide +kernel
theorem dX12_names_92 : decode cX12_names 92 = .ok (.iconst 1, 1) := by decide +kernel
theorem dX12_names_93 : decode cX12_names 93 = .ok (.invokevirtual 622, 3) := by decide +kernel
theorem dX12_names_96 : decode cX12_names 96 = .ok (.return_, 1) := by decide +kernel
def fX12_names (rc : TX12_mustBe) (a1 : Int32) (w : Wd) : Option (Int32 × Wd) :=
  if inb a1 24000 = true then if (gi w 7 (Int32.toNatClampNeg a1)) = 9 then (if inb a1 24000 = true then bn2 (rc 9 (gi w 8 (Int32.toNatClampNeg a1)) 0 0 w) fun _ w5 => some (0, w5) else none) else (if inb a1 24000 = true then if (gi w 7 (Int32.toNatClampNeg a1)) = 8 then (if inb a1 24000 = true then bn2 (rc 0 (gi w 8 (Int32.toNatClampNeg a1)) 2 0 w) fun _ w10 => if inb a1 24000 = true then bn2 (rc 9 (gi w10 9 (Int32.toNatClampNeg a1)) 0 0 w10) fun _ w13 => if inb a1 24000 = true then bn2 (rc 9 (gi w13 10 (Int32.toNatClampNeg a1)) 0 0 w13) fun _ w16 => some (0, w16) else none else none else none) else (bn2 (fX12_seen a1 w) fun x17 w18 => if inb a1 24000 = true then if (gi w18 7 (Int32.toNatClampNeg a1)) = 4 then (if inb a1 24000 = true then bn2 (rc 0 (gi w18 8 (Int32.toNatClampNeg a1)) 1 0 w18) fun _ w23 => some (0, w23) else none) else (some (0, w18)) else none) else none) else none
theorem pX12_names {q : Gq} {l : Launch} {N : Option Value → Wd → Prop} {X : String → Wd → Prop} {rc : TX12_mustBe} {dd : Nat} (hS : HSX12_mustBe q l rc dd) (hK : 5 ≤ dd) {w : Wd} {R : Int32 × Wd} (hN : N none R.2) {a1 : Int32} (h : fX12_names rc a1 w = some R) : RT (GM q) l (dd + 1) yX12_names cX12_names 3 (none) N X 0 [] [(0, .ref 0), (1, .int a1)] w := by
  unfold fX12_names at h
  refine r_aload_n (pc := 0) dX12_names_0 rfl 0 rfl ?_
  refine r_get (pc := 1) (j := 16) (v := .ref 7) oM0 cf12 flRX12_99 rfl dX12_names_1 rfl ?_
  refine r_iload_n (pc := 4) dX12_names_4 rfl 1 rfl ?_
  replace h := if_n h; obtain ⟨hb1, h⟩ := h
  refine r_iald (pc := 5) aM7 (inb_in hb1) dX12_names_5 ?_
  refine r_bipush (pc := 6) dX12_names_6 kb_9 ?_
  refine r_icmp_ne (pc := 8) dX12_names_8 rfl (fun hc2 => ?_) (fun hc2 => ?_)
  · replace h := if_f hc2 h
    refine r_aload_n (pc := 24) dX12_names_24 rfl 0 rfl ?_
    refine r_get (pc := 25) (j := 16) (v := .ref 7) oM0 cf12 flRX12_99 rfl dX12_names_25 rfl ?_
    refine r_iload_n (pc := 28) dX12_names_28 rfl 1 rfl ?_
    replace h := if_n h; obtain ⟨hb6, h⟩ := h
    refine r_iald (pc := 29) aM7 (inb_in hb6) dX12_names_29 ?_
    refine r_bipush (pc := 30) dX12_names_30 kb_8 ?_
    refine r_icmp_ne (pc := 32) dX12_names_32 rfl (fun hc7 => ?_) (fun hc7 => ?_)
    · replace h := if_f hc7 h
      refine r_aload_n (pc := 69) dX12_names_69 rfl 0 rfl ?_
      refine r_iload_n (pc := 70) dX12_names_70 rfl 1 rfl ?_
      replace h := bn2_e h; obtain ⟨x17, w18, ew18, h⟩ := h
      refine r_cVi (pc := 71) wyX12_seen oM0 rfl mlRX12_638 iyX12_seen syX12_seen ⟨Nat.succ_le_succ (Nat.le_trans (Nat.le_of_ble_eq_true rfl) hK), (Nat.le_of_ble_eq_true rfl)⟩ rfl rfl (Nat.le_of_ble_eq_true rfl) dX12_names_71 (mX12_seen ew18 (pI.mk ?_))
      refine r_istore_n (pc := 74) (loc' := [(2, .int x17), (0, .ref 0), (1, .int a1)]) dX12_names_74 rfl (Nat.le_of_ble_eq_true rfl) rfl ?_
      refine r_aload_n (pc := 75) dX12_names_75 rfl 1 rfl ?_
      refine r_get (pc := 76) (j := 16) (v := .ref 7) oM0 cf12 flRX12_99 rfl dX12_names_76 rfl ?_
      refine r_iload_n (pc := 79) dX12_names_79 rfl 2 rfl ?_
      replace h := if_n h; obtain ⟨hb19, h⟩ := h
      refine r_iald (pc := 80) aM7 (inb_in hb19) dX12_names_80 ?_
      refine r_iconst (pc := 81) dX12_names_81 ki_4 ?_
      refine r_icmp_ne (pc := 82) dX12_names_82 rfl (fun hc20 => ?_) (fun hc20 => ?_)
      · replace h := if_f hc20 h
        exact rOR_v (pc := 96) rfl dX12_names_96 h hN
      replace h := if_t hc20 h
      refine r_aload_n (pc := 85) dX12_names_85 rfl 1 rfl ?_
      refine r_aload_n (pc := 86) dX12_names_86 rfl 1 rfl ?_
      refine r_get (pc := 87) (j := 17) (v := .ref 8) oM0 cf12 flRX12_102 rfl dX12_names_87 rfl ?_
      refine r_iload_n (pc := 90) dX12_names_90 rfl 2 rfl ?_
      replace h := if_n h; obtain ⟨hb21, h⟩ := h
      refine r_iald (pc := 91) aM8 (inb_in hb21) dX12_names_91 ?_
      refine r_iconst (pc := 92) dX12_names_92 ki_1 ?_
      replace h := bn2_e h; obtain ⟨x22, w23, ew23, h⟩ := h
      refine r_cVv (pc := 93) wyX12_mustBe oM0 rfl mlRX12_622 iyX12_mustBe syX12_mustBe ⟨Nat.le_refl _, (Nat.le_of_ble_eq_true rfl)⟩ rfl rfl (Nat.le_of_ble_eq_true rfl) dX12_names_93 ((hS.1 _ _ _ _ _ _ _) ew23 (pV.mk ?_))
      exact rOR_v (pc := 96) rfl dX12_names_96 h hN
    replace h := if_t hc7 h
    refine r_aload_n (pc := 35) dX12_names_35 rfl 0 rfl ?_
    refine r_aload_n (pc := 36) dX12_names_36 rfl 0 rfl ?_
    refine r_get (pc := 37) (j := 17) (v := .ref 8) oM0 cf12 flRX12_102 rfl dX12_names_37 rfl ?_
    refine r_iload_n (pc := 40) dX12_names_40 rfl 1 rfl ?_
    replace h := if_n h; obtain ⟨hb8, h⟩ := h
    refine r_iald (pc := 41) aM8 (inb_in hb8) dX12_names_41 ?_
    refine r_iconst (pc := 42) dX12_names_42 ki_2 ?_
    replace h := bn2_e h; obtain ⟨x9, w10, ew10, h⟩ := h
    refine r_cVv (pc := 43) wyX12_mustBe oM0 rfl mlRX12_622 iyX12_mustBe syX12_mustBe ⟨Nat.le_refl _, (Nat.le_of_ble_eq_true rfl)⟩ rfl rfl (Nat.le_of_ble_eq_true rfl) dX12_names_43 ((hS.1 _ _ _ _ _ _ _) ew10 (pV.mk ?_))
    refine r_aload_n (pc := 46) dX12_names_46 rfl 0 rfl ?_
    refine r_aload_n (pc := 47) dX12_names_47 rfl 0 rfl ?_
    refine r_get (pc := 48) (j := 18) (v := .ref 9) oM0 cf12 flRX12_105 rfl dX12_names_48 rfl ?_
    refine r_iload_n (pc := 51) dX12_names_51 rfl 1 rfl ?_
    replace h := if_n h; obtain ⟨hb11, h⟩ := h
    refine r_iald (pc := 52) aM9 (inb_in hb11) dX12_names_52 ?_
    replace h := bn2_e h; obtain ⟨x12, w13, ew13, h⟩ := h
    refine r_cVv (pc := 53) wyX12_names oM0 rfl mlRX12_679 iyX12_names syX12_names ⟨Nat.le_refl _, (Nat.le_of_ble_eq_true rfl)⟩ rfl rfl (Nat.le_of_ble_eq_true rfl) dX12_names_53 ((hS.2.2.2.2.2.2.2.2.2.1 _ _ _ _ _ _) ew13 (pV.mk ?_))
    refine r_aload_n (pc := 56) dX12_names_56 rfl 0 rfl ?_
    refine r_aload_n (pc := 57) dX12_names_57 rfl 0 rfl ?_
    refine r_get (pc := 58) (j := 19) (v := .ref 10) oM0 cf12 flRX12_108 rfl dX12_names_58 rfl ?_
    refine r_iload_n (pc := 61) dX12_names_61 rfl 1 rfl ?_
    replace h := if_n h; obtain ⟨hb14, h⟩ := h
    refine r_iald (pc := 62) aM10 (inb_in hb14) dX12_names_62 ?_
    replace h := bn2_e h; obtain ⟨x15, w16, ew16, h⟩ := h
    refine r_cVv (pc := 63) wyX12_names oM0 rfl mlRX12_679 iyX12_names syX12_names ⟨Nat.le_refl _, (Nat.le_of_ble_eq_true rfl)⟩ rfl rfl (Nat.le_of_ble_eq_true rfl) dX12_names_63 ((hS.2.2.2.2.2.2.2.2.2.1 _ _ _ _ _ _) ew16 (pV.mk ?_))
    refine r_goto (pc := 66) dX12_names_66 rfl ?_
    exact rOR_v (pc := 96) rfl dX12_names_96 h hN
  replace h := if_t hc2 h
  refine r_aload_n (pc := 11) dX12_names_11 rfl 0 rfl ?_
  refine r_aload_n (pc := 12) dX12_names_12 rfl 0 rfl ?_
  refine r_get (pc := 13) (j := 17) (v := .ref 8) oM0 cf12 flRX12_102 rfl dX12_names_13 rfl ?_
  refine r_iload_n (pc := 16) dX12_names_16 rfl 1 rfl ?_
  replace h := if_n h; obtain ⟨hb3, h⟩ := h
  refine r_iald (pc := 17) aM8 (inb_in hb3) dX12_names_17 ?_
  replace h := bn2_e h; obtain ⟨x4, w5, ew5, h⟩ := h
  refine r_cVv (pc := 18) wyX12_names oM0 rfl mlRX12_679 iyX12_names syX12_names ⟨Nat.le_refl _, (Nat.le_of_ble_eq_true rfl)⟩ rfl rfl (Nat.le_of_ble_eq_true rfl) dX12_names_18 ((hS.2.2.2.2.2.2.2.2.2.1 _ _ _ _ _ _) ew5 (pV.mk ?_))
  refine r_goto (pc := 21) dX12_names_21 rfl ?_
  exact rOR_v (pc := 96) rfl dX12_names_96 h hN
/-! AlgolMillModel.loose (I)V: O, 1705 -/
theorem dX12_loose_0 : decode cX12_loose 0 = .ok (.aload_n 0, 1) := by decide +kernel
theorem dX12_loose_1 : decode cX12_loose 1 = .ok (.bipush 10, 2) := by decide +kernel
theorem dX12_loose_3 : decode cX12_loose 3 = .ok (.iconst 0, 1) := by decide +kernel
theorem dX12_loose_4 : decode cX12_loose 4 = .ok (.iconst 0, 1) := by decide +kernel
theorem dX12_loose_5 : decode cX12_loose 5 = .ok (.iconst 0, 1) := by decide +kernel
theorem dX12_loose_6 : decode cX12_loose 6 = .ok (.invokevirtual 609, 3) := by decide +kernel
theorem dX12_loose_9 : decode cX12_loose 9 = .ok (.istore_n 2, 1) := by decide +kernel
theorem dX12_loose_10 : decode cX12_loose 10 = .ok (.aload_n 0, 1) := by decide +kernel
theorem dX12_loose_11 : decode cX12_loose 11 = .ok (.getfield 214, 3) := by decide +kernel
theorem dX12_loose_14 : decode cX12_loose 14 = .ok (.iload_n 1, 1) := by decide +kernel
theorem dX12_loose_15 : decode cX12_loose 15 = .ok (.iaload, 1) := by decide +kernel
theorem dX12_loose_16 : decode cX12_loose 16 = .ok (.iconst 1, 1) := by decide +kernel
theorem dX12_loose_17 : decode cX12_loose 17 = .ok (.if_icmp .ne 12, 3) := by decide +kernel
theorem dX12_loose_20 : decode cX12_loose 20 = .ok (.aload_n 0, 1) := by decide +kernel
theorem dX12_loose_21 : decode cX12_loose 21 = .ok (.iload_n 1, 1) := by decide +kernel
theorem dX12_loose_22 : decode cX12_loose 22 = .ok (.invokevirtual 607, 3) := by decide +kernel
theorem dX12_loose_25 : decode cX12_loose 25 = .ok (.istore_n 3, 1) := by decide +kernel
theorem dX12_loose_26 : decode cX12_loose 26 = .ok (.goto 8, 3) := by decide +kernel
theorem dX12_loose_29 : decode cX12_loose 29 = .ok (.aload_n 0, 1) := by decide +kernel
theorem dX12_loose_30 : decode cX12_loose 30 = .ok (.iload_n 1, 1) := by decide +kernel
theorem dX12_loose_31 : decode cX12_loose 31 = .ok (.invokevirtual 679, 3) := by decide +kernel
theorem dX12_loose_34 : decode cX12_loose 34 = .ok (.aload_n 0, 1) := by decide +kernel
theorem dX12_loose_35 : decode cX12_loose 35 = .ok (.iload_n 2, 1) := by decide +kernel
theorem dX12_loose_36 : decode cX12_loose 36 = .ok (.invokevirtual 625, 3) := by decide +kernel
theorem dX12_loose_39 : decode cX12_loose 39 = .ok (.return_, 1) := by decide +kernel
def fX12_loose (rc : TX12_mustBe) (a1 : Int32) (w : Wd) : Option (Int32 × Wd) :=
  bn2 (fX12_op 10 0 0 0 w) fun x1 w2 => if inb a1 24000 = true then if (gi w2 45 (Int32.toNatClampNeg a1)) = 1 then (bn2 (rc 1 a1 0 0 w2) fun x5 w6 => bn (fX12_patch x1 w6) fun w7 => some (0, w7)) else (bn2 (rc 9 a1 0 0 w2) fun _ w9 => bn (fX12_patch x1 w9) fun w10 => some (0, w10)) else none
theorem pX12_loose {q : Gq} {l : Launch} {N : Option Value → Wd → Prop} {X : String → Wd → Prop} {rc : TX12_mustBe} {dd : Nat} (hS : HSX12_mustBe q l rc dd) (hK : 5 ≤ dd) {w : Wd} {R : Int32 × Wd} (hN : N none R.2) {a1 : Int32} (h : fX12_loose rc a1 w = some R) : RT (GM q) l (dd + 1) yX12_loose cX12_loose 4 (none) N X 0 [] [(0, .ref 0), (1, .int a1)] w := by
  unfold fX12_loose at h
  refine r_aload_n (pc := 0) dX12_loose_0 rfl 0 rfl ?_
  refine r_bipush (pc := 1) dX12_loose_1 kb_10 ?_
  refine r_iconst (pc := 3) dX12_loose_3 ki_0 ?_
  refine r_iconst (pc := 4) dX12_loose_4 ki_0 ?_
  refine r_iconst (pc := 5) dX12_loose_5 ki_0 ?_
  replace h := bn2_e h; obtain ⟨x1, w2, ew2, h⟩ := h
  refine r_cVi (pc := 6) wyX12_op oM0 rfl mlRX12_609 iyX12_op syX12_op ⟨Nat.succ_le_succ (Nat.le_trans (Nat.le_of_ble_eq_true rfl) hK), (Nat.le_of_ble_eq_true rfl)⟩ rfl rfl (Nat.le_of_ble_eq_true rfl) dX12_loose_6 (mX12_op ew2 (pI.mk ?_))
  refine r_istore_n (pc := 9) (loc' := [(2, .int x1), (0, .ref 0), (1, .int a1)]) dX12_loose_9 rfl (Nat.le_of_ble_eq_true rfl) rfl ?_
  refine r_aload_n (pc := 10) dX12_loose_10 rfl 1 rfl ?_
  refine r_get (pc := 11) (j := 62) (v := .ref 45) oM0 cf12 flRX12_214 rfl dX12_loose_11 rfl ?_
  refine r_iload_n (pc := 14) dX12_loose_14 rfl 2 rfl ?_
  replace h := if_n h; obtain ⟨hb3, h⟩ := h
  refine r_iald (pc := 15) aM45 (inb_in hb3) dX12_loose_15 ?_
  refine r_iconst (pc := 16) dX12_loose_16 ki_1 ?_
  refine r_icmp_ne (pc := 17) dX12_loose_17 rfl (fun hc4 => ?_) (fun hc4 => ?_)
  · replace h := if_f hc4 h
    refine r_aload_n (pc := 29) dX12_loose_29 rfl 1 rfl ?_
    refine r_iload_n (pc := 30) dX12_loose_30 rfl 2 rfl ?_
    replace h := bn2_e h; obtain ⟨x8, w9, ew9, h⟩ := h
    refine r_cVv (pc := 31) wyX12_names oM0 rfl mlRX12_679 iyX12_names syX12_names ⟨Nat.le_refl _, (Nat.le_of_ble_eq_true rfl)⟩ rfl rfl (Nat.le_of_ble_eq_true rfl) dX12_loose_31 ((hS.2.2.2.2.2.2.2.2.2.1 _ _ _ _ _ _) ew9 (pV.mk ?_))
    refine r_aload_n (pc := 34) dX12_loose_34 rfl 1 rfl ?_
    refine r_iload_n (pc := 35) dX12_loose_35 rfl 0 rfl ?_
    replace h := bn_e h; obtain ⟨w10, ew10, h⟩ := h
    refine r_cVv (pc := 36) wyX12_patch oM0 rfl mlRX12_625 iyX12_patch syX12_patch ⟨Nat.succ_le_succ (Nat.le_trans (Nat.le_of_ble_eq_true rfl) hK), (Nat.le_of_ble_eq_true rfl)⟩ rfl rfl (Nat.le_of_ble_eq_true rfl) dX12_loose_36 (mX12_patch ew10 (pV.mk ?_))
    exact rOR_v (pc := 39) rfl dX12_loose_39 h hN
  replace h := if_t hc4 h
  refine r_aload_n (pc := 20) dX12_loose_20 rfl 1 rfl ?_
  refine r_iload_n (pc := 21) dX12_loose_21 rfl 2 rfl ?_
  replace h := bn2_e h; obtain ⟨x5, w6, ew6, h⟩ := h
  refine r_cVi (pc := 22) wyX12_value oM0 rfl mlRX12_607 iyX12_value syX12_value ⟨Nat.le_refl _, (Nat.le_of_ble_eq_true rfl)⟩ rfl rfl (Nat.le_of_ble_eq_true rfl) dX12_loose_22 ((hS.2.1 _ _ _ _ _ _) ew6 (pI.mk ?_))
  refine r_istore_n (pc := 25) (loc' := [(3, .int x5), (2, .int x1), (0, .ref 0), (1, .int a1)]) dX12_loose_25 rfl (Nat.le_of_ble_eq_true rfl) rfl ?_
  refine r_goto (pc := 26) dX12_loose_26 rfl ?_
  refine r_aload_n (pc := 34) dX12_loose_34 rfl 2 rfl ?_
  refine r_iload_n (pc := 35) dX12_loose_35 rfl 1 rfl ?_
  replace h := bn_e h; obtain ⟨w7, ew7, h⟩ := h
  refine r_cVv (pc := 36) wyX12_patch oM0 rfl mlRX12_625 iyX12_patch syX12_patch ⟨Nat.succ_le_succ (Nat.le_trans (Nat.le_of_ble_eq_true rfl) hK), (Nat.le_of_ble_eq_true rfl)⟩ rfl rfl (Nat.le_of_ble_eq_true rfl) dX12_loose_36 (mX12_patch ew7 (pV.mk ?_))
  exact rOR_v (pc := 39) rfl dX12_loose_39 h hN
/-! AlgolMillModel.aimCode (I)V: O, 1705 -/
theorem dX12_aimCode_0 : decode cX12_aimCode 0 = .ok (.aload_n 0, 1) := by decide +kernel
theorem dX12_aimCode_1 : decode cX12_aimCode 1 = .ok (.getfield 99, 3) := by decide +kernel
theorem dX12_aimCode_4 : decode cX12_aimCode 4 = .ok (.iload_n 1, 1) := by decide +kernel
theorem dX12_aimCode_5 : decode cX12_aimCode 5 = .ok (.iaload, 1) := by decide +kernel
theorem dX12_aimCode_6 : decode cX12_aimCode 6 = .ok (.bipush 9, 2) := by decide +kernel
theorem dX12_aimCode_8 : decode cX12_aimCode 8 = .ok (.if_icmp .ne 14, 3) := by decide +kernel
theorem dX12_aimCode_11 : decode cX12_aimCode 11 = .ok (.aload_n 0, 1) := by decide +kernel
theorem dX12_aimCode_12 : decode cX12_aimCode 12 = .ok (.aload_n 0, 1) := by decide +kernel
theorem dX12_aimCode_13 : decode cX12_aimCode 13 = .ok (.getfield 102, 3) := by decide +kernel
theorem dX12_aimCode_16 : decode cX12_aimCode 16 = .ok (.iload_n 1, 1) := by decide +kernel
theorem dX12_aimCode_17 : decode cX12_aimCode 17 = .ok (.iaload, 1) := by decide +kernel
theorem dX12_aimCode_18 : decode cX12_aimCode 18 = .ok (.invokevirtual 670, 3) := by decide +kernel
theorem dX12_aimCode_21 : decode cX12_aimCode 21 = .ok (.return_, 1) := by decide +kernel
theorem dX12_aimCode_22 : decode cX12_aimCode 22 = .ok (.aload_n 0, 1) := by decide +kernel
theorem dX12_aimCode_23 : decode cX12_aimCode 23 = .ok (.getfield 99, 3) := by decide +kernel
theorem dX12_aimCode_26 : decode cX12_aimCode 26 = .ok (.iload_n 1, 1) := by decide +kernel
theorem dX12_aimCode_27 : decode cX12_aimCode 27 = .ok (.iaload, 1) := by decide +kernel
theorem dX12_aimCode_28 : decode cX12_aimCode 28 = .ok (.bipush 8, 2) := by decide +kernel
theorem dX12_aimCode_30 : decode cX12_aimCode 30 = .ok (.if_icmp .ne 67, 3) := by decide +kernel
theorem dX12_aimCode_33 : decode cX12_aimCode 33 = .ok (.aload_n 0, 1) := by decide +kernel
theorem dX12_aimCode_34 : decode cX12_aimCode 34 = .ok (.aload_n 0, 1) := by decide +kernel
theorem dX12_aimCode_35 : decode cX12_aimCode 35 = .ok (.getfield 102, 3) := by decide +kernel
theorem dX12_aimCode_38 : decode cX12_aimCode 38 = .ok (.iload_n 1, 1) := by decide +kernel
theorem dX12_aimCode_39 : decode cX12_aimCode 39 = .ok (.iaload, 1) := by decide +kernel
theorem dX12_aimCode_40 : decode cX12_aimCode 40 = .ok (.iconst 2, 1) := by decide +kernel
theorem dX12_aimCode_41 : decode cX12_aimCode 41 = .ok (.invokevirtual 622, 3) := by decide +kernel
theorem dX12_aimCode_44 : decode cX12_aimCode 44 = .ok (.aload_n 0, 1) := by decide +kernel
theorem dX12_aimCode_45 : decode cX12_aimCode 45 = .ok (.bipush 11, 2) := by decide +kernel
theorem dX12_aimCode_47 : decode cX12_aimCode 47 = .ok (.iconst 0, 1) := by decide +kernel
theorem dX12_aimCode_48 : decode cX12_aimCode 48 = .ok (.iconst 0, 1) := by decide +kernel
theorem dX12_aimCode_49 : decode cX12_aimCode 49 = .ok (.iconst 0, 1) := by decide +kernel
theorem dX12_aimCode_50 : decode cX12_aimCode 50 = .ok (.invokevirtual 609, 3) := by decide +kernel
theorem dX12_aimCode_53 : decode cX12_aimCode 53 = .ok (.istore_n 3, 1) := by decide +kernel
theorem dX12_aimCode_54 : decode cX12_aimCode 54 = .ok (.aload_n 0, 1) := by decide +kernel
theorem dX12_aimCode_55 : decode cX12_aimCode 55 = .ok (.aload_n 0, 1) := by decide +kernel
theorem dX12_aimCode_56 : decode cX12_aimCode 56 = .ok (.getfield 105, 3) := by decide +kernel
theorem dX12_aimCode_59 : decode cX12_aimCode 59 = .ok (.iload_n 1, 1) := by decide +kernel
theorem dX12_aimCode_60 : decode cX12_aimCode 60 = .ok (.iaload, 1) := by decide +kernel
theorem dX12_aimCode_61 : decode cX12_aimCode 61 = .ok (.invokevirtual 670, 3) := by decide +kernel
theorem dX12_aimCode_64 : decode cX12_aimCode 64 = .ok (.aload_n 0, 1) := by decide +kernel
theorem dX12_aimCode_65 : decode cX12_aimCode 65 = .ok (.bipush 10, 2) := by decide +kernel
theorem dX12_aimCode_67 : decode cX12_aimCode 67 = .ok (.iconst 0, 1) := by decide +kernel
theorem dX12_aimCode_68 : decode cX12_aimCode 68 = .ok (.iconst 0, 1) := by decide +kernel
theorem dX12_aimCode_69 : decode cX12_aimCode 69 = .ok (.iconst 0, 1) := by decide +kernel
theorem dX12_aimCode_70 : decode cX12_aimCode 70 = .ok (.invokevirtual 609, 3) := by decide +kernel
theorem dX12_aimCode_73 : decode cX12_aimCode 73 = .ok (.istore 4, 2) := by decide +kernel
theorem dX12_aimCode_75 : decode cX12_aimCode 75 = .ok (.aload_n 0, 1) := by decide +kernel
theorem dX12_aimCode_76 : decode cX12_aimCode 76 = .ok (.iload_n 3, 1) := by decide +kernel
theorem dX12_aimCode_77 : decode cX12_aimCode 77 = .ok (.invokevirtual 625, 3) := by decide +kernel
theorem dX12_aimCode_80 : decode cX12_aimCode 80 = .ok (.aload_n 0, 1) := by decide +kernel
theorem dX12_aimCode_81 : decode cX12_aimCode 81 = .ok (.aload_n 0, 1) := by decide +kernel
theorem dX12_aimCode_82 : decode cX12_aimCode 82 = .ok (.getfield 108, 3) := by decide +kernel
theorem dX12_aimCode_85 : decode cX12_aimCode 85 = .ok (.iload_n 1, 1) := by decide +kernel
theorem dX12_aimCode_86 : decode cX12_aimCode 86 = .ok (.iaload, 1) := by decide +kernel
theorem dX12_aimCode_87 : decode cX12_aimCode 87 = .ok (.invokevirtual 670, 3) := by decide +kernel
theorem dX12_aimCode_90 : decode cX12_aimCode 90 = .ok (.aload_n 0, 1) := by decide +kernel
theorem dX12_aimCode_91 : decode cX12_aimCode 91 = .ok (.iload 4, 2) := by decide +kernel
theorem dX12_aimCode_93 : decode cX12_aimCode 93 = .ok (.invokevirtual 625, 3) := by decide +kernel
theorem dX12_aimCode_96 : decode cX12_aimCode 96 = .ok (.return_, 1) := by decide +kernel
theorem dX12_aimCode_97 : decode cX12_aimCode 97 = .ok (.aload_n 0, 1) := by decide +kernel
theorem dX12_aimCode_98 : decode cX12_aimCode 98 = .ok (.getfield 99, 3) := by decide +kernel
theorem dX12_aimCode_101 : decode cX12_aimCode 101 = .ok (.iload_n 1, 1) := by decide +kernel
theorem dX12_aimCode_102 : decode cX12_aimCode 102 = .ok (.iaload, 1) := by decide +kernel
theorem dX12_aimCode_103 : decode cX12_aimCode 103 = .ok (.iconst 3, 1) := by decide +kernel
theorem dX12_aimCode_104 : decode cX12_aimCode 104 = .ok (.if_icmp .eq 40, 3) := by decide +kernel
theorem dX12_aimCode_107 : decode cX12_aimCode 107 = .ok (.aload_n 0, 1) := by decide +kernel
theorem dX12_aimCode_108 : decode cX12_aimCode 108 = .ok (.getfield 99, 3) := by decide +kernel
theorem dX12_aimCode_111 : decode cX12_aimCode 111 = .ok (.iload_n 1, 1) := by decide +kernel
theorem dX12_aimCode_112 : decode cX12_aimCode 112 = .ok (.iaload, 1) := by decide +kernel
theorem dX12_aimCode_113 : decode cX12_aimCode 113 = .ok (.iconst 4, 1) := by decide +kernel
theorem dX12_aimCode_114 : decode cX12_aimCode 114 = .ok (.if_icmp .ne 13, 3) := by decide +kernel
theorem dX12_aimCode_117 : decode cX12_aimCode 117 = .ok (.aload_n 0, 1) := by decide +kernel
theorem dX12_aimCode_118 : decode cX12_aimCode 118 = .ok (.getfield 105, 3) := by decide +kernel
theorem dX12_aimCode_121 : decode cX12_aimCode 121 = .ok (.iload_n 1, 1) := by decide +kernel
theorem dX12_aimCode_122 : decode cX12_aimCode 122 = .ok (.iaload, 1) := by decide +kernel
theorem dX12_aimCode_123 : decode cX12_aimCode 123 = .ok (.iconst 1, 1) := by decide +kernel
theorem dX12_aimCode_124 : decode cX12_aimCode 124 = .ok (.if_icmp .eq 20, 3) := by decide +kernel
theorem dX12_aimCode_127 : decode cX12_aimCode 127 = .ok (.aload_n 0, 1) := by decide +kernel
theorem dX12_aimCode_128 : decode cX12_aimCode 128 = .ok (.iconst 4, 1) := by decide +kernel
theorem dX12_aimCode_129 : decode cX12_aimCode 129 = .ok (.aload_n 0, 1) := by decide +kernel
theorem dX12_aimCode_130 : decode cX12_aimCode 130 = .ok (.getfield 114, 3) := by decide +kernel
theorem dX12_aimCode_133 : decode cX12_aimCode 133 = .ok (.iload_n 1, 1) := by decide +kernel
theorem dX12_aimCode_134 : decode cX12_aimCode 134 = .ok (.iaload, 1) := by decide +kernel
theorem dX12_aimCode_135 : decode cX12_aimCode 135 = .ok (.invokevirtual 484, 3) := by decide +kernel
theorem dX12_aimCode_138 : decode cX12_aimCode 138 = .ok (.aload_n 0, 1) := by decide +kernel
theorem dX12_aimCode_139 : decode cX12_aimCode 139 = .ok (.iload_n 1, 1) := by decide +kernel
theorem dX12_aimCode_140 : decode cX12_aimCode 140 = .ok (.invokevirtual 673, 3) := by decide +kernel
theorem dX12_aimCode_143 : decode cX12_aimCode 143 = .ok (.return_, 1) := by decide +kernel
theorem dX12_aimCode_144 : decode cX12_aimCode 144 = .ok (.aload_n 0, 1) := by decide +kernel
theorem dX12_aimCode_145 : decode cX12_aimCode 145 = .ok (.iload_n 1, 1) := by decide +kernel
theorem dX12_aimCode_146 : decode cX12_aimCode 146 = .ok (.invokevirtual 638, 3) := by decide +kernel
theorem dX12_aimCode_149 : decode cX12_aimCode 149 = .ok (.istore_n 3, 1) := by decide +kernel
theorem dX12_aimCode_150 : decode cX12_aimCode 150 = .ok (.aload_n 0, 1) := by decide +kernel
theorem dX12_aimCode_151 : decode cX12_aimCode 151 = .ok (.getfield 99, 3) := by decide +kernel
theorem dX12_aimCode_154 : decode cX12_aimCode 154 = .ok (.iload_n 1, 1) := by decide +kernel
theorem dX12_aimCode_155 : decode cX12_aimCode 155 = .ok (.iaload, 1) := by decide +kernel
theorem dX12_aimCode_156 : decode cX12_aimCode 156 = .ok (.iconst 4, 1) := by decide +kernel
theorem dX12_aimCode_157 : decode cX12_aimCode 157 = .ok (.if_icmp .ne 100, 3) := by decide +kernel
theorem dX12_aimCode_160 : decode cX12_aimCode 160 = .ok (.aload_n 0, 1) := by decide +kernel
theorem dX12_aimCode_161 : decode cX12_aimCode 161 = .ok (.aload_n 0, 1) := by decide +kernel
theorem dX12_aimCode_162 : decode cX12_aimCode 162 = .ok (.getfield 102, 3) := by decide +kernel
theorem dX12_aimCode_165 : decode cX12_aimCode 165 = .ok (.iload_n 1, 1) := by decide +kernel
theorem dX12_aimCode_166 : decode cX12_aimCode 166 = .ok (.iaload, 1) := by decide +kernel
theorem dX12_aimCode_167 : decode cX12_aimCode 167 = .ok (.iconst 1, 1) := by decide +kernel
theorem dX12_aimCode_168 : decode cX12_aimCode 168 = .ok (.invokevirtual 622, 3) := by decide +kernel
theorem dX12_aimCode_171 : decode cX12_aimCode 171 = .ok (.iload_n 3, 1) := by decide +kernel
theorem dX12_aimCode_172 : decode cX12_aimCode 172 = .ok (.ifCond .ge 4, 3) := by decide +kernel
theorem dX12_aimCode_175 : decode cX12_aimCode 175 = .ok (.return_, 1) := by decide +kernel
theorem dX12_aimCode_176 : decode cX12_aimCode 176 = .ok (.aload_n 0, 1) := by decide +kernel
theorem dX12_aimCode_177 : decode cX12_aimCode 177 = .ok (.iload_n 3, 1) := by decide +kernel
theorem dX12_aimCode_178 : decode cX12_aimCode 178 = .ok (.iconst 5, 1) := by decide +kernel
theorem dX12_aimCode_179 : decode cX12_aimCode 179 = .ok (.invokevirtual 644, 3) := by decide +kernel
theorem dX12_aimCode_182 : decode cX12_aimCode 182 = .ok (.istore 4, 2) := by decide +kernel
theorem dX12_aimCode_184 : decode cX12_aimCode 184 = .ok (.aload_n 0, 1) := by decide +kernel
theorem dX12_aimCode_185 : decode cX12_aimCode 185 = .ok (.getfield 135, 3) := by decide +kernel
theorem dX12_aimCode_188 : decode cX12_aimCode 188 = .ok (.iload_n 3, 1) := by decide +kernel
theorem dX12_aimCode_189 : decode cX12_aimCode 189 = .ok (.iaload, 1) := by decide +kernel
theorem dX12_aimCode_190 : decode cX12_aimCode 190 = .ok (.iconst 5, 1) := by decide +kernel
theorem dX12_aimCode_191 : decode cX12_aimCode 191 = .ok (.if_icmp .eq 35, 3) := by decide +kernel
theorem dX12_aimCode_194 : decode cX12_aimCode 194 = .ok (.iload 4, 2) := by decide +kernel
theorem dX12_aimCode_196 : decode cX12_aimCode 196 = .ok (.ifCond .ne 30, 3) := by decide +kernel
theorem dX12_aimCode_199 : decode cX12_aimCode 199 = .ok (.aload_n 0, 1) := by decide +kernel
theorem dX12_aimCode_200 : decode cX12_aimCode 200 = .ok (.getfield 135, 3) := by decide +kernel
theorem dX12_aimCode_203 : decode cX12_aimCode 203 = .ok (.iload_n 3, 1) := by decide +kernel
theorem dX12_aimCode_204 : decode cX12_aimCode 204 = .ok (.iaload, 1) := by decide +kernel
theorem dX12_aimCode_205 : decode cX12_aimCode 205 = .ok (.bipush 6, 2) := by decide +kernel
theorem dX12_aimCode_207 : decode cX12_aimCode 207 = .ok (.if_icmp .ne 12, 3) := by decide +kernel
theorem dX12_aimCode_210 : decode cX12_aimCode 210 = .ok (.aload_n 0, 1) := by decide +kernel
theorem dX12_aimCode_211 : decode cX12_aimCode 211 = .ok (.getfield 150, 3) := by decide +kernel
theorem dX12_aimCode_214 : decode cX12_aimCode 214 = .ok (.iload_n 3, 1) := by decide +kernel
theorem dX12_aimCode_215 : decode cX12_aimCode 215 = .ok (.iaload, 1) := by decide +kernel
theorem dX12_aimCode_216 : decode cX12_aimCode 216 = .ok (.ifCond .eq 9, 3) := by decide +kernel
theorem dX12_aimCode_219 : decode cX12_aimCode 219 = .ok (.aload_n 0, 1) := by decide +kernel
theorem dX12_aimCode_220 : decode cX12_aimCode 220 = .ok (.iload_n 1, 1) := by decide +kernel
theorem dX12_aimCode_221 : decode cX12_aimCode 221 = .ok (.invokevirtual 648, 3) := by decide +kernel
theorem dX12_aimCode_224 : decode cX12_aimCode 224 = .ok (.istore_n 2, 1) := by decide +kernel
theorem dX12_aimCode_225 : decode cX12_aimCode 225 = .ok (.return_, 1) := by decide +kernel
theorem dX12_aimCode_226 : decode cX12_aimCode 226 = .ok (.aload_n 0, 1) := by decide +kernel
theorem dX12_aimCode_227 : decode cX12_aimCode 227 = .ok (.bipush 21, 2) := by decide +kernel
theorem dX12_aimCode_229 : decode cX12_aimCode 229 = .ok (.aload_n 0, 1) := by decide +kernel
theorem dX12_aimCode_230 : decode cX12_aimCode 230 = .ok (.iload_n 3, 1) := by decide +kernel
theorem dX12_aimCode_231 : decode cX12_aimCode 231 = .ok (.invokevirtual 641, 3) := by decide +kernel
theorem dX12_aimCode_234 : decode cX12_aimCode 234 = .ok (.iload 4, 2) := by decide +kernel
theorem dX12_aimCode_236 : decode cX12_aimCode 236 = .ok (.ifCond .eq 14, 3) := by decide +kernel
theorem dX12_aimCode_239 : decode cX12_aimCode 239 = .ok (.iconst (-1), 1) := by decide +kernel
theorem dX12_aimCode_240 : decode cX12_aimCode 240 = .ok (.aload_n 0, 1) := by decide +kernel
theorem dX12_aimCode_241 : decode cX12_aimCode 241 = .ok (.getfield 156, 3) := by decide +kernel
theorem dX12_aimCode_244 : decode cX12_aimCode 244 = .ok (.iload_n 3, 1) := by decide +kernel
theorem dX12_aimCode_245 : decode cX12_aimCode 245 = .ok (.iaload, 1) := by decide +kernel
theorem dX12_aimCode_246 : decode cX12_aimCode 246 = .ok (.isub, 1) := by decide +kernel
theorem dX12_aimCode_247 : decode cX12_aimCode 247 = .ok (.goto 4, 3) := by decide +kernel
theorem dX12_aimCode_250 : decode cX12_aimCode 250 = .ok (.iload_n 3, 1) := by decide +kernel
theorem dX12_aimCode_251 : decode cX12_aimCode 251 = .ok (.iconst 0, 1) := by decide +kernel
theorem dX12_aimCode_252 : decode cX12_aimCode 252 = .ok (.invokevirtual 609, 3) := by decide +kernel
theorem dX12_aimCode_255 : decode cX12_aimCode 255 = .ok (.istore_n 2, 1) := by decide +kernel
theorem dX12_aimCode_256 : decode cX12_aimCode 256 = .ok (.return_, 1) := by decide +kernel
theorem dX12_aimCode_257 : decode cX12_aimCode 257 = .ok (.iload_n 3, 1) := by decide +kernel
theorem dX12_aimCode_258 : decode cX12_aimCode 258 = .ok (.ifCond .ge 4, 3) := by decide +kernel
theorem dX12_aimCode_261 : decode cX12_aimCode 261 = .ok (.return_, 1) := by decide +kernel
theorem dX12_aimCode_262 : decode cX12_aimCode 262 = .ok (.aload_n 0, 1) := by decide +kernel
theorem dX12_aimCode_263 : decode cX12_aimCode 263 = .ok (.getfield 135, 3) := by decide +kernel
theorem dX12_aimCode_266 : decode cX12_aimCode 266 = .ok (.iload_n 3, 1) := by decide +kernel
theorem dX12_aimCode_267 : decode cX12_aimCode 267 = .ok (.iaload, 1) := by decide +kernel
theorem dX12_aimCode_268 : decode cX12_aimCode 268 = .ok (.iconst 4, 1) := by decide +kernel
theorem dX12_aimCode_269 : decode cX12_aimCode 269 = .ok (.if_icmp .ne 20, 3) := by decide +kernel
theorem dX12_aimCode_272 : decode cX12_aimCode 272 = .ok (.aload_n 0, 1) := by decide +kernel
theorem dX12_aimCode_273 : decode cX12_aimCode 273 = .ok (.bipush 20, 2) := by decide +kernel
theorem dX12_aimCode_275 : decode cX12_aimCode 275 = .ok (.iload_n 3, 1) := by decide +kernel
theorem dX12_aimCode_276 : decode cX12_aimCode 276 = .ok (.aload_n 0, 1) := by decide +kernel
theorem dX12_aimCode_277 : decode cX12_aimCode 277 = .ok (.iload_n 3, 1) := by decide +kernel
theorem dX12_aimCode_278 : decode cX12_aimCode 278 = .ok (.invokevirtual 641, 3) := by decide +kernel
theorem dX12_aimCode_281 : decode cX12_aimCode 281 = .ok (.iconst 0, 1) := by decide +kernel
theorem dX12_aimCode_282 : decode cX12_aimCode 282 = .ok (.invokevirtual 609, 3) := by decide +kernel
theorem dX12_aimCode_285 : decode cX12_aimCode 285 = .ok (.istore_n 2, 1) := by decide +kernel
theorem dX12_aimCode_286 : decode cX12_aimCode 286 = .ok (.goto 60, 3) := by decide +kernel
theorem dX12_aimCode_289 : decode cX12_aimCode 289 = .ok (.aload_n 0, 1) := by decide +kernel
theorem dX12_aimCode_290 : decode cX12_aimCode 290 = .ok (.iload_n 3, 1) := by decide +kernel
theorem dX12_aimCode_291 : decode cX12_aimCode 291 = .ok (.iconst 4, 1) := by decide +kernel
theorem dX12_aimCode_292 : decode cX12_aimCode 292 = .ok (.invokevirtual 644, 3) := by decide +kernel
theorem dX12_aimCode_295 : decode cX12_aimCode 295 = .ok (.ifCond .eq 25, 3) := by decide +kernel
theorem dX12_aimCode_298 : decode cX12_aimCode 298 = .ok (.aload_n 0, 1) := by decide +kernel
theorem dX12_aimCode_299 : decode cX12_aimCode 299 = .ok (.bipush 22, 2) := by decide +kernel
theorem dX12_aimCode_301 : decode cX12_aimCode 301 = .ok (.aload_n 0, 1) := by decide +kernel
theorem dX12_aimCode_302 : decode cX12_aimCode 302 = .ok (.iload_n 3, 1) := by decide +kernel
theorem dX12_aimCode_303 : decode cX12_aimCode 303 = .ok (.invokevirtual 641, 3) := by decide +kernel
theorem dX12_aimCode_306 : decode cX12_aimCode 306 = .ok (.aload_n 0, 1) := by decide +kernel
theorem dX12_aimCode_307 : decode cX12_aimCode 307 = .ok (.getfield 156, 3) := by decide +kernel
theorem dX12_aimCode_310 : decode cX12_aimCode 310 = .ok (.iload_n 3, 1) := by decide +kernel
theorem dX12_aimCode_311 : decode cX12_aimCode 311 = .ok (.iaload, 1) := by decide +kernel
theorem dX12_aimCode_312 : decode cX12_aimCode 312 = .ok (.iconst 0, 1) := by decide +kernel
theorem dX12_aimCode_313 : decode cX12_aimCode 313 = .ok (.invokevirtual 609, 3) := by decide +kernel
theorem dX12_aimCode_316 : decode cX12_aimCode 316 = .ok (.istore_n 2, 1) := by decide +kernel
theorem dX12_aimCode_317 : decode cX12_aimCode 317 = .ok (.goto 29, 3) := by decide +kernel
theorem dX12_aimCode_320 : decode cX12_aimCode 320 = .ok (.aload_n 0, 1) := by decide +kernel
theorem dX12_aimCode_321 : decode cX12_aimCode 321 = .ok (.getfield 135, 3) := by decide +kernel
theorem dX12_aimCode_324 : decode cX12_aimCode 324 = .ok (.iload_n 3, 1) := by decide +kernel
theorem dX12_aimCode_325 : decode cX12_aimCode 325 = .ok (.iaload, 1) := by decide +kernel
theorem dX12_aimCode_326 : decode cX12_aimCode 326 = .ok (.bipush 6, 2) := by decide +kernel
theorem dX12_aimCode_328 : decode cX12_aimCode 328 = .ok (.if_icmp .ne 12, 3) := by decide +kernel
theorem dX12_aimCode_331 : decode cX12_aimCode 331 = .ok (.aload_n 0, 1) := by decide +kernel
theorem dX12_aimCode_332 : decode cX12_aimCode 332 = .ok (.getfield 150, 3) := by decide +kernel
theorem dX12_aimCode_335 : decode cX12_aimCode 335 = .ok (.iload_n 3, 1) := by decide +kernel
theorem dX12_aimCode_336 : decode cX12_aimCode 336 = .ok (.iaload, 1) := by decide +kernel
theorem dX12_aimCode_337 : decode cX12_aimCode 337 = .ok (.ifCond .eq 9, 3) := by decide +kernel
theorem dX12_aimCode_340 : decode cX12_aimCode 340 = .ok (.aload_n 0, 1) := by decide +kernel
theorem dX12_aimCode_341 : decode cX12_aimCode 341 = .ok (.iload_n 1, 1) := by decide +kernel
theorem dX12_aimCode_342 : decode cX12_aimCode 342 = .ok (.invokevirtual 648, 3) := by decide +kernel
theorem dX12_aimCode_345 : decode cX12_aimCode 345 = .ok (.istore_n 2, 1) := by decide +kernel
theorem dX12_aimCode_346 : decode cX12_aimCode 346 = .ok (.return_, 1) := by decide +kernel
def fX12_aimCode_226 (rc : TX12_mustBe) (a3 : Int32) (a4 : Bool) (w : Wd) : Option (Int32 × Wd) :=
  bn2 (fX12_up a3 w) fun x1 w2 => if a4 = true then (if inb a3 5000 = true then bn2 (fX12_op 21 x1 ((-1) - (gi w2 26 (Int32.toNatClampNeg a3))) 0 w2) fun x5 w6 => some (0, w6) else none) else (bn2 (fX12_op 21 x1 a3 0 w2) fun x7 w8 => some (0, w8))
theorem pX12_aimCode_226 {q : Gq} {l : Launch} {N : Option Value → Wd → Prop} {X : String → Wd → Prop} {rc : TX12_mustBe} {dd : Nat} (hS : HSX12_mustBe q l rc dd) (hK : 5 ≤ dd) {w : Wd} {R : Int32 × Wd} (hN : N none R.2) {a3 : Int32} {a4 : Bool} (h : fX12_aimCode_226 rc a3 a4 w = some R) : RT (GM q) l (dd + 1) yX12_aimCode cX12_aimCode 5 (none) N X 226 [] [(0, .ref 0), (3, .int a3), (4, .int (b2i a4))] w := by
  unfold fX12_aimCode_226 at h
  refine r_aload_n (pc := 226) dX12_aimCode_226 rfl 0 rfl ?_
  refine r_bipush (pc := 227) dX12_aimCode_227 kb_21 ?_
  refine r_aload_n (pc := 229) dX12_aimCode_229 rfl 0 rfl ?_
  refine r_iload_n (pc := 230) dX12_aimCode_230 rfl 1 rfl ?_
  replace h := bn2_e h; obtain ⟨x1, w2, ew2, h⟩ := h
  refine r_cVi (pc := 231) wyX12_up oM0 rfl mlRX12_641 iyX12_up syX12_up ⟨Nat.succ_le_succ (Nat.le_trans (Nat.le_of_ble_eq_true rfl) hK), (Nat.le_of_ble_eq_true rfl)⟩ rfl rfl (Nat.le_of_ble_eq_true rfl) dX12_aimCode_231 (mX12_up ew2 (pI.mk ?_))
  refine r_iload (pc := 234) dX12_aimCode_234 2 rfl ?_
  refine r_z_eq (pc := 236) dX12_aimCode_236 rfl (fun hc3 => ?_) (fun hc3 => ?_)
  · replace h := if_f hc3 h
    refine r_iload_n (pc := 250) dX12_aimCode_250 rfl 1 rfl ?_
    refine r_iconst (pc := 251) dX12_aimCode_251 ki_0 ?_
    replace h := bn2_e h; obtain ⟨x7, w8, ew8, h⟩ := h
    refine r_cVi (pc := 252) wyX12_op oM0 rfl mlRX12_609 iyX12_op syX12_op ⟨Nat.succ_le_succ (Nat.le_trans (Nat.le_of_ble_eq_true rfl) hK), (Nat.le_of_ble_eq_true rfl)⟩ rfl rfl (Nat.le_of_ble_eq_true rfl) dX12_aimCode_252 (mX12_op ew8 (pI.mk ?_))
    refine r_istore_n (pc := 255) (loc' := [(2, .int x7), (0, .ref 0), (3, .int a3), (4, .int (b2i a4))]) dX12_aimCode_255 rfl (Nat.le_of_ble_eq_true rfl) rfl ?_
    exact rOR_v (pc := 256) rfl dX12_aimCode_256 h hN
  replace h := if_t hc3 h
  refine r_iconst (pc := 239) dX12_aimCode_239 ki_m1 ?_
  refine r_aload_n (pc := 240) dX12_aimCode_240 rfl 0 rfl ?_
  refine r_get (pc := 241) (j := 39) (v := .ref 26) oM0 cf12 flRX12_156 rfl dX12_aimCode_241 rfl ?_
  refine r_iload_n (pc := 244) dX12_aimCode_244 rfl 1 rfl ?_
  replace h := if_n h; obtain ⟨hb4, h⟩ := h
  refine r_iald (pc := 245) aM26 (inb_in hb4) dX12_aimCode_245 ?_
  refine r_isub (pc := 246) dX12_aimCode_246 ?_
  refine r_goto (pc := 247) dX12_aimCode_247 rfl ?_
  refine r_iconst (pc := 251) dX12_aimCode_251 ki_0 ?_
  replace h := bn2_e h; obtain ⟨x5, w6, ew6, h⟩ := h
  refine r_cVi (pc := 252) wyX12_op oM0 rfl mlRX12_609 iyX12_op syX12_op ⟨Nat.succ_le_succ (Nat.le_trans (Nat.le_of_ble_eq_true rfl) hK), (Nat.le_of_ble_eq_true rfl)⟩ rfl rfl (Nat.le_of_ble_eq_true rfl) dX12_aimCode_252 (mX12_op ew6 (pI.mk ?_))
  refine r_istore_n (pc := 255) (loc' := [(2, .int x5), (0, .ref 0), (3, .int a3), (4, .int (b2i a4))]) dX12_aimCode_255 rfl (Nat.le_of_ble_eq_true rfl) rfl ?_
  exact rOR_v (pc := 256) rfl dX12_aimCode_256 h hN
def fX12_aimCode_144 (rc : TX12_mustBe) (a1 : Int32) (w : Wd) : Option (Int32 × Wd) :=
  bn2 (fX12_seen a1 w) fun x1 w2 => if inb a1 24000 = true then if (gi w2 7 (Int32.toNatClampNeg a1)) = 4 then (if inb a1 24000 = true then bn2 (rc 0 (gi w2 8 (Int32.toNatClampNeg a1)) 1 0 w2) fun _ w7 => if 0 ≤ x1 then (bn2 (fX12_isFormal x1 5 w7) fun x9 w10 => if inb x1 5000 = true then if (gi w10 19 (Int32.toNatClampNeg x1)) = 5 then (fX12_aimCode_226 rc x1 x9 w10) else (if x9 = true then (fX12_aimCode_226 rc x1 x9 w10) else (if inb x1 5000 = true then if (gi w10 19 (Int32.toNatClampNeg x1)) = 6 then (if inb x1 5000 = true then if (gi w10 24 (Int32.toNatClampNeg x1)) = 0 then (some (0, w10)) else (bn2 (fX12_wrongName a1 w10) fun x18 w19 => some (0, w19)) else none) else (bn2 (fX12_wrongName a1 w10) fun x20 w21 => some (0, w21)) else none)) else none) else (some (0, w7)) else none) else (if 0 ≤ x1 then (if inb x1 5000 = true then if (gi w2 19 (Int32.toNatClampNeg x1)) = 4 then (bn2 (fX12_up x1 w2) fun x25 w26 => bn2 (fX12_op 20 x1 x25 0 w26) fun x27 w28 => some (0, w28)) else (bn2 (fX12_isFormal x1 4 w2) fun x29 w30 => if x29 = true then (bn2 (fX12_up x1 w30) fun x32 w33 => if inb x1 5000 = true then bn2 (fX12_op 22 x32 (gi w33 26 (Int32.toNatClampNeg x1)) 0 w33) fun x35 w36 => some (0, w36) else none) else (if inb x1 5000 = true then if (gi w30 19 (Int32.toNatClampNeg x1)) = 6 then (if inb x1 5000 = true then if (gi w30 24 (Int32.toNatClampNeg x1)) = 0 then (some (0, w30)) else (bn2 (fX12_wrongName a1 w30) fun x41 w42 => some (0, w42)) else none) else (bn2 (fX12_wrongName a1 w30) fun x43 w44 => some (0, w44)) else none)) else none) else (some (0, w2))) else none
set_option maxHeartbeats 16000000 in
theorem pX12_aimCode_144 {q : Gq} {l : Launch} {N : Option Value → Wd → Prop} {X : String → Wd → Prop} {rc : TX12_mustBe} {dd : Nat} (hS : HSX12_mustBe q l rc dd) (hK : 5 ≤ dd) {w : Wd} {R : Int32 × Wd} (hN : N none R.2) {a1 : Int32} (h : fX12_aimCode_144 rc a1 w = some R) : RT (GM q) l (dd + 1) yX12_aimCode cX12_aimCode 5 (none) N X 144 [] [(0, .ref 0), (1, .int a1)] w := by
  unfold fX12_aimCode_144 at h
  refine r_aload_n (pc := 144) dX12_aimCode_144 rfl 0 rfl ?_
  refine r_iload_n (pc := 145) dX12_aimCode_145 rfl 1 rfl ?_
  replace h := bn2_e h; obtain ⟨x1, w2, ew2, h⟩ := h
  refine r_cVi (pc := 146) wyX12_seen oM0 rfl mlRX12_638 iyX12_seen syX12_seen ⟨Nat.succ_le_succ (Nat.le_trans (Nat.le_of_ble_eq_true rfl) hK), (Nat.le_of_ble_eq_true rfl)⟩ rfl rfl (Nat.le_of_ble_eq_true rfl) dX12_aimCode_146 (mX12_seen ew2 (pI.mk ?_))
  refine r_istore_n (pc := 149) (loc' := [(3, .int x1), (0, .ref 0), (1, .int a1)]) dX12_aimCode_149 rfl (Nat.le_of_ble_eq_true rfl) rfl ?_
  refine r_aload_n (pc := 150) dX12_aimCode_150 rfl 1 rfl ?_
  refine r_get (pc := 151) (j := 16) (v := .ref 7) oM0 cf12 flRX12_99 rfl dX12_aimCode_151 rfl ?_
  refine r_iload_n (pc := 154) dX12_aimCode_154 rfl 2 rfl ?_
  replace h := if_n h; obtain ⟨hb3, h⟩ := h
  refine r_iald (pc := 155) aM7 (inb_in hb3) dX12_aimCode_155 ?_
  refine r_iconst (pc := 156) dX12_aimCode_156 ki_4 ?_
  refine r_icmp_ne (pc := 157) dX12_aimCode_157 rfl (fun hc4 => ?_) (fun hc4 => ?_)
  · replace h := if_f hc4 h
    refine r_iload_n (pc := 257) dX12_aimCode_257 rfl 0 rfl ?_
    refine r_if_ge (pc := 258) dX12_aimCode_258 rfl (fun hc22 => ?_) (fun hc22 => ?_)
    · replace h := if_t hc22 h
      refine r_aload_n (pc := 262) dX12_aimCode_262 rfl 1 rfl ?_
      refine r_get (pc := 263) (j := 32) (v := .ref 19) oM0 cf12 flRX12_135 rfl dX12_aimCode_263 rfl ?_
      refine r_iload_n (pc := 266) dX12_aimCode_266 rfl 0 rfl ?_
      replace h := if_n h; obtain ⟨hb23, h⟩ := h
      refine r_iald (pc := 267) aM19 (inb_in hb23) dX12_aimCode_267 ?_
      refine r_iconst (pc := 268) dX12_aimCode_268 ki_4 ?_
      refine r_icmp_ne (pc := 269) dX12_aimCode_269 rfl (fun hc24 => ?_) (fun hc24 => ?_)
      · replace h := if_f hc24 h
        refine r_aload_n (pc := 289) dX12_aimCode_289 rfl 1 rfl ?_
        refine r_iload_n (pc := 290) dX12_aimCode_290 rfl 0 rfl ?_
        refine r_iconst (pc := 291) dX12_aimCode_291 ki_4 ?_
        replace h := bn2_e h; obtain ⟨x29, w30, ew30, h⟩ := h
        refine r_cVi (pc := 292) wyX12_isFormal oM0 rfl mlRX12_644 iyX12_isFormal syX12_isFormal ⟨Nat.succ_le_succ (Nat.le_trans (Nat.le_of_ble_eq_true rfl) hK), (Nat.le_of_ble_eq_true rfl)⟩ rfl rfl (Nat.le_of_ble_eq_true rfl) dX12_aimCode_292 (mX12_isFormal ew30 (pI.mk ?_))
        refine r_z_eq (pc := 295) dX12_aimCode_295 rfl (fun hc31 => ?_) (fun hc31 => ?_)
        · replace h := if_f hc31 h
          refine r_aload_n (pc := 320) dX12_aimCode_320 rfl 1 rfl ?_
          refine r_get (pc := 321) (j := 32) (v := .ref 19) oM0 cf12 flRX12_135 rfl dX12_aimCode_321 rfl ?_
          refine r_iload_n (pc := 324) dX12_aimCode_324 rfl 0 rfl ?_
          replace h := if_n h; obtain ⟨hb37, h⟩ := h
          refine r_iald (pc := 325) aM19 (inb_in hb37) dX12_aimCode_325 ?_
          refine r_bipush (pc := 326) dX12_aimCode_326 kb_6 ?_
          refine r_icmp_ne (pc := 328) dX12_aimCode_328 rfl (fun hc38 => ?_) (fun hc38 => ?_)
          · replace h := if_f hc38 h
            refine r_aload_n (pc := 340) dX12_aimCode_340 rfl 1 rfl ?_
            refine r_iload_n (pc := 341) dX12_aimCode_341 rfl 2 rfl ?_
            replace h := bn2_e h; obtain ⟨x43, w44, ew44, h⟩ := h
            refine r_cVi (pc := 342) wyX12_wrongName oM0 rfl mlRX12_648 iyX12_wrongName syX12_wrongName ⟨Nat.succ_le_succ (Nat.le_trans (Nat.le_of_ble_eq_true rfl) hK), (Nat.le_of_ble_eq_true rfl)⟩ rfl rfl (Nat.le_of_ble_eq_true rfl) dX12_aimCode_342 (mX12_wrongName ew44 (pI.mk ?_))
            refine r_istore_n (pc := 345) (loc' := [(2, .int x43), (3, .int x1), (0, .ref 0), (1, .int a1)]) dX12_aimCode_345 rfl (Nat.le_of_ble_eq_true rfl) rfl ?_
            exact rOR_v (pc := 346) rfl dX12_aimCode_346 h hN
          replace h := if_t hc38 h
          refine r_aload_n (pc := 331) dX12_aimCode_331 rfl 1 rfl ?_
          refine r_get (pc := 332) (j := 37) (v := .ref 24) oM0 cf12 flRX12_150 rfl dX12_aimCode_332 rfl ?_
          refine r_iload_n (pc := 335) dX12_aimCode_335 rfl 0 rfl ?_
          replace h := if_n h; obtain ⟨hb39, h⟩ := h
          refine r_iald (pc := 336) aM24 (inb_in hb39) dX12_aimCode_336 ?_
          refine r_if_eq (pc := 337) dX12_aimCode_337 rfl (fun hc40 => ?_) (fun hc40 => ?_)
          · replace h := if_t hc40 h
            exact rOR_v (pc := 346) rfl dX12_aimCode_346 h hN
          replace h := if_f hc40 h
          refine r_aload_n (pc := 340) dX12_aimCode_340 rfl 1 rfl ?_
          refine r_iload_n (pc := 341) dX12_aimCode_341 rfl 2 rfl ?_
          replace h := bn2_e h; obtain ⟨x41, w42, ew42, h⟩ := h
          refine r_cVi (pc := 342) wyX12_wrongName oM0 rfl mlRX12_648 iyX12_wrongName syX12_wrongName ⟨Nat.succ_le_succ (Nat.le_trans (Nat.le_of_ble_eq_true rfl) hK), (Nat.le_of_ble_eq_true rfl)⟩ rfl rfl (Nat.le_of_ble_eq_true rfl) dX12_aimCode_342 (mX12_wrongName ew42 (pI.mk ?_))
          refine r_istore_n (pc := 345) (loc' := [(2, .int x41), (3, .int x1), (0, .ref 0), (1, .int a1)]) dX12_aimCode_345 rfl (Nat.le_of_ble_eq_true rfl) rfl ?_
          exact rOR_v (pc := 346) rfl dX12_aimCode_346 h hN
        replace h := if_t hc31 h
        refine r_aload_n (pc := 298) dX12_aimCode_298 rfl 1 rfl ?_
        refine r_bipush (pc := 299) dX12_aimCode_299 kb_22 ?_
        refine r_aload_n (pc := 301) dX12_aimCode_301 rfl 1 rfl ?_
        refine r_iload_n (pc := 302) dX12_aimCode_302 rfl 0 rfl ?_
        replace h := bn2_e h; obtain ⟨x32, w33, ew33, h⟩ := h
        refine r_cVi (pc := 303) wyX12_up oM0 rfl mlRX12_641 iyX12_up syX12_up ⟨Nat.succ_le_succ (Nat.le_trans (Nat.le_of_ble_eq_true rfl) hK), (Nat.le_of_ble_eq_true rfl)⟩ rfl rfl (Nat.le_of_ble_eq_true rfl) dX12_aimCode_303 (mX12_up ew33 (pI.mk ?_))
        refine r_aload_n (pc := 306) dX12_aimCode_306 rfl 1 rfl ?_
        refine r_get (pc := 307) (j := 39) (v := .ref 26) oM0 cf12 flRX12_156 rfl dX12_aimCode_307 rfl ?_
        refine r_iload_n (pc := 310) dX12_aimCode_310 rfl 0 rfl ?_
        replace h := if_n h; obtain ⟨hb34, h⟩ := h
        refine r_iald (pc := 311) aM26 (inb_in hb34) dX12_aimCode_311 ?_
        refine r_iconst (pc := 312) dX12_aimCode_312 ki_0 ?_
        replace h := bn2_e h; obtain ⟨x35, w36, ew36, h⟩ := h
        refine r_cVi (pc := 313) wyX12_op oM0 rfl mlRX12_609 iyX12_op syX12_op ⟨Nat.succ_le_succ (Nat.le_trans (Nat.le_of_ble_eq_true rfl) hK), (Nat.le_of_ble_eq_true rfl)⟩ rfl rfl (Nat.le_of_ble_eq_true rfl) dX12_aimCode_313 (mX12_op ew36 (pI.mk ?_))
        refine r_istore_n (pc := 316) (loc' := [(2, .int x35), (3, .int x1), (0, .ref 0), (1, .int a1)]) dX12_aimCode_316 rfl (Nat.le_of_ble_eq_true rfl) rfl ?_
        refine r_goto (pc := 317) dX12_aimCode_317 rfl ?_
        exact rOR_v (pc := 346) rfl dX12_aimCode_346 h hN
      replace h := if_t hc24 h
      refine r_aload_n (pc := 272) dX12_aimCode_272 rfl 1 rfl ?_
      refine r_bipush (pc := 273) dX12_aimCode_273 kb_20 ?_
      refine r_iload_n (pc := 275) dX12_aimCode_275 rfl 0 rfl ?_
      refine r_aload_n (pc := 276) dX12_aimCode_276 rfl 1 rfl ?_
      refine r_iload_n (pc := 277) dX12_aimCode_277 rfl 0 rfl ?_
      replace h := bn2_e h; obtain ⟨x25, w26, ew26, h⟩ := h
      refine r_cVi (pc := 278) wyX12_up oM0 rfl mlRX12_641 iyX12_up syX12_up ⟨Nat.succ_le_succ (Nat.le_trans (Nat.le_of_ble_eq_true rfl) hK), (Nat.le_of_ble_eq_true rfl)⟩ rfl rfl (Nat.le_of_ble_eq_true rfl) dX12_aimCode_278 (mX12_up ew26 (pI.mk ?_))
      refine r_iconst (pc := 281) dX12_aimCode_281 ki_0 ?_
      replace h := bn2_e h; obtain ⟨x27, w28, ew28, h⟩ := h
      refine r_cVi (pc := 282) wyX12_op oM0 rfl mlRX12_609 iyX12_op syX12_op ⟨Nat.succ_le_succ (Nat.le_trans (Nat.le_of_ble_eq_true rfl) hK), (Nat.le_of_ble_eq_true rfl)⟩ rfl rfl (Nat.le_of_ble_eq_true rfl) dX12_aimCode_282 (mX12_op ew28 (pI.mk ?_))
      refine r_istore_n (pc := 285) (loc' := [(2, .int x27), (3, .int x1), (0, .ref 0), (1, .int a1)]) dX12_aimCode_285 rfl (Nat.le_of_ble_eq_true rfl) rfl ?_
      refine r_goto (pc := 286) dX12_aimCode_286 rfl ?_
      exact rOR_v (pc := 346) rfl dX12_aimCode_346 h hN
    replace h := if_f hc22 h
    exact rOR_v (pc := 261) rfl dX12_aimCode_261 h hN
  replace h := if_t hc4 h
  refine r_aload_n (pc := 160) dX12_aimCode_160 rfl 1 rfl ?_
  refine r_aload_n (pc := 161) dX12_aimCode_161 rfl 1 rfl ?_
  refine r_get (pc := 162) (j := 17) (v := .ref 8) oM0 cf12 flRX12_102 rfl dX12_aimCode_162 rfl ?_
  refine r_iload_n (pc := 165) dX12_aimCode_165 rfl 2 rfl ?_
  replace h := if_n h; obtain ⟨hb5, h⟩ := h
  refine r_iald (pc := 166) aM8 (inb_in hb5) dX12_aimCode_166 ?_
  refine r_iconst (pc := 167) dX12_aimCode_167 ki_1 ?_
  replace h := bn2_e h; obtain ⟨x6, w7, ew7, h⟩ := h
  refine r_cVv (pc := 168) wyX12_mustBe oM0 rfl mlRX12_622 iyX12_mustBe syX12_mustBe ⟨Nat.le_refl _, (Nat.le_of_ble_eq_true rfl)⟩ rfl rfl (Nat.le_of_ble_eq_true rfl) dX12_aimCode_168 ((hS.1 _ _ _ _ _ _ _) ew7 (pV.mk ?_))
  refine r_iload_n (pc := 171) dX12_aimCode_171 rfl 0 rfl ?_
  refine r_if_ge (pc := 172) dX12_aimCode_172 rfl (fun hc8 => ?_) (fun hc8 => ?_)
  · replace h := if_t hc8 h
    refine r_aload_n (pc := 176) dX12_aimCode_176 rfl 1 rfl ?_
    refine r_iload_n (pc := 177) dX12_aimCode_177 rfl 0 rfl ?_
    refine r_iconst (pc := 178) dX12_aimCode_178 ki_5 ?_
    replace h := bn2_e h; obtain ⟨x9, w10, ew10, h⟩ := h
    refine r_cVi (pc := 179) wyX12_isFormal oM0 rfl mlRX12_644 iyX12_isFormal syX12_isFormal ⟨Nat.succ_le_succ (Nat.le_trans (Nat.le_of_ble_eq_true rfl) hK), (Nat.le_of_ble_eq_true rfl)⟩ rfl rfl (Nat.le_of_ble_eq_true rfl) dX12_aimCode_179 (mX12_isFormal ew10 (pI.mk ?_))
    refine r_istore (pc := 182) (loc' := [(4, .int (b2i x9)), (3, .int x1), (0, .ref 0), (1, .int a1)]) dX12_aimCode_182 (Nat.le_of_ble_eq_true rfl) rfl ?_
    refine r_aload_n (pc := 184) dX12_aimCode_184 rfl 2 rfl ?_
    refine r_get (pc := 185) (j := 32) (v := .ref 19) oM0 cf12 flRX12_135 rfl dX12_aimCode_185 rfl ?_
    refine r_iload_n (pc := 188) dX12_aimCode_188 rfl 1 rfl ?_
    replace h := if_n h; obtain ⟨hb11, h⟩ := h
    refine r_iald (pc := 189) aM19 (inb_in hb11) dX12_aimCode_189 ?_
    refine r_iconst (pc := 190) dX12_aimCode_190 ki_5 ?_
    refine r_icmp_eq (pc := 191) dX12_aimCode_191 rfl (fun hc12 => ?_) (fun hc12 => ?_)
    · replace h := if_t hc12 h
      refine r_drop (loc' := [(0, .ref 0), (3, .int x1), (4, .int (b2i x9))]) [2, 1, 0] rfl ?_
      exact pX12_aimCode_226 hS hK hN h
    replace h := if_f hc12 h
    refine r_iload (pc := 194) dX12_aimCode_194 0 rfl ?_
    refine r_z_ne (pc := 196) dX12_aimCode_196 rfl (fun hc13 => ?_) (fun hc13 => ?_)
    · replace h := if_t hc13 h
      refine r_drop (loc' := [(0, .ref 0), (3, .int x1), (4, .int (b2i x9))]) [2, 1, 0] rfl ?_
      exact pX12_aimCode_226 hS hK hN h
    replace h := if_f hc13 h
    refine r_aload_n (pc := 199) dX12_aimCode_199 rfl 2 rfl ?_
    refine r_get (pc := 200) (j := 32) (v := .ref 19) oM0 cf12 flRX12_135 rfl dX12_aimCode_200 rfl ?_
    refine r_iload_n (pc := 203) dX12_aimCode_203 rfl 1 rfl ?_
    replace h := if_n h; obtain ⟨hb14, h⟩ := h
    refine r_iald (pc := 204) aM19 (inb_in hb14) dX12_aimCode_204 ?_
    refine r_bipush (pc := 205) dX12_aimCode_205 kb_6 ?_
    refine r_icmp_ne (pc := 207) dX12_aimCode_207 rfl (fun hc15 => ?_) (fun hc15 => ?_)
    · replace h := if_f hc15 h
      refine r_aload_n (pc := 219) dX12_aimCode_219 rfl 2 rfl ?_
      refine r_iload_n (pc := 220) dX12_aimCode_220 rfl 3 rfl ?_
      replace h := bn2_e h; obtain ⟨x20, w21, ew21, h⟩ := h
      refine r_cVi (pc := 221) wyX12_wrongName oM0 rfl mlRX12_648 iyX12_wrongName syX12_wrongName ⟨Nat.succ_le_succ (Nat.le_trans (Nat.le_of_ble_eq_true rfl) hK), (Nat.le_of_ble_eq_true rfl)⟩ rfl rfl (Nat.le_of_ble_eq_true rfl) dX12_aimCode_221 (mX12_wrongName ew21 (pI.mk ?_))
      refine r_istore_n (pc := 224) (loc' := [(2, .int x20), (4, .int (b2i x9)), (3, .int x1), (0, .ref 0), (1, .int a1)]) dX12_aimCode_224 rfl (Nat.le_of_ble_eq_true rfl) rfl ?_
      exact rOR_v (pc := 225) rfl dX12_aimCode_225 h hN
    replace h := if_t hc15 h
    refine r_aload_n (pc := 210) dX12_aimCode_210 rfl 2 rfl ?_
    refine r_get (pc := 211) (j := 37) (v := .ref 24) oM0 cf12 flRX12_150 rfl dX12_aimCode_211 rfl ?_
    refine r_iload_n (pc := 214) dX12_aimCode_214 rfl 1 rfl ?_
    replace h := if_n h; obtain ⟨hb16, h⟩ := h
    refine r_iald (pc := 215) aM24 (inb_in hb16) dX12_aimCode_215 ?_
    refine r_if_eq (pc := 216) dX12_aimCode_216 rfl (fun hc17 => ?_) (fun hc17 => ?_)
    · replace h := if_t hc17 h
      exact rOR_v (pc := 225) rfl dX12_aimCode_225 h hN
    replace h := if_f hc17 h
    refine r_aload_n (pc := 219) dX12_aimCode_219 rfl 2 rfl ?_
    refine r_iload_n (pc := 220) dX12_aimCode_220 rfl 3 rfl ?_
    replace h := bn2_e h; obtain ⟨x18, w19, ew19, h⟩ := h
    refine r_cVi (pc := 221) wyX12_wrongName oM0 rfl mlRX12_648 iyX12_wrongName syX12_wrongName ⟨Nat.succ_le_succ (Nat.le_trans (Nat.le_of_ble_eq_true rfl) hK), (Nat.le_of_ble_eq_true rfl)⟩ rfl rfl (Nat.le_of_ble_eq_true rfl) dX12_aimCode_221 (mX12_wrongName ew19 (pI.mk ?_))
    refine r_istore_n (pc := 224) (loc' := [(2, .int x18), (4, .int (b2i x9)), (3, .int x1), (0, .ref 0), (1, .int a1)]) dX12_aimCode_224 rfl (Nat.le_of_ble_eq_true rfl) rfl ?_
    exact rOR_v (pc := 225) rfl dX12_aimCode_225 h hN
  replace h := if_f hc8 h
  exact rOR_v (pc := 175) rfl dX12_aimCode_175 h hN
def fX12_aimCode_127 (rc : TX12_mustBe) (a1 : Int32) (w : Wd) : Option (Int32 × Wd) :=
  if inb a1 24000 = true then bn (fX12_found 4 (gi w 12 (Int32.toNatClampNeg a1)) w) fun w2 => bn2 (rc 8 a1 0 0 w2) fun _ w4 => some (0, w4) else none
theorem pX12_aimCode_127 {q : Gq} {l : Launch} {N : Option Value → Wd → Prop} {X : String → Wd → Prop} {rc : TX12_mustBe} {dd : Nat} (hS : HSX12_mustBe q l rc dd) (hK : 5 ≤ dd) {w : Wd} {R : Int32 × Wd} (hN : N none R.2) {a1 : Int32} (h : fX12_aimCode_127 rc a1 w = some R) : RT (GM q) l (dd + 1) yX12_aimCode cX12_aimCode 5 (none) N X 127 [] [(0, .ref 0), (1, .int a1)] w := by
  unfold fX12_aimCode_127 at h
  refine r_aload_n (pc := 127) dX12_aimCode_127 rfl 0 rfl ?_
  refine r_iconst (pc := 128) dX12_aimCode_128 ki_4 ?_
  refine r_aload_n (pc := 129) dX12_aimCode_129 rfl 0 rfl ?_
  refine r_get (pc := 130) (j := 21) (v := .ref 12) oM0 cf12 flRX12_114 rfl dX12_aimCode_130 rfl ?_
  refine r_iload_n (pc := 133) dX12_aimCode_133 rfl 1 rfl ?_
  replace h := if_n h; obtain ⟨hb1, h⟩ := h
  refine r_iald (pc := 134) aM12 (inb_in hb1) dX12_aimCode_134 ?_
  replace h := bn_e h; obtain ⟨w2, ew2, h⟩ := h
  refine r_cVv (pc := 135) wyX12_found oM0 rfl mlRX12_484 iyX12_found syX12_found ⟨Nat.succ_le_succ (Nat.le_trans (Nat.le_of_ble_eq_true rfl) hK), (Nat.le_of_ble_eq_true rfl)⟩ rfl rfl (Nat.le_of_ble_eq_true rfl) dX12_aimCode_135 (mX12_found ew2 (pV.mk ?_))
  refine r_aload_n (pc := 138) dX12_aimCode_138 rfl 0 rfl ?_
  refine r_iload_n (pc := 139) dX12_aimCode_139 rfl 1 rfl ?_
  replace h := bn2_e h; obtain ⟨x3, w4, ew4, h⟩ := h
  refine r_cVv (pc := 140) wyX12_loose oM0 rfl mlRX12_673 iyX12_loose syX12_loose ⟨Nat.le_refl _, (Nat.le_of_ble_eq_true rfl)⟩ rfl rfl (Nat.le_of_ble_eq_true rfl) dX12_aimCode_140 ((hS.2.2.2.2.2.2.2.2.1 _ _ _ _ _ _) ew4 (pV.mk ?_))
  exact rOR_v (pc := 143) rfl dX12_aimCode_143 h hN
def fX12_aimCode (rc : TX12_mustBe) (a1 : Int32) (w : Wd) : Option (Int32 × Wd) :=
  if inb a1 24000 = true then if (gi w 7 (Int32.toNatClampNeg a1)) = 9 then (if inb a1 24000 = true then bn2 (rc 6 (gi w 8 (Int32.toNatClampNeg a1)) 0 0 w) fun _ w5 => some (0, w5) else none) else (if inb a1 24000 = true then if (gi w 7 (Int32.toNatClampNeg a1)) = 8 then (if inb a1 24000 = true then bn2 (rc 0 (gi w 8 (Int32.toNatClampNeg a1)) 2 0 w) fun _ w10 => bn2 (fX12_op 11 0 0 0 w10) fun x11 w12 => if inb a1 24000 = true then bn2 (rc 6 (gi w12 9 (Int32.toNatClampNeg a1)) 0 0 w12) fun _ w15 => bn2 (fX12_op 10 0 0 0 w15) fun x16 w17 => bn (fX12_patch x11 w17) fun w18 => if inb a1 24000 = true then bn2 (rc 6 (gi w18 10 (Int32.toNatClampNeg a1)) 0 0 w18) fun _ w21 => bn (fX12_patch x16 w21) fun w22 => some (0, w22) else none else none else none) else (if inb a1 24000 = true then if (gi w 7 (Int32.toNatClampNeg a1)) = 3 then (fX12_aimCode_144 rc a1 w) else (if inb a1 24000 = true then if (gi w 7 (Int32.toNatClampNeg a1)) = 4 then (if inb a1 24000 = true then if (gi w 9 (Int32.toNatClampNeg a1)) = 1 then (fX12_aimCode_144 rc a1 w) else (fX12_aimCode_127 rc a1 w) else none) else (fX12_aimCode_127 rc a1 w) else none) else none) else none) else none
set_option maxHeartbeats 16000000 in
theorem pX12_aimCode {q : Gq} {l : Launch} {N : Option Value → Wd → Prop} {X : String → Wd → Prop} {rc : TX12_mustBe} {dd : Nat} (hS : HSX12_mustBe q l rc dd) (hK : 5 ≤ dd) {w : Wd} {R : Int32 × Wd} (hN : N none R.2) {a1 : Int32} (h : fX12_aimCode rc a1 w = some R) : RT (GM q) l (dd + 1) yX12_aimCode cX12_aimCode 5 (none) N X 0 [] [(0, .ref 0), (1, .int a1)] w := by
  unfold fX12_aimCode at h
  refine r_aload_n (pc := 0) dX12_aimCode_0 rfl 0 rfl ?_
  refine r_get (pc := 1) (j := 16) (v := .ref 7) oM0 cf12 flRX12_99 rfl dX12_aimCode_1 rfl ?_
  refine r_iload_n (pc := 4) dX12_aimCode_4 rfl 1 rfl ?_
  replace h := if_n h; obtain ⟨hb1, h⟩ := h
  refine r_iald (pc := 5) aM7 (inb_in hb1) dX12_aimCode_5 ?_
  refine r_bipush (pc := 6) dX12_aimCode_6 kb_9 ?_
  refine r_icmp_ne (pc := 8) dX12_aimCode_8 rfl (fun hc2 => ?_) (fun hc2 => ?_)
  · replace h := if_f hc2 h
    refine r_aload_n (pc := 22) dX12_aimCode_22 rfl 0 rfl ?_
    refine r_get (pc := 23) (j := 16) (v := .ref 7) oM0 cf12 flRX12_99 rfl dX12_aimCode_23 rfl ?_
    refine r_iload_n (pc := 26) dX12_aimCode_26 rfl 1 rfl ?_
    replace h := if_n h; obtain ⟨hb6, h⟩ := h
    refine r_iald (pc := 27) aM7 (inb_in hb6) dX12_aimCode_27 ?_
    refine r_bipush (pc := 28) dX12_aimCode_28 kb_8 ?_
    refine r_icmp_ne (pc := 30) dX12_aimCode_30 rfl (fun hc7 => ?_) (fun hc7 => ?_)
    · replace h := if_f hc7 h
      refine r_aload_n (pc := 97) dX12_aimCode_97 rfl 0 rfl ?_
      refine r_get (pc := 98) (j := 16) (v := .ref 7) oM0 cf12 flRX12_99 rfl dX12_aimCode_98 rfl ?_
      refine r_iload_n (pc := 101) dX12_aimCode_101 rfl 1 rfl ?_
      replace h := if_n h; obtain ⟨hb23, h⟩ := h
      refine r_iald (pc := 102) aM7 (inb_in hb23) dX12_aimCode_102 ?_
      refine r_iconst (pc := 103) dX12_aimCode_103 ki_3 ?_
      refine r_icmp_eq (pc := 104) dX12_aimCode_104 rfl (fun hc24 => ?_) (fun hc24 => ?_)
      · replace h := if_t hc24 h
        exact pX12_aimCode_144 hS hK hN h
      replace h := if_f hc24 h
      refine r_aload_n (pc := 107) dX12_aimCode_107 rfl 0 rfl ?_
      refine r_get (pc := 108) (j := 16) (v := .ref 7) oM0 cf12 flRX12_99 rfl dX12_aimCode_108 rfl ?_
      refine r_iload_n (pc := 111) dX12_aimCode_111 rfl 1 rfl ?_
      replace h := if_n h; obtain ⟨hb25, h⟩ := h
      refine r_iald (pc := 112) aM7 (inb_in hb25) dX12_aimCode_112 ?_
      refine r_iconst (pc := 113) dX12_aimCode_113 ki_4 ?_
      refine r_icmp_ne (pc := 114) dX12_aimCode_114 rfl (fun hc26 => ?_) (fun hc26 => ?_)
      · replace h := if_f hc26 h
        exact pX12_aimCode_127 hS hK hN h
      replace h := if_t hc26 h
      refine r_aload_n (pc := 117) dX12_aimCode_117 rfl 0 rfl ?_
      refine r_get (pc := 118) (j := 18) (v := .ref 9) oM0 cf12 flRX12_105 rfl dX12_aimCode_118 rfl ?_
      refine r_iload_n (pc := 121) dX12_aimCode_121 rfl 1 rfl ?_
      replace h := if_n h; obtain ⟨hb27, h⟩ := h
      refine r_iald (pc := 122) aM9 (inb_in hb27) dX12_aimCode_122 ?_
      refine r_iconst (pc := 123) dX12_aimCode_123 ki_1 ?_
      refine r_icmp_eq (pc := 124) dX12_aimCode_124 rfl (fun hc28 => ?_) (fun hc28 => ?_)
      · replace h := if_t hc28 h
        exact pX12_aimCode_144 hS hK hN h
      replace h := if_f hc28 h
      exact pX12_aimCode_127 hS hK hN h
    replace h := if_t hc7 h
    refine r_aload_n (pc := 33) dX12_aimCode_33 rfl 0 rfl ?_
    refine r_aload_n (pc := 34) dX12_aimCode_34 rfl 0 rfl ?_
    refine r_get (pc := 35) (j := 17) (v := .ref 8) oM0 cf12 flRX12_102 rfl dX12_aimCode_35 rfl ?_
    refine r_iload_n (pc := 38) dX12_aimCode_38 rfl 1 rfl ?_
    replace h := if_n h; obtain ⟨hb8, h⟩ := h
    refine r_iald (pc := 39) aM8 (inb_in hb8) dX12_aimCode_39 ?_
    refine r_iconst (pc := 40) dX12_aimCode_40 ki_2 ?_
    replace h := bn2_e h; obtain ⟨x9, w10, ew10, h⟩ := h
    refine r_cVv (pc := 41) wyX12_mustBe oM0 rfl mlRX12_622 iyX12_mustBe syX12_mustBe ⟨Nat.le_refl _, (Nat.le_of_ble_eq_true rfl)⟩ rfl rfl (Nat.le_of_ble_eq_true rfl) dX12_aimCode_41 ((hS.1 _ _ _ _ _ _ _) ew10 (pV.mk ?_))
    refine r_aload_n (pc := 44) dX12_aimCode_44 rfl 0 rfl ?_
    refine r_bipush (pc := 45) dX12_aimCode_45 kb_11 ?_
    refine r_iconst (pc := 47) dX12_aimCode_47 ki_0 ?_
    refine r_iconst (pc := 48) dX12_aimCode_48 ki_0 ?_
    refine r_iconst (pc := 49) dX12_aimCode_49 ki_0 ?_
    replace h := bn2_e h; obtain ⟨x11, w12, ew12, h⟩ := h
    refine r_cVi (pc := 50) wyX12_op oM0 rfl mlRX12_609 iyX12_op syX12_op ⟨Nat.succ_le_succ (Nat.le_trans (Nat.le_of_ble_eq_true rfl) hK), (Nat.le_of_ble_eq_true rfl)⟩ rfl rfl (Nat.le_of_ble_eq_true rfl) dX12_aimCode_50 (mX12_op ew12 (pI.mk ?_))
    refine r_istore_n (pc := 53) (loc' := [(3, .int x11), (0, .ref 0), (1, .int a1)]) dX12_aimCode_53 rfl (Nat.le_of_ble_eq_true rfl) rfl ?_
    refine r_aload_n (pc := 54) dX12_aimCode_54 rfl 1 rfl ?_
    refine r_aload_n (pc := 55) dX12_aimCode_55 rfl 1 rfl ?_
    refine r_get (pc := 56) (j := 18) (v := .ref 9) oM0 cf12 flRX12_105 rfl dX12_aimCode_56 rfl ?_
    refine r_iload_n (pc := 59) dX12_aimCode_59 rfl 2 rfl ?_
    replace h := if_n h; obtain ⟨hb13, h⟩ := h
    refine r_iald (pc := 60) aM9 (inb_in hb13) dX12_aimCode_60 ?_
    replace h := bn2_e h; obtain ⟨x14, w15, ew15, h⟩ := h
    refine r_cVv (pc := 61) wyX12_aimCode oM0 rfl mlRX12_670 iyX12_aimCode syX12_aimCode ⟨Nat.le_refl _, (Nat.le_of_ble_eq_true rfl)⟩ rfl rfl (Nat.le_of_ble_eq_true rfl) dX12_aimCode_61 ((hS.2.2.2.2.2.2.1 _ _ _ _ _ _) ew15 (pV.mk ?_))
    refine r_aload_n (pc := 64) dX12_aimCode_64 rfl 1 rfl ?_
    refine r_bipush (pc := 65) dX12_aimCode_65 kb_10 ?_
    refine r_iconst (pc := 67) dX12_aimCode_67 ki_0 ?_
    refine r_iconst (pc := 68) dX12_aimCode_68 ki_0 ?_
    refine r_iconst (pc := 69) dX12_aimCode_69 ki_0 ?_
    replace h := bn2_e h; obtain ⟨x16, w17, ew17, h⟩ := h
    refine r_cVi (pc := 70) wyX12_op oM0 rfl mlRX12_609 iyX12_op syX12_op ⟨Nat.succ_le_succ (Nat.le_trans (Nat.le_of_ble_eq_true rfl) hK), (Nat.le_of_ble_eq_true rfl)⟩ rfl rfl (Nat.le_of_ble_eq_true rfl) dX12_aimCode_70 (mX12_op ew17 (pI.mk ?_))
    refine r_istore (pc := 73) (loc' := [(4, .int x16), (3, .int x11), (0, .ref 0), (1, .int a1)]) dX12_aimCode_73 (Nat.le_of_ble_eq_true rfl) rfl ?_
    refine r_aload_n (pc := 75) dX12_aimCode_75 rfl 2 rfl ?_
    refine r_iload_n (pc := 76) dX12_aimCode_76 rfl 1 rfl ?_
    replace h := bn_e h; obtain ⟨w18, ew18, h⟩ := h
    refine r_cVv (pc := 77) wyX12_patch oM0 rfl mlRX12_625 iyX12_patch syX12_patch ⟨Nat.succ_le_succ (Nat.le_trans (Nat.le_of_ble_eq_true rfl) hK), (Nat.le_of_ble_eq_true rfl)⟩ rfl rfl (Nat.le_of_ble_eq_true rfl) dX12_aimCode_77 (mX12_patch ew18 (pV.mk ?_))
    refine r_aload_n (pc := 80) dX12_aimCode_80 rfl 2 rfl ?_
    refine r_aload_n (pc := 81) dX12_aimCode_81 rfl 2 rfl ?_
    refine r_get (pc := 82) (j := 19) (v := .ref 10) oM0 cf12 flRX12_108 rfl dX12_aimCode_82 rfl ?_
    refine r_iload_n (pc := 85) dX12_aimCode_85 rfl 3 rfl ?_
    replace h := if_n h; obtain ⟨hb19, h⟩ := h
    refine r_iald (pc := 86) aM10 (inb_in hb19) dX12_aimCode_86 ?_
    replace h := bn2_e h; obtain ⟨x20, w21, ew21, h⟩ := h
    refine r_cVv (pc := 87) wyX12_aimCode oM0 rfl mlRX12_670 iyX12_aimCode syX12_aimCode ⟨Nat.le_refl _, (Nat.le_of_ble_eq_true rfl)⟩ rfl rfl (Nat.le_of_ble_eq_true rfl) dX12_aimCode_87 ((hS.2.2.2.2.2.2.1 _ _ _ _ _ _) ew21 (pV.mk ?_))
    refine r_aload_n (pc := 90) dX12_aimCode_90 rfl 2 rfl ?_
    refine r_iload (pc := 91) dX12_aimCode_91 0 rfl ?_
    replace h := bn_e h; obtain ⟨w22, ew22, h⟩ := h
    refine r_cVv (pc := 93) wyX12_patch oM0 rfl mlRX12_625 iyX12_patch syX12_patch ⟨Nat.succ_le_succ (Nat.le_trans (Nat.le_of_ble_eq_true rfl) hK), (Nat.le_of_ble_eq_true rfl)⟩ rfl rfl (Nat.le_of_ble_eq_true rfl) dX12_aimCode_93 (mX12_patch ew22 (pV.mk ?_))
    exact rOR_v (pc := 96) rfl dX12_aimCode_96 h hN
  replace h := if_t hc2 h
  refine r_aload_n (pc := 11) dX12_aimCode_11 rfl 0 rfl ?_
  refine r_aload_n (pc := 12) dX12_aimCode_12 rfl 0 rfl ?_
  refine r_get (pc := 13) (j := 17) (v := .ref 8) oM0 cf12 flRX12_102 rfl dX12_aimCode_13 rfl ?_
  refine r_iload_n (pc := 16) dX12_aimCode_16 rfl 1 rfl ?_
  replace h := if_n h; obtain ⟨hb3, h⟩ := h
  refine r_iald (pc := 17) aM8 (inb_in hb3) dX12_aimCode_17 ?_
  replace h := bn2_e h; obtain ⟨x4, w5, ew5, h⟩ := h
  refine r_cVv (pc := 18) wyX12_aimCode oM0 rfl mlRX12_670 iyX12_aimCode syX12_aimCode ⟨Nat.le_refl _, (Nat.le_of_ble_eq_true rfl)⟩ rfl rfl (Nat.le_of_ble_eq_true rfl) dX12_aimCode_18 ((hS.2.2.2.2.2.2.1 _ _ _ _ _ _) ew5 (pV.mk ?_))
  exact rOR_v (pc := 21) rfl dX12_aimCode_21 h hN
/-! AlgolMillModel.byName (III)V: O, 1705 -/
theorem dX12_byName_0 : decode cX12_byName 0 = .ok (.aload_n 0, 1) := by decide +kernel
theorem dX12_byName_1 : decode cX12_byName 1 = .ok (.getfield 99, 3) := by decide +kernel
theorem dX12_byName_4 : decode cX12_byName 4 = .ok (.iload_n 1, 1) := by decide +kernel
theorem dX12_byName_5 : decode cX12_byName 5 = .ok (.iaload, 1) := by decide +kernel
theorem dX12_byName_6 : decode cX12_byName 6 = .ok (.iconst 3, 1) := by decide +kernel
theorem dX12_byName_7 : decode cX12_byName 7 = .ok (.if_icmp .eq 20, 3) := by decide +kernel
theorem dX12_byName_10 : decode cX12_byName 10 = .ok (.aload_n 0, 1) := by decide +kernel
theorem dX12_byName_11 : decode cX12_byName 11 = .ok (.iconst 4, 1) := by decide +kernel
theorem dX12_byName_12 : decode cX12_byName 12 = .ok (.aload_n 0, 1) := by decide +kernel
theorem dX12_byName_13 : decode cX12_byName 13 = .ok (.getfield 114, 3) := by decide +kernel
theorem dX12_byName_16 : decode cX12_byName 16 = .ok (.iload_n 1, 1) := by decide +kernel
theorem dX12_byName_17 : decode cX12_byName 17 = .ok (.iaload, 1) := by decide +kernel
theorem dX12_byName_18 : decode cX12_byName 18 = .ok (.invokevirtual 484, 3) := by decide +kernel
theorem dX12_byName_21 : decode cX12_byName 21 = .ok (.aload_n 0, 1) := by decide +kernel
theorem dX12_byName_22 : decode cX12_byName 22 = .ok (.iload_n 1, 1) := by decide +kernel
theorem dX12_byName_23 : decode cX12_byName 23 = .ok (.invokevirtual 673, 3) := by decide +kernel
theorem dX12_byName_26 : decode cX12_byName 26 = .ok (.return_, 1) := by decide +kernel
theorem dX12_byName_27 : decode cX12_byName 27 = .ok (.aload_n 0, 1) := by decide +kernel
theorem dX12_byName_28 : decode cX12_byName 28 = .ok (.iload_n 1, 1) := by decide +kernel
theorem dX12_byName_29 : decode cX12_byName 29 = .ok (.invokevirtual 638, 3) := by decide +kernel
theorem dX12_byName_32 : decode cX12_byName 32 = .ok (.istore 4, 2) := by decide +kernel
theorem dX12_byName_34 : decode cX12_byName 34 = .ok (.iload 4, 2) := by decide +kernel
theorem dX12_byName_36 : decode cX12_byName 36 = .ok (.ifCond .ge 4, 3) := by decide +kernel
theorem dX12_byName_39 : decode cX12_byName 39 = .ok (.return_, 1) := by decide +kernel
theorem dX12_byName_40 : decode cX12_byName 40 = .ok (.aload_n 0, 1) := by decide +kernel
theorem dX12_byName_41 : decode cX12_byName 41 = .ok (.getfield 150, 3) := by decide +kernel
theorem dX12_byName_44 : decode cX12_byName 44 = .ok (.iload_n 2, 1) := by decide +kernel
theorem dX12_byName_45 : decode cX12_byName 45 = .ok (.iaload, 1) := by decide +kernel
theorem dX12_byName_46 : decode cX12_byName 46 = .ok (.iconst 2, 1) := by decide +kernel
theorem dX12_byName_47 : decode cX12_byName 47 = .ok (.if_icmp .ne 7, 3) := by decide +kernel
theorem dX12_byName_50 : decode cX12_byName 50 = .ok (.iconst 2, 1) := by decide +kernel
theorem dX12_byName_51 : decode cX12_byName 51 = .ok (.goto 18, 3) := by decide +kernel
theorem dX12_byName_54 : decode cX12_byName 54 = .ok (.aload_n 0, 1) := by decide +kernel
theorem dX12_byName_55 : decode cX12_byName 55 = .ok (.getfield 150, 3) := by decide +kernel
theorem dX12_byName_58 : decode cX12_byName 58 = .ok (.iload_n 2, 1) := by decide +kernel
theorem dX12_byName_59 : decode cX12_byName 59 = .ok (.iaload, 1) := by decide +kernel
theorem dX12_byName_60 : decode cX12_byName 60 = .ok (.iconst 3, 1) := by decide +kernel
theorem dX12_byName_61 : decode cX12_byName 61 = .ok (.if_icmp .ne 7, 3) := by decide +kernel
theorem dX12_byName_64 : decode cX12_byName 64 = .ok (.iconst 3, 1) := by decide +kernel
theorem dX12_byName_65 : decode cX12_byName 65 = .ok (.goto 4, 3) := by decide +kernel
theorem dX12_byName_68 : decode cX12_byName 68 = .ok (.iconst 5, 1) := by decide +kernel
theorem dX12_byName_69 : decode cX12_byName 69 = .ok (.istore 5, 2) := by decide +kernel
theorem dX12_byName_71 : decode cX12_byName 71 = .ok (.aload_n 0, 1) := by decide +kernel
theorem dX12_byName_72 : decode cX12_byName 72 = .ok (.iload 4, 2) := by decide +kernel
theorem dX12_byName_74 : decode cX12_byName 74 = .ok (.aload_n 0, 1) := by decide +kernel
theorem dX12_byName_75 : decode cX12_byName 75 = .ok (.getfield 150, 3) := by decide +kernel
theorem dX12_byName_78 : decode cX12_byName 78 = .ok (.iload_n 2, 1) := by decide +kernel
theorem dX12_byName_79 : decode cX12_byName 79 = .ok (.iaload, 1) := by decide +kernel
theorem dX12_byName_80 : decode cX12_byName 80 = .ok (.invokevirtual 644, 3) := by decide +kernel
theorem dX12_byName_83 : decode cX12_byName 83 = .ok (.istore 6, 2) := by decide +kernel
theorem dX12_byName_85 : decode cX12_byName 85 = .ok (.aload_n 0, 1) := by decide +kernel
theorem dX12_byName_86 : decode cX12_byName 86 = .ok (.getfield 135, 3) := by decide +kernel
theorem dX12_byName_89 : decode cX12_byName 89 = .ok (.iload 4, 2) := by decide +kernel
theorem dX12_byName_91 : decode cX12_byName 91 = .ok (.iaload, 1) := by decide +kernel
theorem dX12_byName_92 : decode cX12_byName 92 = .ok (.iload 5, 2) := by decide +kernel
theorem dX12_byName_94 : decode cX12_byName 94 = .ok (.if_icmp .eq 8, 3) := by decide +kernel
theorem dX12_byName_97 : decode cX12_byName 97 = .ok (.iload 6, 2) := by decide +kernel
theorem dX12_byName_99 : decode cX12_byName 99 = .ok (.ifCond .eq 29, 3) := by decide +kernel
theorem dX12_byName_102 : decode cX12_byName 102 = .ok (.aload_n 0, 1) := by decide +kernel
theorem dX12_byName_103 : decode cX12_byName 103 = .ok (.getfield 150, 3) := by decide +kernel
theorem dX12_byName_106 : decode cX12_byName 106 = .ok (.iload_n 2, 1) := by decide +kernel
theorem dX12_byName_107 : decode cX12_byName 107 = .ok (.iaload, 1) := by decide +kernel
theorem dX12_byName_108 : decode cX12_byName 108 = .ok (.iconst 5, 1) := by decide +kernel
theorem dX12_byName_109 : decode cX12_byName 109 = .ok (.if_icmp .eq 49, 3) := by decide +kernel
theorem dX12_byName_112 : decode cX12_byName 112 = .ok (.aload_n 0, 1) := by decide +kernel
theorem dX12_byName_113 : decode cX12_byName 113 = .ok (.getfield 138, 3) := by decide +kernel
theorem dX12_byName_116 : decode cX12_byName 116 = .ok (.iload 4, 2) := by decide +kernel
theorem dX12_byName_118 : decode cX12_byName 118 = .ok (.iaload, 1) := by decide +kernel
theorem dX12_byName_119 : decode cX12_byName 119 = .ok (.aload_n 0, 1) := by decide +kernel
theorem dX12_byName_120 : decode cX12_byName 120 = .ok (.getfield 138, 3) := by decide +kernel
theorem dX12_byName_123 : decode cX12_byName 123 = .ok (.iload_n 2, 1) := by decide +kernel
theorem dX12_byName_124 : decode cX12_byName 124 = .ok (.iaload, 1) := by decide +kernel
theorem dX12_byName_125 : decode cX12_byName 125 = .ok (.if_icmp .eq 33, 3) := by decide +kernel
theorem dX12_byName_128 : decode cX12_byName 128 = .ok (.aload_n 0, 1) := by decide +kernel
theorem dX12_byName_129 : decode cX12_byName 129 = .ok (.getfield 135, 3) := by decide +kernel
theorem dX12_byName_132 : decode cX12_byName 132 = .ok (.iload 4, 2) := by decide +kernel
theorem dX12_byName_134 : decode cX12_byName 134 = .ok (.iaload, 1) := by decide +kernel
theorem dX12_byName_135 : decode cX12_byName 135 = .ok (.bipush 6, 2) := by decide +kernel
theorem dX12_byName_137 : decode cX12_byName 137 = .ok (.if_icmp .ne 13, 3) := by decide +kernel
theorem dX12_byName_140 : decode cX12_byName 140 = .ok (.aload_n 0, 1) := by decide +kernel
theorem dX12_byName_141 : decode cX12_byName 141 = .ok (.getfield 150, 3) := by decide +kernel
theorem dX12_byName_144 : decode cX12_byName 144 = .ok (.iload 4, 2) := by decide +kernel
theorem dX12_byName_146 : decode cX12_byName 146 = .ok (.iaload, 1) := by decide +kernel
theorem dX12_byName_147 : decode cX12_byName 147 = .ok (.ifCond .eq 10, 3) := by decide +kernel
theorem dX12_byName_150 : decode cX12_byName 150 = .ok (.aload_n 0, 1) := by decide +kernel
theorem dX12_byName_151 : decode cX12_byName 151 = .ok (.iload_n 1, 1) := by decide +kernel
theorem dX12_byName_152 : decode cX12_byName 152 = .ok (.invokevirtual 648, 3) := by decide +kernel
theorem dX12_byName_155 : decode cX12_byName 155 = .ok (.istore 7, 2) := by decide +kernel
theorem dX12_byName_157 : decode cX12_byName 157 = .ok (.return_, 1) := by decide +kernel
theorem dX12_byName_158 : decode cX12_byName 158 = .ok (.iload 5, 2) := by decide +kernel
theorem dX12_byName_160 : decode cX12_byName 160 = .ok (.iconst 3, 1) := by decide +kernel
theorem dX12_byName_161 : decode cX12_byName 161 = .ok (.if_icmp .ne 34, 3) := by decide +kernel
theorem dX12_byName_164 : decode cX12_byName 164 = .ok (.iload 6, 2) := by decide +kernel
theorem dX12_byName_166 : decode cX12_byName 166 = .ok (.ifCond .ne 29, 3) := by decide +kernel
theorem dX12_byName_169 : decode cX12_byName 169 = .ok (.aload_n 0, 1) := by decide +kernel
theorem dX12_byName_170 : decode cX12_byName 170 = .ok (.getfield 172, 3) := by decide +kernel
theorem dX12_byName_173 : decode cX12_byName 173 = .ok (.aload_n 0, 1) := by decide +kernel
theorem dX12_byName_174 : decode cX12_byName 174 = .ok (.getfield 150, 3) := by decide +kernel
theorem dX12_byName_177 : decode cX12_byName 177 = .ok (.iload 4, 2) := by decide +kernel
theorem dX12_byName_179 : decode cX12_byName 179 = .ok (.iaload, 1) := by decide +kernel
theorem dX12_byName_180 : decode cX12_byName 180 = .ok (.iaload, 1) := by decide +kernel
theorem dX12_byName_181 : decode cX12_byName 181 = .ok (.ifCond .le 14, 3) := by decide +kernel
theorem dX12_byName_184 : decode cX12_byName 184 = .ok (.aload_n 0, 1) := by decide +kernel
theorem dX12_byName_185 : decode cX12_byName 185 = .ok (.iconst 5, 1) := by decide +kernel
theorem dX12_byName_186 : decode cX12_byName 186 = .ok (.aload_n 0, 1) := by decide +kernel
theorem dX12_byName_187 : decode cX12_byName 187 = .ok (.getfield 114, 3) := by decide +kernel
theorem dX12_byName_190 : decode cX12_byName 190 = .ok (.iload_n 1, 1) := by decide +kernel
theorem dX12_byName_191 : decode cX12_byName 191 = .ok (.iaload, 1) := by decide +kernel
theorem dX12_byName_192 : decode cX12_byName 192 = .ok (.invokevirtual 484, 3) := by decide +kernel
theorem dX12_byName_195 : decode cX12_byName 195 = .ok (.aload_n 0, 1) := by decide +kernel
theorem dX12_byName_196 : decode cX12_byName 196 = .ok (.getfield 236, 3) := by decide +kernel
theorem dX12_byName_199 : decode cX12_byName 199 = .ok (.iload_n 3, 1) := by decide +kernel
theorem dX12_byName_200 : decode cX12_byName 200 = .ok (.iload 6, 2) := by decide +kernel
theorem dX12_byName_202 : decode cX12_byName 202 = .ok (.ifCond .eq 8, 3) := by decide +kernel
theorem dX12_byName_205 : decode cX12_byName 205 = .ok (.bipush 10, 2) := by decide +kernel
theorem dX12_byName_207 : decode cX12_byName 207 = .ok (.goto 9, 3) := by decide +kernel
theorem dX12_byName_210 : decode cX12_byName 210 = .ok (.aload_n 0, 1) := by decide +kernel
theorem dX12_byName_211 : decode cX12_byName 211 = .ok (.getfield 150, 3) := by decide +kernel
theorem dX12_byName_214 : decode cX12_byName 214 = .ok (.iload_n 2, 1) := by decide +kernel
theorem dX12_byName_215 : decode cX12_byName 215 = .ok (.iaload, 1) := by decide +kernel
theorem dX12_byName_216 : decode cX12_byName 216 = .ok (.iastore, 1) := by decide +kernel
theorem dX12_byName_217 : decode cX12_byName 217 = .ok (.aload_n 0, 1) := by decide +kernel
theorem dX12_byName_218 : decode cX12_byName 218 = .ok (.getfield 239, 3) := by decide +kernel
theorem dX12_byName_221 : decode cX12_byName 221 = .ok (.iload_n 3, 1) := by decide +kernel
theorem dX12_byName_222 : decode cX12_byName 222 = .ok (.aload_n 0, 1) := by decide +kernel
theorem dX12_byName_223 : decode cX12_byName 223 = .ok (.iload 4, 2) := by decide +kernel
theorem dX12_byName_225 : decode cX12_byName 225 = .ok (.invokevirtual 641, 3) := by decide +kernel
theorem dX12_byName_228 : decode cX12_byName 228 = .ok (.iastore, 1) := by decide +kernel
theorem dX12_byName_229 : decode cX12_byName 229 = .ok (.aload_n 0, 1) := by decide +kernel
theorem dX12_byName_230 : decode cX12_byName 230 = .ok (.getfield 242, 3) := by decide +kernel
theorem dX12_byName_233 : decode cX12_byName 233 = .ok (.iload_n 3, 1) := by decide +kernel
theorem dX12_byName_234 : decode cX12_byName 234 = .ok (.iload 5, 2) := by decide +kernel
theorem dX12_byName_236 : decode cX12_byName 236 = .ok (.iconst 3, 1) := by decide +kernel
theorem dX12_byName_237 : decode cX12_byName 237 = .ok (.if_icmp .ne 18, 3) := by decide +kernel
theorem dX12_byName_240 : decode cX12_byName 240 = .ok (.iload 6, 2) := by decide +kernel
theorem dX12_byName_242 : decode cX12_byName 242 = .ok (.ifCond .ne 13, 3) := by decide +kernel
theorem dX12_byName_245 : decode cX12_byName 245 = .ok (.aload_n 0, 1) := by decide +kernel
theorem dX12_byName_246 : decode cX12_byName 246 = .ok (.getfield 150, 3) := by decide +kernel
theorem dX12_byName_249 : decode cX12_byName 249 = .ok (.iload 4, 2) := by decide +kernel
theorem dX12_byName_251 : decode cX12_byName 251 = .ok (.iaload, 1) := by decide +kernel
theorem dX12_byName_252 : decode cX12_byName 252 = .ok (.goto 26, 3) := by decide +kernel
theorem dX12_byName_255 : decode cX12_byName 255 = .ok (.iload 5, 2) := by decide +kernel
theorem dX12_byName_257 : decode cX12_byName 257 = .ok (.iconst 5, 1) := by decide +kernel
theorem dX12_byName_258 : decode cX12_byName 258 = .ok (.if_icmp .ne 13, 3) := by decide +kernel
theorem dX12_byName_261 : decode cX12_byName 261 = .ok (.iload 6, 2) := by decide +kernel
theorem dX12_byName_263 : decode cX12_byName 263 = .ok (.ifCond .ne 8, 3) := by decide +kernel
theorem dX12_byName_266 : decode cX12_byName 266 = .ok (.iload 4, 2) := by decide +kernel
theorem dX12_byName_268 : decode cX12_byName 268 = .ok (.goto 10, 3) := by decide +kernel
theorem dX12_byName_271 : decode cX12_byName 271 = .ok (.aload_n 0, 1) := by decide +kernel
theorem dX12_byName_272 : decode cX12_byName 272 = .ok (.getfield 156, 3) := by decide +kernel
theorem dX12_byName_275 : decode cX12_byName 275 = .ok (.iload 4, 2) := by decide +kernel
theorem dX12_byName_277 : decode cX12_byName 277 = .ok (.iaload, 1) := by decide +kernel
theorem dX12_byName_278 : decode cX12_byName 278 = .ok (.iastore, 1) := by decide +kernel
theorem dX12_byName_279 : decode cX12_byName 279 = .ok (.return_, 1) := by decide +kernel
def fX12_byName_255 (rc : TX12_mustBe) (s1 : Int32) (a4 : Int32) (a5 : Int32) (a6 : Bool) (w : Wd) : Option (Int32 × Wd) :=
  if a5 = 5 then (if a6 = true then (if inb a4 5000 = true then if inb s1 6000 = true then lt (si w 54 (Int32.toNatClampNeg s1) (gi w 26 (Int32.toNatClampNeg a4))) fun w5 => some (0, w5) else none else none) else (if inb s1 6000 = true then lt (si w 54 (Int32.toNatClampNeg s1) a4) fun w7 => some (0, w7) else none)) else (if inb a4 5000 = true then if inb s1 6000 = true then lt (si w 54 (Int32.toNatClampNeg s1) (gi w 26 (Int32.toNatClampNeg a4))) fun w10 => some (0, w10) else none else none)
theorem pX12_byName_255 {q : Gq} {l : Launch} {N : Option Value → Wd → Prop} {X : String → Wd → Prop} {rc : TX12_mustBe} {dd : Nat} (hS : HSX12_mustBe q l rc dd) (hK : 5 ≤ dd) {w : Wd} {R : Int32 × Wd} (hN : N none R.2) {s1 : Int32} {a4 : Int32} {a5 : Int32} {a6 : Bool} (h : fX12_byName_255 rc s1 a4 a5 a6 w = some R) : RT (GM q) l (dd + 1) yX12_byName cX12_byName 8 (none) N X 255 [.int s1, .ref 54] [(0, .ref 0), (4, .int a4), (5, .int a5), (6, .int (b2i a6))] w := by
  unfold fX12_byName_255 at h
  refine r_iload (pc := 255) dX12_byName_255 2 rfl ?_
  refine r_iconst (pc := 257) dX12_byName_257 ki_5 ?_
  refine r_icmp_ne (pc := 258) dX12_byName_258 rfl (fun hc1 => ?_) (fun hc1 => ?_)
  · replace h := if_f hc1 h
    refine r_aload_n (pc := 271) dX12_byName_271 rfl 0 rfl ?_
    refine r_get (pc := 272) (j := 39) (v := .ref 26) oM0 cf12 flRX12_156 rfl dX12_byName_272 rfl ?_
    refine r_iload (pc := 275) dX12_byName_275 1 rfl ?_
    replace h := if_n h; obtain ⟨hb8, h⟩ := h
    refine r_iald (pc := 277) aM26 (inb_in hb8) dX12_byName_277 ?_
    replace h := if_n h; obtain ⟨hb9, h⟩ := h
    replace h := lt_e h; obtain ⟨w10, ew10, h⟩ := h
    refine r_iast (pc := 278) aM54 (inb_in hb9) dX12_byName_278 ?_
    refine r_w ew10 ?_
    exact rOR_v (pc := 279) rfl dX12_byName_279 h hN
  replace h := if_t hc1 h
  refine r_iload (pc := 261) dX12_byName_261 3 rfl ?_
  refine r_z_ne (pc := 263) dX12_byName_263 rfl (fun hc2 => ?_) (fun hc2 => ?_)
  · replace h := if_t hc2 h
    refine r_aload_n (pc := 271) dX12_byName_271 rfl 0 rfl ?_
    refine r_get (pc := 272) (j := 39) (v := .ref 26) oM0 cf12 flRX12_156 rfl dX12_byName_272 rfl ?_
    refine r_iload (pc := 275) dX12_byName_275 1 rfl ?_
    replace h := if_n h; obtain ⟨hb3, h⟩ := h
    refine r_iald (pc := 277) aM26 (inb_in hb3) dX12_byName_277 ?_
    replace h := if_n h; obtain ⟨hb4, h⟩ := h
    replace h := lt_e h; obtain ⟨w5, ew5, h⟩ := h
    refine r_iast (pc := 278) aM54 (inb_in hb4) dX12_byName_278 ?_
    refine r_w ew5 ?_
    exact rOR_v (pc := 279) rfl dX12_byName_279 h hN
  replace h := if_f hc2 h
  refine r_iload (pc := 266) dX12_byName_266 1 rfl ?_
  refine r_goto (pc := 268) dX12_byName_268 rfl ?_
  replace h := if_n h; obtain ⟨hb6, h⟩ := h
  replace h := lt_e h; obtain ⟨w7, ew7, h⟩ := h
  refine r_iast (pc := 278) aM54 (inb_in hb6) dX12_byName_278 ?_
  refine r_w ew7 ?_
  exact rOR_v (pc := 279) rfl dX12_byName_279 h hN
def fX12_byName_216 (rc : TX12_mustBe) (s1 : Int32) (s2 : Int32) (a3 : Int32) (a4 : Int32) (a5 : Int32) (a6 : Bool) (w : Wd) : Option (Int32 × Wd) :=
  if inb s1 6000 = true then lt (si w 52 (Int32.toNatClampNeg s1) s2) fun w2 => bn2 (fX12_up a4 w2) fun x3 w4 => if inb a3 6000 = true then lt (si w4 53 (Int32.toNatClampNeg a3) x3) fun w6 => if a5 = 3 then (if a6 = true then (fX12_byName_255 rc a3 a4 a5 a6 w6) else (if inb a4 5000 = true then if inb a3 6000 = true then lt (si w6 54 (Int32.toNatClampNeg a3) (gi w6 24 (Int32.toNatClampNeg a4))) fun w11 => some (0, w11) else none else none)) else (fX12_byName_255 rc a3 a4 a5 a6 w6) else none else none
theorem pX12_byName_216 {q : Gq} {l : Launch} {N : Option Value → Wd → Prop} {X : String → Wd → Prop} {rc : TX12_mustBe} {dd : Nat} (hS : HSX12_mustBe q l rc dd) (hK : 5 ≤ dd) {w : Wd} {R : Int32 × Wd} (hN : N none R.2) {s1 : Int32} {s2 : Int32} {a3 : Int32} {a4 : Int32} {a5 : Int32} {a6 : Bool} (h : fX12_byName_216 rc s1 s2 a3 a4 a5 a6 w = some R) : RT (GM q) l (dd + 1) yX12_byName cX12_byName 8 (none) N X 216 [.int s2, .int s1, .ref 52] [(0, .ref 0), (3, .int a3), (4, .int a4), (5, .int a5), (6, .int (b2i a6))] w := by
  unfold fX12_byName_216 at h
  replace h := if_n h; obtain ⟨hb1, h⟩ := h
  replace h := lt_e h; obtain ⟨w2, ew2, h⟩ := h
  refine r_iast (pc := 216) aM52 (inb_in hb1) dX12_byName_216 ?_
  refine r_w ew2 ?_
  refine r_aload_n (pc := 217) dX12_byName_217 rfl 0 rfl ?_
  refine r_get (pc := 218) (j := 75) (v := .ref 53) oM0 cf12 flRX12_239 rfl dX12_byName_218 rfl ?_
  refine r_iload_n (pc := 221) dX12_byName_221 rfl 1 rfl ?_
  refine r_aload_n (pc := 222) dX12_byName_222 rfl 0 rfl ?_
  refine r_iload (pc := 223) dX12_byName_223 2 rfl ?_
  replace h := bn2_e h; obtain ⟨x3, w4, ew4, h⟩ := h
  refine r_cVi (pc := 225) wyX12_up oM0 rfl mlRX12_641 iyX12_up syX12_up ⟨Nat.succ_le_succ (Nat.le_trans (Nat.le_of_ble_eq_true rfl) hK), (Nat.le_of_ble_eq_true rfl)⟩ rfl rfl (Nat.le_of_ble_eq_true rfl) dX12_byName_225 (mX12_up ew4 (pI.mk ?_))
  replace h := if_n h; obtain ⟨hb5, h⟩ := h
  replace h := lt_e h; obtain ⟨w6, ew6, h⟩ := h
  refine r_iast (pc := 228) aM53 (inb_in hb5) dX12_byName_228 ?_
  refine r_w ew6 ?_
  refine r_aload_n (pc := 229) dX12_byName_229 rfl 0 rfl ?_
  refine r_get (pc := 230) (j := 76) (v := .ref 54) oM0 cf12 flRX12_242 rfl dX12_byName_230 rfl ?_
  refine r_iload_n (pc := 233) dX12_byName_233 rfl 1 rfl ?_
  refine r_iload (pc := 234) dX12_byName_234 3 rfl ?_
  refine r_iconst (pc := 236) dX12_byName_236 ki_3 ?_
  refine r_icmp_ne (pc := 237) dX12_byName_237 rfl (fun hc7 => ?_) (fun hc7 => ?_)
  · replace h := if_f hc7 h
    refine r_drop (loc' := [(0, .ref 0), (4, .int a4), (5, .int a5), (6, .int (b2i a6))]) [0, 2, 3, 4] rfl ?_
    exact pX12_byName_255 hS hK hN h
  replace h := if_t hc7 h
  refine r_iload (pc := 240) dX12_byName_240 4 rfl ?_
  refine r_z_ne (pc := 242) dX12_byName_242 rfl (fun hc8 => ?_) (fun hc8 => ?_)
  · replace h := if_t hc8 h
    refine r_drop (loc' := [(0, .ref 0), (4, .int a4), (5, .int a5), (6, .int (b2i a6))]) [0, 2, 3, 4] rfl ?_
    exact pX12_byName_255 hS hK hN h
  replace h := if_f hc8 h
  refine r_aload_n (pc := 245) dX12_byName_245 rfl 0 rfl ?_
  refine r_get (pc := 246) (j := 37) (v := .ref 24) oM0 cf12 flRX12_150 rfl dX12_byName_246 rfl ?_
  refine r_iload (pc := 249) dX12_byName_249 2 rfl ?_
  replace h := if_n h; obtain ⟨hb9, h⟩ := h
  refine r_iald (pc := 251) aM24 (inb_in hb9) dX12_byName_251 ?_
  refine r_goto (pc := 252) dX12_byName_252 rfl ?_
  replace h := if_n h; obtain ⟨hb10, h⟩ := h
  replace h := lt_e h; obtain ⟨w11, ew11, h⟩ := h
  refine r_iast (pc := 278) aM54 (inb_in hb10) dX12_byName_278 ?_
  refine r_w ew11 ?_
  exact rOR_v (pc := 279) rfl dX12_byName_279 h hN
def fX12_byName_195 (rc : TX12_mustBe) (a2 : Int32) (a3 : Int32) (a4 : Int32) (a5 : Int32) (a6 : Bool) (w : Wd) : Option (Int32 × Wd) :=
  if a6 = true then (fX12_byName_216 rc a3 10 a3 a4 a5 a6 w) else (if inb a2 5000 = true then fX12_byName_216 rc a3 (gi w 24 (Int32.toNatClampNeg a2)) a3 a4 a5 a6 w else none)
theorem pX12_byName_195 {q : Gq} {l : Launch} {N : Option Value → Wd → Prop} {X : String → Wd → Prop} {rc : TX12_mustBe} {dd : Nat} (hS : HSX12_mustBe q l rc dd) (hK : 5 ≤ dd) {w : Wd} {R : Int32 × Wd} (hN : N none R.2) {a2 : Int32} {a3 : Int32} {a4 : Int32} {a5 : Int32} {a6 : Bool} (h : fX12_byName_195 rc a2 a3 a4 a5 a6 w = some R) : RT (GM q) l (dd + 1) yX12_byName cX12_byName 8 (none) N X 195 [] [(0, .ref 0), (2, .int a2), (3, .int a3), (4, .int a4), (5, .int a5), (6, .int (b2i a6))] w := by
  unfold fX12_byName_195 at h
  refine r_aload_n (pc := 195) dX12_byName_195 rfl 0 rfl ?_
  refine r_get (pc := 196) (j := 74) (v := .ref 52) oM0 cf12 flRX12_236 rfl dX12_byName_196 rfl ?_
  refine r_iload_n (pc := 199) dX12_byName_199 rfl 2 rfl ?_
  refine r_iload (pc := 200) dX12_byName_200 5 rfl ?_
  refine r_z_eq (pc := 202) dX12_byName_202 rfl (fun hc1 => ?_) (fun hc1 => ?_)
  · replace h := if_f hc1 h
    refine r_aload_n (pc := 210) dX12_byName_210 rfl 0 rfl ?_
    refine r_get (pc := 211) (j := 37) (v := .ref 24) oM0 cf12 flRX12_150 rfl dX12_byName_211 rfl ?_
    refine r_iload_n (pc := 214) dX12_byName_214 rfl 1 rfl ?_
    replace h := if_n h; obtain ⟨hb2, h⟩ := h
    refine r_iald (pc := 215) aM24 (inb_in hb2) dX12_byName_215 ?_
    refine r_drop (loc' := [(0, .ref 0), (3, .int a3), (4, .int a4), (5, .int a5), (6, .int (b2i a6))]) [0, 2, 3, 4, 5] rfl ?_
    exact pX12_byName_216 hS hK hN h
  replace h := if_t hc1 h
  refine r_bipush (pc := 205) dX12_byName_205 kb_10 ?_
  refine r_goto (pc := 207) dX12_byName_207 rfl ?_
  refine r_drop (loc' := [(0, .ref 0), (3, .int a3), (4, .int a4), (5, .int a5), (6, .int (b2i a6))]) [0, 2, 3, 4, 5] rfl ?_
  exact pX12_byName_216 hS hK hN h
def fX12_byName_158 (rc : TX12_mustBe) (a1 : Int32) (a2 : Int32) (a3 : Int32) (a4 : Int32) (a5 : Int32) (a6 : Bool) (w : Wd) : Option (Int32 × Wd) :=
  if a5 = 3 then (if a6 = true then (fX12_byName_195 rc a2 a3 a4 a5 a6 w) else (if inb a4 5000 = true then if inb (gi w 24 (Int32.toNatClampNeg a4)) 1200 = true then if (gi w 31 (Int32.toNatClampNeg (gi w 24 (Int32.toNatClampNeg a4)))) ≤ 0 then (fX12_byName_195 rc a2 a3 a4 a5 a6 w) else (if inb a1 24000 = true then bn (fX12_found 5 (gi w 12 (Int32.toNatClampNeg a1)) w) fun w7 => fX12_byName_195 rc a2 a3 a4 a5 a6 w7 else none) else none else none)) else (fX12_byName_195 rc a2 a3 a4 a5 a6 w)
theorem pX12_byName_158 {q : Gq} {l : Launch} {N : Option Value → Wd → Prop} {X : String → Wd → Prop} {rc : TX12_mustBe} {dd : Nat} (hS : HSX12_mustBe q l rc dd) (hK : 5 ≤ dd) {w : Wd} {R : Int32 × Wd} (hN : N none R.2) {a1 : Int32} {a2 : Int32} {a3 : Int32} {a4 : Int32} {a5 : Int32} {a6 : Bool} (h : fX12_byName_158 rc a1 a2 a3 a4 a5 a6 w = some R) : RT (GM q) l (dd + 1) yX12_byName cX12_byName 8 (none) N X 158 [] [(0, .ref 0), (1, .int a1), (2, .int a2), (3, .int a3), (4, .int a4), (5, .int a5), (6, .int (b2i a6))] w := by
  unfold fX12_byName_158 at h
  refine r_iload (pc := 158) dX12_byName_158 5 rfl ?_
  refine r_iconst (pc := 160) dX12_byName_160 ki_3 ?_
  refine r_icmp_ne (pc := 161) dX12_byName_161 rfl (fun hc1 => ?_) (fun hc1 => ?_)
  · replace h := if_f hc1 h
    refine r_drop (loc' := [(0, .ref 0), (2, .int a2), (3, .int a3), (4, .int a4), (5, .int a5), (6, .int (b2i a6))]) [0, 2, 3, 4, 5, 6] rfl ?_
    exact pX12_byName_195 hS hK hN h
  replace h := if_t hc1 h
  refine r_iload (pc := 164) dX12_byName_164 6 rfl ?_
  refine r_z_ne (pc := 166) dX12_byName_166 rfl (fun hc2 => ?_) (fun hc2 => ?_)
  · replace h := if_t hc2 h
    refine r_drop (loc' := [(0, .ref 0), (2, .int a2), (3, .int a3), (4, .int a4), (5, .int a5), (6, .int (b2i a6))]) [0, 2, 3, 4, 5, 6] rfl ?_
    exact pX12_byName_195 hS hK hN h
  replace h := if_f hc2 h
  refine r_aload_n (pc := 169) dX12_byName_169 rfl 0 rfl ?_
  refine r_get (pc := 170) (j := 45) (v := .ref 31) oM0 cf12 flRX12_172 rfl dX12_byName_170 rfl ?_
  refine r_aload_n (pc := 173) dX12_byName_173 rfl 0 rfl ?_
  refine r_get (pc := 174) (j := 37) (v := .ref 24) oM0 cf12 flRX12_150 rfl dX12_byName_174 rfl ?_
  refine r_iload (pc := 177) dX12_byName_177 4 rfl ?_
  replace h := if_n h; obtain ⟨hb3, h⟩ := h
  refine r_iald (pc := 179) aM24 (inb_in hb3) dX12_byName_179 ?_
  replace h := if_n h; obtain ⟨hb4, h⟩ := h
  refine r_iald (pc := 180) aM31 (inb_in hb4) dX12_byName_180 ?_
  refine r_if_le (pc := 181) dX12_byName_181 rfl (fun hc5 => ?_) (fun hc5 => ?_)
  · replace h := if_t hc5 h
    refine r_drop (loc' := [(0, .ref 0), (2, .int a2), (3, .int a3), (4, .int a4), (5, .int a5), (6, .int (b2i a6))]) [0, 2, 3, 4, 5, 6] rfl ?_
    exact pX12_byName_195 hS hK hN h
  replace h := if_f hc5 h
  refine r_aload_n (pc := 184) dX12_byName_184 rfl 0 rfl ?_
  refine r_iconst (pc := 185) dX12_byName_185 ki_5 ?_
  refine r_aload_n (pc := 186) dX12_byName_186 rfl 0 rfl ?_
  refine r_get (pc := 187) (j := 21) (v := .ref 12) oM0 cf12 flRX12_114 rfl dX12_byName_187 rfl ?_
  refine r_iload_n (pc := 190) dX12_byName_190 rfl 1 rfl ?_
  replace h := if_n h; obtain ⟨hb6, h⟩ := h
  refine r_iald (pc := 191) aM12 (inb_in hb6) dX12_byName_191 ?_
  replace h := bn_e h; obtain ⟨w7, ew7, h⟩ := h
  refine r_cVv (pc := 192) wyX12_found oM0 rfl mlRX12_484 iyX12_found syX12_found ⟨Nat.succ_le_succ (Nat.le_trans (Nat.le_of_ble_eq_true rfl) hK), (Nat.le_of_ble_eq_true rfl)⟩ rfl rfl (Nat.le_of_ble_eq_true rfl) dX12_byName_192 (mX12_found ew7 (pV.mk ?_))
  refine r_drop (loc' := [(0, .ref 0), (2, .int a2), (3, .int a3), (4, .int a4), (5, .int a5), (6, .int (b2i a6))]) [0, 2, 3, 4, 5, 6] rfl ?_
  exact pX12_byName_195 hS hK hN h
def fX12_byName_128 (rc : TX12_mustBe) (a1 : Int32) (a4 : Int32) (w : Wd) : Option (Int32 × Wd) :=
  if inb a4 5000 = true then if (gi w 19 (Int32.toNatClampNeg a4)) = 6 then (if inb a4 5000 = true then if (gi w 24 (Int32.toNatClampNeg a4)) = 0 then (some (0, w)) else (bn2 (fX12_wrongName a1 w) fun x5 w6 => some (0, w6)) else none) else (bn2 (fX12_wrongName a1 w) fun x7 w8 => some (0, w8)) else none
theorem pX12_byName_128 {q : Gq} {l : Launch} {N : Option Value → Wd → Prop} {X : String → Wd → Prop} {rc : TX12_mustBe} {dd : Nat} (hS : HSX12_mustBe q l rc dd) (hK : 5 ≤ dd) {w : Wd} {R : Int32 × Wd} (hN : N none R.2) {a1 : Int32} {a4 : Int32} (h : fX12_byName_128 rc a1 a4 w = some R) : RT (GM q) l (dd + 1) yX12_byName cX12_byName 8 (none) N X 128 [] [(0, .ref 0), (1, .int a1), (4, .int a4)] w := by
  unfold fX12_byName_128 at h
  refine r_aload_n (pc := 128) dX12_byName_128 rfl 0 rfl ?_
  refine r_get (pc := 129) (j := 32) (v := .ref 19) oM0 cf12 flRX12_135 rfl dX12_byName_129 rfl ?_
  refine r_iload (pc := 132) dX12_byName_132 2 rfl ?_
  replace h := if_n h; obtain ⟨hb1, h⟩ := h
  refine r_iald (pc := 134) aM19 (inb_in hb1) dX12_byName_134 ?_
  refine r_bipush (pc := 135) dX12_byName_135 kb_6 ?_
  refine r_icmp_ne (pc := 137) dX12_byName_137 rfl (fun hc2 => ?_) (fun hc2 => ?_)
  · replace h := if_f hc2 h
    refine r_aload_n (pc := 150) dX12_byName_150 rfl 0 rfl ?_
    refine r_iload_n (pc := 151) dX12_byName_151 rfl 1 rfl ?_
    replace h := bn2_e h; obtain ⟨x7, w8, ew8, h⟩ := h
    refine r_cVi (pc := 152) wyX12_wrongName oM0 rfl mlRX12_648 iyX12_wrongName syX12_wrongName ⟨Nat.succ_le_succ (Nat.le_trans (Nat.le_of_ble_eq_true rfl) hK), (Nat.le_of_ble_eq_true rfl)⟩ rfl rfl (Nat.le_of_ble_eq_true rfl) dX12_byName_152 (mX12_wrongName ew8 (pI.mk ?_))
    refine r_istore (pc := 155) (loc' := [(7, .int x7), (0, .ref 0), (1, .int a1), (4, .int a4)]) dX12_byName_155 (Nat.le_of_ble_eq_true rfl) rfl ?_
    exact rOR_v (pc := 157) rfl dX12_byName_157 h hN
  replace h := if_t hc2 h
  refine r_aload_n (pc := 140) dX12_byName_140 rfl 0 rfl ?_
  refine r_get (pc := 141) (j := 37) (v := .ref 24) oM0 cf12 flRX12_150 rfl dX12_byName_141 rfl ?_
  refine r_iload (pc := 144) dX12_byName_144 2 rfl ?_
  replace h := if_n h; obtain ⟨hb3, h⟩ := h
  refine r_iald (pc := 146) aM24 (inb_in hb3) dX12_byName_146 ?_
  refine r_if_eq (pc := 147) dX12_byName_147 rfl (fun hc4 => ?_) (fun hc4 => ?_)
  · replace h := if_t hc4 h
    exact rOR_v (pc := 157) rfl dX12_byName_157 h hN
  replace h := if_f hc4 h
  refine r_aload_n (pc := 150) dX12_byName_150 rfl 0 rfl ?_
  refine r_iload_n (pc := 151) dX12_byName_151 rfl 1 rfl ?_
  replace h := bn2_e h; obtain ⟨x5, w6, ew6, h⟩ := h
  refine r_cVi (pc := 152) wyX12_wrongName oM0 rfl mlRX12_648 iyX12_wrongName syX12_wrongName ⟨Nat.succ_le_succ (Nat.le_trans (Nat.le_of_ble_eq_true rfl) hK), (Nat.le_of_ble_eq_true rfl)⟩ rfl rfl (Nat.le_of_ble_eq_true rfl) dX12_byName_152 (mX12_wrongName ew6 (pI.mk ?_))
  refine r_istore (pc := 155) (loc' := [(7, .int x5), (0, .ref 0), (1, .int a1), (4, .int a4)]) dX12_byName_155 (Nat.le_of_ble_eq_true rfl) rfl ?_
  exact rOR_v (pc := 157) rfl dX12_byName_157 h hN
def fX12_byName_102 (rc : TX12_mustBe) (a1 : Int32) (a2 : Int32) (a3 : Int32) (a4 : Int32) (a5 : Int32) (a6 : Bool) (w : Wd) : Option (Int32 × Wd) :=
  if inb a2 5000 = true then if (gi w 24 (Int32.toNatClampNeg a2)) = 5 then (fX12_byName_158 rc a1 a2 a3 a4 a5 a6 w) else (if inb a4 5000 = true then if inb a2 5000 = true then if (gi w 20 (Int32.toNatClampNeg a4)) = (gi w 20 (Int32.toNatClampNeg a2)) then (fX12_byName_158 rc a1 a2 a3 a4 a5 a6 w) else (fX12_byName_128 rc a1 a4 w) else none else none) else none
theorem pX12_byName_102 {q : Gq} {l : Launch} {N : Option Value → Wd → Prop} {X : String → Wd → Prop} {rc : TX12_mustBe} {dd : Nat} (hS : HSX12_mustBe q l rc dd) (hK : 5 ≤ dd) {w : Wd} {R : Int32 × Wd} (hN : N none R.2) {a1 : Int32} {a2 : Int32} {a3 : Int32} {a4 : Int32} {a5 : Int32} {a6 : Bool} (h : fX12_byName_102 rc a1 a2 a3 a4 a5 a6 w = some R) : RT (GM q) l (dd + 1) yX12_byName cX12_byName 8 (none) N X 102 [] [(0, .ref 0), (1, .int a1), (2, .int a2), (3, .int a3), (4, .int a4), (5, .int a5), (6, .int (b2i a6))] w := by
  unfold fX12_byName_102 at h
  refine r_aload_n (pc := 102) dX12_byName_102 rfl 0 rfl ?_
  refine r_get (pc := 103) (j := 37) (v := .ref 24) oM0 cf12 flRX12_150 rfl dX12_byName_103 rfl ?_
  refine r_iload_n (pc := 106) dX12_byName_106 rfl 2 rfl ?_
  replace h := if_n h; obtain ⟨hb1, h⟩ := h
  refine r_iald (pc := 107) aM24 (inb_in hb1) dX12_byName_107 ?_
  refine r_iconst (pc := 108) dX12_byName_108 ki_5 ?_
  refine r_icmp_eq (pc := 109) dX12_byName_109 rfl (fun hc2 => ?_) (fun hc2 => ?_)
  · replace h := if_t hc2 h
    exact pX12_byName_158 hS hK hN h
  replace h := if_f hc2 h
  refine r_aload_n (pc := 112) dX12_byName_112 rfl 0 rfl ?_
  refine r_get (pc := 113) (j := 33) (v := .ref 20) oM0 cf12 flRX12_138 rfl dX12_byName_113 rfl ?_
  refine r_iload (pc := 116) dX12_byName_116 4 rfl ?_
  replace h := if_n h; obtain ⟨hb3, h⟩ := h
  refine r_iald (pc := 118) aM20 (inb_in hb3) dX12_byName_118 ?_
  refine r_aload_n (pc := 119) dX12_byName_119 rfl 0 rfl ?_
  refine r_get (pc := 120) (j := 33) (v := .ref 20) oM0 cf12 flRX12_138 rfl dX12_byName_120 rfl ?_
  refine r_iload_n (pc := 123) dX12_byName_123 rfl 2 rfl ?_
  replace h := if_n h; obtain ⟨hb4, h⟩ := h
  refine r_iald (pc := 124) aM20 (inb_in hb4) dX12_byName_124 ?_
  refine r_icmp_eq (pc := 125) dX12_byName_125 rfl (fun hc5 => ?_) (fun hc5 => ?_)
  · replace h := if_t hc5 h
    exact pX12_byName_158 hS hK hN h
  replace h := if_f hc5 h
  refine r_drop (loc' := [(0, .ref 0), (1, .int a1), (4, .int a4)]) [0, 1, 4] rfl ?_
  exact pX12_byName_128 hS hK hN h
def fX12_byName_69 (rc : TX12_mustBe) (s0 : Int32) (a1 : Int32) (a2 : Int32) (a3 : Int32) (a4 : Int32) (w : Wd) : Option (Int32 × Wd) :=
  if inb a2 5000 = true then bn2 (fX12_isFormal a4 (gi w 24 (Int32.toNatClampNeg a2)) w) fun x2 w3 => if inb a4 5000 = true then if (gi w3 19 (Int32.toNatClampNeg a4)) = s0 then (fX12_byName_102 rc a1 a2 a3 a4 s0 x2 w3) else (if x2 = true then (fX12_byName_102 rc a1 a2 a3 a4 s0 x2 w3) else (fX12_byName_128 rc a1 a4 w3)) else none else none
theorem pX12_byName_69 {q : Gq} {l : Launch} {N : Option Value → Wd → Prop} {X : String → Wd → Prop} {rc : TX12_mustBe} {dd : Nat} (hS : HSX12_mustBe q l rc dd) (hK : 5 ≤ dd) {w : Wd} {R : Int32 × Wd} (hN : N none R.2) {s0 : Int32} {a1 : Int32} {a2 : Int32} {a3 : Int32} {a4 : Int32} (h : fX12_byName_69 rc s0 a1 a2 a3 a4 w = some R) : RT (GM q) l (dd + 1) yX12_byName cX12_byName 8 (none) N X 69 [.int s0] [(0, .ref 0), (1, .int a1), (2, .int a2), (3, .int a3), (4, .int a4)] w := by
  unfold fX12_byName_69 at h
  refine r_istore (pc := 69) (loc' := [(5, .int s0), (0, .ref 0), (1, .int a1), (2, .int a2), (3, .int a3), (4, .int a4)]) dX12_byName_69 (Nat.le_of_ble_eq_true rfl) rfl ?_
  refine r_aload_n (pc := 71) dX12_byName_71 rfl 1 rfl ?_
  refine r_iload (pc := 72) dX12_byName_72 5 rfl ?_
  refine r_aload_n (pc := 74) dX12_byName_74 rfl 1 rfl ?_
  refine r_get (pc := 75) (j := 37) (v := .ref 24) oM0 cf12 flRX12_150 rfl dX12_byName_75 rfl ?_
  refine r_iload_n (pc := 78) dX12_byName_78 rfl 3 rfl ?_
  replace h := if_n h; obtain ⟨hb1, h⟩ := h
  refine r_iald (pc := 79) aM24 (inb_in hb1) dX12_byName_79 ?_
  replace h := bn2_e h; obtain ⟨x2, w3, ew3, h⟩ := h
  refine r_cVi (pc := 80) wyX12_isFormal oM0 rfl mlRX12_644 iyX12_isFormal syX12_isFormal ⟨Nat.succ_le_succ (Nat.le_trans (Nat.le_of_ble_eq_true rfl) hK), (Nat.le_of_ble_eq_true rfl)⟩ rfl rfl (Nat.le_of_ble_eq_true rfl) dX12_byName_80 (mX12_isFormal ew3 (pI.mk ?_))
  refine r_istore (pc := 83) (loc' := [(6, .int (b2i x2)), (5, .int s0), (0, .ref 0), (1, .int a1), (2, .int a2), (3, .int a3), (4, .int a4)]) dX12_byName_83 (Nat.le_of_ble_eq_true rfl) rfl ?_
  refine r_aload_n (pc := 85) dX12_byName_85 rfl 2 rfl ?_
  refine r_get (pc := 86) (j := 32) (v := .ref 19) oM0 cf12 flRX12_135 rfl dX12_byName_86 rfl ?_
  refine r_iload (pc := 89) dX12_byName_89 6 rfl ?_
  replace h := if_n h; obtain ⟨hb4, h⟩ := h
  refine r_iald (pc := 91) aM19 (inb_in hb4) dX12_byName_91 ?_
  refine r_iload (pc := 92) dX12_byName_92 1 rfl ?_
  refine r_icmp_eq (pc := 94) dX12_byName_94 rfl (fun hc5 => ?_) (fun hc5 => ?_)
  · replace h := if_t hc5 h
    refine r_drop (loc' := [(0, .ref 0), (1, .int a1), (2, .int a2), (3, .int a3), (4, .int a4), (5, .int s0), (6, .int (b2i x2))]) [2, 3, 4, 5, 6, 1, 0] rfl ?_
    exact pX12_byName_102 hS hK hN h
  replace h := if_f hc5 h
  refine r_iload (pc := 97) dX12_byName_97 0 rfl ?_
  refine r_z_eq (pc := 99) dX12_byName_99 rfl (fun hc6 => ?_) (fun hc6 => ?_)
  · replace h := if_f hc6 h
    refine r_drop (loc' := [(0, .ref 0), (1, .int a1), (4, .int a4)]) [2, 3, 6] rfl ?_
    exact pX12_byName_128 hS hK hN h
  replace h := if_t hc6 h
  refine r_drop (loc' := [(0, .ref 0), (1, .int a1), (2, .int a2), (3, .int a3), (4, .int a4), (5, .int s0), (6, .int (b2i x2))]) [2, 3, 4, 5, 6, 1, 0] rfl ?_
  exact pX12_byName_102 hS hK hN h
def fX12_byName (rc : TX12_mustBe) (a1 : Int32) (a2 : Int32) (a3 : Int32) (w : Wd) : Option (Int32 × Wd) :=
  if inb a1 24000 = true then if (gi w 7 (Int32.toNatClampNeg a1)) = 3 then (bn2 (fX12_seen a1 w) fun x3 w4 => if 0 ≤ x3 then (if inb a2 5000 = true then if (gi w4 24 (Int32.toNatClampNeg a2)) = 2 then (fX12_byName_69 rc 2 a1 a2 a3 x3 w4) else (if inb a2 5000 = true then if (gi w4 24 (Int32.toNatClampNeg a2)) = 3 then (fX12_byName_69 rc 3 a1 a2 a3 x3 w4) else (fX12_byName_69 rc 5 a1 a2 a3 x3 w4) else none) else none) else (some (0, w4))) else (if inb a1 24000 = true then bn (fX12_found 4 (gi w 12 (Int32.toNatClampNeg a1)) w) fun w11 => bn2 (rc 8 a1 0 0 w11) fun _ w13 => some (0, w13) else none) else none
theorem pX12_byName {q : Gq} {l : Launch} {N : Option Value → Wd → Prop} {X : String → Wd → Prop} {rc : TX12_mustBe} {dd : Nat} (hS : HSX12_mustBe q l rc dd) (hK : 5 ≤ dd) {w : Wd} {R : Int32 × Wd} (hN : N none R.2) {a1 : Int32} {a2 : Int32} {a3 : Int32} (h : fX12_byName rc a1 a2 a3 w = some R) : RT (GM q) l (dd + 1) yX12_byName cX12_byName 8 (none) N X 0 [] [(0, .ref 0), (1, .int a1), (2, .int a2), (3, .int a3)] w := by
  unfold fX12_byName at h
  refine r_aload_n (pc := 0) dX12_byName_0 rfl 0 rfl ?_
  refine r_get (pc := 1) (j := 16) (v := .ref 7) oM0 cf12 flRX12_99 rfl dX12_byName_1 rfl ?_
  refine r_iload_n (pc := 4) dX12_byName_4 rfl 1 rfl ?_
  replace h := if_n h; obtain ⟨hb1, h⟩ := h
  refine r_iald (pc := 5) aM7 (inb_in hb1) dX12_byName_5 ?_
  refine r_iconst (pc := 6) dX12_byName_6 ki_3 ?_
  refine r_icmp_eq (pc := 7) dX12_byName_7 rfl (fun hc2 => ?_) (fun hc2 => ?_)
  · replace h := if_t hc2 h
    refine r_aload_n (pc := 27) dX12_byName_27 rfl 0 rfl ?_
    refine r_iload_n (pc := 28) dX12_byName_28 rfl 1 rfl ?_
    replace h := bn2_e h; obtain ⟨x3, w4, ew4, h⟩ := h
    refine r_cVi (pc := 29) wyX12_seen oM0 rfl mlRX12_638 iyX12_seen syX12_seen ⟨Nat.succ_le_succ (Nat.le_trans (Nat.le_of_ble_eq_true rfl) hK), (Nat.le_of_ble_eq_true rfl)⟩ rfl rfl (Nat.le_of_ble_eq_true rfl) dX12_byName_29 (mX12_seen ew4 (pI.mk ?_))
    refine r_istore (pc := 32) (loc' := [(4, .int x3), (0, .ref 0), (1, .int a1), (2, .int a2), (3, .int a3)]) dX12_byName_32 (Nat.le_of_ble_eq_true rfl) rfl ?_
    refine r_iload (pc := 34) dX12_byName_34 0 rfl ?_
    refine r_if_ge (pc := 36) dX12_byName_36 rfl (fun hc5 => ?_) (fun hc5 => ?_)
    · replace h := if_t hc5 h
      refine r_aload_n (pc := 40) dX12_byName_40 rfl 1 rfl ?_
      refine r_get (pc := 41) (j := 37) (v := .ref 24) oM0 cf12 flRX12_150 rfl dX12_byName_41 rfl ?_
      refine r_iload_n (pc := 44) dX12_byName_44 rfl 3 rfl ?_
      replace h := if_n h; obtain ⟨hb6, h⟩ := h
      refine r_iald (pc := 45) aM24 (inb_in hb6) dX12_byName_45 ?_
      refine r_iconst (pc := 46) dX12_byName_46 ki_2 ?_
      refine r_icmp_ne (pc := 47) dX12_byName_47 rfl (fun hc7 => ?_) (fun hc7 => ?_)
      · replace h := if_f hc7 h
        refine r_aload_n (pc := 54) dX12_byName_54 rfl 1 rfl ?_
        refine r_get (pc := 55) (j := 37) (v := .ref 24) oM0 cf12 flRX12_150 rfl dX12_byName_55 rfl ?_
        refine r_iload_n (pc := 58) dX12_byName_58 rfl 3 rfl ?_
        replace h := if_n h; obtain ⟨hb8, h⟩ := h
        refine r_iald (pc := 59) aM24 (inb_in hb8) dX12_byName_59 ?_
        refine r_iconst (pc := 60) dX12_byName_60 ki_3 ?_
        refine r_icmp_ne (pc := 61) dX12_byName_61 rfl (fun hc9 => ?_) (fun hc9 => ?_)
        · replace h := if_f hc9 h
          refine r_iconst (pc := 68) dX12_byName_68 ki_5 ?_
          refine r_drop (loc' := [(0, .ref 0), (1, .int a1), (2, .int a2), (3, .int a3), (4, .int x3)]) [1, 2, 3, 4, 0] rfl ?_
          exact pX12_byName_69 hS hK hN h
        replace h := if_t hc9 h
        refine r_iconst (pc := 64) dX12_byName_64 ki_3 ?_
        refine r_goto (pc := 65) dX12_byName_65 rfl ?_
        refine r_drop (loc' := [(0, .ref 0), (1, .int a1), (2, .int a2), (3, .int a3), (4, .int x3)]) [1, 2, 3, 4, 0] rfl ?_
        exact pX12_byName_69 hS hK hN h
      replace h := if_t hc7 h
      refine r_iconst (pc := 50) dX12_byName_50 ki_2 ?_
      refine r_goto (pc := 51) dX12_byName_51 rfl ?_
      refine r_drop (loc' := [(0, .ref 0), (1, .int a1), (2, .int a2), (3, .int a3), (4, .int x3)]) [1, 2, 3, 4, 0] rfl ?_
      exact pX12_byName_69 hS hK hN h
    replace h := if_f hc5 h
    exact rOR_v (pc := 39) rfl dX12_byName_39 h hN
  replace h := if_f hc2 h
  refine r_aload_n (pc := 10) dX12_byName_10 rfl 0 rfl ?_
  refine r_iconst (pc := 11) dX12_byName_11 ki_4 ?_
  refine r_aload_n (pc := 12) dX12_byName_12 rfl 0 rfl ?_
  refine r_get (pc := 13) (j := 21) (v := .ref 12) oM0 cf12 flRX12_114 rfl dX12_byName_13 rfl ?_
  refine r_iload_n (pc := 16) dX12_byName_16 rfl 1 rfl ?_
  replace h := if_n h; obtain ⟨hb10, h⟩ := h
  refine r_iald (pc := 17) aM12 (inb_in hb10) dX12_byName_17 ?_
  replace h := bn_e h; obtain ⟨w11, ew11, h⟩ := h
  refine r_cVv (pc := 18) wyX12_found oM0 rfl mlRX12_484 iyX12_found syX12_found ⟨Nat.succ_le_succ (Nat.le_trans (Nat.le_of_ble_eq_true rfl) hK), (Nat.le_of_ble_eq_true rfl)⟩ rfl rfl (Nat.le_of_ble_eq_true rfl) dX12_byName_18 (mX12_found ew11 (pV.mk ?_))
  refine r_aload_n (pc := 21) dX12_byName_21 rfl 0 rfl ?_
  refine r_iload_n (pc := 22) dX12_byName_22 rfl 1 rfl ?_
  replace h := bn2_e h; obtain ⟨x12, w13, ew13, h⟩ := h
  refine r_cVv (pc := 23) wyX12_loose oM0 rfl mlRX12_673 iyX12_loose syX12_loose ⟨Nat.le_refl _, (Nat.le_of_ble_eq_true rfl)⟩ rfl rfl (Nat.le_of_ble_eq_true rfl) dX12_byName_23 ((hS.2.2.2.2.2.2.2.2.1 _ _ _ _ _ _) ew13 (pV.mk ?_))
  exact rOR_v (pc := 26) rfl dX12_byName_26 h hN
/-! AlgolMillModel.element (I)I: O, 1705 -/
theorem dX12_element_0 : decode cX12_element 0 = .ok (.aload_n 0, 1) := by decide +kernel
theorem dX12_element_1 : decode cX12_element 1 = .ok (.iload_n 1, 1) := by decide +kernel
theorem dX12_element_2 : decode cX12_element 2 = .ok (.invokevirtual 638, 3) := by decide +kernel
theorem dX12_element_5 : decode cX12_element 5 = .ok (.istore_n 2, 1) := by decide +kernel
theorem dX12_element_6 : decode cX12_element 6 = .ok (.aload_n 0, 1) := by decide +kernel
theorem dX12_element_7 : decode cX12_element 7 = .ok (.getfield 102, 3) := by decide +kernel
theorem dX12_element_10 : decode cX12_element 10 = .ok (.iload_n 1, 1) := by decide +kernel
theorem dX12_element_11 : decode cX12_element 11 = .ok (.iaload, 1) := by decide +kernel
theorem dX12_element_12 : decode cX12_element 12 = .ok (.istore_n 3, 1) := by decide +kernel
theorem dX12_element_13 : decode cX12_element 13 = .ok (.iload_n 3, 1) := by decide +kernel
theorem dX12_element_14 : decode cX12_element 14 = .ok (.ifCond .lt 19, 3) := by decide +kernel
theorem dX12_element_17 : decode cX12_element 17 = .ok (.aload_n 0, 1) := by decide +kernel
theorem dX12_element_18 : decode cX12_element 18 = .ok (.iload_n 3, 1) := by decide +kernel
theorem dX12_element_19 : decode cX12_element 19 = .ok (.iconst 1, 1) := by decide +kernel
theorem dX12_element_20 : decode cX12_element 20 = .ok (.invokevirtual 622, 3) := by decide +kernel
theorem dX12_element_23 : decode cX12_element 23 = .ok (.aload_n 0, 1) := by decide +kernel
theorem dX12_element_24 : decode cX12_element 24 = .ok (.getfield 111, 3) := by decide +kernel
theorem dX12_element_27 : decode cX12_element 27 = .ok (.iload_n 3, 1) := by decide +kernel
theorem dX12_element_28 : decode cX12_element 28 = .ok (.iaload, 1) := by decide +kernel
theorem dX12_element_29 : decode cX12_element 29 = .ok (.istore_n 3, 1) := by decide +kernel
theorem dX12_element_30 : decode cX12_element 30 = .ok (.goto (-17), 3) := by decide +kernel
theorem dX12_element_33 : decode cX12_element 33 = .ok (.iload_n 2, 1) := by decide +kernel
theorem dX12_element_34 : decode cX12_element 34 = .ok (.ifCond .ge 5, 3) := by decide +kernel
theorem dX12_element_37 : decode cX12_element 37 = .ok (.iconst 0, 1) := by decide +kernel
theorem dX12_element_38 : decode cX12_element 38 = .ok (.ireturn, 1) := by decide +kernel
theorem dX12_element_39 : decode cX12_element 39 = .ok (.aload_n 0, 1) := by decide +kernel
theorem dX12_element_40 : decode cX12_element 40 = .ok (.iload_n 2, 1) := by decide +kernel
theorem dX12_element_41 : decode cX12_element 41 = .ok (.iconst 2, 1) := by decide +kernel
theorem dX12_element_42 : decode cX12_element 42 = .ok (.invokevirtual 644, 3) := by decide +kernel
theorem dX12_element_45 : decode cX12_element 45 = .ok (.istore_n 3, 1) := by decide +kernel
theorem dX12_element_46 : decode cX12_element 46 = .ok (.aload_n 0, 1) := by decide +kernel
theorem dX12_element_47 : decode cX12_element 47 = .ok (.getfield 135, 3) := by decide +kernel
theorem dX12_element_50 : decode cX12_element 50 = .ok (.iload_n 2, 1) := by decide +kernel
theorem dX12_element_51 : decode cX12_element 51 = .ok (.iaload, 1) := by decide +kernel
theorem dX12_element_52 : decode cX12_element 52 = .ok (.iconst 2, 1) := by decide +kernel
theorem dX12_element_53 : decode cX12_element 53 = .ok (.if_icmp .eq 37, 3) := by decide +kernel
theorem dX12_element_56 : decode cX12_element 56 = .ok (.iload_n 3, 1) := by decide +kernel
theorem dX12_element_57 : decode cX12_element 57 = .ok (.ifCond .ne 33, 3) := by decide +kernel
theorem dX12_element_60 : decode cX12_element 60 = .ok (.aload_n 0, 1) := by decide +kernel
theorem dX12_element_61 : decode cX12_element 61 = .ok (.getfield 135, 3) := by decide +kernel
theorem dX12_element_64 : decode cX12_element 64 = .ok (.iload_n 2, 1) := by decide +kernel
theorem dX12_element_65 : decode cX12_element 65 = .ok (.iaload, 1) := by decide +kernel
theorem dX12_element_66 : decode cX12_element 66 = .ok (.bipush 6, 2) := by decide +kernel
theorem dX12_element_68 : decode cX12_element 68 = .ok (.if_icmp .ne 16, 3) := by decide +kernel
theorem dX12_element_71 : decode cX12_element 71 = .ok (.aload_n 0, 1) := by decide +kernel
theorem dX12_element_72 : decode cX12_element 72 = .ok (.getfield 150, 3) := by decide +kernel
theorem dX12_element_75 : decode cX12_element 75 = .ok (.iload_n 2, 1) := by decide +kernel
theorem dX12_element_76 : decode cX12_element 76 = .ok (.iaload, 1) := by decide +kernel
theorem dX12_element_77 : decode cX12_element 77 = .ok (.ifCond .ne 7, 3) := by decide +kernel
theorem dX12_element_80 : decode cX12_element 80 = .ok (.iconst 0, 1) := by decide +kernel
theorem dX12_element_81 : decode cX12_element 81 = .ok (.goto 8, 3) := by decide +kernel
theorem dX12_element_84 : decode cX12_element 84 = .ok (.aload_n 0, 1) := by decide +kernel
theorem dX12_element_85 : decode cX12_element 85 = .ok (.iload_n 1, 1) := by decide +kernel
theorem dX12_element_86 : decode cX12_element 86 = .ok (.invokevirtual 648, 3) := by decide +kernel
theorem dX12_element_89 : decode cX12_element 89 = .ok (.ireturn, 1) := by decide +kernel
theorem dX12_element_90 : decode cX12_element 90 = .ok (.iload_n 3, 1) := by decide +kernel
theorem dX12_element_91 : decode cX12_element 91 = .ok (.ifCond .ne 18, 3) := by decide +kernel
theorem dX12_element_94 : decode cX12_element 94 = .ok (.aload_n 0, 1) := by decide +kernel
theorem dX12_element_95 : decode cX12_element 95 = .ok (.getfield 150, 3) := by decide +kernel
theorem dX12_element_98 : decode cX12_element 98 = .ok (.iload_n 2, 1) := by decide +kernel
theorem dX12_element_99 : decode cX12_element 99 = .ok (.iaload, 1) := by decide +kernel
theorem dX12_element_100 : decode cX12_element 100 = .ok (.aload_n 0, 1) := by decide +kernel
theorem dX12_element_101 : decode cX12_element 101 = .ok (.getfield 105, 3) := by decide +kernel
theorem dX12_element_104 : decode cX12_element 104 = .ok (.iload_n 1, 1) := by decide +kernel
theorem dX12_element_105 : decode cX12_element 105 = .ok (.iaload, 1) := by decide +kernel
theorem dX12_element_106 : decode cX12_element 106 = .ok (.if_icmp .ne 17, 3) := by decide +kernel
theorem dX12_element_109 : decode cX12_element 109 = .ok (.iload_n 3, 1) := by decide +kernel
theorem dX12_element_110 : decode cX12_element 110 = .ok (.ifCond .eq 24, 3) := by decide +kernel
theorem dX12_element_113 : decode cX12_element 113 = .ok (.aload_n 0, 1) := by decide +kernel
theorem dX12_element_114 : decode cX12_element 114 = .ok (.getfield 105, 3) := by decide +kernel
theorem dX12_element_117 : decode cX12_element 117 = .ok (.iload_n 1, 1) := by decide +kernel
theorem dX12_element_118 : decode cX12_element 118 = .ok (.iaload, 1) := by decide +kernel
theorem dX12_element_119 : decode cX12_element 119 = .ok (.iconst 3, 1) := by decide +kernel
theorem dX12_element_120 : decode cX12_element 120 = .ok (.if_icmp .le 14, 3) := by decide +kernel
theorem dX12_element_123 : decode cX12_element 123 = .ok (.aload_n 0, 1) := by decide +kernel
theorem dX12_element_124 : decode cX12_element 124 = .ok (.iconst 5, 1) := by decide +kernel
theorem dX12_element_125 : decode cX12_element 125 = .ok (.aload_n 0, 1) := by decide +kernel
theorem dX12_element_126 : decode cX12_element 126 = .ok (.getfield 114, 3) := by decide +kernel
theorem dX12_element_129 : decode cX12_element 129 = .ok (.iload_n 1, 1) := by decide +kernel
theorem dX12_element_130 : decode cX12_element 130 = .ok (.iaload, 1) := by decide +kernel
theorem dX12_element_131 : decode cX12_element 131 = .ok (.invokevirtual 484, 3) := by decide +kernel
theorem dX12_element_134 : decode cX12_element 134 = .ok (.aload_n 0, 1) := by decide +kernel
theorem dX12_element_135 : decode cX12_element 135 = .ok (.iconst 5, 1) := by decide +kernel
theorem dX12_element_136 : decode cX12_element 136 = .ok (.aload_n 0, 1) := by decide +kernel
theorem dX12_element_137 : decode cX12_element 137 = .ok (.iload_n 2, 1) := by decide +kernel
theorem dX12_element_138 : decode cX12_element 138 = .ok (.invokevirtual 641, 3) := by decide +kernel
theorem dX12_element_141 : decode cX12_element 141 = .ok (.iload_n 3, 1) := by decide +kernel
theorem dX12_element_142 : decode cX12_element 142 = .ok (.ifCond .eq 14, 3) := by decide +kernel
theorem dX12_element_145 : decode cX12_element 145 = .ok (.iconst (-1), 1) := by decide +kernel
theorem dX12_element_146 : decode cX12_element 146 = .ok (.aload_n 0, 1) := by decide +kernel
theorem dX12_element_147 : decode cX12_element 147 = .ok (.getfield 156, 3) := by decide +kernel
theorem dX12_element_150 : decode cX12_element 150 = .ok (.iload_n 2, 1) := by decide +kernel
theorem dX12_element_151 : decode cX12_element 151 = .ok (.iaload, 1) := by decide +kernel
theorem dX12_element_152 : decode cX12_element 152 = .ok (.isub, 1) := by decide +kernel
theorem dX12_element_153 : decode cX12_element 153 = .ok (.goto 9, 3) := by decide +kernel
theorem dX12_element_156 : decode cX12_element 156 = .ok (.aload_n 0, 1) := by decide +kernel
theorem dX12_element_157 : decode cX12_element 157 = .ok (.getfield 156, 3) := by decide +kernel
theorem dX12_element_160 : decode cX12_element 160 = .ok (.iload_n 2, 1) := by decide +kernel
theorem dX12_element_161 : decode cX12_element 161 = .ok (.iaload, 1) := by decide +kernel
theorem dX12_element_162 : decode cX12_element 162 = .ok (.aload_n 0, 1) := by decide +kernel
theorem dX12_element_163 : decode cX12_element 163 = .ok (.getfield 105, 3) := by decide +kernel
theorem dX12_element_166 : decode cX12_element 166 = .ok (.iload_n 1, 1) := by decide +kernel
theorem dX12_element_167 : decode cX12_element 167 = .ok (.iaload, 1) := by decide +kernel
theorem dX12_element_168 : decode cX12_element 168 = .ok (.invokevirtual 609, 3) := by decide +kernel
theorem dX12_element_171 : decode cX12_element 171 = .ok (.istore 4, 2) := by decide +kernel
theorem dX12_element_173 : decode cX12_element 173 = .ok (.aload_n 0, 1) := by decide +kernel
theorem dX12_element_174 : decode cX12_element 174 = .ok (.getfield 138, 3) := by decide +kernel
theorem dX12_element_177 : decode cX12_element 177 = .ok (.iload_n 2, 1) := by decide +kernel
theorem dX12_element_178 : decode cX12_element 178 = .ok (.iaload, 1) := by decide +kernel
theorem dX12_element_179 : decode cX12_element 179 = .ok (.ireturn, 1) := by decide +kernel
def fX12_element_162 (rc : TX12_mustBe) (s1 : Int32) (s2 : Int32) (s3 : Int32) (a1 : Int32) (a2 : Int32) (w : Wd) : Option (Int32 × Wd) :=
  if inb a1 24000 = true then bn2 (fX12_op s1 s2 s3 (gi w 9 (Int32.toNatClampNeg a1)) w) fun x2 w3 => if inb a2 5000 = true then some ((gi w3 20 (Int32.toNatClampNeg a2)), w3) else none else none
theorem pX12_element_162 {q : Gq} {l : Launch} {N : Option Value → Wd → Prop} {X : String → Wd → Prop} {rc : TX12_mustBe} {dd : Nat} (hS : HSX12_mustBe q l rc dd) (hK : 5 ≤ dd) {w : Wd} {R : Int32 × Wd} (hN : N (some (.int R.1)) R.2) {s1 : Int32} {s2 : Int32} {s3 : Int32} {a1 : Int32} {a2 : Int32} (h : fX12_element_162 rc s1 s2 s3 a1 a2 w = some R) : RT (GM q) l (dd + 1) yX12_element cX12_element 5 ((some .int)) N X 162 [.int s3, .int s2, .int s1, .ref 0] [(0, .ref 0), (1, .int a1), (2, .int a2)] w := by
  unfold fX12_element_162 at h
  refine r_aload_n (pc := 162) dX12_element_162 rfl 0 rfl ?_
  refine r_get (pc := 163) (j := 18) (v := .ref 9) oM0 cf12 flRX12_105 rfl dX12_element_163 rfl ?_
  refine r_iload_n (pc := 166) dX12_element_166 rfl 1 rfl ?_
  replace h := if_n h; obtain ⟨hb1, h⟩ := h
  refine r_iald (pc := 167) aM9 (inb_in hb1) dX12_element_167 ?_
  replace h := bn2_e h; obtain ⟨x2, w3, ew3, h⟩ := h
  refine r_cVi (pc := 168) wyX12_op oM0 rfl mlRX12_609 iyX12_op syX12_op ⟨Nat.succ_le_succ (Nat.le_trans (Nat.le_of_ble_eq_true rfl) hK), (Nat.le_of_ble_eq_true rfl)⟩ rfl rfl (Nat.le_of_ble_eq_true rfl) dX12_element_168 (mX12_op ew3 (pI.mk ?_))
  refine r_istore (pc := 171) (loc' := [(4, .int x2), (0, .ref 0), (1, .int a1), (2, .int a2)]) dX12_element_171 (Nat.le_of_ble_eq_true rfl) rfl ?_
  refine r_aload_n (pc := 173) dX12_element_173 rfl 1 rfl ?_
  refine r_get (pc := 174) (j := 33) (v := .ref 20) oM0 cf12 flRX12_138 rfl dX12_element_174 rfl ?_
  refine r_iload_n (pc := 177) dX12_element_177 rfl 3 rfl ?_
  replace h := if_n h; obtain ⟨hb4, h⟩ := h
  refine r_iald (pc := 178) aM20 (inb_in hb4) dX12_element_178 ?_
  exact rO_i (pc := 179) rfl dX12_element_179 h hN
def fX12_element_134 (rc : TX12_mustBe) (a1 : Int32) (a2 : Int32) (a3 : Bool) (w : Wd) : Option (Int32 × Wd) :=
  bn2 (fX12_up a2 w) fun x1 w2 => if a3 = true then (if inb a2 5000 = true then fX12_element_162 rc 5 x1 ((-1) - (gi w2 26 (Int32.toNatClampNeg a2))) a1 a2 w2 else none) else (if inb a2 5000 = true then fX12_element_162 rc 5 x1 (gi w2 26 (Int32.toNatClampNeg a2)) a1 a2 w2 else none)
theorem pX12_element_134 {q : Gq} {l : Launch} {N : Option Value → Wd → Prop} {X : String → Wd → Prop} {rc : TX12_mustBe} {dd : Nat} (hS : HSX12_mustBe q l rc dd) (hK : 5 ≤ dd) {w : Wd} {R : Int32 × Wd} (hN : N (some (.int R.1)) R.2) {a1 : Int32} {a2 : Int32} {a3 : Bool} (h : fX12_element_134 rc a1 a2 a3 w = some R) : RT (GM q) l (dd + 1) yX12_element cX12_element 5 ((some .int)) N X 134 [] [(0, .ref 0), (1, .int a1), (2, .int a2), (3, .int (b2i a3))] w := by
  unfold fX12_element_134 at h
  refine r_aload_n (pc := 134) dX12_element_134 rfl 0 rfl ?_
  refine r_iconst (pc := 135) dX12_element_135 ki_5 ?_
  refine r_aload_n (pc := 136) dX12_element_136 rfl 0 rfl ?_
  refine r_iload_n (pc := 137) dX12_element_137 rfl 2 rfl ?_
  replace h := bn2_e h; obtain ⟨x1, w2, ew2, h⟩ := h
  refine r_cVi (pc := 138) wyX12_up oM0 rfl mlRX12_641 iyX12_up syX12_up ⟨Nat.succ_le_succ (Nat.le_trans (Nat.le_of_ble_eq_true rfl) hK), (Nat.le_of_ble_eq_true rfl)⟩ rfl rfl (Nat.le_of_ble_eq_true rfl) dX12_element_138 (mX12_up ew2 (pI.mk ?_))
  refine r_iload_n (pc := 141) dX12_element_141 rfl 3 rfl ?_
  refine r_z_eq (pc := 142) dX12_element_142 rfl (fun hc3 => ?_) (fun hc3 => ?_)
  · replace h := if_f hc3 h
    refine r_aload_n (pc := 156) dX12_element_156 rfl 0 rfl ?_
    refine r_get (pc := 157) (j := 39) (v := .ref 26) oM0 cf12 flRX12_156 rfl dX12_element_157 rfl ?_
    refine r_iload_n (pc := 160) dX12_element_160 rfl 2 rfl ?_
    replace h := if_n h; obtain ⟨hb5, h⟩ := h
    refine r_iald (pc := 161) aM26 (inb_in hb5) dX12_element_161 ?_
    refine r_drop (loc' := [(0, .ref 0), (1, .int a1), (2, .int a2)]) [0, 1, 2] rfl ?_
    exact pX12_element_162 hS hK hN h
  replace h := if_t hc3 h
  refine r_iconst (pc := 145) dX12_element_145 ki_m1 ?_
  refine r_aload_n (pc := 146) dX12_element_146 rfl 0 rfl ?_
  refine r_get (pc := 147) (j := 39) (v := .ref 26) oM0 cf12 flRX12_156 rfl dX12_element_147 rfl ?_
  refine r_iload_n (pc := 150) dX12_element_150 rfl 2 rfl ?_
  replace h := if_n h; obtain ⟨hb4, h⟩ := h
  refine r_iald (pc := 151) aM26 (inb_in hb4) dX12_element_151 ?_
  refine r_isub (pc := 152) dX12_element_152 ?_
  refine r_goto (pc := 153) dX12_element_153 rfl ?_
  refine r_drop (loc' := [(0, .ref 0), (1, .int a1), (2, .int a2)]) [0, 1, 2] rfl ?_
  exact pX12_element_162 hS hK hN h
def fX12_element_109 (rc : TX12_mustBe) (a1 : Int32) (a2 : Int32) (a3 : Bool) (w : Wd) : Option (Int32 × Wd) :=
  if a3 = true then (if inb a1 24000 = true then if (gi w 9 (Int32.toNatClampNeg a1)) ≤ 3 then (fX12_element_134 rc a1 a2 a3 w) else (if inb a1 24000 = true then bn (fX12_found 5 (gi w 12 (Int32.toNatClampNeg a1)) w) fun w5 => fX12_element_134 rc a1 a2 a3 w5 else none) else none) else (fX12_element_134 rc a1 a2 a3 w)
theorem pX12_element_109 {q : Gq} {l : Launch} {N : Option Value → Wd → Prop} {X : String → Wd → Prop} {rc : TX12_mustBe} {dd : Nat} (hS : HSX12_mustBe q l rc dd) (hK : 5 ≤ dd) {w : Wd} {R : Int32 × Wd} (hN : N (some (.int R.1)) R.2) {a1 : Int32} {a2 : Int32} {a3 : Bool} (h : fX12_element_109 rc a1 a2 a3 w = some R) : RT (GM q) l (dd + 1) yX12_element cX12_element 5 ((some .int)) N X 109 [] [(0, .ref 0), (1, .int a1), (2, .int a2), (3, .int (b2i a3))] w := by
  unfold fX12_element_109 at h
  refine r_iload_n (pc := 109) dX12_element_109 rfl 3 rfl ?_
  refine r_z_eq (pc := 110) dX12_element_110 rfl (fun hc1 => ?_) (fun hc1 => ?_)
  · replace h := if_f hc1 h
    exact pX12_element_134 hS hK hN h
  replace h := if_t hc1 h
  refine r_aload_n (pc := 113) dX12_element_113 rfl 0 rfl ?_
  refine r_get (pc := 114) (j := 18) (v := .ref 9) oM0 cf12 flRX12_105 rfl dX12_element_114 rfl ?_
  refine r_iload_n (pc := 117) dX12_element_117 rfl 1 rfl ?_
  replace h := if_n h; obtain ⟨hb2, h⟩ := h
  refine r_iald (pc := 118) aM9 (inb_in hb2) dX12_element_118 ?_
  refine r_iconst (pc := 119) dX12_element_119 ki_3 ?_
  refine r_icmp_le (pc := 120) dX12_element_120 rfl (fun hc3 => ?_) (fun hc3 => ?_)
  · replace h := if_t hc3 h
    exact pX12_element_134 hS hK hN h
  replace h := if_f hc3 h
  refine r_aload_n (pc := 123) dX12_element_123 rfl 0 rfl ?_
  refine r_iconst (pc := 124) dX12_element_124 ki_5 ?_
  refine r_aload_n (pc := 125) dX12_element_125 rfl 0 rfl ?_
  refine r_get (pc := 126) (j := 21) (v := .ref 12) oM0 cf12 flRX12_114 rfl dX12_element_126 rfl ?_
  refine r_iload_n (pc := 129) dX12_element_129 rfl 1 rfl ?_
  replace h := if_n h; obtain ⟨hb4, h⟩ := h
  refine r_iald (pc := 130) aM12 (inb_in hb4) dX12_element_130 ?_
  replace h := bn_e h; obtain ⟨w5, ew5, h⟩ := h
  refine r_cVv (pc := 131) wyX12_found oM0 rfl mlRX12_484 iyX12_found syX12_found ⟨Nat.succ_le_succ (Nat.le_trans (Nat.le_of_ble_eq_true rfl) hK), (Nat.le_of_ble_eq_true rfl)⟩ rfl rfl (Nat.le_of_ble_eq_true rfl) dX12_element_131 (mX12_found ew5 (pV.mk ?_))
  exact pX12_element_134 hS hK hN h
def fX12_element_90 (rc : TX12_mustBe) (a1 : Int32) (a2 : Int32) (a3 : Bool) (w : Wd) : Option (Int32 × Wd) :=
  if a3 = true then (fX12_element_109 rc a1 a2 a3 w) else (if inb a2 5000 = true then if inb a1 24000 = true then if (gi w 24 (Int32.toNatClampNeg a2)) = (gi w 9 (Int32.toNatClampNeg a1)) then (fX12_element_109 rc a1 a2 a3 w) else (if inb a1 24000 = true then bn (fX12_found 5 (gi w 12 (Int32.toNatClampNeg a1)) w) fun w6 => fX12_element_134 rc a1 a2 a3 w6 else none) else none else none)
theorem pX12_element_90 {q : Gq} {l : Launch} {N : Option Value → Wd → Prop} {X : String → Wd → Prop} {rc : TX12_mustBe} {dd : Nat} (hS : HSX12_mustBe q l rc dd) (hK : 5 ≤ dd) {w : Wd} {R : Int32 × Wd} (hN : N (some (.int R.1)) R.2) {a1 : Int32} {a2 : Int32} {a3 : Bool} (h : fX12_element_90 rc a1 a2 a3 w = some R) : RT (GM q) l (dd + 1) yX12_element cX12_element 5 ((some .int)) N X 90 [] [(0, .ref 0), (1, .int a1), (2, .int a2), (3, .int (b2i a3))] w := by
  unfold fX12_element_90 at h
  refine r_iload_n (pc := 90) dX12_element_90 rfl 3 rfl ?_
  refine r_z_ne (pc := 91) dX12_element_91 rfl (fun hc1 => ?_) (fun hc1 => ?_)
  · replace h := if_t hc1 h
    exact pX12_element_109 hS hK hN h
  replace h := if_f hc1 h
  refine r_aload_n (pc := 94) dX12_element_94 rfl 0 rfl ?_
  refine r_get (pc := 95) (j := 37) (v := .ref 24) oM0 cf12 flRX12_150 rfl dX12_element_95 rfl ?_
  refine r_iload_n (pc := 98) dX12_element_98 rfl 2 rfl ?_
  replace h := if_n h; obtain ⟨hb2, h⟩ := h
  refine r_iald (pc := 99) aM24 (inb_in hb2) dX12_element_99 ?_
  refine r_aload_n (pc := 100) dX12_element_100 rfl 0 rfl ?_
  refine r_get (pc := 101) (j := 18) (v := .ref 9) oM0 cf12 flRX12_105 rfl dX12_element_101 rfl ?_
  refine r_iload_n (pc := 104) dX12_element_104 rfl 1 rfl ?_
  replace h := if_n h; obtain ⟨hb3, h⟩ := h
  refine r_iald (pc := 105) aM9 (inb_in hb3) dX12_element_105 ?_
  refine r_icmp_ne (pc := 106) dX12_element_106 rfl (fun hc4 => ?_) (fun hc4 => ?_)
  · replace h := if_f hc4 h
    refine r_aload_n (pc := 123) dX12_element_123 rfl 0 rfl ?_
    refine r_iconst (pc := 124) dX12_element_124 ki_5 ?_
    refine r_aload_n (pc := 125) dX12_element_125 rfl 0 rfl ?_
    refine r_get (pc := 126) (j := 21) (v := .ref 12) oM0 cf12 flRX12_114 rfl dX12_element_126 rfl ?_
    refine r_iload_n (pc := 129) dX12_element_129 rfl 1 rfl ?_
    replace h := if_n h; obtain ⟨hb5, h⟩ := h
    refine r_iald (pc := 130) aM12 (inb_in hb5) dX12_element_130 ?_
    replace h := bn_e h; obtain ⟨w6, ew6, h⟩ := h
    refine r_cVv (pc := 131) wyX12_found oM0 rfl mlRX12_484 iyX12_found syX12_found ⟨Nat.succ_le_succ (Nat.le_trans (Nat.le_of_ble_eq_true rfl) hK), (Nat.le_of_ble_eq_true rfl)⟩ rfl rfl (Nat.le_of_ble_eq_true rfl) dX12_element_131 (mX12_found ew6 (pV.mk ?_))
    exact pX12_element_134 hS hK hN h
  replace h := if_t hc4 h
  exact pX12_element_109 hS hK hN h
def fX12_element_13 (rc : TX12_mustBe) (k_13 : Int32 → Int32 → Int32 → Wd → Option (Int32 × Wd)) (a1 : Int32) (a2 : Int32) (a3 : Int32) (w : Wd) : Option (Int32 × Wd) :=
  if a3 < 0 then (if 0 ≤ a2 then (bn2 (fX12_isFormal a2 2 w) fun x3 w4 => if inb a2 5000 = true then if (gi w4 19 (Int32.toNatClampNeg a2)) = 2 then (fX12_element_90 rc a1 a2 x3 w4) else (if x3 = true then (fX12_element_90 rc a1 a2 x3 w4) else (if inb a2 5000 = true then if (gi w4 19 (Int32.toNatClampNeg a2)) = 6 then (if inb a2 5000 = true then if (gi w4 24 (Int32.toNatClampNeg a2)) = 0 then (some (0, w4)) else (bn2 (fX12_wrongName a1 w4) fun x12 w13 => some (x12, w13)) else none) else (bn2 (fX12_wrongName a1 w4) fun x14 w15 => some (x14, w15)) else none)) else none) else (some (0, w))) else (bn2 (rc 0 a3 1 0 w) fun _ w17 => if inb a3 24000 = true then lt ((gi w17 11 (Int32.toNatClampNeg a3))) fun x19 => k_13 a1 a2 x19 w17 else none)
theorem pX12_element_13 {q : Gq} {l : Launch} {N : Option Value → Wd → Prop} {X : String → Wd → Prop} {rc : TX12_mustBe} {dd : Nat} (hS : HSX12_mustBe q l rc dd) (hK : 5 ≤ dd) {w : Wd} {R : Int32 × Wd} (hN : N (some (.int R.1)) R.2) {k_13 : Int32 → Int32 → Int32 → Wd → Option (Int32 × Wd)} (hk_13 : ∀ (a1 : Int32) (a2 : Int32) (a3 : Int32) (w : Wd), k_13 a1 a2 a3 w = some R → RT (GM q) l (dd + 1) yX12_element cX12_element 5 ((some .int)) N X 13 [] [(0, .ref 0), (1, .int a1), (2, .int a2), (3, .int a3)] w) {a1 : Int32} {a2 : Int32} {a3 : Int32} (h : fX12_element_13 rc k_13 a1 a2 a3 w = some R) : RT (GM q) l (dd + 1) yX12_element cX12_element 5 ((some .int)) N X 13 [] [(0, .ref 0), (1, .int a1), (2, .int a2), (3, .int a3)] w := by
  unfold fX12_element_13 at h
  refine r_iload_n (pc := 13) dX12_element_13 rfl 3 rfl ?_
  refine r_if_lt (pc := 14) dX12_element_14 rfl (fun hc1 => ?_) (fun hc1 => ?_)
  · replace h := if_t hc1 h
    refine r_iload_n (pc := 33) dX12_element_33 rfl 2 rfl ?_
    refine r_if_ge (pc := 34) dX12_element_34 rfl (fun hc2 => ?_) (fun hc2 => ?_)
    · replace h := if_t hc2 h
      refine r_aload_n (pc := 39) dX12_element_39 rfl 0 rfl ?_
      refine r_iload_n (pc := 40) dX12_element_40 rfl 2 rfl ?_
      refine r_iconst (pc := 41) dX12_element_41 ki_2 ?_
      replace h := bn2_e h; obtain ⟨x3, w4, ew4, h⟩ := h
      refine r_cVi (pc := 42) wyX12_isFormal oM0 rfl mlRX12_644 iyX12_isFormal syX12_isFormal ⟨Nat.succ_le_succ (Nat.le_trans (Nat.le_of_ble_eq_true rfl) hK), (Nat.le_of_ble_eq_true rfl)⟩ rfl rfl (Nat.le_of_ble_eq_true rfl) dX12_element_42 (mX12_isFormal ew4 (pI.mk ?_))
      refine r_istore_n (pc := 45) (loc' := [(3, .int (b2i x3)), (0, .ref 0), (1, .int a1), (2, .int a2)]) dX12_element_45 rfl (Nat.le_of_ble_eq_true rfl) rfl ?_
      refine r_aload_n (pc := 46) dX12_element_46 rfl 1 rfl ?_
      refine r_get (pc := 47) (j := 32) (v := .ref 19) oM0 cf12 flRX12_135 rfl dX12_element_47 rfl ?_
      refine r_iload_n (pc := 50) dX12_element_50 rfl 3 rfl ?_
      replace h := if_n h; obtain ⟨hb5, h⟩ := h
      refine r_iald (pc := 51) aM19 (inb_in hb5) dX12_element_51 ?_
      refine r_iconst (pc := 52) dX12_element_52 ki_2 ?_
      refine r_icmp_eq (pc := 53) dX12_element_53 rfl (fun hc6 => ?_) (fun hc6 => ?_)
      · replace h := if_t hc6 h
        refine r_drop (loc' := [(0, .ref 0), (1, .int a1), (2, .int a2), (3, .int (b2i x3))]) [1, 2, 3, 0] rfl ?_
        exact pX12_element_90 hS hK hN h
      replace h := if_f hc6 h
      refine r_iload_n (pc := 56) dX12_element_56 rfl 0 rfl ?_
      refine r_z_ne (pc := 57) dX12_element_57 rfl (fun hc7 => ?_) (fun hc7 => ?_)
      · replace h := if_t hc7 h
        refine r_drop (loc' := [(0, .ref 0), (1, .int a1), (2, .int a2), (3, .int (b2i x3))]) [1, 2, 3, 0] rfl ?_
        exact pX12_element_90 hS hK hN h
      replace h := if_f hc7 h
      refine r_aload_n (pc := 60) dX12_element_60 rfl 1 rfl ?_
      refine r_get (pc := 61) (j := 32) (v := .ref 19) oM0 cf12 flRX12_135 rfl dX12_element_61 rfl ?_
      refine r_iload_n (pc := 64) dX12_element_64 rfl 3 rfl ?_
      replace h := if_n h; obtain ⟨hb8, h⟩ := h
      refine r_iald (pc := 65) aM19 (inb_in hb8) dX12_element_65 ?_
      refine r_bipush (pc := 66) dX12_element_66 kb_6 ?_
      refine r_icmp_ne (pc := 68) dX12_element_68 rfl (fun hc9 => ?_) (fun hc9 => ?_)
      · replace h := if_f hc9 h
        refine r_aload_n (pc := 84) dX12_element_84 rfl 1 rfl ?_
        refine r_iload_n (pc := 85) dX12_element_85 rfl 2 rfl ?_
        replace h := bn2_e h; obtain ⟨x14, w15, ew15, h⟩ := h
        refine r_cVi (pc := 86) wyX12_wrongName oM0 rfl mlRX12_648 iyX12_wrongName syX12_wrongName ⟨Nat.succ_le_succ (Nat.le_trans (Nat.le_of_ble_eq_true rfl) hK), (Nat.le_of_ble_eq_true rfl)⟩ rfl rfl (Nat.le_of_ble_eq_true rfl) dX12_element_86 (mX12_wrongName ew15 (pI.mk ?_))
        exact rO_i (pc := 89) rfl dX12_element_89 h hN
      replace h := if_t hc9 h
      refine r_aload_n (pc := 71) dX12_element_71 rfl 1 rfl ?_
      refine r_get (pc := 72) (j := 37) (v := .ref 24) oM0 cf12 flRX12_150 rfl dX12_element_72 rfl ?_
      refine r_iload_n (pc := 75) dX12_element_75 rfl 3 rfl ?_
      replace h := if_n h; obtain ⟨hb10, h⟩ := h
      refine r_iald (pc := 76) aM24 (inb_in hb10) dX12_element_76 ?_
      refine r_if_ne (pc := 77) dX12_element_77 rfl (fun hc11 => ?_) (fun hc11 => ?_)
      · replace h := if_f hc11 h
        refine r_aload_n (pc := 84) dX12_element_84 rfl 1 rfl ?_
        refine r_iload_n (pc := 85) dX12_element_85 rfl 2 rfl ?_
        replace h := bn2_e h; obtain ⟨x12, w13, ew13, h⟩ := h
        refine r_cVi (pc := 86) wyX12_wrongName oM0 rfl mlRX12_648 iyX12_wrongName syX12_wrongName ⟨Nat.succ_le_succ (Nat.le_trans (Nat.le_of_ble_eq_true rfl) hK), (Nat.le_of_ble_eq_true rfl)⟩ rfl rfl (Nat.le_of_ble_eq_true rfl) dX12_element_86 (mX12_wrongName ew13 (pI.mk ?_))
        exact rO_i (pc := 89) rfl dX12_element_89 h hN
      replace h := if_t hc11 h
      refine r_iconst (pc := 80) dX12_element_80 ki_0 ?_
      refine r_goto (pc := 81) dX12_element_81 rfl ?_
      exact rO_i (pc := 89) rfl dX12_element_89 h hN
    replace h := if_f hc2 h
    refine r_iconst (pc := 37) dX12_element_37 ki_0 ?_
    exact rO_i (pc := 38) rfl dX12_element_38 h hN
  replace h := if_f hc1 h
  refine r_aload_n (pc := 17) dX12_element_17 rfl 0 rfl ?_
  refine r_iload_n (pc := 18) dX12_element_18 rfl 3 rfl ?_
  refine r_iconst (pc := 19) dX12_element_19 ki_1 ?_
  replace h := bn2_e h; obtain ⟨x16, w17, ew17, h⟩ := h
  refine r_cVv (pc := 20) wyX12_mustBe oM0 rfl mlRX12_622 iyX12_mustBe syX12_mustBe ⟨Nat.le_refl _, (Nat.le_of_ble_eq_true rfl)⟩ rfl rfl (Nat.le_of_ble_eq_true rfl) dX12_element_20 ((hS.1 _ _ _ _ _ _ _) ew17 (pV.mk ?_))
  refine r_aload_n (pc := 23) dX12_element_23 rfl 0 rfl ?_
  refine r_get (pc := 24) (j := 20) (v := .ref 11) oM0 cf12 flRX12_111 rfl dX12_element_24 rfl ?_
  refine r_iload_n (pc := 27) dX12_element_27 rfl 3 rfl ?_
  replace h := if_n h; obtain ⟨hb18, h⟩ := h
  refine r_iald (pc := 28) aM11 (inb_in hb18) dX12_element_28 ?_
  replace h := lt_e h; obtain ⟨x19, ex19, h⟩ := h
  refine r_topi ex19 ?_
  refine r_istore_n (pc := 29) (loc' := [(3, .int x19), (0, .ref 0), (1, .int a1), (2, .int a2)]) dX12_element_29 rfl (Nat.le_of_ble_eq_true rfl) rfl ?_
  refine r_goto (pc := 30) dX12_element_30 rfl ?_
  refine r_drop (loc' := [(0, .ref 0), (1, .int a1), (2, .int a2), (3, .int x19)]) [1, 2, 3, 0] rfl ?_
  exact hk_13 a1 a2 x19 w17 h
def oX12_element_13 (rc : TX12_mustBe) : Nat → Int32 → Int32 → Int32 → Wd → Option (Int32 × Wd)
  | 0 => fun _ _ _ _ => none
  | n + 1 => fX12_element_13 rc (oX12_element_13 rc n)
theorem qX12_element_13 {q : Gq} {l : Launch} {N : Option Value → Wd → Prop} {X : String → Wd → Prop} {rc : TX12_mustBe} {dd : Nat} (hS : HSX12_mustBe q l rc dd) (hK : 5 ≤ dd) {R : Int32 × Wd} (hN : N (some (.int R.1)) R.2) : ∀ (n : Nat) (a1 : Int32) (a2 : Int32) (a3 : Int32) (w : Wd), oX12_element_13 rc n a1 a2 a3 w = some R → RT (GM q) l (dd + 1) yX12_element cX12_element 5 ((some .int)) N X 13 [] [(0, .ref 0), (1, .int a1), (2, .int a2), (3, .int a3)] w := by
  intro n
  induction n with
  | zero =>
    intro a1 a2 a3 w h
    exact absurd h (fun q => nomatch q)
  | succ n ih =>
    intro a1 a2 a3 w h
    exact pX12_element_13 hS hK hN ih h
def fX12_element (rc : TX12_mustBe) (a1 : Int32) (w : Wd) : Option (Int32 × Wd) :=
  bn2 (fX12_seen a1 w) fun x1 w2 => if inb a1 24000 = true then lt ((gi w2 8 (Int32.toNatClampNeg a1))) fun x4 => oX12_element_13 rc FU a1 x1 x4 w2 else none
theorem pX12_element {q : Gq} {l : Launch} {N : Option Value → Wd → Prop} {X : String → Wd → Prop} {rc : TX12_mustBe} {dd : Nat} (hS : HSX12_mustBe q l rc dd) (hK : 5 ≤ dd) {w : Wd} {R : Int32 × Wd} (hN : N (some (.int R.1)) R.2) {a1 : Int32} (h : fX12_element rc a1 w = some R) : RT (GM q) l (dd + 1) yX12_element cX12_element 5 ((some .int)) N X 0 [] [(0, .ref 0), (1, .int a1)] w := by
  unfold fX12_element at h
  refine r_aload_n (pc := 0) dX12_element_0 rfl 0 rfl ?_
  refine r_iload_n (pc := 1) dX12_element_1 rfl 1 rfl ?_
  replace h := bn2_e h; obtain ⟨x1, w2, ew2, h⟩ := h
  refine r_cVi (pc := 2) wyX12_seen oM0 rfl mlRX12_638 iyX12_seen syX12_seen ⟨Nat.succ_le_succ (Nat.le_trans (Nat.le_of_ble_eq_true rfl) hK), (Nat.le_of_ble_eq_true rfl)⟩ rfl rfl (Nat.le_of_ble_eq_true rfl) dX12_element_2 (mX12_seen ew2 (pI.mk ?_))
  refine r_istore_n (pc := 5) (loc' := [(2, .int x1), (0, .ref 0), (1, .int a1)]) dX12_element_5 rfl (Nat.le_of_ble_eq_true rfl) rfl ?_
  refine r_aload_n (pc := 6) dX12_element_6 rfl 1 rfl ?_
  refine r_get (pc := 7) (j := 17) (v := .ref 8) oM0 cf12 flRX12_102 rfl dX12_element_7 rfl ?_
  refine r_iload_n (pc := 10) dX12_element_10 rfl 2 rfl ?_
  replace h := if_n h; obtain ⟨hb3, h⟩ := h
  refine r_iald (pc := 11) aM8 (inb_in hb3) dX12_element_11 ?_
  replace h := lt_e h; obtain ⟨x4, ex4, h⟩ := h
  refine r_topi ex4 ?_
  refine r_istore_n (pc := 12) (loc' := [(3, .int x4), (2, .int x1), (0, .ref 0), (1, .int a1)]) dX12_element_12 rfl (Nat.le_of_ble_eq_true rfl) rfl ?_
  refine r_drop (loc' := [(0, .ref 0), (1, .int a1), (2, .int x1), (3, .int x4)]) [2, 3, 1, 0] rfl ?_
  exact qX12_element_13 hS hK hN FU a1 x1 x4 w2 h
/-! AlgolMillModel.place (IZ)I: O, 1705 -/
theorem dX12_place_0 : decode cX12_place 0 = .ok (.aload_n 0, 1) := by decide +kernel
theorem dX12_place_1 : decode cX12_place 1 = .ok (.getfield 99, 3) := by decide +kernel
theorem dX12_place_4 : decode cX12_place 4 = .ok (.iload_n 1, 1) := by decide +kernel
theorem dX12_place_5 : decode cX12_place 5 = .ok (.iaload, 1) := by decide +kernel
theorem dX12_place_6 : decode cX12_place 6 = .ok (.iconst 4, 1) := by decide +kernel
theorem dX12_place_7 : decode cX12_place 7 = .ok (.if_icmp .ne 9, 3) := by decide +kernel
theorem dX12_place_10 : decode cX12_place 10 = .ok (.aload_n 0, 1) := by decide +kernel
theorem dX12_place_11 : decode cX12_place 11 = .ok (.iload_n 1, 1) := by decide +kernel
theorem dX12_place_12 : decode cX12_place 12 = .ok (.invokevirtual 615, 3) := by decide +kernel
theorem dX12_place_15 : decode cX12_place 15 = .ok (.ireturn, 1) := by decide +kernel
theorem dX12_place_16 : decode cX12_place 16 = .ok (.aload_n 0, 1) := by decide +kernel
theorem dX12_place_17 : decode cX12_place 17 = .ok (.iload_n 1, 1) := by decide +kernel
theorem dX12_place_18 : decode cX12_place 18 = .ok (.invokevirtual 638, 3) := by decide +kernel
theorem dX12_place_21 : decode cX12_place 21 = .ok (.istore_n 3, 1) := by decide +kernel
theorem dX12_place_22 : decode cX12_place 22 = .ok (.iload_n 3, 1) := by decide +kernel
theorem dX12_place_23 : decode cX12_place 23 = .ok (.ifCond .ge 5, 3) := by decide +kernel
theorem dX12_place_26 : decode cX12_place 26 = .ok (.iconst 0, 1) := by decide +kernel
theorem dX12_place_27 : decode cX12_place 27 = .ok (.ireturn, 1) := by decide +kernel
theorem dX12_place_28 : decode cX12_place 28 = .ok (.aload_n 0, 1) := by decide +kernel
theorem dX12_place_29 : decode cX12_place 29 = .ok (.getfield 135, 3) := by decide +kernel
theorem dX12_place_32 : decode cX12_place 32 = .ok (.iload_n 3, 1) := by decide +kernel
theorem dX12_place_33 : decode cX12_place 33 = .ok (.iaload, 1) := by decide +kernel
theorem dX12_place_34 : decode cX12_place 34 = .ok (.iconst 1, 1) := by decide +kernel
theorem dX12_place_35 : decode cX12_place 35 = .ok (.if_icmp .ne 42, 3) := by decide +kernel
theorem dX12_place_38 : decode cX12_place 38 = .ok (.aload_n 0, 1) := by decide +kernel
theorem dX12_place_39 : decode cX12_place 39 = .ok (.iconst 3, 1) := by decide +kernel
theorem dX12_place_40 : decode cX12_place 40 = .ok (.aload_n 0, 1) := by decide +kernel
theorem dX12_place_41 : decode cX12_place 41 = .ok (.getfield 159, 3) := by decide +kernel
theorem dX12_place_44 : decode cX12_place 44 = .ok (.iload_n 3, 1) := by decide +kernel
theorem dX12_place_45 : decode cX12_place 45 = .ok (.baload, 1) := by decide +kernel
theorem dX12_place_46 : decode cX12_place 46 = .ok (.ifCond .eq 7, 3) := by decide +kernel
theorem dX12_place_49 : decode cX12_place 49 = .ok (.iconst (-1), 1) := by decide +kernel
theorem dX12_place_50 : decode cX12_place 50 = .ok (.goto 8, 3) := by decide +kernel
theorem dX12_place_53 : decode cX12_place 53 = .ok (.aload_n 0, 1) := by decide +kernel
theorem dX12_place_54 : decode cX12_place 54 = .ok (.iload_n 3, 1) := by decide +kernel
theorem dX12_place_55 : decode cX12_place 55 = .ok (.invokevirtual 641, 3) := by decide +kernel
theorem dX12_place_58 : decode cX12_place 58 = .ok (.aload_n 0, 1) := by decide +kernel
theorem dX12_place_59 : decode cX12_place 59 = .ok (.getfield 156, 3) := by decide +kernel
theorem dX12_place_62 : decode cX12_place 62 = .ok (.iload_n 3, 1) := by decide +kernel
theorem dX12_place_63 : decode cX12_place 63 = .ok (.iaload, 1) := by decide +kernel
theorem dX12_place_64 : decode cX12_place 64 = .ok (.iconst 0, 1) := by decide +kernel
theorem dX12_place_65 : decode cX12_place 65 = .ok (.invokevirtual 609, 3) := by decide +kernel
theorem dX12_place_68 : decode cX12_place 68 = .ok (.istore 4, 2) := by decide +kernel
theorem dX12_place_70 : decode cX12_place 70 = .ok (.aload_n 0, 1) := by decide +kernel
theorem dX12_place_71 : decode cX12_place 71 = .ok (.getfield 138, 3) := by decide +kernel
theorem dX12_place_74 : decode cX12_place 74 = .ok (.iload_n 3, 1) := by decide +kernel
theorem dX12_place_75 : decode cX12_place 75 = .ok (.iaload, 1) := by decide +kernel
theorem dX12_place_76 : decode cX12_place 76 = .ok (.ireturn, 1) := by decide +kernel
theorem dX12_place_77 : decode cX12_place 77 = .ok (.aload_n 0, 1) := by decide +kernel
theorem dX12_place_78 : decode cX12_place 78 = .ok (.iload_n 3, 1) := by decide +kernel
theorem dX12_place_79 : decode cX12_place 79 = .ok (.iconst 1, 1) := by decide +kernel
theorem dX12_place_80 : decode cX12_place 80 = .ok (.invokevirtual 644, 3) := by decide +kernel
theorem dX12_place_83 : decode cX12_place 83 = .ok (.ifCond .eq 60, 3) := by decide +kernel
theorem dX12_place_86 : decode cX12_place 86 = .ok (.aload_n 0, 1) := by decide +kernel
theorem dX12_place_87 : decode cX12_place 87 = .ok (.getfield 163, 3) := by decide +kernel
theorem dX12_place_90 : decode cX12_place 90 = .ok (.iload_n 3, 1) := by decide +kernel
theorem dX12_place_91 : decode cX12_place 91 = .ok (.baload, 1) := by decide +kernel
theorem dX12_place_92 : decode cX12_place 92 = .ok (.ifCond .eq 25, 3) := by decide +kernel
theorem dX12_place_95 : decode cX12_place 95 = .ok (.aload_n 0, 1) := by decide +kernel
theorem dX12_place_96 : decode cX12_place 96 = .ok (.iconst 3, 1) := by decide +kernel
theorem dX12_place_97 : decode cX12_place 97 = .ok (.aload_n 0, 1) := by decide +kernel
theorem dX12_place_98 : decode cX12_place 98 = .ok (.iload_n 3, 1) := by decide +kernel
theorem dX12_place_99 : decode cX12_place 99 = .ok (.invokevirtual 641, 3) := by decide +kernel
theorem dX12_place_102 : decode cX12_place 102 = .ok (.aload_n 0, 1) := by decide +kernel
theorem dX12_place_103 : decode cX12_place 103 = .ok (.getfield 156, 3) := by decide +kernel
theorem dX12_place_106 : decode cX12_place 106 = .ok (.iload_n 3, 1) := by decide +kernel
theorem dX12_place_107 : decode cX12_place 107 = .ok (.iaload, 1) := by decide +kernel
theorem dX12_place_108 : decode cX12_place 108 = .ok (.iconst 0, 1) := by decide +kernel
theorem dX12_place_109 : decode cX12_place 109 = .ok (.invokevirtual 609, 3) := by decide +kernel
theorem dX12_place_112 : decode cX12_place 112 = .ok (.istore 4, 2) := by decide +kernel
theorem dX12_place_114 : decode cX12_place 114 = .ok (.goto 22, 3) := by decide +kernel
theorem dX12_place_117 : decode cX12_place 117 = .ok (.aload_n 0, 1) := by decide +kernel
theorem dX12_place_118 : decode cX12_place 118 = .ok (.iconst 4, 1) := by decide +kernel
theorem dX12_place_119 : decode cX12_place 119 = .ok (.aload_n 0, 1) := by decide +kernel
theorem dX12_place_120 : decode cX12_place 120 = .ok (.iload_n 3, 1) := by decide +kernel
theorem dX12_place_121 : decode cX12_place 121 = .ok (.invokevirtual 641, 3) := by decide +kernel
theorem dX12_place_124 : decode cX12_place 124 = .ok (.aload_n 0, 1) := by decide +kernel
theorem dX12_place_125 : decode cX12_place 125 = .ok (.getfield 156, 3) := by decide +kernel
theorem dX12_place_128 : decode cX12_place 128 = .ok (.iload_n 3, 1) := by decide +kernel
theorem dX12_place_129 : decode cX12_place 129 = .ok (.iaload, 1) := by decide +kernel
theorem dX12_place_130 : decode cX12_place 130 = .ok (.iconst 1, 1) := by decide +kernel
theorem dX12_place_131 : decode cX12_place 131 = .ok (.invokevirtual 609, 3) := by decide +kernel
theorem dX12_place_134 : decode cX12_place 134 = .ok (.istore 4, 2) := by decide +kernel
theorem dX12_place_136 : decode cX12_place 136 = .ok (.aload_n 0, 1) := by decide +kernel
theorem dX12_place_137 : decode cX12_place 137 = .ok (.getfield 138, 3) := by decide +kernel
theorem dX12_place_140 : decode cX12_place 140 = .ok (.iload_n 3, 1) := by decide +kernel
theorem dX12_place_141 : decode cX12_place 141 = .ok (.iaload, 1) := by decide +kernel
theorem dX12_place_142 : decode cX12_place 142 = .ok (.ireturn, 1) := by decide +kernel
theorem dX12_place_143 : decode cX12_place 143 = .ok (.aload_n 0, 1) := by decide +kernel
theorem dX12_place_144 : decode cX12_place 144 = .ok (.getfield 135, 3) := by decide +kernel
theorem dX12_place_147 : decode cX12_place 147 = .ok (.iload_n 3, 1) := by decide +kernel
theorem dX12_place_148 : decode cX12_place 148 = .ok (.iaload, 1) := by decide +kernel
theorem dX12_place_149 : decode cX12_place 149 = .ok (.iconst 3, 1) := by decide +kernel
theorem dX12_place_150 : decode cX12_place 150 = .ok (.if_icmp .ne 61, 3) := by decide +kernel
theorem dX12_place_153 : decode cX12_place 153 = .ok (.iload_n 2, 1) := by decide +kernel
theorem dX12_place_154 : decode cX12_place 154 = .ok (.ifCond .ne 57, 3) := by decide +kernel
theorem dX12_place_157 : decode cX12_place 157 = .ok (.aload_n 0, 1) := by decide +kernel
theorem dX12_place_158 : decode cX12_place 158 = .ok (.getfield 138, 3) := by decide +kernel
theorem dX12_place_161 : decode cX12_place 161 = .ok (.iload_n 3, 1) := by decide +kernel
theorem dX12_place_162 : decode cX12_place 162 = .ok (.iaload, 1) := by decide +kernel
theorem dX12_place_163 : decode cX12_place 163 = .ok (.ifCond .eq 48, 3) := by decide +kernel
theorem dX12_place_166 : decode cX12_place 166 = .ok (.aload_n 0, 1) := by decide +kernel
theorem dX12_place_167 : decode cX12_place 167 = .ok (.aload_n 0, 1) := by decide +kernel
theorem dX12_place_168 : decode cX12_place 168 = .ok (.getfield 150, 3) := by decide +kernel
theorem dX12_place_171 : decode cX12_place 171 = .ok (.iload_n 3, 1) := by decide +kernel
theorem dX12_place_172 : decode cX12_place 172 = .ok (.iaload, 1) := by decide +kernel
theorem dX12_place_173 : decode cX12_place 173 = .ok (.invokevirtual 667, 3) := by decide +kernel
theorem dX12_place_176 : decode cX12_place 176 = .ok (.ifCond .eq 35, 3) := by decide +kernel
theorem dX12_place_179 : decode cX12_place 179 = .ok (.aload_n 0, 1) := by decide +kernel
theorem dX12_place_180 : decode cX12_place 180 = .ok (.iconst 3, 1) := by decide +kernel
theorem dX12_place_181 : decode cX12_place 181 = .ok (.aload_n 0, 1) := by decide +kernel
theorem dX12_place_182 : decode cX12_place 182 = .ok (.getfield 599, 3) := by decide +kernel
theorem dX12_place_185 : decode cX12_place 185 = .ok (.aload_n 0, 1) := by decide +kernel
theorem dX12_place_186 : decode cX12_place 186 = .ok (.getfield 169, 3) := by decide +kernel
theorem dX12_place_189 : decode cX12_place 189 = .ok (.aload_n 0, 1) := by decide +kernel
theorem dX12_place_190 : decode cX12_place 190 = .ok (.getfield 150, 3) := by decide +kernel
theorem dX12_place_193 : decode cX12_place 193 = .ok (.iload_n 3, 1) := by decide +kernel
theorem dX12_place_194 : decode cX12_place 194 = .ok (.iaload, 1) := by decide +kernel
theorem dX12_place_195 : decode cX12_place 195 = .ok (.iaload, 1) := by decide +kernel
theorem dX12_place_196 : decode cX12_place 196 = .ok (.isub, 1) := by decide +kernel
theorem dX12_place_197 : decode cX12_place 197 = .ok (.iconst 0, 1) := by decide +kernel
theorem dX12_place_198 : decode cX12_place 198 = .ok (.iconst 0, 1) := by decide +kernel
theorem dX12_place_199 : decode cX12_place 199 = .ok (.invokevirtual 609, 3) := by decide +kernel
theorem dX12_place_202 : decode cX12_place 202 = .ok (.istore 4, 2) := by decide +kernel
theorem dX12_place_204 : decode cX12_place 204 = .ok (.aload_n 0, 1) := by decide +kernel
theorem dX12_place_205 : decode cX12_place 205 = .ok (.getfield 138, 3) := by decide +kernel
theorem dX12_place_208 : decode cX12_place 208 = .ok (.iload_n 3, 1) := by decide +kernel
theorem dX12_place_209 : decode cX12_place 209 = .ok (.iaload, 1) := by decide +kernel
theorem dX12_place_210 : decode cX12_place 210 = .ok (.ireturn, 1) := by decide +kernel
theorem dX12_place_211 : decode cX12_place 211 = .ok (.aload_n 0, 1) := by decide +kernel
theorem dX12_place_212 : decode cX12_place 212 = .ok (.getfield 135, 3) := by decide +kernel
theorem dX12_place_215 : decode cX12_place 215 = .ok (.iload_n 3, 1) := by decide +kernel
theorem dX12_place_216 : decode cX12_place 216 = .ok (.iaload, 1) := by decide +kernel
theorem dX12_place_217 : decode cX12_place 217 = .ok (.bipush 6, 2) := by decide +kernel
theorem dX12_place_219 : decode cX12_place 219 = .ok (.if_icmp .ne 16, 3) := by decide +kernel
theorem dX12_place_222 : decode cX12_place 222 = .ok (.aload_n 0, 1) := by decide +kernel
theorem dX12_place_223 : decode cX12_place 223 = .ok (.getfield 150, 3) := by decide +kernel
theorem dX12_place_226 : decode cX12_place 226 = .ok (.iload_n 3, 1) := by decide +kernel
theorem dX12_place_227 : decode cX12_place 227 = .ok (.iaload, 1) := by decide +kernel
theorem dX12_place_228 : decode cX12_place 228 = .ok (.ifCond .ne 7, 3) := by decide +kernel
theorem dX12_place_231 : decode cX12_place 231 = .ok (.iconst 0, 1) := by decide +kernel
theorem dX12_place_232 : decode cX12_place 232 = .ok (.goto 8, 3) := by decide +kernel
theorem dX12_place_235 : decode cX12_place 235 = .ok (.aload_n 0, 1) := by decide +kernel
theorem dX12_place_236 : decode cX12_place 236 = .ok (.iload_n 1, 1) := by decide +kernel
theorem dX12_place_237 : decode cX12_place 237 = .ok (.invokevirtual 648, 3) := by decide +kernel
theorem dX12_place_240 : decode cX12_place 240 = .ok (.ireturn, 1) := by decide +kernel
def fX12_place_211 (rc : TX12_mustBe) (a1 : Int32) (a3 : Int32) (w : Wd) : Option (Int32 × Wd) :=
  if inb a3 5000 = true then if (gi w 19 (Int32.toNatClampNeg a3)) = 6 then (if inb a3 5000 = true then if (gi w 24 (Int32.toNatClampNeg a3)) = 0 then (some (0, w)) else (bn2 (fX12_wrongName a1 w) fun x5 w6 => some (x5, w6)) else none) else (bn2 (fX12_wrongName a1 w) fun x7 w8 => some (x7, w8)) else none
theorem pX12_place_211 {q : Gq} {l : Launch} {N : Option Value → Wd → Prop} {X : String → Wd → Prop} {rc : TX12_mustBe} {dd : Nat} (hS : HSX12_mustBe q l rc dd) (hK : 5 ≤ dd) {w : Wd} {R : Int32 × Wd} (hN : N (some (.int R.1)) R.2) {a1 : Int32} {a3 : Int32} (h : fX12_place_211 rc a1 a3 w = some R) : RT (GM q) l (dd + 1) yX12_place cX12_place 5 ((some .int)) N X 211 [] [(0, .ref 0), (1, .int a1), (3, .int a3)] w := by
  unfold fX12_place_211 at h
  refine r_aload_n (pc := 211) dX12_place_211 rfl 0 rfl ?_
  refine r_get (pc := 212) (j := 32) (v := .ref 19) oM0 cf12 flRX12_135 rfl dX12_place_212 rfl ?_
  refine r_iload_n (pc := 215) dX12_place_215 rfl 2 rfl ?_
  replace h := if_n h; obtain ⟨hb1, h⟩ := h
  refine r_iald (pc := 216) aM19 (inb_in hb1) dX12_place_216 ?_
  refine r_bipush (pc := 217) dX12_place_217 kb_6 ?_
  refine r_icmp_ne (pc := 219) dX12_place_219 rfl (fun hc2 => ?_) (fun hc2 => ?_)
  · replace h := if_f hc2 h
    refine r_aload_n (pc := 235) dX12_place_235 rfl 0 rfl ?_
    refine r_iload_n (pc := 236) dX12_place_236 rfl 1 rfl ?_
    replace h := bn2_e h; obtain ⟨x7, w8, ew8, h⟩ := h
    refine r_cVi (pc := 237) wyX12_wrongName oM0 rfl mlRX12_648 iyX12_wrongName syX12_wrongName ⟨Nat.succ_le_succ (Nat.le_trans (Nat.le_of_ble_eq_true rfl) hK), (Nat.le_of_ble_eq_true rfl)⟩ rfl rfl (Nat.le_of_ble_eq_true rfl) dX12_place_237 (mX12_wrongName ew8 (pI.mk ?_))
    exact rO_i (pc := 240) rfl dX12_place_240 h hN
  replace h := if_t hc2 h
  refine r_aload_n (pc := 222) dX12_place_222 rfl 0 rfl ?_
  refine r_get (pc := 223) (j := 37) (v := .ref 24) oM0 cf12 flRX12_150 rfl dX12_place_223 rfl ?_
  refine r_iload_n (pc := 226) dX12_place_226 rfl 2 rfl ?_
  replace h := if_n h; obtain ⟨hb3, h⟩ := h
  refine r_iald (pc := 227) aM24 (inb_in hb3) dX12_place_227 ?_
  refine r_if_ne (pc := 228) dX12_place_228 rfl (fun hc4 => ?_) (fun hc4 => ?_)
  · replace h := if_f hc4 h
    refine r_aload_n (pc := 235) dX12_place_235 rfl 0 rfl ?_
    refine r_iload_n (pc := 236) dX12_place_236 rfl 1 rfl ?_
    replace h := bn2_e h; obtain ⟨x5, w6, ew6, h⟩ := h
    refine r_cVi (pc := 237) wyX12_wrongName oM0 rfl mlRX12_648 iyX12_wrongName syX12_wrongName ⟨Nat.succ_le_succ (Nat.le_trans (Nat.le_of_ble_eq_true rfl) hK), (Nat.le_of_ble_eq_true rfl)⟩ rfl rfl (Nat.le_of_ble_eq_true rfl) dX12_place_237 (mX12_wrongName ew6 (pI.mk ?_))
    exact rO_i (pc := 240) rfl dX12_place_240 h hN
  replace h := if_t hc4 h
  refine r_iconst (pc := 231) dX12_place_231 ki_0 ?_
  refine r_goto (pc := 232) dX12_place_232 rfl ?_
  exact rO_i (pc := 240) rfl dX12_place_240 h hN
def fX12_place_58 (rc : TX12_mustBe) (s1 : Int32) (s2 : Int32) (a3 : Int32) (w : Wd) : Option (Int32 × Wd) :=
  if inb a3 5000 = true then bn2 (fX12_op s1 s2 (gi w 26 (Int32.toNatClampNeg a3)) 0 w) fun x2 w3 => if inb a3 5000 = true then some ((gi w3 20 (Int32.toNatClampNeg a3)), w3) else none else none
theorem pX12_place_58 {q : Gq} {l : Launch} {N : Option Value → Wd → Prop} {X : String → Wd → Prop} {rc : TX12_mustBe} {dd : Nat} (hS : HSX12_mustBe q l rc dd) (hK : 5 ≤ dd) {w : Wd} {R : Int32 × Wd} (hN : N (some (.int R.1)) R.2) {s1 : Int32} {s2 : Int32} {a3 : Int32} (h : fX12_place_58 rc s1 s2 a3 w = some R) : RT (GM q) l (dd + 1) yX12_place cX12_place 5 ((some .int)) N X 58 [.int s2, .int s1, .ref 0] [(0, .ref 0), (3, .int a3)] w := by
  unfold fX12_place_58 at h
  refine r_aload_n (pc := 58) dX12_place_58 rfl 0 rfl ?_
  refine r_get (pc := 59) (j := 39) (v := .ref 26) oM0 cf12 flRX12_156 rfl dX12_place_59 rfl ?_
  refine r_iload_n (pc := 62) dX12_place_62 rfl 1 rfl ?_
  replace h := if_n h; obtain ⟨hb1, h⟩ := h
  refine r_iald (pc := 63) aM26 (inb_in hb1) dX12_place_63 ?_
  refine r_iconst (pc := 64) dX12_place_64 ki_0 ?_
  replace h := bn2_e h; obtain ⟨x2, w3, ew3, h⟩ := h
  refine r_cVi (pc := 65) wyX12_op oM0 rfl mlRX12_609 iyX12_op syX12_op ⟨Nat.succ_le_succ (Nat.le_trans (Nat.le_of_ble_eq_true rfl) hK), (Nat.le_of_ble_eq_true rfl)⟩ rfl rfl (Nat.le_of_ble_eq_true rfl) dX12_place_65 (mX12_op ew3 (pI.mk ?_))
  refine r_istore (pc := 68) (loc' := [(4, .int x2), (0, .ref 0), (3, .int a3)]) dX12_place_68 (Nat.le_of_ble_eq_true rfl) rfl ?_
  refine r_aload_n (pc := 70) dX12_place_70 rfl 1 rfl ?_
  refine r_get (pc := 71) (j := 33) (v := .ref 20) oM0 cf12 flRX12_138 rfl dX12_place_71 rfl ?_
  refine r_iload_n (pc := 74) dX12_place_74 rfl 2 rfl ?_
  replace h := if_n h; obtain ⟨hb4, h⟩ := h
  refine r_iald (pc := 75) aM20 (inb_in hb4) dX12_place_75 ?_
  exact rO_i (pc := 76) rfl dX12_place_76 h hN
def fX12_place (rc : TX12_mustBe) (a1 : Int32) (a2 : Int32) (w : Wd) : Option (Int32 × Wd) :=
  if inb a1 24000 = true then if (gi w 7 (Int32.toNatClampNeg a1)) = 4 then (bn2 (rc 4 a1 0 0 w) fun x3 w4 => some (x3, w4)) else (bn2 (fX12_seen a1 w) fun x5 w6 => if 0 ≤ x5 then (if inb x5 5000 = true then if (gi w6 19 (Int32.toNatClampNeg x5)) = 1 then (if inb x5 5000 = true then if (gi w6 27 (Int32.toNatClampNeg x5)) = 0 then (bn2 (fX12_up x5 w6) fun x12 w13 => fX12_place_58 rc 3 x12 x5 w13) else (fX12_place_58 rc 3 (-1) x5 w6) else none) else (bn2 (fX12_isFormal x5 1 w6) fun x14 w15 => if x14 = true then (if inb x5 5000 = true then if (gi w15 28 (Int32.toNatClampNeg x5)) = 0 then (bn2 (fX12_up x5 w15) fun x19 w20 => if inb x5 5000 = true then bn2 (fX12_op 4 x19 (gi w20 26 (Int32.toNatClampNeg x5)) 1 w20) fun x22 w23 => if inb x5 5000 = true then some ((gi w23 20 (Int32.toNatClampNeg x5)), w23) else none else none) else (bn2 (fX12_up x5 w15) fun x25 w26 => if inb x5 5000 = true then bn2 (fX12_op 3 x25 (gi w26 26 (Int32.toNatClampNeg x5)) 0 w26) fun x28 w29 => if inb x5 5000 = true then some ((gi w29 20 (Int32.toNatClampNeg x5)), w29) else none else none) else none) else (if inb x5 5000 = true then if (gi w15 19 (Int32.toNatClampNeg x5)) = 3 then (if a2 = 0 then (if inb x5 5000 = true then if (gi w15 20 (Int32.toNatClampNeg x5)) = 0 then (fX12_place_211 rc a1 x5 w15) else (if inb x5 5000 = true then bn2 (fX12_inProcedure (gi w15 24 (Int32.toNatClampNeg x5)) w15) fun x37 w38 => if x37 = true then (if inb x5 5000 = true then if inb (gi w38 24 (Int32.toNatClampNeg x5)) 1200 = true then bn2 (fX12_op 3 ((gi w38 0 65) - (gi w38 30 (Int32.toNatClampNeg (gi w38 24 (Int32.toNatClampNeg x5))))) 0 0 w38) fun x42 w43 => if inb x5 5000 = true then some ((gi w43 20 (Int32.toNatClampNeg x5)), w43) else none else none else none) else (fX12_place_211 rc a1 x5 w38) else none) else none) else (fX12_place_211 rc a1 x5 w15)) else (fX12_place_211 rc a1 x5 w15) else none)) else none) else (some (0, w6))) else none
set_option maxHeartbeats 16000000 in
theorem pX12_place {q : Gq} {l : Launch} {N : Option Value → Wd → Prop} {X : String → Wd → Prop} {rc : TX12_mustBe} {dd : Nat} (hS : HSX12_mustBe q l rc dd) (hK : 5 ≤ dd) {w : Wd} {R : Int32 × Wd} (hN : N (some (.int R.1)) R.2) {a1 : Int32} {a2 : Int32} (h : fX12_place rc a1 a2 w = some R) : RT (GM q) l (dd + 1) yX12_place cX12_place 5 ((some .int)) N X 0 [] [(0, .ref 0), (1, .int a1), (2, .int a2)] w := by
  unfold fX12_place at h
  refine r_aload_n (pc := 0) dX12_place_0 rfl 0 rfl ?_
  refine r_get (pc := 1) (j := 16) (v := .ref 7) oM0 cf12 flRX12_99 rfl dX12_place_1 rfl ?_
  refine r_iload_n (pc := 4) dX12_place_4 rfl 1 rfl ?_
  replace h := if_n h; obtain ⟨hb1, h⟩ := h
  refine r_iald (pc := 5) aM7 (inb_in hb1) dX12_place_5 ?_
  refine r_iconst (pc := 6) dX12_place_6 ki_4 ?_
  refine r_icmp_ne (pc := 7) dX12_place_7 rfl (fun hc2 => ?_) (fun hc2 => ?_)
  · replace h := if_f hc2 h
    refine r_aload_n (pc := 16) dX12_place_16 rfl 0 rfl ?_
    refine r_iload_n (pc := 17) dX12_place_17 rfl 1 rfl ?_
    replace h := bn2_e h; obtain ⟨x5, w6, ew6, h⟩ := h
    refine r_cVi (pc := 18) wyX12_seen oM0 rfl mlRX12_638 iyX12_seen syX12_seen ⟨Nat.succ_le_succ (Nat.le_trans (Nat.le_of_ble_eq_true rfl) hK), (Nat.le_of_ble_eq_true rfl)⟩ rfl rfl (Nat.le_of_ble_eq_true rfl) dX12_place_18 (mX12_seen ew6 (pI.mk ?_))
    refine r_istore_n (pc := 21) (loc' := [(3, .int x5), (0, .ref 0), (1, .int a1), (2, .int a2)]) dX12_place_21 rfl (Nat.le_of_ble_eq_true rfl) rfl ?_
    refine r_iload_n (pc := 22) dX12_place_22 rfl 0 rfl ?_
    refine r_if_ge (pc := 23) dX12_place_23 rfl (fun hc7 => ?_) (fun hc7 => ?_)
    · replace h := if_t hc7 h
      refine r_aload_n (pc := 28) dX12_place_28 rfl 1 rfl ?_
      refine r_get (pc := 29) (j := 32) (v := .ref 19) oM0 cf12 flRX12_135 rfl dX12_place_29 rfl ?_
      refine r_iload_n (pc := 32) dX12_place_32 rfl 0 rfl ?_
      replace h := if_n h; obtain ⟨hb8, h⟩ := h
      refine r_iald (pc := 33) aM19 (inb_in hb8) dX12_place_33 ?_
      refine r_iconst (pc := 34) dX12_place_34 ki_1 ?_
      refine r_icmp_ne (pc := 35) dX12_place_35 rfl (fun hc9 => ?_) (fun hc9 => ?_)
      · replace h := if_f hc9 h
        refine r_aload_n (pc := 77) dX12_place_77 rfl 1 rfl ?_
        refine r_iload_n (pc := 78) dX12_place_78 rfl 0 rfl ?_
        refine r_iconst (pc := 79) dX12_place_79 ki_1 ?_
        replace h := bn2_e h; obtain ⟨x14, w15, ew15, h⟩ := h
        refine r_cVi (pc := 80) wyX12_isFormal oM0 rfl mlRX12_644 iyX12_isFormal syX12_isFormal ⟨Nat.succ_le_succ (Nat.le_trans (Nat.le_of_ble_eq_true rfl) hK), (Nat.le_of_ble_eq_true rfl)⟩ rfl rfl (Nat.le_of_ble_eq_true rfl) dX12_place_80 (mX12_isFormal ew15 (pI.mk ?_))
        refine r_z_eq (pc := 83) dX12_place_83 rfl (fun hc16 => ?_) (fun hc16 => ?_)
        · replace h := if_f hc16 h
          refine r_aload_n (pc := 143) dX12_place_143 rfl 1 rfl ?_
          refine r_get (pc := 144) (j := 32) (v := .ref 19) oM0 cf12 flRX12_135 rfl dX12_place_144 rfl ?_
          refine r_iload_n (pc := 147) dX12_place_147 rfl 0 rfl ?_
          replace h := if_n h; obtain ⟨hb31, h⟩ := h
          refine r_iald (pc := 148) aM19 (inb_in hb31) dX12_place_148 ?_
          refine r_iconst (pc := 149) dX12_place_149 ki_3 ?_
          refine r_icmp_ne (pc := 150) dX12_place_150 rfl (fun hc32 => ?_) (fun hc32 => ?_)
          · replace h := if_f hc32 h
            refine r_drop (loc' := [(0, .ref 0), (1, .int a1), (3, .int x5)]) [1, 2, 0] rfl ?_
            exact pX12_place_211 hS hK hN h
          replace h := if_t hc32 h
          refine r_iload_n (pc := 153) dX12_place_153 rfl 3 rfl ?_
          refine r_if_ne (pc := 154) dX12_place_154 rfl (fun hc33 => ?_) (fun hc33 => ?_)
          · replace h := if_f hc33 h
            refine r_drop (loc' := [(0, .ref 0), (1, .int a1), (3, .int x5)]) [1, 2, 0] rfl ?_
            exact pX12_place_211 hS hK hN h
          replace h := if_t hc33 h
          refine r_aload_n (pc := 157) dX12_place_157 rfl 1 rfl ?_
          refine r_get (pc := 158) (j := 33) (v := .ref 20) oM0 cf12 flRX12_138 rfl dX12_place_158 rfl ?_
          refine r_iload_n (pc := 161) dX12_place_161 rfl 0 rfl ?_
          replace h := if_n h; obtain ⟨hb34, h⟩ := h
          refine r_iald (pc := 162) aM20 (inb_in hb34) dX12_place_162 ?_
          refine r_if_eq (pc := 163) dX12_place_163 rfl (fun hc35 => ?_) (fun hc35 => ?_)
          · replace h := if_t hc35 h
            refine r_drop (loc' := [(0, .ref 0), (1, .int a1), (3, .int x5)]) [1, 2, 0] rfl ?_
            exact pX12_place_211 hS hK hN h
          replace h := if_f hc35 h
          refine r_aload_n (pc := 166) dX12_place_166 rfl 1 rfl ?_
          refine r_aload_n (pc := 167) dX12_place_167 rfl 1 rfl ?_
          refine r_get (pc := 168) (j := 37) (v := .ref 24) oM0 cf12 flRX12_150 rfl dX12_place_168 rfl ?_
          refine r_iload_n (pc := 171) dX12_place_171 rfl 0 rfl ?_
          replace h := if_n h; obtain ⟨hb36, h⟩ := h
          refine r_iald (pc := 172) aM24 (inb_in hb36) dX12_place_172 ?_
          replace h := bn2_e h; obtain ⟨x37, w38, ew38, h⟩ := h
          refine r_cVi (pc := 173) wyX12_inProcedure oM0 rfl mlRX12_667 iyX12_inProcedure syX12_inProcedure ⟨Nat.succ_le_succ (Nat.le_trans (Nat.le_of_ble_eq_true rfl) hK), (Nat.le_of_ble_eq_true rfl)⟩ rfl rfl (Nat.le_of_ble_eq_true rfl) dX12_place_173 (mX12_inProcedure ew38 (pI.mk ?_))
          refine r_z_eq (pc := 176) dX12_place_176 rfl (fun hc39 => ?_) (fun hc39 => ?_)
          · replace h := if_f hc39 h
            refine r_drop (loc' := [(0, .ref 0), (1, .int a1), (3, .int x5)]) [1, 2, 0] rfl ?_
            exact pX12_place_211 hS hK hN h
          replace h := if_t hc39 h
          refine r_aload_n (pc := 179) dX12_place_179 rfl 1 rfl ?_
          refine r_iconst (pc := 180) dX12_place_180 ki_3 ?_
          refine r_aload_n (pc := 181) dX12_place_181 rfl 1 rfl ?_
          refine r_get (pc := 182) (j := 65) (v := .int (gi w38 0 65)) oM0 cf12 flRX12_599 rfl dX12_place_182 rfl ?_
          refine r_aload_n (pc := 185) dX12_place_185 rfl 1 rfl ?_
          refine r_get (pc := 186) (j := 44) (v := .ref 30) oM0 cf12 flRX12_169 rfl dX12_place_186 rfl ?_
          refine r_aload_n (pc := 189) dX12_place_189 rfl 1 rfl ?_
          refine r_get (pc := 190) (j := 37) (v := .ref 24) oM0 cf12 flRX12_150 rfl dX12_place_190 rfl ?_
          refine r_iload_n (pc := 193) dX12_place_193 rfl 0 rfl ?_
          replace h := if_n h; obtain ⟨hb40, h⟩ := h
          refine r_iald (pc := 194) aM24 (inb_in hb40) dX12_place_194 ?_
          replace h := if_n h; obtain ⟨hb41, h⟩ := h
          refine r_iald (pc := 195) aM30 (inb_in hb41) dX12_place_195 ?_
          refine r_isub (pc := 196) dX12_place_196 ?_
          refine r_iconst (pc := 197) dX12_place_197 ki_0 ?_
          refine r_iconst (pc := 198) dX12_place_198 ki_0 ?_
          replace h := bn2_e h; obtain ⟨x42, w43, ew43, h⟩ := h
          refine r_cVi (pc := 199) wyX12_op oM0 rfl mlRX12_609 iyX12_op syX12_op ⟨Nat.succ_le_succ (Nat.le_trans (Nat.le_of_ble_eq_true rfl) hK), (Nat.le_of_ble_eq_true rfl)⟩ rfl rfl (Nat.le_of_ble_eq_true rfl) dX12_place_199 (mX12_op ew43 (pI.mk ?_))
          refine r_istore (pc := 202) (loc' := [(4, .int x42), (3, .int x5), (0, .ref 0), (1, .int a1), (2, .int a2)]) dX12_place_202 (Nat.le_of_ble_eq_true rfl) rfl ?_
          refine r_aload_n (pc := 204) dX12_place_204 rfl 2 rfl ?_
          refine r_get (pc := 205) (j := 33) (v := .ref 20) oM0 cf12 flRX12_138 rfl dX12_place_205 rfl ?_
          refine r_iload_n (pc := 208) dX12_place_208 rfl 1 rfl ?_
          replace h := if_n h; obtain ⟨hb44, h⟩ := h
          refine r_iald (pc := 209) aM20 (inb_in hb44) dX12_place_209 ?_
          exact rO_i (pc := 210) rfl dX12_place_210 h hN
        replace h := if_t hc16 h
        refine r_aload_n (pc := 86) dX12_place_86 rfl 1 rfl ?_
        refine r_get (pc := 87) (j := 41) (v := .ref 28) oM0 cf12 flRX12_163 rfl dX12_place_87 rfl ?_
        refine r_iload_n (pc := 90) dX12_place_90 rfl 0 rfl ?_
        replace h := if_n h; obtain ⟨hb17, h⟩ := h
        refine r_zald (pc := 91) aM28 (inb_in hb17) dX12_place_91 ?_
        refine r_if_eq (pc := 92) dX12_place_92 rfl (fun hc18 => ?_) (fun hc18 => ?_)
        · replace h := if_t hc18 h
          refine r_aload_n (pc := 117) dX12_place_117 rfl 1 rfl ?_
          refine r_iconst (pc := 118) dX12_place_118 ki_4 ?_
          refine r_aload_n (pc := 119) dX12_place_119 rfl 1 rfl ?_
          refine r_iload_n (pc := 120) dX12_place_120 rfl 0 rfl ?_
          replace h := bn2_e h; obtain ⟨x19, w20, ew20, h⟩ := h
          refine r_cVi (pc := 121) wyX12_up oM0 rfl mlRX12_641 iyX12_up syX12_up ⟨Nat.succ_le_succ (Nat.le_trans (Nat.le_of_ble_eq_true rfl) hK), (Nat.le_of_ble_eq_true rfl)⟩ rfl rfl (Nat.le_of_ble_eq_true rfl) dX12_place_121 (mX12_up ew20 (pI.mk ?_))
          refine r_aload_n (pc := 124) dX12_place_124 rfl 1 rfl ?_
          refine r_get (pc := 125) (j := 39) (v := .ref 26) oM0 cf12 flRX12_156 rfl dX12_place_125 rfl ?_
          refine r_iload_n (pc := 128) dX12_place_128 rfl 0 rfl ?_
          replace h := if_n h; obtain ⟨hb21, h⟩ := h
          refine r_iald (pc := 129) aM26 (inb_in hb21) dX12_place_129 ?_
          refine r_iconst (pc := 130) dX12_place_130 ki_1 ?_
          replace h := bn2_e h; obtain ⟨x22, w23, ew23, h⟩ := h
          refine r_cVi (pc := 131) wyX12_op oM0 rfl mlRX12_609 iyX12_op syX12_op ⟨Nat.succ_le_succ (Nat.le_trans (Nat.le_of_ble_eq_true rfl) hK), (Nat.le_of_ble_eq_true rfl)⟩ rfl rfl (Nat.le_of_ble_eq_true rfl) dX12_place_131 (mX12_op ew23 (pI.mk ?_))
          refine r_istore (pc := 134) (loc' := [(4, .int x22), (3, .int x5), (0, .ref 0), (1, .int a1), (2, .int a2)]) dX12_place_134 (Nat.le_of_ble_eq_true rfl) rfl ?_
          refine r_aload_n (pc := 136) dX12_place_136 rfl 2 rfl ?_
          refine r_get (pc := 137) (j := 33) (v := .ref 20) oM0 cf12 flRX12_138 rfl dX12_place_137 rfl ?_
          refine r_iload_n (pc := 140) dX12_place_140 rfl 1 rfl ?_
          replace h := if_n h; obtain ⟨hb24, h⟩ := h
          refine r_iald (pc := 141) aM20 (inb_in hb24) dX12_place_141 ?_
          exact rO_i (pc := 142) rfl dX12_place_142 h hN
        replace h := if_f hc18 h
        refine r_aload_n (pc := 95) dX12_place_95 rfl 1 rfl ?_
        refine r_iconst (pc := 96) dX12_place_96 ki_3 ?_
        refine r_aload_n (pc := 97) dX12_place_97 rfl 1 rfl ?_
        refine r_iload_n (pc := 98) dX12_place_98 rfl 0 rfl ?_
        replace h := bn2_e h; obtain ⟨x25, w26, ew26, h⟩ := h
        refine r_cVi (pc := 99) wyX12_up oM0 rfl mlRX12_641 iyX12_up syX12_up ⟨Nat.succ_le_succ (Nat.le_trans (Nat.le_of_ble_eq_true rfl) hK), (Nat.le_of_ble_eq_true rfl)⟩ rfl rfl (Nat.le_of_ble_eq_true rfl) dX12_place_99 (mX12_up ew26 (pI.mk ?_))
        refine r_aload_n (pc := 102) dX12_place_102 rfl 1 rfl ?_
        refine r_get (pc := 103) (j := 39) (v := .ref 26) oM0 cf12 flRX12_156 rfl dX12_place_103 rfl ?_
        refine r_iload_n (pc := 106) dX12_place_106 rfl 0 rfl ?_
        replace h := if_n h; obtain ⟨hb27, h⟩ := h
        refine r_iald (pc := 107) aM26 (inb_in hb27) dX12_place_107 ?_
        refine r_iconst (pc := 108) dX12_place_108 ki_0 ?_
        replace h := bn2_e h; obtain ⟨x28, w29, ew29, h⟩ := h
        refine r_cVi (pc := 109) wyX12_op oM0 rfl mlRX12_609 iyX12_op syX12_op ⟨Nat.succ_le_succ (Nat.le_trans (Nat.le_of_ble_eq_true rfl) hK), (Nat.le_of_ble_eq_true rfl)⟩ rfl rfl (Nat.le_of_ble_eq_true rfl) dX12_place_109 (mX12_op ew29 (pI.mk ?_))
        refine r_istore (pc := 112) (loc' := [(4, .int x28), (3, .int x5), (0, .ref 0), (1, .int a1), (2, .int a2)]) dX12_place_112 (Nat.le_of_ble_eq_true rfl) rfl ?_
        refine r_goto (pc := 114) dX12_place_114 rfl ?_
        refine r_aload_n (pc := 136) dX12_place_136 rfl 2 rfl ?_
        refine r_get (pc := 137) (j := 33) (v := .ref 20) oM0 cf12 flRX12_138 rfl dX12_place_137 rfl ?_
        refine r_iload_n (pc := 140) dX12_place_140 rfl 1 rfl ?_
        replace h := if_n h; obtain ⟨hb30, h⟩ := h
        refine r_iald (pc := 141) aM20 (inb_in hb30) dX12_place_141 ?_
        exact rO_i (pc := 142) rfl dX12_place_142 h hN
      replace h := if_t hc9 h
      refine r_aload_n (pc := 38) dX12_place_38 rfl 1 rfl ?_
      refine r_iconst (pc := 39) dX12_place_39 ki_3 ?_
      refine r_aload_n (pc := 40) dX12_place_40 rfl 1 rfl ?_
      refine r_get (pc := 41) (j := 40) (v := .ref 27) oM0 cf12 flRX12_159 rfl dX12_place_41 rfl ?_
      refine r_iload_n (pc := 44) dX12_place_44 rfl 0 rfl ?_
      replace h := if_n h; obtain ⟨hb10, h⟩ := h
      refine r_zald (pc := 45) aM27 (inb_in hb10) dX12_place_45 ?_
      refine r_if_eq (pc := 46) dX12_place_46 rfl (fun hc11 => ?_) (fun hc11 => ?_)
      · replace h := if_t hc11 h
        refine r_aload_n (pc := 53) dX12_place_53 rfl 1 rfl ?_
        refine r_iload_n (pc := 54) dX12_place_54 rfl 0 rfl ?_
        replace h := bn2_e h; obtain ⟨x12, w13, ew13, h⟩ := h
        refine r_cVi (pc := 55) wyX12_up oM0 rfl mlRX12_641 iyX12_up syX12_up ⟨Nat.succ_le_succ (Nat.le_trans (Nat.le_of_ble_eq_true rfl) hK), (Nat.le_of_ble_eq_true rfl)⟩ rfl rfl (Nat.le_of_ble_eq_true rfl) dX12_place_55 (mX12_up ew13 (pI.mk ?_))
        refine r_drop (loc' := [(0, .ref 0), (3, .int x5)]) [1, 0] rfl ?_
        exact pX12_place_58 hS hK hN h
      replace h := if_f hc11 h
      refine r_iconst (pc := 49) dX12_place_49 ki_m1 ?_
      refine r_goto (pc := 50) dX12_place_50 rfl ?_
      refine r_drop (loc' := [(0, .ref 0), (3, .int x5)]) [1, 0] rfl ?_
      exact pX12_place_58 hS hK hN h
    replace h := if_f hc7 h
    refine r_iconst (pc := 26) dX12_place_26 ki_0 ?_
    exact rO_i (pc := 27) rfl dX12_place_27 h hN
  replace h := if_t hc2 h
  refine r_aload_n (pc := 10) dX12_place_10 rfl 0 rfl ?_
  refine r_iload_n (pc := 11) dX12_place_11 rfl 1 rfl ?_
  replace h := bn2_e h; obtain ⟨x3, w4, ew4, h⟩ := h
  refine r_cVi (pc := 12) wyX12_element oM0 rfl mlRX12_615 iyX12_element syX12_element ⟨Nat.le_refl _, (Nat.le_of_ble_eq_true rfl)⟩ rfl rfl (Nat.le_of_ble_eq_true rfl) dX12_place_12 ((hS.2.2.2.2.1 _ _ _ _ _ _) ew4 (pI.mk ?_))
  exact rO_i (pc := 15) rfl dX12_place_15 h hN
/-! AlgolMillModel.thunk (II)I: O, 1705 -/
theorem dX12_thunk_0 : decode cX12_thunk 0 = .ok (.aload_n 0, 1) := by decide +kernel
theorem dX12_thunk_1 : decode cX12_thunk 1 = .ok (.bipush 10, 2) := by decide +kernel
theorem dX12_thunk_3 : decode cX12_thunk 3 = .ok (.iconst 0, 1) := by decide +kernel
theorem dX12_thunk_4 : decode cX12_thunk 4 = .ok (.iconst 0, 1) := by decide +kernel
theorem dX12_thunk_5 : decode cX12_thunk 5 = .ok (.iconst 0, 1) := by decide +kernel
theorem dX12_thunk_6 : decode cX12_thunk 6 = .ok (.invokevirtual 609, 3) := by decide +kernel
theorem dX12_thunk_9 : decode cX12_thunk 9 = .ok (.istore_n 3, 1) := by decide +kernel
theorem dX12_thunk_10 : decode cX12_thunk 10 = .ok (.iconst 0, 1) := by decide +kernel
theorem dX12_thunk_11 : decode cX12_thunk 11 = .ok (.istore 4, 2) := by decide +kernel
theorem dX12_thunk_13 : decode cX12_thunk 13 = .ok (.aload_n 0, 1) := by decide +kernel
theorem dX12_thunk_14 : decode cX12_thunk 14 = .ok (.getfield 99, 3) := by decide +kernel
theorem dX12_thunk_17 : decode cX12_thunk 17 = .ok (.iload_n 1, 1) := by decide +kernel
theorem dX12_thunk_18 : decode cX12_thunk 18 = .ok (.iaload, 1) := by decide +kernel
theorem dX12_thunk_19 : decode cX12_thunk 19 = .ok (.iconst 4, 1) := by decide +kernel
theorem dX12_thunk_20 : decode cX12_thunk 20 = .ok (.if_icmp .ne 6, 3) := by decide +kernel
theorem dX12_thunk_23 : decode cX12_thunk 23 = .ok (.iconst 1, 1) := by decide +kernel
theorem dX12_thunk_24 : decode cX12_thunk 24 = .ok (.istore 4, 2) := by decide +kernel
theorem dX12_thunk_26 : decode cX12_thunk 26 = .ok (.aload_n 0, 1) := by decide +kernel
theorem dX12_thunk_27 : decode cX12_thunk 27 = .ok (.getfield 99, 3) := by decide +kernel
theorem dX12_thunk_30 : decode cX12_thunk 30 = .ok (.iload_n 1, 1) := by decide +kernel
theorem dX12_thunk_31 : decode cX12_thunk 31 = .ok (.iaload, 1) := by decide +kernel
theorem dX12_thunk_32 : decode cX12_thunk 32 = .ok (.iconst 3, 1) := by decide +kernel
theorem dX12_thunk_33 : decode cX12_thunk 33 = .ok (.if_icmp .ne 86, 3) := by decide +kernel
theorem dX12_thunk_36 : decode cX12_thunk 36 = .ok (.aload_n 0, 1) := by decide +kernel
theorem dX12_thunk_37 : decode cX12_thunk 37 = .ok (.aload_n 0, 1) := by decide +kernel
theorem dX12_thunk_38 : decode cX12_thunk 38 = .ok (.getfield 117, 3) := by decide +kernel
theorem dX12_thunk_41 : decode cX12_thunk 41 = .ok (.iload_n 1, 1) := by decide +kernel
theorem dX12_thunk_42 : decode cX12_thunk 42 = .ok (.iaload, 1) := by decide +kernel
theorem dX12_thunk_43 : decode cX12_thunk 43 = .ok (.aload_n 0, 1) := by decide +kernel
theorem dX12_thunk_44 : decode cX12_thunk 44 = .ok (.getfield 20, 3) := by decide +kernel
theorem dX12_thunk_47 : decode cX12_thunk 47 = .ok (.aload_n 0, 1) := by decide +kernel
theorem dX12_thunk_48 : decode cX12_thunk 48 = .ok (.getfield 114, 3) := by decide +kernel
theorem dX12_thunk_51 : decode cX12_thunk 51 = .ok (.iload_n 1, 1) := by decide +kernel
theorem dX12_thunk_52 : decode cX12_thunk 52 = .ok (.iaload, 1) := by decide +kernel
theorem dX12_thunk_53 : decode cX12_thunk 53 = .ok (.laload, 1) := by decide +kernel
theorem dX12_thunk_54 : decode cX12_thunk 54 = .ok (.invokevirtual 604, 3) := by decide +kernel
theorem dX12_thunk_57 : decode cX12_thunk 57 = .ok (.istore 5, 2) := by decide +kernel
theorem dX12_thunk_59 : decode cX12_thunk 59 = .ok (.iload 5, 2) := by decide +kernel
theorem dX12_thunk_61 : decode cX12_thunk 61 = .ok (.ifCond .lt 40, 3) := by decide +kernel
theorem dX12_thunk_64 : decode cX12_thunk 64 = .ok (.aload_n 0, 1) := by decide +kernel
theorem dX12_thunk_65 : decode cX12_thunk 65 = .ok (.getfield 135, 3) := by decide +kernel
theorem dX12_thunk_68 : decode cX12_thunk 68 = .ok (.iload 5, 2) := by decide +kernel
theorem dX12_thunk_70 : decode cX12_thunk 70 = .ok (.iaload, 1) := by decide +kernel
theorem dX12_thunk_71 : decode cX12_thunk 71 = .ok (.iconst 1, 1) := by decide +kernel
theorem dX12_thunk_72 : decode cX12_thunk 72 = .ok (.if_icmp .eq 23, 3) := by decide +kernel
theorem dX12_thunk_75 : decode cX12_thunk 75 = .ok (.aload_n 0, 1) := by decide +kernel
theorem dX12_thunk_76 : decode cX12_thunk 76 = .ok (.iload 5, 2) := by decide +kernel
theorem dX12_thunk_78 : decode cX12_thunk 78 = .ok (.iconst 1, 1) := by decide +kernel
theorem dX12_thunk_79 : decode cX12_thunk 79 = .ok (.invokevirtual 644, 3) := by decide +kernel
theorem dX12_thunk_82 : decode cX12_thunk 82 = .ok (.ifCond .eq 19, 3) := by decide +kernel
theorem dX12_thunk_85 : decode cX12_thunk 85 = .ok (.aload_n 0, 1) := by decide +kernel
theorem dX12_thunk_86 : decode cX12_thunk 86 = .ok (.getfield 163, 3) := by decide +kernel
theorem dX12_thunk_89 : decode cX12_thunk 89 = .ok (.iload 5, 2) := by decide +kernel
theorem dX12_thunk_91 : decode cX12_thunk 91 = .ok (.baload, 1) := by decide +kernel
theorem dX12_thunk_92 : decode cX12_thunk 92 = .ok (.ifCond .eq 9, 3) := by decide +kernel
theorem dX12_thunk_95 : decode cX12_thunk 95 = .ok (.iconst 1, 1) := by decide +kernel
theorem dX12_thunk_96 : decode cX12_thunk 96 = .ok (.istore 4, 2) := by decide +kernel
theorem dX12_thunk_98 : decode cX12_thunk 98 = .ok (.goto 21, 3) := by decide +kernel
theorem dX12_thunk_101 : decode cX12_thunk 101 = .ok (.iload 5, 2) := by decide +kernel
theorem dX12_thunk_103 : decode cX12_thunk 103 = .ok (.ifCond .lt 16, 3) := by decide +kernel
theorem dX12_thunk_106 : decode cX12_thunk 106 = .ok (.aload_n 0, 1) := by decide +kernel
theorem dX12_thunk_107 : decode cX12_thunk 107 = .ok (.iload 5, 2) := by decide +kernel
theorem dX12_thunk_109 : decode cX12_thunk 109 = .ok (.iconst 1, 1) := by decide +kernel
theorem dX12_thunk_110 : decode cX12_thunk 110 = .ok (.invokevirtual 644, 3) := by decide +kernel
theorem dX12_thunk_113 : decode cX12_thunk 113 = .ok (.ifCond .eq 6, 3) := by decide +kernel
theorem dX12_thunk_116 : decode cX12_thunk 116 = .ok (.iconst 2, 1) := by decide +kernel
theorem dX12_thunk_117 : decode cX12_thunk 117 = .ok (.istore 4, 2) := by decide +kernel
theorem dX12_thunk_119 : decode cX12_thunk 119 = .ok (.aload_n 0, 1) := by decide +kernel
theorem dX12_thunk_120 : decode cX12_thunk 120 = .ok (.iload 4, 2) := by decide +kernel
theorem dX12_thunk_122 : decode cX12_thunk 122 = .ok (.invokevirtual 685, 3) := by decide +kernel
theorem dX12_thunk_125 : decode cX12_thunk 125 = .ok (.istore 5, 2) := by decide +kernel
theorem dX12_thunk_127 : decode cX12_thunk 127 = .ok (.iload 4, 2) := by decide +kernel
theorem dX12_thunk_129 : decode cX12_thunk 129 = .ok (.ifCond .ne 13, 3) := by decide +kernel
theorem dX12_thunk_132 : decode cX12_thunk 132 = .ok (.aload_n 0, 1) := by decide +kernel
theorem dX12_thunk_133 : decode cX12_thunk 133 = .ok (.iload_n 1, 1) := by decide +kernel
theorem dX12_thunk_134 : decode cX12_thunk 134 = .ok (.invokevirtual 607, 3) := by decide +kernel
theorem dX12_thunk_137 : decode cX12_thunk 137 = .ok (.istore 6, 2) := by decide +kernel
theorem dX12_thunk_139 : decode cX12_thunk 139 = .ok (.goto 73, 3) := by decide +kernel
theorem dX12_thunk_142 : decode cX12_thunk 142 = .ok (.iload 4, 2) := by decide +kernel
theorem dX12_thunk_144 : decode cX12_thunk 144 = .ok (.iconst 1, 1) := by decide +kernel
theorem dX12_thunk_145 : decode cX12_thunk 145 = .ok (.if_icmp .ne 14, 3) := by decide +kernel
theorem dX12_thunk_148 : decode cX12_thunk 148 = .ok (.aload_n 0, 1) := by decide +kernel
theorem dX12_thunk_149 : decode cX12_thunk 149 = .ok (.iload_n 1, 1) := by decide +kernel
theorem dX12_thunk_150 : decode cX12_thunk 150 = .ok (.iconst 0, 1) := by decide +kernel
theorem dX12_thunk_151 : decode cX12_thunk 151 = .ok (.invokevirtual 694, 3) := by decide +kernel
theorem dX12_thunk_154 : decode cX12_thunk 154 = .ok (.istore 6, 2) := by decide +kernel
theorem dX12_thunk_156 : decode cX12_thunk 156 = .ok (.goto 56, 3) := by decide +kernel
theorem dX12_thunk_159 : decode cX12_thunk 159 = .ok (.aload_n 0, 1) := by decide +kernel
theorem dX12_thunk_160 : decode cX12_thunk 160 = .ok (.aload_n 0, 1) := by decide +kernel
theorem dX12_thunk_161 : decode cX12_thunk 161 = .ok (.getfield 117, 3) := by decide +kernel
theorem dX12_thunk_164 : decode cX12_thunk 164 = .ok (.iload_n 1, 1) := by decide +kernel
theorem dX12_thunk_165 : decode cX12_thunk 165 = .ok (.iaload, 1) := by decide +kernel
theorem dX12_thunk_166 : decode cX12_thunk 166 = .ok (.aload_n 0, 1) := by decide +kernel
theorem dX12_thunk_167 : decode cX12_thunk 167 = .ok (.getfield 20, 3) := by decide +kernel
theorem dX12_thunk_170 : decode cX12_thunk 170 = .ok (.aload_n 0, 1) := by decide +kernel
theorem dX12_thunk_171 : decode cX12_thunk 171 = .ok (.getfield 114, 3) := by decide +kernel
theorem dX12_thunk_174 : decode cX12_thunk 174 = .ok (.iload_n 1, 1) := by decide +kernel
theorem dX12_thunk_175 : decode cX12_thunk 175 = .ok (.iaload, 1) := by decide +kernel
theorem dX12_thunk_176 : decode cX12_thunk 176 = .ok (.laload, 1) := by decide +kernel
theorem dX12_thunk_177 : decode cX12_thunk 177 = .ok (.invokevirtual 604, 3) := by decide +kernel
theorem dX12_thunk_180 : decode cX12_thunk 180 = .ok (.istore 7, 2) := by decide +kernel
theorem dX12_thunk_182 : decode cX12_thunk 182 = .ok (.aload_n 0, 1) := by decide +kernel
theorem dX12_thunk_183 : decode cX12_thunk 183 = .ok (.iconst 4, 1) := by decide +kernel
theorem dX12_thunk_184 : decode cX12_thunk 184 = .ok (.aload_n 0, 1) := by decide +kernel
theorem dX12_thunk_185 : decode cX12_thunk 185 = .ok (.iload 7, 2) := by decide +kernel
theorem dX12_thunk_187 : decode cX12_thunk 187 = .ok (.invokevirtual 641, 3) := by decide +kernel
theorem dX12_thunk_190 : decode cX12_thunk 190 = .ok (.aload_n 0, 1) := by decide +kernel
theorem dX12_thunk_191 : decode cX12_thunk 191 = .ok (.getfield 156, 3) := by decide +kernel
theorem dX12_thunk_194 : decode cX12_thunk 194 = .ok (.iload 7, 2) := by decide +kernel
theorem dX12_thunk_196 : decode cX12_thunk 196 = .ok (.iaload, 1) := by decide +kernel
theorem dX12_thunk_197 : decode cX12_thunk 197 = .ok (.iconst 2, 1) := by decide +kernel
theorem dX12_thunk_198 : decode cX12_thunk 198 = .ok (.invokevirtual 609, 3) := by decide +kernel
theorem dX12_thunk_201 : decode cX12_thunk 201 = .ok (.istore 8, 2) := by decide +kernel
theorem dX12_thunk_203 : decode cX12_thunk 203 = .ok (.aload_n 0, 1) := by decide +kernel
theorem dX12_thunk_204 : decode cX12_thunk 204 = .ok (.getfield 138, 3) := by decide +kernel
theorem dX12_thunk_207 : decode cX12_thunk 207 = .ok (.iload 7, 2) := by decide +kernel
theorem dX12_thunk_209 : decode cX12_thunk 209 = .ok (.iaload, 1) := by decide +kernel
theorem dX12_thunk_210 : decode cX12_thunk 210 = .ok (.istore 6, 2) := by decide +kernel
theorem dX12_thunk_212 : decode cX12_thunk 212 = .ok (.iload 6, 2) := by decide +kernel
theorem dX12_thunk_214 : decode cX12_thunk 214 = .ok (.ifCond .eq 20, 3) := by decide +kernel
theorem dX12_thunk_217 : decode cX12_thunk 217 = .ok (.iload 6, 2) := by decide +kernel
theorem dX12_thunk_219 : decode cX12_thunk 219 = .ok (.iload_n 2, 1) := by decide +kernel
theorem dX12_thunk_220 : decode cX12_thunk 220 = .ok (.if_icmp .eq 14, 3) := by decide +kernel
theorem dX12_thunk_223 : decode cX12_thunk 223 = .ok (.aload_n 0, 1) := by decide +kernel
theorem dX12_thunk_224 : decode cX12_thunk 224 = .ok (.iconst 4, 1) := by decide +kernel
theorem dX12_thunk_225 : decode cX12_thunk 225 = .ok (.aload_n 0, 1) := by decide +kernel
theorem dX12_thunk_226 : decode cX12_thunk 226 = .ok (.getfield 114, 3) := by decide +kernel
theorem dX12_thunk_229 : decode cX12_thunk 229 = .ok (.iload_n 1, 1) := by decide +kernel
theorem dX12_thunk_230 : decode cX12_thunk 230 = .ok (.iaload, 1) := by decide +kernel
theorem dX12_thunk_231 : decode cX12_thunk 231 = .ok (.invokevirtual 484, 3) := by decide +kernel
theorem dX12_thunk_234 : decode cX12_thunk 234 = .ok (.aload_n 0, 1) := by decide +kernel
theorem dX12_thunk_235 : decode cX12_thunk 235 = .ok (.bipush 17, 2) := by decide +kernel
theorem dX12_thunk_237 : decode cX12_thunk 237 = .ok (.iload 4, 2) := by decide +kernel
theorem dX12_thunk_239 : decode cX12_thunk 239 = .ok (.iconst 1, 1) := by decide +kernel
theorem dX12_thunk_240 : decode cX12_thunk 240 = .ok (.if_icmp .ne 7, 3) := by decide +kernel
theorem dX12_thunk_243 : decode cX12_thunk 243 = .ok (.iconst 1, 1) := by decide +kernel
theorem dX12_thunk_244 : decode cX12_thunk 244 = .ok (.goto 4, 3) := by decide +kernel
theorem dX12_thunk_247 : decode cX12_thunk 247 = .ok (.iconst 0, 1) := by decide +kernel
theorem dX12_thunk_248 : decode cX12_thunk 248 = .ok (.iconst 0, 1) := by decide +kernel
theorem dX12_thunk_249 : decode cX12_thunk 249 = .ok (.iconst 0, 1) := by decide +kernel
theorem dX12_thunk_250 : decode cX12_thunk 250 = .ok (.invokevirtual 609, 3) := by decide +kernel
theorem dX12_thunk_253 : decode cX12_thunk 253 = .ok (.istore 7, 2) := by decide +kernel
theorem dX12_thunk_255 : decode cX12_thunk 255 = .ok (.aload_n 0, 1) := by decide +kernel
theorem dX12_thunk_256 : decode cX12_thunk 256 = .ok (.iload_n 3, 1) := by decide +kernel
theorem dX12_thunk_257 : decode cX12_thunk 257 = .ok (.invokevirtual 625, 3) := by decide +kernel
theorem dX12_thunk_260 : decode cX12_thunk 260 = .ok (.iload 5, 2) := by decide +kernel
theorem dX12_thunk_262 : decode cX12_thunk 262 = .ok (.ireturn, 1) := by decide +kernel
def fX12_thunk_248 (rc : TX12_mustBe) (s1 : Int32) (s2 : Bool) (a3 : Int32) (a5 : Int32) (w : Wd) : Option (Int32 × Wd) :=
  bn2 (fX12_op s1 (b2i s2) 0 0 w) fun x1 w2 => bn (fX12_patch a3 w2) fun w3 => some (a5, w3)
theorem pX12_thunk_248 {q : Gq} {l : Launch} {N : Option Value → Wd → Prop} {X : String → Wd → Prop} {rc : TX12_mustBe} {dd : Nat} (hS : HSX12_mustBe q l rc dd) (hK : 5 ≤ dd) {w : Wd} {R : Int32 × Wd} (hN : N (some (.int R.1)) R.2) {s1 : Int32} {s2 : Bool} {a3 : Int32} {a5 : Int32} (h : fX12_thunk_248 rc s1 s2 a3 a5 w = some R) : RT (GM q) l (dd + 1) yX12_thunk cX12_thunk 9 ((some .int)) N X 248 [.int (b2i s2), .int s1, .ref 0] [(0, .ref 0), (3, .int a3), (5, .int a5)] w := by
  unfold fX12_thunk_248 at h
  refine r_iconst (pc := 248) dX12_thunk_248 ki_0 ?_
  refine r_iconst (pc := 249) dX12_thunk_249 ki_0 ?_
  replace h := bn2_e h; obtain ⟨x1, w2, ew2, h⟩ := h
  refine r_cVi (pc := 250) wyX12_op oM0 rfl mlRX12_609 iyX12_op syX12_op ⟨Nat.succ_le_succ (Nat.le_trans (Nat.le_of_ble_eq_true rfl) hK), (Nat.le_of_ble_eq_true rfl)⟩ rfl rfl (Nat.le_of_ble_eq_true rfl) dX12_thunk_250 (mX12_op ew2 (pI.mk ?_))
  refine r_istore (pc := 253) (loc' := [(7, .int x1), (0, .ref 0), (3, .int a3), (5, .int a5)]) dX12_thunk_253 (Nat.le_of_ble_eq_true rfl) rfl ?_
  refine r_aload_n (pc := 255) dX12_thunk_255 rfl 1 rfl ?_
  refine r_iload_n (pc := 256) dX12_thunk_256 rfl 2 rfl ?_
  replace h := bn_e h; obtain ⟨w3, ew3, h⟩ := h
  refine r_cVv (pc := 257) wyX12_patch oM0 rfl mlRX12_625 iyX12_patch syX12_patch ⟨Nat.succ_le_succ (Nat.le_trans (Nat.le_of_ble_eq_true rfl) hK), (Nat.le_of_ble_eq_true rfl)⟩ rfl rfl (Nat.le_of_ble_eq_true rfl) dX12_thunk_257 (mX12_patch ew3 (pV.mk ?_))
  refine r_iload (pc := 260) dX12_thunk_260 3 rfl ?_
  exact rO_i (pc := 262) rfl dX12_thunk_262 h hN
def fX12_thunk_212 (rc : TX12_mustBe) (a1 : Int32) (a2 : Int32) (a3 : Int32) (a4 : Int32) (a5 : Int32) (a6 : Int32) (w : Wd) : Option (Int32 × Wd) :=
  if a6 = 0 then (if a4 = 1 then (fX12_thunk_248 rc 17 true a3 a5 w) else (fX12_thunk_248 rc 17 false a3 a5 w)) else (if a6 = a2 then (if a4 = 1 then (fX12_thunk_248 rc 17 true a3 a5 w) else (fX12_thunk_248 rc 17 false a3 a5 w)) else (if inb a1 24000 = true then bn (fX12_found 4 (gi w 12 (Int32.toNatClampNeg a1)) w) fun w6 => if a4 = 1 then (fX12_thunk_248 rc 17 true a3 a5 w6) else (fX12_thunk_248 rc 17 false a3 a5 w6) else none))
theorem pX12_thunk_212 {q : Gq} {l : Launch} {N : Option Value → Wd → Prop} {X : String → Wd → Prop} {rc : TX12_mustBe} {dd : Nat} (hS : HSX12_mustBe q l rc dd) (hK : 5 ≤ dd) {w : Wd} {R : Int32 × Wd} (hN : N (some (.int R.1)) R.2) {a1 : Int32} {a2 : Int32} {a3 : Int32} {a4 : Int32} {a5 : Int32} {a6 : Int32} (h : fX12_thunk_212 rc a1 a2 a3 a4 a5 a6 w = some R) : RT (GM q) l (dd + 1) yX12_thunk cX12_thunk 9 ((some .int)) N X 212 [] [(0, .ref 0), (1, .int a1), (2, .int a2), (3, .int a3), (4, .int a4), (5, .int a5), (6, .int a6)] w := by
  unfold fX12_thunk_212 at h
  refine r_iload (pc := 212) dX12_thunk_212 6 rfl ?_
  refine r_if_eq (pc := 214) dX12_thunk_214 rfl (fun hc1 => ?_) (fun hc1 => ?_)
  · replace h := if_t hc1 h
    refine r_aload_n (pc := 234) dX12_thunk_234 rfl 0 rfl ?_
    refine r_bipush (pc := 235) dX12_thunk_235 kb_17 ?_
    refine r_iload (pc := 237) dX12_thunk_237 4 rfl ?_
    refine r_iconst (pc := 239) dX12_thunk_239 ki_1 ?_
    refine r_icmp_ne (pc := 240) dX12_thunk_240 rfl (fun hc2 => ?_) (fun hc2 => ?_)
    · replace h := if_f hc2 h
      refine r_iconst (pc := 247) dX12_thunk_247 ki_0 ?_
      refine r_drop (loc' := [(0, .ref 0), (3, .int a3), (5, .int a5)]) [0, 3, 5] rfl ?_
      exact pX12_thunk_248 hS hK hN h
    replace h := if_t hc2 h
    refine r_iconst (pc := 243) dX12_thunk_243 ki_1 ?_
    refine r_goto (pc := 244) dX12_thunk_244 rfl ?_
    refine r_drop (loc' := [(0, .ref 0), (3, .int a3), (5, .int a5)]) [0, 3, 5] rfl ?_
    exact pX12_thunk_248 hS hK hN h
  replace h := if_f hc1 h
  refine r_iload (pc := 217) dX12_thunk_217 6 rfl ?_
  refine r_iload_n (pc := 219) dX12_thunk_219 rfl 2 rfl ?_
  refine r_icmp_eq (pc := 220) dX12_thunk_220 rfl (fun hc3 => ?_) (fun hc3 => ?_)
  · replace h := if_t hc3 h
    refine r_aload_n (pc := 234) dX12_thunk_234 rfl 0 rfl ?_
    refine r_bipush (pc := 235) dX12_thunk_235 kb_17 ?_
    refine r_iload (pc := 237) dX12_thunk_237 4 rfl ?_
    refine r_iconst (pc := 239) dX12_thunk_239 ki_1 ?_
    refine r_icmp_ne (pc := 240) dX12_thunk_240 rfl (fun hc4 => ?_) (fun hc4 => ?_)
    · replace h := if_f hc4 h
      refine r_iconst (pc := 247) dX12_thunk_247 ki_0 ?_
      refine r_drop (loc' := [(0, .ref 0), (3, .int a3), (5, .int a5)]) [0, 3, 5] rfl ?_
      exact pX12_thunk_248 hS hK hN h
    replace h := if_t hc4 h
    refine r_iconst (pc := 243) dX12_thunk_243 ki_1 ?_
    refine r_goto (pc := 244) dX12_thunk_244 rfl ?_
    refine r_drop (loc' := [(0, .ref 0), (3, .int a3), (5, .int a5)]) [0, 3, 5] rfl ?_
    exact pX12_thunk_248 hS hK hN h
  replace h := if_f hc3 h
  refine r_aload_n (pc := 223) dX12_thunk_223 rfl 0 rfl ?_
  refine r_iconst (pc := 224) dX12_thunk_224 ki_4 ?_
  refine r_aload_n (pc := 225) dX12_thunk_225 rfl 0 rfl ?_
  refine r_get (pc := 226) (j := 21) (v := .ref 12) oM0 cf12 flRX12_114 rfl dX12_thunk_226 rfl ?_
  refine r_iload_n (pc := 229) dX12_thunk_229 rfl 1 rfl ?_
  replace h := if_n h; obtain ⟨hb5, h⟩ := h
  refine r_iald (pc := 230) aM12 (inb_in hb5) dX12_thunk_230 ?_
  replace h := bn_e h; obtain ⟨w6, ew6, h⟩ := h
  refine r_cVv (pc := 231) wyX12_found oM0 rfl mlRX12_484 iyX12_found syX12_found ⟨Nat.succ_le_succ (Nat.le_trans (Nat.le_of_ble_eq_true rfl) hK), (Nat.le_of_ble_eq_true rfl)⟩ rfl rfl (Nat.le_of_ble_eq_true rfl) dX12_thunk_231 (mX12_found ew6 (pV.mk ?_))
  refine r_aload_n (pc := 234) dX12_thunk_234 rfl 0 rfl ?_
  refine r_bipush (pc := 235) dX12_thunk_235 kb_17 ?_
  refine r_iload (pc := 237) dX12_thunk_237 4 rfl ?_
  refine r_iconst (pc := 239) dX12_thunk_239 ki_1 ?_
  refine r_icmp_ne (pc := 240) dX12_thunk_240 rfl (fun hc7 => ?_) (fun hc7 => ?_)
  · replace h := if_f hc7 h
    refine r_iconst (pc := 247) dX12_thunk_247 ki_0 ?_
    refine r_drop (loc' := [(0, .ref 0), (3, .int a3), (5, .int a5)]) [0, 3, 5] rfl ?_
    exact pX12_thunk_248 hS hK hN h
  replace h := if_t hc7 h
  refine r_iconst (pc := 243) dX12_thunk_243 ki_1 ?_
  refine r_goto (pc := 244) dX12_thunk_244 rfl ?_
  refine r_drop (loc' := [(0, .ref 0), (3, .int a3), (5, .int a5)]) [0, 3, 5] rfl ?_
  exact pX12_thunk_248 hS hK hN h
def fX12_thunk_119 (rc : TX12_mustBe) (a1 : Int32) (a2 : Int32) (a3 : Int32) (a4 : Int32) (w : Wd) : Option (Int32 × Wd) :=
  bn2 (fX12_newThunk a4 w) fun x1 w2 => if a4 = 0 then (bn2 (rc 1 a1 0 0 w2) fun x4 w5 => fX12_thunk_212 rc a1 a2 a3 a4 x1 x4 w5) else (if a4 = 1 then (bn2 (rc 5 a1 0 0 w2) fun x7 w8 => fX12_thunk_212 rc a1 a2 a3 a4 x1 x7 w8) else (if inb a1 24000 = true then if inb a1 24000 = true then if inb (gi w2 12 (Int32.toNatClampNeg a1)) 8194 = true then bn2 (fX12_lookUp (gi w2 13 (Int32.toNatClampNeg a1)) (gl w2 4 (Int32.toNatClampNeg (gi w2 12 (Int32.toNatClampNeg a1)))) w2) fun x12 w13 => bn2 (fX12_up x12 w13) fun x14 w15 => if inb x12 5000 = true then bn2 (fX12_op 4 x14 (gi w15 26 (Int32.toNatClampNeg x12)) 2 w15) fun x17 w18 => if inb x12 5000 = true then lt ((gi w18 20 (Int32.toNatClampNeg x12))) fun x20 => fX12_thunk_212 rc a1 a2 a3 a4 x1 x20 w18 else none else none else none else none else none))
theorem pX12_thunk_119 {q : Gq} {l : Launch} {N : Option Value → Wd → Prop} {X : String → Wd → Prop} {rc : TX12_mustBe} {dd : Nat} (hS : HSX12_mustBe q l rc dd) (hK : 5 ≤ dd) {w : Wd} {R : Int32 × Wd} (hN : N (some (.int R.1)) R.2) {a1 : Int32} {a2 : Int32} {a3 : Int32} {a4 : Int32} (h : fX12_thunk_119 rc a1 a2 a3 a4 w = some R) : RT (GM q) l (dd + 1) yX12_thunk cX12_thunk 9 ((some .int)) N X 119 [] [(0, .ref 0), (1, .int a1), (2, .int a2), (3, .int a3), (4, .int a4)] w := by
  unfold fX12_thunk_119 at h
  refine r_aload_n (pc := 119) dX12_thunk_119 rfl 0 rfl ?_
  refine r_iload (pc := 120) dX12_thunk_120 4 rfl ?_
  replace h := bn2_e h; obtain ⟨x1, w2, ew2, h⟩ := h
  refine r_cVi (pc := 122) wyX12_newThunk oM0 rfl mlRX12_685 iyX12_newThunk syX12_newThunk ⟨Nat.succ_le_succ (Nat.le_trans (Nat.le_of_ble_eq_true rfl) hK), (Nat.le_of_ble_eq_true rfl)⟩ rfl rfl (Nat.le_of_ble_eq_true rfl) dX12_thunk_122 (mX12_newThunk ew2 (pI.mk ?_))
  refine r_istore (pc := 125) (loc' := [(5, .int x1), (0, .ref 0), (1, .int a1), (2, .int a2), (3, .int a3), (4, .int a4)]) dX12_thunk_125 (Nat.le_of_ble_eq_true rfl) rfl ?_
  refine r_iload (pc := 127) dX12_thunk_127 5 rfl ?_
  refine r_if_ne (pc := 129) dX12_thunk_129 rfl (fun hc3 => ?_) (fun hc3 => ?_)
  · replace h := if_f hc3 h
    refine r_iload (pc := 142) dX12_thunk_142 5 rfl ?_
    refine r_iconst (pc := 144) dX12_thunk_144 ki_1 ?_
    refine r_icmp_ne (pc := 145) dX12_thunk_145 rfl (fun hc6 => ?_) (fun hc6 => ?_)
    · replace h := if_f hc6 h
      refine r_aload_n (pc := 159) dX12_thunk_159 rfl 1 rfl ?_
      refine r_aload_n (pc := 160) dX12_thunk_160 rfl 1 rfl ?_
      refine r_get (pc := 161) (j := 22) (v := .ref 13) oM0 cf12 flRX12_117 rfl dX12_thunk_161 rfl ?_
      refine r_iload_n (pc := 164) dX12_thunk_164 rfl 2 rfl ?_
      replace h := if_n h; obtain ⟨hb9, h⟩ := h
      refine r_iald (pc := 165) aM13 (inb_in hb9) dX12_thunk_165 ?_
      refine r_aload_n (pc := 166) dX12_thunk_166 rfl 1 rfl ?_
      refine r_get (pc := 167) (j := 5) (v := .ref 4) oM0 cf12 flRX12_20 rfl dX12_thunk_167 rfl ?_
      refine r_aload_n (pc := 170) dX12_thunk_170 rfl 1 rfl ?_
      refine r_get (pc := 171) (j := 21) (v := .ref 12) oM0 cf12 flRX12_114 rfl dX12_thunk_171 rfl ?_
      refine r_iload_n (pc := 174) dX12_thunk_174 rfl 2 rfl ?_
      replace h := if_n h; obtain ⟨hb10, h⟩ := h
      refine r_iald (pc := 175) aM12 (inb_in hb10) dX12_thunk_175 ?_
      replace h := if_n h; obtain ⟨hb11, h⟩ := h
      refine r_lald (pc := 176) aM4 (inb_in hb11) dX12_thunk_176 ?_
      replace h := bn2_e h; obtain ⟨x12, w13, ew13, h⟩ := h
      refine r_cVi (pc := 177) wyX12_lookUp oM0 rfl mlRX12_604 iyX12_lookUp syX12_lookUp ⟨Nat.succ_le_succ (Nat.le_trans (Nat.le_of_ble_eq_true rfl) hK), (Nat.le_of_ble_eq_true rfl)⟩ rfl rfl (Nat.le_of_ble_eq_true rfl) dX12_thunk_177 (mX12_lookUp ew13 (pI.mk ?_))
      refine r_istore (pc := 180) (loc' := [(7, .int x12), (5, .int x1), (0, .ref 0), (1, .int a1), (2, .int a2), (3, .int a3), (4, .int a4)]) dX12_thunk_180 (Nat.le_of_ble_eq_true rfl) rfl ?_
      refine r_aload_n (pc := 182) dX12_thunk_182 rfl 2 rfl ?_
      refine r_iconst (pc := 183) dX12_thunk_183 ki_4 ?_
      refine r_aload_n (pc := 184) dX12_thunk_184 rfl 2 rfl ?_
      refine r_iload (pc := 185) dX12_thunk_185 0 rfl ?_
      replace h := bn2_e h; obtain ⟨x14, w15, ew15, h⟩ := h
      refine r_cVi (pc := 187) wyX12_up oM0 rfl mlRX12_641 iyX12_up syX12_up ⟨Nat.succ_le_succ (Nat.le_trans (Nat.le_of_ble_eq_true rfl) hK), (Nat.le_of_ble_eq_true rfl)⟩ rfl rfl (Nat.le_of_ble_eq_true rfl) dX12_thunk_187 (mX12_up ew15 (pI.mk ?_))
      refine r_aload_n (pc := 190) dX12_thunk_190 rfl 2 rfl ?_
      refine r_get (pc := 191) (j := 39) (v := .ref 26) oM0 cf12 flRX12_156 rfl dX12_thunk_191 rfl ?_
      refine r_iload (pc := 194) dX12_thunk_194 0 rfl ?_
      replace h := if_n h; obtain ⟨hb16, h⟩ := h
      refine r_iald (pc := 196) aM26 (inb_in hb16) dX12_thunk_196 ?_
      refine r_iconst (pc := 197) dX12_thunk_197 ki_2 ?_
      replace h := bn2_e h; obtain ⟨x17, w18, ew18, h⟩ := h
      refine r_cVi (pc := 198) wyX12_op oM0 rfl mlRX12_609 iyX12_op syX12_op ⟨Nat.succ_le_succ (Nat.le_trans (Nat.le_of_ble_eq_true rfl) hK), (Nat.le_of_ble_eq_true rfl)⟩ rfl rfl (Nat.le_of_ble_eq_true rfl) dX12_thunk_198 (mX12_op ew18 (pI.mk ?_))
      refine r_istore (pc := 201) (loc' := [(8, .int x17), (7, .int x12), (5, .int x1), (0, .ref 0), (1, .int a1), (2, .int a2), (3, .int a3), (4, .int a4)]) dX12_thunk_201 (Nat.le_of_ble_eq_true rfl) rfl ?_
      refine r_aload_n (pc := 203) dX12_thunk_203 rfl 3 rfl ?_
      refine r_get (pc := 204) (j := 33) (v := .ref 20) oM0 cf12 flRX12_138 rfl dX12_thunk_204 rfl ?_
      refine r_iload (pc := 207) dX12_thunk_207 1 rfl ?_
      replace h := if_n h; obtain ⟨hb19, h⟩ := h
      refine r_iald (pc := 209) aM20 (inb_in hb19) dX12_thunk_209 ?_
      replace h := lt_e h; obtain ⟨x20, ex20, h⟩ := h
      refine r_topi ex20 ?_
      refine r_istore (pc := 210) (loc' := [(6, .int x20), (8, .int x17), (7, .int x12), (5, .int x1), (0, .ref 0), (1, .int a1), (2, .int a2), (3, .int a3), (4, .int a4)]) dX12_thunk_210 (Nat.le_of_ble_eq_true rfl) rfl ?_
      refine r_drop (loc' := [(0, .ref 0), (1, .int a1), (2, .int a2), (3, .int a3), (4, .int a4), (5, .int x1), (6, .int x20)]) [4, 5, 6, 7, 8, 3, 0] rfl ?_
      exact pX12_thunk_212 hS hK hN h
    replace h := if_t hc6 h
    refine r_aload_n (pc := 148) dX12_thunk_148 rfl 1 rfl ?_
    refine r_iload_n (pc := 149) dX12_thunk_149 rfl 2 rfl ?_
    refine r_iconst (pc := 150) dX12_thunk_150 ki_0 ?_
    replace h := bn2_e h; obtain ⟨x7, w8, ew8, h⟩ := h
    refine r_cVi (pc := 151) wyX12_place oM0 rfl mlRX12_694 iyX12_place syX12_place ⟨Nat.le_refl _, (Nat.le_of_ble_eq_true rfl)⟩ rfl rfl (Nat.le_of_ble_eq_true rfl) dX12_thunk_151 ((hS.2.2.2.2.2.1 _ _ _ _ _ _ _) ew8 (pI.mk ?_))
    refine r_istore (pc := 154) (loc' := [(6, .int x7), (5, .int x1), (0, .ref 0), (1, .int a1), (2, .int a2), (3, .int a3), (4, .int a4)]) dX12_thunk_154 (Nat.le_of_ble_eq_true rfl) rfl ?_
    refine r_goto (pc := 156) dX12_thunk_156 rfl ?_
    refine r_drop (loc' := [(0, .ref 0), (1, .int a1), (2, .int a2), (3, .int a3), (4, .int a4), (5, .int x1), (6, .int x7)]) [2, 3, 4, 5, 6, 1, 0] rfl ?_
    exact pX12_thunk_212 hS hK hN h
  replace h := if_t hc3 h
  refine r_aload_n (pc := 132) dX12_thunk_132 rfl 1 rfl ?_
  refine r_iload_n (pc := 133) dX12_thunk_133 rfl 2 rfl ?_
  replace h := bn2_e h; obtain ⟨x4, w5, ew5, h⟩ := h
  refine r_cVi (pc := 134) wyX12_value oM0 rfl mlRX12_607 iyX12_value syX12_value ⟨Nat.le_refl _, (Nat.le_of_ble_eq_true rfl)⟩ rfl rfl (Nat.le_of_ble_eq_true rfl) dX12_thunk_134 ((hS.2.1 _ _ _ _ _ _) ew5 (pI.mk ?_))
  refine r_istore (pc := 137) (loc' := [(6, .int x4), (5, .int x1), (0, .ref 0), (1, .int a1), (2, .int a2), (3, .int a3), (4, .int a4)]) dX12_thunk_137 (Nat.le_of_ble_eq_true rfl) rfl ?_
  refine r_goto (pc := 139) dX12_thunk_139 rfl ?_
  refine r_drop (loc' := [(0, .ref 0), (1, .int a1), (2, .int a2), (3, .int a3), (4, .int a4), (5, .int x1), (6, .int x4)]) [2, 3, 4, 5, 6, 1, 0] rfl ?_
  exact pX12_thunk_212 hS hK hN h
def fX12_thunk_101 (rc : TX12_mustBe) (a1 : Int32) (a2 : Int32) (a3 : Int32) (a4 : Bool) (a5 : Int32) (w : Wd) : Option (Int32 × Wd) :=
  if a5 < 0 then (fX12_thunk_119 rc a1 a2 a3 (b2i a4) w) else (bn2 (fX12_isFormal a5 1 w) fun x2 w3 => if x2 = true then (fX12_thunk_119 rc a1 a2 a3 2 w3) else (fX12_thunk_119 rc a1 a2 a3 (b2i a4) w3))
theorem pX12_thunk_101 {q : Gq} {l : Launch} {N : Option Value → Wd → Prop} {X : String → Wd → Prop} {rc : TX12_mustBe} {dd : Nat} (hS : HSX12_mustBe q l rc dd) (hK : 5 ≤ dd) {w : Wd} {R : Int32 × Wd} (hN : N (some (.int R.1)) R.2) {a1 : Int32} {a2 : Int32} {a3 : Int32} {a4 : Bool} {a5 : Int32} (h : fX12_thunk_101 rc a1 a2 a3 a4 a5 w = some R) : RT (GM q) l (dd + 1) yX12_thunk cX12_thunk 9 ((some .int)) N X 101 [] [(0, .ref 0), (1, .int a1), (2, .int a2), (3, .int a3), (4, .int (b2i a4)), (5, .int a5)] w := by
  unfold fX12_thunk_101 at h
  refine r_iload (pc := 101) dX12_thunk_101 5 rfl ?_
  refine r_if_lt (pc := 103) dX12_thunk_103 rfl (fun hc1 => ?_) (fun hc1 => ?_)
  · replace h := if_t hc1 h
    refine r_drop (loc' := [(0, .ref 0), (1, .int a1), (2, .int a2), (3, .int a3), (4, .int (b2i a4))]) [0, 1, 2, 3, 4] rfl ?_
    exact pX12_thunk_119 hS hK hN h
  replace h := if_f hc1 h
  refine r_aload_n (pc := 106) dX12_thunk_106 rfl 0 rfl ?_
  refine r_iload (pc := 107) dX12_thunk_107 5 rfl ?_
  refine r_iconst (pc := 109) dX12_thunk_109 ki_1 ?_
  replace h := bn2_e h; obtain ⟨x2, w3, ew3, h⟩ := h
  refine r_cVi (pc := 110) wyX12_isFormal oM0 rfl mlRX12_644 iyX12_isFormal syX12_isFormal ⟨Nat.succ_le_succ (Nat.le_trans (Nat.le_of_ble_eq_true rfl) hK), (Nat.le_of_ble_eq_true rfl)⟩ rfl rfl (Nat.le_of_ble_eq_true rfl) dX12_thunk_110 (mX12_isFormal ew3 (pI.mk ?_))
  refine r_z_eq (pc := 113) dX12_thunk_113 rfl (fun hc4 => ?_) (fun hc4 => ?_)
  · replace h := if_f hc4 h
    refine r_drop (loc' := [(0, .ref 0), (1, .int a1), (2, .int a2), (3, .int a3), (4, .int (b2i a4))]) [0, 1, 2, 3, 4] rfl ?_
    exact pX12_thunk_119 hS hK hN h
  replace h := if_t hc4 h
  refine r_iconst (pc := 116) dX12_thunk_116 ki_2 ?_
  refine r_istore (pc := 117) (loc' := [(4, .int 2), (0, .ref 0), (1, .int a1), (2, .int a2), (3, .int a3), (5, .int a5)]) dX12_thunk_117 (Nat.le_of_ble_eq_true rfl) rfl ?_
  refine r_drop (loc' := [(0, .ref 0), (1, .int a1), (2, .int a2), (3, .int a3), (4, .int 2)]) [1, 2, 3, 4, 0] rfl ?_
  exact pX12_thunk_119 hS hK hN h
def fX12_thunk_26 (rc : TX12_mustBe) (a1 : Int32) (a2 : Int32) (a3 : Int32) (a4 : Bool) (w : Wd) : Option (Int32 × Wd) :=
  if inb a1 24000 = true then if (gi w 7 (Int32.toNatClampNeg a1)) = 3 then (if inb a1 24000 = true then if inb a1 24000 = true then if inb (gi w 12 (Int32.toNatClampNeg a1)) 8194 = true then bn2 (fX12_lookUp (gi w 13 (Int32.toNatClampNeg a1)) (gl w 4 (Int32.toNatClampNeg (gi w 12 (Int32.toNatClampNeg a1)))) w) fun x6 w7 => if x6 < 0 then (fX12_thunk_101 rc a1 a2 a3 a4 x6 w7) else (if inb x6 5000 = true then if (gi w7 19 (Int32.toNatClampNeg x6)) = 1 then (fX12_thunk_119 rc a1 a2 a3 1 w7) else (bn2 (fX12_isFormal x6 1 w7) fun x11 w12 => if x11 = true then (if inb x6 5000 = true then if (gi w12 28 (Int32.toNatClampNeg x6)) = 0 then (fX12_thunk_101 rc a1 a2 a3 a4 x6 w12) else (fX12_thunk_119 rc a1 a2 a3 1 w12) else none) else (fX12_thunk_101 rc a1 a2 a3 a4 x6 w12)) else none) else none else none else none) else (fX12_thunk_119 rc a1 a2 a3 (b2i a4) w) else none
theorem pX12_thunk_26 {q : Gq} {l : Launch} {N : Option Value → Wd → Prop} {X : String → Wd → Prop} {rc : TX12_mustBe} {dd : Nat} (hS : HSX12_mustBe q l rc dd) (hK : 5 ≤ dd) {w : Wd} {R : Int32 × Wd} (hN : N (some (.int R.1)) R.2) {a1 : Int32} {a2 : Int32} {a3 : Int32} {a4 : Bool} (h : fX12_thunk_26 rc a1 a2 a3 a4 w = some R) : RT (GM q) l (dd + 1) yX12_thunk cX12_thunk 9 ((some .int)) N X 26 [] [(0, .ref 0), (1, .int a1), (2, .int a2), (3, .int a3), (4, .int (b2i a4))] w := by
  unfold fX12_thunk_26 at h
  refine r_aload_n (pc := 26) dX12_thunk_26 rfl 0 rfl ?_
  refine r_get (pc := 27) (j := 16) (v := .ref 7) oM0 cf12 flRX12_99 rfl dX12_thunk_27 rfl ?_
  refine r_iload_n (pc := 30) dX12_thunk_30 rfl 1 rfl ?_
  replace h := if_n h; obtain ⟨hb1, h⟩ := h
  refine r_iald (pc := 31) aM7 (inb_in hb1) dX12_thunk_31 ?_
  refine r_iconst (pc := 32) dX12_thunk_32 ki_3 ?_
  refine r_icmp_ne (pc := 33) dX12_thunk_33 rfl (fun hc2 => ?_) (fun hc2 => ?_)
  · replace h := if_f hc2 h
    exact pX12_thunk_119 hS hK hN h
  replace h := if_t hc2 h
  refine r_aload_n (pc := 36) dX12_thunk_36 rfl 0 rfl ?_
  refine r_aload_n (pc := 37) dX12_thunk_37 rfl 0 rfl ?_
  refine r_get (pc := 38) (j := 22) (v := .ref 13) oM0 cf12 flRX12_117 rfl dX12_thunk_38 rfl ?_
  refine r_iload_n (pc := 41) dX12_thunk_41 rfl 1 rfl ?_
  replace h := if_n h; obtain ⟨hb3, h⟩ := h
  refine r_iald (pc := 42) aM13 (inb_in hb3) dX12_thunk_42 ?_
  refine r_aload_n (pc := 43) dX12_thunk_43 rfl 0 rfl ?_
  refine r_get (pc := 44) (j := 5) (v := .ref 4) oM0 cf12 flRX12_20 rfl dX12_thunk_44 rfl ?_
  refine r_aload_n (pc := 47) dX12_thunk_47 rfl 0 rfl ?_
  refine r_get (pc := 48) (j := 21) (v := .ref 12) oM0 cf12 flRX12_114 rfl dX12_thunk_48 rfl ?_
  refine r_iload_n (pc := 51) dX12_thunk_51 rfl 1 rfl ?_
  replace h := if_n h; obtain ⟨hb4, h⟩ := h
  refine r_iald (pc := 52) aM12 (inb_in hb4) dX12_thunk_52 ?_
  replace h := if_n h; obtain ⟨hb5, h⟩ := h
  refine r_lald (pc := 53) aM4 (inb_in hb5) dX12_thunk_53 ?_
  replace h := bn2_e h; obtain ⟨x6, w7, ew7, h⟩ := h
  refine r_cVi (pc := 54) wyX12_lookUp oM0 rfl mlRX12_604 iyX12_lookUp syX12_lookUp ⟨Nat.succ_le_succ (Nat.le_trans (Nat.le_of_ble_eq_true rfl) hK), (Nat.le_of_ble_eq_true rfl)⟩ rfl rfl (Nat.le_of_ble_eq_true rfl) dX12_thunk_54 (mX12_lookUp ew7 (pI.mk ?_))
  refine r_istore (pc := 57) (loc' := [(5, .int x6), (0, .ref 0), (1, .int a1), (2, .int a2), (3, .int a3), (4, .int (b2i a4))]) dX12_thunk_57 (Nat.le_of_ble_eq_true rfl) rfl ?_
  refine r_iload (pc := 59) dX12_thunk_59 0 rfl ?_
  refine r_if_lt (pc := 61) dX12_thunk_61 rfl (fun hc8 => ?_) (fun hc8 => ?_)
  · replace h := if_t hc8 h
    refine r_drop (loc' := [(0, .ref 0), (1, .int a1), (2, .int a2), (3, .int a3), (4, .int (b2i a4)), (5, .int x6)]) [1, 2, 3, 4, 5, 0] rfl ?_
    exact pX12_thunk_101 hS hK hN h
  replace h := if_f hc8 h
  refine r_aload_n (pc := 64) dX12_thunk_64 rfl 1 rfl ?_
  refine r_get (pc := 65) (j := 32) (v := .ref 19) oM0 cf12 flRX12_135 rfl dX12_thunk_65 rfl ?_
  refine r_iload (pc := 68) dX12_thunk_68 0 rfl ?_
  replace h := if_n h; obtain ⟨hb9, h⟩ := h
  refine r_iald (pc := 70) aM19 (inb_in hb9) dX12_thunk_70 ?_
  refine r_iconst (pc := 71) dX12_thunk_71 ki_1 ?_
  refine r_icmp_eq (pc := 72) dX12_thunk_72 rfl (fun hc10 => ?_) (fun hc10 => ?_)
  · replace h := if_t hc10 h
    refine r_iconst (pc := 95) dX12_thunk_95 ki_1 ?_
    refine r_istore (pc := 96) (loc' := [(4, .int 1), (5, .int x6), (0, .ref 0), (1, .int a1), (2, .int a2), (3, .int a3)]) dX12_thunk_96 (Nat.le_of_ble_eq_true rfl) rfl ?_
    refine r_goto (pc := 98) dX12_thunk_98 rfl ?_
    refine r_drop (loc' := [(0, .ref 0), (1, .int a1), (2, .int a2), (3, .int a3), (4, .int 1)]) [2, 3, 4, 5, 0] rfl ?_
    exact pX12_thunk_119 hS hK hN h
  replace h := if_f hc10 h
  refine r_aload_n (pc := 75) dX12_thunk_75 rfl 1 rfl ?_
  refine r_iload (pc := 76) dX12_thunk_76 0 rfl ?_
  refine r_iconst (pc := 78) dX12_thunk_78 ki_1 ?_
  replace h := bn2_e h; obtain ⟨x11, w12, ew12, h⟩ := h
  refine r_cVi (pc := 79) wyX12_isFormal oM0 rfl mlRX12_644 iyX12_isFormal syX12_isFormal ⟨Nat.succ_le_succ (Nat.le_trans (Nat.le_of_ble_eq_true rfl) hK), (Nat.le_of_ble_eq_true rfl)⟩ rfl rfl (Nat.le_of_ble_eq_true rfl) dX12_thunk_79 (mX12_isFormal ew12 (pI.mk ?_))
  refine r_z_eq (pc := 82) dX12_thunk_82 rfl (fun hc13 => ?_) (fun hc13 => ?_)
  · replace h := if_f hc13 h
    refine r_drop (loc' := [(0, .ref 0), (1, .int a1), (2, .int a2), (3, .int a3), (4, .int (b2i a4)), (5, .int x6)]) [1, 2, 3, 4, 5, 0] rfl ?_
    exact pX12_thunk_101 hS hK hN h
  replace h := if_t hc13 h
  refine r_aload_n (pc := 85) dX12_thunk_85 rfl 1 rfl ?_
  refine r_get (pc := 86) (j := 41) (v := .ref 28) oM0 cf12 flRX12_163 rfl dX12_thunk_86 rfl ?_
  refine r_iload (pc := 89) dX12_thunk_89 0 rfl ?_
  replace h := if_n h; obtain ⟨hb14, h⟩ := h
  refine r_zald (pc := 91) aM28 (inb_in hb14) dX12_thunk_91 ?_
  refine r_if_eq (pc := 92) dX12_thunk_92 rfl (fun hc15 => ?_) (fun hc15 => ?_)
  · replace h := if_t hc15 h
    refine r_drop (loc' := [(0, .ref 0), (1, .int a1), (2, .int a2), (3, .int a3), (4, .int (b2i a4)), (5, .int x6)]) [1, 2, 3, 4, 5, 0] rfl ?_
    exact pX12_thunk_101 hS hK hN h
  replace h := if_f hc15 h
  refine r_iconst (pc := 95) dX12_thunk_95 ki_1 ?_
  refine r_istore (pc := 96) (loc' := [(4, .int 1), (5, .int x6), (0, .ref 0), (1, .int a1), (2, .int a2), (3, .int a3)]) dX12_thunk_96 (Nat.le_of_ble_eq_true rfl) rfl ?_
  refine r_goto (pc := 98) dX12_thunk_98 rfl ?_
  refine r_drop (loc' := [(0, .ref 0), (1, .int a1), (2, .int a2), (3, .int a3), (4, .int 1)]) [2, 3, 4, 5, 0] rfl ?_
  exact pX12_thunk_119 hS hK hN h
def fX12_thunk (rc : TX12_mustBe) (a1 : Int32) (a2 : Int32) (w : Wd) : Option (Int32 × Wd) :=
  bn2 (fX12_op 10 0 0 0 w) fun x1 w2 => if inb a1 24000 = true then if (gi w2 7 (Int32.toNatClampNeg a1)) = 4 then (fX12_thunk_26 rc a1 a2 x1 true w2) else (fX12_thunk_26 rc a1 a2 x1 false w2) else none
theorem pX12_thunk {q : Gq} {l : Launch} {N : Option Value → Wd → Prop} {X : String → Wd → Prop} {rc : TX12_mustBe} {dd : Nat} (hS : HSX12_mustBe q l rc dd) (hK : 5 ≤ dd) {w : Wd} {R : Int32 × Wd} (hN : N (some (.int R.1)) R.2) {a1 : Int32} {a2 : Int32} (h : fX12_thunk rc a1 a2 w = some R) : RT (GM q) l (dd + 1) yX12_thunk cX12_thunk 9 ((some .int)) N X 0 [] [(0, .ref 0), (1, .int a1), (2, .int a2)] w := by
  unfold fX12_thunk at h
  refine r_aload_n (pc := 0) dX12_thunk_0 rfl 0 rfl ?_
  refine r_bipush (pc := 1) dX12_thunk_1 kb_10 ?_
  refine r_iconst (pc := 3) dX12_thunk_3 ki_0 ?_
  refine r_iconst (pc := 4) dX12_thunk_4 ki_0 ?_
  refine r_iconst (pc := 5) dX12_thunk_5 ki_0 ?_
  replace h := bn2_e h; obtain ⟨x1, w2, ew2, h⟩ := h
  refine r_cVi (pc := 6) wyX12_op oM0 rfl mlRX12_609 iyX12_op syX12_op ⟨Nat.succ_le_succ (Nat.le_trans (Nat.le_of_ble_eq_true rfl) hK), (Nat.le_of_ble_eq_true rfl)⟩ rfl rfl (Nat.le_of_ble_eq_true rfl) dX12_thunk_6 (mX12_op ew2 (pI.mk ?_))
  refine r_istore_n (pc := 9) (loc' := [(3, .int x1), (0, .ref 0), (1, .int a1), (2, .int a2)]) dX12_thunk_9 rfl (Nat.le_of_ble_eq_true rfl) rfl ?_
  refine r_iconst (pc := 10) dX12_thunk_10 ki_0 ?_
  refine r_istore (pc := 11) (loc' := [(4, .int 0), (3, .int x1), (0, .ref 0), (1, .int a1), (2, .int a2)]) dX12_thunk_11 (Nat.le_of_ble_eq_true rfl) rfl ?_
  refine r_aload_n (pc := 13) dX12_thunk_13 rfl 2 rfl ?_
  refine r_get (pc := 14) (j := 16) (v := .ref 7) oM0 cf12 flRX12_99 rfl dX12_thunk_14 rfl ?_
  refine r_iload_n (pc := 17) dX12_thunk_17 rfl 3 rfl ?_
  replace h := if_n h; obtain ⟨hb3, h⟩ := h
  refine r_iald (pc := 18) aM7 (inb_in hb3) dX12_thunk_18 ?_
  refine r_iconst (pc := 19) dX12_thunk_19 ki_4 ?_
  refine r_icmp_ne (pc := 20) dX12_thunk_20 rfl (fun hc4 => ?_) (fun hc4 => ?_)
  · replace h := if_f hc4 h
    refine r_drop (loc' := [(0, .ref 0), (1, .int a1), (2, .int a2), (3, .int x1), (4, .int 0)]) [2, 3, 4, 1, 0] rfl ?_
    exact pX12_thunk_26 hS hK hN h
  replace h := if_t hc4 h
  refine r_iconst (pc := 23) dX12_thunk_23 ki_1 ?_
  refine r_istore (pc := 24) (loc' := [(4, .int 1), (3, .int x1), (0, .ref 0), (1, .int a1), (2, .int a2)]) dX12_thunk_24 (Nat.le_of_ble_eq_true rfl) rfl ?_
  refine r_drop (loc' := [(0, .ref 0), (1, .int a1), (2, .int a2), (3, .int x1), (4, .int 1)]) [2, 3, 4, 1, 0] rfl ?_
  exact pX12_thunk_26 hS hK hN h
/-! AlgolMillModel.actual (III)V: O, 1705 -/
theorem dX12_actual_0 : decode cX12_actual 0 = .ok (.aload_n 0, 1) := by decide +kernel
theorem dX12_actual_1 : decode cX12_actual 1 = .ok (.getfield 150, 3) := by decide +kernel
theorem dX12_actual_4 : decode cX12_actual 4 = .ok (.iload_n 2, 1) := by decide +kernel
theorem dX12_actual_5 : decode cX12_actual 5 = .ok (.iaload, 1) := by decide +kernel
theorem dX12_actual_6 : decode cX12_actual 6 = .ok (.tableswitch 121 0 4 #[115, 34, 121, 121, 59], 34) := by decide +kernel
theorem dX12_actual_40 : decode cX12_actual 40 = .ok (.aload_n 0, 1) := by decide +kernel
theorem dX12_actual_41 : decode cX12_actual 41 = .ok (.getfield 236, 3) := by decide +kernel
theorem dX12_actual_44 : decode cX12_actual 44 = .ok (.iload_n 3, 1) := by decide +kernel
theorem dX12_actual_45 : decode cX12_actual 45 = .ok (.iconst 1, 1) := by decide +kernel
theorem dX12_actual_46 : decode cX12_actual 46 = .ok (.iastore, 1) := by decide +kernel
theorem dX12_actual_47 : decode cX12_actual 47 = .ok (.aload_n 0, 1) := by decide +kernel
theorem dX12_actual_48 : decode cX12_actual 48 = .ok (.getfield 239, 3) := by decide +kernel
theorem dX12_actual_51 : decode cX12_actual 51 = .ok (.iload_n 3, 1) := by decide +kernel
theorem dX12_actual_52 : decode cX12_actual 52 = .ok (.aload_n 0, 1) := by decide +kernel
theorem dX12_actual_53 : decode cX12_actual 53 = .ok (.iload_n 1, 1) := by decide +kernel
theorem dX12_actual_54 : decode cX12_actual 54 = .ok (.aload_n 0, 1) := by decide +kernel
theorem dX12_actual_55 : decode cX12_actual 55 = .ok (.getfield 138, 3) := by decide +kernel
theorem dX12_actual_58 : decode cX12_actual 58 = .ok (.iload_n 2, 1) := by decide +kernel
theorem dX12_actual_59 : decode cX12_actual 59 = .ok (.iaload, 1) := by decide +kernel
theorem dX12_actual_60 : decode cX12_actual 60 = .ok (.invokevirtual 682, 3) := by decide +kernel
theorem dX12_actual_63 : decode cX12_actual 63 = .ok (.iastore, 1) := by decide +kernel
theorem dX12_actual_64 : decode cX12_actual 64 = .ok (.return_, 1) := by decide +kernel
theorem dX12_actual_65 : decode cX12_actual 65 = .ok (.aload_n 0, 1) := by decide +kernel
theorem dX12_actual_66 : decode cX12_actual 66 = .ok (.bipush 10, 2) := by decide +kernel
theorem dX12_actual_68 : decode cX12_actual 68 = .ok (.iconst 0, 1) := by decide +kernel
theorem dX12_actual_69 : decode cX12_actual 69 = .ok (.iconst 0, 1) := by decide +kernel
theorem dX12_actual_70 : decode cX12_actual 70 = .ok (.iconst 0, 1) := by decide +kernel
theorem dX12_actual_71 : decode cX12_actual 71 = .ok (.invokevirtual 609, 3) := by decide +kernel
theorem dX12_actual_74 : decode cX12_actual 74 = .ok (.istore 4, 2) := by decide +kernel
theorem dX12_actual_76 : decode cX12_actual 76 = .ok (.aload_n 0, 1) := by decide +kernel
theorem dX12_actual_77 : decode cX12_actual 77 = .ok (.iconst 0, 1) := by decide +kernel
theorem dX12_actual_78 : decode cX12_actual 78 = .ok (.invokevirtual 685, 3) := by decide +kernel
theorem dX12_actual_81 : decode cX12_actual 81 = .ok (.istore 5, 2) := by decide +kernel
theorem dX12_actual_83 : decode cX12_actual 83 = .ok (.aload_n 0, 1) := by decide +kernel
theorem dX12_actual_84 : decode cX12_actual 84 = .ok (.iload_n 1, 1) := by decide +kernel
theorem dX12_actual_85 : decode cX12_actual 85 = .ok (.invokevirtual 670, 3) := by decide +kernel
theorem dX12_actual_88 : decode cX12_actual 88 = .ok (.aload_n 0, 1) := by decide +kernel
theorem dX12_actual_89 : decode cX12_actual 89 = .ok (.bipush 17, 2) := by decide +kernel
theorem dX12_actual_91 : decode cX12_actual 91 = .ok (.iconst 0, 1) := by decide +kernel
theorem dX12_actual_92 : decode cX12_actual 92 = .ok (.iconst 0, 1) := by decide +kernel
theorem dX12_actual_93 : decode cX12_actual 93 = .ok (.iconst 0, 1) := by decide +kernel
theorem dX12_actual_94 : decode cX12_actual 94 = .ok (.invokevirtual 609, 3) := by decide +kernel
theorem dX12_actual_97 : decode cX12_actual 97 = .ok (.istore 6, 2) := by decide +kernel
theorem dX12_actual_99 : decode cX12_actual 99 = .ok (.aload_n 0, 1) := by decide +kernel
theorem dX12_actual_100 : decode cX12_actual 100 = .ok (.iload 4, 2) := by decide +kernel
theorem dX12_actual_102 : decode cX12_actual 102 = .ok (.invokevirtual 625, 3) := by decide +kernel
theorem dX12_actual_105 : decode cX12_actual 105 = .ok (.aload_n 0, 1) := by decide +kernel
theorem dX12_actual_106 : decode cX12_actual 106 = .ok (.getfield 236, 3) := by decide +kernel
theorem dX12_actual_109 : decode cX12_actual 109 = .ok (.iload_n 3, 1) := by decide +kernel
theorem dX12_actual_110 : decode cX12_actual 110 = .ok (.iconst 4, 1) := by decide +kernel
theorem dX12_actual_111 : decode cX12_actual 111 = .ok (.iastore, 1) := by decide +kernel
theorem dX12_actual_112 : decode cX12_actual 112 = .ok (.aload_n 0, 1) := by decide +kernel
theorem dX12_actual_113 : decode cX12_actual 113 = .ok (.getfield 239, 3) := by decide +kernel
theorem dX12_actual_116 : decode cX12_actual 116 = .ok (.iload_n 3, 1) := by decide +kernel
theorem dX12_actual_117 : decode cX12_actual 117 = .ok (.iload 5, 2) := by decide +kernel
theorem dX12_actual_119 : decode cX12_actual 119 = .ok (.iastore, 1) := by decide +kernel
theorem dX12_actual_120 : decode cX12_actual 120 = .ok (.return_, 1) := by decide +kernel
theorem dX12_actual_121 : decode cX12_actual 121 = .ok (.aload_n 0, 1) := by decide +kernel
theorem dX12_actual_122 : decode cX12_actual 122 = .ok (.iload_n 1, 1) := by decide +kernel
theorem dX12_actual_123 : decode cX12_actual 123 = .ok (.invokevirtual 673, 3) := by decide +kernel
theorem dX12_actual_126 : decode cX12_actual 126 = .ok (.return_, 1) := by decide +kernel
theorem dX12_actual_127 : decode cX12_actual 127 = .ok (.aload_n 0, 1) := by decide +kernel
theorem dX12_actual_128 : decode cX12_actual 128 = .ok (.iload_n 1, 1) := by decide +kernel
theorem dX12_actual_129 : decode cX12_actual 129 = .ok (.iload_n 2, 1) := by decide +kernel
theorem dX12_actual_130 : decode cX12_actual 130 = .ok (.iload_n 3, 1) := by decide +kernel
theorem dX12_actual_131 : decode cX12_actual 131 = .ok (.invokevirtual 688, 3) := by decide +kernel
theorem dX12_actual_134 : decode cX12_actual 134 = .ok (.return_, 1) := by decide +kernel
def fX12_actual (rc : TX12_mustBe) (a1 : Int32) (a2 : Int32) (a3 : Int32) (w : Wd) : Option (Int32 × Wd) :=
  if inb a2 5000 = true then lt ((gi w 24 (Int32.toNatClampNeg a2))) fun x2 => if x2 = 0 then (bn2 (rc 8 a1 0 0 w) fun _ w5 => some (0, w5)) else if x2 = 1 then (if inb a3 6000 = true then lt (si w 52 (Int32.toNatClampNeg a3) 1) fun w8 => if inb a2 5000 = true then bn2 (rc 11 a1 (gi w8 20 (Int32.toNatClampNeg a2)) 0 w8) fun x10 w11 => if inb a3 6000 = true then lt (si w11 53 (Int32.toNatClampNeg a3) x10) fun w13 => some (0, w13) else none else none else none) else if x2 = 4 then (bn2 (fX12_op 10 0 0 0 w) fun x15 w16 => bn2 (fX12_newThunk 0 w16) fun x17 w18 => bn2 (rc 6 a1 0 0 w18) fun _ w20 => bn2 (fX12_op 17 0 0 0 w20) fun x21 w22 => bn (fX12_patch x15 w22) fun w23 => if inb a3 6000 = true then lt (si w23 52 (Int32.toNatClampNeg a3) 4) fun w25 => if inb a3 6000 = true then lt (si w25 53 (Int32.toNatClampNeg a3) x17) fun w27 => some (0, w27) else none else none) else (bn2 (rc 12 a1 a2 a3 w) fun _ w29 => some (0, w29)) else none
set_option maxHeartbeats 16000000 in
theorem pX12_actual {q : Gq} {l : Launch} {N : Option Value → Wd → Prop} {X : String → Wd → Prop} {rc : TX12_mustBe} {dd : Nat} (hS : HSX12_mustBe q l rc dd) (hK : 5 ≤ dd) {w : Wd} {R : Int32 × Wd} (hN : N none R.2) {a1 : Int32} {a2 : Int32} {a3 : Int32} (h : fX12_actual rc a1 a2 a3 w = some R) : RT (GM q) l (dd + 1) yX12_actual cX12_actual 7 (none) N X 0 [] [(0, .ref 0), (1, .int a1), (2, .int a2), (3, .int a3)] w := by
  unfold fX12_actual at h
  refine r_aload_n (pc := 0) dX12_actual_0 rfl 0 rfl ?_
  refine r_get (pc := 1) (j := 37) (v := .ref 24) oM0 cf12 flRX12_150 rfl dX12_actual_1 rfl ?_
  refine r_iload_n (pc := 4) dX12_actual_4 rfl 2 rfl ?_
  replace h := if_n h; obtain ⟨hb1, h⟩ := h
  refine r_iald (pc := 5) aM24 (inb_in hb1) dX12_actual_5 ?_
  replace h := lt_e h; obtain ⟨x2, ex2, h⟩ := h
  refine r_topi ex2 ?_
  by_cases hc3 : x2 = 0
  · refine r_tabC (pc := 6) (off := 115) (tgt := 121) (L := [0]) dX12_actual_6 hc3 (by decide) rfl ?_
    replace h := if_t hc3 h
    refine r_aload_n (pc := 121) dX12_actual_121 rfl 0 rfl ?_
    refine r_iload_n (pc := 122) dX12_actual_122 rfl 1 rfl ?_
    replace h := bn2_e h; obtain ⟨x4, w5, ew5, h⟩ := h
    refine r_cVv (pc := 123) wyX12_loose oM0 rfl mlRX12_673 iyX12_loose syX12_loose ⟨Nat.le_refl _, (Nat.le_of_ble_eq_true rfl)⟩ rfl rfl (Nat.le_of_ble_eq_true rfl) dX12_actual_123 ((hS.2.2.2.2.2.2.2.2.1 _ _ _ _ _ _) ew5 (pV.mk ?_))
    exact rOR_v (pc := 126) rfl dX12_actual_126 h hN
  replace h := if_f hc3 h
  by_cases hc6 : x2 = 1
  · refine r_tabC (pc := 6) (off := 34) (tgt := 40) (L := [1]) dX12_actual_6 hc6 (by decide) rfl ?_
    replace h := if_t hc6 h
    refine r_aload_n (pc := 40) dX12_actual_40 rfl 0 rfl ?_
    refine r_get (pc := 41) (j := 74) (v := .ref 52) oM0 cf12 flRX12_236 rfl dX12_actual_41 rfl ?_
    refine r_iload_n (pc := 44) dX12_actual_44 rfl 3 rfl ?_
    refine r_iconst (pc := 45) dX12_actual_45 ki_1 ?_
    replace h := if_n h; obtain ⟨hb7, h⟩ := h
    replace h := lt_e h; obtain ⟨w8, ew8, h⟩ := h
    refine r_iast (pc := 46) aM52 (inb_in hb7) dX12_actual_46 ?_
    refine r_w ew8 ?_
    refine r_aload_n (pc := 47) dX12_actual_47 rfl 0 rfl ?_
    refine r_get (pc := 48) (j := 75) (v := .ref 53) oM0 cf12 flRX12_239 rfl dX12_actual_48 rfl ?_
    refine r_iload_n (pc := 51) dX12_actual_51 rfl 3 rfl ?_
    refine r_aload_n (pc := 52) dX12_actual_52 rfl 0 rfl ?_
    refine r_iload_n (pc := 53) dX12_actual_53 rfl 1 rfl ?_
    refine r_aload_n (pc := 54) dX12_actual_54 rfl 0 rfl ?_
    refine r_get (pc := 55) (j := 33) (v := .ref 20) oM0 cf12 flRX12_138 rfl dX12_actual_55 rfl ?_
    refine r_iload_n (pc := 58) dX12_actual_58 rfl 2 rfl ?_
    replace h := if_n h; obtain ⟨hb9, h⟩ := h
    refine r_iald (pc := 59) aM20 (inb_in hb9) dX12_actual_59 ?_
    replace h := bn2_e h; obtain ⟨x10, w11, ew11, h⟩ := h
    refine r_cVi (pc := 60) wyX12_thunk oM0 rfl mlRX12_682 iyX12_thunk syX12_thunk ⟨Nat.le_refl _, (Nat.le_of_ble_eq_true rfl)⟩ rfl rfl (Nat.le_of_ble_eq_true rfl) dX12_actual_60 ((hS.2.2.2.2.2.2.2.2.2.2.2.1 _ _ _ _ _ _ _) ew11 (pI.mk ?_))
    replace h := if_n h; obtain ⟨hb12, h⟩ := h
    replace h := lt_e h; obtain ⟨w13, ew13, h⟩ := h
    refine r_iast (pc := 63) aM53 (inb_in hb12) dX12_actual_63 ?_
    refine r_w ew13 ?_
    exact rOR_v (pc := 64) rfl dX12_actual_64 h hN
  replace h := if_f hc6 h
  by_cases hc14 : x2 = 4
  · refine r_tabC (pc := 6) (off := 59) (tgt := 65) (L := [4]) dX12_actual_6 hc14 (by decide) rfl ?_
    replace h := if_t hc14 h
    refine r_aload_n (pc := 65) dX12_actual_65 rfl 0 rfl ?_
    refine r_bipush (pc := 66) dX12_actual_66 kb_10 ?_
    refine r_iconst (pc := 68) dX12_actual_68 ki_0 ?_
    refine r_iconst (pc := 69) dX12_actual_69 ki_0 ?_
    refine r_iconst (pc := 70) dX12_actual_70 ki_0 ?_
    replace h := bn2_e h; obtain ⟨x15, w16, ew16, h⟩ := h
    refine r_cVi (pc := 71) wyX12_op oM0 rfl mlRX12_609 iyX12_op syX12_op ⟨Nat.succ_le_succ (Nat.le_trans (Nat.le_of_ble_eq_true rfl) hK), (Nat.le_of_ble_eq_true rfl)⟩ rfl rfl (Nat.le_of_ble_eq_true rfl) dX12_actual_71 (mX12_op ew16 (pI.mk ?_))
    refine r_istore (pc := 74) (loc' := [(4, .int x15), (0, .ref 0), (1, .int a1), (2, .int a2), (3, .int a3)]) dX12_actual_74 (Nat.le_of_ble_eq_true rfl) rfl ?_
    refine r_aload_n (pc := 76) dX12_actual_76 rfl 1 rfl ?_
    refine r_iconst (pc := 77) dX12_actual_77 ki_0 ?_
    replace h := bn2_e h; obtain ⟨x17, w18, ew18, h⟩ := h
    refine r_cVi (pc := 78) wyX12_newThunk oM0 rfl mlRX12_685 iyX12_newThunk syX12_newThunk ⟨Nat.succ_le_succ (Nat.le_trans (Nat.le_of_ble_eq_true rfl) hK), (Nat.le_of_ble_eq_true rfl)⟩ rfl rfl (Nat.le_of_ble_eq_true rfl) dX12_actual_78 (mX12_newThunk ew18 (pI.mk ?_))
    refine r_istore (pc := 81) (loc' := [(5, .int x17), (4, .int x15), (0, .ref 0), (1, .int a1), (2, .int a2), (3, .int a3)]) dX12_actual_81 (Nat.le_of_ble_eq_true rfl) rfl ?_
    refine r_aload_n (pc := 83) dX12_actual_83 rfl 2 rfl ?_
    refine r_iload_n (pc := 84) dX12_actual_84 rfl 3 rfl ?_
    replace h := bn2_e h; obtain ⟨x19, w20, ew20, h⟩ := h
    refine r_cVv (pc := 85) wyX12_aimCode oM0 rfl mlRX12_670 iyX12_aimCode syX12_aimCode ⟨Nat.le_refl _, (Nat.le_of_ble_eq_true rfl)⟩ rfl rfl (Nat.le_of_ble_eq_true rfl) dX12_actual_85 ((hS.2.2.2.2.2.2.1 _ _ _ _ _ _) ew20 (pV.mk ?_))
    refine r_aload_n (pc := 88) dX12_actual_88 rfl 2 rfl ?_
    refine r_bipush (pc := 89) dX12_actual_89 kb_17 ?_
    refine r_iconst (pc := 91) dX12_actual_91 ki_0 ?_
    refine r_iconst (pc := 92) dX12_actual_92 ki_0 ?_
    refine r_iconst (pc := 93) dX12_actual_93 ki_0 ?_
    replace h := bn2_e h; obtain ⟨x21, w22, ew22, h⟩ := h
    refine r_cVi (pc := 94) wyX12_op oM0 rfl mlRX12_609 iyX12_op syX12_op ⟨Nat.succ_le_succ (Nat.le_trans (Nat.le_of_ble_eq_true rfl) hK), (Nat.le_of_ble_eq_true rfl)⟩ rfl rfl (Nat.le_of_ble_eq_true rfl) dX12_actual_94 (mX12_op ew22 (pI.mk ?_))
    refine r_istore (pc := 97) (loc' := [(6, .int x21), (5, .int x17), (4, .int x15), (0, .ref 0), (1, .int a1), (2, .int a2), (3, .int a3)]) dX12_actual_97 (Nat.le_of_ble_eq_true rfl) rfl ?_
    refine r_aload_n (pc := 99) dX12_actual_99 rfl 3 rfl ?_
    refine r_iload (pc := 100) dX12_actual_100 2 rfl ?_
    replace h := bn_e h; obtain ⟨w23, ew23, h⟩ := h
    refine r_cVv (pc := 102) wyX12_patch oM0 rfl mlRX12_625 iyX12_patch syX12_patch ⟨Nat.succ_le_succ (Nat.le_trans (Nat.le_of_ble_eq_true rfl) hK), (Nat.le_of_ble_eq_true rfl)⟩ rfl rfl (Nat.le_of_ble_eq_true rfl) dX12_actual_102 (mX12_patch ew23 (pV.mk ?_))
    refine r_aload_n (pc := 105) dX12_actual_105 rfl 3 rfl ?_
    refine r_get (pc := 106) (j := 74) (v := .ref 52) oM0 cf12 flRX12_236 rfl dX12_actual_106 rfl ?_
    refine r_iload_n (pc := 109) dX12_actual_109 rfl 6 rfl ?_
    refine r_iconst (pc := 110) dX12_actual_110 ki_4 ?_
    replace h := if_n h; obtain ⟨hb24, h⟩ := h
    replace h := lt_e h; obtain ⟨w25, ew25, h⟩ := h
    refine r_iast (pc := 111) aM52 (inb_in hb24) dX12_actual_111 ?_
    refine r_w ew25 ?_
    refine r_aload_n (pc := 112) dX12_actual_112 rfl 3 rfl ?_
    refine r_get (pc := 113) (j := 75) (v := .ref 53) oM0 cf12 flRX12_239 rfl dX12_actual_113 rfl ?_
    refine r_iload_n (pc := 116) dX12_actual_116 rfl 6 rfl ?_
    refine r_iload (pc := 117) dX12_actual_117 1 rfl ?_
    replace h := if_n h; obtain ⟨hb26, h⟩ := h
    replace h := lt_e h; obtain ⟨w27, ew27, h⟩ := h
    refine r_iast (pc := 119) aM53 (inb_in hb26) dX12_actual_119 ?_
    refine r_w ew27 ?_
    exact rOR_v (pc := 120) rfl dX12_actual_120 h hN
  replace h := if_f hc14 h
  refine r_tabD (pc := 6) (tgt := 127) (K := [[0], [1], [4]]) dX12_actual_6 ⟨hc3, hc6, hc14, trivial⟩ (by decide) (by decide) rfl ?_
  refine r_aload_n (pc := 127) dX12_actual_127 rfl 0 rfl ?_
  refine r_iload_n (pc := 128) dX12_actual_128 rfl 1 rfl ?_
  refine r_iload_n (pc := 129) dX12_actual_129 rfl 2 rfl ?_
  refine r_iload_n (pc := 130) dX12_actual_130 rfl 3 rfl ?_
  replace h := bn2_e h; obtain ⟨x28, w29, ew29, h⟩ := h
  refine r_cVv (pc := 131) wyX12_byName oM0 rfl mlRX12_688 iyX12_byName syX12_byName ⟨Nat.le_refl _, (Nat.le_of_ble_eq_true rfl)⟩ rfl rfl (Nat.le_of_ble_eq_true rfl) dX12_actual_131 ((hS.2.2.2.2.2.2.2.2.2.2.2.2 _ _ _ _ _ _ _ _) ew29 (pV.mk ?_))
  exact rOR_v (pc := 134) rfl dX12_actual_134 h hN
/-! AlgolMillModel.called (IZ)I: O, 1705 -/
theorem dX12_called_0 : decode cX12_called 0 = .ok (.aload_n 0, 1) := by decide +kernel
theorem dX12_called_1 : decode cX12_called 1 = .ok (.iload_n 1, 1) := by decide +kernel
theorem dX12_called_2 : decode cX12_called 2 = .ok (.invokevirtual 638, 3) := by decide +kernel
theorem dX12_called_5 : decode cX12_called 5 = .ok (.istore_n 3, 1) := by decide +kernel
theorem dX12_called_6 : decode cX12_called 6 = .ok (.iload_n 3, 1) := by decide +kernel
theorem dX12_called_7 : decode cX12_called 7 = .ok (.ifCond .lt 13, 3) := by decide +kernel
theorem dX12_called_10 : decode cX12_called 10 = .ok (.aload_n 0, 1) := by decide +kernel
theorem dX12_called_11 : decode cX12_called 11 = .ok (.getfield 135, 3) := by decide +kernel
theorem dX12_called_14 : decode cX12_called 14 = .ok (.iload_n 3, 1) := by decide +kernel
theorem dX12_called_15 : decode cX12_called 15 = .ok (.iaload, 1) := by decide +kernel
theorem dX12_called_16 : decode cX12_called 16 = .ok (.iconst 3, 1) := by decide +kernel
theorem dX12_called_17 : decode cX12_called 17 = .ok (.if_icmp .eq 117, 3) := by decide +kernel
theorem dX12_called_20 : decode cX12_called 20 = .ok (.aload_n 0, 1) := by decide +kernel
theorem dX12_called_21 : decode cX12_called 21 = .ok (.getfield 102, 3) := by decide +kernel
theorem dX12_called_24 : decode cX12_called 24 = .ok (.iload_n 1, 1) := by decide +kernel
theorem dX12_called_25 : decode cX12_called 25 = .ok (.iaload, 1) := by decide +kernel
theorem dX12_called_26 : decode cX12_called 26 = .ok (.istore 5, 2) := by decide +kernel
theorem dX12_called_28 : decode cX12_called 28 = .ok (.iload 5, 2) := by decide +kernel
theorem dX12_called_30 : decode cX12_called 30 = .ok (.ifCond .lt 21, 3) := by decide +kernel
theorem dX12_called_33 : decode cX12_called 33 = .ok (.aload_n 0, 1) := by decide +kernel
theorem dX12_called_34 : decode cX12_called 34 = .ok (.iload 5, 2) := by decide +kernel
theorem dX12_called_36 : decode cX12_called 36 = .ok (.invokevirtual 673, 3) := by decide +kernel
theorem dX12_called_39 : decode cX12_called 39 = .ok (.aload_n 0, 1) := by decide +kernel
theorem dX12_called_40 : decode cX12_called 40 = .ok (.getfield 111, 3) := by decide +kernel
theorem dX12_called_43 : decode cX12_called 43 = .ok (.iload 5, 2) := by decide +kernel
theorem dX12_called_45 : decode cX12_called 45 = .ok (.iaload, 1) := by decide +kernel
theorem dX12_called_46 : decode cX12_called 46 = .ok (.istore 5, 2) := by decide +kernel
theorem dX12_called_48 : decode cX12_called 48 = .ok (.goto (-20), 3) := by decide +kernel
theorem dX12_called_51 : decode cX12_called 51 = .ok (.iload_n 3, 1) := by decide +kernel
theorem dX12_called_52 : decode cX12_called 52 = .ok (.ifCond .ge 5, 3) := by decide +kernel
theorem dX12_called_55 : decode cX12_called 55 = .ok (.iconst 0, 1) := by decide +kernel
theorem dX12_called_56 : decode cX12_called 56 = .ok (.ireturn, 1) := by decide +kernel
theorem dX12_called_57 : decode cX12_called 57 = .ok (.aload_n 0, 1) := by decide +kernel
theorem dX12_called_58 : decode cX12_called 58 = .ok (.iload_n 3, 1) := by decide +kernel
theorem dX12_called_59 : decode cX12_called 59 = .ok (.iconst 3, 1) := by decide +kernel
theorem dX12_called_60 : decode cX12_called 60 = .ok (.invokevirtual 644, 3) := by decide +kernel
theorem dX12_called_63 : decode cX12_called 63 = .ok (.ifCond .ne 33, 3) := by decide +kernel
theorem dX12_called_66 : decode cX12_called 66 = .ok (.aload_n 0, 1) := by decide +kernel
theorem dX12_called_67 : decode cX12_called 67 = .ok (.getfield 135, 3) := by decide +kernel
theorem dX12_called_70 : decode cX12_called 70 = .ok (.iload_n 3, 1) := by decide +kernel
theorem dX12_called_71 : decode cX12_called 71 = .ok (.iaload, 1) := by decide +kernel
theorem dX12_called_72 : decode cX12_called 72 = .ok (.bipush 6, 2) := by decide +kernel
theorem dX12_called_74 : decode cX12_called 74 = .ok (.if_icmp .ne 16, 3) := by decide +kernel
theorem dX12_called_77 : decode cX12_called 77 = .ok (.aload_n 0, 1) := by decide +kernel
theorem dX12_called_78 : decode cX12_called 78 = .ok (.getfield 150, 3) := by decide +kernel
theorem dX12_called_81 : decode cX12_called 81 = .ok (.iload_n 3, 1) := by decide +kernel
theorem dX12_called_82 : decode cX12_called 82 = .ok (.iaload, 1) := by decide +kernel
theorem dX12_called_83 : decode cX12_called 83 = .ok (.ifCond .ne 7, 3) := by decide +kernel
theorem dX12_called_86 : decode cX12_called 86 = .ok (.iconst 0, 1) := by decide +kernel
theorem dX12_called_87 : decode cX12_called 87 = .ok (.goto 8, 3) := by decide +kernel
theorem dX12_called_90 : decode cX12_called 90 = .ok (.aload_n 0, 1) := by decide +kernel
theorem dX12_called_91 : decode cX12_called 91 = .ok (.iload_n 1, 1) := by decide +kernel
theorem dX12_called_92 : decode cX12_called 92 = .ok (.invokevirtual 648, 3) := by decide +kernel
theorem dX12_called_95 : decode cX12_called 95 = .ok (.ireturn, 1) := by decide +kernel
theorem dX12_called_96 : decode cX12_called 96 = .ok (.aload_n 0, 1) := by decide +kernel
theorem dX12_called_97 : decode cX12_called 97 = .ok (.iconst 5, 1) := by decide +kernel
theorem dX12_called_98 : decode cX12_called 98 = .ok (.aload_n 0, 1) := by decide +kernel
theorem dX12_called_99 : decode cX12_called 99 = .ok (.getfield 114, 3) := by decide +kernel
theorem dX12_called_102 : decode cX12_called 102 = .ok (.iload_n 1, 1) := by decide +kernel
theorem dX12_called_103 : decode cX12_called 103 = .ok (.iaload, 1) := by decide +kernel
theorem dX12_called_104 : decode cX12_called 104 = .ok (.invokevirtual 484, 3) := by decide +kernel
theorem dX12_called_107 : decode cX12_called 107 = .ok (.iload_n 2, 1) := by decide +kernel
theorem dX12_called_108 : decode cX12_called 108 = .ok (.ifCond .eq 19, 3) := by decide +kernel
theorem dX12_called_111 : decode cX12_called 111 = .ok (.aload_n 0, 1) := by decide +kernel
theorem dX12_called_112 : decode cX12_called 112 = .ok (.getfield 138, 3) := by decide +kernel
theorem dX12_called_115 : decode cX12_called 115 = .ok (.iload_n 3, 1) := by decide +kernel
theorem dX12_called_116 : decode cX12_called 116 = .ok (.iaload, 1) := by decide +kernel
theorem dX12_called_117 : decode cX12_called 117 = .ok (.ifCond .ne 10, 3) := by decide +kernel
theorem dX12_called_120 : decode cX12_called 120 = .ok (.aload_n 0, 1) := by decide +kernel
theorem dX12_called_121 : decode cX12_called 121 = .ok (.iload_n 1, 1) := by decide +kernel
theorem dX12_called_122 : decode cX12_called 122 = .ok (.invokevirtual 648, 3) := by decide +kernel
theorem dX12_called_125 : decode cX12_called 125 = .ok (.istore 4, 2) := by decide +kernel
theorem dX12_called_127 : decode cX12_called 127 = .ok (.aload_n 0, 1) := by decide +kernel
theorem dX12_called_128 : decode cX12_called 128 = .ok (.getfield 138, 3) := by decide +kernel
theorem dX12_called_131 : decode cX12_called 131 = .ok (.iload_n 3, 1) := by decide +kernel
theorem dX12_called_132 : decode cX12_called 132 = .ok (.iaload, 1) := by decide +kernel
theorem dX12_called_133 : decode cX12_called 133 = .ok (.ireturn, 1) := by decide +kernel
theorem dX12_called_134 : decode cX12_called 134 = .ok (.aload_n 0, 1) := by decide +kernel
theorem dX12_called_135 : decode cX12_called 135 = .ok (.getfield 150, 3) := by decide +kernel
theorem dX12_called_138 : decode cX12_called 138 = .ok (.iload_n 3, 1) := by decide +kernel
theorem dX12_called_139 : decode cX12_called 139 = .ok (.iaload, 1) := by decide +kernel
theorem dX12_called_140 : decode cX12_called 140 = .ok (.istore 5, 2) := by decide +kernel
theorem dX12_called_142 : decode cX12_called 142 = .ok (.iload_n 2, 1) := by decide +kernel
theorem dX12_called_143 : decode cX12_called 143 = .ok (.ifCond .eq 19, 3) := by decide +kernel
theorem dX12_called_146 : decode cX12_called 146 = .ok (.aload_n 0, 1) := by decide +kernel
theorem dX12_called_147 : decode cX12_called 147 = .ok (.getfield 138, 3) := by decide +kernel
theorem dX12_called_150 : decode cX12_called 150 = .ok (.iload_n 3, 1) := by decide +kernel
theorem dX12_called_151 : decode cX12_called 151 = .ok (.iaload, 1) := by decide +kernel
theorem dX12_called_152 : decode cX12_called 152 = .ok (.ifCond .ne 10, 3) := by decide +kernel
theorem dX12_called_155 : decode cX12_called 155 = .ok (.aload_n 0, 1) := by decide +kernel
theorem dX12_called_156 : decode cX12_called 156 = .ok (.iload_n 1, 1) := by decide +kernel
theorem dX12_called_157 : decode cX12_called 157 = .ok (.invokevirtual 648, 3) := by decide +kernel
theorem dX12_called_160 : decode cX12_called 160 = .ok (.istore 4, 2) := by decide +kernel
theorem dX12_called_162 : decode cX12_called 162 = .ok (.aload_n 0, 1) := by decide +kernel
theorem dX12_called_163 : decode cX12_called 163 = .ok (.getfield 172, 3) := by decide +kernel
theorem dX12_called_166 : decode cX12_called 166 = .ok (.iload 5, 2) := by decide +kernel
theorem dX12_called_168 : decode cX12_called 168 = .ok (.iaload, 1) := by decide +kernel
theorem dX12_called_169 : decode cX12_called 169 = .ok (.aload_n 0, 1) := by decide +kernel
theorem dX12_called_170 : decode cX12_called 170 = .ok (.getfield 105, 3) := by decide +kernel
theorem dX12_called_173 : decode cX12_called 173 = .ok (.iload_n 1, 1) := by decide +kernel
theorem dX12_called_174 : decode cX12_called 174 = .ok (.iaload, 1) := by decide +kernel
theorem dX12_called_175 : decode cX12_called 175 = .ok (.if_icmp .eq 14, 3) := by decide +kernel
theorem dX12_called_178 : decode cX12_called 178 = .ok (.aload_n 0, 1) := by decide +kernel
theorem dX12_called_179 : decode cX12_called 179 = .ok (.iconst 5, 1) := by decide +kernel
theorem dX12_called_180 : decode cX12_called 180 = .ok (.aload_n 0, 1) := by decide +kernel
theorem dX12_called_181 : decode cX12_called 181 = .ok (.getfield 114, 3) := by decide +kernel
theorem dX12_called_184 : decode cX12_called 184 = .ok (.iload_n 1, 1) := by decide +kernel
theorem dX12_called_185 : decode cX12_called 185 = .ok (.iaload, 1) := by decide +kernel
theorem dX12_called_186 : decode cX12_called 186 = .ok (.invokevirtual 484, 3) := by decide +kernel
theorem dX12_called_189 : decode cX12_called 189 = .ok (.aload_n 0, 1) := by decide +kernel
theorem dX12_called_190 : decode cX12_called 190 = .ok (.getfield 175, 3) := by decide +kernel
theorem dX12_called_193 : decode cX12_called 193 = .ok (.iload 5, 2) := by decide +kernel
theorem dX12_called_195 : decode cX12_called 195 = .ok (.iaload, 1) := by decide +kernel
theorem dX12_called_196 : decode cX12_called 196 = .ok (.istore 6, 2) := by decide +kernel
theorem dX12_called_198 : decode cX12_called 198 = .ok (.aload_n 0, 1) := by decide +kernel
theorem dX12_called_199 : decode cX12_called 199 = .ok (.getfield 661, 3) := by decide +kernel
theorem dX12_called_202 : decode cX12_called 202 = .ok (.istore 7, 2) := by decide +kernel
theorem dX12_called_204 : decode cX12_called 204 = .ok (.aload_n 0, 1) := by decide +kernel
theorem dX12_called_205 : decode cX12_called 205 = .ok (.dup, 1) := by decide +kernel
theorem dX12_called_206 : decode cX12_called 206 = .ok (.getfield 661, 3) := by decide +kernel
theorem dX12_called_209 : decode cX12_called 209 = .ok (.aload_n 0, 1) := by decide +kernel
theorem dX12_called_210 : decode cX12_called 210 = .ok (.getfield 105, 3) := by decide +kernel
theorem dX12_called_213 : decode cX12_called 213 = .ok (.iload_n 1, 1) := by decide +kernel
theorem dX12_called_214 : decode cX12_called 214 = .ok (.iaload, 1) := by decide +kernel
theorem dX12_called_215 : decode cX12_called 215 = .ok (.iadd, 1) := by decide +kernel
theorem dX12_called_216 : decode cX12_called 216 = .ok (.putfield 661, 3) := by decide +kernel
theorem dX12_called_219 : decode cX12_called 219 = .ok (.iconst 0, 1) := by decide +kernel
theorem dX12_called_220 : decode cX12_called 220 = .ok (.istore 8, 2) := by decide +kernel
theorem dX12_called_222 : decode cX12_called 222 = .ok (.aload_n 0, 1) := by decide +kernel
theorem dX12_called_223 : decode cX12_called 223 = .ok (.getfield 102, 3) := by decide +kernel
theorem dX12_called_226 : decode cX12_called 226 = .ok (.iload_n 1, 1) := by decide +kernel
theorem dX12_called_227 : decode cX12_called 227 = .ok (.iaload, 1) := by decide +kernel
theorem dX12_called_228 : decode cX12_called 228 = .ok (.istore 9, 2) := by decide +kernel
theorem dX12_called_230 : decode cX12_called 230 = .ok (.iload 9, 2) := by decide +kernel
theorem dX12_called_232 : decode cX12_called 232 = .ok (.ifCond .lt 55, 3) := by decide +kernel
theorem dX12_called_235 : decode cX12_called 235 = .ok (.iload 8, 2) := by decide +kernel
theorem dX12_called_237 : decode cX12_called 237 = .ok (.aload_n 0, 1) := by decide +kernel
theorem dX12_called_238 : decode cX12_called 238 = .ok (.getfield 172, 3) := by decide +kernel
theorem dX12_called_241 : decode cX12_called 241 = .ok (.iload 5, 2) := by decide +kernel
theorem dX12_called_243 : decode cX12_called 243 = .ok (.iaload, 1) := by decide +kernel
theorem dX12_called_244 : decode cX12_called 244 = .ok (.if_icmp .ge 22, 3) := by decide +kernel
theorem dX12_called_247 : decode cX12_called 247 = .ok (.aload_n 0, 1) := by decide +kernel
theorem dX12_called_248 : decode cX12_called 248 = .ok (.iload 9, 2) := by decide +kernel
theorem dX12_called_250 : decode cX12_called 250 = .ok (.iload 6, 2) := by decide +kernel
theorem dX12_called_252 : decode cX12_called 252 = .ok (.iload 8, 2) := by decide +kernel
theorem dX12_called_254 : decode cX12_called 254 = .ok (.iadd, 1) := by decide +kernel
theorem dX12_called_255 : decode cX12_called 255 = .ok (.iload 7, 2) := by decide +kernel
theorem dX12_called_257 : decode cX12_called 257 = .ok (.iload 8, 2) := by decide +kernel
theorem dX12_called_259 : decode cX12_called 259 = .ok (.iadd, 1) := by decide +kernel
theorem dX12_called_260 : decode cX12_called 260 = .ok (.invokevirtual 676, 3) := by decide +kernel
theorem dX12_called_263 : decode cX12_called 263 = .ok (.goto 9, 3) := by decide +kernel
theorem dX12_called_266 : decode cX12_called 266 = .ok (.aload_n 0, 1) := by decide +kernel
theorem dX12_called_267 : decode cX12_called 267 = .ok (.iload 9, 2) := by decide +kernel
theorem dX12_called_269 : decode cX12_called 269 = .ok (.invokevirtual 673, 3) := by decide +kernel
theorem dX12_called_272 : decode cX12_called 272 = .ok (.iinc 8 1, 3) := by decide +kernel
theorem dX12_called_275 : decode cX12_called 275 = .ok (.aload_n 0, 1) := by decide +kernel
theorem dX12_called_276 : decode cX12_called 276 = .ok (.getfield 111, 3) := by decide +kernel
theorem dX12_called_279 : decode cX12_called 279 = .ok (.iload 9, 2) := by decide +kernel
theorem dX12_called_281 : decode cX12_called 281 = .ok (.iaload, 1) := by decide +kernel
theorem dX12_called_282 : decode cX12_called 282 = .ok (.istore 9, 2) := by decide +kernel
theorem dX12_called_284 : decode cX12_called 284 = .ok (.goto (-54), 3) := by decide +kernel
theorem dX12_called_287 : decode cX12_called 287 = .ok (.aload_n 0, 1) := by decide +kernel
theorem dX12_called_288 : decode cX12_called 288 = .ok (.getfield 227, 3) := by decide +kernel
theorem dX12_called_291 : decode cX12_called 291 = .ok (.aload_n 0, 1) := by decide +kernel
theorem dX12_called_292 : decode cX12_called 292 = .ok (.getfield 658, 3) := by decide +kernel
theorem dX12_called_295 : decode cX12_called 295 = .ok (.iload 5, 2) := by decide +kernel
theorem dX12_called_297 : decode cX12_called 297 = .ok (.iastore, 1) := by decide +kernel
theorem dX12_called_298 : decode cX12_called 298 = .ok (.aload_n 0, 1) := by decide +kernel
theorem dX12_called_299 : decode cX12_called 299 = .ok (.getfield 230, 3) := by decide +kernel
theorem dX12_called_302 : decode cX12_called 302 = .ok (.aload_n 0, 1) := by decide +kernel
theorem dX12_called_303 : decode cX12_called 303 = .ok (.getfield 658, 3) := by decide +kernel
theorem dX12_called_306 : decode cX12_called 306 = .ok (.aload_n 0, 1) := by decide +kernel
theorem dX12_called_307 : decode cX12_called 307 = .ok (.iload_n 3, 1) := by decide +kernel
theorem dX12_called_308 : decode cX12_called 308 = .ok (.invokevirtual 641, 3) := by decide +kernel
theorem dX12_called_311 : decode cX12_called 311 = .ok (.iastore, 1) := by decide +kernel
theorem dX12_called_312 : decode cX12_called 312 = .ok (.aload_n 0, 1) := by decide +kernel
theorem dX12_called_313 : decode cX12_called 313 = .ok (.getfield 233, 3) := by decide +kernel
theorem dX12_called_316 : decode cX12_called 316 = .ok (.aload_n 0, 1) := by decide +kernel
theorem dX12_called_317 : decode cX12_called 317 = .ok (.getfield 658, 3) := by decide +kernel
theorem dX12_called_320 : decode cX12_called 320 = .ok (.iload 7, 2) := by decide +kernel
theorem dX12_called_322 : decode cX12_called 322 = .ok (.iastore, 1) := by decide +kernel
theorem dX12_called_323 : decode cX12_called 323 = .ok (.aload_n 0, 1) := by decide +kernel
theorem dX12_called_324 : decode cX12_called 324 = .ok (.dup, 1) := by decide +kernel
theorem dX12_called_325 : decode cX12_called 325 = .ok (.getfield 658, 3) := by decide +kernel
theorem dX12_called_328 : decode cX12_called 328 = .ok (.iconst 1, 1) := by decide +kernel
theorem dX12_called_329 : decode cX12_called 329 = .ok (.iadd, 1) := by decide +kernel
theorem dX12_called_330 : decode cX12_called 330 = .ok (.putfield 658, 3) := by decide +kernel
theorem dX12_called_333 : decode cX12_called 333 = .ok (.aload_n 0, 1) := by decide +kernel
theorem dX12_called_334 : decode cX12_called 334 = .ok (.bipush 14, 2) := by decide +kernel
theorem dX12_called_336 : decode cX12_called 336 = .ok (.aload_n 0, 1) := by decide +kernel
theorem dX12_called_337 : decode cX12_called 337 = .ok (.getfield 658, 3) := by decide +kernel
theorem dX12_called_340 : decode cX12_called 340 = .ok (.iconst 1, 1) := by decide +kernel
theorem dX12_called_341 : decode cX12_called 341 = .ok (.isub, 1) := by decide +kernel
theorem dX12_called_342 : decode cX12_called 342 = .ok (.iload_n 2, 1) := by decide +kernel
theorem dX12_called_343 : decode cX12_called 343 = .ok (.ifCond .eq 7, 3) := by decide +kernel
theorem dX12_called_346 : decode cX12_called 346 = .ok (.iconst 1, 1) := by decide +kernel
theorem dX12_called_347 : decode cX12_called 347 = .ok (.goto 4, 3) := by decide +kernel
theorem dX12_called_350 : decode cX12_called 350 = .ok (.iconst 0, 1) := by decide +kernel
theorem dX12_called_351 : decode cX12_called 351 = .ok (.iconst 0, 1) := by decide +kernel
theorem dX12_called_352 : decode cX12_called 352 = .ok (.invokevirtual 609, 3) := by decide +kernel
theorem dX12_called_355 : decode cX12_called 355 = .ok (.istore 4, 2) := by decide +kernel
theorem dX12_called_357 : decode cX12_called 357 = .ok (.aload_n 0, 1) := by decide +kernel
theorem dX12_called_358 : decode cX12_called 358 = .ok (.getfield 138, 3) := by decide +kernel
theorem dX12_called_361 : decode cX12_called 361 = .ok (.iload_n 3, 1) := by decide +kernel
theorem dX12_called_362 : decode cX12_called 362 = .ok (.iaload, 1) := by decide +kernel
theorem dX12_called_363 : decode cX12_called 363 = .ok (.ireturn, 1) := by decide +kernel
def fX12_called_28 (rc : TX12_mustBe) (k_28 : Int32 → Int32 → Int32 → Int32 → Wd → Option (Int32 × Wd)) (a1 : Int32) (a2 : Int32) (a3 : Int32) (a5 : Int32) (w : Wd) : Option (Int32 × Wd) :=
  if a5 < 0 then (if 0 ≤ a3 then (bn2 (fX12_isFormal a3 3 w) fun x3 w4 => if x3 = true then (if inb a1 24000 = true then bn (fX12_found 5 (gi w4 12 (Int32.toNatClampNeg a1)) w4) fun w7 => if a2 = 0 then (if inb a3 5000 = true then some ((gi w7 20 (Int32.toNatClampNeg a3)), w7) else none) else (if inb a3 5000 = true then if (gi w7 20 (Int32.toNatClampNeg a3)) = 0 then (bn2 (fX12_wrongName a1 w7) fun x12 w13 => if inb a3 5000 = true then some ((gi w13 20 (Int32.toNatClampNeg a3)), w13) else none) else (if inb a3 5000 = true then some ((gi w7 20 (Int32.toNatClampNeg a3)), w7) else none) else none) else none) else (if inb a3 5000 = true then if (gi w4 19 (Int32.toNatClampNeg a3)) = 6 then (if inb a3 5000 = true then if (gi w4 24 (Int32.toNatClampNeg a3)) = 0 then (some (0, w4)) else (bn2 (fX12_wrongName a1 w4) fun x20 w21 => some (x20, w21)) else none) else (bn2 (fX12_wrongName a1 w4) fun x22 w23 => some (x22, w23)) else none)) else (some (0, w))) else (bn2 (rc 8 a5 0 0 w) fun _ w25 => if inb a5 24000 = true then lt ((gi w25 11 (Int32.toNatClampNeg a5))) fun x27 => k_28 a1 a2 a3 x27 w25 else none)
set_option maxHeartbeats 16000000 in
theorem pX12_called_28 {q : Gq} {l : Launch} {N : Option Value → Wd → Prop} {X : String → Wd → Prop} {rc : TX12_mustBe} {dd : Nat} (hS : HSX12_mustBe q l rc dd) (hK : 5 ≤ dd) {w : Wd} {R : Int32 × Wd} (hN : N (some (.int R.1)) R.2) {k_28 : Int32 → Int32 → Int32 → Int32 → Wd → Option (Int32 × Wd)} (hk_28 : ∀ (a1 : Int32) (a2 : Int32) (a3 : Int32) (a5 : Int32) (w : Wd), k_28 a1 a2 a3 a5 w = some R → RT (GM q) l (dd + 1) yX12_called cX12_called 10 ((some .int)) N X 28 [] [(0, .ref 0), (1, .int a1), (2, .int a2), (3, .int a3), (5, .int a5)] w) {a1 : Int32} {a2 : Int32} {a3 : Int32} {a5 : Int32} (h : fX12_called_28 rc k_28 a1 a2 a3 a5 w = some R) : RT (GM q) l (dd + 1) yX12_called cX12_called 10 ((some .int)) N X 28 [] [(0, .ref 0), (1, .int a1), (2, .int a2), (3, .int a3), (5, .int a5)] w := by
  unfold fX12_called_28 at h
  refine r_iload (pc := 28) dX12_called_28 4 rfl ?_
  refine r_if_lt (pc := 30) dX12_called_30 rfl (fun hc1 => ?_) (fun hc1 => ?_)
  · replace h := if_t hc1 h
    refine r_iload_n (pc := 51) dX12_called_51 rfl 3 rfl ?_
    refine r_if_ge (pc := 52) dX12_called_52 rfl (fun hc2 => ?_) (fun hc2 => ?_)
    · replace h := if_t hc2 h
      refine r_aload_n (pc := 57) dX12_called_57 rfl 0 rfl ?_
      refine r_iload_n (pc := 58) dX12_called_58 rfl 3 rfl ?_
      refine r_iconst (pc := 59) dX12_called_59 ki_3 ?_
      replace h := bn2_e h; obtain ⟨x3, w4, ew4, h⟩ := h
      refine r_cVi (pc := 60) wyX12_isFormal oM0 rfl mlRX12_644 iyX12_isFormal syX12_isFormal ⟨Nat.succ_le_succ (Nat.le_trans (Nat.le_of_ble_eq_true rfl) hK), (Nat.le_of_ble_eq_true rfl)⟩ rfl rfl (Nat.le_of_ble_eq_true rfl) dX12_called_60 (mX12_isFormal ew4 (pI.mk ?_))
      refine r_z_ne (pc := 63) dX12_called_63 rfl (fun hc5 => ?_) (fun hc5 => ?_)
      · replace h := if_t hc5 h
        refine r_aload_n (pc := 96) dX12_called_96 rfl 0 rfl ?_
        refine r_iconst (pc := 97) dX12_called_97 ki_5 ?_
        refine r_aload_n (pc := 98) dX12_called_98 rfl 0 rfl ?_
        refine r_get (pc := 99) (j := 21) (v := .ref 12) oM0 cf12 flRX12_114 rfl dX12_called_99 rfl ?_
        refine r_iload_n (pc := 102) dX12_called_102 rfl 1 rfl ?_
        replace h := if_n h; obtain ⟨hb6, h⟩ := h
        refine r_iald (pc := 103) aM12 (inb_in hb6) dX12_called_103 ?_
        replace h := bn_e h; obtain ⟨w7, ew7, h⟩ := h
        refine r_cVv (pc := 104) wyX12_found oM0 rfl mlRX12_484 iyX12_found syX12_found ⟨Nat.succ_le_succ (Nat.le_trans (Nat.le_of_ble_eq_true rfl) hK), (Nat.le_of_ble_eq_true rfl)⟩ rfl rfl (Nat.le_of_ble_eq_true rfl) dX12_called_104 (mX12_found ew7 (pV.mk ?_))
        refine r_iload_n (pc := 107) dX12_called_107 rfl 2 rfl ?_
        refine r_if_eq (pc := 108) dX12_called_108 rfl (fun hc8 => ?_) (fun hc8 => ?_)
        · replace h := if_t hc8 h
          refine r_aload_n (pc := 127) dX12_called_127 rfl 0 rfl ?_
          refine r_get (pc := 128) (j := 33) (v := .ref 20) oM0 cf12 flRX12_138 rfl dX12_called_128 rfl ?_
          refine r_iload_n (pc := 131) dX12_called_131 rfl 3 rfl ?_
          replace h := if_n h; obtain ⟨hb9, h⟩ := h
          refine r_iald (pc := 132) aM20 (inb_in hb9) dX12_called_132 ?_
          exact rO_i (pc := 133) rfl dX12_called_133 h hN
        replace h := if_f hc8 h
        refine r_aload_n (pc := 111) dX12_called_111 rfl 0 rfl ?_
        refine r_get (pc := 112) (j := 33) (v := .ref 20) oM0 cf12 flRX12_138 rfl dX12_called_112 rfl ?_
        refine r_iload_n (pc := 115) dX12_called_115 rfl 3 rfl ?_
        replace h := if_n h; obtain ⟨hb10, h⟩ := h
        refine r_iald (pc := 116) aM20 (inb_in hb10) dX12_called_116 ?_
        refine r_if_ne (pc := 117) dX12_called_117 rfl (fun hc11 => ?_) (fun hc11 => ?_)
        · replace h := if_f hc11 h
          refine r_aload_n (pc := 127) dX12_called_127 rfl 0 rfl ?_
          refine r_get (pc := 128) (j := 33) (v := .ref 20) oM0 cf12 flRX12_138 rfl dX12_called_128 rfl ?_
          refine r_iload_n (pc := 131) dX12_called_131 rfl 3 rfl ?_
          replace h := if_n h; obtain ⟨hb15, h⟩ := h
          refine r_iald (pc := 132) aM20 (inb_in hb15) dX12_called_132 ?_
          exact rO_i (pc := 133) rfl dX12_called_133 h hN
        replace h := if_t hc11 h
        refine r_aload_n (pc := 120) dX12_called_120 rfl 0 rfl ?_
        refine r_iload_n (pc := 121) dX12_called_121 rfl 1 rfl ?_
        replace h := bn2_e h; obtain ⟨x12, w13, ew13, h⟩ := h
        refine r_cVi (pc := 122) wyX12_wrongName oM0 rfl mlRX12_648 iyX12_wrongName syX12_wrongName ⟨Nat.succ_le_succ (Nat.le_trans (Nat.le_of_ble_eq_true rfl) hK), (Nat.le_of_ble_eq_true rfl)⟩ rfl rfl (Nat.le_of_ble_eq_true rfl) dX12_called_122 (mX12_wrongName ew13 (pI.mk ?_))
        refine r_istore (pc := 125) (loc' := [(4, .int x12), (0, .ref 0), (1, .int a1), (2, .int a2), (3, .int a3), (5, .int a5)]) dX12_called_125 (Nat.le_of_ble_eq_true rfl) rfl ?_
        refine r_aload_n (pc := 127) dX12_called_127 rfl 1 rfl ?_
        refine r_get (pc := 128) (j := 33) (v := .ref 20) oM0 cf12 flRX12_138 rfl dX12_called_128 rfl ?_
        refine r_iload_n (pc := 131) dX12_called_131 rfl 4 rfl ?_
        replace h := if_n h; obtain ⟨hb14, h⟩ := h
        refine r_iald (pc := 132) aM20 (inb_in hb14) dX12_called_132 ?_
        exact rO_i (pc := 133) rfl dX12_called_133 h hN
      replace h := if_f hc5 h
      refine r_aload_n (pc := 66) dX12_called_66 rfl 0 rfl ?_
      refine r_get (pc := 67) (j := 32) (v := .ref 19) oM0 cf12 flRX12_135 rfl dX12_called_67 rfl ?_
      refine r_iload_n (pc := 70) dX12_called_70 rfl 3 rfl ?_
      replace h := if_n h; obtain ⟨hb16, h⟩ := h
      refine r_iald (pc := 71) aM19 (inb_in hb16) dX12_called_71 ?_
      refine r_bipush (pc := 72) dX12_called_72 kb_6 ?_
      refine r_icmp_ne (pc := 74) dX12_called_74 rfl (fun hc17 => ?_) (fun hc17 => ?_)
      · replace h := if_f hc17 h
        refine r_aload_n (pc := 90) dX12_called_90 rfl 0 rfl ?_
        refine r_iload_n (pc := 91) dX12_called_91 rfl 1 rfl ?_
        replace h := bn2_e h; obtain ⟨x22, w23, ew23, h⟩ := h
        refine r_cVi (pc := 92) wyX12_wrongName oM0 rfl mlRX12_648 iyX12_wrongName syX12_wrongName ⟨Nat.succ_le_succ (Nat.le_trans (Nat.le_of_ble_eq_true rfl) hK), (Nat.le_of_ble_eq_true rfl)⟩ rfl rfl (Nat.le_of_ble_eq_true rfl) dX12_called_92 (mX12_wrongName ew23 (pI.mk ?_))
        exact rO_i (pc := 95) rfl dX12_called_95 h hN
      replace h := if_t hc17 h
      refine r_aload_n (pc := 77) dX12_called_77 rfl 0 rfl ?_
      refine r_get (pc := 78) (j := 37) (v := .ref 24) oM0 cf12 flRX12_150 rfl dX12_called_78 rfl ?_
      refine r_iload_n (pc := 81) dX12_called_81 rfl 3 rfl ?_
      replace h := if_n h; obtain ⟨hb18, h⟩ := h
      refine r_iald (pc := 82) aM24 (inb_in hb18) dX12_called_82 ?_
      refine r_if_ne (pc := 83) dX12_called_83 rfl (fun hc19 => ?_) (fun hc19 => ?_)
      · replace h := if_f hc19 h
        refine r_aload_n (pc := 90) dX12_called_90 rfl 0 rfl ?_
        refine r_iload_n (pc := 91) dX12_called_91 rfl 1 rfl ?_
        replace h := bn2_e h; obtain ⟨x20, w21, ew21, h⟩ := h
        refine r_cVi (pc := 92) wyX12_wrongName oM0 rfl mlRX12_648 iyX12_wrongName syX12_wrongName ⟨Nat.succ_le_succ (Nat.le_trans (Nat.le_of_ble_eq_true rfl) hK), (Nat.le_of_ble_eq_true rfl)⟩ rfl rfl (Nat.le_of_ble_eq_true rfl) dX12_called_92 (mX12_wrongName ew21 (pI.mk ?_))
        exact rO_i (pc := 95) rfl dX12_called_95 h hN
      replace h := if_t hc19 h
      refine r_iconst (pc := 86) dX12_called_86 ki_0 ?_
      refine r_goto (pc := 87) dX12_called_87 rfl ?_
      exact rO_i (pc := 95) rfl dX12_called_95 h hN
    replace h := if_f hc2 h
    refine r_iconst (pc := 55) dX12_called_55 ki_0 ?_
    exact rO_i (pc := 56) rfl dX12_called_56 h hN
  replace h := if_f hc1 h
  refine r_aload_n (pc := 33) dX12_called_33 rfl 0 rfl ?_
  refine r_iload (pc := 34) dX12_called_34 4 rfl ?_
  replace h := bn2_e h; obtain ⟨x24, w25, ew25, h⟩ := h
  refine r_cVv (pc := 36) wyX12_loose oM0 rfl mlRX12_673 iyX12_loose syX12_loose ⟨Nat.le_refl _, (Nat.le_of_ble_eq_true rfl)⟩ rfl rfl (Nat.le_of_ble_eq_true rfl) dX12_called_36 ((hS.2.2.2.2.2.2.2.2.1 _ _ _ _ _ _) ew25 (pV.mk ?_))
  refine r_aload_n (pc := 39) dX12_called_39 rfl 0 rfl ?_
  refine r_get (pc := 40) (j := 20) (v := .ref 11) oM0 cf12 flRX12_111 rfl dX12_called_40 rfl ?_
  refine r_iload (pc := 43) dX12_called_43 4 rfl ?_
  replace h := if_n h; obtain ⟨hb26, h⟩ := h
  refine r_iald (pc := 45) aM11 (inb_in hb26) dX12_called_45 ?_
  replace h := lt_e h; obtain ⟨x27, ex27, h⟩ := h
  refine r_topi ex27 ?_
  refine r_istore (pc := 46) (loc' := [(5, .int x27), (0, .ref 0), (1, .int a1), (2, .int a2), (3, .int a3)]) dX12_called_46 (Nat.le_of_ble_eq_true rfl) rfl ?_
  refine r_goto (pc := 48) dX12_called_48 rfl ?_
  refine r_drop (loc' := [(0, .ref 0), (1, .int a1), (2, .int a2), (3, .int a3), (5, .int x27)]) [1, 2, 3, 4, 0] rfl ?_
  exact hk_28 a1 a2 a3 x27 w25 h
def oX12_called_28 (rc : TX12_mustBe) : Nat → Int32 → Int32 → Int32 → Int32 → Wd → Option (Int32 × Wd)
  | 0 => fun _ _ _ _ _ => none
  | n + 1 => fX12_called_28 rc (oX12_called_28 rc n)
theorem qX12_called_28 {q : Gq} {l : Launch} {N : Option Value → Wd → Prop} {X : String → Wd → Prop} {rc : TX12_mustBe} {dd : Nat} (hS : HSX12_mustBe q l rc dd) (hK : 5 ≤ dd) {R : Int32 × Wd} (hN : N (some (.int R.1)) R.2) : ∀ (n : Nat) (a1 : Int32) (a2 : Int32) (a3 : Int32) (a5 : Int32) (w : Wd), oX12_called_28 rc n a1 a2 a3 a5 w = some R → RT (GM q) l (dd + 1) yX12_called cX12_called 10 ((some .int)) N X 28 [] [(0, .ref 0), (1, .int a1), (2, .int a2), (3, .int a3), (5, .int a5)] w := by
  intro n
  induction n with
  | zero =>
    intro a1 a2 a3 a5 w h
    exact absurd h (fun q => nomatch q)
  | succ n ih =>
    intro a1 a2 a3 a5 w h
    exact pX12_called_28 hS hK hN ih h
def fX12_called_230 (rc : TX12_mustBe) (k_230 : Int32 → Int32 → Int32 → Int32 → Int32 → Int32 → Int32 → Wd → Option (Int32 × Wd)) (a2 : Int32) (a3 : Int32) (a5 : Int32) (a6 : Int32) (a7 : Int32) (a8 : Int32) (a9 : Int32) (w : Wd) : Option (Int32 × Wd) :=
  if a9 < 0 then (if inb (gi w 0 73) 4300 = true then lt (si w 49 (Int32.toNatClampNeg (gi w 0 73)) a5) fun w3 => bn2 (fX12_up a3 w3) fun x4 w5 => if inb (gi w3 0 73) 4300 = true then lt (si w5 50 (Int32.toNatClampNeg (gi w3 0 73)) x4) fun w7 => if inb (gi w7 0 73) 4300 = true then lt (si w7 51 (Int32.toNatClampNeg (gi w7 0 73)) a7) fun w9 => lt (si w9 0 73 ((gi w9 0 73) + 1)) fun w10 => if a2 = 0 then (bn2 (fX12_op 14 ((gi w10 0 73) - 1) 0 0 w10) fun x12 w13 => if inb a3 5000 = true then some ((gi w13 20 (Int32.toNatClampNeg a3)), w13) else none) else (bn2 (fX12_op 14 ((gi w10 0 73) - 1) 1 0 w10) fun x15 w16 => if inb a3 5000 = true then some ((gi w16 20 (Int32.toNatClampNeg a3)), w16) else none) else none else none else none) else (if inb a5 1200 = true then if (gi w 31 (Int32.toNatClampNeg a5)) ≤ a8 then (bn2 (rc 8 a9 0 0 w) fun _ w21 => lt (a8 + 1) fun x22 => if inb a9 24000 = true then lt ((gi w21 11 (Int32.toNatClampNeg a9))) fun x24 => k_230 a2 a3 a5 a6 a7 x22 x24 w21 else none) else (bn2 (rc 10 a9 (a6 + a8) (a7 + a8) w) fun _ w26 => lt (a8 + 1) fun x27 => if inb a9 24000 = true then lt ((gi w26 11 (Int32.toNatClampNeg a9))) fun x29 => k_230 a2 a3 a5 a6 a7 x27 x29 w26 else none) else none)
set_option maxHeartbeats 16000000 in
theorem pX12_called_230 {q : Gq} {l : Launch} {N : Option Value → Wd → Prop} {X : String → Wd → Prop} {rc : TX12_mustBe} {dd : Nat} (hS : HSX12_mustBe q l rc dd) (hK : 5 ≤ dd) {w : Wd} {R : Int32 × Wd} (hN : N (some (.int R.1)) R.2) {k_230 : Int32 → Int32 → Int32 → Int32 → Int32 → Int32 → Int32 → Wd → Option (Int32 × Wd)} (hk_230 : ∀ (a2 : Int32) (a3 : Int32) (a5 : Int32) (a6 : Int32) (a7 : Int32) (a8 : Int32) (a9 : Int32) (w : Wd), k_230 a2 a3 a5 a6 a7 a8 a9 w = some R → RT (GM q) l (dd + 1) yX12_called cX12_called 10 ((some .int)) N X 230 [] [(0, .ref 0), (2, .int a2), (3, .int a3), (5, .int a5), (6, .int a6), (7, .int a7), (8, .int a8), (9, .int a9)] w) {a2 : Int32} {a3 : Int32} {a5 : Int32} {a6 : Int32} {a7 : Int32} {a8 : Int32} {a9 : Int32} (h : fX12_called_230 rc k_230 a2 a3 a5 a6 a7 a8 a9 w = some R) : RT (GM q) l (dd + 1) yX12_called cX12_called 10 ((some .int)) N X 230 [] [(0, .ref 0), (2, .int a2), (3, .int a3), (5, .int a5), (6, .int a6), (7, .int a7), (8, .int a8), (9, .int a9)] w := by
  unfold fX12_called_230 at h
  refine r_iload (pc := 230) dX12_called_230 7 rfl ?_
  refine r_if_lt (pc := 232) dX12_called_232 rfl (fun hc1 => ?_) (fun hc1 => ?_)
  · replace h := if_t hc1 h
    refine r_aload_n (pc := 287) dX12_called_287 rfl 0 rfl ?_
    refine r_get (pc := 288) (j := 70) (v := .ref 49) oM0 cf12 flRX12_227 rfl dX12_called_288 rfl ?_
    refine r_aload_n (pc := 291) dX12_called_291 rfl 0 rfl ?_
    refine r_get (pc := 292) (j := 73) (v := .int (gi w 0 73)) oM0 cf12 flRX12_658 rfl dX12_called_292 rfl ?_
    refine r_iload (pc := 295) dX12_called_295 3 rfl ?_
    replace h := if_n h; obtain ⟨hb2, h⟩ := h
    replace h := lt_e h; obtain ⟨w3, ew3, h⟩ := h
    refine r_iast (pc := 297) aM49 (inb_in hb2) dX12_called_297 ?_
    refine r_w ew3 ?_
    refine r_aload_n (pc := 298) dX12_called_298 rfl 0 rfl ?_
    refine r_get (pc := 299) (j := 71) (v := .ref 50) oM0 cf12 flRX12_230 rfl dX12_called_299 rfl ?_
    refine r_aload_n (pc := 302) dX12_called_302 rfl 0 rfl ?_
    refine r_get (pc := 303) (j := 73) (v := .int (gi w3 0 73)) oM0 cf12 flRX12_658 rfl dX12_called_303 rfl ?_
    refine r_aload_n (pc := 306) dX12_called_306 rfl 0 rfl ?_
    refine r_iload_n (pc := 307) dX12_called_307 rfl 2 rfl ?_
    replace h := bn2_e h; obtain ⟨x4, w5, ew5, h⟩ := h
    refine r_cVi (pc := 308) wyX12_up oM0 rfl mlRX12_641 iyX12_up syX12_up ⟨Nat.succ_le_succ (Nat.le_trans (Nat.le_of_ble_eq_true rfl) hK), (Nat.le_of_ble_eq_true rfl)⟩ rfl rfl (Nat.le_of_ble_eq_true rfl) dX12_called_308 (mX12_up ew5 (pI.mk ?_))
    replace h := if_n h; obtain ⟨hb6, h⟩ := h
    replace h := lt_e h; obtain ⟨w7, ew7, h⟩ := h
    refine r_iast (pc := 311) aM50 (inb_in hb6) dX12_called_311 ?_
    refine r_w ew7 ?_
    refine r_aload_n (pc := 312) dX12_called_312 rfl 0 rfl ?_
    refine r_get (pc := 313) (j := 72) (v := .ref 51) oM0 cf12 flRX12_233 rfl dX12_called_313 rfl ?_
    refine r_aload_n (pc := 316) dX12_called_316 rfl 0 rfl ?_
    refine r_get (pc := 317) (j := 73) (v := .int (gi w7 0 73)) oM0 cf12 flRX12_658 rfl dX12_called_317 rfl ?_
    refine r_iload (pc := 320) dX12_called_320 5 rfl ?_
    replace h := if_n h; obtain ⟨hb8, h⟩ := h
    replace h := lt_e h; obtain ⟨w9, ew9, h⟩ := h
    refine r_iast (pc := 322) aM51 (inb_in hb8) dX12_called_322 ?_
    refine r_w ew9 ?_
    refine r_aload_n (pc := 323) dX12_called_323 rfl 0 rfl ?_
    refine r_dup (pc := 324) dX12_called_324 rfl ?_
    refine r_get (pc := 325) (j := 73) (v := .int (gi w9 0 73)) oM0 cf12 flRX12_658 rfl dX12_called_325 rfl ?_
    refine r_iconst (pc := 328) dX12_called_328 ki_1 ?_
    refine r_iadd (pc := 329) dX12_called_329 ?_
    replace h := lt_e h; obtain ⟨w10, ew10, h⟩ := h
    refine r_putI (pc := 330) (j := 73) oM0 cf12 flRX12_658 rfl rfl rfl rfl dX12_called_330 ?_
    refine r_w ew10 ?_
    refine r_aload_n (pc := 333) dX12_called_333 rfl 0 rfl ?_
    refine r_bipush (pc := 334) dX12_called_334 kb_14 ?_
    refine r_aload_n (pc := 336) dX12_called_336 rfl 0 rfl ?_
    refine r_get (pc := 337) (j := 73) (v := .int (gi w10 0 73)) oM0 cf12 flRX12_658 rfl dX12_called_337 rfl ?_
    refine r_iconst (pc := 340) dX12_called_340 ki_1 ?_
    refine r_isub (pc := 341) dX12_called_341 ?_
    refine r_iload_n (pc := 342) dX12_called_342 rfl 1 rfl ?_
    refine r_if_eq (pc := 343) dX12_called_343 rfl (fun hc11 => ?_) (fun hc11 => ?_)
    · replace h := if_t hc11 h
      refine r_iconst (pc := 350) dX12_called_350 ki_0 ?_
      refine r_iconst (pc := 351) dX12_called_351 ki_0 ?_
      replace h := bn2_e h; obtain ⟨x12, w13, ew13, h⟩ := h
      refine r_cVi (pc := 352) wyX12_op oM0 rfl mlRX12_609 iyX12_op syX12_op ⟨Nat.succ_le_succ (Nat.le_trans (Nat.le_of_ble_eq_true rfl) hK), (Nat.le_of_ble_eq_true rfl)⟩ rfl rfl (Nat.le_of_ble_eq_true rfl) dX12_called_352 (mX12_op ew13 (pI.mk ?_))
      refine r_istore (pc := 355) (loc' := [(4, .int x12), (0, .ref 0), (2, .int a2), (3, .int a3), (5, .int a5), (6, .int a6), (7, .int a7), (8, .int a8), (9, .int a9)]) dX12_called_355 (Nat.le_of_ble_eq_true rfl) rfl ?_
      refine r_aload_n (pc := 357) dX12_called_357 rfl 1 rfl ?_
      refine r_get (pc := 358) (j := 33) (v := .ref 20) oM0 cf12 flRX12_138 rfl dX12_called_358 rfl ?_
      refine r_iload_n (pc := 361) dX12_called_361 rfl 3 rfl ?_
      replace h := if_n h; obtain ⟨hb14, h⟩ := h
      refine r_iald (pc := 362) aM20 (inb_in hb14) dX12_called_362 ?_
      exact rO_i (pc := 363) rfl dX12_called_363 h hN
    replace h := if_f hc11 h
    refine r_iconst (pc := 346) dX12_called_346 ki_1 ?_
    refine r_goto (pc := 347) dX12_called_347 rfl ?_
    refine r_iconst (pc := 351) dX12_called_351 ki_0 ?_
    replace h := bn2_e h; obtain ⟨x15, w16, ew16, h⟩ := h
    refine r_cVi (pc := 352) wyX12_op oM0 rfl mlRX12_609 iyX12_op syX12_op ⟨Nat.succ_le_succ (Nat.le_trans (Nat.le_of_ble_eq_true rfl) hK), (Nat.le_of_ble_eq_true rfl)⟩ rfl rfl (Nat.le_of_ble_eq_true rfl) dX12_called_352 (mX12_op ew16 (pI.mk ?_))
    refine r_istore (pc := 355) (loc' := [(4, .int x15), (0, .ref 0), (2, .int a2), (3, .int a3), (5, .int a5), (6, .int a6), (7, .int a7), (8, .int a8), (9, .int a9)]) dX12_called_355 (Nat.le_of_ble_eq_true rfl) rfl ?_
    refine r_aload_n (pc := 357) dX12_called_357 rfl 1 rfl ?_
    refine r_get (pc := 358) (j := 33) (v := .ref 20) oM0 cf12 flRX12_138 rfl dX12_called_358 rfl ?_
    refine r_iload_n (pc := 361) dX12_called_361 rfl 3 rfl ?_
    replace h := if_n h; obtain ⟨hb17, h⟩ := h
    refine r_iald (pc := 362) aM20 (inb_in hb17) dX12_called_362 ?_
    exact rO_i (pc := 363) rfl dX12_called_363 h hN
  replace h := if_f hc1 h
  refine r_iload (pc := 235) dX12_called_235 6 rfl ?_
  refine r_aload_n (pc := 237) dX12_called_237 rfl 0 rfl ?_
  refine r_get (pc := 238) (j := 45) (v := .ref 31) oM0 cf12 flRX12_172 rfl dX12_called_238 rfl ?_
  refine r_iload (pc := 241) dX12_called_241 3 rfl ?_
  replace h := if_n h; obtain ⟨hb18, h⟩ := h
  refine r_iald (pc := 243) aM31 (inb_in hb18) dX12_called_243 ?_
  refine r_icmp_ge (pc := 244) dX12_called_244 rfl (fun hc19 => ?_) (fun hc19 => ?_)
  · replace h := if_t hc19 h
    refine r_aload_n (pc := 266) dX12_called_266 rfl 0 rfl ?_
    refine r_iload (pc := 267) dX12_called_267 7 rfl ?_
    replace h := bn2_e h; obtain ⟨x20, w21, ew21, h⟩ := h
    refine r_cVv (pc := 269) wyX12_loose oM0 rfl mlRX12_673 iyX12_loose syX12_loose ⟨Nat.le_refl _, (Nat.le_of_ble_eq_true rfl)⟩ rfl rfl (Nat.le_of_ble_eq_true rfl) dX12_called_269 ((hS.2.2.2.2.2.2.2.2.1 _ _ _ _ _ _) ew21 (pV.mk ?_))
    replace h := lt_e h; obtain ⟨x22, ex22, h⟩ := h
    refine r_inc (pc := 272) (loc' := [(8, .int x22), (0, .ref 0), (2, .int a2), (3, .int a3), (5, .int a5), (6, .int a6), (7, .int a7), (9, .int a9)]) dX12_called_272 ki_1 ex22 6 rfl (Nat.le_of_ble_eq_true rfl) rfl ?_
    refine r_aload_n (pc := 275) dX12_called_275 rfl 1 rfl ?_
    refine r_get (pc := 276) (j := 20) (v := .ref 11) oM0 cf12 flRX12_111 rfl dX12_called_276 rfl ?_
    refine r_iload (pc := 279) dX12_called_279 7 rfl ?_
    replace h := if_n h; obtain ⟨hb23, h⟩ := h
    refine r_iald (pc := 281) aM11 (inb_in hb23) dX12_called_281 ?_
    replace h := lt_e h; obtain ⟨x24, ex24, h⟩ := h
    refine r_topi ex24 ?_
    refine r_istore (pc := 282) (loc' := [(9, .int x24), (8, .int x22), (0, .ref 0), (2, .int a2), (3, .int a3), (5, .int a5), (6, .int a6), (7, .int a7)]) dX12_called_282 (Nat.le_of_ble_eq_true rfl) rfl ?_
    refine r_goto (pc := 284) dX12_called_284 rfl ?_
    refine r_drop (loc' := [(0, .ref 0), (2, .int a2), (3, .int a3), (5, .int a5), (6, .int a6), (7, .int a7), (8, .int x22), (9, .int x24)]) [2, 3, 4, 5, 6, 7, 1, 0] rfl ?_
    exact hk_230 a2 a3 a5 a6 a7 x22 x24 w21 h
  replace h := if_f hc19 h
  refine r_aload_n (pc := 247) dX12_called_247 rfl 0 rfl ?_
  refine r_iload (pc := 248) dX12_called_248 7 rfl ?_
  refine r_iload (pc := 250) dX12_called_250 4 rfl ?_
  refine r_iload (pc := 252) dX12_called_252 6 rfl ?_
  refine r_iadd (pc := 254) dX12_called_254 ?_
  refine r_iload (pc := 255) dX12_called_255 5 rfl ?_
  refine r_iload (pc := 257) dX12_called_257 6 rfl ?_
  refine r_iadd (pc := 259) dX12_called_259 ?_
  replace h := bn2_e h; obtain ⟨x25, w26, ew26, h⟩ := h
  refine r_cVv (pc := 260) wyX12_actual oM0 rfl mlRX12_676 iyX12_actual syX12_actual ⟨Nat.le_refl _, (Nat.le_of_ble_eq_true rfl)⟩ rfl rfl (Nat.le_of_ble_eq_true rfl) dX12_called_260 ((hS.2.2.2.2.2.2.2.2.2.2.1 _ _ _ _ _ _ _ _) ew26 (pV.mk ?_))
  refine r_goto (pc := 263) dX12_called_263 rfl ?_
  replace h := lt_e h; obtain ⟨x27, ex27, h⟩ := h
  refine r_inc (pc := 272) (loc' := [(8, .int x27), (0, .ref 0), (2, .int a2), (3, .int a3), (5, .int a5), (6, .int a6), (7, .int a7), (9, .int a9)]) dX12_called_272 ki_1 ex27 6 rfl (Nat.le_of_ble_eq_true rfl) rfl ?_
  refine r_aload_n (pc := 275) dX12_called_275 rfl 1 rfl ?_
  refine r_get (pc := 276) (j := 20) (v := .ref 11) oM0 cf12 flRX12_111 rfl dX12_called_276 rfl ?_
  refine r_iload (pc := 279) dX12_called_279 7 rfl ?_
  replace h := if_n h; obtain ⟨hb28, h⟩ := h
  refine r_iald (pc := 281) aM11 (inb_in hb28) dX12_called_281 ?_
  replace h := lt_e h; obtain ⟨x29, ex29, h⟩ := h
  refine r_topi ex29 ?_
  refine r_istore (pc := 282) (loc' := [(9, .int x29), (8, .int x27), (0, .ref 0), (2, .int a2), (3, .int a3), (5, .int a5), (6, .int a6), (7, .int a7)]) dX12_called_282 (Nat.le_of_ble_eq_true rfl) rfl ?_
  refine r_goto (pc := 284) dX12_called_284 rfl ?_
  refine r_drop (loc' := [(0, .ref 0), (2, .int a2), (3, .int a3), (5, .int a5), (6, .int a6), (7, .int a7), (8, .int x27), (9, .int x29)]) [2, 3, 4, 5, 6, 7, 1, 0] rfl ?_
  exact hk_230 a2 a3 a5 a6 a7 x27 x29 w26 h
def oX12_called_230 (rc : TX12_mustBe) : Nat → Int32 → Int32 → Int32 → Int32 → Int32 → Int32 → Int32 → Wd → Option (Int32 × Wd)
  | 0 => fun _ _ _ _ _ _ _ _ => none
  | n + 1 => fX12_called_230 rc (oX12_called_230 rc n)
theorem qX12_called_230 {q : Gq} {l : Launch} {N : Option Value → Wd → Prop} {X : String → Wd → Prop} {rc : TX12_mustBe} {dd : Nat} (hS : HSX12_mustBe q l rc dd) (hK : 5 ≤ dd) {R : Int32 × Wd} (hN : N (some (.int R.1)) R.2) : ∀ (n : Nat) (a2 : Int32) (a3 : Int32) (a5 : Int32) (a6 : Int32) (a7 : Int32) (a8 : Int32) (a9 : Int32) (w : Wd), oX12_called_230 rc n a2 a3 a5 a6 a7 a8 a9 w = some R → RT (GM q) l (dd + 1) yX12_called cX12_called 10 ((some .int)) N X 230 [] [(0, .ref 0), (2, .int a2), (3, .int a3), (5, .int a5), (6, .int a6), (7, .int a7), (8, .int a8), (9, .int a9)] w := by
  intro n
  induction n with
  | zero =>
    intro a2 a3 a5 a6 a7 a8 a9 w h
    exact absurd h (fun q => nomatch q)
  | succ n ih =>
    intro a2 a3 a5 a6 a7 a8 a9 w h
    exact pX12_called_230 hS hK hN ih h
def fX12_called_189 (rc : TX12_mustBe) (a1 : Int32) (a2 : Int32) (a3 : Int32) (a5 : Int32) (w : Wd) : Option (Int32 × Wd) :=
  if inb a5 1200 = true then lt ((gi w 32 (Int32.toNatClampNeg a5))) fun x2 => lt ((gi w 0 77)) fun x3 => if inb a1 24000 = true then lt (si w 0 77 ((gi w 0 77) + (gi w 9 (Int32.toNatClampNeg a1)))) fun w5 => if inb a1 24000 = true then lt ((gi w5 8 (Int32.toNatClampNeg a1))) fun x7 => oX12_called_230 rc FU a2 a3 a5 x2 x3 0 x7 w5 else none else none else none
theorem pX12_called_189 {q : Gq} {l : Launch} {N : Option Value → Wd → Prop} {X : String → Wd → Prop} {rc : TX12_mustBe} {dd : Nat} (hS : HSX12_mustBe q l rc dd) (hK : 5 ≤ dd) {w : Wd} {R : Int32 × Wd} (hN : N (some (.int R.1)) R.2) {a1 : Int32} {a2 : Int32} {a3 : Int32} {a5 : Int32} (h : fX12_called_189 rc a1 a2 a3 a5 w = some R) : RT (GM q) l (dd + 1) yX12_called cX12_called 10 ((some .int)) N X 189 [] [(0, .ref 0), (1, .int a1), (2, .int a2), (3, .int a3), (5, .int a5)] w := by
  unfold fX12_called_189 at h
  refine r_aload_n (pc := 189) dX12_called_189 rfl 0 rfl ?_
  refine r_get (pc := 190) (j := 46) (v := .ref 32) oM0 cf12 flRX12_175 rfl dX12_called_190 rfl ?_
  refine r_iload (pc := 193) dX12_called_193 4 rfl ?_
  replace h := if_n h; obtain ⟨hb1, h⟩ := h
  refine r_iald (pc := 195) aM32 (inb_in hb1) dX12_called_195 ?_
  replace h := lt_e h; obtain ⟨x2, ex2, h⟩ := h
  refine r_topi ex2 ?_
  refine r_istore (pc := 196) (loc' := [(6, .int x2), (0, .ref 0), (1, .int a1), (2, .int a2), (3, .int a3), (5, .int a5)]) dX12_called_196 (Nat.le_of_ble_eq_true rfl) rfl ?_
  refine r_aload_n (pc := 198) dX12_called_198 rfl 1 rfl ?_
  refine r_get (pc := 199) (j := 77) (v := .int (gi w 0 77)) oM0 cf12 flRX12_661 rfl dX12_called_199 rfl ?_
  replace h := lt_e h; obtain ⟨x3, ex3, h⟩ := h
  refine r_topi ex3 ?_
  refine r_istore (pc := 202) (loc' := [(7, .int x3), (6, .int x2), (0, .ref 0), (1, .int a1), (2, .int a2), (3, .int a3), (5, .int a5)]) dX12_called_202 (Nat.le_of_ble_eq_true rfl) rfl ?_
  refine r_aload_n (pc := 204) dX12_called_204 rfl 2 rfl ?_
  refine r_dup (pc := 205) dX12_called_205 rfl ?_
  refine r_get (pc := 206) (j := 77) (v := .int (gi w 0 77)) oM0 cf12 flRX12_661 rfl dX12_called_206 rfl ?_
  refine r_aload_n (pc := 209) dX12_called_209 rfl 2 rfl ?_
  refine r_get (pc := 210) (j := 18) (v := .ref 9) oM0 cf12 flRX12_105 rfl dX12_called_210 rfl ?_
  refine r_iload_n (pc := 213) dX12_called_213 rfl 3 rfl ?_
  replace h := if_n h; obtain ⟨hb4, h⟩ := h
  refine r_iald (pc := 214) aM9 (inb_in hb4) dX12_called_214 ?_
  refine r_iadd (pc := 215) dX12_called_215 ?_
  replace h := lt_e h; obtain ⟨w5, ew5, h⟩ := h
  refine r_putI (pc := 216) (j := 77) oM0 cf12 flRX12_661 rfl rfl rfl rfl dX12_called_216 ?_
  refine r_w ew5 ?_
  refine r_iconst (pc := 219) dX12_called_219 ki_0 ?_
  refine r_istore (pc := 220) (loc' := [(8, .int 0), (7, .int x3), (6, .int x2), (0, .ref 0), (1, .int a1), (2, .int a2), (3, .int a3), (5, .int a5)]) dX12_called_220 (Nat.le_of_ble_eq_true rfl) rfl ?_
  refine r_aload_n (pc := 222) dX12_called_222 rfl 3 rfl ?_
  refine r_get (pc := 223) (j := 17) (v := .ref 8) oM0 cf12 flRX12_102 rfl dX12_called_223 rfl ?_
  refine r_iload_n (pc := 226) dX12_called_226 rfl 4 rfl ?_
  replace h := if_n h; obtain ⟨hb6, h⟩ := h
  refine r_iald (pc := 227) aM8 (inb_in hb6) dX12_called_227 ?_
  replace h := lt_e h; obtain ⟨x7, ex7, h⟩ := h
  refine r_topi ex7 ?_
  refine r_istore (pc := 228) (loc' := [(9, .int x7), (8, .int 0), (7, .int x3), (6, .int x2), (0, .ref 0), (1, .int a1), (2, .int a2), (3, .int a3), (5, .int a5)]) dX12_called_228 (Nat.le_of_ble_eq_true rfl) rfl ?_
  refine r_drop (loc' := [(0, .ref 0), (2, .int a2), (3, .int a3), (5, .int a5), (6, .int x2), (7, .int x3), (8, .int 0), (9, .int x7)]) [4, 6, 7, 8, 3, 2, 1, 0] rfl ?_
  exact qX12_called_230 hS hK hN FU a2 a3 a5 x2 x3 0 x7 w5 h
def fX12_called_162 (rc : TX12_mustBe) (a1 : Int32) (a2 : Int32) (a3 : Int32) (a5 : Int32) (w : Wd) : Option (Int32 × Wd) :=
  if inb a5 1200 = true then if inb a1 24000 = true then if (gi w 31 (Int32.toNatClampNeg a5)) = (gi w 9 (Int32.toNatClampNeg a1)) then (fX12_called_189 rc a1 a2 a3 a5 w) else (if inb a1 24000 = true then bn (fX12_found 5 (gi w 12 (Int32.toNatClampNeg a1)) w) fun w5 => fX12_called_189 rc a1 a2 a3 a5 w5 else none) else none else none
theorem pX12_called_162 {q : Gq} {l : Launch} {N : Option Value → Wd → Prop} {X : String → Wd → Prop} {rc : TX12_mustBe} {dd : Nat} (hS : HSX12_mustBe q l rc dd) (hK : 5 ≤ dd) {w : Wd} {R : Int32 × Wd} (hN : N (some (.int R.1)) R.2) {a1 : Int32} {a2 : Int32} {a3 : Int32} {a5 : Int32} (h : fX12_called_162 rc a1 a2 a3 a5 w = some R) : RT (GM q) l (dd + 1) yX12_called cX12_called 10 ((some .int)) N X 162 [] [(0, .ref 0), (1, .int a1), (2, .int a2), (3, .int a3), (5, .int a5)] w := by
  unfold fX12_called_162 at h
  refine r_aload_n (pc := 162) dX12_called_162 rfl 0 rfl ?_
  refine r_get (pc := 163) (j := 45) (v := .ref 31) oM0 cf12 flRX12_172 rfl dX12_called_163 rfl ?_
  refine r_iload (pc := 166) dX12_called_166 4 rfl ?_
  replace h := if_n h; obtain ⟨hb1, h⟩ := h
  refine r_iald (pc := 168) aM31 (inb_in hb1) dX12_called_168 ?_
  refine r_aload_n (pc := 169) dX12_called_169 rfl 0 rfl ?_
  refine r_get (pc := 170) (j := 18) (v := .ref 9) oM0 cf12 flRX12_105 rfl dX12_called_170 rfl ?_
  refine r_iload_n (pc := 173) dX12_called_173 rfl 1 rfl ?_
  replace h := if_n h; obtain ⟨hb2, h⟩ := h
  refine r_iald (pc := 174) aM9 (inb_in hb2) dX12_called_174 ?_
  refine r_icmp_eq (pc := 175) dX12_called_175 rfl (fun hc3 => ?_) (fun hc3 => ?_)
  · replace h := if_t hc3 h
    exact pX12_called_189 hS hK hN h
  replace h := if_f hc3 h
  refine r_aload_n (pc := 178) dX12_called_178 rfl 0 rfl ?_
  refine r_iconst (pc := 179) dX12_called_179 ki_5 ?_
  refine r_aload_n (pc := 180) dX12_called_180 rfl 0 rfl ?_
  refine r_get (pc := 181) (j := 21) (v := .ref 12) oM0 cf12 flRX12_114 rfl dX12_called_181 rfl ?_
  refine r_iload_n (pc := 184) dX12_called_184 rfl 1 rfl ?_
  replace h := if_n h; obtain ⟨hb4, h⟩ := h
  refine r_iald (pc := 185) aM12 (inb_in hb4) dX12_called_185 ?_
  replace h := bn_e h; obtain ⟨w5, ew5, h⟩ := h
  refine r_cVv (pc := 186) wyX12_found oM0 rfl mlRX12_484 iyX12_found syX12_found ⟨Nat.succ_le_succ (Nat.le_trans (Nat.le_of_ble_eq_true rfl) hK), (Nat.le_of_ble_eq_true rfl)⟩ rfl rfl (Nat.le_of_ble_eq_true rfl) dX12_called_186 (mX12_found ew5 (pV.mk ?_))
  exact pX12_called_189 hS hK hN h
def fX12_called (rc : TX12_mustBe) (a1 : Int32) (a2 : Int32) (w : Wd) : Option (Int32 × Wd) :=
  bn2 (fX12_seen a1 w) fun x1 w2 => if x1 < 0 then (if inb a1 24000 = true then lt ((gi w2 8 (Int32.toNatClampNeg a1))) fun x5 => oX12_called_28 rc FU a1 a2 x1 x5 w2 else none) else (if inb x1 5000 = true then if (gi w2 19 (Int32.toNatClampNeg x1)) = 3 then (if inb x1 5000 = true then lt ((gi w2 24 (Int32.toNatClampNeg x1))) fun x9 => if a2 = 0 then (fX12_called_162 rc a1 a2 x1 x9 w2) else (if inb x1 5000 = true then if (gi w2 20 (Int32.toNatClampNeg x1)) = 0 then (bn2 (fX12_wrongName a1 w2) fun x13 w14 => fX12_called_162 rc a1 a2 x1 x9 w14) else (fX12_called_162 rc a1 a2 x1 x9 w2) else none) else none) else (if inb a1 24000 = true then lt ((gi w2 8 (Int32.toNatClampNeg a1))) fun x16 => oX12_called_28 rc FU a1 a2 x1 x16 w2 else none) else none)
theorem pX12_called {q : Gq} {l : Launch} {N : Option Value → Wd → Prop} {X : String → Wd → Prop} {rc : TX12_mustBe} {dd : Nat} (hS : HSX12_mustBe q l rc dd) (hK : 5 ≤ dd) {w : Wd} {R : Int32 × Wd} (hN : N (some (.int R.1)) R.2) {a1 : Int32} {a2 : Int32} (h : fX12_called rc a1 a2 w = some R) : RT (GM q) l (dd + 1) yX12_called cX12_called 10 ((some .int)) N X 0 [] [(0, .ref 0), (1, .int a1), (2, .int a2)] w := by
  unfold fX12_called at h
  refine r_aload_n (pc := 0) dX12_called_0 rfl 0 rfl ?_
  refine r_iload_n (pc := 1) dX12_called_1 rfl 1 rfl ?_
  replace h := bn2_e h; obtain ⟨x1, w2, ew2, h⟩ := h
  refine r_cVi (pc := 2) wyX12_seen oM0 rfl mlRX12_638 iyX12_seen syX12_seen ⟨Nat.succ_le_succ (Nat.le_trans (Nat.le_of_ble_eq_true rfl) hK), (Nat.le_of_ble_eq_true rfl)⟩ rfl rfl (Nat.le_of_ble_eq_true rfl) dX12_called_2 (mX12_seen ew2 (pI.mk ?_))
  refine r_istore_n (pc := 5) (loc' := [(3, .int x1), (0, .ref 0), (1, .int a1), (2, .int a2)]) dX12_called_5 rfl (Nat.le_of_ble_eq_true rfl) rfl ?_
  refine r_iload_n (pc := 6) dX12_called_6 rfl 0 rfl ?_
  refine r_if_lt (pc := 7) dX12_called_7 rfl (fun hc3 => ?_) (fun hc3 => ?_)
  · replace h := if_t hc3 h
    refine r_aload_n (pc := 20) dX12_called_20 rfl 1 rfl ?_
    refine r_get (pc := 21) (j := 17) (v := .ref 8) oM0 cf12 flRX12_102 rfl dX12_called_21 rfl ?_
    refine r_iload_n (pc := 24) dX12_called_24 rfl 2 rfl ?_
    replace h := if_n h; obtain ⟨hb4, h⟩ := h
    refine r_iald (pc := 25) aM8 (inb_in hb4) dX12_called_25 ?_
    replace h := lt_e h; obtain ⟨x5, ex5, h⟩ := h
    refine r_topi ex5 ?_
    refine r_istore (pc := 26) (loc' := [(5, .int x5), (3, .int x1), (0, .ref 0), (1, .int a1), (2, .int a2)]) dX12_called_26 (Nat.le_of_ble_eq_true rfl) rfl ?_
    refine r_drop (loc' := [(0, .ref 0), (1, .int a1), (2, .int a2), (3, .int x1), (5, .int x5)]) [2, 3, 4, 1, 0] rfl ?_
    exact qX12_called_28 hS hK hN FU a1 a2 x1 x5 w2 h
  replace h := if_f hc3 h
  refine r_aload_n (pc := 10) dX12_called_10 rfl 1 rfl ?_
  refine r_get (pc := 11) (j := 32) (v := .ref 19) oM0 cf12 flRX12_135 rfl dX12_called_11 rfl ?_
  refine r_iload_n (pc := 14) dX12_called_14 rfl 0 rfl ?_
  replace h := if_n h; obtain ⟨hb6, h⟩ := h
  refine r_iald (pc := 15) aM19 (inb_in hb6) dX12_called_15 ?_
  refine r_iconst (pc := 16) dX12_called_16 ki_3 ?_
  refine r_icmp_eq (pc := 17) dX12_called_17 rfl (fun hc7 => ?_) (fun hc7 => ?_)
  · replace h := if_t hc7 h
    refine r_aload_n (pc := 134) dX12_called_134 rfl 1 rfl ?_
    refine r_get (pc := 135) (j := 37) (v := .ref 24) oM0 cf12 flRX12_150 rfl dX12_called_135 rfl ?_
    refine r_iload_n (pc := 138) dX12_called_138 rfl 0 rfl ?_
    replace h := if_n h; obtain ⟨hb8, h⟩ := h
    refine r_iald (pc := 139) aM24 (inb_in hb8) dX12_called_139 ?_
    replace h := lt_e h; obtain ⟨x9, ex9, h⟩ := h
    refine r_topi ex9 ?_
    refine r_istore (pc := 140) (loc' := [(5, .int x9), (3, .int x1), (0, .ref 0), (1, .int a1), (2, .int a2)]) dX12_called_140 (Nat.le_of_ble_eq_true rfl) rfl ?_
    refine r_iload_n (pc := 142) dX12_called_142 rfl 4 rfl ?_
    refine r_if_eq (pc := 143) dX12_called_143 rfl (fun hc10 => ?_) (fun hc10 => ?_)
    · replace h := if_t hc10 h
      refine r_drop (loc' := [(0, .ref 0), (1, .int a1), (2, .int a2), (3, .int x1), (5, .int x9)]) [2, 3, 4, 1, 0] rfl ?_
      exact pX12_called_162 hS hK hN h
    replace h := if_f hc10 h
    refine r_aload_n (pc := 146) dX12_called_146 rfl 2 rfl ?_
    refine r_get (pc := 147) (j := 33) (v := .ref 20) oM0 cf12 flRX12_138 rfl dX12_called_147 rfl ?_
    refine r_iload_n (pc := 150) dX12_called_150 rfl 1 rfl ?_
    replace h := if_n h; obtain ⟨hb11, h⟩ := h
    refine r_iald (pc := 151) aM20 (inb_in hb11) dX12_called_151 ?_
    refine r_if_ne (pc := 152) dX12_called_152 rfl (fun hc12 => ?_) (fun hc12 => ?_)
    · replace h := if_f hc12 h
      refine r_drop (loc' := [(0, .ref 0), (1, .int a1), (2, .int a2), (3, .int x1), (5, .int x9)]) [2, 3, 4, 1, 0] rfl ?_
      exact pX12_called_162 hS hK hN h
    replace h := if_t hc12 h
    refine r_aload_n (pc := 155) dX12_called_155 rfl 2 rfl ?_
    refine r_iload_n (pc := 156) dX12_called_156 rfl 3 rfl ?_
    replace h := bn2_e h; obtain ⟨x13, w14, ew14, h⟩ := h
    refine r_cVi (pc := 157) wyX12_wrongName oM0 rfl mlRX12_648 iyX12_wrongName syX12_wrongName ⟨Nat.succ_le_succ (Nat.le_trans (Nat.le_of_ble_eq_true rfl) hK), (Nat.le_of_ble_eq_true rfl)⟩ rfl rfl (Nat.le_of_ble_eq_true rfl) dX12_called_157 (mX12_wrongName ew14 (pI.mk ?_))
    refine r_istore (pc := 160) (loc' := [(4, .int x13), (5, .int x9), (3, .int x1), (0, .ref 0), (1, .int a1), (2, .int a2)]) dX12_called_160 (Nat.le_of_ble_eq_true rfl) rfl ?_
    refine r_drop (loc' := [(0, .ref 0), (1, .int a1), (2, .int a2), (3, .int x1), (5, .int x9)]) [3, 4, 5, 2, 1] rfl ?_
    exact pX12_called_162 hS hK hN h
  replace h := if_f hc7 h
  refine r_aload_n (pc := 20) dX12_called_20 rfl 1 rfl ?_
  refine r_get (pc := 21) (j := 17) (v := .ref 8) oM0 cf12 flRX12_102 rfl dX12_called_21 rfl ?_
  refine r_iload_n (pc := 24) dX12_called_24 rfl 2 rfl ?_
  replace h := if_n h; obtain ⟨hb15, h⟩ := h
  refine r_iald (pc := 25) aM8 (inb_in hb15) dX12_called_25 ?_
  replace h := lt_e h; obtain ⟨x16, ex16, h⟩ := h
  refine r_topi ex16 ?_
  refine r_istore (pc := 26) (loc' := [(5, .int x16), (3, .int x1), (0, .ref 0), (1, .int a1), (2, .int a2)]) dX12_called_26 (Nat.le_of_ble_eq_true rfl) rfl ?_
  refine r_drop (loc' := [(0, .ref 0), (1, .int a1), (2, .int a2), (3, .int x1), (5, .int x16)]) [2, 3, 4, 1, 0] rfl ?_
  exact qX12_called_28 hS hK hN FU a1 a2 x1 x16 w2 h
/-! AlgolMillModel.joined (III)I: O, 1705 -/
theorem dX12_joined_0 : decode cX12_joined 0 = .ok (.aload_n 0, 1) := by decide +kernel
theorem dX12_joined_1 : decode cX12_joined 1 = .ok (.getfield 105, 3) := by decide +kernel
theorem dX12_joined_4 : decode cX12_joined 4 = .ok (.iload_n 1, 1) := by decide +kernel
theorem dX12_joined_5 : decode cX12_joined 5 = .ok (.iaload, 1) := by decide +kernel
theorem dX12_joined_6 : decode cX12_joined 6 = .ok (.istore 4, 2) := by decide +kernel
theorem dX12_joined_8 : decode cX12_joined 8 = .ok (.iload 4, 2) := by decide +kernel
theorem dX12_joined_10 : decode cX12_joined 10 = .ok (.invokestatic 593, 3) := by decide +kernel
theorem dX12_joined_13 : decode cX12_joined 13 = .ok (.istore 5, 2) := by decide +kernel
theorem dX12_joined_15 : decode cX12_joined 15 = .ok (.iload 4, 2) := by decide +kernel
theorem dX12_joined_17 : decode cX12_joined 17 = .ok (.bipush 61, 2) := by decide +kernel
theorem dX12_joined_19 : decode cX12_joined 19 = .ok (.if_icmp .eq 11, 3) := by decide +kernel
theorem dX12_joined_22 : decode cX12_joined 22 = .ok (.iload 4, 2) := by decide +kernel
theorem dX12_joined_24 : decode cX12_joined 24 = .ok (.sipush 289, 3) := by decide +kernel
theorem dX12_joined_27 : decode cX12_joined 27 = .ok (.if_icmp .ne 49, 3) := by decide +kernel
theorem dX12_joined_30 : decode cX12_joined 30 = .ok (.aload_n 0, 1) := by decide +kernel
theorem dX12_joined_31 : decode cX12_joined 31 = .ok (.aload_n 0, 1) := by decide +kernel
theorem dX12_joined_32 : decode cX12_joined 32 = .ok (.getfield 108, 3) := by decide +kernel
theorem dX12_joined_35 : decode cX12_joined 35 = .ok (.iload_n 1, 1) := by decide +kernel
theorem dX12_joined_36 : decode cX12_joined 36 = .ok (.iaload, 1) := by decide +kernel
theorem dX12_joined_37 : decode cX12_joined 37 = .ok (.invokevirtual 607, 3) := by decide +kernel
theorem dX12_joined_40 : decode cX12_joined 40 = .ok (.istore 6, 2) := by decide +kernel
theorem dX12_joined_42 : decode cX12_joined 42 = .ok (.iload_n 3, 1) := by decide +kernel
theorem dX12_joined_43 : decode cX12_joined 43 = .ok (.ifCond .eq 30, 3) := by decide +kernel
theorem dX12_joined_46 : decode cX12_joined 46 = .ok (.iload 6, 2) := by decide +kernel
theorem dX12_joined_48 : decode cX12_joined 48 = .ok (.ifCond .eq 25, 3) := by decide +kernel
theorem dX12_joined_51 : decode cX12_joined 51 = .ok (.iload_n 3, 1) := by decide +kernel
theorem dX12_joined_52 : decode cX12_joined 52 = .ok (.iload 6, 2) := by decide +kernel
theorem dX12_joined_54 : decode cX12_joined 54 = .ok (.if_icmp .eq 19, 3) := by decide +kernel
theorem dX12_joined_57 : decode cX12_joined 57 = .ok (.aload_n 0, 1) := by decide +kernel
theorem dX12_joined_58 : decode cX12_joined 58 = .ok (.iconst 4, 1) := by decide +kernel
theorem dX12_joined_59 : decode cX12_joined 59 = .ok (.aload_n 0, 1) := by decide +kernel
theorem dX12_joined_60 : decode cX12_joined 60 = .ok (.getfield 114, 3) := by decide +kernel
theorem dX12_joined_63 : decode cX12_joined 63 = .ok (.aload_n 0, 1) := by decide +kernel
theorem dX12_joined_64 : decode cX12_joined 64 = .ok (.getfield 108, 3) := by decide +kernel
theorem dX12_joined_67 : decode cX12_joined 67 = .ok (.iload_n 1, 1) := by decide +kernel
theorem dX12_joined_68 : decode cX12_joined 68 = .ok (.iaload, 1) := by decide +kernel
theorem dX12_joined_69 : decode cX12_joined 69 = .ok (.iaload, 1) := by decide +kernel
theorem dX12_joined_70 : decode cX12_joined 70 = .ok (.invokevirtual 484, 3) := by decide +kernel
theorem dX12_joined_73 : decode cX12_joined 73 = .ok (.goto 49, 3) := by decide +kernel
theorem dX12_joined_76 : decode cX12_joined 76 = .ok (.iload 5, 2) := by decide +kernel
theorem dX12_joined_78 : decode cX12_joined 78 = .ok (.iconst 4, 1) := by decide +kernel
theorem dX12_joined_79 : decode cX12_joined 79 = .ok (.if_icmp .gt 7, 3) := by decide +kernel
theorem dX12_joined_82 : decode cX12_joined 82 = .ok (.iconst 2, 1) := by decide +kernel
theorem dX12_joined_83 : decode cX12_joined 83 = .ok (.goto 4, 3) := by decide +kernel
theorem dX12_joined_86 : decode cX12_joined 86 = .ok (.iconst 1, 1) := by decide +kernel
theorem dX12_joined_87 : decode cX12_joined 87 = .ok (.istore 6, 2) := by decide +kernel
theorem dX12_joined_89 : decode cX12_joined 89 = .ok (.iload_n 3, 1) := by decide +kernel
theorem dX12_joined_90 : decode cX12_joined 90 = .ok (.ifCond .eq 20, 3) := by decide +kernel
theorem dX12_joined_93 : decode cX12_joined 93 = .ok (.iload_n 3, 1) := by decide +kernel
theorem dX12_joined_94 : decode cX12_joined 94 = .ok (.iload 6, 2) := by decide +kernel
theorem dX12_joined_96 : decode cX12_joined 96 = .ok (.if_icmp .eq 14, 3) := by decide +kernel
theorem dX12_joined_99 : decode cX12_joined 99 = .ok (.aload_n 0, 1) := by decide +kernel
theorem dX12_joined_100 : decode cX12_joined 100 = .ok (.iconst 4, 1) := by decide +kernel
theorem dX12_joined_101 : decode cX12_joined 101 = .ok (.aload_n 0, 1) := by decide +kernel
theorem dX12_joined_102 : decode cX12_joined 102 = .ok (.getfield 114, 3) := by decide +kernel
theorem dX12_joined_105 : decode cX12_joined 105 = .ok (.iload_n 2, 1) := by decide +kernel
theorem dX12_joined_106 : decode cX12_joined 106 = .ok (.iaload, 1) := by decide +kernel
theorem dX12_joined_107 : decode cX12_joined 107 = .ok (.invokevirtual 484, 3) := by decide +kernel
theorem dX12_joined_110 : decode cX12_joined 110 = .ok (.aload_n 0, 1) := by decide +kernel
theorem dX12_joined_111 : decode cX12_joined 111 = .ok (.aload_n 0, 1) := by decide +kernel
theorem dX12_joined_112 : decode cX12_joined 112 = .ok (.getfield 108, 3) := by decide +kernel
theorem dX12_joined_115 : decode cX12_joined 115 = .ok (.iload_n 1, 1) := by decide +kernel
theorem dX12_joined_116 : decode cX12_joined 116 = .ok (.iaload, 1) := by decide +kernel
theorem dX12_joined_117 : decode cX12_joined 117 = .ok (.iload 6, 2) := by decide +kernel
theorem dX12_joined_119 : decode cX12_joined 119 = .ok (.invokevirtual 622, 3) := by decide +kernel
theorem dX12_joined_122 : decode cX12_joined 122 = .ok (.aload_n 0, 1) := by decide +kernel
theorem dX12_joined_123 : decode cX12_joined 123 = .ok (.bipush 8, 2) := by decide +kernel
theorem dX12_joined_125 : decode cX12_joined 125 = .ok (.iload 4, 2) := by decide +kernel
theorem dX12_joined_127 : decode cX12_joined 127 = .ok (.iconst 0, 1) := by decide +kernel
theorem dX12_joined_128 : decode cX12_joined 128 = .ok (.iconst 0, 1) := by decide +kernel
theorem dX12_joined_129 : decode cX12_joined 129 = .ok (.invokevirtual 609, 3) := by decide +kernel
theorem dX12_joined_132 : decode cX12_joined 132 = .ok (.istore 6, 2) := by decide +kernel
theorem dX12_joined_134 : decode cX12_joined 134 = .ok (.iload 5, 2) := by decide +kernel
theorem dX12_joined_136 : decode cX12_joined 136 = .ok (.bipush 6, 2) := by decide +kernel
theorem dX12_joined_138 : decode cX12_joined 138 = .ok (.if_icmp .gt 7, 3) := by decide +kernel
theorem dX12_joined_141 : decode cX12_joined 141 = .ok (.iconst 2, 1) := by decide +kernel
theorem dX12_joined_142 : decode cX12_joined 142 = .ok (.goto 4, 3) := by decide +kernel
theorem dX12_joined_145 : decode cX12_joined 145 = .ok (.iconst 1, 1) := by decide +kernel
theorem dX12_joined_146 : decode cX12_joined 146 = .ok (.ireturn, 1) := by decide +kernel
def fX12_joined_122 (rc : TX12_mustBe) (a4 : Int32) (a5 : Int32) (w : Wd) : Option (Int32 × Wd) :=
  bn2 (fX12_op 8 a4 0 0 w) fun x1 w2 => if 6 < a5 then (some (1, w2)) else (some (2, w2))
theorem pX12_joined_122 {q : Gq} {l : Launch} {N : Option Value → Wd → Prop} {X : String → Wd → Prop} {rc : TX12_mustBe} {dd : Nat} (hS : HSX12_mustBe q l rc dd) (hK : 5 ≤ dd) {w : Wd} {R : Int32 × Wd} (hN : N (some (.int R.1)) R.2) {a4 : Int32} {a5 : Int32} (h : fX12_joined_122 rc a4 a5 w = some R) : RT (GM q) l (dd + 1) yX12_joined cX12_joined 7 ((some .int)) N X 122 [] [(0, .ref 0), (4, .int a4), (5, .int a5)] w := by
  unfold fX12_joined_122 at h
  refine r_aload_n (pc := 122) dX12_joined_122 rfl 0 rfl ?_
  refine r_bipush (pc := 123) dX12_joined_123 kb_8 ?_
  refine r_iload (pc := 125) dX12_joined_125 1 rfl ?_
  refine r_iconst (pc := 127) dX12_joined_127 ki_0 ?_
  refine r_iconst (pc := 128) dX12_joined_128 ki_0 ?_
  replace h := bn2_e h; obtain ⟨x1, w2, ew2, h⟩ := h
  refine r_cVi (pc := 129) wyX12_op oM0 rfl mlRX12_609 iyX12_op syX12_op ⟨Nat.succ_le_succ (Nat.le_trans (Nat.le_of_ble_eq_true rfl) hK), (Nat.le_of_ble_eq_true rfl)⟩ rfl rfl (Nat.le_of_ble_eq_true rfl) dX12_joined_129 (mX12_op ew2 (pI.mk ?_))
  refine r_istore (pc := 132) (loc' := [(6, .int x1), (0, .ref 0), (4, .int a4), (5, .int a5)]) dX12_joined_132 (Nat.le_of_ble_eq_true rfl) rfl ?_
  refine r_iload (pc := 134) dX12_joined_134 3 rfl ?_
  refine r_bipush (pc := 136) dX12_joined_136 kb_6 ?_
  refine r_icmp_gt (pc := 138) dX12_joined_138 rfl (fun hc3 => ?_) (fun hc3 => ?_)
  · replace h := if_t hc3 h
    refine r_iconst (pc := 145) dX12_joined_145 ki_1 ?_
    exact rO_i (pc := 146) rfl dX12_joined_146 h hN
  replace h := if_f hc3 h
  refine r_iconst (pc := 141) dX12_joined_141 ki_2 ?_
  refine r_goto (pc := 142) dX12_joined_142 rfl ?_
  exact rO_i (pc := 146) rfl dX12_joined_146 h hN
def fX12_joined_30 (rc : TX12_mustBe) (a1 : Int32) (a3 : Int32) (a4 : Int32) (a5 : Int32) (w : Wd) : Option (Int32 × Wd) :=
  if inb a1 24000 = true then bn2 (rc 1 (gi w 10 (Int32.toNatClampNeg a1)) 0 0 w) fun x2 w3 => if a3 = 0 then (fX12_joined_122 rc a4 a5 w3) else (if x2 = 0 then (fX12_joined_122 rc a4 a5 w3) else (if a3 = x2 then (fX12_joined_122 rc a4 a5 w3) else (if inb a1 24000 = true then if inb (gi w3 10 (Int32.toNatClampNeg a1)) 24000 = true then bn (fX12_found 4 (gi w3 12 (Int32.toNatClampNeg (gi w3 10 (Int32.toNatClampNeg a1)))) w3) fun w9 => fX12_joined_122 rc a4 a5 w9 else none else none))) else none
theorem pX12_joined_30 {q : Gq} {l : Launch} {N : Option Value → Wd → Prop} {X : String → Wd → Prop} {rc : TX12_mustBe} {dd : Nat} (hS : HSX12_mustBe q l rc dd) (hK : 5 ≤ dd) {w : Wd} {R : Int32 × Wd} (hN : N (some (.int R.1)) R.2) {a1 : Int32} {a3 : Int32} {a4 : Int32} {a5 : Int32} (h : fX12_joined_30 rc a1 a3 a4 a5 w = some R) : RT (GM q) l (dd + 1) yX12_joined cX12_joined 7 ((some .int)) N X 30 [] [(0, .ref 0), (1, .int a1), (3, .int a3), (4, .int a4), (5, .int a5)] w := by
  unfold fX12_joined_30 at h
  refine r_aload_n (pc := 30) dX12_joined_30 rfl 0 rfl ?_
  refine r_aload_n (pc := 31) dX12_joined_31 rfl 0 rfl ?_
  refine r_get (pc := 32) (j := 19) (v := .ref 10) oM0 cf12 flRX12_108 rfl dX12_joined_32 rfl ?_
  refine r_iload_n (pc := 35) dX12_joined_35 rfl 1 rfl ?_
  replace h := if_n h; obtain ⟨hb1, h⟩ := h
  refine r_iald (pc := 36) aM10 (inb_in hb1) dX12_joined_36 ?_
  replace h := bn2_e h; obtain ⟨x2, w3, ew3, h⟩ := h
  refine r_cVi (pc := 37) wyX12_value oM0 rfl mlRX12_607 iyX12_value syX12_value ⟨Nat.le_refl _, (Nat.le_of_ble_eq_true rfl)⟩ rfl rfl (Nat.le_of_ble_eq_true rfl) dX12_joined_37 ((hS.2.1 _ _ _ _ _ _) ew3 (pI.mk ?_))
  refine r_istore (pc := 40) (loc' := [(6, .int x2), (0, .ref 0), (1, .int a1), (3, .int a3), (4, .int a4), (5, .int a5)]) dX12_joined_40 (Nat.le_of_ble_eq_true rfl) rfl ?_
  refine r_iload_n (pc := 42) dX12_joined_42 rfl 3 rfl ?_
  refine r_if_eq (pc := 43) dX12_joined_43 rfl (fun hc4 => ?_) (fun hc4 => ?_)
  · replace h := if_t hc4 h
    refine r_goto (pc := 73) dX12_joined_73 rfl ?_
    refine r_drop (loc' := [(0, .ref 0), (4, .int a4), (5, .int a5)]) [1, 4, 5] rfl ?_
    exact pX12_joined_122 hS hK hN h
  replace h := if_f hc4 h
  refine r_iload (pc := 46) dX12_joined_46 0 rfl ?_
  refine r_if_eq (pc := 48) dX12_joined_48 rfl (fun hc5 => ?_) (fun hc5 => ?_)
  · replace h := if_t hc5 h
    refine r_goto (pc := 73) dX12_joined_73 rfl ?_
    refine r_drop (loc' := [(0, .ref 0), (4, .int a4), (5, .int a5)]) [1, 4, 5] rfl ?_
    exact pX12_joined_122 hS hK hN h
  replace h := if_f hc5 h
  refine r_iload_n (pc := 51) dX12_joined_51 rfl 3 rfl ?_
  refine r_iload (pc := 52) dX12_joined_52 0 rfl ?_
  refine r_icmp_eq (pc := 54) dX12_joined_54 rfl (fun hc6 => ?_) (fun hc6 => ?_)
  · replace h := if_t hc6 h
    refine r_goto (pc := 73) dX12_joined_73 rfl ?_
    refine r_drop (loc' := [(0, .ref 0), (4, .int a4), (5, .int a5)]) [1, 4, 5] rfl ?_
    exact pX12_joined_122 hS hK hN h
  replace h := if_f hc6 h
  refine r_aload_n (pc := 57) dX12_joined_57 rfl 1 rfl ?_
  refine r_iconst (pc := 58) dX12_joined_58 ki_4 ?_
  refine r_aload_n (pc := 59) dX12_joined_59 rfl 1 rfl ?_
  refine r_get (pc := 60) (j := 21) (v := .ref 12) oM0 cf12 flRX12_114 rfl dX12_joined_60 rfl ?_
  refine r_aload_n (pc := 63) dX12_joined_63 rfl 1 rfl ?_
  refine r_get (pc := 64) (j := 19) (v := .ref 10) oM0 cf12 flRX12_108 rfl dX12_joined_64 rfl ?_
  refine r_iload_n (pc := 67) dX12_joined_67 rfl 2 rfl ?_
  replace h := if_n h; obtain ⟨hb7, h⟩ := h
  refine r_iald (pc := 68) aM10 (inb_in hb7) dX12_joined_68 ?_
  replace h := if_n h; obtain ⟨hb8, h⟩ := h
  refine r_iald (pc := 69) aM12 (inb_in hb8) dX12_joined_69 ?_
  replace h := bn_e h; obtain ⟨w9, ew9, h⟩ := h
  refine r_cVv (pc := 70) wyX12_found oM0 rfl mlRX12_484 iyX12_found syX12_found ⟨Nat.succ_le_succ (Nat.le_trans (Nat.le_of_ble_eq_true rfl) hK), (Nat.le_of_ble_eq_true rfl)⟩ rfl rfl (Nat.le_of_ble_eq_true rfl) dX12_joined_70 (mX12_found ew9 (pV.mk ?_))
  refine r_goto (pc := 73) dX12_joined_73 rfl ?_
  refine r_drop (loc' := [(0, .ref 0), (4, .int a4), (5, .int a5)]) [1, 4, 5] rfl ?_
  exact pX12_joined_122 hS hK hN h
def fX12_joined_87 (rc : TX12_mustBe) (s0 : Int32) (a1 : Int32) (a2 : Int32) (a3 : Int32) (a4 : Int32) (a5 : Int32) (w : Wd) : Option (Int32 × Wd) :=
  if a3 = 0 then (if inb a1 24000 = true then bn2 (rc 0 (gi w 10 (Int32.toNatClampNeg a1)) s0 0 w) fun _ w4 => fX12_joined_122 rc a4 a5 w4 else none) else (if a3 = s0 then (if inb a1 24000 = true then bn2 (rc 0 (gi w 10 (Int32.toNatClampNeg a1)) s0 0 w) fun _ w8 => fX12_joined_122 rc a4 a5 w8 else none) else (if inb a2 24000 = true then bn (fX12_found 4 (gi w 12 (Int32.toNatClampNeg a2)) w) fun w10 => if inb a1 24000 = true then bn2 (rc 0 (gi w10 10 (Int32.toNatClampNeg a1)) s0 0 w10) fun _ w13 => fX12_joined_122 rc a4 a5 w13 else none else none))
theorem pX12_joined_87 {q : Gq} {l : Launch} {N : Option Value → Wd → Prop} {X : String → Wd → Prop} {rc : TX12_mustBe} {dd : Nat} (hS : HSX12_mustBe q l rc dd) (hK : 5 ≤ dd) {w : Wd} {R : Int32 × Wd} (hN : N (some (.int R.1)) R.2) {s0 : Int32} {a1 : Int32} {a2 : Int32} {a3 : Int32} {a4 : Int32} {a5 : Int32} (h : fX12_joined_87 rc s0 a1 a2 a3 a4 a5 w = some R) : RT (GM q) l (dd + 1) yX12_joined cX12_joined 7 ((some .int)) N X 87 [.int s0] [(0, .ref 0), (1, .int a1), (2, .int a2), (3, .int a3), (4, .int a4), (5, .int a5)] w := by
  unfold fX12_joined_87 at h
  refine r_istore (pc := 87) (loc' := [(6, .int s0), (0, .ref 0), (1, .int a1), (2, .int a2), (3, .int a3), (4, .int a4), (5, .int a5)]) dX12_joined_87 (Nat.le_of_ble_eq_true rfl) rfl ?_
  refine r_iload_n (pc := 89) dX12_joined_89 rfl 4 rfl ?_
  refine r_if_eq (pc := 90) dX12_joined_90 rfl (fun hc1 => ?_) (fun hc1 => ?_)
  · replace h := if_t hc1 h
    refine r_aload_n (pc := 110) dX12_joined_110 rfl 1 rfl ?_
    refine r_aload_n (pc := 111) dX12_joined_111 rfl 1 rfl ?_
    refine r_get (pc := 112) (j := 19) (v := .ref 10) oM0 cf12 flRX12_108 rfl dX12_joined_112 rfl ?_
    refine r_iload_n (pc := 115) dX12_joined_115 rfl 2 rfl ?_
    replace h := if_n h; obtain ⟨hb2, h⟩ := h
    refine r_iald (pc := 116) aM10 (inb_in hb2) dX12_joined_116 ?_
    refine r_iload (pc := 117) dX12_joined_117 0 rfl ?_
    replace h := bn2_e h; obtain ⟨x3, w4, ew4, h⟩ := h
    refine r_cVv (pc := 119) wyX12_mustBe oM0 rfl mlRX12_622 iyX12_mustBe syX12_mustBe ⟨Nat.le_refl _, (Nat.le_of_ble_eq_true rfl)⟩ rfl rfl (Nat.le_of_ble_eq_true rfl) dX12_joined_119 ((hS.1 _ _ _ _ _ _ _) ew4 (pV.mk ?_))
    refine r_drop (loc' := [(0, .ref 0), (4, .int a4), (5, .int a5)]) [1, 5, 6] rfl ?_
    exact pX12_joined_122 hS hK hN h
  replace h := if_f hc1 h
  refine r_iload_n (pc := 93) dX12_joined_93 rfl 4 rfl ?_
  refine r_iload (pc := 94) dX12_joined_94 0 rfl ?_
  refine r_icmp_eq (pc := 96) dX12_joined_96 rfl (fun hc5 => ?_) (fun hc5 => ?_)
  · replace h := if_t hc5 h
    refine r_aload_n (pc := 110) dX12_joined_110 rfl 1 rfl ?_
    refine r_aload_n (pc := 111) dX12_joined_111 rfl 1 rfl ?_
    refine r_get (pc := 112) (j := 19) (v := .ref 10) oM0 cf12 flRX12_108 rfl dX12_joined_112 rfl ?_
    refine r_iload_n (pc := 115) dX12_joined_115 rfl 2 rfl ?_
    replace h := if_n h; obtain ⟨hb6, h⟩ := h
    refine r_iald (pc := 116) aM10 (inb_in hb6) dX12_joined_116 ?_
    refine r_iload (pc := 117) dX12_joined_117 0 rfl ?_
    replace h := bn2_e h; obtain ⟨x7, w8, ew8, h⟩ := h
    refine r_cVv (pc := 119) wyX12_mustBe oM0 rfl mlRX12_622 iyX12_mustBe syX12_mustBe ⟨Nat.le_refl _, (Nat.le_of_ble_eq_true rfl)⟩ rfl rfl (Nat.le_of_ble_eq_true rfl) dX12_joined_119 ((hS.1 _ _ _ _ _ _ _) ew8 (pV.mk ?_))
    refine r_drop (loc' := [(0, .ref 0), (4, .int a4), (5, .int a5)]) [1, 5, 6] rfl ?_
    exact pX12_joined_122 hS hK hN h
  replace h := if_f hc5 h
  refine r_aload_n (pc := 99) dX12_joined_99 rfl 1 rfl ?_
  refine r_iconst (pc := 100) dX12_joined_100 ki_4 ?_
  refine r_aload_n (pc := 101) dX12_joined_101 rfl 1 rfl ?_
  refine r_get (pc := 102) (j := 21) (v := .ref 12) oM0 cf12 flRX12_114 rfl dX12_joined_102 rfl ?_
  refine r_iload_n (pc := 105) dX12_joined_105 rfl 3 rfl ?_
  replace h := if_n h; obtain ⟨hb9, h⟩ := h
  refine r_iald (pc := 106) aM12 (inb_in hb9) dX12_joined_106 ?_
  replace h := bn_e h; obtain ⟨w10, ew10, h⟩ := h
  refine r_cVv (pc := 107) wyX12_found oM0 rfl mlRX12_484 iyX12_found syX12_found ⟨Nat.succ_le_succ (Nat.le_trans (Nat.le_of_ble_eq_true rfl) hK), (Nat.le_of_ble_eq_true rfl)⟩ rfl rfl (Nat.le_of_ble_eq_true rfl) dX12_joined_107 (mX12_found ew10 (pV.mk ?_))
  refine r_aload_n (pc := 110) dX12_joined_110 rfl 1 rfl ?_
  refine r_aload_n (pc := 111) dX12_joined_111 rfl 1 rfl ?_
  refine r_get (pc := 112) (j := 19) (v := .ref 10) oM0 cf12 flRX12_108 rfl dX12_joined_112 rfl ?_
  refine r_iload_n (pc := 115) dX12_joined_115 rfl 2 rfl ?_
  replace h := if_n h; obtain ⟨hb11, h⟩ := h
  refine r_iald (pc := 116) aM10 (inb_in hb11) dX12_joined_116 ?_
  refine r_iload (pc := 117) dX12_joined_117 0 rfl ?_
  replace h := bn2_e h; obtain ⟨x12, w13, ew13, h⟩ := h
  refine r_cVv (pc := 119) wyX12_mustBe oM0 rfl mlRX12_622 iyX12_mustBe syX12_mustBe ⟨Nat.le_refl _, (Nat.le_of_ble_eq_true rfl)⟩ rfl rfl (Nat.le_of_ble_eq_true rfl) dX12_joined_119 ((hS.1 _ _ _ _ _ _ _) ew13 (pV.mk ?_))
  refine r_drop (loc' := [(0, .ref 0), (4, .int a4), (5, .int a5)]) [1, 5, 6] rfl ?_
  exact pX12_joined_122 hS hK hN h
def fX12_joined (rc : TX12_mustBe) (a1 : Int32) (a2 : Int32) (a3 : Int32) (w : Wd) : Option (Int32 × Wd) :=
  if inb a1 24000 = true then lt ((gi w 9 (Int32.toNatClampNeg a1))) fun x2 => lt (fX12_levelOf x2 w) fun x3 => if x2 = 61 then (fX12_joined_30 rc a1 a3 x2 x3 w) else (if x2 = 289 then (fX12_joined_30 rc a1 a3 x2 x3 w) else (if 4 < x3 then (fX12_joined_87 rc 1 a1 a2 a3 x2 x3 w) else (fX12_joined_87 rc 2 a1 a2 a3 x2 x3 w))) else none
theorem pX12_joined {q : Gq} {l : Launch} {N : Option Value → Wd → Prop} {X : String → Wd → Prop} {rc : TX12_mustBe} {dd : Nat} (hS : HSX12_mustBe q l rc dd) (hK : 5 ≤ dd) {w : Wd} {R : Int32 × Wd} (hN : N (some (.int R.1)) R.2) {a1 : Int32} {a2 : Int32} {a3 : Int32} (h : fX12_joined rc a1 a2 a3 w = some R) : RT (GM q) l (dd + 1) yX12_joined cX12_joined 7 ((some .int)) N X 0 [] [(0, .ref 0), (1, .int a1), (2, .int a2), (3, .int a3)] w := by
  unfold fX12_joined at h
  refine r_aload_n (pc := 0) dX12_joined_0 rfl 0 rfl ?_
  refine r_get (pc := 1) (j := 18) (v := .ref 9) oM0 cf12 flRX12_105 rfl dX12_joined_1 rfl ?_
  refine r_iload_n (pc := 4) dX12_joined_4 rfl 1 rfl ?_
  replace h := if_n h; obtain ⟨hb1, h⟩ := h
  refine r_iald (pc := 5) aM9 (inb_in hb1) dX12_joined_5 ?_
  replace h := lt_e h; obtain ⟨x2, ex2, h⟩ := h
  refine r_topi ex2 ?_
  refine r_istore (pc := 6) (loc' := [(4, .int x2), (0, .ref 0), (1, .int a1), (2, .int a2), (3, .int a3)]) dX12_joined_6 (Nat.le_of_ble_eq_true rfl) rfl ?_
  refine r_iload (pc := 8) dX12_joined_8 0 rfl ?_
  replace h := lt_e h; obtain ⟨x3, ex3, h⟩ := h
  refine r_cSi (pc := 10) wyX12_levelOf mlRX12_593 tyX12_levelOf ⟨Nat.succ_le_succ (Nat.le_trans (Nat.le_of_ble_eq_true rfl) hK), (Nat.le_of_ble_eq_true rfl)⟩ rfl rfl (Nat.le_of_ble_eq_true rfl) dX12_joined_10 (mX12_levelOf ex3 (pI.mk ?_))
  refine r_istore (pc := 13) (loc' := [(5, .int x3), (4, .int x2), (0, .ref 0), (1, .int a1), (2, .int a2), (3, .int a3)]) dX12_joined_13 (Nat.le_of_ble_eq_true rfl) rfl ?_
  refine r_iload (pc := 15) dX12_joined_15 1 rfl ?_
  refine r_bipush (pc := 17) dX12_joined_17 kb_61 ?_
  refine r_icmp_eq (pc := 19) dX12_joined_19 rfl (fun hc4 => ?_) (fun hc4 => ?_)
  · replace h := if_t hc4 h
    refine r_drop (loc' := [(0, .ref 0), (1, .int a1), (3, .int a3), (4, .int x2), (5, .int x3)]) [2, 3, 5, 1, 0] rfl ?_
    exact pX12_joined_30 hS hK hN h
  replace h := if_f hc4 h
  refine r_iload (pc := 22) dX12_joined_22 1 rfl ?_
  refine r_sipush (pc := 24) dX12_joined_24 ks_289 ?_
  refine r_icmp_ne (pc := 27) dX12_joined_27 rfl (fun hc5 => ?_) (fun hc5 => ?_)
  · replace h := if_f hc5 h
    refine r_iload (pc := 76) dX12_joined_76 0 rfl ?_
    refine r_iconst (pc := 78) dX12_joined_78 ki_4 ?_
    refine r_icmp_gt (pc := 79) dX12_joined_79 rfl (fun hc6 => ?_) (fun hc6 => ?_)
    · replace h := if_t hc6 h
      refine r_iconst (pc := 86) dX12_joined_86 ki_1 ?_
      refine r_drop (loc' := [(0, .ref 0), (1, .int a1), (2, .int a2), (3, .int a3), (4, .int x2), (5, .int x3)]) [2, 3, 4, 5, 1, 0] rfl ?_
      exact pX12_joined_87 hS hK hN h
    replace h := if_f hc6 h
    refine r_iconst (pc := 82) dX12_joined_82 ki_2 ?_
    refine r_goto (pc := 83) dX12_joined_83 rfl ?_
    refine r_drop (loc' := [(0, .ref 0), (1, .int a1), (2, .int a2), (3, .int a3), (4, .int x2), (5, .int x3)]) [2, 3, 4, 5, 1, 0] rfl ?_
    exact pX12_joined_87 hS hK hN h
  replace h := if_t hc5 h
  refine r_drop (loc' := [(0, .ref 0), (1, .int a1), (3, .int a3), (4, .int x2), (5, .int x3)]) [2, 3, 5, 1, 0] rfl ?_
  exact pX12_joined_30 hS hK hN h
/-! AlgolMillModel.two (I)I: O, 1705 -/
theorem dX12_two_0 : decode cX12_two 0 = .ok (.aload_n 0, 1) := by decide +kernel
theorem dX12_two_1 : decode cX12_two 1 = .ok (.getfield 631, 3) := by decide +kernel
theorem dX12_two_4 : decode cX12_two 4 = .ok (.istore_n 2, 1) := by decide +kernel
theorem dX12_two_5 : decode cX12_two 5 = .ok (.iload_n 1, 1) := by decide +kernel
theorem dX12_two_6 : decode cX12_two 6 = .ok (.istore_n 3, 1) := by decide +kernel
theorem dX12_two_7 : decode cX12_two 7 = .ok (.aload_n 0, 1) := by decide +kernel
theorem dX12_two_8 : decode cX12_two 8 = .ok (.getfield 99, 3) := by decide +kernel
theorem dX12_two_11 : decode cX12_two 11 = .ok (.iload_n 3, 1) := by decide +kernel
theorem dX12_two_12 : decode cX12_two 12 = .ok (.iaload, 1) := by decide +kernel
theorem dX12_two_13 : decode cX12_two 13 = .ok (.bipush 6, 2) := by decide +kernel
theorem dX12_two_15 : decode cX12_two 15 = .ok (.if_icmp .ne 33, 3) := by decide +kernel
theorem dX12_two_18 : decode cX12_two 18 = .ok (.aload_n 0, 1) := by decide +kernel
theorem dX12_two_19 : decode cX12_two 19 = .ok (.getfield 257, 3) := by decide +kernel
theorem dX12_two_22 : decode cX12_two 22 = .ok (.aload_n 0, 1) := by decide +kernel
theorem dX12_two_23 : decode cX12_two 23 = .ok (.getfield 631, 3) := by decide +kernel
theorem dX12_two_26 : decode cX12_two 26 = .ok (.iload_n 3, 1) := by decide +kernel
theorem dX12_two_27 : decode cX12_two 27 = .ok (.iastore, 1) := by decide +kernel
theorem dX12_two_28 : decode cX12_two 28 = .ok (.aload_n 0, 1) := by decide +kernel
theorem dX12_two_29 : decode cX12_two 29 = .ok (.dup, 1) := by decide +kernel
theorem dX12_two_30 : decode cX12_two 30 = .ok (.getfield 631, 3) := by decide +kernel
theorem dX12_two_33 : decode cX12_two 33 = .ok (.iconst 1, 1) := by decide +kernel
theorem dX12_two_34 : decode cX12_two 34 = .ok (.iadd, 1) := by decide +kernel
theorem dX12_two_35 : decode cX12_two 35 = .ok (.putfield 631, 3) := by decide +kernel
theorem dX12_two_38 : decode cX12_two 38 = .ok (.aload_n 0, 1) := by decide +kernel
theorem dX12_two_39 : decode cX12_two 39 = .ok (.getfield 102, 3) := by decide +kernel
theorem dX12_two_42 : decode cX12_two 42 = .ok (.iload_n 3, 1) := by decide +kernel
theorem dX12_two_43 : decode cX12_two 43 = .ok (.iaload, 1) := by decide +kernel
theorem dX12_two_44 : decode cX12_two 44 = .ok (.istore_n 3, 1) := by decide +kernel
theorem dX12_two_45 : decode cX12_two 45 = .ok (.goto (-38), 3) := by decide +kernel
theorem dX12_two_48 : decode cX12_two 48 = .ok (.aload_n 0, 1) := by decide +kernel
theorem dX12_two_49 : decode cX12_two 49 = .ok (.iload_n 3, 1) := by decide +kernel
theorem dX12_two_50 : decode cX12_two 50 = .ok (.invokevirtual 607, 3) := by decide +kernel
theorem dX12_two_53 : decode cX12_two 53 = .ok (.istore 4, 2) := by decide +kernel
theorem dX12_two_55 : decode cX12_two 55 = .ok (.aload_n 0, 1) := by decide +kernel
theorem dX12_two_56 : decode cX12_two 56 = .ok (.getfield 631, 3) := by decide +kernel
theorem dX12_two_59 : decode cX12_two 59 = .ok (.iload_n 2, 1) := by decide +kernel
theorem dX12_two_60 : decode cX12_two 60 = .ok (.if_icmp .le 40, 3) := by decide +kernel
theorem dX12_two_63 : decode cX12_two 63 = .ok (.iload_n 3, 1) := by decide +kernel
theorem dX12_two_64 : decode cX12_two 64 = .ok (.istore 5, 2) := by decide +kernel
theorem dX12_two_66 : decode cX12_two 66 = .ok (.aload_n 0, 1) := by decide +kernel
theorem dX12_two_67 : decode cX12_two 67 = .ok (.dup, 1) := by decide +kernel
theorem dX12_two_68 : decode cX12_two 68 = .ok (.getfield 631, 3) := by decide +kernel
theorem dX12_two_71 : decode cX12_two 71 = .ok (.iconst 1, 1) := by decide +kernel
theorem dX12_two_72 : decode cX12_two 72 = .ok (.isub, 1) := by decide +kernel
theorem dX12_two_73 : decode cX12_two 73 = .ok (.putfield 631, 3) := by decide +kernel
theorem dX12_two_76 : decode cX12_two 76 = .ok (.aload_n 0, 1) := by decide +kernel
theorem dX12_two_77 : decode cX12_two 77 = .ok (.getfield 257, 3) := by decide +kernel
theorem dX12_two_80 : decode cX12_two 80 = .ok (.aload_n 0, 1) := by decide +kernel
theorem dX12_two_81 : decode cX12_two 81 = .ok (.getfield 631, 3) := by decide +kernel
theorem dX12_two_84 : decode cX12_two 84 = .ok (.iaload, 1) := by decide +kernel
theorem dX12_two_85 : decode cX12_two 85 = .ok (.istore_n 3, 1) := by decide +kernel
theorem dX12_two_86 : decode cX12_two 86 = .ok (.aload_n 0, 1) := by decide +kernel
theorem dX12_two_87 : decode cX12_two 87 = .ok (.iload_n 3, 1) := by decide +kernel
theorem dX12_two_88 : decode cX12_two 88 = .ok (.iload 5, 2) := by decide +kernel
theorem dX12_two_90 : decode cX12_two 90 = .ok (.iload 4, 2) := by decide +kernel
theorem dX12_two_92 : decode cX12_two 92 = .ok (.invokevirtual 634, 3) := by decide +kernel
theorem dX12_two_95 : decode cX12_two 95 = .ok (.istore 4, 2) := by decide +kernel
theorem dX12_two_97 : decode cX12_two 97 = .ok (.goto (-42), 3) := by decide +kernel
theorem dX12_two_100 : decode cX12_two 100 = .ok (.iload 4, 2) := by decide +kernel
theorem dX12_two_102 : decode cX12_two 102 = .ok (.ireturn, 1) := by decide +kernel
def fX12_two_55 (rc : TX12_mustBe) (k_55 : Int32 → Int32 → Int32 → Wd → Option (Int32 × Wd)) (a2 : Int32) (a3 : Int32) (a4 : Int32) (w : Wd) : Option (Int32 × Wd) :=
  if (gi w 0 84) ≤ a2 then (some (a4, w)) else (lt (si w 0 84 ((gi w 0 84) - 1)) fun w2 => if inb (gi w2 0 84) 24000 = true then lt ((gi w2 59 (Int32.toNatClampNeg (gi w2 0 84)))) fun x4 => bn2 (rc 3 x4 a3 a4 w2) fun x5 w6 => k_55 a2 x4 x5 w6 else none)
theorem pX12_two_55 {q : Gq} {l : Launch} {N : Option Value → Wd → Prop} {X : String → Wd → Prop} {rc : TX12_mustBe} {dd : Nat} (hS : HSX12_mustBe q l rc dd) (hK : 5 ≤ dd) {w : Wd} {R : Int32 × Wd} (hN : N (some (.int R.1)) R.2) {k_55 : Int32 → Int32 → Int32 → Wd → Option (Int32 × Wd)} (hk_55 : ∀ (a2 : Int32) (a3 : Int32) (a4 : Int32) (w : Wd), k_55 a2 a3 a4 w = some R → RT (GM q) l (dd + 1) yX12_two cX12_two 6 ((some .int)) N X 55 [] [(0, .ref 0), (2, .int a2), (3, .int a3), (4, .int a4)] w) {a2 : Int32} {a3 : Int32} {a4 : Int32} (h : fX12_two_55 rc k_55 a2 a3 a4 w = some R) : RT (GM q) l (dd + 1) yX12_two cX12_two 6 ((some .int)) N X 55 [] [(0, .ref 0), (2, .int a2), (3, .int a3), (4, .int a4)] w := by
  unfold fX12_two_55 at h
  refine r_aload_n (pc := 55) dX12_two_55 rfl 0 rfl ?_
  refine r_get (pc := 56) (j := 84) (v := .int (gi w 0 84)) oM0 cf12 flRX12_631 rfl dX12_two_56 rfl ?_
  refine r_iload_n (pc := 59) dX12_two_59 rfl 1 rfl ?_
  refine r_icmp_le (pc := 60) dX12_two_60 rfl (fun hc1 => ?_) (fun hc1 => ?_)
  · replace h := if_t hc1 h
    refine r_iload (pc := 100) dX12_two_100 3 rfl ?_
    exact rO_i (pc := 102) rfl dX12_two_102 h hN
  replace h := if_f hc1 h
  refine r_iload_n (pc := 63) dX12_two_63 rfl 2 rfl ?_
  refine r_istore (pc := 64) (loc' := [(5, .int a3), (0, .ref 0), (2, .int a2), (3, .int a3), (4, .int a4)]) dX12_two_64 (Nat.le_of_ble_eq_true rfl) rfl ?_
  refine r_aload_n (pc := 66) dX12_two_66 rfl 1 rfl ?_
  refine r_dup (pc := 67) dX12_two_67 rfl ?_
  refine r_get (pc := 68) (j := 84) (v := .int (gi w 0 84)) oM0 cf12 flRX12_631 rfl dX12_two_68 rfl ?_
  refine r_iconst (pc := 71) dX12_two_71 ki_1 ?_
  refine r_isub (pc := 72) dX12_two_72 ?_
  replace h := lt_e h; obtain ⟨w2, ew2, h⟩ := h
  refine r_putI (pc := 73) (j := 84) oM0 cf12 flRX12_631 rfl rfl rfl rfl dX12_two_73 ?_
  refine r_w ew2 ?_
  refine r_aload_n (pc := 76) dX12_two_76 rfl 1 rfl ?_
  refine r_get (pc := 77) (j := 83) (v := .ref 59) oM0 cf12 flRX12_257 rfl dX12_two_77 rfl ?_
  refine r_aload_n (pc := 80) dX12_two_80 rfl 1 rfl ?_
  refine r_get (pc := 81) (j := 84) (v := .int (gi w2 0 84)) oM0 cf12 flRX12_631 rfl dX12_two_81 rfl ?_
  replace h := if_n h; obtain ⟨hb3, h⟩ := h
  refine r_iald (pc := 84) aM59 (inb_in hb3) dX12_two_84 ?_
  replace h := lt_e h; obtain ⟨x4, ex4, h⟩ := h
  refine r_topi ex4 ?_
  refine r_istore_n (pc := 85) (loc' := [(3, .int x4), (5, .int a3), (0, .ref 0), (2, .int a2), (4, .int a4)]) dX12_two_85 rfl (Nat.le_of_ble_eq_true rfl) rfl ?_
  refine r_aload_n (pc := 86) dX12_two_86 rfl 2 rfl ?_
  refine r_iload_n (pc := 87) dX12_two_87 rfl 0 rfl ?_
  refine r_iload (pc := 88) dX12_two_88 1 rfl ?_
  refine r_iload (pc := 90) dX12_two_90 4 rfl ?_
  replace h := bn2_e h; obtain ⟨x5, w6, ew6, h⟩ := h
  refine r_cVi (pc := 92) wyX12_joined oM0 rfl mlRX12_634 iyX12_joined syX12_joined ⟨Nat.le_refl _, (Nat.le_of_ble_eq_true rfl)⟩ rfl rfl (Nat.le_of_ble_eq_true rfl) dX12_two_92 ((hS.2.2.2.1 _ _ _ _ _ _ _ _) ew6 (pI.mk ?_))
  refine r_istore (pc := 95) (loc' := [(4, .int x5), (3, .int x4), (5, .int a3), (0, .ref 0), (2, .int a2)]) dX12_two_95 (Nat.le_of_ble_eq_true rfl) rfl ?_
  refine r_goto (pc := 97) dX12_two_97 rfl ?_
  refine r_drop (loc' := [(0, .ref 0), (2, .int a2), (3, .int x4), (4, .int x5)]) [3, 4, 1, 0] rfl ?_
  exact hk_55 a2 x4 x5 w6 h
def oX12_two_55 (rc : TX12_mustBe) : Nat → Int32 → Int32 → Int32 → Wd → Option (Int32 × Wd)
  | 0 => fun _ _ _ _ => none
  | n + 1 => fX12_two_55 rc (oX12_two_55 rc n)
theorem qX12_two_55 {q : Gq} {l : Launch} {N : Option Value → Wd → Prop} {X : String → Wd → Prop} {rc : TX12_mustBe} {dd : Nat} (hS : HSX12_mustBe q l rc dd) (hK : 5 ≤ dd) {R : Int32 × Wd} (hN : N (some (.int R.1)) R.2) : ∀ (n : Nat) (a2 : Int32) (a3 : Int32) (a4 : Int32) (w : Wd), oX12_two_55 rc n a2 a3 a4 w = some R → RT (GM q) l (dd + 1) yX12_two cX12_two 6 ((some .int)) N X 55 [] [(0, .ref 0), (2, .int a2), (3, .int a3), (4, .int a4)] w := by
  intro n
  induction n with
  | zero =>
    intro a2 a3 a4 w h
    exact absurd h (fun q => nomatch q)
  | succ n ih =>
    intro a2 a3 a4 w h
    exact pX12_two_55 hS hK hN ih h
def fX12_two_7 (rc : TX12_mustBe) (k_7 : Int32 → Int32 → Wd → Option (Int32 × Wd)) (a2 : Int32) (a3 : Int32) (w : Wd) : Option (Int32 × Wd) :=
  if inb a3 24000 = true then if (gi w 7 (Int32.toNatClampNeg a3)) = 6 then (if inb (gi w 0 84) 24000 = true then lt (si w 59 (Int32.toNatClampNeg (gi w 0 84)) a3) fun w4 => lt (si w4 0 84 ((gi w4 0 84) + 1)) fun w5 => if inb a3 24000 = true then lt ((gi w5 8 (Int32.toNatClampNeg a3))) fun x7 => k_7 a2 x7 w5 else none else none) else (bn2 (rc 1 a3 0 0 w) fun x8 w9 => oX12_two_55 rc FU a2 a3 x8 w9) else none
theorem pX12_two_7 {q : Gq} {l : Launch} {N : Option Value → Wd → Prop} {X : String → Wd → Prop} {rc : TX12_mustBe} {dd : Nat} (hS : HSX12_mustBe q l rc dd) (hK : 5 ≤ dd) {w : Wd} {R : Int32 × Wd} (hN : N (some (.int R.1)) R.2) {k_7 : Int32 → Int32 → Wd → Option (Int32 × Wd)} (hk_7 : ∀ (a2 : Int32) (a3 : Int32) (w : Wd), k_7 a2 a3 w = some R → RT (GM q) l (dd + 1) yX12_two cX12_two 6 ((some .int)) N X 7 [] [(0, .ref 0), (2, .int a2), (3, .int a3)] w) {a2 : Int32} {a3 : Int32} (h : fX12_two_7 rc k_7 a2 a3 w = some R) : RT (GM q) l (dd + 1) yX12_two cX12_two 6 ((some .int)) N X 7 [] [(0, .ref 0), (2, .int a2), (3, .int a3)] w := by
  unfold fX12_two_7 at h
  refine r_aload_n (pc := 7) dX12_two_7 rfl 0 rfl ?_
  refine r_get (pc := 8) (j := 16) (v := .ref 7) oM0 cf12 flRX12_99 rfl dX12_two_8 rfl ?_
  refine r_iload_n (pc := 11) dX12_two_11 rfl 2 rfl ?_
  replace h := if_n h; obtain ⟨hb1, h⟩ := h
  refine r_iald (pc := 12) aM7 (inb_in hb1) dX12_two_12 ?_
  refine r_bipush (pc := 13) dX12_two_13 kb_6 ?_
  refine r_icmp_ne (pc := 15) dX12_two_15 rfl (fun hc2 => ?_) (fun hc2 => ?_)
  · replace h := if_f hc2 h
    refine r_aload_n (pc := 48) dX12_two_48 rfl 0 rfl ?_
    refine r_iload_n (pc := 49) dX12_two_49 rfl 2 rfl ?_
    replace h := bn2_e h; obtain ⟨x8, w9, ew9, h⟩ := h
    refine r_cVi (pc := 50) wyX12_value oM0 rfl mlRX12_607 iyX12_value syX12_value ⟨Nat.le_refl _, (Nat.le_of_ble_eq_true rfl)⟩ rfl rfl (Nat.le_of_ble_eq_true rfl) dX12_two_50 ((hS.2.1 _ _ _ _ _ _) ew9 (pI.mk ?_))
    refine r_istore (pc := 53) (loc' := [(4, .int x8), (0, .ref 0), (2, .int a2), (3, .int a3)]) dX12_two_53 (Nat.le_of_ble_eq_true rfl) rfl ?_
    refine r_drop (loc' := [(0, .ref 0), (2, .int a2), (3, .int a3), (4, .int x8)]) [1, 2, 3, 0] rfl ?_
    exact qX12_two_55 hS hK hN FU a2 a3 x8 w9 h
  replace h := if_t hc2 h
  refine r_aload_n (pc := 18) dX12_two_18 rfl 0 rfl ?_
  refine r_get (pc := 19) (j := 83) (v := .ref 59) oM0 cf12 flRX12_257 rfl dX12_two_19 rfl ?_
  refine r_aload_n (pc := 22) dX12_two_22 rfl 0 rfl ?_
  refine r_get (pc := 23) (j := 84) (v := .int (gi w 0 84)) oM0 cf12 flRX12_631 rfl dX12_two_23 rfl ?_
  refine r_iload_n (pc := 26) dX12_two_26 rfl 2 rfl ?_
  replace h := if_n h; obtain ⟨hb3, h⟩ := h
  replace h := lt_e h; obtain ⟨w4, ew4, h⟩ := h
  refine r_iast (pc := 27) aM59 (inb_in hb3) dX12_two_27 ?_
  refine r_w ew4 ?_
  refine r_aload_n (pc := 28) dX12_two_28 rfl 0 rfl ?_
  refine r_dup (pc := 29) dX12_two_29 rfl ?_
  refine r_get (pc := 30) (j := 84) (v := .int (gi w4 0 84)) oM0 cf12 flRX12_631 rfl dX12_two_30 rfl ?_
  refine r_iconst (pc := 33) dX12_two_33 ki_1 ?_
  refine r_iadd (pc := 34) dX12_two_34 ?_
  replace h := lt_e h; obtain ⟨w5, ew5, h⟩ := h
  refine r_putI (pc := 35) (j := 84) oM0 cf12 flRX12_631 rfl rfl rfl rfl dX12_two_35 ?_
  refine r_w ew5 ?_
  refine r_aload_n (pc := 38) dX12_two_38 rfl 0 rfl ?_
  refine r_get (pc := 39) (j := 17) (v := .ref 8) oM0 cf12 flRX12_102 rfl dX12_two_39 rfl ?_
  refine r_iload_n (pc := 42) dX12_two_42 rfl 2 rfl ?_
  replace h := if_n h; obtain ⟨hb6, h⟩ := h
  refine r_iald (pc := 43) aM8 (inb_in hb6) dX12_two_43 ?_
  replace h := lt_e h; obtain ⟨x7, ex7, h⟩ := h
  refine r_topi ex7 ?_
  refine r_istore_n (pc := 44) (loc' := [(3, .int x7), (0, .ref 0), (2, .int a2)]) dX12_two_44 rfl (Nat.le_of_ble_eq_true rfl) rfl ?_
  refine r_goto (pc := 45) dX12_two_45 rfl ?_
  refine r_drop (loc' := [(0, .ref 0), (2, .int a2), (3, .int x7)]) [1, 2, 0] rfl ?_
  exact hk_7 a2 x7 w5 h
def oX12_two_7 (rc : TX12_mustBe) : Nat → Int32 → Int32 → Wd → Option (Int32 × Wd)
  | 0 => fun _ _ _ => none
  | n + 1 => fX12_two_7 rc (oX12_two_7 rc n)
theorem qX12_two_7 {q : Gq} {l : Launch} {N : Option Value → Wd → Prop} {X : String → Wd → Prop} {rc : TX12_mustBe} {dd : Nat} (hS : HSX12_mustBe q l rc dd) (hK : 5 ≤ dd) {R : Int32 × Wd} (hN : N (some (.int R.1)) R.2) : ∀ (n : Nat) (a2 : Int32) (a3 : Int32) (w : Wd), oX12_two_7 rc n a2 a3 w = some R → RT (GM q) l (dd + 1) yX12_two cX12_two 6 ((some .int)) N X 7 [] [(0, .ref 0), (2, .int a2), (3, .int a3)] w := by
  intro n
  induction n with
  | zero =>
    intro a2 a3 w h
    exact absurd h (fun q => nomatch q)
  | succ n ih =>
    intro a2 a3 w h
    exact pX12_two_7 hS hK hN ih h
def fX12_two (rc : TX12_mustBe) (a1 : Int32) (w : Wd) : Option (Int32 × Wd) :=
  lt ((gi w 0 84)) fun x1 => oX12_two_7 rc FU x1 a1 w
theorem pX12_two {q : Gq} {l : Launch} {N : Option Value → Wd → Prop} {X : String → Wd → Prop} {rc : TX12_mustBe} {dd : Nat} (hS : HSX12_mustBe q l rc dd) (hK : 5 ≤ dd) {w : Wd} {R : Int32 × Wd} (hN : N (some (.int R.1)) R.2) {a1 : Int32} (h : fX12_two rc a1 w = some R) : RT (GM q) l (dd + 1) yX12_two cX12_two 6 ((some .int)) N X 0 [] [(0, .ref 0), (1, .int a1)] w := by
  unfold fX12_two at h
  refine r_aload_n (pc := 0) dX12_two_0 rfl 0 rfl ?_
  refine r_get (pc := 1) (j := 84) (v := .int (gi w 0 84)) oM0 cf12 flRX12_631 rfl dX12_two_1 rfl ?_
  replace h := lt_e h; obtain ⟨x1, ex1, h⟩ := h
  refine r_topi ex1 ?_
  refine r_istore_n (pc := 4) (loc' := [(2, .int x1), (0, .ref 0), (1, .int a1)]) dX12_two_4 rfl (Nat.le_of_ble_eq_true rfl) rfl ?_
  refine r_iload_n (pc := 5) dX12_two_5 rfl 2 rfl ?_
  refine r_istore_n (pc := 6) (loc' := [(3, .int a1), (2, .int x1), (0, .ref 0), (1, .int a1)]) dX12_two_6 rfl (Nat.le_of_ble_eq_true rfl) rfl ?_
  refine r_drop (loc' := [(0, .ref 0), (2, .int x1), (3, .int a1)]) [2, 1, 0] rfl ?_
  exact qX12_two_7 hS hK hN FU x1 a1 w h
/-! AlgolMillModel.value (I)I: O, 1705 -/
theorem dX12_value_0 : decode cX12_value 0 = .ok (.aload_n 0, 1) := by decide +kernel
theorem dX12_value_1 : decode cX12_value 1 = .ok (.getfield 99, 3) := by decide +kernel
theorem dX12_value_4 : decode cX12_value 4 = .ok (.iload_n 1, 1) := by decide +kernel
theorem dX12_value_5 : decode cX12_value 5 = .ok (.iaload, 1) := by decide +kernel
theorem dX12_value_6 : decode cX12_value 6 = .ok (.tableswitch 296 1 9 #[50, 66, 93, 99, 117, 296, 239, 124, 82], 50) := by decide +kernel
theorem dX12_value_56 : decode cX12_value 56 = .ok (.aload_n 0, 1) := by decide +kernel
theorem dX12_value_57 : decode cX12_value 57 = .ok (.iconst 1, 1) := by decide +kernel
theorem dX12_value_58 : decode cX12_value 58 = .ok (.aload_n 0, 1) := by decide +kernel
theorem dX12_value_59 : decode cX12_value 59 = .ok (.getfield 114, 3) := by decide +kernel
theorem dX12_value_62 : decode cX12_value 62 = .ok (.iload_n 1, 1) := by decide +kernel
theorem dX12_value_63 : decode cX12_value 63 = .ok (.iaload, 1) := by decide +kernel
theorem dX12_value_64 : decode cX12_value 64 = .ok (.iconst 0, 1) := by decide +kernel
theorem dX12_value_65 : decode cX12_value 65 = .ok (.iconst 0, 1) := by decide +kernel
theorem dX12_value_66 : decode cX12_value 66 = .ok (.invokevirtual 609, 3) := by decide +kernel
theorem dX12_value_69 : decode cX12_value 69 = .ok (.istore_n 2, 1) := by decide +kernel
theorem dX12_value_70 : decode cX12_value 70 = .ok (.iconst 1, 1) := by decide +kernel
theorem dX12_value_71 : decode cX12_value 71 = .ok (.ireturn, 1) := by decide +kernel
theorem dX12_value_72 : decode cX12_value 72 = .ok (.aload_n 0, 1) := by decide +kernel
theorem dX12_value_73 : decode cX12_value 73 = .ok (.iconst 1, 1) := by decide +kernel
theorem dX12_value_74 : decode cX12_value 74 = .ok (.iconst (-1), 1) := by decide +kernel
theorem dX12_value_75 : decode cX12_value 75 = .ok (.aload_n 0, 1) := by decide +kernel
theorem dX12_value_76 : decode cX12_value 76 = .ok (.getfield 102, 3) := by decide +kernel
theorem dX12_value_79 : decode cX12_value 79 = .ok (.iload_n 1, 1) := by decide +kernel
theorem dX12_value_80 : decode cX12_value 80 = .ok (.iaload, 1) := by decide +kernel
theorem dX12_value_81 : decode cX12_value 81 = .ok (.iconst 0, 1) := by decide +kernel
theorem dX12_value_82 : decode cX12_value 82 = .ok (.invokevirtual 609, 3) := by decide +kernel
theorem dX12_value_85 : decode cX12_value 85 = .ok (.istore_n 2, 1) := by decide +kernel
theorem dX12_value_86 : decode cX12_value 86 = .ok (.iconst 2, 1) := by decide +kernel
theorem dX12_value_87 : decode cX12_value 87 = .ok (.ireturn, 1) := by decide +kernel
theorem dX12_value_88 : decode cX12_value 88 = .ok (.aload_n 0, 1) := by decide +kernel
theorem dX12_value_89 : decode cX12_value 89 = .ok (.aload_n 0, 1) := by decide +kernel
theorem dX12_value_90 : decode cX12_value 90 = .ok (.getfield 102, 3) := by decide +kernel
theorem dX12_value_93 : decode cX12_value 93 = .ok (.iload_n 1, 1) := by decide +kernel
theorem dX12_value_94 : decode cX12_value 94 = .ok (.iaload, 1) := by decide +kernel
theorem dX12_value_95 : decode cX12_value 95 = .ok (.invokevirtual 607, 3) := by decide +kernel
theorem dX12_value_98 : decode cX12_value 98 = .ok (.ireturn, 1) := by decide +kernel
theorem dX12_value_99 : decode cX12_value 99 = .ok (.aload_n 0, 1) := by decide +kernel
theorem dX12_value_100 : decode cX12_value 100 = .ok (.iload_n 1, 1) := by decide +kernel
theorem dX12_value_101 : decode cX12_value 101 = .ok (.invokevirtual 612, 3) := by decide +kernel
theorem dX12_value_104 : decode cX12_value 104 = .ok (.ireturn, 1) := by decide +kernel
theorem dX12_value_105 : decode cX12_value 105 = .ok (.aload_n 0, 1) := by decide +kernel
theorem dX12_value_106 : decode cX12_value 106 = .ok (.iload_n 1, 1) := by decide +kernel
theorem dX12_value_107 : decode cX12_value 107 = .ok (.invokevirtual 615, 3) := by decide +kernel
theorem dX12_value_110 : decode cX12_value 110 = .ok (.istore_n 3, 1) := by decide +kernel
theorem dX12_value_111 : decode cX12_value 111 = .ok (.aload_n 0, 1) := by decide +kernel
theorem dX12_value_112 : decode cX12_value 112 = .ok (.bipush 6, 2) := by decide +kernel
theorem dX12_value_114 : decode cX12_value 114 = .ok (.iconst 0, 1) := by decide +kernel
theorem dX12_value_115 : decode cX12_value 115 = .ok (.iconst 0, 1) := by decide +kernel
theorem dX12_value_116 : decode cX12_value 116 = .ok (.iconst 0, 1) := by decide +kernel
theorem dX12_value_117 : decode cX12_value 117 = .ok (.invokevirtual 609, 3) := by decide +kernel
theorem dX12_value_120 : decode cX12_value 120 = .ok (.istore_n 2, 1) := by decide +kernel
theorem dX12_value_121 : decode cX12_value 121 = .ok (.iload_n 3, 1) := by decide +kernel
theorem dX12_value_122 : decode cX12_value 122 = .ok (.ireturn, 1) := by decide +kernel
theorem dX12_value_123 : decode cX12_value 123 = .ok (.aload_n 0, 1) := by decide +kernel
theorem dX12_value_124 : decode cX12_value 124 = .ok (.iload_n 1, 1) := by decide +kernel
theorem dX12_value_125 : decode cX12_value 125 = .ok (.iconst 1, 1) := by decide +kernel
theorem dX12_value_126 : decode cX12_value 126 = .ok (.invokevirtual 618, 3) := by decide +kernel
theorem dX12_value_129 : decode cX12_value 129 = .ok (.ireturn, 1) := by decide +kernel
theorem dX12_value_130 : decode cX12_value 130 = .ok (.aload_n 0, 1) := by decide +kernel
theorem dX12_value_131 : decode cX12_value 131 = .ok (.aload_n 0, 1) := by decide +kernel
theorem dX12_value_132 : decode cX12_value 132 = .ok (.getfield 102, 3) := by decide +kernel
theorem dX12_value_135 : decode cX12_value 135 = .ok (.iload_n 1, 1) := by decide +kernel
theorem dX12_value_136 : decode cX12_value 136 = .ok (.iaload, 1) := by decide +kernel
theorem dX12_value_137 : decode cX12_value 137 = .ok (.iconst 2, 1) := by decide +kernel
theorem dX12_value_138 : decode cX12_value 138 = .ok (.invokevirtual 622, 3) := by decide +kernel
theorem dX12_value_141 : decode cX12_value 141 = .ok (.aload_n 0, 1) := by decide +kernel
theorem dX12_value_142 : decode cX12_value 142 = .ok (.bipush 11, 2) := by decide +kernel
theorem dX12_value_144 : decode cX12_value 144 = .ok (.iconst 0, 1) := by decide +kernel
theorem dX12_value_145 : decode cX12_value 145 = .ok (.iconst 0, 1) := by decide +kernel
theorem dX12_value_146 : decode cX12_value 146 = .ok (.iconst 0, 1) := by decide +kernel
theorem dX12_value_147 : decode cX12_value 147 = .ok (.invokevirtual 609, 3) := by decide +kernel
theorem dX12_value_150 : decode cX12_value 150 = .ok (.istore_n 3, 1) := by decide +kernel
theorem dX12_value_151 : decode cX12_value 151 = .ok (.aload_n 0, 1) := by decide +kernel
theorem dX12_value_152 : decode cX12_value 152 = .ok (.aload_n 0, 1) := by decide +kernel
theorem dX12_value_153 : decode cX12_value 153 = .ok (.getfield 105, 3) := by decide +kernel
theorem dX12_value_156 : decode cX12_value 156 = .ok (.iload_n 1, 1) := by decide +kernel
theorem dX12_value_157 : decode cX12_value 157 = .ok (.iaload, 1) := by decide +kernel
theorem dX12_value_158 : decode cX12_value 158 = .ok (.invokevirtual 607, 3) := by decide +kernel
theorem dX12_value_161 : decode cX12_value 161 = .ok (.istore 4, 2) := by decide +kernel
theorem dX12_value_163 : decode cX12_value 163 = .ok (.aload_n 0, 1) := by decide +kernel
theorem dX12_value_164 : decode cX12_value 164 = .ok (.bipush 10, 2) := by decide +kernel
theorem dX12_value_166 : decode cX12_value 166 = .ok (.iconst 0, 1) := by decide +kernel
theorem dX12_value_167 : decode cX12_value 167 = .ok (.iconst 0, 1) := by decide +kernel
theorem dX12_value_168 : decode cX12_value 168 = .ok (.iconst 0, 1) := by decide +kernel
theorem dX12_value_169 : decode cX12_value 169 = .ok (.invokevirtual 609, 3) := by decide +kernel
theorem dX12_value_172 : decode cX12_value 172 = .ok (.istore 5, 2) := by decide +kernel
theorem dX12_value_174 : decode cX12_value 174 = .ok (.aload_n 0, 1) := by decide +kernel
theorem dX12_value_175 : decode cX12_value 175 = .ok (.iload_n 3, 1) := by decide +kernel
theorem dX12_value_176 : decode cX12_value 176 = .ok (.invokevirtual 625, 3) := by decide +kernel
theorem dX12_value_179 : decode cX12_value 179 = .ok (.aload_n 0, 1) := by decide +kernel
theorem dX12_value_180 : decode cX12_value 180 = .ok (.aload_n 0, 1) := by decide +kernel
theorem dX12_value_181 : decode cX12_value 181 = .ok (.getfield 108, 3) := by decide +kernel
theorem dX12_value_184 : decode cX12_value 184 = .ok (.iload_n 1, 1) := by decide +kernel
theorem dX12_value_185 : decode cX12_value 185 = .ok (.iaload, 1) := by decide +kernel
theorem dX12_value_186 : decode cX12_value 186 = .ok (.invokevirtual 607, 3) := by decide +kernel
theorem dX12_value_189 : decode cX12_value 189 = .ok (.istore 6, 2) := by decide +kernel
theorem dX12_value_191 : decode cX12_value 191 = .ok (.aload_n 0, 1) := by decide +kernel
theorem dX12_value_192 : decode cX12_value 192 = .ok (.iload 5, 2) := by decide +kernel
theorem dX12_value_194 : decode cX12_value 194 = .ok (.invokevirtual 625, 3) := by decide +kernel
theorem dX12_value_197 : decode cX12_value 197 = .ok (.iload 4, 2) := by decide +kernel
theorem dX12_value_199 : decode cX12_value 199 = .ok (.ifCond .eq 33, 3) := by decide +kernel
theorem dX12_value_202 : decode cX12_value 202 = .ok (.iload 6, 2) := by decide +kernel
theorem dX12_value_204 : decode cX12_value 204 = .ok (.ifCond .eq 28, 3) := by decide +kernel
theorem dX12_value_207 : decode cX12_value 207 = .ok (.iload 4, 2) := by decide +kernel
theorem dX12_value_209 : decode cX12_value 209 = .ok (.iload 6, 2) := by decide +kernel
theorem dX12_value_211 : decode cX12_value 211 = .ok (.if_icmp .eq 21, 3) := by decide +kernel
theorem dX12_value_214 : decode cX12_value 214 = .ok (.aload_n 0, 1) := by decide +kernel
theorem dX12_value_215 : decode cX12_value 215 = .ok (.iconst 4, 1) := by decide +kernel
theorem dX12_value_216 : decode cX12_value 216 = .ok (.aload_n 0, 1) := by decide +kernel
theorem dX12_value_217 : decode cX12_value 217 = .ok (.getfield 114, 3) := by decide +kernel
theorem dX12_value_220 : decode cX12_value 220 = .ok (.aload_n 0, 1) := by decide +kernel
theorem dX12_value_221 : decode cX12_value 221 = .ok (.getfield 108, 3) := by decide +kernel
theorem dX12_value_224 : decode cX12_value 224 = .ok (.iload_n 1, 1) := by decide +kernel
theorem dX12_value_225 : decode cX12_value 225 = .ok (.iaload, 1) := by decide +kernel
theorem dX12_value_226 : decode cX12_value 226 = .ok (.iaload, 1) := by decide +kernel
theorem dX12_value_227 : decode cX12_value 227 = .ok (.invokevirtual 484, 3) := by decide +kernel
theorem dX12_value_230 : decode cX12_value 230 = .ok (.iconst 0, 1) := by decide +kernel
theorem dX12_value_231 : decode cX12_value 231 = .ok (.ireturn, 1) := by decide +kernel
theorem dX12_value_232 : decode cX12_value 232 = .ok (.iload 4, 2) := by decide +kernel
theorem dX12_value_234 : decode cX12_value 234 = .ok (.ifCond .eq 8, 3) := by decide +kernel
theorem dX12_value_237 : decode cX12_value 237 = .ok (.iload 4, 2) := by decide +kernel
theorem dX12_value_239 : decode cX12_value 239 = .ok (.goto 5, 3) := by decide +kernel
theorem dX12_value_242 : decode cX12_value 242 = .ok (.iload 6, 2) := by decide +kernel
theorem dX12_value_244 : decode cX12_value 244 = .ok (.ireturn, 1) := by decide +kernel
theorem dX12_value_245 : decode cX12_value 245 = .ok (.aload_n 0, 1) := by decide +kernel
theorem dX12_value_246 : decode cX12_value 246 = .ok (.getfield 105, 3) := by decide +kernel
theorem dX12_value_249 : decode cX12_value 249 = .ok (.iload_n 1, 1) := by decide +kernel
theorem dX12_value_250 : decode cX12_value 250 = .ok (.iaload, 1) := by decide +kernel
theorem dX12_value_251 : decode cX12_value 251 = .ok (.sipush 281, 3) := by decide +kernel
theorem dX12_value_254 : decode cX12_value 254 = .ok (.if_icmp .ne 7, 3) := by decide +kernel
theorem dX12_value_257 : decode cX12_value 257 = .ok (.iconst 2, 1) := by decide +kernel
theorem dX12_value_258 : decode cX12_value 258 = .ok (.goto 4, 3) := by decide +kernel
theorem dX12_value_261 : decode cX12_value 261 = .ok (.iconst 1, 1) := by decide +kernel
theorem dX12_value_262 : decode cX12_value 262 = .ok (.istore_n 3, 1) := by decide +kernel
theorem dX12_value_263 : decode cX12_value 263 = .ok (.aload_n 0, 1) := by decide +kernel
theorem dX12_value_264 : decode cX12_value 264 = .ok (.aload_n 0, 1) := by decide +kernel
theorem dX12_value_265 : decode cX12_value 265 = .ok (.getfield 102, 3) := by decide +kernel
theorem dX12_value_268 : decode cX12_value 268 = .ok (.iload_n 1, 1) := by decide +kernel
theorem dX12_value_269 : decode cX12_value 269 = .ok (.iaload, 1) := by decide +kernel
theorem dX12_value_270 : decode cX12_value 270 = .ok (.iload_n 3, 1) := by decide +kernel
theorem dX12_value_271 : decode cX12_value 271 = .ok (.invokevirtual 622, 3) := by decide +kernel
theorem dX12_value_274 : decode cX12_value 274 = .ok (.aload_n 0, 1) := by decide +kernel
theorem dX12_value_275 : decode cX12_value 275 = .ok (.getfield 105, 3) := by decide +kernel
theorem dX12_value_278 : decode cX12_value 278 = .ok (.iload_n 1, 1) := by decide +kernel
theorem dX12_value_279 : decode cX12_value 279 = .ok (.iaload, 1) := by decide +kernel
theorem dX12_value_280 : decode cX12_value 280 = .ok (.bipush 43, 2) := by decide +kernel
theorem dX12_value_282 : decode cX12_value 282 = .ok (.if_icmp .eq 18, 3) := by decide +kernel
theorem dX12_value_285 : decode cX12_value 285 = .ok (.aload_n 0, 1) := by decide +kernel
theorem dX12_value_286 : decode cX12_value 286 = .ok (.bipush 9, 2) := by decide +kernel
theorem dX12_value_288 : decode cX12_value 288 = .ok (.aload_n 0, 1) := by decide +kernel
theorem dX12_value_289 : decode cX12_value 289 = .ok (.getfield 105, 3) := by decide +kernel
theorem dX12_value_292 : decode cX12_value 292 = .ok (.iload_n 1, 1) := by decide +kernel
theorem dX12_value_293 : decode cX12_value 293 = .ok (.iaload, 1) := by decide +kernel
theorem dX12_value_294 : decode cX12_value 294 = .ok (.iconst 0, 1) := by decide +kernel
theorem dX12_value_295 : decode cX12_value 295 = .ok (.iconst 0, 1) := by decide +kernel
theorem dX12_value_296 : decode cX12_value 296 = .ok (.invokevirtual 609, 3) := by decide +kernel
theorem dX12_value_299 : decode cX12_value 299 = .ok (.istore_n 2, 1) := by decide +kernel
theorem dX12_value_300 : decode cX12_value 300 = .ok (.iload_n 3, 1) := by decide +kernel
theorem dX12_value_301 : decode cX12_value 301 = .ok (.ireturn, 1) := by decide +kernel
theorem dX12_value_302 : decode cX12_value 302 = .ok (.aload_n 0, 1) := by decide +kernel
theorem dX12_value_303 : decode cX12_value 303 = .ok (.iload_n 1, 1) := by decide +kernel
theorem dX12_value_304 : decode cX12_value 304 = .ok (.invokevirtual 628, 3) := by decide +kernel
theorem dX12_value_307 : decode cX12_value 307 = .ok (.ireturn, 1) := by decide +kernel
def fX12_value_262 (rc : TX12_mustBe) (s0 : Int32) (a1 : Int32) (w : Wd) : Option (Int32 × Wd) :=
  if inb a1 24000 = true then bn2 (rc 0 (gi w 8 (Int32.toNatClampNeg a1)) s0 0 w) fun _ w3 => if inb a1 24000 = true then if (gi w3 9 (Int32.toNatClampNeg a1)) = 43 then (some (s0, w3)) else (if inb a1 24000 = true then bn2 (fX12_op 9 (gi w3 9 (Int32.toNatClampNeg a1)) 0 0 w3) fun x7 w8 => some (s0, w8) else none) else none else none
theorem pX12_value_262 {q : Gq} {l : Launch} {N : Option Value → Wd → Prop} {X : String → Wd → Prop} {rc : TX12_mustBe} {dd : Nat} (hS : HSX12_mustBe q l rc dd) (hK : 5 ≤ dd) {w : Wd} {R : Int32 × Wd} (hN : N (some (.int R.1)) R.2) {s0 : Int32} {a1 : Int32} (h : fX12_value_262 rc s0 a1 w = some R) : RT (GM q) l (dd + 1) yX12_value cX12_value 7 ((some .int)) N X 262 [.int s0] [(0, .ref 0), (1, .int a1)] w := by
  unfold fX12_value_262 at h
  refine r_istore_n (pc := 262) (loc' := [(3, .int s0), (0, .ref 0), (1, .int a1)]) dX12_value_262 rfl (Nat.le_of_ble_eq_true rfl) rfl ?_
  refine r_aload_n (pc := 263) dX12_value_263 rfl 1 rfl ?_
  refine r_aload_n (pc := 264) dX12_value_264 rfl 1 rfl ?_
  refine r_get (pc := 265) (j := 17) (v := .ref 8) oM0 cf12 flRX12_102 rfl dX12_value_265 rfl ?_
  refine r_iload_n (pc := 268) dX12_value_268 rfl 2 rfl ?_
  replace h := if_n h; obtain ⟨hb1, h⟩ := h
  refine r_iald (pc := 269) aM8 (inb_in hb1) dX12_value_269 ?_
  refine r_iload_n (pc := 270) dX12_value_270 rfl 0 rfl ?_
  replace h := bn2_e h; obtain ⟨x2, w3, ew3, h⟩ := h
  refine r_cVv (pc := 271) wyX12_mustBe oM0 rfl mlRX12_622 iyX12_mustBe syX12_mustBe ⟨Nat.le_refl _, (Nat.le_of_ble_eq_true rfl)⟩ rfl rfl (Nat.le_of_ble_eq_true rfl) dX12_value_271 ((hS.1 _ _ _ _ _ _ _) ew3 (pV.mk ?_))
  refine r_aload_n (pc := 274) dX12_value_274 rfl 1 rfl ?_
  refine r_get (pc := 275) (j := 18) (v := .ref 9) oM0 cf12 flRX12_105 rfl dX12_value_275 rfl ?_
  refine r_iload_n (pc := 278) dX12_value_278 rfl 2 rfl ?_
  replace h := if_n h; obtain ⟨hb4, h⟩ := h
  refine r_iald (pc := 279) aM9 (inb_in hb4) dX12_value_279 ?_
  refine r_bipush (pc := 280) dX12_value_280 kb_43 ?_
  refine r_icmp_eq (pc := 282) dX12_value_282 rfl (fun hc5 => ?_) (fun hc5 => ?_)
  · replace h := if_t hc5 h
    refine r_iload_n (pc := 300) dX12_value_300 rfl 0 rfl ?_
    exact rO_i (pc := 301) rfl dX12_value_301 h hN
  replace h := if_f hc5 h
  refine r_aload_n (pc := 285) dX12_value_285 rfl 1 rfl ?_
  refine r_bipush (pc := 286) dX12_value_286 kb_9 ?_
  refine r_aload_n (pc := 288) dX12_value_288 rfl 1 rfl ?_
  refine r_get (pc := 289) (j := 18) (v := .ref 9) oM0 cf12 flRX12_105 rfl dX12_value_289 rfl ?_
  refine r_iload_n (pc := 292) dX12_value_292 rfl 2 rfl ?_
  replace h := if_n h; obtain ⟨hb6, h⟩ := h
  refine r_iald (pc := 293) aM9 (inb_in hb6) dX12_value_293 ?_
  refine r_iconst (pc := 294) dX12_value_294 ki_0 ?_
  refine r_iconst (pc := 295) dX12_value_295 ki_0 ?_
  replace h := bn2_e h; obtain ⟨x7, w8, ew8, h⟩ := h
  refine r_cVi (pc := 296) wyX12_op oM0 rfl mlRX12_609 iyX12_op syX12_op ⟨Nat.succ_le_succ (Nat.le_trans (Nat.le_of_ble_eq_true rfl) hK), (Nat.le_of_ble_eq_true rfl)⟩ rfl rfl (Nat.le_of_ble_eq_true rfl) dX12_value_296 (mX12_op ew8 (pI.mk ?_))
  refine r_istore_n (pc := 299) (loc' := [(2, .int x7), (3, .int s0), (0, .ref 0), (1, .int a1)]) dX12_value_299 rfl (Nat.le_of_ble_eq_true rfl) rfl ?_
  refine r_iload_n (pc := 300) dX12_value_300 rfl 1 rfl ?_
  exact rO_i (pc := 301) rfl dX12_value_301 h hN
def fX12_value (rc : TX12_mustBe) (a1 : Int32) (w : Wd) : Option (Int32 × Wd) :=
  if inb a1 24000 = true then lt ((gi w 7 (Int32.toNatClampNeg a1))) fun x2 => if x2 = 1 then (if inb a1 24000 = true then bn2 (fX12_op 1 (gi w 12 (Int32.toNatClampNeg a1)) 0 0 w) fun x5 w6 => some (1, w6) else none) else if x2 = 2 then (if inb a1 24000 = true then bn2 (fX12_op 1 (-1) (gi w 8 (Int32.toNatClampNeg a1)) 0 w) fun x9 w10 => some (2, w10) else none) else if x2 = 3 then (bn2 (fX12_named a1 w) fun x12 w13 => some (x12, w13)) else if x2 = 4 then (bn2 (rc 4 a1 0 0 w) fun x15 w16 => bn2 (fX12_op 6 0 0 0 w16) fun x17 w18 => some (x15, w18)) else if x2 = 5 then (bn2 (rc 7 a1 1 0 w) fun x20 w21 => some (x20, w21)) else if x2 = 7 then (if inb a1 24000 = true then if (gi w 9 (Int32.toNatClampNeg a1)) = 281 then (fX12_value_262 rc 2 a1 w) else (fX12_value_262 rc 1 a1 w) else none) else if x2 = 8 then (if inb a1 24000 = true then bn2 (rc 0 (gi w 8 (Int32.toNatClampNeg a1)) 2 0 w) fun _ w28 => bn2 (fX12_op 11 0 0 0 w28) fun x29 w30 => if inb a1 24000 = true then bn2 (rc 1 (gi w30 9 (Int32.toNatClampNeg a1)) 0 0 w30) fun x32 w33 => bn2 (fX12_op 10 0 0 0 w33) fun x34 w35 => bn (fX12_patch x29 w35) fun w36 => if inb a1 24000 = true then bn2 (rc 1 (gi w36 10 (Int32.toNatClampNeg a1)) 0 0 w36) fun x38 w39 => bn (fX12_patch x34 w39) fun w40 => if x32 = 0 then (if x32 = 0 then (some (x38, w40)) else (some (x32, w40))) else (if x38 = 0 then (if x32 = 0 then (some (x38, w40)) else (some (x32, w40))) else (if x32 = x38 then (if x32 = 0 then (some (x38, w40)) else (some (x32, w40))) else (if inb a1 24000 = true then if inb (gi w40 10 (Int32.toNatClampNeg a1)) 24000 = true then bn (fX12_found 4 (gi w40 12 (Int32.toNatClampNeg (gi w40 10 (Int32.toNatClampNeg a1)))) w40) fun w49 => some (0, w49) else none else none))) else none else none else none) else if x2 = 9 then (if inb a1 24000 = true then bn2 (rc 1 (gi w 8 (Int32.toNatClampNeg a1)) 0 0 w) fun x52 w53 => some (x52, w53) else none) else (bn2 (rc 2 a1 0 0 w) fun x54 w55 => some (x54, w55)) else none
set_option maxHeartbeats 16000000 in
theorem pX12_value {q : Gq} {l : Launch} {N : Option Value → Wd → Prop} {X : String → Wd → Prop} {rc : TX12_mustBe} {dd : Nat} (hS : HSX12_mustBe q l rc dd) (hK : 5 ≤ dd) {w : Wd} {R : Int32 × Wd} (hN : N (some (.int R.1)) R.2) {a1 : Int32} (h : fX12_value rc a1 w = some R) : RT (GM q) l (dd + 1) yX12_value cX12_value 7 ((some .int)) N X 0 [] [(0, .ref 0), (1, .int a1)] w := by
  unfold fX12_value at h
  refine r_aload_n (pc := 0) dX12_value_0 rfl 0 rfl ?_
  refine r_get (pc := 1) (j := 16) (v := .ref 7) oM0 cf12 flRX12_99 rfl dX12_value_1 rfl ?_
  refine r_iload_n (pc := 4) dX12_value_4 rfl 1 rfl ?_
  replace h := if_n h; obtain ⟨hb1, h⟩ := h
  refine r_iald (pc := 5) aM7 (inb_in hb1) dX12_value_5 ?_
  replace h := lt_e h; obtain ⟨x2, ex2, h⟩ := h
  refine r_topi ex2 ?_
  by_cases hc3 : x2 = 1
  · refine r_tabC (pc := 6) (off := 50) (tgt := 56) (L := [1]) dX12_value_6 hc3 (by decide) rfl ?_
    replace h := if_t hc3 h
    refine r_aload_n (pc := 56) dX12_value_56 rfl 0 rfl ?_
    refine r_iconst (pc := 57) dX12_value_57 ki_1 ?_
    refine r_aload_n (pc := 58) dX12_value_58 rfl 0 rfl ?_
    refine r_get (pc := 59) (j := 21) (v := .ref 12) oM0 cf12 flRX12_114 rfl dX12_value_59 rfl ?_
    refine r_iload_n (pc := 62) dX12_value_62 rfl 1 rfl ?_
    replace h := if_n h; obtain ⟨hb4, h⟩ := h
    refine r_iald (pc := 63) aM12 (inb_in hb4) dX12_value_63 ?_
    refine r_iconst (pc := 64) dX12_value_64 ki_0 ?_
    refine r_iconst (pc := 65) dX12_value_65 ki_0 ?_
    replace h := bn2_e h; obtain ⟨x5, w6, ew6, h⟩ := h
    refine r_cVi (pc := 66) wyX12_op oM0 rfl mlRX12_609 iyX12_op syX12_op ⟨Nat.succ_le_succ (Nat.le_trans (Nat.le_of_ble_eq_true rfl) hK), (Nat.le_of_ble_eq_true rfl)⟩ rfl rfl (Nat.le_of_ble_eq_true rfl) dX12_value_66 (mX12_op ew6 (pI.mk ?_))
    refine r_istore_n (pc := 69) (loc' := [(2, .int x5), (0, .ref 0), (1, .int a1)]) dX12_value_69 rfl (Nat.le_of_ble_eq_true rfl) rfl ?_
    refine r_iconst (pc := 70) dX12_value_70 ki_1 ?_
    exact rO_i (pc := 71) rfl dX12_value_71 h hN
  replace h := if_f hc3 h
  by_cases hc7 : x2 = 2
  · refine r_tabC (pc := 6) (off := 66) (tgt := 72) (L := [2]) dX12_value_6 hc7 (by decide) rfl ?_
    replace h := if_t hc7 h
    refine r_aload_n (pc := 72) dX12_value_72 rfl 0 rfl ?_
    refine r_iconst (pc := 73) dX12_value_73 ki_1 ?_
    refine r_iconst (pc := 74) dX12_value_74 ki_m1 ?_
    refine r_aload_n (pc := 75) dX12_value_75 rfl 0 rfl ?_
    refine r_get (pc := 76) (j := 17) (v := .ref 8) oM0 cf12 flRX12_102 rfl dX12_value_76 rfl ?_
    refine r_iload_n (pc := 79) dX12_value_79 rfl 1 rfl ?_
    replace h := if_n h; obtain ⟨hb8, h⟩ := h
    refine r_iald (pc := 80) aM8 (inb_in hb8) dX12_value_80 ?_
    refine r_iconst (pc := 81) dX12_value_81 ki_0 ?_
    replace h := bn2_e h; obtain ⟨x9, w10, ew10, h⟩ := h
    refine r_cVi (pc := 82) wyX12_op oM0 rfl mlRX12_609 iyX12_op syX12_op ⟨Nat.succ_le_succ (Nat.le_trans (Nat.le_of_ble_eq_true rfl) hK), (Nat.le_of_ble_eq_true rfl)⟩ rfl rfl (Nat.le_of_ble_eq_true rfl) dX12_value_82 (mX12_op ew10 (pI.mk ?_))
    refine r_istore_n (pc := 85) (loc' := [(2, .int x9), (0, .ref 0), (1, .int a1)]) dX12_value_85 rfl (Nat.le_of_ble_eq_true rfl) rfl ?_
    refine r_iconst (pc := 86) dX12_value_86 ki_2 ?_
    exact rO_i (pc := 87) rfl dX12_value_87 h hN
  replace h := if_f hc7 h
  by_cases hc11 : x2 = 3
  · refine r_tabC (pc := 6) (off := 93) (tgt := 99) (L := [3]) dX12_value_6 hc11 (by decide) rfl ?_
    replace h := if_t hc11 h
    refine r_aload_n (pc := 99) dX12_value_99 rfl 0 rfl ?_
    refine r_iload_n (pc := 100) dX12_value_100 rfl 1 rfl ?_
    replace h := bn2_e h; obtain ⟨x12, w13, ew13, h⟩ := h
    refine r_cVi (pc := 101) wyX12_named oM0 rfl mlRX12_612 iyX12_named syX12_named ⟨Nat.succ_le_succ (Nat.le_trans (Nat.le_of_ble_eq_true rfl) hK), (Nat.le_of_ble_eq_true rfl)⟩ rfl rfl (Nat.le_of_ble_eq_true rfl) dX12_value_101 (mX12_named ew13 (pI.mk ?_))
    exact rO_i (pc := 104) rfl dX12_value_104 h hN
  replace h := if_f hc11 h
  by_cases hc14 : x2 = 4
  · refine r_tabC (pc := 6) (off := 99) (tgt := 105) (L := [4]) dX12_value_6 hc14 (by decide) rfl ?_
    replace h := if_t hc14 h
    refine r_aload_n (pc := 105) dX12_value_105 rfl 0 rfl ?_
    refine r_iload_n (pc := 106) dX12_value_106 rfl 1 rfl ?_
    replace h := bn2_e h; obtain ⟨x15, w16, ew16, h⟩ := h
    refine r_cVi (pc := 107) wyX12_element oM0 rfl mlRX12_615 iyX12_element syX12_element ⟨Nat.le_refl _, (Nat.le_of_ble_eq_true rfl)⟩ rfl rfl (Nat.le_of_ble_eq_true rfl) dX12_value_107 ((hS.2.2.2.2.1 _ _ _ _ _ _) ew16 (pI.mk ?_))
    refine r_istore_n (pc := 110) (loc' := [(3, .int x15), (0, .ref 0), (1, .int a1)]) dX12_value_110 rfl (Nat.le_of_ble_eq_true rfl) rfl ?_
    refine r_aload_n (pc := 111) dX12_value_111 rfl 1 rfl ?_
    refine r_bipush (pc := 112) dX12_value_112 kb_6 ?_
    refine r_iconst (pc := 114) dX12_value_114 ki_0 ?_
    refine r_iconst (pc := 115) dX12_value_115 ki_0 ?_
    refine r_iconst (pc := 116) dX12_value_116 ki_0 ?_
    replace h := bn2_e h; obtain ⟨x17, w18, ew18, h⟩ := h
    refine r_cVi (pc := 117) wyX12_op oM0 rfl mlRX12_609 iyX12_op syX12_op ⟨Nat.succ_le_succ (Nat.le_trans (Nat.le_of_ble_eq_true rfl) hK), (Nat.le_of_ble_eq_true rfl)⟩ rfl rfl (Nat.le_of_ble_eq_true rfl) dX12_value_117 (mX12_op ew18 (pI.mk ?_))
    refine r_istore_n (pc := 120) (loc' := [(2, .int x17), (3, .int x15), (0, .ref 0), (1, .int a1)]) dX12_value_120 rfl (Nat.le_of_ble_eq_true rfl) rfl ?_
    refine r_iload_n (pc := 121) dX12_value_121 rfl 1 rfl ?_
    exact rO_i (pc := 122) rfl dX12_value_122 h hN
  replace h := if_f hc14 h
  by_cases hc19 : x2 = 5
  · refine r_tabC (pc := 6) (off := 117) (tgt := 123) (L := [5]) dX12_value_6 hc19 (by decide) rfl ?_
    replace h := if_t hc19 h
    refine r_aload_n (pc := 123) dX12_value_123 rfl 0 rfl ?_
    refine r_iload_n (pc := 124) dX12_value_124 rfl 1 rfl ?_
    refine r_iconst (pc := 125) dX12_value_125 ki_1 ?_
    replace h := bn2_e h; obtain ⟨x20, w21, ew21, h⟩ := h
    refine r_cVi (pc := 126) wyX12_called oM0 rfl mlRX12_618 iyX12_called syX12_called ⟨Nat.le_refl _, (Nat.le_of_ble_eq_true rfl)⟩ rfl rfl (Nat.le_of_ble_eq_true rfl) dX12_value_126 ((hS.2.2.2.2.2.2.2.1 _ _ _ _ _ _ _) ew21 (pI.mk ?_))
    exact rO_i (pc := 129) rfl dX12_value_129 h hN
  replace h := if_f hc19 h
  by_cases hc22 : x2 = 7
  · refine r_tabC (pc := 6) (off := 239) (tgt := 245) (L := [7]) dX12_value_6 hc22 (by decide) rfl ?_
    replace h := if_t hc22 h
    refine r_aload_n (pc := 245) dX12_value_245 rfl 0 rfl ?_
    refine r_get (pc := 246) (j := 18) (v := .ref 9) oM0 cf12 flRX12_105 rfl dX12_value_246 rfl ?_
    refine r_iload_n (pc := 249) dX12_value_249 rfl 1 rfl ?_
    replace h := if_n h; obtain ⟨hb23, h⟩ := h
    refine r_iald (pc := 250) aM9 (inb_in hb23) dX12_value_250 ?_
    refine r_sipush (pc := 251) dX12_value_251 ks_281 ?_
    refine r_icmp_ne (pc := 254) dX12_value_254 rfl (fun hc24 => ?_) (fun hc24 => ?_)
    · replace h := if_f hc24 h
      refine r_iconst (pc := 261) dX12_value_261 ki_1 ?_
      exact pX12_value_262 hS hK hN h
    replace h := if_t hc24 h
    refine r_iconst (pc := 257) dX12_value_257 ki_2 ?_
    refine r_goto (pc := 258) dX12_value_258 rfl ?_
    exact pX12_value_262 hS hK hN h
  replace h := if_f hc22 h
  by_cases hc25 : x2 = 8
  · refine r_tabC (pc := 6) (off := 124) (tgt := 130) (L := [8]) dX12_value_6 hc25 (by decide) rfl ?_
    replace h := if_t hc25 h
    refine r_aload_n (pc := 130) dX12_value_130 rfl 0 rfl ?_
    refine r_aload_n (pc := 131) dX12_value_131 rfl 0 rfl ?_
    refine r_get (pc := 132) (j := 17) (v := .ref 8) oM0 cf12 flRX12_102 rfl dX12_value_132 rfl ?_
    refine r_iload_n (pc := 135) dX12_value_135 rfl 1 rfl ?_
    replace h := if_n h; obtain ⟨hb26, h⟩ := h
    refine r_iald (pc := 136) aM8 (inb_in hb26) dX12_value_136 ?_
    refine r_iconst (pc := 137) dX12_value_137 ki_2 ?_
    replace h := bn2_e h; obtain ⟨x27, w28, ew28, h⟩ := h
    refine r_cVv (pc := 138) wyX12_mustBe oM0 rfl mlRX12_622 iyX12_mustBe syX12_mustBe ⟨Nat.le_refl _, (Nat.le_of_ble_eq_true rfl)⟩ rfl rfl (Nat.le_of_ble_eq_true rfl) dX12_value_138 ((hS.1 _ _ _ _ _ _ _) ew28 (pV.mk ?_))
    refine r_aload_n (pc := 141) dX12_value_141 rfl 0 rfl ?_
    refine r_bipush (pc := 142) dX12_value_142 kb_11 ?_
    refine r_iconst (pc := 144) dX12_value_144 ki_0 ?_
    refine r_iconst (pc := 145) dX12_value_145 ki_0 ?_
    refine r_iconst (pc := 146) dX12_value_146 ki_0 ?_
    replace h := bn2_e h; obtain ⟨x29, w30, ew30, h⟩ := h
    refine r_cVi (pc := 147) wyX12_op oM0 rfl mlRX12_609 iyX12_op syX12_op ⟨Nat.succ_le_succ (Nat.le_trans (Nat.le_of_ble_eq_true rfl) hK), (Nat.le_of_ble_eq_true rfl)⟩ rfl rfl (Nat.le_of_ble_eq_true rfl) dX12_value_147 (mX12_op ew30 (pI.mk ?_))
    refine r_istore_n (pc := 150) (loc' := [(3, .int x29), (0, .ref 0), (1, .int a1)]) dX12_value_150 rfl (Nat.le_of_ble_eq_true rfl) rfl ?_
    refine r_aload_n (pc := 151) dX12_value_151 rfl 1 rfl ?_
    refine r_aload_n (pc := 152) dX12_value_152 rfl 1 rfl ?_
    refine r_get (pc := 153) (j := 18) (v := .ref 9) oM0 cf12 flRX12_105 rfl dX12_value_153 rfl ?_
    refine r_iload_n (pc := 156) dX12_value_156 rfl 2 rfl ?_
    replace h := if_n h; obtain ⟨hb31, h⟩ := h
    refine r_iald (pc := 157) aM9 (inb_in hb31) dX12_value_157 ?_
    replace h := bn2_e h; obtain ⟨x32, w33, ew33, h⟩ := h
    refine r_cVi (pc := 158) wyX12_value oM0 rfl mlRX12_607 iyX12_value syX12_value ⟨Nat.le_refl _, (Nat.le_of_ble_eq_true rfl)⟩ rfl rfl (Nat.le_of_ble_eq_true rfl) dX12_value_158 ((hS.2.1 _ _ _ _ _ _) ew33 (pI.mk ?_))
    refine r_istore (pc := 161) (loc' := [(4, .int x32), (3, .int x29), (0, .ref 0), (1, .int a1)]) dX12_value_161 (Nat.le_of_ble_eq_true rfl) rfl ?_
    refine r_aload_n (pc := 163) dX12_value_163 rfl 2 rfl ?_
    refine r_bipush (pc := 164) dX12_value_164 kb_10 ?_
    refine r_iconst (pc := 166) dX12_value_166 ki_0 ?_
    refine r_iconst (pc := 167) dX12_value_167 ki_0 ?_
    refine r_iconst (pc := 168) dX12_value_168 ki_0 ?_
    replace h := bn2_e h; obtain ⟨x34, w35, ew35, h⟩ := h
    refine r_cVi (pc := 169) wyX12_op oM0 rfl mlRX12_609 iyX12_op syX12_op ⟨Nat.succ_le_succ (Nat.le_trans (Nat.le_of_ble_eq_true rfl) hK), (Nat.le_of_ble_eq_true rfl)⟩ rfl rfl (Nat.le_of_ble_eq_true rfl) dX12_value_169 (mX12_op ew35 (pI.mk ?_))
    refine r_istore (pc := 172) (loc' := [(5, .int x34), (4, .int x32), (3, .int x29), (0, .ref 0), (1, .int a1)]) dX12_value_172 (Nat.le_of_ble_eq_true rfl) rfl ?_
    refine r_aload_n (pc := 174) dX12_value_174 rfl 3 rfl ?_
    refine r_iload_n (pc := 175) dX12_value_175 rfl 2 rfl ?_
    replace h := bn_e h; obtain ⟨w36, ew36, h⟩ := h
    refine r_cVv (pc := 176) wyX12_patch oM0 rfl mlRX12_625 iyX12_patch syX12_patch ⟨Nat.succ_le_succ (Nat.le_trans (Nat.le_of_ble_eq_true rfl) hK), (Nat.le_of_ble_eq_true rfl)⟩ rfl rfl (Nat.le_of_ble_eq_true rfl) dX12_value_176 (mX12_patch ew36 (pV.mk ?_))
    refine r_aload_n (pc := 179) dX12_value_179 rfl 3 rfl ?_
    refine r_aload_n (pc := 180) dX12_value_180 rfl 3 rfl ?_
    refine r_get (pc := 181) (j := 19) (v := .ref 10) oM0 cf12 flRX12_108 rfl dX12_value_181 rfl ?_
    refine r_iload_n (pc := 184) dX12_value_184 rfl 4 rfl ?_
    replace h := if_n h; obtain ⟨hb37, h⟩ := h
    refine r_iald (pc := 185) aM10 (inb_in hb37) dX12_value_185 ?_
    replace h := bn2_e h; obtain ⟨x38, w39, ew39, h⟩ := h
    refine r_cVi (pc := 186) wyX12_value oM0 rfl mlRX12_607 iyX12_value syX12_value ⟨Nat.le_refl _, (Nat.le_of_ble_eq_true rfl)⟩ rfl rfl (Nat.le_of_ble_eq_true rfl) dX12_value_186 ((hS.2.1 _ _ _ _ _ _) ew39 (pI.mk ?_))
    refine r_istore (pc := 189) (loc' := [(6, .int x38), (5, .int x34), (4, .int x32), (3, .int x29), (0, .ref 0), (1, .int a1)]) dX12_value_189 (Nat.le_of_ble_eq_true rfl) rfl ?_
    refine r_aload_n (pc := 191) dX12_value_191 rfl 4 rfl ?_
    refine r_iload (pc := 192) dX12_value_192 1 rfl ?_
    replace h := bn_e h; obtain ⟨w40, ew40, h⟩ := h
    refine r_cVv (pc := 194) wyX12_patch oM0 rfl mlRX12_625 iyX12_patch syX12_patch ⟨Nat.succ_le_succ (Nat.le_trans (Nat.le_of_ble_eq_true rfl) hK), (Nat.le_of_ble_eq_true rfl)⟩ rfl rfl (Nat.le_of_ble_eq_true rfl) dX12_value_194 (mX12_patch ew40 (pV.mk ?_))
    refine r_iload (pc := 197) dX12_value_197 2 rfl ?_
    refine r_if_eq (pc := 199) dX12_value_199 rfl (fun hc41 => ?_) (fun hc41 => ?_)
    · replace h := if_t hc41 h
      refine r_iload (pc := 232) dX12_value_232 2 rfl ?_
      refine r_if_eq (pc := 234) dX12_value_234 rfl (fun hc42 => ?_) (fun hc42 => ?_)
      · replace h := if_t hc42 h
        refine r_iload (pc := 242) dX12_value_242 0 rfl ?_
        exact rO_i (pc := 244) rfl dX12_value_244 h hN
      replace h := if_f hc42 h
      refine r_iload (pc := 237) dX12_value_237 2 rfl ?_
      refine r_goto (pc := 239) dX12_value_239 rfl ?_
      exact rO_i (pc := 244) rfl dX12_value_244 h hN
    replace h := if_f hc41 h
    refine r_iload (pc := 202) dX12_value_202 0 rfl ?_
    refine r_if_eq (pc := 204) dX12_value_204 rfl (fun hc43 => ?_) (fun hc43 => ?_)
    · replace h := if_t hc43 h
      refine r_iload (pc := 232) dX12_value_232 2 rfl ?_
      refine r_if_eq (pc := 234) dX12_value_234 rfl (fun hc44 => ?_) (fun hc44 => ?_)
      · replace h := if_t hc44 h
        refine r_iload (pc := 242) dX12_value_242 0 rfl ?_
        exact rO_i (pc := 244) rfl dX12_value_244 h hN
      replace h := if_f hc44 h
      refine r_iload (pc := 237) dX12_value_237 2 rfl ?_
      refine r_goto (pc := 239) dX12_value_239 rfl ?_
      exact rO_i (pc := 244) rfl dX12_value_244 h hN
    replace h := if_f hc43 h
    refine r_iload (pc := 207) dX12_value_207 2 rfl ?_
    refine r_iload (pc := 209) dX12_value_209 0 rfl ?_
    refine r_icmp_eq (pc := 211) dX12_value_211 rfl (fun hc45 => ?_) (fun hc45 => ?_)
    · replace h := if_t hc45 h
      refine r_iload (pc := 232) dX12_value_232 2 rfl ?_
      refine r_if_eq (pc := 234) dX12_value_234 rfl (fun hc46 => ?_) (fun hc46 => ?_)
      · replace h := if_t hc46 h
        refine r_iload (pc := 242) dX12_value_242 0 rfl ?_
        exact rO_i (pc := 244) rfl dX12_value_244 h hN
      replace h := if_f hc46 h
      refine r_iload (pc := 237) dX12_value_237 2 rfl ?_
      refine r_goto (pc := 239) dX12_value_239 rfl ?_
      exact rO_i (pc := 244) rfl dX12_value_244 h hN
    replace h := if_f hc45 h
    refine r_aload_n (pc := 214) dX12_value_214 rfl 4 rfl ?_
    refine r_iconst (pc := 215) dX12_value_215 ki_4 ?_
    refine r_aload_n (pc := 216) dX12_value_216 rfl 4 rfl ?_
    refine r_get (pc := 217) (j := 21) (v := .ref 12) oM0 cf12 flRX12_114 rfl dX12_value_217 rfl ?_
    refine r_aload_n (pc := 220) dX12_value_220 rfl 4 rfl ?_
    refine r_get (pc := 221) (j := 19) (v := .ref 10) oM0 cf12 flRX12_108 rfl dX12_value_221 rfl ?_
    refine r_iload_n (pc := 224) dX12_value_224 rfl 5 rfl ?_
    replace h := if_n h; obtain ⟨hb47, h⟩ := h
    refine r_iald (pc := 225) aM10 (inb_in hb47) dX12_value_225 ?_
    replace h := if_n h; obtain ⟨hb48, h⟩ := h
    refine r_iald (pc := 226) aM12 (inb_in hb48) dX12_value_226 ?_
    replace h := bn_e h; obtain ⟨w49, ew49, h⟩ := h
    refine r_cVv (pc := 227) wyX12_found oM0 rfl mlRX12_484 iyX12_found syX12_found ⟨Nat.succ_le_succ (Nat.le_trans (Nat.le_of_ble_eq_true rfl) hK), (Nat.le_of_ble_eq_true rfl)⟩ rfl rfl (Nat.le_of_ble_eq_true rfl) dX12_value_227 (mX12_found ew49 (pV.mk ?_))
    refine r_iconst (pc := 230) dX12_value_230 ki_0 ?_
    exact rO_i (pc := 231) rfl dX12_value_231 h hN
  replace h := if_f hc25 h
  by_cases hc50 : x2 = 9
  · refine r_tabC (pc := 6) (off := 82) (tgt := 88) (L := [9]) dX12_value_6 hc50 (by decide) rfl ?_
    replace h := if_t hc50 h
    refine r_aload_n (pc := 88) dX12_value_88 rfl 0 rfl ?_
    refine r_aload_n (pc := 89) dX12_value_89 rfl 0 rfl ?_
    refine r_get (pc := 90) (j := 17) (v := .ref 8) oM0 cf12 flRX12_102 rfl dX12_value_90 rfl ?_
    refine r_iload_n (pc := 93) dX12_value_93 rfl 1 rfl ?_
    replace h := if_n h; obtain ⟨hb51, h⟩ := h
    refine r_iald (pc := 94) aM8 (inb_in hb51) dX12_value_94 ?_
    replace h := bn2_e h; obtain ⟨x52, w53, ew53, h⟩ := h
    refine r_cVi (pc := 95) wyX12_value oM0 rfl mlRX12_607 iyX12_value syX12_value ⟨Nat.le_refl _, (Nat.le_of_ble_eq_true rfl)⟩ rfl rfl (Nat.le_of_ble_eq_true rfl) dX12_value_95 ((hS.2.1 _ _ _ _ _ _) ew53 (pI.mk ?_))
    exact rO_i (pc := 98) rfl dX12_value_98 h hN
  replace h := if_f hc50 h
  refine r_tabD (pc := 6) (tgt := 302) (K := [[1], [2], [3], [4], [5], [7], [8], [9]]) dX12_value_6 ⟨hc3, hc7, hc11, hc14, hc19, hc22, hc25, hc50, trivial⟩ (by decide) (by decide) rfl ?_
  refine r_aload_n (pc := 302) dX12_value_302 rfl 0 rfl ?_
  refine r_iload_n (pc := 303) dX12_value_303 rfl 1 rfl ?_
  replace h := bn2_e h; obtain ⟨x54, w55, ew55, h⟩ := h
  refine r_cVi (pc := 304) wyX12_two oM0 rfl mlRX12_628 iyX12_two syX12_two ⟨Nat.le_refl _, (Nat.le_of_ble_eq_true rfl)⟩ rfl rfl (Nat.le_of_ble_eq_true rfl) dX12_value_304 ((hS.2.2.1 _ _ _ _ _ _) ew55 (pI.mk ?_))
  exact rO_i (pc := 307) rfl dX12_value_307 h hN
/-! AlgolMillModel.mustBe (II)V: O, 1705 -/
theorem dX12_mustBe_0 : decode cX12_mustBe 0 = .ok (.aload_n 0, 1) := by decide +kernel
theorem dX12_mustBe_1 : decode cX12_mustBe 1 = .ok (.iload_n 1, 1) := by decide +kernel
theorem dX12_mustBe_2 : decode cX12_mustBe 2 = .ok (.invokevirtual 607, 3) := by decide +kernel
theorem dX12_mustBe_5 : decode cX12_mustBe 5 = .ok (.istore_n 3, 1) := by decide +kernel
theorem dX12_mustBe_6 : decode cX12_mustBe 6 = .ok (.iload_n 3, 1) := by decide +kernel
theorem dX12_mustBe_7 : decode cX12_mustBe 7 = .ok (.ifCond .eq 19, 3) := by decide +kernel
theorem dX12_mustBe_10 : decode cX12_mustBe 10 = .ok (.iload_n 3, 1) := by decide +kernel
theorem dX12_mustBe_11 : decode cX12_mustBe 11 = .ok (.iload_n 2, 1) := by decide +kernel
theorem dX12_mustBe_12 : decode cX12_mustBe 12 = .ok (.if_icmp .eq 14, 3) := by decide +kernel
theorem dX12_mustBe_15 : decode cX12_mustBe 15 = .ok (.aload_n 0, 1) := by decide +kernel
theorem dX12_mustBe_16 : decode cX12_mustBe 16 = .ok (.iconst 4, 1) := by decide +kernel
theorem dX12_mustBe_17 : decode cX12_mustBe 17 = .ok (.aload_n 0, 1) := by decide +kernel
theorem dX12_mustBe_18 : decode cX12_mustBe 18 = .ok (.getfield 114, 3) := by decide +kernel
theorem dX12_mustBe_21 : decode cX12_mustBe 21 = .ok (.iload_n 1, 1) := by decide +kernel
theorem dX12_mustBe_22 : decode cX12_mustBe 22 = .ok (.iaload, 1) := by decide +kernel
theorem dX12_mustBe_23 : decode cX12_mustBe 23 = .ok (.invokevirtual 484, 3) := by decide +kernel
theorem dX12_mustBe_26 : decode cX12_mustBe 26 = .ok (.return_, 1) := by decide +kernel
def fX12_mustBe (rc : TX12_mustBe) (a1 : Int32) (a2 : Int32) (w : Wd) : Option (Int32 × Wd) :=
  bn2 (rc 1 a1 0 0 w) fun x1 w2 => if x1 = 0 then (some (0, w2)) else (if x1 = a2 then (some (0, w2)) else (if inb a1 24000 = true then bn (fX12_found 4 (gi w2 12 (Int32.toNatClampNeg a1)) w2) fun w6 => some (0, w6) else none))
theorem pX12_mustBe {q : Gq} {l : Launch} {N : Option Value → Wd → Prop} {X : String → Wd → Prop} {rc : TX12_mustBe} {dd : Nat} (hS : HSX12_mustBe q l rc dd) (hK : 5 ≤ dd) {w : Wd} {R : Int32 × Wd} (hN : N none R.2) {a1 : Int32} {a2 : Int32} (h : fX12_mustBe rc a1 a2 w = some R) : RT (GM q) l (dd + 1) yX12_mustBe cX12_mustBe 4 (none) N X 0 [] [(0, .ref 0), (1, .int a1), (2, .int a2)] w := by
  unfold fX12_mustBe at h
  refine r_aload_n (pc := 0) dX12_mustBe_0 rfl 0 rfl ?_
  refine r_iload_n (pc := 1) dX12_mustBe_1 rfl 1 rfl ?_
  replace h := bn2_e h; obtain ⟨x1, w2, ew2, h⟩ := h
  refine r_cVi (pc := 2) wyX12_value oM0 rfl mlRX12_607 iyX12_value syX12_value ⟨Nat.le_refl _, (Nat.le_of_ble_eq_true rfl)⟩ rfl rfl (Nat.le_of_ble_eq_true rfl) dX12_mustBe_2 ((hS.2.1 _ _ _ _ _ _) ew2 (pI.mk ?_))
  refine r_istore_n (pc := 5) (loc' := [(3, .int x1), (0, .ref 0), (1, .int a1), (2, .int a2)]) dX12_mustBe_5 rfl (Nat.le_of_ble_eq_true rfl) rfl ?_
  refine r_iload_n (pc := 6) dX12_mustBe_6 rfl 0 rfl ?_
  refine r_if_eq (pc := 7) dX12_mustBe_7 rfl (fun hc3 => ?_) (fun hc3 => ?_)
  · replace h := if_t hc3 h
    exact rOR_v (pc := 26) rfl dX12_mustBe_26 h hN
  replace h := if_f hc3 h
  refine r_iload_n (pc := 10) dX12_mustBe_10 rfl 0 rfl ?_
  refine r_iload_n (pc := 11) dX12_mustBe_11 rfl 3 rfl ?_
  refine r_icmp_eq (pc := 12) dX12_mustBe_12 rfl (fun hc4 => ?_) (fun hc4 => ?_)
  · replace h := if_t hc4 h
    exact rOR_v (pc := 26) rfl dX12_mustBe_26 h hN
  replace h := if_f hc4 h
  refine r_aload_n (pc := 15) dX12_mustBe_15 rfl 1 rfl ?_
  refine r_iconst (pc := 16) dX12_mustBe_16 ki_4 ?_
  refine r_aload_n (pc := 17) dX12_mustBe_17 rfl 1 rfl ?_
  refine r_get (pc := 18) (j := 21) (v := .ref 12) oM0 cf12 flRX12_114 rfl dX12_mustBe_18 rfl ?_
  refine r_iload_n (pc := 21) dX12_mustBe_21 rfl 2 rfl ?_
  replace h := if_n h; obtain ⟨hb5, h⟩ := h
  refine r_iald (pc := 22) aM12 (inb_in hb5) dX12_mustBe_22 ?_
  replace h := bn_e h; obtain ⟨w6, ew6, h⟩ := h
  refine r_cVv (pc := 23) wyX12_found oM0 rfl mlRX12_484 iyX12_found syX12_found ⟨Nat.succ_le_succ (Nat.le_trans (Nat.le_of_ble_eq_true rfl) hK), (Nat.le_of_ble_eq_true rfl)⟩ rfl rfl (Nat.le_of_ble_eq_true rfl) dX12_mustBe_23 (mX12_found ew6 (pV.mk ?_))
  exact rOR_v (pc := 26) rfl dX12_mustBe_26 h hN
def BX12_mustBe (rc : TX12_mustBe) : TX12_mustBe := fun i a b c w => match i with
  | 0 => fX12_mustBe rc a b w
  | 1 => fX12_value rc a w
  | 2 => fX12_two rc a w
  | 3 => fX12_joined rc a b c w
  | 4 => fX12_element rc a w
  | 5 => fX12_place rc a b w
  | 6 => fX12_aimCode rc a w
  | 7 => fX12_called rc a b w
  | 8 => fX12_loose rc a w
  | 9 => fX12_names rc a w
  | 10 => fX12_actual rc a b c w
  | 11 => fX12_thunk rc a b w
  | 12 => fX12_byName rc a b c w
  | _ => none
def RX12_mustBe : Nat → TX12_mustBe
  | 0 => fun _ _ _ _ _ => none
  | n + 1 => BX12_mustBe (RX12_mustBe n)
theorem hzX12_mustBe {q : Gq} {l : Launch} (dd : Nat) : HSX12_mustBe q l (RX12_mustBe 0) dd :=
  ⟨fun _ _ _ _ _ _ _ h => absurd h (fun q => nomatch q),
    fun _ _ _ _ _ _ h => absurd h (fun q => nomatch q),
    fun _ _ _ _ _ _ h => absurd h (fun q => nomatch q),
    fun _ _ _ _ _ _ _ _ h => absurd h (fun q => nomatch q),
    fun _ _ _ _ _ _ h => absurd h (fun q => nomatch q),
    fun _ _ _ _ _ _ _ h => absurd h (fun q => nomatch q),
    fun _ _ _ _ _ _ h => absurd h (fun q => nomatch q),
    fun _ _ _ _ _ _ _ h => absurd h (fun q => nomatch q),
    fun _ _ _ _ _ _ h => absurd h (fun q => nomatch q),
    fun _ _ _ _ _ _ h => absurd h (fun q => nomatch q),
    fun _ _ _ _ _ _ _ _ h => absurd h (fun q => nomatch q),
    fun _ _ _ _ _ _ _ h => absurd h (fun q => nomatch q),
    fun _ _ _ _ _ _ _ _ h => absurd h (fun q => nomatch q)⟩
theorem hnX12_mustBe {q : Gq} {l : Launch} {rc : TX12_mustBe} {dd : Nat} (ih : HSX12_mustBe q l rc dd) (hK : 5 ≤ dd) : HSX12_mustBe q l (BX12_mustBe rc) (dd + 1) :=
  ⟨fun _ _ _ _ _ _ _ h hN => Ct.of (by decide) (Nat.le_of_ble_eq_true rfl) (pX12_mustBe ih hK hN h),
    fun _ _ _ _ _ _ h hN => Ct.of (by decide) (Nat.le_of_ble_eq_true rfl) (pX12_value ih hK hN h),
    fun _ _ _ _ _ _ h hN => Ct.of (by decide) (Nat.le_of_ble_eq_true rfl) (pX12_two ih hK hN h),
    fun _ _ _ _ _ _ _ _ h hN => Ct.of (by decide) (Nat.le_of_ble_eq_true rfl) (pX12_joined ih hK hN h),
    fun _ _ _ _ _ _ h hN => Ct.of (by decide) (Nat.le_of_ble_eq_true rfl) (pX12_element ih hK hN h),
    fun _ _ _ _ _ _ _ h hN => Ct.of (by decide) (Nat.le_of_ble_eq_true rfl) (pX12_place ih hK hN h),
    fun _ _ _ _ _ _ h hN => Ct.of (by decide) (Nat.le_of_ble_eq_true rfl) (pX12_aimCode ih hK hN h),
    fun _ _ _ _ _ _ _ h hN => Ct.of (by decide) (Nat.le_of_ble_eq_true rfl) (pX12_called ih hK hN h),
    fun _ _ _ _ _ _ h hN => Ct.of (by decide) (Nat.le_of_ble_eq_true rfl) (pX12_loose ih hK hN h),
    fun _ _ _ _ _ _ h hN => Ct.of (by decide) (Nat.le_of_ble_eq_true rfl) (pX12_names ih hK hN h),
    fun _ _ _ _ _ _ _ _ h hN => Ct.of (by decide) (Nat.le_of_ble_eq_true rfl) (pX12_actual ih hK hN h),
    fun _ _ _ _ _ _ _ h hN => Ct.of (by decide) (Nat.le_of_ble_eq_true rfl) (pX12_thunk ih hK hN h),
    fun _ _ _ _ _ _ _ _ h hN => Ct.of (by decide) (Nat.le_of_ble_eq_true rfl) (pX12_byName ih hK hN h)⟩
theorem hsX12_mustBe {q : Gq} {l : Launch} (b9 : Nat) (hb : 5 ≤ b9) : ∀ n : Nat, HSX12_mustBe q l (RX12_mustBe n) (b9 + n) := by
  intro n
  induction n with
  | zero => exact hzX12_mustBe (b9 + 0)
  | succ n ih => exact hnX12_mustBe (rc := RX12_mustBe n) (dd := b9 + n) ih (Nat.le_trans hb (Nat.le_add_right _ _))
theorem mX12_mustBe {q : Gq} {l : Launch} {N : Option Value → Wd → Prop} {X : String → Wd → Prop} {a1 : Int32} {a2 : Int32} {w : Wd} {x : Int32} {u : Wd} (h : RX12_mustBe 1700 0 a1 a2 0 w = some (x, u)) (hN : N none u) : Ct (GM q) l 1705 yX12_mustBe cX12_mustBe 4 (none) [.ref 0, .int a1, .int a2] w N X := (hsX12_mustBe 5 (Nat.le_refl _) 1700).1 _ _ _ _ _ _ _ h hN
theorem mX12_value {q : Gq} {l : Launch} {N : Option Value → Wd → Prop} {X : String → Wd → Prop} {a1 : Int32} {w : Wd} {x : Int32} {u : Wd} (h : RX12_mustBe 1700 1 a1 0 0 w = some (x, u)) (hN : N (some (.int x)) u) : Ct (GM q) l 1705 yX12_value cX12_value 7 ((some .int)) [.ref 0, .int a1] w N X := (hsX12_mustBe 5 (Nat.le_refl _) 1700).2.1 _ _ _ _ _ _ h hN
theorem mX12_two {q : Gq} {l : Launch} {N : Option Value → Wd → Prop} {X : String → Wd → Prop} {a1 : Int32} {w : Wd} {x : Int32} {u : Wd} (h : RX12_mustBe 1700 2 a1 0 0 w = some (x, u)) (hN : N (some (.int x)) u) : Ct (GM q) l 1705 yX12_two cX12_two 6 ((some .int)) [.ref 0, .int a1] w N X := (hsX12_mustBe 5 (Nat.le_refl _) 1700).2.2.1 _ _ _ _ _ _ h hN
theorem mX12_joined {q : Gq} {l : Launch} {N : Option Value → Wd → Prop} {X : String → Wd → Prop} {a1 : Int32} {a2 : Int32} {a3 : Int32} {w : Wd} {x : Int32} {u : Wd} (h : RX12_mustBe 1700 3 a1 a2 a3 w = some (x, u)) (hN : N (some (.int x)) u) : Ct (GM q) l 1705 yX12_joined cX12_joined 7 ((some .int)) [.ref 0, .int a1, .int a2, .int a3] w N X := (hsX12_mustBe 5 (Nat.le_refl _) 1700).2.2.2.1 _ _ _ _ _ _ _ _ h hN
theorem mX12_element {q : Gq} {l : Launch} {N : Option Value → Wd → Prop} {X : String → Wd → Prop} {a1 : Int32} {w : Wd} {x : Int32} {u : Wd} (h : RX12_mustBe 1700 4 a1 0 0 w = some (x, u)) (hN : N (some (.int x)) u) : Ct (GM q) l 1705 yX12_element cX12_element 5 ((some .int)) [.ref 0, .int a1] w N X := (hsX12_mustBe 5 (Nat.le_refl _) 1700).2.2.2.2.1 _ _ _ _ _ _ h hN
theorem mX12_place {q : Gq} {l : Launch} {N : Option Value → Wd → Prop} {X : String → Wd → Prop} {a1 : Int32} {a2 : Int32} {w : Wd} {x : Int32} {u : Wd} (h : RX12_mustBe 1700 5 a1 a2 0 w = some (x, u)) (hN : N (some (.int x)) u) : Ct (GM q) l 1705 yX12_place cX12_place 5 ((some .int)) [.ref 0, .int a1, .int a2] w N X := (hsX12_mustBe 5 (Nat.le_refl _) 1700).2.2.2.2.2.1 _ _ _ _ _ _ _ h hN
theorem mX12_aimCode {q : Gq} {l : Launch} {N : Option Value → Wd → Prop} {X : String → Wd → Prop} {a1 : Int32} {w : Wd} {x : Int32} {u : Wd} (h : RX12_mustBe 1700 6 a1 0 0 w = some (x, u)) (hN : N none u) : Ct (GM q) l 1705 yX12_aimCode cX12_aimCode 5 (none) [.ref 0, .int a1] w N X := (hsX12_mustBe 5 (Nat.le_refl _) 1700).2.2.2.2.2.2.1 _ _ _ _ _ _ h hN
theorem mX12_called {q : Gq} {l : Launch} {N : Option Value → Wd → Prop} {X : String → Wd → Prop} {a1 : Int32} {a2 : Int32} {w : Wd} {x : Int32} {u : Wd} (h : RX12_mustBe 1700 7 a1 a2 0 w = some (x, u)) (hN : N (some (.int x)) u) : Ct (GM q) l 1705 yX12_called cX12_called 10 ((some .int)) [.ref 0, .int a1, .int a2] w N X := (hsX12_mustBe 5 (Nat.le_refl _) 1700).2.2.2.2.2.2.2.1 _ _ _ _ _ _ _ h hN
theorem mX12_loose {q : Gq} {l : Launch} {N : Option Value → Wd → Prop} {X : String → Wd → Prop} {a1 : Int32} {w : Wd} {x : Int32} {u : Wd} (h : RX12_mustBe 1700 8 a1 0 0 w = some (x, u)) (hN : N none u) : Ct (GM q) l 1705 yX12_loose cX12_loose 4 (none) [.ref 0, .int a1] w N X := (hsX12_mustBe 5 (Nat.le_refl _) 1700).2.2.2.2.2.2.2.2.1 _ _ _ _ _ _ h hN
theorem mX12_names {q : Gq} {l : Launch} {N : Option Value → Wd → Prop} {X : String → Wd → Prop} {a1 : Int32} {w : Wd} {x : Int32} {u : Wd} (h : RX12_mustBe 1700 9 a1 0 0 w = some (x, u)) (hN : N none u) : Ct (GM q) l 1705 yX12_names cX12_names 3 (none) [.ref 0, .int a1] w N X := (hsX12_mustBe 5 (Nat.le_refl _) 1700).2.2.2.2.2.2.2.2.2.1 _ _ _ _ _ _ h hN
theorem mX12_actual {q : Gq} {l : Launch} {N : Option Value → Wd → Prop} {X : String → Wd → Prop} {a1 : Int32} {a2 : Int32} {a3 : Int32} {w : Wd} {x : Int32} {u : Wd} (h : RX12_mustBe 1700 10 a1 a2 a3 w = some (x, u)) (hN : N none u) : Ct (GM q) l 1705 yX12_actual cX12_actual 7 (none) [.ref 0, .int a1, .int a2, .int a3] w N X := (hsX12_mustBe 5 (Nat.le_refl _) 1700).2.2.2.2.2.2.2.2.2.2.1 _ _ _ _ _ _ _ _ h hN
theorem mX12_thunk {q : Gq} {l : Launch} {N : Option Value → Wd → Prop} {X : String → Wd → Prop} {a1 : Int32} {a2 : Int32} {w : Wd} {x : Int32} {u : Wd} (h : RX12_mustBe 1700 11 a1 a2 0 w = some (x, u)) (hN : N (some (.int x)) u) : Ct (GM q) l 1705 yX12_thunk cX12_thunk 9 ((some .int)) [.ref 0, .int a1, .int a2] w N X := (hsX12_mustBe 5 (Nat.le_refl _) 1700).2.2.2.2.2.2.2.2.2.2.2.1 _ _ _ _ _ _ _ h hN
theorem mX12_byName {q : Gq} {l : Launch} {N : Option Value → Wd → Prop} {X : String → Wd → Prop} {a1 : Int32} {a2 : Int32} {a3 : Int32} {w : Wd} {x : Int32} {u : Wd} (h : RX12_mustBe 1700 12 a1 a2 a3 w = some (x, u)) (hN : N none u) : Ct (GM q) l 1705 yX12_byName cX12_byName 8 (none) [.ref 0, .int a1, .int a2, .int a3] w N X := (hsX12_mustBe 5 (Nat.le_refl _) 1700).2.2.2.2.2.2.2.2.2.2.2.2 _ _ _ _ _ _ _ _ h hN
