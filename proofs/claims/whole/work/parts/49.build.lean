/-! THE REFERENCE: build -/
def bc {α γ : Type} (p : Option (Option α × Wd)) (f : α → Wd → Option γ) (g : Wd → Option γ) : Option γ := match p with
  | some a => (match a.1 with
    | some x => f x a.2
    | none => g a.2)
  | none => none
theorem bc_e {α γ : Type} {p : Option (Option α × Wd)} {f : α → Wd → Option γ} {g : Wd → Option γ} {r : γ} (h : bc p f g = some r) : ∃ o u, p = some (o, u) ∧ (∀ x, o = some x → f x u = some r) ∧ (o = none → g u = some r) := by
  cases p with
  | none => cases h
  | some a =>
    obtain ⟨o, u⟩ := a
    cases o with
    | none => exact ⟨none, u, rfl, (fun _ e => nomatch e), (fun _ => h)⟩
    | some x => exact ⟨some x, u, rfl, (fun z e => by obtain rfl := Option.some.inj e; exact h), (fun e => nomatch e)⟩
theorem dX12_build_0 : decode cX12_build 0 = .ok (.aload_n 0, 1) := by decide +kernel
theorem dX12_build_1 : decode cX12_build 1 = .ok (.invokevirtual 736, 3) := by decide +kernel
theorem dX12_build_4 : decode cX12_build 4 = .ok (.aload_n 0, 1) := by decide +kernel
theorem dX12_build_5 : decode cX12_build 5 = .ok (.invokevirtual 739, 3) := by decide +kernel
theorem dX12_build_8 : decode cX12_build 8 = .ok (.istore_n 1, 1) := by decide +kernel
theorem dX12_build_9 : decode cX12_build 9 = .ok (.goto 14, 3) := by decide +kernel
theorem dX12_build_12 : decode cX12_build 12 = .ok (.astore_n 2, 1) := by decide +kernel
theorem dX12_build_13 : decode cX12_build 13 = .ok (.aload_n 0, 1) := by decide +kernel
theorem dX12_build_14 : decode cX12_build 14 = .ok (.iconst 1, 1) := by decide +kernel
theorem dX12_build_15 : decode cX12_build 15 = .ok (.aload_n 0, 1) := by decide +kernel
theorem dX12_build_16 : decode cX12_build 16 = .ok (.getfield 446, 3) := by decide +kernel
theorem dX12_build_19 : decode cX12_build 19 = .ok (.invokevirtual 742, 3) := by decide +kernel
theorem dX12_build_22 : decode cX12_build 22 = .ok (.ireturn, 1) := by decide +kernel
theorem dX12_build_23 : decode cX12_build 23 = .ok (.aload_n 0, 1) := by decide +kernel
theorem dX12_build_24 : decode cX12_build 24 = .ok (.iload_n 1, 1) := by decide +kernel
theorem dX12_build_25 : decode cX12_build 25 = .ok (.invokevirtual 745, 3) := by decide +kernel
theorem dX12_build_28 : decode cX12_build 28 = .ok (.aload_n 0, 1) := by decide +kernel
theorem dX12_build_29 : decode cX12_build 29 = .ok (.getfield 462, 3) := by decide +kernel
theorem dX12_build_32 : decode cX12_build 32 = .ok (.ifCond .eq 16, 3) := by decide +kernel
theorem dX12_build_35 : decode cX12_build 35 = .ok (.aload_n 0, 1) := by decide +kernel
theorem dX12_build_36 : decode cX12_build 36 = .ok (.aload_n 0, 1) := by decide +kernel
theorem dX12_build_37 : decode cX12_build 37 = .ok (.getfield 462, 3) := by decide +kernel
theorem dX12_build_40 : decode cX12_build 40 = .ok (.aload_n 0, 1) := by decide +kernel
theorem dX12_build_41 : decode cX12_build 41 = .ok (.getfield 465, 3) := by decide +kernel
theorem dX12_build_44 : decode cX12_build 44 = .ok (.invokevirtual 742, 3) := by decide +kernel
theorem dX12_build_47 : decode cX12_build 47 = .ok (.ireturn, 1) := by decide +kernel
theorem dX12_build_48 : decode cX12_build 48 = .ok (.aload_n 0, 1) := by decide +kernel
theorem dX12_build_49 : decode cX12_build 49 = .ok (.iconst 0, 1) := by decide +kernel
theorem dX12_build_50 : decode cX12_build 50 = .ok (.putfield 378, 3) := by decide +kernel
theorem dX12_build_53 : decode cX12_build 53 = .ok (.aload_n 0, 1) := by decide +kernel
theorem dX12_build_54 : decode cX12_build 54 = .ok (.iconst 0, 1) := by decide +kernel
theorem dX12_build_55 : decode cX12_build 55 = .ok (.putfield 381, 3) := by decide +kernel
theorem dX12_build_58 : decode cX12_build 58 = .ok (.aload_n 0, 1) := by decide +kernel
theorem dX12_build_59 : decode cX12_build 59 = .ok (.iconst 0, 1) := by decide +kernel
theorem dX12_build_60 : decode cX12_build 60 = .ok (.putfield 733, 3) := by decide +kernel
theorem dX12_build_63 : decode cX12_build 63 = .ok (.aload_n 0, 1) := by decide +kernel
theorem dX12_build_64 : decode cX12_build 64 = .ok (.iconst (-1), 1) := by decide +kernel
theorem dX12_build_65 : decode cX12_build 65 = .ok (.putfield 24, 3) := by decide +kernel
theorem dX12_build_68 : decode cX12_build 68 = .ok (.aload_n 0, 1) := by decide +kernel
theorem dX12_build_69 : decode cX12_build 69 = .ok (.invokevirtual 748, 3) := by decide +kernel
theorem dX12_build_72 : decode cX12_build 72 = .ok (.aload_n 0, 1) := by decide +kernel
theorem dX12_build_73 : decode cX12_build 73 = .ok (.getfield 544, 3) := by decide +kernel
theorem dX12_build_76 : decode cX12_build 76 = .ok (.iconst 1, 1) := by decide +kernel
theorem dX12_build_77 : decode cX12_build 77 = .ok (.isub, 1) := by decide +kernel
theorem dX12_build_78 : decode cX12_build 78 = .ok (.ireturn, 1) := by decide +kernel
theorem ceRX12_28 : Cond.classLink RX12 28 "java/lang/ArithmeticException" ∈ TB := tb1 sg9 33 rfl rfl
def fX12_build (w : Wd) : Option (Int32 × Wd) :=
  bn (fX12_cut w) fun w1 => bc (fX12_program w1) (fun x2 w3 => bn (fX12_codeOf x2 w3) fun w21 => if (gi w21 0 10) = 0 then (lt (si w21 0 0 0) fun w23 => lt (si w23 0 2 0) fun w24 => lt (si w24 0 12 0) fun w25 => lt (si w25 0 13 (-1)) fun w26 => bn (fX12_keep w26) fun w27 => some (((gi w27 0 53) - 1), w27)) else (lt2 (fX12_refused (gi w21 0 10) (gi w21 0 11) w21) fun x28 w29 => some (x28, w29))) (fun w4 => lt2 (fX12_refused 1 (gi w4 0 9) w4) fun x30 w31 => some (x30, w31))
theorem pX12_build {q : Gq} {l : Launch} {N : Option Value → Wd → Prop} {X : String → Wd → Prop} {F : Nat → Prop} (hF : ∀ (U : State) (H : Heap), gE (GM q) U H → ENV F U H) (hz : SGM q l) {w : Wd} {R : Int32 × Wd} (hN : N (some (.int R.1)) R.2) (h : fX12_build w = some R) : RH (GM q) l 1910 yX12_build cX12_build 3 (some .int) [(4, 9, 12, 28)] N X 0 [] [(0, .ref 0)] w := by
  unfold fX12_build at h
  refine h_aload_n (pc := 0) dX12_build_0 rfl 0 rfl ?_
  replace h := bn_e h; obtain ⟨w1, ew1, h⟩ := h
  refine h_cVv (pc := 1) wyX12_cut oM0 rfl mlRX12_736 iyX12_cut syX12_cut ⟨(Nat.le_of_ble_eq_true rfl), (Nat.le_of_ble_eq_true rfl)⟩ rfl rfl (Nat.le_of_ble_eq_true rfl) dX12_build_1 (mX12_cut hz ew1 (pV.mk ?_))
  refine h_aload_n (pc := 4) dX12_build_4 rfl 0 rfl ?_
  replace h := bc_e h; obtain ⟨o9, u9, e9, h1, h2⟩ := h
  refine h_callC (pc := 5) (E := "java/lang/ArithmeticException") (k9 := 0) rfl (by decide) (by decide) hF ceRX12_28 (by decide +kernel) dX12_build_12 (Nat.le_of_ble_eq_true rfl) rfl wyX12_program oM0 rfl mlRX12_739 iyX12_program syX12_program ⟨(Nat.le_of_ble_eq_true rfl), (Nat.le_of_ble_eq_true rfl)⟩ rfl rfl (Nat.le_of_ble_eq_true rfl) dX12_build_5 (mX12_program e9 (fun x2 e => pI.mk ?_) (fun e => ⟨rfl, ?_⟩))
  · replace h := h1 _ e
    refine h_istore_n (pc := 8) (loc' := [(1, .int x2), (0, .ref 0)]) dX12_build_8 rfl (Nat.le_of_ble_eq_true rfl) rfl ?_
    refine h_goto (pc := 9) dX12_build_9 rfl ?_
    refine h_aload_n (pc := 23) dX12_build_23 rfl 1 rfl ?_
    refine h_iload_n (pc := 24) dX12_build_24 rfl 0 rfl ?_
    replace h := bn_e h; obtain ⟨w21, ew21, h⟩ := h
    refine h_cVv (pc := 25) wyX12_codeOf oM0 rfl mlRX12_745 iyX12_codeOf syX12_codeOf ⟨(Nat.le_of_ble_eq_true rfl), (Nat.le_of_ble_eq_true rfl)⟩ rfl rfl (Nat.le_of_ble_eq_true rfl) dX12_build_25 (mX12_codeOf ew21 (pV.mk ?_))
    refine h_aload_n (pc := 28) dX12_build_28 rfl 1 rfl ?_
    refine h_get (pc := 29) (j := 10) (v := .int (gi w21 0 10)) oM0 cf12 flRX12_462 rfl dX12_build_29 rfl ?_
    refine h_if_eq (pc := 32) dX12_build_32 rfl (fun hc22 => ?_) (fun hc22 => ?_)
    · replace h := if_t hc22 h
      refine h_aload_n (pc := 48) dX12_build_48 rfl 1 rfl ?_
      refine h_iconst (pc := 49) dX12_build_49 ki_0 ?_
      replace h := lt_e h; obtain ⟨w23, ew23, h⟩ := h
      refine h_putI (pc := 50) (j := 0) oM0 cf12 flRX12_378 rfl rfl rfl rfl dX12_build_50 ?_
      refine h_w ew23 ?_
      refine h_aload_n (pc := 53) dX12_build_53 rfl 1 rfl ?_
      refine h_iconst (pc := 54) dX12_build_54 ki_0 ?_
      replace h := lt_e h; obtain ⟨w24, ew24, h⟩ := h
      refine h_putI (pc := 55) (j := 2) oM0 cf12 flRX12_381 rfl rfl rfl rfl dX12_build_55 ?_
      refine h_w ew24 ?_
      refine h_aload_n (pc := 58) dX12_build_58 rfl 1 rfl ?_
      refine h_iconst (pc := 59) dX12_build_59 ki_0 ?_
      replace h := lt_e h; obtain ⟨w25, ew25, h⟩ := h
      refine h_putI (pc := 60) (j := 12) oM0 cf12 flRX12_733 rfl rfl rfl rfl dX12_build_60 ?_
      refine h_w ew25 ?_
      refine h_aload_n (pc := 63) dX12_build_63 rfl 1 rfl ?_
      refine h_iconst (pc := 64) dX12_build_64 ki_m1 ?_
      replace h := lt_e h; obtain ⟨w26, ew26, h⟩ := h
      refine h_putI (pc := 65) (j := 13) oM0 cf12 flRX12_24 rfl rfl rfl rfl dX12_build_65 ?_
      refine h_w ew26 ?_
      refine h_aload_n (pc := 68) dX12_build_68 rfl 1 rfl ?_
      replace h := bn_e h; obtain ⟨w27, ew27, h⟩ := h
      refine h_cVv (pc := 69) wyX12_keep oM0 rfl mlRX12_748 iyX12_keep syX12_keep ⟨(Nat.le_of_ble_eq_true rfl), (Nat.le_of_ble_eq_true rfl)⟩ rfl rfl (Nat.le_of_ble_eq_true rfl) dX12_build_69 (mX12_keep ew27 (pV.mk ?_))
      refine h_aload_n (pc := 72) dX12_build_72 rfl 1 rfl ?_
      refine h_get (pc := 73) (j := 53) (v := .int (gi w27 0 53)) oM0 cf12 flRX12_544 rfl dX12_build_73 rfl ?_
      refine h_iconst (pc := 76) dX12_build_76 ki_1 ?_
      refine h_isub (pc := 77) dX12_build_77 ?_
      exact hO_i (pc := 78) rfl dX12_build_78 h hN
    replace h := if_f hc22 h
    refine h_aload_n (pc := 35) dX12_build_35 rfl 1 rfl ?_
    refine h_aload_n (pc := 36) dX12_build_36 rfl 1 rfl ?_
    refine h_get (pc := 37) (j := 10) (v := .int (gi w21 0 10)) oM0 cf12 flRX12_462 rfl dX12_build_37 rfl ?_
    refine h_aload_n (pc := 40) dX12_build_40 rfl 1 rfl ?_
    refine h_get (pc := 41) (j := 11) (v := .int (gi w21 0 11)) oM0 cf12 flRX12_465 rfl dX12_build_41 rfl ?_
    replace h := lt2_e h; obtain ⟨x28, w29, ew29, h⟩ := h
    refine h_cVi (pc := 44) wyX12_refused oM0 rfl mlRX12_742 iyX12_refused syX12_refused ⟨(Nat.le_of_ble_eq_true rfl), (Nat.le_of_ble_eq_true rfl)⟩ rfl rfl (Nat.le_of_ble_eq_true rfl) dX12_build_44 (mX12_refused ew29 (pI.mk ?_))
    exact hO_i (pc := 47) rfl dX12_build_47 h hN
  · replace h := h2 e
    refine h_aload_n (pc := 13) dX12_build_13 rfl 0 rfl ?_
    refine h_iconst (pc := 14) dX12_build_14 ki_1 ?_
    refine h_aload_n (pc := 15) dX12_build_15 rfl 0 rfl ?_
    refine h_get (pc := 16) (j := 9) (v := .int (gi u9 0 9)) oM0 cf12 flRX12_446 rfl dX12_build_16 rfl ?_
    replace h := lt2_e h; obtain ⟨x30, w31, ew31, h⟩ := h
    refine h_cVi (pc := 19) wyX12_refused oM0 rfl mlRX12_742 iyX12_refused syX12_refused ⟨(Nat.le_of_ble_eq_true rfl), (Nat.le_of_ble_eq_true rfl)⟩ rfl rfl (Nat.le_of_ble_eq_true rfl) dX12_build_19 (mX12_refused ew31 (pI.mk ?_))
    exact hO_i (pc := 22) rfl dX12_build_22 h hN
theorem mX12_build {q : Gq} {l : Launch} {N : Option Value → Wd → Prop} {X : String → Wd → Prop} {F : Nat → Prop} (hF : ∀ (U : State) (H : Heap), gE (GM q) U H → ENV F U H) (hz : SGM q l) {w : Wd} {x : Int32} {u : Wd} (h : fX12_build w = some (x, u)) (hN : N (some (.int x)) u) : CtH (GM q) l 1910 yX12_build cX12_build 3 (some .int) [(4, 9, 12, 28)] [.ref 0] w N X := CtH.of (by decide) (Nat.le_of_ble_eq_true rfl) (pX12_build hF hz hN h)
