/-! THE LAW'S FIVE HELPERS -/
theorem vin0 : vp_in (0 : Int32) 1 := by unfold vp_in; decide
theorem clRL_13 : Cond.classLink RL 13 "java/lang/IndexOutOfBoundsException" ∈ TB := tb1 sg3 13 rfl rfl
theorem clRL_19 : Cond.classLink RL 19 "java/lang/IllegalArgumentException" ∈ TB := tb1 sg3 125 rfl rfl
theorem clRL_25 : Cond.classLink RL 25 "java/lang/IllegalStateException" ∈ TB := tb1 sg3 148 rfl rfl
theorem dL_feed_0 : decode cL_feed 0 = .ok (.aload 6, 2) := by decide +kernel
theorem dL_feed_2 : decode cL_feed 2 = .ok (.iconst 0, 1) := by decide +kernel
theorem dL_feed_3 : decode cL_feed 3 = .ok (.aload_n 0, 1) := by decide +kernel
theorem dL_feed_4 : decode cL_feed 4 = .ok (.iload_n 1, 1) := by decide +kernel
theorem dL_feed_5 : decode cL_feed 5 = .ok (.iload_n 2, 1) := by decide +kernel
theorem dL_feed_6 : decode cL_feed 6 = .ok (.iload_n 3, 1) := by decide +kernel
theorem dL_feed_7 : decode cL_feed 7 = .ok (.iload 4, 2) := by decide +kernel
theorem dL_feed_9 : decode cL_feed 9 = .ok (.iload 5, 2) := by decide +kernel
theorem dL_feed_11 : decode cL_feed 11 = .ok (.invokevirtual 7, 3) := by decide +kernel
theorem dL_feed_14 : decode cL_feed 14 = .ok (.i2l, 1) := by decide +kernel
theorem dL_feed_15 : decode cL_feed 15 = .ok (.lastore, 1) := by decide +kernel
theorem dL_feed_16 : decode cL_feed 16 = .ok (.goto 7, 3) := by decide +kernel
theorem dL_feed_19 : decode cL_feed 19 = .ok (.astore 7, 2) := by decide +kernel
theorem dL_feed_21 : decode cL_feed 21 = .ok (.iconst 1, 1) := by decide +kernel
theorem dL_feed_22 : decode cL_feed 22 = .ok (.ireturn, 1) := by decide +kernel
theorem dL_feed_23 : decode cL_feed 23 = .ok (.iconst 0, 1) := by decide +kernel
theorem dL_feed_24 : decode cL_feed 24 = .ok (.ireturn, 1) := by decide +kernel
set_option maxRecDepth 20000 in
theorem kL_feed {q : Gq} {l : Launch} {N : Option Value → Wd → Prop} {a1 : Int32} {a2 : Int32} {a3 : Int32} {a4 : Int32} {a5 : Int32} {w u : Wd} {o : Option Int32} (hfl : l.stackTraces = false) {F : Nat → Prop} (hF : ∀ (U : State) (H : Heap), gE (GA q) U H → ENV F U H) (hAF : ∀ z, gAw (GA q) z → F z) (h : fX11_feed a1 a2 a3 a4 a5 w = some (o, u)) (hN : ∀ r : Int32, o = some r → N (some (.int 0)) (sl (mrg u w) 57 ((0 : Int32).toNatClampNeg) r.toInt64)) (hX : o = none → N (some (.int 1)) (mrg u w)) : CtJ q l 9 yL_feed cL_feed 8 [(0, 16, 19, 13)] [.ref 0, .int a1, .int a2, .int a3, .int a4, .int a5, .ref 57] w N := by
  refine CtJ.of (by decide) (Nat.le_of_ble_eq_true rfl) ?_
  show RJ q l 9 yL_feed cL_feed 8 [(0, 16, 19, 13)] N 0 0 0 [] [(0, .ref 0), (1, .int a1), (2, .int a2), (3, .int a3), (4, .int a4), (5, .int a5), (6, .ref 57)] w
  refine j_aload (pc := 0) dL_feed_0 6 rfl ?_
  refine j_iconst (pc := 2) dL_feed_2 ki_0 ?_
  refine j_aload_n (pc := 3) dL_feed_3 rfl 0 rfl ?_
  refine j_iload_n (pc := 4) dL_feed_4 rfl 1 rfl ?_
  refine j_iload_n (pc := 5) dL_feed_5 rfl 2 rfl ?_
  refine j_iload_n (pc := 6) dL_feed_6 rfl 3 rfl ?_
  refine j_iload (pc := 7) dL_feed_7 4 rfl ?_
  refine j_iload (pc := 9) dL_feed_9 5 rfl ?_
  refine j_callA (pc := 11) (rest := [.int 0, .ref 57]) (n := 5) (av := [.int a1, .int a2, .int a3, .int a4, .int a5]) (N9 := fun v z => ∃ r : Int32, o = some r ∧ v = some (.int r) ∧ z = u) (X9 := fun E z => E = "java/lang/IndexOutOfBoundsException" ∧ o = none ∧ z = u) ⟨rfl, rfl⟩ wyX11_feed oH0 rfl mlRL_7 iyX11_feed syX11_feed ⟨Nat.le_refl _, Nat.le_of_ble_eq_true rfl⟩ rfl rfl (Nat.le_of_ble_eq_true rfl) dL_feed_11 (mX11_feed hfl hF hAF h (fun r hr => ⟨r, hr, rfl, rfl⟩) (fun ho => ⟨rfl, ho, rfl⟩)) ?_ ?_
  · rintro v z ⟨r, hr, rfl, rfl⟩
    refine j_i2l (pc := 14) dL_feed_14 ?_
    refine j_last (pc := 15) aH57 vin0 dL_feed_15 ?_
    refine j_goto (pc := 16) (tgt := 23) dL_feed_16 rfl ?_
    refine j_iconst (pc := 23) dL_feed_23 ki_0 ?_
    exact j_ireturn (pc := 24) ⟨Nat.le_refl _, Nat.le_refl _⟩ dL_feed_24 (hN r hr)
  · rintro E z ⟨rfl, ho, rfl⟩
    refine ⟨[], ⟨0, 16, 19, 13⟩, [], 13, 7, 2, rfl, (fun _ _ _ _ z hz => nomatch hz), by decide, rfl, by decide, clRL_13, fun s args hE => (hF s s.heap hE).at _ (by decide +kernel), Nat.le_of_ble_eq_true rfl, fun p e R s m args below meth c H locs cells slots Q ls a hx hb hl k => lv_astore (i := 7) (lv' := [(7, Value.ref a)]) hx hb dL_feed_19 hl (Nat.le_of_ble_eq_true rfl) rfl (fun ls' hl9 => k ls' (lv_sub hl9 [] rfl)), ?_⟩
    refine j_iconst (pc := 21) dL_feed_21 ki_1 ?_
    exact j_ireturn (pc := 22) ⟨Nat.le_refl _, Nat.le_refl _⟩ dL_feed_22 (hX ho)
theorem dL_end_0 : decode cL_end 0 = .ok (.aload_n 2, 1) := by decide +kernel
theorem dL_end_1 : decode cL_end 1 = .ok (.iconst 0, 1) := by decide +kernel
theorem dL_end_2 : decode cL_end 2 = .ok (.aload_n 0, 1) := by decide +kernel
theorem dL_end_3 : decode cL_end 3 = .ok (.iload_n 1, 1) := by decide +kernel
theorem dL_end_4 : decode cL_end 4 = .ok (.invokevirtual 15, 3) := by decide +kernel
theorem dL_end_7 : decode cL_end 7 = .ok (.i2l, 1) := by decide +kernel
theorem dL_end_8 : decode cL_end 8 = .ok (.lastore, 1) := by decide +kernel
theorem dL_end_9 : decode cL_end 9 = .ok (.goto 6, 3) := by decide +kernel
theorem dL_end_12 : decode cL_end 12 = .ok (.astore_n 3, 1) := by decide +kernel
theorem dL_end_13 : decode cL_end 13 = .ok (.iconst 1, 1) := by decide +kernel
theorem dL_end_14 : decode cL_end 14 = .ok (.ireturn, 1) := by decide +kernel
theorem dL_end_15 : decode cL_end 15 = .ok (.iconst 0, 1) := by decide +kernel
theorem dL_end_16 : decode cL_end 16 = .ok (.ireturn, 1) := by decide +kernel
set_option maxRecDepth 20000 in
theorem kL_end {q : Gq} {l : Launch} {N : Option Value → Wd → Prop} {a1 : Int32} {w u : Wd} {o : Option Int32} (hfl : l.stackTraces = false) {F : Nat → Prop} (hF : ∀ (U : State) (H : Heap), gE (GA q) U H → ENV F U H) (hAF : ∀ z, gAw (GA q) z → F z) (h : fX11_end a1 w = some (o, u)) (hN : ∀ r : Int32, o = some r → N (some (.int 0)) (sl (mrg u w) 57 ((0 : Int32).toNatClampNeg) r.toInt64)) (hX : o = none → N (some (.int 1)) (mrg u w)) : CtJ q l 9 yL_end cL_end 4 [(0, 9, 12, 19)] [.ref 0, .int a1, .ref 57] w N := by
  refine CtJ.of (by decide) (Nat.le_of_ble_eq_true rfl) ?_
  show RJ q l 9 yL_end cL_end 4 [(0, 9, 12, 19)] N 0 0 0 [] [(0, .ref 0), (1, .int a1), (2, .ref 57)] w
  refine j_aload_n (pc := 0) dL_end_0 rfl 2 rfl ?_
  refine j_iconst (pc := 1) dL_end_1 ki_0 ?_
  refine j_aload_n (pc := 2) dL_end_2 rfl 0 rfl ?_
  refine j_iload_n (pc := 3) dL_end_3 rfl 1 rfl ?_
  refine j_callA (pc := 4) (rest := [.int 0, .ref 57]) (n := 1) (av := [.int a1]) (N9 := fun v z => ∃ r : Int32, o = some r ∧ v = some (.int r) ∧ z = u) (X9 := fun E z => E = "java/lang/IllegalArgumentException" ∧ o = none ∧ z = u) ⟨rfl, rfl⟩ wyX11_end oH0 rfl mlRL_15 iyX11_end syX11_end ⟨Nat.le_refl _, Nat.le_of_ble_eq_true rfl⟩ rfl rfl (Nat.le_of_ble_eq_true rfl) dL_end_4 (mX11_end hfl hF hAF h (fun r hr => ⟨r, hr, rfl, rfl⟩) (fun ho => ⟨rfl, ho, rfl⟩)) ?_ ?_
  · rintro v z ⟨r, hr, rfl, rfl⟩
    refine j_i2l (pc := 7) dL_end_7 ?_
    refine j_last (pc := 8) aH57 vin0 dL_end_8 ?_
    refine j_goto (pc := 9) (tgt := 15) dL_end_9 rfl ?_
    refine j_iconst (pc := 15) dL_end_15 ki_0 ?_
    exact j_ireturn (pc := 16) ⟨Nat.le_refl _, Nat.le_refl _⟩ dL_end_16 (hN r hr)
  · rintro E z ⟨rfl, ho, rfl⟩
    refine ⟨[], ⟨0, 9, 12, 19⟩, [], 19, 3, 1, rfl, (fun _ _ _ _ z hz => nomatch hz), by decide, rfl, by decide, clRL_19, fun s args hE => (hF s s.heap hE).at _ (by decide +kernel), Nat.le_of_ble_eq_true rfl, fun p e R s m args below meth c H locs cells slots Q ls a hx hb hl k => lv_astore_n (i := 3) (lv' := [(3, Value.ref a)]) hx hb dL_end_12 rfl hl (Nat.le_of_ble_eq_true rfl) rfl (fun ls' hl9 => k ls' (lv_sub hl9 [] rfl)), ?_⟩
    refine j_iconst (pc := 13) dL_end_13 ki_1 ?_
    exact j_ireturn (pc := 14) ⟨Nat.le_refl _, Nat.le_refl _⟩ dL_end_14 (hX ho)
theorem dL_build_0 : decode cL_build 0 = .ok (.aload_n 1, 1) := by decide +kernel
theorem dL_build_1 : decode cL_build 1 = .ok (.iconst 0, 1) := by decide +kernel
theorem dL_build_2 : decode cL_build 2 = .ok (.aload_n 0, 1) := by decide +kernel
theorem dL_build_3 : decode cL_build 3 = .ok (.invokevirtual 21, 3) := by decide +kernel
theorem dL_build_6 : decode cL_build 6 = .ok (.i2l, 1) := by decide +kernel
theorem dL_build_7 : decode cL_build 7 = .ok (.lastore, 1) := by decide +kernel
theorem dL_build_8 : decode cL_build 8 = .ok (.goto 6, 3) := by decide +kernel
theorem dL_build_11 : decode cL_build 11 = .ok (.astore_n 2, 1) := by decide +kernel
theorem dL_build_12 : decode cL_build 12 = .ok (.iconst 1, 1) := by decide +kernel
theorem dL_build_13 : decode cL_build 13 = .ok (.ireturn, 1) := by decide +kernel
theorem dL_build_14 : decode cL_build 14 = .ok (.iconst 0, 1) := by decide +kernel
theorem dL_build_15 : decode cL_build 15 = .ok (.ireturn, 1) := by decide +kernel
set_option maxRecDepth 20000 in
theorem kL_build {q : Gq} {l : Launch} {N : Option Value → Wd → Prop}  {w u : Wd} {o : Option Int32} (hz : SGN q l) (hfl : l.stackTraces = false) {F : Nat → Prop} (hF : ∀ (U : State) (H : Heap), gE (GA q) U H → ENV F U H) (hAF : ∀ z, gAw (GA q) z → F z) (h : fX11_build  w = some (o, u)) (hN : ∀ r : Int32, o = some r → N (some (.int 0)) (sl (mrg u w) 57 ((0 : Int32).toNatClampNeg) r.toInt64)) (hX : o = none → N (some (.int 1)) (mrg u w)) : CtJ q l 1815 yL_build cL_build 3 [(0, 8, 11, 25)] [.ref 0, .ref 57] w N := by
  refine CtJ.of (by decide) (Nat.le_of_ble_eq_true rfl) ?_
  show RJ q l 1815 yL_build cL_build 3 [(0, 8, 11, 25)] N 0 0 0 [] [(0, .ref 0), (1, .ref 57)] w
  refine j_aload_n (pc := 0) dL_build_0 rfl 1 rfl ?_
  refine j_iconst (pc := 1) dL_build_1 ki_0 ?_
  refine j_aload_n (pc := 2) dL_build_2 rfl 0 rfl ?_
  refine j_callA (pc := 3) (rest := [.int 0, .ref 57]) (n := 0) (av := []) (N9 := fun v z => ∃ r : Int32, o = some r ∧ v = some (.int r) ∧ z = u) (X9 := fun E z => E = "java/lang/IllegalStateException" ∧ o = none ∧ z = u) ⟨rfl, rfl⟩ wyX11_build oH0 rfl mlRL_21 iyX11_build syX11_build ⟨Nat.le_refl _, Nat.le_of_ble_eq_true rfl⟩ rfl rfl (Nat.le_of_ble_eq_true rfl) dL_build_3 (mX11_build hz hfl hF hAF h (fun r hr => ⟨r, hr, rfl, rfl⟩) (fun ho => ⟨rfl, ho, rfl⟩)) ?_ ?_
  · rintro v z ⟨r, hr, rfl, rfl⟩
    refine j_i2l (pc := 6) dL_build_6 ?_
    refine j_last (pc := 7) aH57 vin0 dL_build_7 ?_
    refine j_goto (pc := 8) (tgt := 14) dL_build_8 rfl ?_
    refine j_iconst (pc := 14) dL_build_14 ki_0 ?_
    exact j_ireturn (pc := 15) ⟨Nat.le_refl _, Nat.le_refl _⟩ dL_build_15 (hN r hr)
  · rintro E z ⟨rfl, ho, rfl⟩
    refine ⟨[], ⟨0, 8, 11, 25⟩, [], 25, 2, 1, rfl, (fun _ _ _ _ z hz => nomatch hz), by decide, rfl, by decide, clRL_25, fun s args hE => (hF s s.heap hE).at _ (by decide +kernel), Nat.le_of_ble_eq_true rfl, fun p e R s m args below meth c H locs cells slots Q ls a hx hb hl k => lv_astore_n (i := 2) (lv' := [(2, Value.ref a)]) hx hb dL_build_11 rfl hl (Nat.le_of_ble_eq_true rfl) rfl (fun ls' hl9 => k ls' (lv_sub hl9 [] rfl)), ?_⟩
    refine j_iconst (pc := 12) dL_build_12 ki_1 ?_
    exact j_ireturn (pc := 13) ⟨Nat.le_refl _, Nat.le_refl _⟩ dL_build_13 (hX ho)
theorem dL_run_0 : decode cL_run 0 = .ok (.aload_n 2, 1) := by decide +kernel
theorem dL_run_1 : decode cL_run 1 = .ok (.iconst 0, 1) := by decide +kernel
theorem dL_run_2 : decode cL_run 2 = .ok (.aload_n 0, 1) := by decide +kernel
theorem dL_run_3 : decode cL_run 3 = .ok (.iload_n 1, 1) := by decide +kernel
theorem dL_run_4 : decode cL_run 4 = .ok (.invokevirtual 27, 3) := by decide +kernel
theorem dL_run_7 : decode cL_run 7 = .ok (.i2l, 1) := by decide +kernel
theorem dL_run_8 : decode cL_run 8 = .ok (.lastore, 1) := by decide +kernel
theorem dL_run_9 : decode cL_run 9 = .ok (.goto 9, 3) := by decide +kernel
theorem dL_run_12 : decode cL_run 12 = .ok (.astore_n 3, 1) := by decide +kernel
theorem dL_run_13 : decode cL_run 13 = .ok (.iconst 1, 1) := by decide +kernel
theorem dL_run_14 : decode cL_run 14 = .ok (.ireturn, 1) := by decide +kernel
theorem dL_run_15 : decode cL_run 15 = .ok (.astore_n 3, 1) := by decide +kernel
theorem dL_run_16 : decode cL_run 16 = .ok (.iconst 2, 1) := by decide +kernel
theorem dL_run_17 : decode cL_run 17 = .ok (.ireturn, 1) := by decide +kernel
theorem dL_run_18 : decode cL_run 18 = .ok (.iconst 0, 1) := by decide +kernel
theorem dL_run_19 : decode cL_run 19 = .ok (.ireturn, 1) := by decide +kernel
set_option maxRecDepth 20000 in
theorem kL_run {q : Gq} {l : Launch} {N : Option Value → Wd → Prop} {a1 : Int32} {w u : Wd} {o : Option Int32} (hfl : l.stackTraces = false) {F : Nat → Prop} (hF : ∀ (U : State) (H : Heap), gE (GA q) U H → ENV F U H) (hAF : ∀ z, gAw (GA q) z → F z) (hNC : ∀ (U : State) (H : Heap), gE (GA q) U H → va_Nc "java/lang/IllegalStateException" "java/lang/IllegalArgumentException" U) (h : fX11_run a1 w = some (o, u)) (hN : ∀ r : Int32, o = some r → N (some (.int 0)) (sl (mrg u w) 57 ((0 : Int32).toNatClampNeg) r.toInt64)) (hX : o = none → N (some (.int (if a1 < 1 ∨ 20000 < a1 then 1 else 2))) (mrg u w)) : CtJ q l 12 yL_run cL_run 4 [(0, 9, 12, 19), (0, 9, 15, 25)] [.ref 0, .int a1, .ref 57] w N := by
  refine CtJ.of (by decide) (Nat.le_of_ble_eq_true rfl) ?_
  show RJ q l 12 yL_run cL_run 4 [(0, 9, 12, 19), (0, 9, 15, 25)] N 0 0 0 [] [(0, .ref 0), (1, .int a1), (2, .ref 57)] w
  refine j_aload_n (pc := 0) dL_run_0 rfl 2 rfl ?_
  refine j_iconst (pc := 1) dL_run_1 ki_0 ?_
  refine j_aload_n (pc := 2) dL_run_2 rfl 0 rfl ?_
  refine j_iload_n (pc := 3) dL_run_3 rfl 1 rfl ?_
  refine j_callA (pc := 4) (rest := [.int 0, .ref 57]) (n := 1) (av := [.int a1]) (N9 := fun v z => ∃ r : Int32, o = some r ∧ v = some (.int r) ∧ z = u) (X9 := fun E z => E = (exr a1) ∧ o = none ∧ z = u) ⟨rfl, rfl⟩ wyX11_run oH0 rfl mlRL_27 iyX11_run syX11_run ⟨Nat.le_refl _, Nat.le_of_ble_eq_true rfl⟩ rfl rfl (Nat.le_of_ble_eq_true rfl) dL_run_4 (mX11_run hfl hF hAF h (fun r hr => ⟨r, hr, rfl, rfl⟩) (fun ho => ⟨rfl, ho, rfl⟩)) ?_ ?_
  · rintro v z ⟨r, hr, rfl, rfl⟩
    refine j_i2l (pc := 7) dL_run_7 ?_
    refine j_last (pc := 8) aH57 vin0 dL_run_8 ?_
    refine j_goto (pc := 9) (tgt := 18) dL_run_9 rfl ?_
    refine j_iconst (pc := 18) dL_run_18 ki_0 ?_
    exact j_ireturn (pc := 19) ⟨Nat.le_refl _, Nat.le_refl _⟩ dL_run_19 (hN r hr)
  · rintro E z ⟨rfl, ho, rfl⟩
    by_cases hc : a1 < 1 ∨ 20000 < a1
    · have he : exr a1 = "java/lang/IllegalArgumentException" := if_pos hc
      rw [he]
      have hX := hX ho
      rw [if_pos hc] at hX
      refine ⟨[], ⟨0, 9, 12, 19⟩, [⟨0, 9, 15, 25⟩], 19, 3, 1, rfl, (fun _ _ _ _ z hz => nomatch hz), by decide, rfl, by decide, clRL_19, fun s args hE => (hF s s.heap hE).at _ (by decide +kernel), Nat.le_of_ble_eq_true rfl, fun p e R s m args below meth c H locs cells slots Q ls a hx hb hl k => lv_astore_n (i := 3) (lv' := [(3, Value.ref a)]) hx hb dL_run_12 rfl hl (Nat.le_of_ble_eq_true rfl) rfl (fun ls' hl9 => k ls' (lv_sub hl9 [] rfl)), ?_⟩
      refine j_iconst (pc := 13) dL_run_13 ki_1 ?_
      exact j_ireturn (pc := 14) ⟨Nat.le_refl _, Nat.le_refl _⟩ dL_run_14 (hX)
    · have he : exr a1 = "java/lang/IllegalStateException" := if_neg hc
      rw [he]
      have hX := hX ho
      rw [if_neg hc] at hX
      refine ⟨[⟨0, 9, 12, 19⟩], ⟨0, 9, 15, 25⟩, [], 25, 3, 1, rfl, fun s args hts hE z hz => Or.inr (by cases List.mem_singleton.mp hz; exact ⟨by decide, "java/lang/IllegalArgumentException", hts _ clRL_19, hNC s s.heap hE⟩), by decide, rfl, by decide, clRL_25, fun s args hE => (hF s s.heap hE).at _ (by decide +kernel), Nat.le_of_ble_eq_true rfl, fun p e R s m args below meth c H locs cells slots Q ls a hx hb hl k => lv_astore_n (i := 3) (lv' := [(3, Value.ref a)]) hx hb dL_run_15 rfl hl (Nat.le_of_ble_eq_true rfl) rfl (fun ls' hl9 => k ls' (lv_sub hl9 [] rfl)), ?_⟩
      refine j_iconst (pc := 16) dL_run_16 ki_2 ?_
      exact j_ireturn (pc := 17) ⟨Nat.le_refl _, Nat.le_refl _⟩ dL_run_17 (hX)
theorem dL_out_0 : decode cL_out 0 = .ok (.aload_n 2, 1) := by decide +kernel
theorem dL_out_1 : decode cL_out 1 = .ok (.iconst 0, 1) := by decide +kernel
theorem dL_out_2 : decode cL_out 2 = .ok (.aload_n 0, 1) := by decide +kernel
theorem dL_out_3 : decode cL_out 3 = .ok (.iload_n 1, 1) := by decide +kernel
theorem dL_out_4 : decode cL_out 4 = .ok (.invokevirtual 30, 3) := by decide +kernel
theorem dL_out_7 : decode cL_out 7 = .ok (.lastore, 1) := by decide +kernel
theorem dL_out_8 : decode cL_out 8 = .ok (.goto 6, 3) := by decide +kernel
theorem dL_out_11 : decode cL_out 11 = .ok (.astore_n 3, 1) := by decide +kernel
theorem dL_out_12 : decode cL_out 12 = .ok (.iconst 1, 1) := by decide +kernel
theorem dL_out_13 : decode cL_out 13 = .ok (.ireturn, 1) := by decide +kernel
theorem dL_out_14 : decode cL_out 14 = .ok (.iconst 0, 1) := by decide +kernel
theorem dL_out_15 : decode cL_out 15 = .ok (.ireturn, 1) := by decide +kernel
set_option maxRecDepth 20000 in
theorem kL_out {q : Gq} {l : Launch} {N : Option Value → Wd → Prop} {a1 : Int32} {w u : Wd} {o : Option Int64} (hfl : l.stackTraces = false) {F : Nat → Prop} (hF : ∀ (U : State) (H : Heap), gE (GA q) U H → ENV F U H) (hAF : ∀ z, gAw (GA q) z → F z) (h : fX11_out a1 w = some (o, u)) (hN : ∀ r : Int64, o = some r → N (some (.int 0)) (sl (mrg u w) 57 ((0 : Int32).toNatClampNeg) r)) (hX : o = none → N (some (.int 1)) (mrg u w)) : CtJ q l 9 yL_out cL_out 4 [(0, 8, 11, 19)] [.ref 0, .int a1, .ref 57] w N := by
  refine CtJ.of (by decide) (Nat.le_of_ble_eq_true rfl) ?_
  show RJ q l 9 yL_out cL_out 4 [(0, 8, 11, 19)] N 0 0 0 [] [(0, .ref 0), (1, .int a1), (2, .ref 57)] w
  refine j_aload_n (pc := 0) dL_out_0 rfl 2 rfl ?_
  refine j_iconst (pc := 1) dL_out_1 ki_0 ?_
  refine j_aload_n (pc := 2) dL_out_2 rfl 0 rfl ?_
  refine j_iload_n (pc := 3) dL_out_3 rfl 1 rfl ?_
  refine j_callA (pc := 4) (rest := [.int 0, .ref 57]) (n := 1) (av := [.int a1]) (N9 := fun v z => ∃ r : Int64, o = some r ∧ v = some (.long r) ∧ z = u) (X9 := fun E z => E = "java/lang/IllegalArgumentException" ∧ o = none ∧ z = u) ⟨rfl, rfl⟩ wyX11_out oH0 rfl mlRL_30 iyX11_out syX11_out ⟨Nat.le_refl _, Nat.le_of_ble_eq_true rfl⟩ rfl rfl (Nat.le_of_ble_eq_true rfl) dL_out_4 (mX11_out hfl hF hAF h (fun r hr => ⟨r, hr, rfl, rfl⟩) (fun ho => ⟨rfl, ho, rfl⟩)) ?_ ?_
  · rintro v z ⟨r, hr, rfl, rfl⟩
    refine j_last (pc := 7) aH57 vin0 dL_out_7 ?_
    refine j_goto (pc := 8) (tgt := 14) dL_out_8 rfl ?_
    refine j_iconst (pc := 14) dL_out_14 ki_0 ?_
    exact j_ireturn (pc := 15) ⟨Nat.le_refl _, Nat.le_refl _⟩ dL_out_15 (hN r hr)
  · rintro E z ⟨rfl, ho, rfl⟩
    refine ⟨[], ⟨0, 8, 11, 19⟩, [], 19, 3, 1, rfl, (fun _ _ _ _ z hz => nomatch hz), by decide, rfl, by decide, clRL_19, fun s args hE => (hF s s.heap hE).at _ (by decide +kernel), Nat.le_of_ble_eq_true rfl, fun p e R s m args below meth c H locs cells slots Q ls a hx hb hl k => lv_astore_n (i := 3) (lv' := [(3, Value.ref a)]) hx hb dL_out_11 rfl hl (Nat.le_of_ble_eq_true rfl) rfl (fun ls' hl9 => k ls' (lv_sub hl9 [] rfl)), ?_⟩
    refine j_iconst (pc := 12) dL_out_12 ki_1 ?_
    exact j_ireturn (pc := 13) ⟨Nat.le_refl _, Nat.le_refl _⟩ dL_out_13 (hX ho)
