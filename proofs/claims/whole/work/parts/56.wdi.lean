/-! THE ROW OF WORDS IN THE MAKER OF THE REFERENCE -/
theorem clRX12_35 : Cond.classLink RX12 35 "java/lang/String" ∈ TB := tb1 sg9 48 rfl rfl
/-- the first i places told -/
def fI (hi : Nat → Nat) (i : Nat) : Nat → Option Nat := fun j => if j < i then some (hi (600 + j)) else none
theorem fI_up (hi : Nat → Nat) (i : Nat) : va_up (fI hi i) i (some (hi (600 + i))) = fI hi (i + 1) := by
  funext j
  unfold va_up fI
  by_cases h : j = i
  · subst h
    rw [if_pos rfl, if_pos (Nat.lt_succ_self _)]
  · rw [if_neg h]
    by_cases h2 : j < i
    · rw [if_pos h2, if_pos (by omega)]
    · rw [if_neg h2, if_neg (by omega)]
theorem wl_snoc {Γ : Gm} {w : Wd} {x : Nat × va_E} : (wl Γ w ++ [x])[gN Γ]? = some x := by
  rw [List.getElem?_append_right (by rw [wl_len]; exact Nat.le_refl _), wl_len]
  simp
theorem wl_sset {Γ : Gm} {w : Wd} {x z : Nat × va_E} : (wl Γ w ++ [x]).set (gN Γ) z = wl Γ w ++ [z] := by
  rw [List.set_append_right _ _ (by rw [wl_len]; exact Nat.le_refl _), wl_len]
  simp
theorem va_D_snoc {A : Nat → Prop} {ws : va_W} {q : Nat} {e e' : va_E} (h : va_D A (ws ++ [(q, e)])) : va_D A (ws ++ [(q, e')]) := by
  have at' : ∀ (i : Nat) (p : Nat × va_E), (ws ++ [(q, e')])[i]? = some p → ∃ p' : Nat × va_E, (ws ++ [(q, e)])[i]? = some p' ∧ p'.1 = p.1 := by
    intro i p hi
    by_cases hlt : i < ws.length
    · rw [List.getElem?_append_left hlt] at hi
      exact ⟨p, by rw [List.getElem?_append_left hlt]; exact hi, rfl⟩
    · rw [List.getElem?_append_right (by omega)] at hi
      refine ⟨(q, e), ?_, ?_⟩
      · rw [List.getElem?_append_right (by omega)]
        have := (List.getElem?_eq_some_iff.mp hi).1
        simp at this
        have h0 : i - ws.length = 0 := by omega
        rw [h0]; rfl
      · have := (List.getElem?_eq_some_iff.mp hi).1
        simp at this
        have h0 : i - ws.length = 0 := by omega
        rw [h0] at hi
        obtain rfl := Option.some.inj hi
        rfl
  refine ⟨fun i j a b hi hj hab => ?_, fun k p hk => ?_⟩
  · obtain ⟨a', g1, g2⟩ := at' i a hi
    obtain ⟨b', g3, g4⟩ := at' j b hj
    exact h.1 i j a' b' g1 g3 (by rw [g2, g4]; exact hab)
  · obtain ⟨p', g1, g2⟩ := at' k p hk
    rw [← g2]; exact h.2 k p' g1
abbrev rfA (cA : ClassId) (f : Nat → Option Nat) : va_E := .inl (cA, 29, .inr (.inr (.inr (.inr f))))
theorem snoc_P {D : va_G} {cl : List vw_C} {ws : va_W} {q : Nat} {cA : ClassId} {f g : Nat → Option Nat} {H : Heap} (h : va_P D cl (ws ++ [(q, rfA cA f)]) H) (hfg : ∀ j, j < 29 → g j = f j) : va_P D cl (ws ++ [(q, rfA cA g)]) H := by
  intro k p hk
  by_cases hlt : k < ws.length
  · refine h k p ?_
    rw [List.getElem?_append_left hlt] at hk ⊢
    exact hk
  · have hlen := (List.getElem?_eq_some_iff.mp hk).1
    rw [List.length_append, List.length_singleton] at hlen
    have hk0 : k = ws.length := by omega
    subst hk0
    rw [List.getElem?_append_right (Nat.le_refl _), Nat.sub_self] at hk
    obtain rfl := Option.some.inj hk
    have h1 := h ws.length (q, rfA cA f) (by rw [List.getElem?_append_right (Nat.le_refl _), Nat.sub_self]; rfl)
    have h2 : H[q]? = some (vp_cell cA (29, .inr (.inr (.inr (.inr f))))) := h1
    show H[q]? = some (vp_cell cA (29, .inr (.inr (.inr (.inr g)))))
    rw [h2, vp_cell_q, vp_cell_q]
    unfold arrV
    congr 3
    funext j
    show va_rf (f j.val) = va_rf (g j.val)
    rw [hfg j.val j.isLt]
theorem he6 {q : Gq} {F : Nat → Prop} {ad : Nat → Nat} {w : Wd} {n : Nat} : ceOf (gsA (gbM q F) ad n [(0, 14), (0, 5), (0, 4), (0, 3), (0, 1)]) (zr w 6) 6 = rfA ((gbM q F).2.1 4) (fun i => some (ad (600 + i))) := by
  have hg : gds (gsA (gbM q F) ad n [(0, 14), (0, 5), (0, 4), (0, 3), (0, 1)]) 6 = .inr (4, 29) := by
    show dsF dsM [(0, 14), (0, 5), (0, 4), (0, 3), (0, 1)] 6 = _
    unfold dsF
    rfl
  unfold ceOf
  rw [hg]
  rfl
/-- a word into its place -/
theorem astep {p : Program} {l : Launch} {e : Env} {R : Room} {s : State} {m : MethodId} {args : Array Value} {below : List Frame} {meth : Method} {c : Code} {H H0 : Heap} {locs : List Loc} {cells slots : Nat} {Q : State → Prop} {cc : ByteArray} {pc : Nat} {ls : Array Slot} {rest : List Value} {D : va_G} {cl : List vw_C} {F : Nat → Prop} {tys : List (ClassId × FieldType)} {Γ : Gm} {w : Wd} {q9 : Nat} {cA : ClassId} {hi : Nat → Nat} (i : Nat) {I : Int32} (hI : I.toNatClampNeg = i) (hi29 : vp_in I 29) (hx : p.tables.exec = Jvm.exec) (hb : c.code = cc) (hK : va_K D cl tys s) (t0 : Nat) (ht : tys[t0]? = some (cA, .object "java/lang/String")) (hP : va_P D cl (wl Γ w ++ [(q9, rfA cA (fI hi i))]) H) (hD : va_D F (wl Γ w ++ [(q9, rfA cA (fI hi i))])) (hS : va_S F H0 H locs) (hany : va_Any "java/lang/String" s H (hi (600 + i))) (hdg : decode cc pc = .ok (.aastore, 1))
    (kk : ∀ (H1 : Heap) (locs1 : List Loc), va_P D cl (wl Γ w ++ [(q9, rfA cA (fI hi (i + 1)))]) H1 → va_D F (wl Γ w ++ [(q9, rfA cA (fI hi (i + 1)))]) → va_S F H0 H1 locs1 → W p l e R s m args below meth c H1 locs1 cells slots Q (F0 m (pc + 1) ls rest)) : W p l e R s m args below meth c H locs cells slots Q (F0 m pc ls (.ref (hi (600 + i)) :: .int I :: .ref q9 :: rest)) := by
  refine va_astqM (a := q9) (cA := cA) (n := 29) (f := fI hi i) hx hb hK hP hD hS (gN Γ) t0 wl_snoc ht hany hi29 hdg (fun H1 locs1 hP1 hD1 hS1 => ?_)
  rw [wl_sset, hI, fI_up] at hP1 hD1
  exact kk H1 locs1 hP1 hD1 hS1
def wdx (i : Nat) : Nat := [37, 39, 41, 43, 45, 47, 49, 51, 53, 55, 57, 59, 61, 63, 65, 67, 69, 71, 73, 75, 77, 79, 81, 83, 85, 87, 89, 91, 93].getD i 0
def wdt (i : Nat) : String := ["begin", "end", "own", "integer", "boolean", "array", "procedure", "value", "label", "switch", "goto", "if", "then", "else", "for", "do", "step", "until", "while", "true", "false", "and", "or", "impl", "equiv", "not", "div", "mod", "print"].getD i ""
set_option maxHeartbeats 16000000 in
theorem wdi_ok {q : Gq} {F : Nat → Prop} {l : Launch} (hao : ∀ (U : State) (H : Heap), q.2.2.2 U H → va_AO "java/lang/String" U) (hstr : ∀ i, i < 29 → ∀ (U : State) (H : Heap), q.2.2.2 U H → vk_R RX12 (wdx i) (wdt i) (q.2.2.1 (600 + i)) U) (hO9 : ∀ i, i < 29 → ∀ (U : State) (H : Heap), q.2.2.2 U H → va_O "java/lang/String" (q.2.2.1 (600 + i)) F U H) : WDI q F l := by
  intro ad0 w1 w k
  intro ad had p e s m args below meth c H locs ls hC hP hD hS hl
  obtain ⟨hx, hb, hr, hml, hown, hts, hlk, hin, hK, hE, hO, hF⟩ := id hC
  have hany : ∀ i, i < 29 → ∀ {locs : List Loc} (H1 : Heap), va_S F s.heap H1 locs → va_Any "java/lang/String" s H1 (q.2.2.1 (600 + i)) := by
    intro i hi locs H1 hS1
    obtain ⟨cell, g1, g2, g3, -⟩ := (hO9 i hi s s.heap hE).kept hS1.2.1
    obtain ⟨kC, hkC, -⟩ := Vm.findClass_spec g3
    exact ⟨cell, g1, g2, ⟨kC, hkC⟩, fun comp h => vb_asgS comp _ h g3⟩
  have htS : (gtyb (gbM q F))[4]? = some ((gbM q F).2.1 4, .object "java/lang/String") := rfl
  refine lv_bipush hx hb dX12_init_57 kb_29 ?_
  refine va_newq hx hb hown (hts _ clRX12_35) (hao s s.heap hE) hK hP hD hS hF (by decide) (N' := 29) (by decide) (Nat.le_of_ble_eq_true rfl) (Nat.le_of_ble_eq_true rfl) (Nat.le_of_ble_eq_true rfl) dX12_init_59 (fun q9 cA H1 hK1 hP1 hD1 hS1 => ?_)
  have hcA : cA = (gbM q F).2.1 4 := by
    obtain ⟨-, -, -, -, -, h1⟩ := (hK1.2 (gtyb (gbM q F)).length (cA, .object "java/lang/String") (by simp)).2
    obtain ⟨-, -, -, -, -, h2⟩ := (hK.2 4 _ htS).2
    exact Option.some.inj (h1.symm.trans h2)
  subst hcA
  have hf0 : (fun _ => none : Nat → Option Nat) = fI q.2.2.1 0 := by funext j; unfold fI; rw [if_neg (Nat.not_lt_zero _)]
  rw [hf0] at hP1 hD1
  refine lv_dup hx hb dX12_init_62 rfl ?_
  refine lv_iconst hx hb dX12_init_63 ki_0 ?_
  refine va_ldcS hx hb hown (hstr 0 (by decide) s s.heap hE) dX12_init_64 ?_
  refine astep 0 (by decide) (inb_in (by decide)) hx hb hK 4 htS hP1 hD1 hS1 (hany 0 (by decide) H1 hS1) dX12_init_66 (fun H1 locs hP1 hD1 hS1 => ?_)
  refine lv_dup hx hb dX12_init_67 rfl ?_
  refine lv_iconst hx hb dX12_init_68 ki_1 ?_
  refine va_ldcS hx hb hown (hstr 1 (by decide) s s.heap hE) dX12_init_69 ?_
  refine astep 1 (by decide) (inb_in (by decide)) hx hb hK 4 htS hP1 hD1 hS1 (hany 1 (by decide) H1 hS1) dX12_init_71 (fun H1 locs hP1 hD1 hS1 => ?_)
  refine lv_dup hx hb dX12_init_72 rfl ?_
  refine lv_iconst hx hb dX12_init_73 ki_2 ?_
  refine va_ldcS hx hb hown (hstr 2 (by decide) s s.heap hE) dX12_init_74 ?_
  refine astep 2 (by decide) (inb_in (by decide)) hx hb hK 4 htS hP1 hD1 hS1 (hany 2 (by decide) H1 hS1) dX12_init_76 (fun H1 locs hP1 hD1 hS1 => ?_)
  refine lv_dup hx hb dX12_init_77 rfl ?_
  refine lv_iconst hx hb dX12_init_78 ki_3 ?_
  refine va_ldcS hx hb hown (hstr 3 (by decide) s s.heap hE) dX12_init_79 ?_
  refine astep 3 (by decide) (inb_in (by decide)) hx hb hK 4 htS hP1 hD1 hS1 (hany 3 (by decide) H1 hS1) dX12_init_81 (fun H1 locs hP1 hD1 hS1 => ?_)
  refine lv_dup hx hb dX12_init_82 rfl ?_
  refine lv_iconst hx hb dX12_init_83 ki_4 ?_
  refine va_ldcS hx hb hown (hstr 4 (by decide) s s.heap hE) dX12_init_84 ?_
  refine astep 4 (by decide) (inb_in (by decide)) hx hb hK 4 htS hP1 hD1 hS1 (hany 4 (by decide) H1 hS1) dX12_init_86 (fun H1 locs hP1 hD1 hS1 => ?_)
  refine lv_dup hx hb dX12_init_87 rfl ?_
  refine lv_iconst hx hb dX12_init_88 ki_5 ?_
  refine va_ldcS hx hb hown (hstr 5 (by decide) s s.heap hE) dX12_init_89 ?_
  refine astep 5 (by decide) (inb_in (by decide)) hx hb hK 4 htS hP1 hD1 hS1 (hany 5 (by decide) H1 hS1) dX12_init_91 (fun H1 locs hP1 hD1 hS1 => ?_)
  refine lv_dup hx hb dX12_init_92 rfl ?_
  refine lv_bipush hx hb dX12_init_93 kb_6 ?_
  refine va_ldcS hx hb hown (hstr 6 (by decide) s s.heap hE) dX12_init_95 ?_
  refine astep 6 (by decide) (inb_in (by decide)) hx hb hK 4 htS hP1 hD1 hS1 (hany 6 (by decide) H1 hS1) dX12_init_97 (fun H1 locs hP1 hD1 hS1 => ?_)
  refine lv_dup hx hb dX12_init_98 rfl ?_
  refine lv_bipush hx hb dX12_init_99 kb_7 ?_
  refine va_ldcS hx hb hown (hstr 7 (by decide) s s.heap hE) dX12_init_101 ?_
  refine astep 7 (by decide) (inb_in (by decide)) hx hb hK 4 htS hP1 hD1 hS1 (hany 7 (by decide) H1 hS1) dX12_init_103 (fun H1 locs hP1 hD1 hS1 => ?_)
  refine lv_dup hx hb dX12_init_104 rfl ?_
  refine lv_bipush hx hb dX12_init_105 kb_8 ?_
  refine va_ldcS hx hb hown (hstr 8 (by decide) s s.heap hE) dX12_init_107 ?_
  refine astep 8 (by decide) (inb_in (by decide)) hx hb hK 4 htS hP1 hD1 hS1 (hany 8 (by decide) H1 hS1) dX12_init_109 (fun H1 locs hP1 hD1 hS1 => ?_)
  refine lv_dup hx hb dX12_init_110 rfl ?_
  refine lv_bipush hx hb dX12_init_111 kb_9 ?_
  refine va_ldcS hx hb hown (hstr 9 (by decide) s s.heap hE) dX12_init_113 ?_
  refine astep 9 (by decide) (inb_in (by decide)) hx hb hK 4 htS hP1 hD1 hS1 (hany 9 (by decide) H1 hS1) dX12_init_115 (fun H1 locs hP1 hD1 hS1 => ?_)
  refine lv_dup hx hb dX12_init_116 rfl ?_
  refine lv_bipush hx hb dX12_init_117 kb_10 ?_
  refine va_ldcS hx hb hown (hstr 10 (by decide) s s.heap hE) dX12_init_119 ?_
  refine astep 10 (by decide) (inb_in (by decide)) hx hb hK 4 htS hP1 hD1 hS1 (hany 10 (by decide) H1 hS1) dX12_init_121 (fun H1 locs hP1 hD1 hS1 => ?_)
  refine lv_dup hx hb dX12_init_122 rfl ?_
  refine lv_bipush hx hb dX12_init_123 kb_11 ?_
  refine va_ldcS hx hb hown (hstr 11 (by decide) s s.heap hE) dX12_init_125 ?_
  refine astep 11 (by decide) (inb_in (by decide)) hx hb hK 4 htS hP1 hD1 hS1 (hany 11 (by decide) H1 hS1) dX12_init_127 (fun H1 locs hP1 hD1 hS1 => ?_)
  refine lv_dup hx hb dX12_init_128 rfl ?_
  refine lv_bipush hx hb dX12_init_129 kb_12 ?_
  refine va_ldcS hx hb hown (hstr 12 (by decide) s s.heap hE) dX12_init_131 ?_
  refine astep 12 (by decide) (inb_in (by decide)) hx hb hK 4 htS hP1 hD1 hS1 (hany 12 (by decide) H1 hS1) dX12_init_133 (fun H1 locs hP1 hD1 hS1 => ?_)
  refine lv_dup hx hb dX12_init_134 rfl ?_
  refine lv_bipush hx hb dX12_init_135 kb_13 ?_
  refine va_ldcS hx hb hown (hstr 13 (by decide) s s.heap hE) dX12_init_137 ?_
  refine astep 13 (by decide) (inb_in (by decide)) hx hb hK 4 htS hP1 hD1 hS1 (hany 13 (by decide) H1 hS1) dX12_init_139 (fun H1 locs hP1 hD1 hS1 => ?_)
  refine lv_dup hx hb dX12_init_140 rfl ?_
  refine lv_bipush hx hb dX12_init_141 kb_14 ?_
  refine va_ldcS hx hb hown (hstr 14 (by decide) s s.heap hE) dX12_init_143 ?_
  refine astep 14 (by decide) (inb_in (by decide)) hx hb hK 4 htS hP1 hD1 hS1 (hany 14 (by decide) H1 hS1) dX12_init_145 (fun H1 locs hP1 hD1 hS1 => ?_)
  refine lv_dup hx hb dX12_init_146 rfl ?_
  refine lv_bipush hx hb dX12_init_147 kb_15 ?_
  refine va_ldcS hx hb hown (hstr 15 (by decide) s s.heap hE) dX12_init_149 ?_
  refine astep 15 (by decide) (inb_in (by decide)) hx hb hK 4 htS hP1 hD1 hS1 (hany 15 (by decide) H1 hS1) dX12_init_151 (fun H1 locs hP1 hD1 hS1 => ?_)
  refine lv_dup hx hb dX12_init_152 rfl ?_
  refine lv_bipush hx hb dX12_init_153 kb_16 ?_
  refine va_ldcS hx hb hown (hstr 16 (by decide) s s.heap hE) dX12_init_155 ?_
  refine astep 16 (by decide) (inb_in (by decide)) hx hb hK 4 htS hP1 hD1 hS1 (hany 16 (by decide) H1 hS1) dX12_init_157 (fun H1 locs hP1 hD1 hS1 => ?_)
  refine lv_dup hx hb dX12_init_158 rfl ?_
  refine lv_bipush hx hb dX12_init_159 kb_17 ?_
  refine va_ldcS hx hb hown (hstr 17 (by decide) s s.heap hE) dX12_init_161 ?_
  refine astep 17 (by decide) (inb_in (by decide)) hx hb hK 4 htS hP1 hD1 hS1 (hany 17 (by decide) H1 hS1) dX12_init_163 (fun H1 locs hP1 hD1 hS1 => ?_)
  refine lv_dup hx hb dX12_init_164 rfl ?_
  refine lv_bipush hx hb dX12_init_165 kb_18 ?_
  refine va_ldcS hx hb hown (hstr 18 (by decide) s s.heap hE) dX12_init_167 ?_
  refine astep 18 (by decide) (inb_in (by decide)) hx hb hK 4 htS hP1 hD1 hS1 (hany 18 (by decide) H1 hS1) dX12_init_169 (fun H1 locs hP1 hD1 hS1 => ?_)
  refine lv_dup hx hb dX12_init_170 rfl ?_
  refine lv_bipush hx hb dX12_init_171 kb_19 ?_
  refine va_ldcS hx hb hown (hstr 19 (by decide) s s.heap hE) dX12_init_173 ?_
  refine astep 19 (by decide) (inb_in (by decide)) hx hb hK 4 htS hP1 hD1 hS1 (hany 19 (by decide) H1 hS1) dX12_init_175 (fun H1 locs hP1 hD1 hS1 => ?_)
  refine lv_dup hx hb dX12_init_176 rfl ?_
  refine lv_bipush hx hb dX12_init_177 kb_20 ?_
  refine va_ldcS hx hb hown (hstr 20 (by decide) s s.heap hE) dX12_init_179 ?_
  refine astep 20 (by decide) (inb_in (by decide)) hx hb hK 4 htS hP1 hD1 hS1 (hany 20 (by decide) H1 hS1) dX12_init_181 (fun H1 locs hP1 hD1 hS1 => ?_)
  refine lv_dup hx hb dX12_init_182 rfl ?_
  refine lv_bipush hx hb dX12_init_183 kb_21 ?_
  refine va_ldcS hx hb hown (hstr 21 (by decide) s s.heap hE) dX12_init_185 ?_
  refine astep 21 (by decide) (inb_in (by decide)) hx hb hK 4 htS hP1 hD1 hS1 (hany 21 (by decide) H1 hS1) dX12_init_187 (fun H1 locs hP1 hD1 hS1 => ?_)
  refine lv_dup hx hb dX12_init_188 rfl ?_
  refine lv_bipush hx hb dX12_init_189 kb_22 ?_
  refine va_ldcS hx hb hown (hstr 22 (by decide) s s.heap hE) dX12_init_191 ?_
  refine astep 22 (by decide) (inb_in (by decide)) hx hb hK 4 htS hP1 hD1 hS1 (hany 22 (by decide) H1 hS1) dX12_init_193 (fun H1 locs hP1 hD1 hS1 => ?_)
  refine lv_dup hx hb dX12_init_194 rfl ?_
  refine lv_bipush hx hb dX12_init_195 kb_23 ?_
  refine va_ldcS hx hb hown (hstr 23 (by decide) s s.heap hE) dX12_init_197 ?_
  refine astep 23 (by decide) (inb_in (by decide)) hx hb hK 4 htS hP1 hD1 hS1 (hany 23 (by decide) H1 hS1) dX12_init_199 (fun H1 locs hP1 hD1 hS1 => ?_)
  refine lv_dup hx hb dX12_init_200 rfl ?_
  refine lv_bipush hx hb dX12_init_201 kb_24 ?_
  refine va_ldcS hx hb hown (hstr 24 (by decide) s s.heap hE) dX12_init_203 ?_
  refine astep 24 (by decide) (inb_in (by decide)) hx hb hK 4 htS hP1 hD1 hS1 (hany 24 (by decide) H1 hS1) dX12_init_205 (fun H1 locs hP1 hD1 hS1 => ?_)
  refine lv_dup hx hb dX12_init_206 rfl ?_
  refine lv_bipush hx hb dX12_init_207 kb_25 ?_
  refine va_ldcS hx hb hown (hstr 25 (by decide) s s.heap hE) dX12_init_209 ?_
  refine astep 25 (by decide) (inb_in (by decide)) hx hb hK 4 htS hP1 hD1 hS1 (hany 25 (by decide) H1 hS1) dX12_init_211 (fun H1 locs hP1 hD1 hS1 => ?_)
  refine lv_dup hx hb dX12_init_212 rfl ?_
  refine lv_bipush hx hb dX12_init_213 kb_26 ?_
  refine va_ldcS hx hb hown (hstr 26 (by decide) s s.heap hE) dX12_init_215 ?_
  refine astep 26 (by decide) (inb_in (by decide)) hx hb hK 4 htS hP1 hD1 hS1 (hany 26 (by decide) H1 hS1) dX12_init_217 (fun H1 locs hP1 hD1 hS1 => ?_)
  refine lv_dup hx hb dX12_init_218 rfl ?_
  refine lv_bipush hx hb dX12_init_219 kb_27 ?_
  refine va_ldcS hx hb hown (hstr 27 (by decide) s s.heap hE) dX12_init_221 ?_
  refine astep 27 (by decide) (inb_in (by decide)) hx hb hK 4 htS hP1 hD1 hS1 (hany 27 (by decide) H1 hS1) dX12_init_223 (fun H1 locs hP1 hD1 hS1 => ?_)
  refine lv_dup hx hb dX12_init_224 rfl ?_
  refine lv_bipush hx hb dX12_init_225 kb_28 ?_
  refine va_ldcS hx hb hown (hstr 28 (by decide) s s.heap hE) dX12_init_227 ?_
  refine astep 28 (by decide) (inb_in (by decide)) hx hb hK 4 htS hP1 hD1 hS1 (hany 28 (by decide) H1 hS1) dX12_init_229 (fun H1 locs hP1 hD1 hS1 => ?_)
  have hP2 := snoc_P (g := fun i => some (upA ad 6 q9 (600 + i))) hP1 (fun j hj => by
    unfold fI upA
    rw [if_pos hj, if_neg (by omega)]
    exact congrArg some (had.2 _ (by omega)))
  have hD2 := va_D_snoc (e' := rfA ((gbM q F).2.1 4) (fun i => some (upA ad 6 q9 (600 + i)))) hD1
  have hw := wl_new (ad := ad) (q := q9) (w := w) (show okA (bds (gbM q F)) [(0, 14), (0, 5), (0, 4), (0, 3), (0, 1)] 6 = true from (by decide +kernel : okA dsM [(0, 14), (0, 5), (0, 4), (0, 3), (0, 1)] 6 = true)) (Nat.le_of_ble_eq_true rfl) he6
  rw [hw] at hP2 hD2
  have hk := k (upA ad 6 q9) ⟨fun k hk => by unfold upA; rw [if_neg (by omega)]; exact had.1 k hk, fun k hk => by unfold upA; rw [if_neg (by omega)]; exact had.2 k hk⟩ p e s m args below meth c H1 locs ls hC hP2 hD2 hS1 (by rw [loc_up (n'' := 6) (A := [(0, 14), (0, 5), (0, 4), (0, 3), (0, 1)]) rfl]; exact hl)
  rw [List.map_cons, stk_up (n'' := 6) (A := [(0, 14), (0, 5), (0, 4), (0, 3), (0, 1)]) rfl] at hk
  rw [show tr (gsA (gbM q F) (upA ad 6 q9) 7 [(0, 14), (0, 5), (0, 4), (0, 3), (0, 1)]) (.ref 6) = .ref q9 from (by show Value.ref (upA ad 6 q9 6) = Value.ref q9; unfold upA; rw [if_pos rfl])] at hk
  exact hk
