/-! THE LAW'S LOOP -/
theorem vin_of {m L : Nat} (h : m < L) (hL : L ≤ 3072) : vp_in (Int32.ofNat m) L := by
  have h1 : (Int32.ofNat m).toNatClampNeg = m := Int32.toNatClampNeg_ofNat_of_lt (by omega)
  have h2 : (Int32.ofNat m).toInt = m := Int32.toInt_ofNat_of_lt (by omega)
  rintro (h3 | h3)
  · rw [Int32.lt_iff_toInt_lt, h2] at h3
    have : (0 : Int32).toInt = 0 := rfl
    omega
  · omega
theorem vin_add {m L : Nat} {j : Nat} {x : Int32} (hx : Int32.ofNat j = x) (h : m + j < L) (hL : L ≤ 3072) : vp_in (Int32.ofNat m + x) L := by
  rw [← hx, ← Int32.ofNat_add]
  exact vin_of h hL
theorem six_le {k L : Nat} (hk : 6 * k ≤ 3072) (hL : L ≤ 3072) (h : ¬ Int32.ofNat L - 6 < Int32.ofNat (6 * k)) : 6 * k + 6 ≤ L := by
  rw [Int32.lt_iff_toInt_lt, Int32.toInt_sub, Int32.toInt_ofNat_of_lt (by omega), Int32.toInt_ofNat_of_lt (by omega)] at h
  have h6 : (6 : Int32).toInt = 6 := rfl
  rw [h6, Int.bmod_eq_of_le (by omega) (by omega)] at h
  omega
section LOOP
variable {p : Program} {l : Launch} {e : Env} {s : State} {m : MethodId} {below : List Frame} {meth : Method} {c : Code} {b L : Nat} {xs : Nat → Int32} {qA qM : Gq} {INV : Nat → Wd → Wd → Prop} {F FM : Nat → Prop}
theorem lw_exit {H : Heap} {locs : List Loc} {cells slots : Nat} {ls : Array Slot} {wA wM : Wd} (hC : LCx qA qM b L xs p s m meth c) (hW : LWd qA qM s wA wM H locs) (h1 : cells ≤ 603072) (h2 : slots ≤ 7202922) : W p l e room_1 s m #[Value.ref b] below meth c H locs cells slots (lw_Z below #[Value.ref b] s) (F0 m 426 ls []) := by
  obtain ⟨⟨hx, hb, hr, hml, hown, hts, hlk⟩, -⟩ := hC
  refine lv_iconst (pc := 426) hx hb dL_law_426 ki_1 ?_
  exact va_forget (fun q hq => hW.2.2.2.2 q hq) (W.widen h1 h2 (lw_ret hx hb hr hlk dL_law_427))
set_option maxHeartbeats 4000000 in
set_option maxRecDepth 20000 in
theorem lw_loop (hC : LCx qA qM b L xs p s m meth c) (hL : L ≤ 3072) (hfl : l.stackTraces = false) (hEF : ∀ (U : State) (H : Heap), gE (GA qA) U H → ENV F U H) (hAF : ∀ z, gAw (GA qA) z → F z) (hNC : ∀ (U : State) (H : Heap), gE (GA qA) U H → va_Nc "java/lang/IllegalStateException" "java/lang/IllegalArgumentException" U) (hzA : SGN qA l) (hzM : SGM qM l) (hFM9 : ∀ (U : State) (H : Heap), gE (GM qM) U H → ENV FM U H) (hFc : Faces INV) :
    ∀ (n k : Nat), n + k = 512 → ∀ (wA wM : Wd) (H : Heap) (locs : List Loc) (ls : Array Slot) (cells slots : Nat), INV n wA wM → LWd qA qM s wA wM H locs → lv_has ls 8 (LL qA qM b (Int32.ofNat (6 * k))) → cells + n ≤ 603072 → slots + 6 * n ≤ 7202922 → W p l e room_1 s m #[Value.ref b] below meth c H locs cells slots (lw_Z below #[Value.ref b] s) (F0 m 23 ls []) := by
  intro n
  induction n with
  | zero =>
    intro k hk wA wM H locs ls cells slots hI hW hl hc1 hc2
    have hC0 := hC
    obtain ⟨⟨hx, hb, hr, hml, hown, hts, hlk⟩, ⟨hX, hbl⟩, -⟩ := hC
    have hbF : ¬ s.heap.size ≤ b := Nat.not_le.mpr hbl
    have hS := hW.2.2
    have hl : lv_has ls 8 [(0, .ref b), (1, .ref (gad (GH qA) 0)), (2, .ref (gad (GM qM) 0)), (3, .ref (gad (GH qA) 57)), (4, .int (Int32.ofNat (6 * k)))] := hl
    refine lv_iload (pc := 23) hx hb dL_law_23 (lv_at hl 4 rfl) ?_
    refine lv_aload_n (pc := 25) hx hb dL_law_25 rfl (lv_at hl 0 rfl) ?_
    refine va_slen (pc := 26) hx hb hX hbl hbF hS dL_law_26 ?_
    refine lv_bipush (pc := 27) hx hb dL_law_27 kb_6 ?_
    refine lv_isub (pc := 29) hx hb dL_law_29 ?_
    refine lv_icmp_gt (pc := 30) (tgt := 426) hx hb dL_law_30 rfl (fun _ => lw_exit hC0 hW (by omega) (by omega)) (fun h => ?_)
    have := six_le (by omega) hL h
    omega
  | succ n ih =>
    intro k hk wA wM H locs ls cells slots hI hW hl hc1 hc2
    have hC0 := hC
    obtain ⟨⟨hx, hb, hr, hml, hown, hts, hlk⟩, ⟨hX, hbl⟩, -⟩ := hC
    have hbF : ¬ s.heap.size ≤ b := Nat.not_le.mpr hbl
    have hS := hW.2.2
    have hl0 := hl
    have hl : lv_has ls 8 [(0, .ref b), (1, .ref (gad (GH qA) 0)), (2, .ref (gad (GM qM) 0)), (3, .ref (gad (GH qA) 57)), (4, .int (Int32.ofNat (6 * k)))] := hl
    refine lv_iload (pc := 23) hx hb dL_law_23 (lv_at hl 4 rfl) ?_
    refine lv_aload_n (pc := 25) hx hb dL_law_25 rfl (lv_at hl 0 rfl) ?_
    refine va_slen (pc := 26) hx hb hX hbl hbF hS dL_law_26 ?_
    refine lv_bipush (pc := 27) hx hb dL_law_27 kb_6 ?_
    refine lv_isub (pc := 29) hx hb dL_law_29 ?_
    refine lv_icmp_gt (pc := 30) (tgt := 426) hx hb dL_law_30 rfl (fun _ => lw_exit hC0 hW (by omega) (by omega)) (fun h => ?_)
    have h6 := six_le (by omega) hL h
    have hin1 : vp_in (Int32.ofNat (6 * k) + 1) L := vin_add (j := 1) rfl (by omega) hL
    have hin2 : vp_in (Int32.ofNat (6 * k) + 2) L := vin_add (j := 2) rfl (by omega) hL
    have hin3 : vp_in (Int32.ofNat (6 * k) + 3) L := vin_add (j := 3) rfl (by omega) hL
    have hin4 : vp_in (Int32.ofNat (6 * k) + 4) L := vin_add (j := 4) rfl (by omega) hL
    have hin5 : vp_in (Int32.ofNat (6 * k) + 5) L := vin_add (j := 5) rfl (by omega) hL
    have hgo : ∀ (u v : Wd) (H1 : Heap) (locs1 : List Loc) (ls1 : Array Slot) (c1 s1 : Nat), INV n u v → LWd qA qM s u v H1 locs1 → lv_has ls1 8 (LL qA qM b (Int32.ofNat (6 * k))) → c1 + n ≤ 603072 → s1 + 6 * n ≤ 7202922 → W p l e room_1 s m #[Value.ref b] below meth c H1 locs1 c1 s1 (lw_Z below #[Value.ref b] s) (F0 m 420 ls1 []) := by
      intro u v H1 locs1 ls1 c1 s1 hI1 hW1 hl1 z1 z2
      have hl1 : lv_has ls1 8 [(0, .ref b), (1, .ref (gad (GH qA) 0)), (2, .ref (gad (GM qM) 0)), (3, .ref (gad (GH qA) 57)), (4, .int (Int32.ofNat (6 * k)))] := hl1
      have h66 : Int32.ofNat (6 * k) + Int32.ofInt 6 = Int32.ofNat (6 * (k + 1)) := by
        rw [show Int32.ofInt 6 = Int32.ofNat 6 from rfl, ← Int32.ofNat_add]
        rfl
      refine lv_iinc (pc := 420) (k := 4) (lv' := [(4, .int (Int32.ofNat (6 * (k + 1)))), (0, .ref b), (1, .ref (gad (GH qA) 0)), (2, .ref (gad (GM qM) 0)), (3, .ref (gad (GH qA) 57))]) hx hb dL_law_420 hl1 rfl h66 (Nat.le_of_ble_eq_true rfl) rfl (fun ls2 hl2 => ?_)
      refine lv_goto (pc := 423) (tgt := 23) hx hb dL_law_423 rfl ?_
      exact ih (k + 1) (by omega) u v H1 locs1 ls2 c1 s1 hI1 hW1 (lv_sub hl2 [1, 2, 3, 4, 0] rfl) z1 z2
    have hkc : cells + 1 ≤ 603072 ∧ slots + 6 ≤ 7202922 := ⟨by omega, by omega⟩
    have hg1 : ∀ (u v : Wd) (H1 : Heap) (locs1 : List Loc) (ls1 : Array Slot), INV n u v → LWd qA qM s u v H1 locs1 → lv_has ls1 8 (LL qA qM b (Int32.ofNat (6 * k))) → W p l e room_1 s m #[Value.ref b] below meth c H1 locs1 (cells + 1) (slots + 6) (lw_Z below #[Value.ref b] s) (F0 m 420 ls1 []) := fun u v H1 locs1 ls1 a1 a2 a3 => hgo u v H1 locs1 ls1 _ _ a1 a2 a3 (by omega) (by omega)
    refine lv_aload_n (pc := 33) hx hb dL_law_33 rfl (lv_at hl 0 rfl) ?_
    refine lv_iload (pc := 34) hx hb dL_law_34 (lv_at hl 4 rfl) ?_
    refine va_sld (pc := 36) hx hb hX hbl hbF hS (vin_of (by omega) hL) dL_law_36 ?_
    refine lv_bipush (pc := 37) hx hb dL_law_37 kb_7 ?_
    refine lv_iand (pc := 39) hx hb dL_law_39 ?_
    generalize xs (Int32.ofNat (6 * k)).toNatClampNeg &&& 7 = y
    by_cases hy : y.toInt < 0 ∨ 5 < y.toInt
    · exact lv_tableOut (pc := 40) (tgt := 420) hx hb dL_law_40 hy rfl (hgo wA wM H locs ls cells slots (hFc.1 n wA wM hI).2.2.2.2.2.2 hW hl0 (by omega) (by omega))
    have n1 : ¬ y.toInt < 0 := fun h => hy (Or.inl h)
    have n2 : ¬ 5 < y.toInt := fun h => hy (Or.inr h)
    rcases (show y.toInt = 0 ∨ y.toInt = 1 ∨ y.toInt = 2 ∨ y.toInt = 3 ∨ y.toInt = 4 ∨ y.toInt = 5 by omega) with h0 | h0 | h0 | h0 | h0 | h0
    · refine lv_tableIn (pc := 40) (tgt := 80) (off := 40) hx hb dL_law_40 n1 n2 (by rw [h0]; rfl) rfl ?_
      exact seg_feed hC0 hfl hEF hAF hFc hI hW hl0 hin1 hin2 hin3 hin4 hin5 hkc hg1
    · refine lv_tableIn (pc := 40) (tgt := 184) (off := 144) hx hb dL_law_40 n1 n2 (by rw [h0]; rfl) rfl ?_
      exact seg_end hC0 hfl hEF hAF hFc hI hW hl0 hin1 hkc hg1
    · refine lv_tableIn (pc := 40) (tgt := 240) (off := 200) hx hb dL_law_40 n1 n2 (by rw [h0]; rfl) rfl ?_
      exact seg_build hzA hzM hFM9 hC0 hfl hEF hAF hFc hI hW hl0 hkc hg1
    · refine lv_tableIn (pc := 40) (tgt := 284) (off := 244) hx hb dL_law_40 n1 n2 (by rw [h0]; rfl) rfl ?_
      exact seg_run hNC hC0 hfl hEF hAF hFc hI hW hl0 hin1 hkc hg1
    · refine lv_tableIn (pc := 40) (tgt := 340) (off := 300) hx hb dL_law_40 n1 n2 (by rw [h0]; rfl) rfl ?_
      exact seg_out hC0 hfl hEF hAF hFc hI hW hl0 hin1 hkc hg1
    · refine lv_tableIn (pc := 40) (tgt := 395) (off := 355) hx hb dL_law_40 n1 n2 (by rw [h0]; rfl) rfl ?_
      exact seg_count hC0 hFc hI hW hl0 hin1 ⟨by omega, by omega⟩ (fun u v H1 locs1 ls1 a1 a2 a3 => hgo u v H1 locs1 ls1 _ _ a1 a2 a3 (by omega) (by omega))
end LOOP
