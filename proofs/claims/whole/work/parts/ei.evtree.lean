/-! PASS 2, THE CLASS: events and the tree -/
section EV9
variable {kd : Nat → Nat} {fM : Wd} {W : PWT} {sc : Int32} {lu : Nat → Nat} {cur : Nat} {wr : Nat → Nat} {pT : Nat → Nat → Int32} {pL : Nat → Nat → List (Nat × Int32)}
theorem sg_two : ∀ k, k < 51 → stb k ≠ 0 → sgY (Int32.ofNat (kM k)) = tw2T k ∧ (Int32.ofNat (kM k) = 61 ∨ Int32.ofNat (kM k) = 289 ↔ k = 38 ∨ k = 49) ∧ ((if Int32.ofNat (kM k) = 280 ∨ Int32.ofNat (kM k) = 279 ∨ Int32.ofNat (kM k) = 278 ∨ Int32.ofNat (kM k) = 277 then (2 : Int32) else 1) = if 5 ≤ stg k then 1 else 2) := by decide +kernel
theorem stb_50 {k : Nat} (h : stb k ≠ 0) : k < 51 := by
  unfold stb stg at h
  repeat' split at h
  all_goals omega
theorem mis_dif {is want : Int32} {tk : Nat} (hw : want ≠ 0) : misT is want tk = difT want is tk := by
  unfold misT difT
  by_cases q : is ≠ 0 ∧ is ≠ want
  · rw [if_pos q, if_pos ⟨hw, q.1, fun e => q.2 e.symm⟩]
  · rw [if_neg q, if_neg (fun h => q ⟨h.2.1, fun e => h.2.2 e.symm⟩)]
/-- what PRIMARIES are told to be -/
def PRO (kd : Nat → Nat) (fM : Wd) (W : PWT) (sc : Int32) (lu : Nat → Nat) (cur : Nat) (pT : Nat → Nat → Int32) (pL : Nat → Nat → List (Nat × Int32)) : Prop := ∀ lo n d s e cn K, PRI kd fM W sc lo n d s e cn → n < 24000 → 4 * n + 1 ≤ K → TYX fM lu K n = pT s d ∧ (FLX fM lu cur K 0 n 0).Perm (pL s d)
theorem pev_ev (hk9 : ∀ i, 9000 ≤ i → kd i = 0) (hP : PRO kd fM W sc lu cur pT pL) : ∀ (q lo n d s : Nat) (evs : List EV) (cn : Nat), PEV kd fM W sc q lo n d s evs cn → n < 24000 → (s < 9000 ∧ gi fM 12 n = Int32.ofNat s) ∧ ∀ K, 4 * n + 1 ≤ K → ∀ S, evStk pT evs S = (TYX fM lu K n, s) :: S ∧ (FLX fM lu cur K 0 n 0).Perm (evL pT pL evs S) := by
  intro q
  induction q with
  | zero => exact fun _ _ _ _ _ _ h => h.elim
  | succ q ih =>
    intro lo n d s evs cn h hn
    obtain ⟨hlo, h⟩ := h
    rcases h with ⟨k7, _, _, k12, x, y, sg, tk, s2, ex, ey, cx, cy, k8, k10, k9, hsg, hxy, hyn, hev, h1, h2⟩ | ⟨k7, _, _, k12, x, sg, ex, cx, k8, k9, hsg, hxn, hev, h1⟩ | ⟨e, hev, h1⟩
    · obtain ⟨⟨x1, x2⟩, x3⟩ := ih _ _ _ _ _ _ h1 (by omega)
      obtain ⟨⟨y1, y2⟩, y3⟩ := ih _ _ _ _ _ _ h2 (by omega)
      refine ⟨⟨x1, k12⟩, fun K hK S => ?_⟩
      obtain ⟨k, rfl⟩ : ∃ k, K = k + 1 := ⟨K - 1, by omega⟩
      obtain ⟨x4, x5⟩ := x3 k (by omega) S
      obtain ⟨y4, y5⟩ := y3 k (by omega) ((TYX fM lu k x, s) :: S)
      obtain ⟨w1, w2, w3⟩ := sg_two sg (stb_50 hsg) hsg
      have n1 : ¬ gi fM 7 n = 1 := by rw [k7]; decide
      have n2 : ¬ gi fM 7 n = 2 := by rw [k7]; decide
      have n3 : ¬ gi fM 7 n = 3 := by rw [k7]; decide
      have n4 : ¬ gi fM 7 n = 4 := by rw [k7]; decide
      have n5 : ¬ gi fM 7 n = 5 := by rw [k7]; decide
      have n7 : ¬ gi fM 7 n = 7 := by rw [k7]; decide
      have n8 : ¬ gi fM 7 n = 8 := by rw [k7]; decide
      have n9 : ¬ gi fM 7 n = 9 := by rw [k7]; decide
      have e8 : nd fM 8 n = x := by
        unfold nd
        rw [k8, tc_iN (by omega)]
      have e10 : nd fM 10 n = y := by
        unfold nd
        rw [k10, tc_iN (by omega)]
      have ex12 : nd fM 12 x = s := by
        unfold nd
        rw [x2, tc_iN (by omega)]
      have ey12 : nd fM 12 y = s2 := by
        unfold nd
        rw [y2, tc_iN (by omega)]
      have hty : TYX fM lu (k + 1) n = tw2T sg := by
        rw [TYX, if_neg n1, if_neg n2, if_neg n9, if_neg n3, if_neg n4, if_neg n5, if_neg n8, if_neg n7, k9, w1]
      have hfl : (FLX fM lu cur (k + 1) 0 n 0).Perm (FLX fM lu cur k 0 x 0 ++ FLX fM lu cur k 0 y 0 ++ tw2L sg (TYX fM lu k y, s2) (TYX fM lu k x, s)) := by
        rw [FLX]
        dsimp only
        rw [if_pos rfl, if_neg (fun g => g.elim n1 n2), if_neg n9, if_neg n3, if_neg n4, if_neg n5, if_neg n8, if_neg n7, e8, e10, ex12, ey12, k9, w3]
        unfold tw2L
        by_cases q38 : sg = 38 ∨ sg = 49
        · rw [if_pos (w2.mpr q38), if_pos q38, ← List.append_assoc]
          have : (if TYX fM lu k x ≠ 0 then misT (TYX fM lu k y) (TYX fM lu k x) s2 else []) = difT (TYX fM lu k x) (TYX fM lu k y) s2 := by
            by_cases q0 : TYX fM lu k x ≠ 0
            · rw [if_pos q0, mis_dif q0]
            · rw [if_neg q0]
              unfold difT
              rw [if_neg (fun h => q0 h.1)]
          rw [this]
        · rw [if_neg (fun h => q38 (w2.mp h)), if_neg q38]
          have hw : (if 5 ≤ stg sg then (1 : Int32) else 2) ≠ 0 := by split <;> decide
          rw [mis_dif hw, mis_dif hw]
          simp only [List.append_assoc]
          refine List.Perm.append_left _ ?_
          rw [← List.append_assoc, ← List.append_assoc]
          exact List.Perm.append_right _ List.perm_append_comm
      rw [hev, evStk_app, evStk_app, x4, y4, evL_app, evL_app, evStk_app, x4, y4]
      refine ⟨by rw [hty]; rfl, hfl.trans ?_⟩
      show List.Perm (_ : List (Nat × Int32)) ((_ : List (Nat × Int32)) ++ (tw2L sg (TYX fM lu k y, s2) (TYX fM lu k x, s) ++ []))
      rw [List.append_nil]
      exact List.Perm.append (List.Perm.append x5 y5) (List.Perm.refl _)
    · obtain ⟨⟨x1, x2⟩, x3⟩ := ih _ _ _ _ _ _ h1 (by omega)
      refine ⟨⟨by omega, k12⟩, fun K hK S => ?_⟩
      obtain ⟨k, rfl⟩ : ∃ k, K = k + 1 := ⟨K - 1, by omega⟩
      obtain ⟨x4, x5⟩ := x3 k (by omega) S
      have n1 : ¬ gi fM 7 n = 1 := by rw [k7]; decide
      have n2 : ¬ gi fM 7 n = 2 := by rw [k7]; decide
      have n3 : ¬ gi fM 7 n = 3 := by rw [k7]; decide
      have n4 : ¬ gi fM 7 n = 4 := by rw [k7]; decide
      have n5 : ¬ gi fM 7 n = 5 := by rw [k7]; decide
      have n8 : ¬ gi fM 7 n = 8 := by rw [k7]; decide
      have n9 : ¬ gi fM 7 n = 9 := by rw [k7]; decide
      have e8 : nd fM 8 n = x := by
        unfold nd
        rw [k8, tc_iN (by omega)]
      have ex12 : nd fM 12 x = s + 1 := by
        unfold nd
        rw [x2, tc_iN (by omega)]
      have hon : (if gi fM 9 n = 281 then (2 : Int32) else 1) = on1T sg := by
        rw [k9]
        rcases hsg with q | q | q <;> rw [q] <;> rfl
      have hty : TYX fM lu (k + 1) n = on1T sg := by
        rw [TYX, if_neg n1, if_neg n2, if_neg n9, if_neg n3, if_neg n4, if_neg n5, if_neg n8, if_pos k7, hon]
      have hw : on1T sg ≠ 0 := by
        unfold on1T
        split <;> decide
      have hfl : FLX fM lu cur (k + 1) 0 n 0 = FLX fM lu cur k 0 x 0 ++ difT (on1T sg) (TYX fM lu k x) (s + 1) := by
        rw [FLX]
        dsimp only
        rw [if_pos rfl, if_neg (fun g => g.elim n1 n2), if_neg n9, if_neg n3, if_neg n4, if_neg n5, if_neg n8, if_pos k7, e8, ex12, hon, mis_dif hw]
      rw [hev, evStk_app, x4, evL_app, x4]
      refine ⟨by rw [hty]; rfl, ?_⟩
      rw [hfl]
      show List.Perm (_ : List (Nat × Int32)) ((_ : List (Nat × Int32)) ++ (difT (on1T sg) (TYX fM lu k x) (s + 1) ++ []))
      rw [List.append_nil]
      exact List.Perm.append x5 (List.Perm.refl _)
    · have hks : kd s ≠ 0 := by
        obtain ⟨_, _, _, _, h⟩ := h1
        rcases h with h | h | h | h | ⟨_, _, _, _, h, _⟩
        · omega
        · rcases h.2.1 with h | h <;> omega
        · omega
        · omega
        · omega
      have hs9 : s < 9000 := by
        by_cases q : s < 9000
        · exact q
        · exact absurd (hk9 s (by omega)) hks
      refine ⟨⟨hs9, h1.2.1⟩, fun K hK S => ?_⟩
      obtain ⟨g1, g2⟩ := hP _ _ _ _ _ _ K h1 hn hK
      rw [hev]
      refine ⟨by rw [g1]; rfl, ?_⟩
      show (_ : List (Nat × Int32)).Perm (pL s d ++ [])
      rw [List.append_nil]
      exact g2
end EV9
