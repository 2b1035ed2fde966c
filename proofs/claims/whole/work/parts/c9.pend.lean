/-! THE CLASS: faults that the reference has yet to note -/
section JT
variable {kd wr nm : Nat → Nat} {m z : Nat}
/-- a world with other faults -/
def fl (q : Int32 × Int32) (u : Wd) : Wd := si (si u 3 6 q.1) 3 7 q.2
def FNS (wr : Nat → Nat) (L : List Nat) (p : Int32 × Int32) : Int32 × Int32 := L.foldr (fun x p => FN p 3 (Int32.ofNat (wr x))) p
theorem FNS_fn {L : List Nat} {p : Int32 × Int32} {a x : Int32} (ha : a ≠ 0) : FN (FNS wr L p) a x = FNS wr L (FN p a x) := by
  induction L with
  | nil => rfl
  | cons y L ih =>
    show FN (FN (FNS wr L p) 3 (Int32.ofNat (wr y))) a x = FN (FNS wr L (FN p a x)) 3 (Int32.ofNat (wr y))
    rw [FN_comm (by decide) ha, ih]
theorem fl_gi {q : Int32 × Int32} {u : Wd} {k j : Nat} (h : k ≠ 3) : gi (fl q u) k j = gi u k j := by
  unfold fl
  rw [gi_si1 (by omega), gi_si1 (by omega)]
theorem si_cm {u : Wd} {k j k' j' : Nat} {a b : Int32} (h : ¬ (k = k' ∧ j = j')) : si (si u k j a) k' j' b = si (si u k' j' b) k j a := by
  refine Prod.ext ?_ rfl
  funext x y
  show (if x = k' ∧ y = j' then b else (if x = k ∧ y = j then a else u.1 x y)) = (if x = k ∧ y = j then a else (if x = k' ∧ y = j' then b else u.1 x y))
  by_cases q1 : x = k' ∧ y = j'
  · rw [if_pos q1, if_neg (show ¬ (x = k ∧ y = j) by omega), if_pos q1]
  · rw [if_neg q1]
    by_cases q2 : x = k ∧ y = j
    · rw [if_pos q2, if_pos q2]
    · rw [if_neg q2, if_neg q2, if_neg q1]
theorem si_2 {u : Wd} {k j : Nat} {a b : Int32} : si (si u k j a) k j b = si u k j b := by
  refine Prod.ext ?_ rfl
  funext x y
  show (if x = k ∧ y = j then b else (if x = k ∧ y = j then a else u.1 x y)) = (if x = k ∧ y = j then b else u.1 x y)
  by_cases q2 : x = k ∧ y = j
  · rw [if_pos q2, if_pos q2]
  · rw [if_neg q2, if_neg q2, if_neg q2]
theorem fl_si {q : Int32 × Int32} {u : Wd} {k j : Nat} {v : Int32} (h : k ≠ 3) : si (fl q u) k j v = fl q (si u k j v) := by
  unfold fl
  rw [si_cm (k := 3) (j := 7) (by omega), si_cm (k := 3) (j := 6) (by omega)]
theorem fl_fl {q q' : Int32 × Int32} {u : Wd} : fl q (fl q' u) = fl q u := by
  unfold fl
  rw [si_cm (u := si u 3 6 q'.1) (k := 3) (j := 7) (k' := 3) (j' := 6) (by omega), si_2, si_2]
theorem fl_rgi {q : Int32 × Int32} {u : Wd} {k n : Nat} {x : Int32} (h : k ≠ 3) : rgi (fl q u) k n x = rgi u k n x := by
  unfold rgi
  simp only [fl_gi h]
theorem fl_w {q : Int32 × Int32} {u : Wd} {x : Int32} : fX9_where x (fl q u) = fX9_where x u := by
  unfold fX9_where
  rw [fl_rgi (by omega)]
theorem fl_kind {q : Int32 × Int32} {u : Wd} : fX9_kind (fl q u) = fX9_kind u := by
  unfold fX9_kind fX9_kindOf
  rw [ltq, ltq, ltq, ltq, fl_gi (by omega), fl_gi (by omega), fl_rgi (by omega)]
theorem take_if {u : Wd} {k : Int32} : fX9_take k u = if fX9_kind u = k then (true, si u 4 9 ((gi u 4 9) + 1)) else (false, u) := rfl
theorem fl_take {q : Int32 × Int32} {u : Wd} {k : Int32} : fX9_take k (fl q u) = ((fX9_take k u).1, fl q (fX9_take k u).2) := by
  rw [take_if, take_if, fl_kind]
  by_cases h : fX9_kind u = k
  · rw [if_pos h, if_pos h, fl_gi (by omega), fl_si (by omega)]
  · rw [if_neg h, if_neg h]
theorem fail_if {u : Wd} : fX9_fail u = if 0 ≤ (gi u 4 10) then si u 4 9 ((gi u 4 8) - 1) else si (si u 4 10 (fX9_where (gi u 4 9) u)) 4 9 ((gi (si u 4 10 (fX9_where (gi u 4 9) u)) 4 8) - 1) := rfl
theorem fl_fail {q : Int32 × Int32} {u : Wd} : fX9_fail (fl q u) = fl q (fX9_fail u) := by
  rw [fail_if, fail_if, fl_gi (k := 4) (j := 10) (by omega)]
  by_cases h : 0 ≤ gi u 4 10
  · rw [if_pos h, if_pos h, fl_gi (by omega), fl_si (by omega)]
  · rw [if_neg h, if_neg h, fl_gi (k := 4) (j := 9) (by omega), fl_w, fl_si (k := 4) (j := 10) (by omega), fl_gi (by omega), fl_si (by omega)]
theorem need_if {u : Wd} {k : Int32} : fX9_need k u = if (fX9_take k u).1 = true then (fX9_take k u).2 else fX9_fail (fX9_take k u).2 := rfl
theorem fl_need {q : Int32 × Int32} {u : Wd} {k : Int32} : fX9_need k (fl q u) = fl q (fX9_need k u) := by
  rw [need_if, need_if, fl_take]
  by_cases h : (fX9_take k u).1 = true
  · rw [if_pos h, if_pos h]
  · rw [if_neg h, if_neg h]
    exact fl_fail
theorem note_fl {x n : Int32} {u : Wd} : fX1_note x n u = fl (FN (FLA u) n (fX9_where x u)) u := by
  have hs : fl (FLA u) u = u := by
    refine Prod.ext ?_ rfl
    funext k j
    show (if k = 3 ∧ j = 7 then gi u 3 7 else (if k = 3 ∧ j = 6 then gi u 3 6 else u.1 k j)) = u.1 k j
    by_cases q1 : k = 3 ∧ j = 7
    · rw [if_pos q1, q1.1, q1.2]; rfl
    · rw [if_neg q1]
      by_cases q2 : k = 3 ∧ j = 6
      · rw [if_pos q2, q2.1, q2.2]; rfl
      · rw [if_neg q2]
  unfold fX1_note
  rw [ltq]
  generalize fX9_where x u = a
  unfold FN
  show _ = fl (if gi u 3 6 = 0 then (n, a) else if a < gi u 3 7 then (n, a) else if a = gi u 3 7 then (if gi u 3 6 ≤ n then FLA u else (n, a)) else FLA u) u
  by_cases c1 : gi u 3 6 = 0
  · rw [if_pos c1, if_pos c1]; rfl
  · rw [if_neg c1, if_neg c1]
    by_cases c2 : a < gi u 3 7
    · rw [if_pos c2, if_pos c2]; rfl
    · rw [if_neg c2, if_neg c2]
      by_cases c3 : a = gi u 3 7
      · rw [if_pos c3, if_pos c3]
        by_cases c4 : gi u 3 6 ≤ n
        · rw [if_pos c4, if_pos c4, hs]
        · rw [if_neg c4, if_neg c4]; rfl
      · rw [if_neg c3, if_neg c3, hs]
theorem FLA_fl {q : Int32 × Int32} {u : Wd} : FLA (fl q u) = q := by
  unfold FLA fl
  rw [gi_si1 (show ¬ (3 = 3 ∧ 6 = 7) by omega)]
  rfl
/-- a fault noted upon others -/
theorem fl_note {q : Int32 × Int32} {x n : Int32} {u : Wd} : fX1_note x n (fl q u) = fl (FN q n (fX9_where x u)) (fX1_note x n u) := by
  rw [note_fl, note_fl, FLA_fl, fl_w, fl_fl, fl_fl]
end JT
