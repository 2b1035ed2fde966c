/-! THE CLASS: faults that the reference has yet to note -/
section JT
variable {kd wr nm : Nat → Nat} {m z : Nat}
/-- a world with other faults -/
def fl (q : Int32 × Int32) (u : Wd) : Wd := si (si u 3 6 q.1) 3 7 q.2
def FNS (wr : Nat → Nat) (L : List Nat) (p : Int32 × Int32) : Int32 × Int32 := L.foldr (fun x p => FN p 3 (Int32.ofNat (wr x))) p
theorem FNS_fn {L : List Nat} {p : Int32 × Int32} {a x : Int32} (ha : a ≠ 0) : FN (FNS wr L p) a x = FNS wr L (FN p a x) := by
  induction L with
  | nil => rfl
  | cons y L ih =>
    show FN (FN (FNS wr L p) 3 (Int32.ofNat (wr y))) a x = FN (FNS wr L (FN p a x)) 3 (Int32.ofNat (wr y))
    rw [FN_comm (by decide) ha, ih]
theorem fl_gi {q : Int32 × Int32} {u : Wd} {k j : Nat} (h : k ≠ 3) : gi (fl q u) k j = gi u k j := by
  unfold fl
  rw [gi_si1 (by omega), gi_si1 (by omega)]
theorem si_cm {u : Wd} {k j k' j' : Nat} {a b : Int32} (h : ¬ (k = k' ∧ j = j')) : si (si u k j a) k' j' b = si (si u k' j' b) k j a := by
  refine Prod.ext ?_ rfl
  funext x y
  show (if x = k' ∧ y = j' then b else (if x = k ∧ y = j then a else u.1 x y)) = (if x = k ∧ y = j then a else (if x = k' ∧ y = j' then b else u.1 x y))
  by_cases q1 : x = k' ∧ y = j'
  · rw [if_pos q1, if_neg (show ¬ (x = k ∧ y = j) by omega), if_pos q1]
  · rw [if_neg q1]
    by_cases q2 : x = k ∧ y = j
    · rw [if_pos q2, if_pos q2]
    · rw [if_neg q2, if_neg q2, if_neg q1]
theorem si_2 {u : Wd} {k j : Nat} {a b : Int32} : si (si u k j a) k j b = si u k j b := by
  refine Prod.ext ?_ rfl
  funext x y
  show (if x = k ∧ y = j then b else (if x = k ∧ y = j then a else u.1 x y)) = (if x = k ∧ y = j then b else u.1 x y)
  by_cases q2 : x = k ∧ y = j
  · rw [if_pos q2, if_pos q2]
  · rw [if_neg q2, if_neg q2, if_neg q2]
theorem fl_si {q : Int32 × Int32} {u : Wd} {k j : Nat} {v : Int32} (h : k ≠ 3) : si (fl q u) k j v = fl q (si u k j v) := by
  unfold fl
  rw [si_cm (k := 3) (j := 7) (by omega), si_cm (k := 3) (j := 6) (by omega)]
theorem fl_fl {q q' : Int32 × Int32} {u : Wd} : fl q (fl q' u) = fl q u := by
  unfold fl
  rw [si_cm (u := si u 3 6 q'.1) (k := 3) (j := 7) (k' := 3) (j' := 6) (by omega), si_2, si_2]
theorem fl_rgi {q : Int32 × Int32} {u : Wd} {k n : Nat} {x : Int32} (h : k ≠ 3) : rgi (fl q u) k n x = rgi u k n x := by
  unfold rgi
  simp only [fl_gi h]
theorem fl_w {q : Int32 × Int32} {u : Wd} {x : Int32} : fX9_where x (fl q u) = fX9_where x u := by
  unfold fX9_where
  rw [fl_rgi (by omega)]
theorem fl_kind {q : Int32 × Int32} {u : Wd} : fX9_kind (fl q u) = fX9_kind u := by
  unfold fX9_kind fX9_kindOf
  rw [ltq, ltq, ltq, ltq, fl_gi (by omega), fl_gi (by omega), fl_rgi (by omega)]
theorem take_if {u : Wd} {k : Int32} : fX9_take k u = if fX9_kind u = k then (true, si u 4 9 ((gi u 4 9) + 1)) else (false, u) := rfl
theorem fl_take {q : Int32 × Int32} {u : Wd} {k : Int32} : fX9_take k (fl q u) = ((fX9_take k u).1, fl q (fX9_take k u).2) := by
  rw [take_if, take_if, fl_kind]
  by_cases h : fX9_kind u = k
  · rw [if_pos h, if_pos h, fl_gi (by omega), fl_si (by omega)]
  · rw [if_neg h, if_neg h]
theorem fail_if {u : Wd} : fX9_fail u = if 0 ≤ (gi u 4 10) then si u 4 9 ((gi u 4 8) - 1) else si (si u 4 10 (fX9_where (gi u 4 9) u)) 4 9 ((gi (si u 4 10 (fX9_where (gi u 4 9) u)) 4 8) - 1) := rfl
theorem fl_fail {q : Int32 × Int32} {u : Wd} : fX9_fail (fl q u) = fl q (fX9_fail u) := by
  rw [fail_if, fail_if, fl_gi (k := 4) (j := 10) (by omega)]
  by_cases h : 0 ≤ gi u 4 10
  · rw [if_pos h, if_pos h, fl_gi (by omega), fl_si (by omega)]
  · rw [if_neg h, if_neg h, fl_gi (k := 4) (j := 9) (by omega), fl_w, fl_si (k := 4) (j := 10) (by omega), fl_gi (by omega), fl_si (by omega)]
theorem need_if {u : Wd} {k : Int32} : fX9_need k u = if (fX9_take k u).1 = true then (fX9_take k u).2 else fX9_fail (fX9_take k u).2 := rfl
theorem fl_need {q : Int32 × Int32} {u : Wd} {k : Int32} : fX9_need k (fl q u) = fl q (fX9_need k u) := by
  rw [need_if, need_if, fl_take]
  by_cases h : (fX9_take k u).1 = true
  · rw [if_pos h, if_pos h]
  · rw [if_neg h, if_neg h]
    exact fl_fail
theorem note_fl {x n : Int32} {u : Wd} : fX1_note x n u = fl (FN (FLA u) n (fX9_where x u)) u := by
  have hs : fl (FLA u) u = u := by
    refine Prod.ext ?_ rfl
    funext k j
    show (if k = 3 ∧ j = 7 then gi u 3 7 else (if k = 3 ∧ j = 6 then gi u 3 6 else u.1 k j)) = u.1 k j
    by_cases q1 : k = 3 ∧ j = 7
    · rw [if_pos q1, q1.1, q1.2]; rfl
    · rw [if_neg q1]
      by_cases q2 : k = 3 ∧ j = 6
      · rw [if_pos q2, q2.1, q2.2]; rfl
      · rw [if_neg q2]
  unfold fX1_note
  rw [ltq]
  generalize fX9_where x u = a
  unfold FN
  show _ = fl (if gi u 3 6 = 0 then (n, a) else if a < gi u 3 7 then (n, a) else if a = gi u 3 7 then (if gi u 3 6 ≤ n then FLA u else (n, a)) else FLA u) u
  by_cases c1 : gi u 3 6 = 0
  · rw [if_pos c1, if_pos c1]; rfl
  · rw [if_neg c1, if_neg c1]
    by_cases c2 : a < gi u 3 7
    · rw [if_pos c2, if_pos c2]; rfl
    · rw [if_neg c2, if_neg c2]
      by_cases c3 : a = gi u 3 7
      · rw [if_pos c3, if_pos c3]
        by_cases c4 : gi u 3 6 ≤ n
        · rw [if_pos c4, if_pos c4, hs]
        · rw [if_neg c4, if_neg c4]; rfl
      · rw [if_neg c3, if_neg c3, hs]
theorem FLA_fl {q : Int32 × Int32} {u : Wd} : FLA (fl q u) = q := by
  unfold FLA fl
  rw [gi_si1 (show ¬ (3 = 3 ∧ 6 = 7) by omega)]
  rfl
/-- a fault noted upon others -/
theorem fl_note {q : Int32 × Int32} {x n : Int32} {u : Wd} : fX1_note x n (fl q u) = fl (FN q n (fX9_where x u)) (fX1_note x n u) := by
  rw [note_fl, note_fl, FLA_fl, fl_w, fl_fl, fl_fl]
end JT
section JT
variable {kd wr nm : Nat → Nat} {vv : Nat → Int64} {m z : Nat} {gA gM : Wd} {lv : Bool} {sl us B : Nat} {stk obl stkF : List Nat} {prs : PRL} {C TK : Nat → Nat} {SL : Nat → List Nat} {t d b : Nat} {fa : Int32} {wA wM : Wd} {γ α : Type} {wd : γ → Wd} {S : γ → α → Wd → Prop} {P : (Nat → Nat) → Nat → Wd → Wd → Prop}
theorem FLA_off {uA : Wd} (h : OFF (fun k j => k = 4 ∧ (j = 9 ∨ j = 10)) uA wA) : FLA uA = FLA wA := by
  unfold FLA
  rw [(h 3 6 (by omega)).1, (h 3 7 (by omega)).1]
/-- a TOKEN that must be there, with faults that the reference has yet to note -/
theorem J.needP (hT : TOKS kd wr nm vv m z gA gM) {q0 : Int32 × Int32} (hS : STBJ stk prs obl P) (hst : STJ kd wr nm vv m z gA gM lv sl us stk prs C TK SL t d b fa wA wM) (hP : lv = true → P C t wA wM) {c : Nat} (hc : 2 ≤ c ∧ c ≤ 50) (hd : lv = true → d ≤ 40) (hb : 2800 ≤ b) (hs1 : sl ≤ 1) {KA : Wd → Option γ} {KM : Int32 → Wd → Option (Option α × Wd)} {x : Int32} (hx : x = Int32.ofNat (kM c))
    (H : ∀ lv' t' fa' uA uM, STJ kd wr nm vv m z gA gM lv' 0 us stk prs C TK SL t' d b fa' uA uM → FLA uA = FLA wA → (lv' = true → lv = true ∧ kd t = c ∧ t' = t + 1 ∧ t + 1 ≤ m ∧ P C t' uA uM) → (lv' = false → t' = z - 1) → GLJ kd wr nm z gA gM wd lv' stkF fa' B (KA (fl q0 uA)) (KM (Int32.ofNat t) uM) S) :
    GLJ kd wr nm z gA gM wd lv stkF fa B (lt (fX9_need (Int32.ofNat c) (fl q0 wA)) KA) (be (fX12_expect x wM) KM) S := by
  obtain ⟨n1, n2, n3⟩ := a_need hst.in1.1 (k := c) hc.2 (by omega)
  rw [ltq, fl_need]
  have hF := FLA_off n3
  have hin := hst.in1
  rcases hst with ⟨h1, h2, h3⟩ | ⟨h1, h2, h3⟩
  · subst h1
    subst h2
    have hsm := h3.2.1
    have hd0 := hd rfl
    by_cases q : kd t = c
    · obtain ⟨a1, a2, a3⟩ := JL.tok (obl := obl) hT h3 (by omega) hs1 (hin.tok n3 (n1 q)) n3 rfl
      rw [m_expect hsm hd0 hx hc.1 q, be_so]
      exact H true (t + 1) (-1) _ _ (Or.inl ⟨rfl, rfl, a1⟩) hF (fun _ => ⟨rfl, q, rfl, a3, hS _ _ _ _ _ _ _ _ (hP rfl) a2⟩) (fun h => absurd h (by decide))
    · have hn2 := n2 q
      rw [FA_1] at hn2
      have hD := h3.dead hb (hin.tok n3 hn2) (hT.1 t) n3
      obtain ⟨g, g1, g2⟩ := (H false (z - 1) _ _ wM (Or.inr ⟨rfl, rfl, hD⟩) hF (fun h => absurd h (by decide)) (fun _ => rfl)).1 rfl
      rw [m_expect_no hsm hx hc.2 (Or.inr q) hc.1, be_no]
      refine ⟨fun h => absurd h (by decide), fun _ => Or.inl ⟨t, g, _, g1, g2, rfl, gi_si0 _ _ _ _, h3.2.2.2.1.pmm (OFF.si ⟨rfl, by omega⟩)⟩⟩
  · subst h1
    have hk0 : kd t = 0 := by rw [h2]; exact h3.1.zk
    have hn2 := n2 (by omega)
    have hfa : FA wr fa t = fa := if_pos h3.2.1
    rw [hfa] at hn2
    have hD : DI kd wr nm z gA stk fa b (fX9_need (Int32.ofNat c) wA) := by
      obtain ⟨a, c', e, TK', SL', ns, nsc, f, g⟩ := h3
      exact ⟨a.tok n3 hn2, c', OFF.tr (n3.mono (fun k j hp => Or.inr (Or.inl hp))) e, TK', SL', ns, nsc, f.agr (fun k j hk => (n3 k j (by unfold PSC at hk; omega)).1), g⟩
    exact ⟨fun _ => (H false (z - 1) fa _ wM (Or.inr ⟨rfl, rfl, hD⟩) hF (fun h => absurd h (by decide)) (fun _ => rfl)).1 rfl, fun h => absurd h (by decide)⟩
/-- a TOKEN that may be there, so -/
theorem J.takeP (hT : TOKS kd wr nm vv m z gA gM) {q0 : Int32 × Int32} (hS : STBJ stk prs obl P) (hst : STJ kd wr nm vv m z gA gM lv sl us stk prs C TK SL t d b fa wA wM) (hP : lv = true → P C t wA wM) {c : Nat} (hc : 2 ≤ c ∧ c ≤ 50) (hd : lv = true → d ≤ 40) (hs1 : sl ≤ 1) {KA : Bool → Wd → Option γ} {KM : Bool → Wd → Option (Option α × Wd)} {x : Int32} (hx : x = Int32.ofNat (kM c))
    (H1 : kd t = c → ∀ uA uM, STJ kd wr nm vv m z gA gM lv 0 us stk prs C TK SL (t + 1) d b fa uA uM → FLA uA = FLA wA → (lv = true → t + 1 ≤ m ∧ P C (t + 1) uA uM) → GLJ kd wr nm z gA gM wd lv stkF fa B (KA true (fl q0 uA)) (KM true uM) S)
    (H2 : kd t ≠ c → GLJ kd wr nm z gA gM wd lv stkF fa B (KA false (fl q0 wA)) (KM false wM) S) :
    GLJ kd wr nm z gA gM wd lv stkF fa B (lt2 (fX9_take (Int32.ofNat c) (fl q0 wA)) KA) (be (fX12_skip x wM) KM) S := by
  rw [fl_take, lt2q]
  by_cases q : kd t = c
  · obtain ⟨h1, h2, h3⟩ := hst.live (by omega)
    obtain ⟨e1, e2⟩ := a_take (k := Int32.ofNat c) hst.in1.1 (by omega) (by rw [q])
    have hO : OFF (fun k j => k = 4 ∧ (j = 9 ∨ j = 10)) (si wA 4 9 (Int32.ofNat (t + 1))) wA := OFF.si ⟨rfl, Or.inl rfl⟩
    have hin := hst.in1.tok hO e2
    subst h1
    subst h2
    obtain ⟨a1, a2, a3⟩ := JL.tok (obl := obl) hT h3 (by omega) hs1 hin hO rfl
    rw [e1, m_skip h3.2.1 (hd rfl) hx hc.1 q, be_so]
    exact H1 q _ _ (Or.inl ⟨rfl, rfl, a1⟩) (FLA_off hO) (fun _ => ⟨a3, hS _ _ _ _ _ _ _ _ (hP rfl) a2⟩)
  · rw [a_take_no hst.in1.1 hc.2 q]
    have h2 := H2 q
    cases lv
    · exact ⟨fun _ => h2.1 rfl, fun h => absurd h (by decide)⟩
    · rcases hst with ⟨_, _, h3⟩ | ⟨h1, _⟩
      · rw [m_skip_no h3.2.1 hx hc.2 q, be_so]
        exact h2
      · exact absurd h1 (by decide)
end JT
