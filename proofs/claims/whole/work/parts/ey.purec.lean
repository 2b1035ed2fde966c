/-! PASS 2, pure: operands of a level's events, how many wait, how many words they make -/
section QD
variable {kd wr : Nat → Nat} {pr : Nat → Nat → Sum Nat Nat}
/-- TOKENS of operands -/
def opT : List EV → List Nat
  | [] => []
  | (0, t, _) :: r => t :: opT r
  | _ :: r => opT r
theorem opT_app : ∀ (a b : List EV), opT (a ++ b) = opT a ++ opT b := by
  intro a
  induction a with
  | nil => exact fun _ => rfl
  | cons x r ih =>
    intro b
    obtain ⟨m, k, tk⟩ := x
    match m with
    | 0 =>
      show k :: opT (r ++ b) = k :: opT r ++ opT b
      rw [ih]
      rfl
    | m + 1 => exact ih b
/-- h: so many operands wait at most -/
def QD (wr : Nat → Nat) (pr : Nat → Nat → Sum Nat Nat) (m : Nat) (t e : Nat) (evs : List EV) (h : Nat) : Prop := t < e ∧
  (∀ (z ob : Nat) (pT : Nat → Nat → Int32) (S : List (Int32 × Nat)), e ≤ z → ob + S.length + h < 512 → evOK z ob pT evs S ∧ ∃ x, evStk pT evs S = x :: S) ∧
  (∀ pB : Nat → Nat → Nat, e ≤ m → (∀ d t e, e ≤ m → pr d t = .inr e → pB t d + 1 ≤ 4 * (wr e - wr t)) → evB pB evs + 1 ≤ 4 * (wr e - wr t)) ∧
  (opT evs).Nodup ∧ ∀ x ∈ opT evs, t ≤ x ∧ x < e
theorem evOK_le {z ob : Nat} {pT : Nat → Nat → Int32} {x : EV} {S : List (Int32 × Nat)} (h : evOK z ob pT [x] S) : evOK z ob pT [x] S := h
theorem QD.wk {m t e h h' : Nat} {evs : List EV} (q : QD wr pr m t e evs h) (hh : h ≤ h') : QD wr pr m t e evs h' := by
  obtain ⟨h1, h2, h3, h4, h5⟩ := q
  exact ⟨h1, fun z ob pT S hz ho => h2 z ob pT S hz (by omega), h3, h4, h5⟩
theorem QD.two {m t0 t e h1 h2 k : Nat} {a b : List EV} (hW : ∀ i, i < m → wr i + 1 ≤ wr (i + 1)) (p : QD wr pr m t0 t a h1) (q : QD wr pr m (t + 1) e b h2) : QD wr pr m t0 e (a ++ b ++ [(2, k, t)]) (max h1 (h2 + 1)) := by
  obtain ⟨p1, p2, p3, p4, p5⟩ := p
  obtain ⟨q1, q2, q3, q4, q5⟩ := q
  refine ⟨by omega, fun z ob pT S hz ho => ?_, fun pB he hB => ?_, ?_, fun x hx => ?_⟩
  · obtain ⟨a1, x, a2⟩ := p2 z ob pT S (by omega) (by omega)
    obtain ⟨b1, y, b2⟩ := q2 z ob pT (x :: S) hz (by show ob + (S.length + 1) + h2 < 512; omega)
    refine ⟨(evOK_app _ _ S).mpr ⟨(evOK_app _ _ S).mpr ⟨a1, by rw [a2]; exact b1⟩, ?_⟩, ?_⟩
    · rw [evStk_app, a2, b2]
      exact ⟨by show 2 ≤ S.length + 1 + 1; omega, trivial⟩
    · rw [evStk_app, evStk_app, a2, b2]
      exact ⟨_, rfl⟩
  · have hp := p3 pB (by omega) hB
    have hq := q3 pB he hB
    have m1 := hW t (by omega)
    have m2 := wr_mo hW t p1 (by omega)
    have m3 := wr_mo hW e q1 he
    rw [evB_app, evB_app]
    show evB pB a + evB pB b + (1 + 0) + 1 ≤ _
    omega
  · rw [opT_app, opT_app]
    show (opT a ++ opT b ++ []).Nodup
    rw [List.append_nil]
    refine List.nodup_append.mpr ⟨p4, q4, fun x hx y hy => ?_⟩
    have := p5 x hx
    have := q5 y hy
    omega
  · rw [opT_app, opT_app] at hx
    rcases List.mem_append.mp hx with hx | hx
    · rcases List.mem_append.mp hx with hx | hx
      · have := p5 x hx; omega
      · have := q5 x hx; omega
    · exact absurd (show x ∈ ([] : List Nat) from hx) (by simp)
theorem QD.one {m t e h k : Nat} {a : List EV} (hW : ∀ i, i < m → wr i + 1 ≤ wr (i + 1)) (p : QD wr pr m (t + 1) e a h) : QD wr pr m t e (a ++ [(1, k, t)]) h := by
  obtain ⟨p1, p2, p3, p4, p5⟩ := p
  refine ⟨by omega, fun z ob pT S hz ho => ?_, fun pB he hB => ?_, ?_, fun x hx => ?_⟩
  · obtain ⟨a1, x, a2⟩ := p2 z ob pT S hz ho
    refine ⟨(evOK_app _ _ S).mpr ⟨a1, ?_⟩, ?_⟩
    · rw [a2]
      exact ⟨⟨by show 1 ≤ S.length + 1; omega, by omega⟩, trivial⟩
    · rw [evStk_app, a2]
      exact ⟨_, rfl⟩
  · have hp := p3 pB he hB
    have m1 := hW t (by omega)
    have m3 := wr_mo hW e p1 he
    rw [evB_app]
    show evB pB a + (1 + 0) + 1 ≤ _
    omega
  · rw [opT_app]
    show (opT a ++ []).Nodup
    rw [List.append_nil]
    exact p4
  · rw [opT_app] at hx
    rcases List.mem_append.mp hx with hx | hx
    · have := p5 x hx; omega
    · exact absurd (show x ∈ ([] : List Nat) from hx) (by simp)
theorem lpR_qd {m : Nat} (hW : ∀ i, i < m → wr i + 1 ≤ wr (i + 1)) {f : Nat → RS} {l B Bf : Nat} (hB : B + 1 ≤ Bf) (hf : ∀ t r, f t = .inr r → QD wr pr m t r.1 r.2 B) {t0 : Nat} : ∀ (n t : Nat) (ev : List EV) (r : Nat × List EV), QD wr pr m t0 t ev Bf → lpR kd f l n t ev = .inr r → QD wr pr m t0 r.1 r.2 Bf := by
  intro n
  induction n with
  | zero => intro t ev r hq h; injection h with h; rw [← h]; exact hq
  | succ n ih =>
    intro t ev r hq h
    unfold lpR at h
    by_cases q : stb (kd t) = l
    · rw [if_pos q] at h
      rcases hx : f (t + 1) with p | r2
      · rw [hx] at h; exact nomatch h
      · rw [hx] at h
        have h1 := hf _ _ hx
        have hq2 : QD wr pr m t0 r2.1 (ev ++ r2.2 ++ [(2, kd t, t)]) Bf := (hq.two hW h1).wk (by omega)
        dsimp only at h
        by_cases q6 : l = 6
        · rw [if_pos q6] at h
          injection h with h
          rw [← h]
          exact hq2
        · rw [if_neg q6] at h
          exact ih _ _ _ hq2 h
    · rw [if_neg q] at h
      injection h with h
      rw [← h]
      exact hq
theorem rdN_qd {m : Nat} (hW : ∀ i, i < m → wr i + 1 ≤ wr (i + 1)) {f : Nat → Nat → RS} {c : Nat} (hf : ∀ d t r, f d t = .inr r → QD wr pr m t r.1 r.2 c) : ∀ (q d t : Nat) (r : Nat × List EV), rdN kd f q d t = .inr r → QD wr pr m t r.1 r.2 c := by
  intro q
  induction q with
  | zero => exact fun d t r h => hf d t r h
  | succ q ih =>
    intro d t r h
    unfold rdN at h
    by_cases q : kd t = 29
    · rw [if_pos q] at h
      by_cases q2 : 40 ≤ d
      · rw [if_pos q2] at h; exact nomatch h
      · rw [if_neg q2] at h
        rcases hx : rdN kd f _ (d + 1) (t + 1) with p | r2
        · rw [hx] at h; exact nomatch h
        · rw [hx] at h
          have h1 := ih _ _ _ hx
          injection h with h
          rw [← h]
          exact h1.one (k := 29) hW
    · rw [if_neg q] at h
      exact hf _ _ _ h
theorem rd_qd {m : Nat} (hW : ∀ i, i < m → wr i + 1 ≤ wr (i + 1)) (hp : ∀ d t e, pr d t = .inr e → t < e) : ∀ (j d t : Nat) (r : Nat × List EV), rd kd pr j d t = .inr r → QD wr pr m t r.1 r.2 (1 + gl5 j) := by
  intro j
  induction j with
  | zero =>
    intro d t r h
    unfold rd at h
    rcases hx : pr d t with p | e
    · rw [hx] at h; exact nomatch h
    · rw [hx] at h
      injection h with h
      rw [← h]
      have hlt := hp _ _ _ hx
      refine ⟨hlt, fun z ob pT S hz ho => ⟨⟨⟨by omega, by have h1 : gl5 0 = 0 := rfl; omega⟩, trivial⟩, _, rfl⟩, fun pB he hB => ?_, by show [t].Nodup; simp, fun x hx => ?_⟩
      · have := hB d t e he hx
        show pB t d + 0 + 1 ≤ _
        omega
      · rw [List.mem_singleton.mp (show x ∈ [t] from hx)]
        exact ⟨Nat.le_refl _, hlt⟩
  | succ j ih =>
    intro d t r h
    unfold rd at h
    by_cases q : j = 4
    · rw [if_pos q] at h
      exact (rdN_qd hW (c := 1 + gl5 j) (fun d t r h => ih d t r h) _ _ _ _ h).wk (by rw [q]; exact Nat.le_refl _)
    · rw [if_neg q] at h
      by_cases q2 : j = 2 ∧ (kd t = 33 ∨ kd t = 34)
      · rw [if_pos q2] at h
        rcases hx : rd kd pr j d (t + 1) with p | r2
        · rw [hx] at h; exact nomatch h
        · rw [hx] at h
          exact lpR_qd hW (B := 1 + gl5 j) (by have := gl5_s q; omega) (fun t r h => ih d t r h) _ _ _ _ (((ih _ _ _ hx).one hW).wk (by have := gl5_s q; omega)) h
      · rw [if_neg q2] at h
        rcases hx : rd kd pr j d t with p | r2
        · rw [hx] at h; exact nomatch h
        · rw [hx] at h
          exact lpR_qd hW (B := 1 + gl5 j) (by have := gl5_s q; omega) (fun t r h => ih d t r h) _ _ _ _ ((ih _ _ _ hx).wk (by have := gl5_s q; omega)) h
/-- the events at the end begin with those so far -/
theorem redS_pre {g : Nat} {S : List EV} : ∀ ev : List EV, ∃ q, (redS g S ev).2 = ev ++ q := by
  induction S with
  | nil => exact fun ev => ⟨[], (List.append_nil _).symm⟩
  | cons s S ih =>
    intro ev
    by_cases q : g ≤ stg s.2.1
    · obtain ⟨q1, h1⟩ := ih (ev ++ [s])
      refine ⟨s :: q1, ?_⟩
      show (if g ≤ stg s.2.1 then redS g S (ev ++ [s]) else (s :: S, ev)).2 = _
      rw [if_pos q, h1, List.append_assoc]
      rfl
    · refine ⟨[], ?_⟩
      show (if g ≤ stg s.2.1 then redS g S (ev ++ [s]) else (s :: S, ev)).2 = _
      rw [if_neg q, List.append_nil]
theorem opX_pre {d0 : Nat} : ∀ (n : Nat) (b : Bool) (S : List EV) (t : Nat) (ev : List EV) (r : Nat × List EV), opX kd pr d0 n b S t ev = .inr r → ∃ q, r.2 = ev ++ q := by
  intro n
  induction n with
  | zero =>
    intro b S t ev r h
    cases b
    · injection h with h
      rw [← h]
      exact ⟨S, rfl⟩
    · exact nomatch h
  | succ n ih =>
    intro b S t ev r h
    cases b
    · have h' : (if stb (kd t) = 0 ∨ stb (kd t) = topS (redS (if stb (kd t) = 6 then 7 else stb (kd t)) S ev).1 then .inr (t, ev ++ S)
        else opX kd pr d0 n true ((2, kd t, t) :: (redS (if stb (kd t) = 6 then 7 else stb (kd t)) S ev).1) (t + 1) (redS (if stb (kd t) = 6 then 7 else stb (kd t)) S ev).2 : RS) = .inr r := h
      by_cases q : stb (kd t) = 0 ∨ stb (kd t) = topS (redS (if stb (kd t) = 6 then 7 else stb (kd t)) S ev).1
      · rw [if_pos q] at h'
        injection h' with h'
        rw [← h']
        exact ⟨S, rfl⟩
      · rw [if_neg q] at h'
        obtain ⟨q1, g1⟩ := ih _ _ _ _ _ h'
        obtain ⟨q2, g2⟩ := redS_pre (g := if stb (kd t) = 6 then 7 else stb (kd t)) (S := S) ev
        exact ⟨q2 ++ q1, by rw [g1, g2, List.append_assoc]⟩
    · have h' : (if kd t = 29 ∧ topS S ≤ 5 then (if 40 ≤ d0 + notS S then .inl (t + 1) else opX kd pr d0 n true ((1, 29, t) :: S) (t + 1) ev)
        else if (kd t = 33 ∨ kd t = 34) ∧ topS S ≤ 6 then opX kd pr d0 n true ((1, kd t, t) :: S) (t + 1) ev
        else (match pr (d0 + notS S) t with
          | .inl p => .inl p
          | .inr e => opX kd pr d0 n false S e (ev ++ [(0, t, d0 + notS S)])) : RS) = .inr r := h
      by_cases q1 : kd t = 29 ∧ topS S ≤ 5
      · rw [if_pos q1] at h'
        by_cases q2 : 40 ≤ d0 + notS S
        · rw [if_pos q2] at h'; exact nomatch h'
        · rw [if_neg q2] at h'
          exact ih _ _ _ _ _ h'
      · rw [if_neg q1] at h'
        by_cases q2 : (kd t = 33 ∨ kd t = 34) ∧ topS S ≤ 6
        · rw [if_pos q2] at h'
          exact ih _ _ _ _ _ h'
        · rw [if_neg q2] at h'
          rcases hx : pr (d0 + notS S) t with p | e
          · rw [hx] at h'; exact nomatch h'
          · rw [hx] at h'
            obtain ⟨q3, g1⟩ := ih _ _ _ _ _ h'
            exact ⟨[(0, t, d0 + notS S)] ++ q3, by rw [g1, List.append_assoc]⟩
end QD
