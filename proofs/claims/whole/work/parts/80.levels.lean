/-! PURE: levels (how the reference goes down) against strengths (how the class holds signs). E: (0, token, DEPTH) an operand, (1, kind, token) a sign for one, (2, kind, token) a sign for two -/
abbrev EV : Type := Nat × Nat × Nat
abbrev RS : Type := Sum Nat (Nat × List EV)
def stg (k : Nat) : Nat := if k = 28 then 1 else if k = 27 then 2 else if k = 26 then 3 else if k = 25 then 4 else if k = 29 then 5 else if k = 37 ∨ k = 47 ∨ k = 38 ∨ k = 48 ∨ k = 39 ∨ k = 49 then 6 else if k = 33 ∨ k = 34 then 7 else if k = 35 ∨ k = 30 ∨ k = 31 then 8 else if k = 36 then 9 else 0
def stb (k : Nat) : Nat := if k = 29 then 0 else stg k
theorem stg_le (k : Nat) : stg k ≤ 9 := by
  unfold stg
  repeat' split
  all_goals omega
theorem stb_le (k : Nat) : stb k ≤ 9 := by
  unfold stb
  split
  · omega
  · exact stg_le k
theorem stb_stg {k l : Nat} (h : stb k = l) (hl : l ≠ 0) : stg k = l ∧ k ≠ 29 := by
  unfold stb at h
  split at h
  · omega
  · exact ⟨h, by assumption⟩
theorem stg_five {k : Nat} (h : stg k = 5) : k = 29 := by
  unfold stg at h
  repeat' split at h
  all_goals omega
theorem stg_29 : stg 29 = 5 := by decide
theorem stg_33 : stg 33 = 7 := by decide
theorem stg_34 : stg 34 = 7 := by decide
def topS (S : List EV) : Nat := match S with
  | [] => 0
  | s :: _ => stg s.2.1
def redS (g : Nat) : List EV → List EV → List EV × List EV
  | [], ev => ([], ev)
  | s :: S, ev => if g ≤ stg s.2.1 then redS g S (ev ++ [s]) else (s :: S, ev)
def notS : List EV → Nat
  | [] => 0
  | s :: S => notS S + (if s.2.1 = 29 then 1 else 0)
theorem redS_all {g : Nat} {S' S : List EV} (h : ∀ s ∈ S', g ≤ stg s.2.1) (hg : topS S < g ∨ S = []) : ∀ ev : List EV, redS g (S' ++ S) ev = (S, ev ++ S') := by
  induction S' with
  | nil =>
    intro ev
    cases S with
    | nil => simp [redS]
    | cons s S =>
      have hlt : stg s.2.1 < g := by
        rcases hg with q | q
        · exact q
        · exact absurd q (by simp)
      show (if g ≤ stg s.2.1 then _ else _) = _
      rw [if_neg (by omega)]
      simp
  | cons s S' ih =>
    intro ev
    show (if g ≤ stg s.2.1 then redS g (S' ++ S) (ev ++ [s]) else _) = _
    rw [if_pos (h s (List.mem_cons_self ..)), ih (fun x hx => h x (List.mem_cons_of_mem _ hx))]
    simp
theorem redS_more {g : Nat} {S X : List EV} {a : EV} {b : List EV} : ∀ {ev ev1 : List EV}, redS g S ev = (a :: b, ev1) → redS g (S ++ X) ev = (a :: b ++ X, ev1) := by
  induction S with
  | nil => intro ev ev1 h; exact absurd (congrArg Prod.fst h) (by simp [redS])
  | cons s S ih =>
    intro ev ev1 h
    have h' : (if g ≤ stg s.2.1 then redS g S (ev ++ [s]) else (s :: S, ev)) = (a :: b, ev1) := h
    show (if g ≤ stg s.2.1 then redS g (S ++ X) (ev ++ [s]) else (s :: S ++ X, ev)) = _
    by_cases q : g ≤ stg s.2.1
    · rw [if_pos q] at h' ⊢
      exact ih h'
    · rw [if_neg q] at h' ⊢
      cases h'
      rfl
theorem redS_sum {g : Nat} {S : List EV} : ∀ ev : List EV, (redS g S ev).2 ++ (redS g S ev).1 = ev ++ S := by
  induction S with
  | nil => intro ev; simp [redS]
  | cons s S ih =>
    intro ev
    show (if g ≤ stg s.2.1 then redS g S (ev ++ [s]) else (s :: S, ev)).2 ++ (if g ≤ stg s.2.1 then redS g S (ev ++ [s]) else (s :: S, ev)).1 = _
    by_cases q : g ≤ stg s.2.1
    · rw [if_pos q, ih]; simp
    · rw [if_neg q]
theorem redS_fst {g : Nat} {S : List EV} : ∀ ev ev' : List EV, (redS g S ev).1 = (redS g S ev').1 := by
  induction S with
  | nil => intro ev ev'; rfl
  | cons s S ih =>
    intro ev ev'
    show (if g ≤ stg s.2.1 then redS g S (ev ++ [s]) else (s :: S, ev)).1 = (if g ≤ stg s.2.1 then redS g S (ev' ++ [s]) else (s :: S, ev')).1
    by_cases q : g ≤ stg s.2.1
    · rw [if_pos q, if_pos q]; exact ih _ _
    · rw [if_neg q, if_neg q]
section LV
variable (kd : Nat → Nat) (pr : Nat → Nat → Sum Nat Nat)
def lpR (f : Nat → RS) (l : Nat) : Nat → Nat → List EV → RS
  | 0, t, ev => .inr (t, ev)
  | n + 1, t, ev => if stb (kd t) = l then (match f (t + 1) with
    | .inl p => .inl p
    | .inr r => if l = 6 then .inr (r.1, ev ++ r.2 ++ [(2, kd t, t)]) else lpR f l n r.1 (ev ++ r.2 ++ [(2, kd t, t)])) else .inr (t, ev)
/-- nots, one after the other -/
def rdN (f : Nat → Nat → RS) : Nat → Nat → Nat → RS
  | 0, d, t => f d t
  | m + 1, d, t => if kd t = 29 then (if 40 ≤ d then .inl (t + 1) else (match rdN f m (d + 1) (t + 1) with
    | .inl p => .inl p
    | .inr r => .inr (r.1, r.2 ++ [(1, 29, t)]))) else f d t
/-- level 10 - j from token t on, at DEPTH d -/
def rd : Nat → Nat → Nat → RS
  | 0, d, t => match pr d t with
    | .inl p => .inl p
    | .inr e => .inr (e, [(0, t, d)])
  | j + 1, d, t => if j = 4 then rdN kd (rd j) 42 d t
    else if j = 2 ∧ (kd t = 33 ∨ kd t = 34) then (match rd j d (t + 1) with
      | .inl p => .inl p
      | .inr r => lpR kd (rd j d) (9 - j) (9000 - r.1) r.1 (r.2 ++ [(1, kd t, t)]))
    else (match rd j d t with
      | .inl p => .inl p
      | .inr r => lpR kd (rd j d) (9 - j) (9000 - r.1) r.1 r.2)
variable (d0 : Nat)
/-- the class: A true: an operand is to come, signs S wait -/
def opX : Nat → Bool → List EV → Nat → List EV → RS
  | 0, true, _, t, _ => .inl t
  | 0, false, S, t, ev => .inr (t, ev ++ S)
  | n + 1, true, S, t, ev => if kd t = 29 ∧ topS S ≤ 5 then (if 40 ≤ d0 + notS S then .inl (t + 1) else opX n true ((1, 29, t) :: S) (t + 1) ev)
    else if (kd t = 33 ∨ kd t = 34) ∧ topS S ≤ 6 then opX n true ((1, kd t, t) :: S) (t + 1) ev
    else (match pr (d0 + notS S) t with
      | .inl p => .inl p
      | .inr e => opX n false S e (ev ++ [(0, t, d0 + notS S)]))
  | n + 1, false, S, t, ev => if stb (kd t) = 0 ∨ stb (kd t) = topS (redS (if stb (kd t) = 6 then 7 else stb (kd t)) S ev).1 then .inr (t, ev ++ S)
    else opX n true ((2, kd t, t) :: (redS (if stb (kd t) = 6 then 7 else stb (kd t)) S ev).1) (t + 1) (redS (if stb (kd t) = 6 then 7 else stb (kd t)) S ev).2
end LV
section LVT
variable {kd : Nat → Nat} {pr : Nat → Nat → Sum Nat Nat} {d0 : Nat}
theorem lpR_lt {f : Nat → RS} {l : Nat} (hf : ∀ t r, f t = .inr r → t < r.1) : ∀ (n t : Nat) (ev : List EV) (r : Nat × List EV), lpR kd f l n t ev = .inr r → t ≤ r.1 := by
  intro n
  induction n with
  | zero => intro t ev r h; injection h with h; rw [← h]; exact Nat.le_refl _
  | succ n ih =>
    intro t ev r h
    unfold lpR at h
    by_cases q : stb (kd t) = l
    · rw [if_pos q] at h
      revert h
      rcases hx : f (t + 1) with p | r2
      · exact fun h => nomatch h
      · intro h
        have h1 := hf _ _ hx
        dsimp only at h
        by_cases q6 : l = 6
        · rw [if_pos q6] at h
          injection h with h
          rw [← h]
          show t ≤ r2.1
          omega
        · rw [if_neg q6] at h
          have := ih _ _ _ h
          omega
    · rw [if_neg q] at h
      injection h with h
      rw [← h]
      exact Nat.le_refl _
theorem rdN_lt {f : Nat → Nat → RS} (hf : ∀ d t r, f d t = .inr r → t < r.1) : ∀ (m d t : Nat) (r : Nat × List EV), rdN kd f m d t = .inr r → t < r.1 := by
  intro m
  induction m with
  | zero => exact fun d t r h => hf d t r h
  | succ m ih =>
    intro d t r h
    unfold rdN at h
    by_cases q : kd t = 29
    · rw [if_pos q] at h
      by_cases q2 : 40 ≤ d
      · rw [if_pos q2] at h; exact nomatch h
      · rw [if_neg q2] at h
        revert h
        rcases hx : rdN kd f m (d + 1) (t + 1) with p | r2
        · exact fun h => nomatch h
        · intro h
          have h1 := ih _ _ _ hx
          injection h with h
          rw [← h]
          show t < r2.1
          omega
    · rw [if_neg q] at h
      exact hf _ _ _ h
theorem rd_lt (hp : ∀ d t e, pr d t = .inr e → t < e) : ∀ (j d t : Nat) (r : Nat × List EV), rd kd pr j d t = .inr r → t < r.1 := by
  intro j
  induction j with
  | zero =>
    intro d t r h
    unfold rd at h
    revert h
    rcases hx : pr d t with p | e
    · exact fun h => nomatch h
    · intro h
      injection h with h
      rw [← h]
      exact hp _ _ _ hx
  | succ j ih =>
    intro d t r h
    unfold rd at h
    by_cases q : j = 4
    · rw [if_pos q] at h
      exact rdN_lt ih _ _ _ _ h
    · rw [if_neg q] at h
      by_cases q2 : j = 2 ∧ (kd t = 33 ∨ kd t = 34)
      · rw [if_pos q2] at h
        revert h
        rcases hx : rd kd pr j d (t + 1) with p | r2
        · exact fun h => nomatch h
        · intro h
          have h1 := ih _ _ _ hx
          have h2 := lpR_lt (fun t r => ih d t r) _ _ _ _ h
          omega
      · rw [if_neg q2] at h
        revert h
        rcases hx : rd kd pr j d t with p | r2
        · exact fun h => nomatch h
        · intro h
          have h1 := ih _ _ _ hx
          have h2 := lpR_lt (fun t r => ih d t r) _ _ _ _ h
          omega
/-- a level may begin where the signs S wait -/
def okLv (kd : Nat → Nat) (l : Nat) (S : List EV) (t : Nat) : Prop := (topS S < l ∨ l = 5 ∧ topS S = 5) ∧ (5 < l → kd t = 29 → 5 < topS S) ∧ (7 < l → (kd t = 33 ∨ kd t = 34) → 6 < topS S)
/-- why it ends -/
def endS (kd : Nat → Nat) (l : Nat) (S : List EV) (e : Nat) : Prop := stb (kd e) = 0 ∨ stb (kd e) < l ∨ (stb (kd e) = 6 ∧ topS (redS 7 S []).1 = 6)
theorem endS_more {l e : Nat} {S X : List EV} (h : endS kd l S e) : endS kd l (S ++ X) e := by
  rcases h with h | h | ⟨h1, h2⟩
  · exact Or.inl h
  · exact Or.inr (Or.inl h)
  · refine Or.inr (Or.inr ⟨h1, ?_⟩)
    rcases hx : redS 7 S [] with ⟨A, B⟩
    rw [hx] at h2
    cases A with
    | nil => exact absurd h2 (by simp [topS])
    | cons a b =>
      rw [redS_more hx]
      exact h2
/-- what a level of the one is to the other -/
def LVP (kd : Nat → Nat) (pr : Nat → Nat → Sum Nat Nat) (d0 l : Nat) (f : Nat → Nat → RS) : Prop := ∀ (n : Nat) (S : List EV) (t : Nat) (evs : List EV), 9000 ≤ t + n → d0 + notS S ≤ 40 → okLv kd l S t →
  (∀ p, f (d0 + notS S) t = .inl p → opX kd pr d0 n true S t evs = .inl p) ∧ ∀ r, f (d0 + notS S) t = .inr r → ∃ n' S' ev', 9000 ≤ r.1 + n' ∧ ev' ++ S' = r.2 ∧ (∀ s ∈ S', l ≤ stg s.2.1) ∧ endS kd l S' r.1 ∧ opX kd pr d0 n true S t evs = opX kd pr d0 n' false (S' ++ S) r.1 (evs ++ ev')
theorem opX_operand {n t : Nat} {S evs : List EV} (h1 : kd t = 29 → 5 < topS S) (h2 : (kd t = 33 ∨ kd t = 34) → 6 < topS S) : opX kd pr d0 (n + 1) true S t evs = (match pr (d0 + notS S) t with
      | .inl p => .inl p
      | .inr e => opX kd pr d0 n false S e (evs ++ [(0, t, d0 + notS S)])) := by
  rw [opX, if_neg (fun q => absurd (h1 q.1) (by have := q.2; omega)), if_neg (fun q => absurd (h2 q.1) (by have := q.2; omega))]
theorem lv_0 (hk : ∀ t, 9000 ≤ t → kd t = 0) (hp : ∀ d t e, pr d t = .inr e → t < e) (hz : ∀ d t, 9000 ≤ t → pr d t = .inl t) : LVP kd pr d0 10 (rd kd pr 0) := by
  intro n S t evs hn hd hok
  cases n with
  | zero =>
    have h9 := hz (d0 + notS S) t (by omega)
    unfold rd
    rw [h9]
    exact ⟨fun p h => by injection h with h; rw [← h]; rfl, (fun r h => nomatch h)⟩
  | succ n =>
    rw [opX_operand (hok.2.1 (by omega)) (hok.2.2 (by omega))]
    unfold rd
    rcases hx : pr (d0 + notS S) t with p | e
    · exact ⟨fun p' h => h, (fun r h => nomatch h)⟩
    · refine ⟨(fun p h => nomatch h), fun r h => ?_⟩
      injection h with h
      subst h
      have := hp _ _ _ hx
      exact ⟨n, [], [(0, t, d0 + notS S)], by show 9000 ≤ e + n; omega, rfl, by simp, Or.inr (Or.inl (Nat.lt_of_le_of_lt (stb_le _) (by omega))), rfl⟩
/-- the loop of a level -/
theorem lv_loop {l : Nat} {f : Nat → Nat → RS} {S evs : List EV} (hl : 1 ≤ l ∧ l ≤ 9 ∧ l ≠ 5) (hk : ∀ t, 9000 ≤ t → kd t = 0) (hf : ∀ d t r, f d t = .inr r → t < r.1) (ih : LVP kd pr d0 (l + 1) f) (hS : topS S < l) (hd : d0 + notS S ≤ 40) : ∀ (m n' e : Nat) (S' ev' : List EV), 9000 ≤ e + m → 9000 ≤ e + n' → (∀ s ∈ S', (if l = 6 then 7 else l) ≤ stg s.2.1) → endS kd (l + 1) S' e →
    (∀ p, lpR kd (f (d0 + notS S)) l m e (ev' ++ S') = .inl p → opX kd pr d0 n' false (S' ++ S) e (evs ++ ev') = .inl p) ∧ ∀ r, lpR kd (f (d0 + notS S)) l m e (ev' ++ S') = .inr r → ∃ n2 S2 ev2, 9000 ≤ r.1 + n2 ∧ ev2 ++ S2 = r.2 ∧ (∀ s ∈ S2, l ≤ stg s.2.1) ∧ endS kd l S2 r.1 ∧ opX kd pr d0 n' false (S' ++ S) e (evs ++ ev') = opX kd pr d0 n2 false (S2 ++ S) r.1 (evs ++ ev2) := by
  have hlow : ∀ {S' : List EV}, (∀ s ∈ S', (if l = 6 then 7 else l) ≤ stg s.2.1) → ∀ s ∈ S', l ≤ stg s.2.1 := fun h s hs => by
    have := h s hs
    split at this <;> omega
  intro m
  induction m with
  | zero =>
    intro n' e S' ev' hm hn' hS' he
    have hk0 : stb (kd e) = 0 := by rw [hk e (by omega)]; rfl
    refine ⟨(fun p h => nomatch h), fun r h => ?_⟩
    injection h with h
    subst h
    exact ⟨n', S', ev', hn', rfl, hlow hS', Or.inl hk0, rfl⟩
  | succ m ihm =>
    intro n' e S' ev' hm hn' hS' he
    unfold lpR
    by_cases q : stb (kd e) = l
    · rw [if_pos q]
      obtain ⟨hg, h29⟩ := stb_stg q (by omega)
      cases n' with
      | zero =>
        have : stb (kd e) = 0 := by rw [hk e (by omega)]; rfl
        omega
      | succ n1 =>
        have hred : redS (if stb (kd e) = 6 then 7 else stb (kd e)) (S' ++ S) (evs ++ ev') = (S, evs ++ ev' ++ S') := by
          rw [q]
          exact redS_all hS' (Or.inl (by split <;> omega)) _
        have hop : opX kd pr d0 (n1 + 1) false (S' ++ S) e (evs ++ ev') = opX kd pr d0 n1 true ((2, kd e, e) :: S) (e + 1) (evs ++ ev' ++ S') := by
          rw [opX, hred]
          rw [if_neg (fun h => by
            rcases h with h | h
            · omega
            · have h' : stb (kd e) = topS S := h
              omega)]
        rw [hop]
        have hnot : d0 + notS ((2, kd e, e) :: S) = d0 + notS S := by
          show d0 + (notS S + (if kd e = 29 then 1 else 0)) = _
          rw [if_neg h29]
          rfl
        have hok : okLv kd (l + 1) ((2, kd e, e) :: S) (e + 1) := by
          refine ⟨Or.inl ?_, fun h5 _ => ?_, fun h7 _ => ?_⟩
          · show stg (kd e) < l + 1; omega
          · show 5 < stg (kd e); omega
          · show 6 < stg (kd e); omega
        obtain ⟨i1, i2⟩ := ih n1 ((2, kd e, e) :: S) (e + 1) (evs ++ ev' ++ S') (by omega) (by omega) hok
        rw [hnot] at i1 i2
        rcases hx : f (d0 + notS S) (e + 1) with p | r2
        · exact ⟨fun p' h => by injection h with h; rw [← h]; exact i1 p hx, (fun r h => nomatch h)⟩
        · obtain ⟨n3, S3, ev3, j1, j2, j3, j4, j5⟩ := i2 r2 hx
          rw [j5]
          have hlt := hf _ _ _ hx
          have e1 : S3 ++ (2, kd e, e) :: S = (S3 ++ [(2, kd e, e)]) ++ S := by simp
          have e2 : evs ++ ev' ++ S' ++ ev3 = evs ++ (ev' ++ S' ++ ev3) := by simp
          have e3 : ev' ++ S' ++ r2.2 ++ [(2, kd e, e)] = (ev' ++ S' ++ ev3) ++ (S3 ++ [(2, kd e, e)]) := by rw [← j2]; simp
          rw [e1, e2]
          dsimp only
          rw [e3]
          by_cases q6 : l = 6
          · rw [if_pos q6]
            refine ⟨(fun p h => nomatch h), fun r h => ?_⟩
            injection h with h
            subst h
            refine ⟨n3, _, _, j1, rfl, ?_, ?_, rfl⟩
            · intro s hs
              rcases List.mem_append.mp hs with hs | hs
              · have := j3 s hs; omega
              · rw [List.mem_singleton.mp hs]; show l ≤ stg (kd e); omega
            · rcases j4 with j4 | j4 | ⟨j4, j4'⟩
              · exact Or.inl j4
              · by_cases q7 : stb (kd r2.1) < l
                · exact Or.inr (Or.inl q7)
                · refine Or.inr (Or.inr ⟨by show stb (kd r2.1) = 6; omega, ?_⟩)
                  rw [redS_all (S' := S3) (S := [(2, kd e, e)]) (fun s hs => by have := j3 s hs; omega) (Or.inl (by show stg (kd e) < 7; omega))]
                  show stg (kd e) = 6
                  omega
              · exact endS_more (Or.inr (Or.inr ⟨j4, j4'⟩))
          · rw [if_neg q6]
            refine ihm n3 r2.1 (S3 ++ [(2, kd e, e)]) (ev' ++ S' ++ ev3) (by omega) j1 ?_ (endS_more j4)
            intro s hs
            rw [if_neg q6]
            rcases List.mem_append.mp hs with hs | hs
            · have := j3 s hs; omega
            · rw [List.mem_singleton.mp hs]; show l ≤ stg (kd e); omega
    · rw [if_neg q]
      refine ⟨(fun p h => nomatch h), fun r h => ?_⟩
      injection h with h
      subst h
      refine ⟨n', S', ev', hn', rfl, hlow hS', ?_, rfl⟩
      rcases he with he | he | he
      · exact Or.inl he
      · exact Or.inr (Or.inl (by show stb (kd e) < l; omega))
      · exact Or.inr (Or.inr he)
theorem lv_nots {f : Nat → Nat → RS} (ih : LVP kd pr d0 6 f) : ∀ (m n : Nat) (S : List EV) (t : Nat) (evs : List EV), 9000 ≤ t + n → (∀ t, 9000 ≤ t → kd t = 0) → d0 + notS S ≤ 40 → topS S ≤ 5 → 41 ≤ m + (d0 + notS S) →
  (∀ p, rdN kd f m (d0 + notS S) t = .inl p → opX kd pr d0 n true S t evs = .inl p) ∧ ∀ r, rdN kd f m (d0 + notS S) t = .inr r → ∃ n' S' ev', 9000 ≤ r.1 + n' ∧ ev' ++ S' = r.2 ∧ (∀ s ∈ S', 5 ≤ stg s.2.1) ∧ endS kd 5 S' r.1 ∧ opX kd pr d0 n true S t evs = opX kd pr d0 n' false (S' ++ S) r.1 (evs ++ ev') := by
  intro m
  induction m with
  | zero => intro n S t evs hn hk hd hS hm; omega
  | succ m ihm =>
    intro n S t evs hn hk hd hS hm
    unfold rdN
    by_cases q : kd t = 29
    · rw [if_pos q]
      cases n with
      | zero => exact absurd (hk t (by omega)) (by omega)
      | succ n =>
        have hop : opX kd pr d0 (n + 1) true S t evs = (if 40 ≤ d0 + notS S then .inl (t + 1) else opX kd pr d0 n true ((1, 29, t) :: S) (t + 1) evs) := by
          rw [opX, if_pos ⟨q, hS⟩]
        rw [hop]
        by_cases q4 : 40 ≤ d0 + notS S
        · rw [if_pos q4, if_pos q4]
          exact ⟨fun p h => by injection h with h; rw [h], fun r h => nomatch h⟩
        · rw [if_neg q4, if_neg q4]
          have hnot : d0 + notS ((1, 29, t) :: S) = d0 + notS S + 1 := rfl
          obtain ⟨i1, i2⟩ := ihm n ((1, 29, t) :: S) (t + 1) evs (by omega) hk (by omega) (by show stg 29 ≤ 5; rw [stg_29]; omega) (by omega)
          rw [hnot] at i1 i2
          rcases hx : rdN kd f m (d0 + notS S + 1) (t + 1) with p | r2
          · exact ⟨fun p' h => by injection h with h; rw [← h]; exact i1 p hx, fun r h => nomatch h⟩
          · refine ⟨(fun p h => nomatch h), fun r h => ?_⟩
            injection h with h
            subst h
            obtain ⟨n3, S3, ev3, j1, j2, j3, j4, j5⟩ := i2 r2 hx
            refine ⟨n3, S3 ++ [(1, 29, t)], ev3, j1, ?_, ?_, endS_more j4, ?_⟩
            · show ev3 ++ (S3 ++ [(1, 29, t)]) = r2.2 ++ [(1, 29, t)]
              rw [← j2]; simp
            · intro s hs
              rcases List.mem_append.mp hs with hs | hs
              · exact j3 s hs
              · rw [List.mem_singleton.mp hs]; show 5 ≤ stg 29; rw [stg_29]; omega
            · rw [j5]
              show _ = opX kd pr d0 n3 false (S3 ++ [(1, 29, t)] ++ S) r2.1 (evs ++ ev3)
              simp
    · rw [if_neg q]
      obtain ⟨i1, i2⟩ := ih n S t evs hn hd ⟨Or.inl (by omega), fun _ h => absurd h q, fun h => by omega⟩
      refine ⟨i1, fun r h => ?_⟩
      obtain ⟨n3, S3, ev3, j1, j2, j3, j4, j5⟩ := i2 r h
      refine ⟨n3, S3, ev3, j1, j2, fun s hs => by have := j3 s hs; omega, ?_, j5⟩
      rcases j4 with j4 | j4 | j4
      · exact Or.inl j4
      · refine Or.inr (Or.inl ?_)
        have h5 : stb (kd r.1) ≠ 5 := fun h => by
          obtain ⟨a, b⟩ := stb_stg h (by omega)
          exact b (stg_five a)
        omega
      · exact Or.inr (Or.inr j4)
/-- a level's loop begins behind its first operand -/
theorem lv_all (hk : ∀ t, 9000 ≤ t → kd t = 0) (hp : ∀ d t e, pr d t = .inr e → t < e) (hz : ∀ d t, 9000 ≤ t → pr d t = .inl t) : ∀ j, j ≤ 9 → LVP kd pr d0 (10 - j) (rd kd pr j) := by
  intro j
  induction j with
  | zero => exact fun _ => lv_0 hk hp hz
  | succ j ihj =>
    intro hj
    have ih := ihj (by omega)
    have hlt := rd_lt (kd := kd) hp j
    intro n S t evs hn hd hok
    unfold rd
    by_cases q5 : j = 4
    · subst q5
      rw [if_pos rfl]
      refine lv_nots ih 42 n S t evs hn hk hd ?_ (by omega)
      rcases hok.1 with h | ⟨_, h⟩ <;> omega
    · rw [if_neg q5]
      have hl : 10 - (j + 1) = 9 - j := by omega
      have hl1 : 10 - j = (9 - j) + 1 := by omega
      rw [hl] at hok ⊢
      rw [hl1] at ih
      have hS : topS S < 9 - j := by
        rcases hok.1 with h | ⟨h, _⟩
        · exact h
        · omega
      by_cases q7 : j = 2 ∧ (kd t = 33 ∨ kd t = 34)
      · rw [if_pos q7]
        obtain ⟨rfl, q7⟩ := q7
        cases n with
        | zero => exact absurd (hk t (by omega)) (by omega)
        | succ n =>
          have hop : opX kd pr d0 (n + 1) true S t evs = opX kd pr d0 n true ((1, kd t, t) :: S) (t + 1) evs := by
            rw [opX, if_neg (fun h => by omega), if_pos ⟨q7, by omega⟩]
          have hg : stg (kd t) = 7 := by
            rcases q7 with h | h <;> rw [h]
            · exact stg_33
            · exact stg_34
          have hnot : d0 + notS ((1, kd t, t) :: S) = d0 + notS S := by
            show d0 + (notS S + (if kd t = 29 then 1 else 0)) = _
            rw [if_neg (by omega)]
            rfl
          obtain ⟨i1, i2⟩ := ih n ((1, kd t, t) :: S) (t + 1) evs (by omega) (by omega) ⟨Or.inl (by show stg (kd t) < 9 - 2 + 1; omega), fun _ _ => by show 5 < stg (kd t); omega, fun _ _ => by show 6 < stg (kd t); omega⟩
          rw [hnot] at i1 i2
          rw [hop]
          rcases hx : rd kd pr 2 (d0 + notS S) (t + 1) with p | r2
          · exact ⟨fun p' h => by injection h with h; rw [← h]; exact i1 p hx, fun r h => nomatch h⟩
          · obtain ⟨n3, S3, ev3, j1, j2, j3, j4, j5⟩ := i2 r2 hx
            rw [j5]
            have e1 : S3 ++ (1, kd t, t) :: S = (S3 ++ [(1, kd t, t)]) ++ S := by simp
            have e3 : r2.2 ++ [(1, kd t, t)] = ev3 ++ (S3 ++ [(1, kd t, t)]) := by rw [← j2]; simp
            dsimp only
            rw [e1, e3]
            refine lv_loop (by omega) hk hlt ih hS hd _ _ _ _ _ (by omega) j1 ?_ (endS_more j4)
            intro s hs
            rw [if_neg (by omega)]
            rcases List.mem_append.mp hs with hs | hs
            · have := j3 s hs; omega
            · rw [List.mem_singleton.mp hs]; show 9 - 2 ≤ stg (kd t); omega
      · rw [if_neg q7]
        have hok1 : okLv kd (9 - j + 1) S t := by
          refine ⟨Or.inl (by omega), fun h h2 => ?_, fun h h2 => ?_⟩
          · exact hok.2.1 (by omega) h2
          · by_cases h3 : j = 2
            · exact absurd ⟨h3, h2⟩ q7
            · exact hok.2.2 (by omega) h2
        obtain ⟨i1, i2⟩ := ih n S t evs hn hd hok1
        rcases hx : rd kd pr j (d0 + notS S) t with p | r2
        · exact ⟨fun p' h => by injection h with h; rw [← h]; exact i1 p hx, fun r h => nomatch h⟩
        · obtain ⟨n3, S3, ev3, j1, j2, j3, j4, j5⟩ := i2 r2 hx
          rw [j5]
          dsimp only
          rw [← j2]
          refine lv_loop (by omega) hk hlt ih hS hd _ _ _ _ _ (by omega) j1 ?_ j4
          intro s hs
          have := j3 s hs
          split <;> omega
/-- level 1 is what the class goes over -/
theorem lv_one (hk : ∀ t, 9000 ≤ t → kd t = 0) (hp : ∀ d t e, pr d t = .inr e → t < e) (hz : ∀ d t, 9000 ≤ t → pr d t = .inl t) (hd : d0 ≤ 40) {n t : Nat} (hn : 9000 ≤ t + n) : opX kd pr d0 n true [] t [] = rd kd pr 9 d0 t := by
  obtain ⟨i1, i2⟩ := lv_all (d0 := d0) hk hp hz 9 (Nat.le_refl _) n [] t [] hn hd ⟨Or.inl (by show 0 < 10 - 9; omega), fun h => by omega, fun h => by omega⟩
  rcases hx : rd kd pr 9 d0 t with p | r
  · exact i1 p hx
  · obtain ⟨n3, S3, ev3, j1, j2, j3, j4, j5⟩ := i2 r hx
    rw [j5, List.append_nil]
    have hfin : opX kd pr d0 n3 false S3 r.1 ([] ++ ev3) = .inr (r.1, [] ++ ev3 ++ S3) := by
      cases n3 with
      | zero => rfl
      | succ n3 =>
        rw [opX]
        refine if_pos ?_
        rcases j4 with h | h | ⟨h, h'⟩
        · exact Or.inl h
        · exact Or.inl (by omega)
        · refine Or.inr ?_
          rw [h, if_pos rfl, redS_fst _ [], h']
    rw [hfin, List.nil_append, j2]
end LVT
