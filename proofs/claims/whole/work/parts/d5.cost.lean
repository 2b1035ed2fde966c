/-! Events of a level: how many TOKENS they take, and how deep the reference calls itself for them -/
section QM
variable {kd : Nat → Nat} {pr : Nat → Nat → Sum Nat Nat}
/-- TOKENS of an event -/
def lnE (pr : Nat → Nat → Sum Nat Nat) (x : EV) : Nat := if x.1 = 0 then (match pr x.2.2 x.2.1 with
  | .inr e => e - x.2.1
  | .inl _ => 0) else 1
def lnS (pr : Nat → Nat → Sum Nat Nat) : List EV → Nat
  | [] => 0
  | x :: r => lnE pr x + lnS pr r
theorem lnS_app : ∀ (a b : List EV), lnS pr (a ++ b) = lnS pr a + lnS pr b := by
  intro a
  induction a with
  | nil => intro b; exact (Nat.zero_add _).symm
  | cons x r ih =>
    intro b
    show lnE pr x + lnS pr (r ++ b) = lnE pr x + lnS pr r + lnS pr b
    rw [ih]
    omega
/-- what the calls for an event cost, on those before -/
def csE (x : EV) (st : List Nat) : List Nat := if x.1 = 0 then (40 * (41 - x.2.2) + 4) :: st else if x.1 = 1 then (match st with
  | [] => []
  | h :: r => (h + 4) :: r) else (match st with
  | y :: h :: r => (max h (y + 4)) :: r
  | _ => [])
def cst : List EV → List Nat → List Nat
  | [], st => st
  | x :: r, st => cst r (csE x st)
theorem cst_app : ∀ (a b : List EV) (st : List Nat), cst (a ++ b) st = cst b (cst a st) := by
  intro a
  induction a with
  | nil => exact fun _ _ => rfl
  | cons x r ih => exact fun b st => ih b _
def QM (pr : Nat → Nat → Sum Nat Nat) (t e : Nat) (evs : List EV) (B : Nat) : Prop := e = t + lnS pr evs ∧ ∃ h, h ≤ B ∧ ∀ st, cst evs st = h :: st
theorem QM.wk {t e B B' : Nat} {evs : List EV} (h : QM pr t e evs B) (hb : B ≤ B') : QM pr t e evs B' := by
  obtain ⟨h1, x, h2, h3⟩ := h
  exact ⟨h1, x, by omega, h3⟩
theorem QM.two {t0 t e B1 B2 k : Nat} {a b : List EV} (h : QM pr t0 t a B1) (g : QM pr (t + 1) e b B2) : QM pr t0 e (a ++ b ++ [(2, k, t)]) (max B1 (B2 + 4)) := by
  obtain ⟨h1, x, h2, h3⟩ := h
  obtain ⟨g1, y, g2, g3⟩ := g
  refine ⟨?_, max x (y + 4), by omega, fun st => ?_⟩
  · rw [lnS_app, lnS_app]
    show e = t0 + (lnS pr a + lnS pr b + (1 + 0))
    omega
  · rw [cst_app, cst_app, h3, g3]
    rfl
theorem QM.one {t e B k : Nat} {a : List EV} (h : QM pr (t + 1) e a B) : QM pr t e (a ++ [(1, k, t)]) (B + 4) := by
  obtain ⟨h1, x, h2, h3⟩ := h
  refine ⟨?_, x + 4, by omega, fun st => ?_⟩
  · rw [lnS_app]
    show e = t + (lnS pr a + (1 + 0))
    omega
  · rw [cst_app, h3]
    rfl
theorem lpR_mq {f : Nat → RS} {l B Bf : Nat} (hB : B + 4 ≤ Bf) (hf : ∀ t r, f t = .inr r → QM pr t r.1 r.2 B) {t0 : Nat} : ∀ (n t : Nat) (ev : List EV) (r : Nat × List EV), QM pr t0 t ev Bf → lpR kd f l n t ev = .inr r → QM pr t0 r.1 r.2 Bf := by
  intro n
  induction n with
  | zero => intro t ev r hq h; injection h with h; rw [← h]; exact hq
  | succ n ih =>
    intro t ev r hq h
    unfold lpR at h
    by_cases q : stb (kd t) = l
    · rw [if_pos q] at h
      rcases hx : f (t + 1) with p | r2
      · rw [hx] at h; exact nomatch h
      · rw [hx] at h
        have h1 := hf _ _ hx
        have hq2 : QM pr t0 r2.1 (ev ++ r2.2 ++ [(2, kd t, t)]) Bf := (hq.two h1).wk (by omega)
        dsimp only at h
        by_cases q6 : l = 6
        · rw [if_pos q6] at h
          injection h with h
          rw [← h]
          exact hq2
        · rw [if_neg q6] at h
          exact ih _ _ _ hq2 h
    · rw [if_neg q] at h
      injection h with h
      rw [← h]
      exact hq
theorem rdN_mq {f : Nat → Nat → RS} {c : Nat} (hf : ∀ d t r, f d t = .inr r → QM pr t r.1 r.2 (40 * (41 - d) + c)) : ∀ (m d t : Nat) (r : Nat × List EV), rdN kd f m d t = .inr r → QM pr t r.1 r.2 (40 * (41 - d) + c) := by
  intro m
  induction m with
  | zero => exact fun d t r h => hf d t r h
  | succ m ih =>
    intro d t r h
    unfold rdN at h
    by_cases q : kd t = 29
    · rw [if_pos q] at h
      by_cases q2 : 40 ≤ d
      · rw [if_pos q2] at h; exact nomatch h
      · rw [if_neg q2] at h
        rcases hx : rdN kd f m (d + 1) (t + 1) with p | r2
        · rw [hx] at h; exact nomatch h
        · rw [hx] at h
          have h1 := ih _ _ _ hx
          injection h with h
          rw [← h]
          exact (h1.one (k := 29)).wk (by omega)
    · rw [if_neg q] at h
      exact hf _ _ _ h
/-- how many levels with signs for two lie below -/
def gl5 (j : Nat) : Nat := if j ≤ 4 then j else j - 1
theorem gl5_s {j : Nat} (h : j ≠ 4) : gl5 (j + 1) = gl5 j + 1 := by
  unfold gl5
  split <;> split <;> omega
theorem rd_mq (hp : ∀ d t e, pr d t = .inr e → t < e) : ∀ (j d t : Nat) (r : Nat × List EV), rd kd pr j d t = .inr r → QM pr t r.1 r.2 (40 * (41 - d) + (4 + 4 * gl5 j)) := by
  intro j
  induction j with
  | zero =>
    intro d t r h
    unfold rd at h
    rcases hx : pr d t with p | e
    · rw [hx] at h; exact nomatch h
    · rw [hx] at h
      injection h with h
      rw [← h]
      have hlt := hp _ _ _ hx
      refine ⟨?_, 40 * (41 - d) + 4, by omega, fun st => rfl⟩
      show e = t + (lnE pr (0, t, d) + 0)
      unfold lnE
      rw [if_pos rfl]
      dsimp only
      rw [hx]
      show e = t + (e - t + 0)
      omega
  | succ j ih =>
    intro d t r h
    unfold rd at h
    by_cases q : j = 4
    · rw [if_pos q] at h
      exact (rdN_mq (c := 4 + 4 * gl5 j) (fun d t r h => ih d t r h) _ _ _ _ h).wk (by rw [q]; exact Nat.le_refl _)
    · rw [if_neg q] at h
      by_cases q2 : j = 2 ∧ (kd t = 33 ∨ kd t = 34)
      · rw [if_pos q2] at h
        rcases hx : rd kd pr j d (t + 1) with p | r2
        · rw [hx] at h; exact nomatch h
        · rw [hx] at h
          exact lpR_mq (B := 40 * (41 - d) + (4 + 4 * gl5 j)) (by have := gl5_s q; omega) (fun t r h => ih d t r h) _ _ _ _ (((ih _ _ _ hx).one).wk (by have := gl5_s q; omega)) h
      · rw [if_neg q2] at h
        rcases hx : rd kd pr j d t with p | r2
        · rw [hx] at h; exact nomatch h
        · rw [hx] at h
          exact lpR_mq (B := 40 * (41 - d) + (4 + 4 * gl5 j)) (by have := gl5_s q; omega) (fun t r h => ih d t r h) _ _ _ _ ((ih _ _ _ hx).wk (by have := gl5_s q; omega)) h
end QM
/-! Nodes spell what the recognizers go over -/
section NX
variable {kd : Nat → Nat} {w : Wd} {sc : Int32}
theorem rowR_rw {W : PWT} {f : Nat → Sum Nat Nat} {d : Nat} (hW : ∀ lo x s e cn, W lo x d s e cn → f s = .inr e ∧ s < e) : ∀ (xs : List Nat) (lo s e n : Nat), rowR kd w W xs lo d s e → e ≤ s + n → kd e ≠ 40 → rw_ kd f n s = .inr e := by
  intro xs
  induction xs with
  | nil => exact fun _ _ _ _ h => h.elim
  | cons x r ih =>
    intro lo s e n h hn hk
    cases r with
    | nil =>
      obtain ⟨⟨cn, h1⟩, h2⟩ := h
      obtain ⟨g1, g2⟩ := hW _ _ _ _ _ h1
      obtain ⟨n', rfl⟩ : ∃ n', n = n' + 1 := ⟨n - 1, by omega⟩
      unfold rw_
      rw [g1]
      dsimp only
      rw [if_neg hk]
    | cons y r =>
      obtain ⟨e1, ⟨cn, h1⟩, h2, h3, h4, h5, h6⟩ := h
      obtain ⟨g1, g2⟩ := hW _ _ _ _ _ h1
      obtain ⟨n', rfl⟩ : ∃ n', n = n' + 1 := ⟨n - 1, by
        have : s < e := by
          have := ih _ _ _ (e - e1) h6
          by_cases q : s < e
          · exact q
          · exfalso
            have hle : ∀ (xs : List Nat) (lo s e : Nat), rowR kd w W xs lo d s e → s < e := by
              intro xs
              induction xs with
              | nil => exact fun _ _ _ h => h.elim
              | cons x r ih =>
                intro lo s e h
                cases r with
                | nil => obtain ⟨⟨cn, h1⟩, h2⟩ := h; exact (hW _ _ _ _ _ h1).2
                | cons y r =>
                  obtain ⟨e1, ⟨cn, h1⟩, h2, h3, h4, h5, h6⟩ := h
                  have := ih _ _ _ h6
                  have := (hW _ _ _ _ _ h1).2
                  omega
            have := hle _ _ _ _ h6
            omega
        omega⟩
      unfold rw_
      rw [g1]
      dsimp only
      rw [if_pos h2]
      exact ih _ _ _ _ h6 (by omega) hk
theorem PRI_xp {W : PWT} {k lo n d s e cn : Nat} (hW : ∀ lo x d s e cn, W lo x d s e cn → xw kd k d s = .inr e) (h : PRI kd w W sc lo n d s e cn) (he : e ≤ 9000) : xp kd k d s = .inr e := by
  obtain ⟨_, _, _, _, h4⟩ := h
  have hlt : ∀ lo x d s e cn, W lo x d s e cn → xw kd k d s = .inr e ∧ s < e := fun lo x d s e cn h => ⟨hW _ _ _ _ _ _ h, xw_lt _ _ _ _ (hW _ _ _ _ _ _ h)⟩
  show prX kd (xw kd k) d s = .inr e
  unfold prX
  rcases h4 with ⟨_, q1, q2, _⟩ | ⟨_, q1, q2, _⟩ | ⟨_, q1, q2, x, e1, _, _, q3, q4, q5⟩ | ⟨_, q1, q2, q3, q4, _⟩ | ⟨c, xs, e1, q0, q1, q2, _, _, q3, _, q4, q5⟩
  · rw [if_pos (by omega), q2]
  · rw [if_pos (by omega), q2]
  · rw [if_neg (by omega), if_pos q1, if_neg (by omega), hW _ _ _ _ _ _ q3]
    dsimp only
    rw [if_pos q4, q5]
  · rw [if_neg (by omega), if_neg (by omega), if_pos q1, if_neg q2, if_neg q3, q4]
  · have hrow : ∀ c', kd e1 = c' → c' ≠ 40 → br_ kd (xw kd k (d + 1)) c' (s + 2) = .inr (e1 + 1) := fun c' hc' hn => by
      unfold br_
      have h1 := rowR_rw (fun lo x s e cn h => hlt lo x (d + 1) s e cn h) xs lo (s + 2) e1 (9000 - (s + 2)) q3 (by omega) (by omega)
      rw [h1]
      dsimp only
      rw [if_pos hc']
    rcases q0 with ⟨_, k1, k2, _⟩ | ⟨_, k1, k2, _⟩
    · rw [if_neg (by omega), if_neg (by omega), if_pos q1, if_neg (by omega), if_pos k1, if_neg (by omega), hrow 46 (by omega) (by omega), q5]
    · rw [if_neg (by omega), if_neg (by omega), if_pos q1, if_pos k1, if_neg (by omega), hrow 44 (by omega) (by omega), q5]
end NX
