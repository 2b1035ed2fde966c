/-! PASS 2, pure: where a level's events lie; faults of a tree lie there -/
section QT
variable {kd : Nat → Nat} {pr : Nat → Nat → Sum Nat Nat}
/-- an event's TOKEN -/
def tkE (x : EV) : Nat := if x.1 = 0 then x.2.1 else x.2.2
def QT (t e : Nat) (evs : List EV) : Prop := t < e ∧ ∀ x ∈ evs, t ≤ tkE x ∧ tkE x < e
theorem QT.two {t0 t e k : Nat} {a b : List EV} (p : QT t0 t a) (q : QT (t + 1) e b) : QT t0 e (a ++ b ++ [(2, k, t)]) := by
  obtain ⟨p1, p2⟩ := p
  obtain ⟨q1, q2⟩ := q
  refine ⟨by omega, fun x hx => ?_⟩
  rcases List.mem_append.mp hx with hx | hx
  · rcases List.mem_append.mp hx with hx | hx
    · have := p2 x hx; omega
    · have := q2 x hx; omega
  · rw [List.mem_singleton.mp hx]
    show t0 ≤ t ∧ t < e
    omega
theorem QT.one {t e k : Nat} {a : List EV} (p : QT (t + 1) e a) : QT t e (a ++ [(1, k, t)]) := by
  obtain ⟨p1, p2⟩ := p
  refine ⟨by omega, fun x hx => ?_⟩
  rcases List.mem_append.mp hx with hx | hx
  · have := p2 x hx; omega
  · rw [List.mem_singleton.mp hx]
    show t ≤ t ∧ t < e
    omega
theorem lpR_qt {f : Nat → RS} {l : Nat} (hf : ∀ t r, f t = .inr r → QT t r.1 r.2) {t0 : Nat} : ∀ (n t : Nat) (ev : List EV) (r : Nat × List EV), QT t0 t ev → lpR kd f l n t ev = .inr r → QT t0 r.1 r.2 ∧ ∃ q, r.2 = ev ++ q := by
  intro n
  induction n with
  | zero => intro t ev r hq h; injection h with h; rw [← h]; exact ⟨hq, [], (List.append_nil _).symm⟩
  | succ n ih =>
    intro t ev r hq h
    unfold lpR at h
    by_cases q : stb (kd t) = l
    · rw [if_pos q] at h
      rcases hx : f (t + 1) with p | r2
      · rw [hx] at h; exact nomatch h
      · rw [hx] at h
        have hq2 := hq.two (k := kd t) (hf _ _ hx)
        dsimp only at h
        by_cases q6 : l = 6
        · rw [if_pos q6] at h
          injection h with h
          rw [← h]
          exact ⟨hq2, r2.2 ++ [(2, kd t, t)], List.append_assoc _ _ _⟩
        · rw [if_neg q6] at h
          obtain ⟨g1, q9, g2⟩ := ih _ _ _ hq2 h
          exact ⟨g1, r2.2 ++ [(2, kd t, t)] ++ q9, by rw [g2, List.append_assoc, List.append_assoc, List.append_assoc]⟩
    · rw [if_neg q] at h
      injection h with h
      rw [← h]
      exact ⟨hq, [], (List.append_nil _).symm⟩
theorem rdN_qt {f : Nat → Nat → RS} (hf : ∀ d t r, f d t = .inr r → QT t r.1 r.2) : ∀ (q d t : Nat) (r : Nat × List EV), rdN kd f q d t = .inr r → QT t r.1 r.2 := by
  intro q
  induction q with
  | zero => exact fun d t r h => hf d t r h
  | succ q ih =>
    intro d t r h
    unfold rdN at h
    by_cases q : kd t = 29
    · rw [if_pos q] at h
      by_cases q2 : 40 ≤ d
      · rw [if_pos q2] at h; exact nomatch h
      · rw [if_neg q2] at h
        rcases hx : rdN kd f _ (d + 1) (t + 1) with p | r2
        · rw [hx] at h; exact nomatch h
        · rw [hx] at h
          have h1 := ih _ _ _ hx
          injection h with h
          rw [← h]
          exact h1.one (k := 29)
    · rw [if_neg q] at h
      exact hf _ _ _ h
theorem rd_qt (hp : ∀ d t e, pr d t = .inr e → t < e) : ∀ (j d t : Nat) (r : Nat × List EV), rd kd pr j d t = .inr r → QT t r.1 r.2 ∧ (kd t ≠ 29 → kd t ≠ 33 → kd t ≠ 34 → ∃ q, r.2 = (0, t, d) :: q) := by
  intro j
  induction j with
  | zero =>
    intro d t r h
    unfold rd at h
    rcases hx : pr d t with p | e
    · rw [hx] at h; exact nomatch h
    · rw [hx] at h
      injection h with h
      rw [← h]
      have hlt := hp _ _ _ hx
      refine ⟨⟨hlt, fun x hx => ?_⟩, fun _ _ _ => ⟨[], rfl⟩⟩
      rw [List.mem_singleton.mp hx]
      exact ⟨Nat.le_refl _, hlt⟩
  | succ j ih =>
    intro d t r h
    unfold rd at h
    by_cases q : j = 4
    · rw [if_pos q] at h
      refine ⟨rdN_qt (fun d t r h => (ih d t r h).1) _ _ _ _ h, fun h1 h2 h3 => ?_⟩
      have h' : rdN kd (rd kd pr j) 42 d t = .inr r := h
      unfold rdN at h'
      rw [if_neg h1] at h'
      exact (ih _ _ _ h').2 h1 h2 h3
    · rw [if_neg q] at h
      by_cases q2 : j = 2 ∧ (kd t = 33 ∨ kd t = 34)
      · rw [if_pos q2] at h
        rcases hx : rd kd pr j d (t + 1) with p | r2
        · rw [hx] at h; exact nomatch h
        · rw [hx] at h
          obtain ⟨g1, g2⟩ := lpR_qt (fun t r h => (ih d t r h).1) _ _ _ _ ((ih _ _ _ hx).1.one (k := kd t)) h
          exact ⟨g1, fun h1 h2 h3 => (q2.2.elim h2 h3).elim⟩
      · rw [if_neg q2] at h
        rcases hx : rd kd pr j d t with p | r2
        · rw [hx] at h; exact nomatch h
        · rw [hx] at h
          obtain ⟨g0, g9⟩ := ih _ _ _ hx
          obtain ⟨g1, q9, g2⟩ := lpR_qt (fun t r h => (ih d t r h).1) _ _ _ _ g0 h
          refine ⟨g1, fun h1 h2 h3 => ?_⟩
          obtain ⟨q8, g3⟩ := g9 h1 h2 h3
          exact ⟨q8 ++ q9, by rw [g2, g3]; rfl⟩
end QT
section EV9
variable {kd : Nat → Nat} {fM fA : Wd} {W : PWT} {sc : Int32} {lu : Nat → Nat} {cur lev : Nat} {nn kk : Nat → Nat}
theorem MSR.app {t0 e0 : Nat} {L L' : List (Nat × Int32)} (h : MSR kd lu t0 e0 L) (g : MSR kd lu t0 e0 L') : MSR kd lu t0 e0 (L ++ L') := fun x hx => (List.mem_append.mp hx).elim (h x) (g x)
theorem MSR.wd {t0 e0 t1 e1 : Nat} {L : List (Nat × Int32)} (h : MSR kd lu t0 e0 L) (h1 : t1 ≤ t0) (h2 : e0 ≤ e1) : MSR kd lu t1 e1 L := fun x hx => by
  obtain ⟨a, b, c, d⟩ := h x hx
  exact ⟨a, by omega, by omega, d⟩
theorem MSR.nil {t0 e0 : Nat} : MSR kd lu t0 e0 [] := fun x hx => absurd hx (by simp)
theorem MSR.s4 {t0 e0 s : Nat} (h1 : t0 ≤ s) (h2 : s < e0) : MSR kd lu t0 e0 [(s, 4)] := fun x hx => by
  rw [List.mem_singleton.mp hx]
  exact ⟨i32_40, h1, h2, Or.inl (Int32.le_refl _)⟩
theorem MSR.s5 {t0 e0 s : Nat} (h1 : t0 ≤ s) (h2 : s < e0) : MSR kd lu t0 e0 [(s, 5)] := fun x hx => by
  rw [List.mem_singleton.mp hx]
  exact ⟨i32_50, h1, h2, Or.inl (show (4 : Int32) ≤ 5 by decide)⟩
theorem MSR.dif {t0 e0 s : Nat} {x y : Int32} (h1 : t0 ≤ s) (h2 : s < e0) : MSR kd lu t0 e0 (difT x y s) := by
  unfold difT
  split
  · exact MSR.s4 h1 h2
  · exact MSR.nil
theorem MSR.mis {t0 e0 s : Nat} {x y : Int32} (h1 : t0 ≤ s) (h2 : s < e0) : MSR kd lu t0 e0 (misT x y s) := by
  unfold misT
  split
  · exact MSR.s4 h1 h2
  · exact MSR.nil
theorem MSR.misS {t0 e0 s l : Nat} (h1 : t0 ≤ s) (h2 : s < e0) : MSR kd lu t0 e0 (_root_.Jvm.Pilot.CAlgolMillLaw_law_r8408_c9b5e4.misS fM l s) := by
  unfold _root_.Jvm.Pilot.CAlgolMillLaw_law_r8408_c9b5e4.misS
  split
  · exact MSR.nil
  · exact MSR.s4 h1 h2
theorem MSR.notD {t0 e0 s : Nat} (hk : kd s = 2) (h1 : t0 ≤ s) (h2 : s < e0) : MSR kd lu t0 e0 (_root_.Jvm.Pilot.CAlgolMillLaw_law_r8408_c9b5e4.notD (lu s) s) := by
  unfold _root_.Jvm.Pilot.CAlgolMillLaw_law_r8408_c9b5e4.notD
  split
  · intro x hx
    rw [List.mem_singleton.mp hx]
    exact ⟨(show (2 : Int32) ≠ 0 by decide), h1, h2, Or.inr ⟨rfl, hk, by assumption⟩⟩
  · exact MSR.nil
theorem MSR.flat {t0 e0 : Nat} {f : Nat → List (Nat × Int32)} {xs : List Nat} (h : ∀ x ∈ xs, MSR kd lu t0 e0 (f x)) : MSR kd lu t0 e0 (xs.flatMap f) := fun y hy => by
  obtain ⟨x, h1, h2⟩ := List.mem_flatMap.mp hy
  exact h x h1 y h2
/-- faults of a tree -/
theorem pevn_ms {t0 e0 : Nat} (hk9 : ∀ i, 9000 ≤ i → kd i = 0) : ∀ (q K lo n d s : Nat) (evs : List EV) (cn : Nat), PEVN kd fM W sc nn kk q K lo n d s evs cn → n < 24000 → 4 * n + 1 ≤ K → (∀ x ∈ evs, t0 ≤ tkE x ∧ tkE x < e0) → (∀ t d', ((0, t, d') : EV) ∈ evs → MSR kd lu t0 e0 (FLX fM lu cur (kk t) 0 (nn t) 0)) → (t0 ≤ s ∧ s < e0) ∧ MSR kd lu t0 e0 (FLX fM lu cur K 0 n 0) ∧ ∀ t d', evs.head? = some (0, t, d') → ∀ x ∈ FLX fM lu cur (kk t) 0 (nn t) 0, x ∈ FLX fM lu cur K 0 n 0 := by
  intro q
  induction q with
  | zero => exact fun _ _ _ _ _ _ _ h => h.elim
  | succ q ih =>
    intro K lo n d s evs cn h hn hK hr hp
    obtain ⟨⟨hs9, h12⟩, _⟩ := pevn_all (fA := fM) (lev := 0) (lu := lu) (cur := cur) hk9 (q + 1) K lo n d s evs cn h hn hK
    obtain ⟨k, rfl⟩ : ∃ k, K = k + 1 := ⟨K - 1, by omega⟩
    obtain ⟨hlo, h⟩ := h
    rcases h with ⟨k7, _, _, k12, x, y, sg, tk, s2, ex, ey, cx, cy, k8, k10, k9, hsg, hxy, hyn, hev, h1, h2⟩ | ⟨k7, _, _, k12, x, sg, ex, cx, k8, k9, hsg, hxn, hev, h1⟩ | ⟨e, hev, h1, h3, h4⟩
    · have hmx : ∀ z ∈ ex, z ∈ evs := fun z hz => by rw [hev]; exact List.mem_append_left _ (List.mem_append_left _ hz)
      have hmy : ∀ z ∈ ey, z ∈ evs := fun z hz => by rw [hev]; exact List.mem_append_left _ (List.mem_append_right _ hz)
      obtain ⟨⟨x1, x2⟩, _⟩ := pevn_all (fA := fM) (lev := 0) (lu := lu) (cur := cur) hk9 _ _ _ _ _ _ _ _ h1 (by omega) (by omega)
      obtain ⟨⟨y1, y2⟩, _⟩ := pevn_all (fA := fM) (lev := 0) (lu := lu) (cur := cur) hk9 _ _ _ _ _ _ _ _ h2 (by omega) (by omega)
      obtain ⟨a1, a2, a3⟩ := ih _ _ _ _ _ _ _ h1 (by omega) (by omega) (fun z hz => hr z (hmx z hz)) (fun t d' ht => hp t d' (hmx _ ht))
      obtain ⟨b1, b2, b3⟩ := ih _ _ _ _ _ _ _ h2 (by omega) (by omega) (fun z hz => hr z (hmy z hz)) (fun t d' ht => hp t d' (hmy _ ht))
      rw [Nat.add_sub_cancel] at a2 a3 b2 b3
      have n1 : ¬ gi fM 7 n = 1 := by rw [k7]; decide
      have n2 : ¬ gi fM 7 n = 2 := by rw [k7]; decide
      have n3 : ¬ gi fM 7 n = 3 := by rw [k7]; decide
      have n4 : ¬ gi fM 7 n = 4 := by rw [k7]; decide
      have n5 : ¬ gi fM 7 n = 5 := by rw [k7]; decide
      have n7 : ¬ gi fM 7 n = 7 := by rw [k7]; decide
      have n8 : ¬ gi fM 7 n = 8 := by rw [k7]; decide
      have n9 : ¬ gi fM 7 n = 9 := by rw [k7]; decide
      have e8 : nd fM 8 n = x := by
        unfold nd
        rw [k8, tc_iN (by omega)]
      have e10 : nd fM 10 n = y := by
        unfold nd
        rw [k10, tc_iN (by omega)]
      have ex12 : nd fM 12 x = s := by
        unfold nd
        rw [x2, tc_iN (by omega)]
      have ey12 : nd fM 12 y = s2 := by
        unfold nd
        rw [y2, tc_iN (by omega)]
      refine ⟨a1, ?_, fun t d' hh z hz => ?_⟩
      · rw [FLX]
        dsimp only
        rw [if_pos rfl, if_neg (fun g => g.elim n1 n2), if_neg n9, if_neg n3, if_neg n4, if_neg n5, if_neg n8, if_neg n7, e8, e10, ex12, ey12]
        refine a2.app ?_
        split
        · refine b2.app ?_
          split
          · exact MSR.mis b1.1 b1.2
          · exact MSR.nil
        · exact (MSR.mis a1.1 a1.2).app (b2.app (MSR.mis b1.1 b1.2))
      · have hxh : ex.head? = some (0, t, d') := by
          cases hex : ex with
          | nil =>
            have hq := pevn_all (fA := fM) (lev := 0) (lu := lu) (cur := cur) hk9 _ _ _ _ _ _ _ _ h1 (by omega) (by omega)
            have := (hq.2 []).1
            rw [hex] at this
            exact absurd this (by simp [evStk])
          | cons z0 r =>
            rw [hev, hex] at hh
            exact hh
        rw [FLX]
        dsimp only
        rw [if_pos rfl, if_neg (fun g => g.elim n1 n2), if_neg n9, if_neg n3, if_neg n4, if_neg n5, if_neg n8, if_neg n7, e8]
        exact List.mem_append_left _ (a3 t d' hxh z hz)
    · have hmx : ∀ z ∈ ex, z ∈ evs := fun z hz => by rw [hev]; exact List.mem_append_left _ hz
      obtain ⟨⟨x1, x2⟩, _⟩ := pevn_all (fA := fM) (lev := 0) (lu := lu) (cur := cur) hk9 _ _ _ _ _ _ _ _ h1 (by omega) (by omega)
      obtain ⟨a1, a2, a3⟩ := ih _ _ _ _ _ _ _ h1 (by omega) (by omega) (fun z hz => hr z (hmx z hz)) (fun t d' ht => hp t d' (hmx _ ht))
      rw [Nat.add_sub_cancel] at a2 a3
      have n1 : ¬ gi fM 7 n = 1 := by rw [k7]; decide
      have n2 : ¬ gi fM 7 n = 2 := by rw [k7]; decide
      have n3 : ¬ gi fM 7 n = 3 := by rw [k7]; decide
      have n4 : ¬ gi fM 7 n = 4 := by rw [k7]; decide
      have n5 : ¬ gi fM 7 n = 5 := by rw [k7]; decide
      have n8 : ¬ gi fM 7 n = 8 := by rw [k7]; decide
      have n9 : ¬ gi fM 7 n = 9 := by rw [k7]; decide
      have e8 : nd fM 8 n = x := by
        unfold nd
        rw [k8, tc_iN (by omega)]
      have ex12 : nd fM 12 x = s + 1 := by
        unfold nd
        rw [x2, tc_iN (by omega)]
      have hs : t0 ≤ s ∧ s < e0 := by
        have := hr (1, sg, s) (by rw [hev]; exact List.mem_append_right _ (List.mem_singleton.mpr rfl))
        exact this
      refine ⟨hs, ?_, fun t d' hh z hz => ?_⟩
      · rw [FLX]
        dsimp only
        rw [if_pos rfl, if_neg (fun g => g.elim n1 n2), if_neg n9, if_neg n3, if_neg n4, if_neg n5, if_neg n8, if_pos k7, e8, ex12]
        exact a2.app (MSR.mis a1.1 a1.2)
      · have hxh : ex.head? = some (0, t, d') := by
          cases hex : ex with
          | nil =>
            have hq := pevn_all (fA := fM) (lev := 0) (lu := lu) (cur := cur) hk9 _ _ _ _ _ _ _ _ h1 (by omega) (by omega)
            have := (hq.2 []).1
            rw [hex] at this
            exact absurd this (by simp [evStk])
          | cons z0 r =>
            rw [hev, hex] at hh
            exact hh
        rw [FLX]
        dsimp only
        rw [if_pos rfl, if_neg (fun g => g.elim n1 n2), if_neg n9, if_neg n3, if_neg n4, if_neg n5, if_neg n8, if_pos k7, e8]
        exact List.mem_append_left _ (a3 t d' hxh z hz)
    · have hs : t0 ≤ s ∧ s < e0 := by
        have := hr (0, s, d) (by rw [hev]; exact List.mem_singleton.mpr rfl)
        exact this
      have hm := hp s d (by rw [hev]; exact List.mem_singleton.mpr rfl)
      rw [h3, h4] at hm
      refine ⟨hs, hm, fun t d' hh z hz => ?_⟩
      rw [hev] at hh
      have hh' : some ((0, s, d) : EV) = some (0, t, d') := hh
      injection hh' with hh'
      injection hh' with _ hh'
      injection hh' with h9 _
      rw [← h9, h3, h4] at hz
      exact hz
end EV9
