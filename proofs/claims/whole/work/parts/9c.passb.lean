/-! THE CLASS, first pass: steps one after the other -/
def sb {α : Type} (o : Sum Nat α) (g : α → Sum Nat Nat) : Sum Nat Nat := match o with
  | .inl p => .inl p
  | .inr e => g e
section P1
variable {kd wr : Nat → Nat} {z : Nat}
def IN1 (kd wr : Nat → Nat) (z : Nat) (w : Wd) (t base : Nat) (fa : Int32) : Prop := CT kd wr true z w t fa ∧ gi w 3 5 = 0 ∧ SY0 w ∧ gi w 43 4 = Int32.ofNat base
/-- r ends as o says; Q: what's told of it where it goes on -/
def RUN (kd wr : Nat → Nat) (z : Nat) (r : Option (Int32 × Wd)) (w0 : Wd) (t0 base : Nat) (o : Sum Nat Nat) (fa : Int32) (Q : Int32 → Nat → Wd → Prop) : Prop := ∃ x v, r = some (x, v) ∧ LOW base v w0 ∧ OFF (PE1 t0) v w0 ∧ (∀ p, o = .inl p → IN1 kd wr z v (z - 1) base (FA wr fa p)) ∧ ∀ e, o = .inr e → t0 ≤ e ∧ IN1 kd wr z v e base fa ∧ Q x e v
def A2 (kd wr : Nat → Nat) (z d : Nat) (f : Nat → Sum Nat Nat) (Q : Nat → Int32 → Nat → Wd → Prop) (r : Wd → Option (Int32 × Wd)) : Prop := ∀ (w : Wd) (t base : Nat) (fa : Int32), IN1 kd wr z w t base fa → base ≤ 10 * d → d ≤ 40 ∨ d ≤ 41 ∧ kd t = 0 → RUN kd wr z (r w) w t base (f t) fa (Q t)
theorem IN1.off {P : Nat → Nat → Prop} {u w : Wd} {t base : Nat} {fa : Int32} (h : IN1 kd wr z w t base fa) (hO : OFF P u w) (hP : ∀ k j, P k j → k ≠ 4 ∧ k ≠ 5 ∧ k ≠ 6 ∧ k ≠ 8 ∧ k ≠ 9 ∧ k ≠ 10 ∧ k ≠ 14 ∧ (k = 3 → j ≠ 5) ∧ (k = 43 → j ≠ 4)) : IN1 kd wr z u t base fa := by
  obtain ⟨a, b, c, d⟩ := h
  exact ⟨a.off hO (fun k j hp => by have := hP k j hp; omega), (hO 3 5 (fun hp => by have := hP _ _ hp; omega)).1.trans b, (hO 14 0 (fun hp => by have := hP _ _ hp; omega)).1.trans c, (hO 43 4 (fun hp => by have := hP _ _ hp; omega)).1.trans d⟩
theorem PRE.ok : ∀ k j, PRE k j → k ≠ 4 ∧ k ≠ 5 ∧ k ≠ 6 ∧ k ≠ 8 ∧ k ≠ 9 ∧ k ≠ 10 ∧ k ≠ 14 ∧ (k = 3 → j ≠ 5) ∧ (k = 43 → j ≠ 4) := fun k j h => by unfold PRE at h; omega
theorem LOW.pre {b : Nat} {u w : Wd} (h : OFF PRE u w) : LOW b u w := fun j _ => ⟨(h 44 j (by unfold PRE; omega)).1, (h 45 j (by unfold PRE; omega)).1⟩
theorem IN1.tok {u w : Wd} {t t' base : Nat} {fa fa' : Int32} (h : IN1 kd wr z w t base fa) (hO : OFF (fun k j => k = 4 ∧ (j = 9 ∨ j = 10)) u w) (hT : CT kd wr true z u t' fa') : IN1 kd wr z u t' base fa' := by
  obtain ⟨a, b, c, d⟩ := h
  exact ⟨hT, (hO 3 5 (by omega)).1.trans b, (hO 14 0 (by omega)).1.trans c, (hO 43 4 (by omega)).1.trans d⟩
theorem PE1.tk {t k j : Nat} (h : k = 4 ∧ (j = 9 ∨ j = 10)) : PE1 t k j := Or.inl h
theorem LOW.tk {b : Nat} {u w : Wd} (h : OFF (fun k j => k = 4 ∧ (j = 9 ∨ j = 10)) u w) : LOW b u w := fun j _ => ⟨(h 44 j (by omega)).1, (h 45 j (by omega)).1⟩
theorem RUN.tr {r : Option (Int32 × Wd)} {w w0 : Wd} {t t0 base : Nat} {o : Sum Nat Nat} {fa : Int32} {Q : Int32 → Nat → Wd → Prop} (h : RUN kd wr z r w t base o fa Q) (hL : LOW base w w0) (hO : OFF (PE1 t0) w w0) (ht : t0 ≤ t) : RUN kd wr z r w0 t0 base o fa Q := by
  obtain ⟨x, v, a, b, c, d, e⟩ := h
  exact ⟨x, v, a, b.tr hL, OFF.tr (c.mono (fun _ _ hp => hp.le ht)) hO, d, fun e' he => ⟨by have := (e e' he).1; omega, (e e' he).2⟩⟩
theorem RUN.pre {r : Option (Int32 × Wd)} {w w0 : Wd} {t base : Nat} {o : Sum Nat Nat} {fa : Int32} {Q : Int32 → Nat → Wd → Prop} (h : RUN kd wr z r w t base o fa Q) (hO : OFF PRE w w0) : RUN kd wr z r w0 t base o fa Q :=
  h.tr (LOW.pre hO) (hO.mono (fun _ _ hp => hp.p)) (Nat.le_refl _)
theorem RUN.mono {r : Option (Int32 × Wd)} {w0 : Wd} {t0 base : Nat} {o : Sum Nat Nat} {fa : Int32} {Q Q' : Int32 → Nat → Wd → Prop} (h : RUN kd wr z r w0 t0 base o fa Q) (hQ : ∀ x e v, o = .inr e → OFF (PE1 t0) v w0 → Q x e v → Q' x e v) : RUN kd wr z r w0 t0 base o fa Q' := by
  obtain ⟨x, v, a, b, c, d, e⟩ := h
  exact ⟨x, v, a, b, c, d, fun e' he => ⟨(e e' he).1, (e e' he).2.1, hQ _ _ _ he c (e e' he).2.2⟩⟩
/-- one, then the other -/
theorem RUN.bind {r : Option (Int32 × Wd)} {k : Int32 → Wd → Option (Int32 × Wd)} {w0 : Wd} {t0 base : Nat} {o : Sum Nat Nat} {fa : Int32} {Q Q2 : Int32 → Nat → Wd → Prop} {g : Nat → Sum Nat Nat} (hwr : ∀ i, wr i ≤ 8192) (hz : t0 < z) (h : RUN kd wr z r w0 t0 base o fa Q) (hg : ∃ q, g (z - 1) = .inl q)
    (K : ∀ x v t fa', IN1 kd wr z v t base fa' → t0 ≤ t → OFF (PE1 t0) v w0 → (o = .inr t ∧ Q x t v ∨ (∃ p, o = .inl p) ∧ t = z - 1) → RUN kd wr z (k x v) v t base (g t) fa' Q2) : RUN kd wr z (bn2 r k) w0 t0 base (sb o g) fa Q2 := by
  obtain ⟨x, v, a, b, c, d, e⟩ := h
  rw [a, bn2_so]
  rcases o with p | e1
  · obtain ⟨q, hq⟩ := hg
    have h1 := K x v (z - 1) _ (d p rfl) (by omega) c (Or.inr ⟨⟨p, rfl⟩, rfl⟩)
    rw [hq] at h1
    obtain ⟨x2, v2, a2, b2, c2, d2, e2⟩ := h1.tr b c (by omega)
    refine ⟨x2, v2, a2, b2, c2, fun p' hp => ?_, fun e' he => nomatch he⟩
    injection hp with hp
    subst hp
    have := d2 q rfl
    rw [FA_FA hwr] at this
    exact this
  · obtain ⟨h1, h2, h3⟩ := e e1 rfl
    exact (K x v e1 fa h2 h1 c (Or.inl ⟨rfl, h3⟩)).tr b c h1
/-- a TOKEN that must be there, then the rest -/
theorem RUN.need {w : Wd} {t base : Nat} {fa : Int32} {k : Nat} {K : Wd → Option (Int32 × Wd)} {g : Nat → Sum Nat Nat} {Q2 : Int32 → Nat → Wd → Prop} (hwr : ∀ i, wr i ≤ 8192) (h : IN1 kd wr z w t base fa) (hk : k ≤ 50) (h0 : k ≠ 0) (hg : ∃ q, g (z - 1) = .inl q ∨ kd t = k)
    (H : ∀ v t' fa', IN1 kd wr z v t' base fa' → OFF (fun k j => k = 4 ∧ (j = 9 ∨ j = 10)) v w → (kd t = k ∧ t' = t + 1 ∨ kd t ≠ k ∧ t' = z - 1) → RUN kd wr z (K v) v t' base (g t') fa' Q2) :
    RUN kd wr z (lt (fX9_need (Int32.ofNat k) w) K) w t base (if kd t = k then g (t + 1) else .inl t) fa Q2 := by
  obtain ⟨n1, n2, n3⟩ := a_need h.1 hk h0
  have htz := h.1.2.2.2.2.2.2.1
  rw [ltq]
  by_cases q : kd t = k
  · rw [if_pos q]
    exact (H _ _ _ (h.tok n3 (n1 q)) n3 (Or.inl ⟨q, rfl⟩)).tr (LOW.tk n3) (n3.mono (fun _ _ hp => PE1.tk hp)) (by omega)
  · rw [if_neg q]
    have h1 := (H _ _ _ (h.tok n3 (n2 q)) n3 (Or.inr ⟨q, rfl⟩)).tr (LOW.tk n3) (n3.mono (fun _ _ hp => PE1.tk (t := t) hp)) (by omega)
    obtain ⟨qq, hq⟩ := hg
    rcases hq with hq | hq
    · rw [hq] at h1
      obtain ⟨x2, v2, a2, b2, c2, d2, e2⟩ := h1
      refine ⟨x2, v2, a2, b2, c2, fun p' hp => ?_, fun e' he => nomatch he⟩
      injection hp with hp
      subst hp
      have := d2 qq rfl
      rw [FA_FA hwr] at this
      exact this
    · exact absurd hq q
/-- the last TOKEN that must be there -/
theorem RUN.last {w : Wd} {t base : Nat} {fa : Int32} {k : Nat} {K : Wd → Option (Int32 × Wd)} {Q2 : Int32 → Nat → Wd → Prop} (h : IN1 kd wr z w t base fa) (hk : k ≤ 50) (h0 : k ≠ 0)
    (H : ∀ v, OFF (fun k j => k = 4 ∧ (j = 9 ∨ j = 10)) v w → ∃ x u, K v = some (x, u) ∧ OFF PRE u v ∧ (kd t = k → Q2 x (t + 1) u)) :
    RUN kd wr z (lt (fX9_need (Int32.ofNat k) w) K) w t base (if kd t = k then .inr (t + 1) else .inl t) fa Q2 := by
  obtain ⟨n1, n2, n3⟩ := a_need h.1 hk h0
  rw [ltq]
  obtain ⟨x, u, k1, k2, k3⟩ := H _ n3
  refine ⟨x, u, k1, (LOW.pre k2).tr (LOW.tk n3), OFF.tr (k2.mono (fun _ _ hp => hp.p)) (n3.mono (fun _ _ hp => PE1.tk hp)), fun p hp => ?_, fun e he => ?_⟩
  · by_cases q : kd t = k
    · rw [if_pos q] at hp; exact nomatch hp
    · rw [if_neg q] at hp
      injection hp with hp
      subst hp
      exact (h.tok n3 (n2 q)).off k2 PRE.ok
  · by_cases q : kd t = k
    · rw [if_pos q] at he
      injection he with he
      subst he
      exact ⟨by omega, (h.tok n3 (n1 q)).off k2 PRE.ok, k3 q⟩
    · rw [if_neg q] at he; exact nomatch he
/-- opn, then the rest, which goes on at its DEPTH -/
theorem RUN.opn {w : Wd} {t base d : Nat} {fa : Int32} {K : Int32 → Wd → Option (Int32 × Wd)} {g : Nat → Sum Nat Nat} {Q2 : Int32 → Nat → Wd → Prop} (hwr : ∀ i, wr i ≤ 8192) (h : IN1 kd wr z w t base fa) (hk : kd t ≠ 0) (h4 : kd t ≠ 4) (hd : d ≤ 40) (hg : ∃ q, g (z - 1) = .inl q)
    (H : ∀ v t' fa', IN1 kd wr z v t' base fa' → OFF (fun k j => k = 4 ∧ (j = 9 ∨ j = 10)) v w → (d < 40 ∧ t' = t + 1 ∨ d = 40 ∧ t' = z - 1) → RUN kd wr z (K (Int32.ofNat (d + 1)) v) v t' base (g t') fa' Q2) :
    RUN kd wr z (lt2 (fX9_open (Int32.ofNat d) w) K) w t base (if 40 ≤ d then .inl (t + 1) else g (t + 1)) fa Q2 := by
  obtain ⟨n0, n1, n2, n3⟩ := a_open h.1 hk h4 hd
  have htz := h.1.2.2.2.2.2.2.1
  rw [lt2q, n0]
  by_cases q : 40 ≤ d
  · rw [if_pos q]
    have h1 := (H _ _ _ (h.tok n3 (n2 q)) n3 (Or.inr ⟨by omega, rfl⟩)).tr (LOW.tk n3) (n3.mono (fun _ _ hp => PE1.tk (t := t) hp)) (by omega)
    obtain ⟨qq, hq⟩ := hg
    rw [hq] at h1
    obtain ⟨x2, v2, a2, b2, c2, d2, e2⟩ := h1
    refine ⟨x2, v2, a2, b2, c2, fun p' hp => ?_, fun e' he => nomatch he⟩
    injection hp with hp
    subst hp
    have := d2 qq rfl
    rw [FA_FA hwr] at this
    exact this
  · rw [if_neg q]
    exact (H _ _ _ (h.tok n3 (n1 (by omega))) n3 (Or.inl ⟨by omega, rfl⟩)).tr (LOW.tk n3) (n3.mono (fun _ _ hp => PE1.tk hp)) (by omega)
/-- it ends here, with changes that are none of the TOKENS' -/
theorem RUN.done {w u : Wd} {t base : Nat} {fa x : Int32} {Q : Int32 → Nat → Wd → Prop} (h : IN1 kd wr z w t base fa) (hO : OFF PRE u w) (hQ : Q x t u) : RUN kd wr z (some (x, u)) w t base (.inr t) fa Q :=
  ⟨x, u, rfl, LOW.pre hO, hO.mono (fun _ _ hp => hp.p), (fun p hp => nomatch hp), fun e he => by
    injection he with he
    subst he
    exact ⟨Nat.le_refl _, h.off hO PRE.ok, hQ⟩⟩
end P1
