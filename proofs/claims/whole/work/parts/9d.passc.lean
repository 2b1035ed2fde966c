/-! THE CLASS, first pass: indices, calls -/
theorem AG9.pe {u v : Wd} {t s e : Nat} (h : OFF (PE1 t) u v) (he : e ≤ t) : AG9 u v s e := fun k j a b c d => (h k j (by unfold PE1; omega)).1
theorem sb_as {α β : Type} (o : Sum Nat α) (G : α → Sum Nat β) (c : β → Sum Nat Nat) : sb (match o with | .inl p => .inl p | .inr e => G e) c = sb o (fun e => sb (G e) c) := by
  cases o <;> rfl
theorem ofn0 : (0 : Int32) = Int32.ofNat 0 := rfl
theorem of_ne {n k : Nat} (hn : n < 2147483648) (hk : k < 2147483648) (h : n ≠ k) : ¬ (Int32.ofNat n = Int32.ofNat k) := fun e => h ((eq_iN hn hk).mp e)
section P1
variable {kd wr : Nat → Nat} {z k d : Nat} {rc : TX2_typed}
theorem rd_0 {pr : Nat → Nat → Sum Nat Nat} (hp : ∀ d t, kd t = 0 → pr d t = .inl t) : ∀ (j d t : Nat), kd t = 0 → rd kd pr j d t = .inl t := by
  intro j
  induction j with
  | zero =>
    intro d t h
    unfold rd
    rw [hp d t h]
  | succ j ih =>
    intro d t h
    unfold rd
    by_cases q : j = 4
    · rw [if_pos q]
      show rdN kd (rd kd pr j) 42 d t = _
      unfold rdN
      rw [if_neg (by omega)]
      exact ih d t h
    · rw [if_neg q, if_neg (by omega), ih d t h]
theorem xw_0 {t : Nat} (h : kd t = 0) : ∀ k d, xw kd k d t = .inl t := by
  intro k d
  cases k with
  | zero => rfl
  | succ k =>
    show whX kd (xp kd k) (xw kd k) d t = _
    unfold whX
    rw [if_neg (by omega)]
    unfold smX
    rw [rd_0 (fun d t h => prX_0 (by omega)) 9 d t h]
def cl_ (kd : Nat → Nat) (c e : Nat) : Sum Nat Nat := if kd e = c then .inr (e + 1) else .inl e
def rwC (kd : Nat → Nat) (f : Nat → Sum Nat Nat) (n t : Nat) : Sum Nat Nat := if kd t = 40 then rw_ kd f n (t + 1) else .inr t
def QW (kd : Nat → Nat) (k d t : Nat) (_ : Int32) (_ : Nat) (u : Wd) : Prop := fmW kd u k d t
theorem rw_S {f : Nat → Sum Nat Nat} {n t c : Nat} : sb (rw_ kd f (n + 1) t) (cl_ kd c) = sb (f t) (fun e => sb (rwC kd f n e) (cl_ kd c)) := by
  show sb (match f t with | .inl p => .inl p | .inr e => if kd e = 40 then rw_ kd f n (e + 1) else .inr e) _ = _
  rcases f t with p | e <;> rfl
theorem br_eq {f : Nat → Sum Nat Nat} {t c : Nat} : br_ kd f c t = sb (rw_ kd f (9000 - t) t) (cl_ kd c) := by
  unfold br_ sb cl_
  rcases rw_ kd f (9000 - t) t with p | e <;> rfl
theorem rwC_z {f : Nat → Sum Nat Nat} {n c y : Nat} (h : kd y = 0) (hc : c ≠ 0) : sb (rwC kd f n y) (cl_ kd c) = .inl y := by
  unfold rwC
  rw [if_neg (by omega)]
  show cl_ kd c y = _
  unfold cl_
  rw [if_neg (by omega)]
theorem IN1.zk {w : Wd} {t base : Nat} {fa : Int32} (h : IN1 kd wr z w t base fa) : kd (z - 1) = 0 := h.1.2.2.2.1 (z - 1) (by have := h.1.1; omega)
theorem IN1.tz {w : Wd} {t base : Nat} {fa : Int32} (h : IN1 kd wr z w t base fa) : t < z := h.1.2.2.2.2.2.2.1
theorem IN1.z9 {w : Wd} {t base : Nat} {fa : Int32} (h : IN1 kd wr z w t base fa) : z ≤ 8193 := h.1.2.1
theorem IN1.k50 {w : Wd} {t base : Nat} {fa : Int32} (h : IN1 kd wr z w t base fa) (i : Nat) : kd i ≤ 50 := h.1.2.2.1 i
theorem IN1.s0 {w : Wd} {t base : Nat} {fa : Int32} (h : IN1 kd wr z w t base fa) : SY0 w := h.2.2.1
/-- an EXPR of a row, then what's behind it in the row -/
theorem RUN.item (hwr : ∀ i, wr i ≤ 8192) {f : Nat → Sum Nat Nat} (hz0 : ∀ t, kd t = 0 → f t = .inl t) (hag : ∀ t e u v, f t = .inr e → fmW kd v k d t → AG9 u v t e → fmW kd u k d t) {r : Wd → Option (Int32 × Wd)} (hE : A2 kd wr z d f (QW kd k d) r) {n a5 c : Nat} (hc : c ≠ 0) {w : Wd} {t base : Nat} {fa : Int32} (h : IN1 kd wr z w t base fa) (hb : base ≤ 10 * d) (hd : d ≤ 40 ∨ d ≤ 41 ∧ kd t = 0) {K : Int32 → Wd → Option (Int32 × Wd)}
    (H : ∀ x v t' fa', IN1 kd wr z v t' base fa' → (f t = .inr t' ∨ t' = z - 1) → (d ≤ 40 ∨ d ≤ 41 ∧ kd t' = 0) → RUN kd wr z (K x v) v t' base (sb (rwC kd f n t') (cl_ kd c)) fa' (fun x e u => x = Int32.ofNat (a5 + 1 + (if kd t' = 40 then cntR kd f n (t' + 1) else 0)) ∧ (kd t' = 40 → rowF kd f (fun s => fmW kd u k d s) n (t' + 1)))) :
    RUN kd wr z (bn2 (r w) K) w t base (sb (rw_ kd f (n + 1) t) (cl_ kd c)) fa (fun x e u => x = Int32.ofNat (a5 + cntR kd f (n + 1) t) ∧ rowF kd f (fun s => fmW kd u k d s) (n + 1) t) := by
  rw [rw_S]
  have hz := h.tz
  refine RUN.bind hwr hz (hE w t base fa h hb hd) ⟨_, rwC_z h.zk hc⟩ (fun x v t' fa' hv ht hO hl => ?_)
  refine (H x v t' fa' hv (hl.elim (fun q => Or.inl q.1) (fun q => Or.inr q.2)) (hl.elim (fun q => ?_) (fun q => Or.inr ⟨by omega, by rw [q.2]; exact h.zk⟩))).mono (fun x' e u he hO2 hq => ?_)
  · rcases hd with hd | hd
    · exact Or.inl hd
    · rw [hz0 _ hd.2] at q
      exact nomatch q.1
  · rcases hl with ⟨h1, h2⟩ | ⟨⟨p, h1⟩, h2⟩
    · obtain ⟨q1, q2⟩ := hq
      have hcn : cntR kd f (n + 1) t = (if kd t' = 40 then cntR kd f n (t' + 1) + 1 else 1) := by
        rw [cntR, h1]
      refine ⟨?_, hag _ _ _ _ h1 h2 (AG9.pe hO2 (Nat.le_refl _)), fun e2 he2 hk => ?_⟩
      · rw [q1, hcn]
        by_cases q : kd t' = 40
        · rw [if_pos q, if_pos q]; congr 1; omega
        · rw [if_neg q, if_neg q]
      · rw [h1] at he2
        injection he2 with he2
        subst he2
        exact q2 hk
    · rw [h2, rwC_z h.zk hc] at he
      exact nomatch he
end P1
section P1
variable {kd wr : Nat → Nat} {z k d : Nat} {rc : TX2_typed}
theorem el_80 {w : Wd} {t base a5 : Nat} {fa a3 : Int32} (h : IN1 kd wr z w t base fa) : RUN kd wr z (fX2_element_80 rc 0 a3 (Int32.ofNat a5) w) w t base (cl_ kd 46 t) fa (fun x _ _ => x = Int32.ofNat a5) := by
  unfold fX2_element_80
  refine RUN.last (k := 46) h (by omega) (by omega) (fun v hO => ?_)
  have hs : SY0 v := (hO 14 0 (by omega)).1.trans h.s0
  rw [ltq, sort_0 hs, if_neg (by decide), lt2q]
  exact ⟨_, _, rfl, e_put_, fun _ => rfl⟩
theorem el_loop (hwr : ∀ i, wr i ≤ 8192) {a3 : Int32} (hE : ∀ a2, A2 kd wr z d (xw kd k d) (QW kd k d) (fun w => rc 0 (Int32.ofNat d) a2 0 w)) : ∀ (m n t a5 fo : Nat) (w : Wd) (fa : Int32) (base : Nat), z ≤ t + m → IN1 kd wr z w t base fa → 8200 ≤ t + n → 1 ≤ a5 → a5 ≤ t → base ≤ 10 * d → (d ≤ 40 ∨ d ≤ 41 ∧ kd t = 0) →
    RUN kd wr z (oX2_element_42 rc (fo + m + 1) 0 a3 (Int32.ofNat d) (Int32.ofNat a5) w) w t base (sb (rwC kd (xw kd k d) n t) (cl_ kd 46)) fa (fun x e u => x = Int32.ofNat (a5 + (if kd t = 40 then cntR kd (xw kd k d) n (t + 1) else 0)) ∧ (kd t = 40 → rowF kd (xw kd k d) (fun s => fmW kd u k d s) n (t + 1))) := by
  intro m
  induction m with
  | zero => intro n t a5 fo w fa base hz h; have := h.tz; omega
  | succ m ih =>
    intro n t a5 fo w fa base hzm h hn h1 h5 hb hd
    have htz := h.tz
    have hz9 := h.z9
    have hk50 := h.k50
    have hst : oX2_element_42 rc (fo + (m + 1) + 1) 0 a3 (Int32.ofNat d) (Int32.ofNat a5) w = fX2_element_42 rc (oX2_element_42 rc (fo + m + 1)) 0 a3 (Int32.ofNat d) (Int32.ofNat a5) w := rfl
    rw [hst]
    unfold fX2_element_42
    rw [if_neg (show ¬ ((8193 : Int32) ≤ Int32.ofNat a5) from nle_iN (a := 8193) (by omega) (by omega)), if_neg (show ¬ (Int32.ofNat a5 = 0) from of_ne (k := 0) (by omega) (by omega) (by omega))]
    unfold rwC
    by_cases q : kd t = 40
    · rw [if_pos q, if_pos q]
      obtain ⟨e1, e2⟩ := a_take (k := 40) h.1 (by omega) (by rw [q]; rfl)
      rw [e1, lt2q, if_pos rfl]
      have hO : OFF (fun k j => k = 4 ∧ (j = 9 ∨ j = 10)) (si w 4 9 (Int32.ofNat (t + 1))) w := OFF.si ⟨rfl, Or.inl rfl⟩
      have h2 := h.tok hO e2
      obtain ⟨n1, rfl⟩ : ∃ n1, n = n1 + 1 := ⟨n - 1, by omega⟩
      refine ((RUN.item (n := n1) (a5 := a5) (c := 46) hwr (fun t h => xw_0 h k d) (fun t e u v => fmW_agr k d t e) (hE 1) (by omega) h2 hb (Or.inl (by omega)) (fun x v t' fa' hv ht' hd' => ?_)).tr (LOW.tk hO) (hO.mono (fun _ _ hp => PE1.tk hp)) (by omega)).mono (fun x e u he hO2 hq => ⟨hq.1, fun _ => hq.2⟩)
      rw [ltq, ad1_iN]
      have ht1 : t + 1 < z := kdlt h.1 (by omega)
      have ht2 : a5 + 1 ≤ t' := by
        rcases ht' with ht' | ht'
        · have := xw_lt k d _ _ ht'; omega
        · omega
      have ht3 : t + 1 ≤ t' := by
        rcases ht' with ht' | ht'
        · have := xw_lt k d _ _ ht'; omega
        · omega
      exact ih n1 t' (a5 + 1) fo v fa' base (by omega) hv (by omega) (by omega) ht2 hb hd'
    · rw [if_neg q, if_neg q, show (40 : Int32) = Int32.ofNat 40 from rfl, a_take_no h.1 (by omega) q, lt2q, if_neg (by simp)]
      exact (el_80 h).mono (fun x e u _ _ hq => ⟨by rw [hq]; rfl, fun hk => absurd hk q⟩)
/-- '[' indices ']' -/
theorem el_all (hwr : ∀ i, wr i ≤ 8192) {a3 : Int32} (hE : ∀ a2, A2 kd wr z (d + 1) (xw kd k (d + 1)) (QW kd k (d + 1)) (fun w => rc 0 (Int32.ofNat (d + 1)) a2 0 w)) {w : Wd} {t base : Nat} {fa : Int32} (h : IN1 kd wr z w t base fa) (hk : kd t = 45) (hd : d ≤ 40) (hb : base ≤ 10 * (d + 1)) :
    RUN kd wr z (fX2_element rc (Int32.ofNat d) 0 a3 w) w t base (if 40 ≤ d then .inl (t + 1) else br_ kd (xw kd k (d + 1)) 46 (t + 1)) fa (fun x e u => x = Int32.ofNat (cntR kd (xw kd k (d + 1)) (9000 - (t + 1)) (t + 1)) ∧ rowF kd (xw kd k (d + 1)) (fun s => fmW kd u k (d + 1) s) (9000 - (t + 1)) (t + 1)) := by
  unfold fX2_element
  rw [ltq, isSort_0 h.s0, if_pos rfl]
  unfold fX2_element_21
  rw [ltq]
  refine RUN.pre ?_ (e_putSymbol (a := 0) (w := w))
  have h1 := h.off (e_putSymbol (a := 0) (w := w)) PRE.ok
  have htz := h.tz
  have hz9 := h.z9
  rw [br_eq]
  obtain ⟨n1, hn1⟩ : ∃ n1, 9000 - (t + 1) = n1 + 1 := ⟨9000 - (t + 1) - 1, by omega⟩
  rw [hn1]
  refine RUN.opn (g := fun s => sb (rw_ kd (xw kd k (d + 1)) (n1 + 1) s) (cl_ kd 46)) hwr h1 (by omega) (by omega) hd ⟨z - 1, by rw [rw_S, xw_0 h.zk]; rfl⟩ (fun v t' fa' hv hO hl => ?_)
  obtain ⟨f, hf⟩ := FU_ge (k := 9000 + 2) (by omega)
  rw [hf, ← Nat.add_assoc]
  show RUN kd wr z (fX2_element_42 rc (oX2_element_42 rc (f + 9000 + 1)) 0 a3 (Int32.ofNat (d + 1)) 0 v) v t' base _ fa' _
  unfold fX2_element_42
  rw [if_neg (show ¬ ((8193 : Int32) ≤ 0) by decide), if_pos rfl]
  have hd' : d + 1 ≤ 40 ∨ d + 1 ≤ 41 ∧ kd t' = 0 := by
    rcases hl with hl | hl
    · exact Or.inl (by omega)
    · exact Or.inr ⟨by omega, by rw [hl.2]; exact h.zk⟩
  have ht1 : t + 1 < z := kdlt h.1 (by omega)
  have htt : t' = t + 1 ∨ t' = z - 1 := by omega
  refine (RUN.item (n := n1) (a5 := 0) (c := 46) hwr (fun t h => xw_0 h k (d + 1)) (fun t e u v => fmW_agr k (d + 1) t e) (hE 1) (by omega) hv hb hd' (fun x v2 t2 fa2 hv2 ht2 hd2 => ?_)).mono (fun x e u he hO2 hq => ?_)
  · rw [ltq, show (0 : Int32) + 1 = Int32.ofNat (0 + 1) from rfl]
    have hv2z := hv2.tz
    have ht3 : t + 1 ≤ t2 := by
      rcases ht2 with ht2 | ht2
      · have := xw_lt k (d + 1) _ _ ht2; omega
      · omega
    exact el_loop hwr hE 9000 n1 t2 (0 + 1) f v2 fa2 base (by omega) hv2 (by omega) (by omega) (by omega) hb hd2
  · rcases htt with rfl | rfl
    · exact ⟨by rw [hq.1, Nat.zero_add], hq.2⟩
    · rw [rw_S, xw_0 h.zk] at he
      exact nomatch he
end P1
section P1
variable {kd wr : Nat → Nat} {z k d : Nat}
/-- as RUN.item, without a count -/
theorem rowX (hwr : ∀ i, wr i ≤ 8192) {r : Wd → Option (Int32 × Wd)} (hE : A2 kd wr z d (xw kd k d) (QW kd k d) r) {n c : Nat} {w : Wd} {t base : Nat} {fa : Int32} (h : IN1 kd wr z w t base fa) (hb : base ≤ 10 * d) (hd : d ≤ 40 ∨ d ≤ 41 ∧ kd t = 0) {K : Int32 → Wd → Option (Int32 × Wd)}
    (H : ∀ x v t' fa', IN1 kd wr z v t' base fa' → (xw kd k d t = .inr t' ∨ t' = z - 1) → (d ≤ 40 ∨ d ≤ 41 ∧ kd t' = 0) → RUN kd wr z (K x v) v t' base (sb (rwC kd (xw kd k d) n t') (cl_ kd (c + 1))) fa' (fun x e u => kd t' = 40 → rowF kd (xw kd k d) (fun s => fmW kd u k d s) n (t' + 1))) :
    RUN kd wr z (bn2 (r w) K) w t base (sb (rw_ kd (xw kd k d) (n + 1) t) (cl_ kd (c + 1))) fa (fun x e u => rowF kd (xw kd k d) (fun s => fmW kd u k d s) (n + 1) t) := by
  rw [rw_S]
  have hz := h.tz
  refine RUN.bind hwr hz (hE w t base fa h hb hd) ⟨_, rwC_z h.zk (by omega)⟩ (fun x v t' fa' hv ht hO hl => ?_)
  refine (H x v t' fa' hv (hl.elim (fun q => Or.inl q.1) (fun q => Or.inr q.2)) (hl.elim (fun q => ?_) (fun q => Or.inr ⟨by omega, by rw [q.2]; exact h.zk⟩))).mono (fun x' e u he hO2 hq => ?_)
  · rcases hd with hd | hd
    · exact Or.inl hd
    · rw [xw_0 hd.2] at q
      exact nomatch q.1
  · rcases hl with ⟨h1, h2⟩ | ⟨⟨p, h1⟩, h2⟩
    · refine ⟨fmW_agr k d _ _ h1 h2 (AG9.pe hO2 (Nat.le_refl _)), fun e2 he2 hk => ?_⟩
      rw [h1] at he2
      injection he2 with he2
      subst he2
      exact hq hk
    · rw [h2, rwC_z h.zk (by omega)] at he
      exact nomatch he
end P1
theorem cntR_le {kd : Nat → Nat} {f : Nat → Sum Nat Nat} : ∀ {n t : Nat}, cntR kd f n t ≤ n := by
  intro n
  induction n with
  | zero => exact fun {t} => Nat.le_refl _
  | succ n ih =>
    intro t
    unfold cntR
    rcases f t with p | e
    · exact Nat.zero_le _
    · dsimp only
      by_cases q : kd e = 40
      · rw [if_pos q]; have := @ih (e + 1); omega
      · rw [if_neg q]; omega
