/-! THE CLASS, first pass: calls, NAMES, PRIMARIES -/
section P1
variable {kd wr : Nat → Nat} {z k d : Nat} {rc : TX2_typed}
theorem a2_actual {f : Nat → Sum Nat Nat} (hE : A2 kd wr z d f (QW kd k d) (fun w => rc 2 (Int32.ofNat d) 0 0 w)) : A2 kd wr z d f (QW kd k d) (fun w => fX2_actual rc (Int32.ofNat d) 0 w) := by
  intro w t base fa h hb hd
  have htz := h.tz
  have hz9 := h.z9
  show RUN kd wr z (fX2_actual rc (Int32.ofNat d) 0 w) w t base (f t) fa _
  unfold fX2_actual
  rw [ltq, ltq, sort_0 h.s0, if_pos rfl, a_at h.1]
  have h9 : fX9_isAim (Int32.ofNat t) w = false := by
    unfold fX9_isAim
    rw [ltq, rgi_iN (n := t) (m := 8193) (by omega) (by omega), (h.1.2.2.2.2.2.2.2.2.2 rfl t (Nat.le_refl _) htz).2.1, if_pos rfl]
  rw [ltq, h9, if_neg (by decide)]
  obtain ⟨x, v, a, b, c, e, g⟩ := hE w t base fa h hb hd
  dsimp only at a
  rw [a, bn2_so]
  exact ⟨0, v, rfl, b, c, e, g⟩
theorem ca_165 {w : Wd} : ∃ u, fX2_call_165 rc 0 w = some (0, u) ∧ OFF PRE u w := by
  unfold fX2_call_165
  rw [ltq, lt2q]
  exact ⟨_, rfl, OFF.tr e_put__ e_putSymbol⟩
theorem ca_131 {w : Wd} (h : SY0 w) {a3 a4 : Int32} : ∃ u, fX2_call_131 rc 0 a3 a4 w = some (0, u) ∧ OFF PRE u w := by
  unfold fX2_call_131
  rw [ltq, sort_0 h, if_neg (by decide)]
  exact ca_165
theorem ca_end {w : Wd} {t base : Nat} {fa a3 a4 : Int32} (h : IN1 kd wr z w t base fa) : RUN kd wr z (lt (fX9_need 44 w) fun w7 => fX2_call_131 rc 0 a3 a4 w7) w t base (cl_ kd 44 t) fa (fun _ _ _ => True) := by
  refine RUN.last (k := 44) h (by omega) (by omega) (fun v hO => ?_)
  have hs : SY0 v := (hO 14 0 (by omega)).1.trans h.s0
  obtain ⟨u, h1, h2⟩ := ca_131 (rc := rc) hs (a3 := a3) (a4 := a4)
  exact ⟨_, u, h1, h2, fun _ => trivial⟩
theorem ca_60 {K : Int32 → Int32 → Int32 → Int32 → Wd → Option (Int32 × Wd)} {a3 a4 a5 : Int32} {w : Wd} (h : SY0 w) : fX2_call_60 rc K 0 a3 a4 a5 w = bn2 (rc 9 a5 0 0 w) fun _ w13 => lt (a4 + 1) fun x14 => K 0 a3 x14 a5 w13 := by
  unfold fX2_call_60
  rw [ltq, formal_0 h, ltq, sort_0 h, if_neg (by decide)]
theorem ca_loop (hwr : ∀ i, wr i ≤ 8192) {a3 : Int32} (hE : A2 kd wr z d (xw kd k d) (QW kd k d) (fun w => rc 9 (Int32.ofNat d) 0 0 w)) : ∀ (m n t a4 fo : Nat) (w : Wd) (fa : Int32) (base : Nat), z ≤ t + m → IN1 kd wr z w t base fa → 8200 ≤ t + n → 1 ≤ a4 → a4 ≤ t → base ≤ 10 * d → (d ≤ 40 ∨ d ≤ 41 ∧ kd t = 0) →
    RUN kd wr z (oX2_call_35 rc (fo + m + 1) 0 a3 (Int32.ofNat a4) (Int32.ofNat d) w) w t base (sb (rwC kd (xw kd k d) n t) (cl_ kd 44)) fa (fun _ e u => (kd t = 40 → rowF kd (xw kd k d) (fun s => fmW kd u k d s) n (t + 1))) := by
  intro m
  induction m with
  | zero => intro n t a5 fo w fa base hz h; have := h.tz; omega
  | succ m ih =>
    intro n t a5 fo w fa base hzm h hn h1 h5 hb hd
    have htz := h.tz
    have hz9 := h.z9
    have hk50 := h.k50
    have hst : oX2_call_35 rc (fo + (m + 1) + 1) 0 a3 (Int32.ofNat a5) (Int32.ofNat d) w = fX2_call_35 rc (oX2_call_35 rc (fo + m + 1)) 0 a3 (Int32.ofNat a5) (Int32.ofNat d) w := rfl
    rw [hst]
    unfold fX2_call_35
    rw [if_neg (show ¬ ((8193 : Int32) ≤ Int32.ofNat a5) from nle_iN (a := 8193) (by omega) (by omega)), if_neg (show ¬ (Int32.ofNat a5 = 0) from of_ne (k := 0) (by omega) (by omega) (by omega))]
    unfold rwC
    by_cases q : kd t = 40
    · rw [if_pos q]
      obtain ⟨e1, e2⟩ := a_take (k := 40) h.1 (by omega) (by rw [q]; rfl)
      rw [e1, lt2q, if_pos rfl]
      have hO : OFF (fun k j => k = 4 ∧ (j = 9 ∨ j = 10)) (si w 4 9 (Int32.ofNat (t + 1))) w := OFF.si ⟨rfl, Or.inl rfl⟩
      have h2 := h.tok hO e2
      rw [ca_60 h2.s0]
      obtain ⟨n1, rfl⟩ : ∃ n1, n = n1 + 1 := ⟨n - 1, by omega⟩
      refine (((rowX hwr hE h2 hb (Or.inl (by omega)) (fun x v t' fa' hv ht' hd' => ?_)).tr (LOW.tk hO) (hO.mono (fun _ _ hp => PE1.tk hp)) (by omega)).mono (fun x e u he hO2 hq => fun _ => hq))
      rw [ltq, ad1_iN]
      have ht1 : t + 1 < z := kdlt h.1 (by omega)
      have ht2 : a5 + 1 ≤ t' := by
        rcases ht' with ht' | ht'
        · have := xw_lt k d _ _ ht'; omega
        · omega
      have ht3 : t + 1 ≤ t' := by
        rcases ht' with ht' | ht'
        · have := xw_lt k d _ _ ht'; omega
        · omega
      exact ih n1 t' (a5 + 1) fo v fa' base (by omega) hv (by omega) (by omega) ht2 hb hd'
    · rw [if_neg q, show (40 : Int32) = Int32.ofNat 40 from rfl, a_take_no h.1 (by omega) q, lt2q, if_neg (by simp)]
      exact (ca_end h).mono (fun x e u _ _ _ => fun hk => absurd hk q)
/-- a call, its NAME behind -/
theorem ca_all (hwr : ∀ i, wr i ≤ 8192) {a3 : Int32} (hE : A2 kd wr z (d + 1) (xw kd k (d + 1)) (QW kd k (d + 1)) (fun w => rc 9 (Int32.ofNat (d + 1)) 0 0 w)) {w : Wd} {t base : Nat} {fa : Int32} (h : IN1 kd wr z w t base fa) (hk : kd t = 43) (hd : d ≤ 40) (hb : base ≤ 10 * (d + 1)) :
    RUN kd wr z (fX2_call rc (Int32.ofNat d) 0 a3 w) w t base (if 40 ≤ d then .inl (t + 1) else br_ kd (xw kd k (d + 1)) 44 (t + 1)) fa (fun _ e u => rowF kd (xw kd k (d + 1)) (fun s => fmW kd u k (d + 1) s) (9000 - (t + 1)) (t + 1)) := by
  unfold fX2_call
  rw [lt2q]
  refine RUN.pre ?_ (e_put__ (a := 41) (w := w))
  have h1 := h.off (e_put__ (a := 41) (w := w)) PRE.ok
  have htz := h.tz
  have hz9 := h.z9
  rw [ltq, a_kind h1.1, hk, if_pos (show Int32.ofNat 43 = 43 from rfl), br_eq]
  obtain ⟨n1, hn1⟩ : ∃ n1, 9000 - (t + 1) = n1 + 1 := ⟨9000 - (t + 1) - 1, by omega⟩
  rw [hn1]
  refine RUN.opn (g := fun s => sb (rw_ kd (xw kd k (d + 1)) (n1 + 1) s) (cl_ kd 44)) hwr h1 (by omega) (by omega) hd ⟨z - 1, by rw [rw_S, xw_0 h.zk]; rfl⟩ (fun v t' fa' hv hO hl => ?_)
  obtain ⟨f, hf⟩ := FU_ge (k := 9000 + 2) (by omega)
  rw [hf, ← Nat.add_assoc]
  show RUN kd wr z (fX2_call_35 rc (oX2_call_35 rc (f + 9000 + 1)) 0 a3 0 (Int32.ofNat (d + 1)) v) v t' base _ fa' _
  unfold fX2_call_35
  rw [if_neg (show ¬ ((8193 : Int32) ≤ 0) by decide), if_pos rfl, ca_60 hv.s0]
  have hd' : d + 1 ≤ 40 ∨ d + 1 ≤ 41 ∧ kd t' = 0 := by
    rcases hl with hl | hl
    · exact Or.inl (by omega)
    · exact Or.inr ⟨by omega, by rw [hl.2]; exact h.zk⟩
  have ht1 : t + 1 < z := kdlt h.1 (by omega)
  have htt : t' = t + 1 ∨ t' = z - 1 := by omega
  refine (rowX hwr hE hv hb hd' (fun x v2 t2 fa2 hv2 ht2 hd2 => ?_)).mono (fun x e u he hO2 hq => ?_)
  · rw [ltq, show (0 : Int32) + 1 = Int32.ofNat (0 + 1) from rfl]
    have hv2z := hv2.tz
    have ht3 : t + 1 ≤ t2 := by
      rcases ht2 with ht2 | ht2
      · have := xw_lt k (d + 1) _ _ ht2; omega
      · omega
    exact ca_loop hwr hE 9000 n1 t2 (0 + 1) f v2 fa2 base (by omega) hv2 (by omega) (by omega) (by omega) hb hd2
  · rcases htt with rfl | rfl
    · exact hq
    · rw [rw_S, xw_0 h.zk] at he
      exact nomatch he
end P1
