/-! BOTH MACHINES: calls with ACTUALS, as nodes -/
section LC2
/-- a call: words a .. a1, codes b .. b1; a value is left (t: on the pile, too) -/
def CAS (E : SENV) (Lim : Nat) (stk : List Nat) (p t : Nat) (ty : Int32) (a a1 b b1 : Nat) : Prop := ∀ (K : CXT) (A : ACT) (h sp sc : Nat) (x : Int) (i : Nat) (wA wM : Wd), K.1[K.2.2 0]? = some A → aOn A → (∀ s ∈ stk, s ∈ aK A) → aP A = p → JS E K (K.2.2 5) a b h sp sc x i wA wM → HND E K Lim → eNo E 5 5 ≤ Lim + sc → h + 2 ≤ 502 * (K.2.2 3 + 1) → (∀ (j : Nat) (B : ACT), K.1[j]? = some B → x + (a1 - a) ≤ aX B) → x + (a1 - a) ≤ KK →
  (∀ uA uM sc' i', JS E K (K.2.2 5) a1 b1 (h + 1) (sp + t) sc' (x + (a1 - a)) i' uA uM → sc ≤ sc' → (t = 1 → ty ≠ 0 → PV ty K h sp uA uM) → KEE h (K.2.2 3) sp (K.2.2 4) wA wM uA uM → GD E i' uA uM) → GD E i wA wM
variable {E : SENV} {K : CXT} {Lim p nx a a1 a2 b b1 b2 h sp sc i el S k n nf ff y th a0 b0 q c s tp mt lk dp cp Z fL j nn pp t f ac : Nat} {x x1 : Int} {wA wM uA uM zA zM : Wd} {A B N L : ACT} {stk : List Nat} {ty : Int32} {ax : Int}
theorem CAS.sig (H : CAS E Lim stk p 1 ty a a1 b b1) (h0 : ty ≠ 0) : SIG E Lim stk p (PV ty) 1 2 a a1 b b1 := fun K A h sp sc x i wA wM q1 q2 q3 q4 q5 q6 q7 q8 q9 q10 hc => H K A h sp sc x i wA wM q1 q2 q3 q4 q5 q6 q7 q8 q9 q10 fun uA uM sc' i' J s1 hv hk => hc uA uM sc' i' J s1 (hv rfl h0) hk
theorem ANO.jmp (hS : SYS E) (h : ANO E stk p k n f ac a a1 b b1) : b ≤ b1 ∧ (b1 = b ∨ opW (dM E) b 10 (Int32.ofNat b1) 0 0) := by
  have h6 := h.f6
  obtain ⟨hk, hc, hm, hf, ho, h5, ha, hb⟩ := h
  refine ⟨(WLE hS hk (k + 1) 5 n f h5 ho hf).2 _ _ _ _ _ hm, ?_⟩
  by_cases h1 : gi (vM E) 24 f = 1
  · rw [cdm5_1 h1] at hm
    exact Or.inr hm.2.1
  by_cases h4 : gi (vM E) 24 f = 4
  · rw [cdm5_4 h4] at hm
    exact Or.inr hm.2.1
  have h0 : gi (vM E) 24 f ≠ 0 := by
    obtain ⟨kd, m, C, c1, c2, c3, c4, c5, c6, c7, c8, c9, c10, c10', c11⟩ := hS
    exact (c10' f (by omega) h6.2).1
  rw [cdm5_d h1 h4 h0] at hm
  exact Or.inl hm.1
theorem ANO.le (hS : SYS E) (h : ANO E stk p k n f ac a a1 b b1) : a ≤ a1 := by
  obtain ⟨hk, hc, hm, hf, ho, h5, ha, hb⟩ := h
  exact (WLE hS hk (k + 1) 5 n f h5 ho hf).1 _ _ _ _ hc
/-- a call with ACTUALS, f: 0 if its value is wanted -/
theorem CAS.act (hE : EOKS E) (hS : SYS E) (hW : SAD E) (hCA : SCA E) (hSB : SLB E) (hAll : ∀ L, L < Lim → ALLX E L ∧ USD E L ∧ BOD E L) (hk : SCE E stk) (h7 : gi (vM E) 7 n = 5) (hc : CDC (vM E) (vA E) (eLU E stk) (eLV E p) (k + 1) 0 n f a a1 (cA E)) (hm : CDM (vM E) (eLU E stk) (eLV E p) (k + 1) 0 n f ac b b1 (dM E)) (hf : FLX (vM E) (eLU E stk) p (k + 1) 0 n f = []) (ho : OKN (vM E) (k + 1) 0 n) (ha : a1 < eNo E 5 0) (hb : b1 < 60000) : a ≤ a1 ∧ CAS E Lim stk p (if f = 0 then 1 else 0) (gi (vM E) 20 (eLU E stk (nd (vM E) 12 n) - 1)) a a1 b b1 := by
  obtain ⟨y, pp, nf, ff, ey, hy, h3, hf0, ⟨p1, p2, p3, p4, p5, p6, p7, p8⟩, hlen, h9, hffn, hall⟩ := act_n hS hk h7 ho hf
  obtain ⟨xs, hxs⟩ : ∃ xs, nxL (vM E) k (gi (vM E) 8 n) = xs := ⟨_, rfl⟩
  rw [cdc0_5 h7 hxs] at hc
  rw [cdm0_5 h7 hxs] at hm
  rw [hxs] at hlen hall
  rw [ey] at hc hm
  rw [Nat.add_sub_cancel] at hc hm
  rw [p4, p8] at hc hm
  obtain ⟨c1, a2, c2, c3, c4, c5⟩ := hc h3
  rcases hm with ⟨m1, _⟩ | ⟨_, s, a0, b2, m1, m2, m3, m4, m5, m6, m7, m8⟩
  · exact absurd (h3.symm.trans m1.1) (by decide)
  subst c5
  subst m5
  obtain ⟨g, g1, g2, g3⟩ := rwM.fn _ _ _ _ c2
  obtain ⟨gm, e1, e2, e3⟩ := rwM.fn _ _ _ _ m3
  rw [Nat.zero_add, hlen] at g2 e2
  have hgl : ∀ q, q < nf → g q ≤ g (q + 1) ∧ gm q ≤ gm (q + 1) := fun q hq => by
    obtain ⟨z, hz⟩ : ∃ z, xs[q]? = some z := ⟨xs[q]'(by omega), List.getElem?_eq_getElem (by omega)⟩
    obtain ⟨r1, r2, r3⟩ := hall q z hz
    have u1 := g3 q z hz
    have u2 := e3 q z hz
    rw [Nat.zero_add] at u1 u2
    have le := WLE hS hk k 5 z (ff + q) r1 r2 r3
    exact ⟨le.1 _ _ _ _ u1, le.2 _ _ _ _ _ u2⟩
  have up : ∀ (u : Nat → Nat), (∀ q, q < nf → u q ≤ u (q + 1)) → ∀ q, q ≤ nf → u q ≤ u nf := fun u hu q hq => by
    have : ∀ d, q + d ≤ nf → u q ≤ u (q + d) := by
      intro d
      induction d with
      | zero => exact fun _ => Nat.le_refl _
      | succ d ih => exact fun hd => Nat.le_trans (ih (by omega)) (hu (q + d) (by omega))
    have := this (nf - q) (by omega)
    rw [show q + (nf - q) = nf by omega] at this
    exact this
  have ug := up g (fun q hq => (hgl q hq).1)
  have um := up gm (fun q hq => (hgl q hq).2)
  have ga := ug 0 (by omega)
  have hx : ∃ k', ∀ q z, xs[q]? = some z → ANO E stk p k' z (ff + q) (a0 + q) (g q) (g (q + 1)) (gm q) (gm (q + 1)) := by
    cases k with
    | zero =>
      refine ⟨0, fun q z hz => ?_⟩
      have u1 := g3 q z hz
      exact u1.elim
    | succ k' =>
      refine ⟨k', fun q z hz => ?_⟩
      have hq : q < nf := by
        rcases List.getElem?_eq_some_iff.mp hz with ⟨w, _⟩
        omega
      obtain ⟨r1, r2, r3⟩ := hall q z hz
      have u1 := g3 q z hz
      have u2 := e3 q z hz
      rw [Nat.zero_add] at u1 u2
      have l1 := ug (q + 1) hq
      have l2 := um (q + 1) hq
      exact ⟨hk, u1, u2, r3, r2, r1, by omega, by omega⟩
  obtain ⟨k', hx⟩ := hx
  refine ⟨by omega, ?_⟩
  intro K A h sp sc x i wA wM hA hon hst hp H hH hL hh hxa hxk G
  obtain ⟨y', j, nn, B, ey', F⟩ := H.fns hS hA hon hst (tk := nd (vM E) 12 n) (by rw [ey]; omega)
  have : y' = y := by omega
  subst this
  have hpp2 : pp < 1200 := by
    obtain ⟨kd, m, C, q1, q2, q3, q4, _⟩ := hS
    omega
  have hC2 : eNo E 5 2 ≤ 4100 := by
    obtain ⟨kd, m, C, q1, q2, q3, q4, _⟩ := hS
    omega
  have ht : ∃ t : Nat, t ≤ 1 ∧ (if f = 0 then 1 else 0) = t ∧ (if f = 0 then (1 : Int32) else 0) = Int32.ofNat t := by
    by_cases z : f = 0
    · exact ⟨1, Nat.le_refl _, if_pos z, if_pos z⟩
    · exact ⟨0, by omega, if_neg z, if_neg z⟩
  obtain ⟨t, t1, t2, t3⟩ := ht
  rw [t2] at G
  rw [t3] at m4
  have e4 : (if Int32.ofNat t = 1 then 1 else 0) = t := by
    have : t = 0 ∨ t = 1 := by omega
    rcases this with z | z <;> subst z <;> rfl
  rw [ey, Nat.add_sub_cancel] at G
  refine CLL.act (t := t) (nf := nf) (ff := ff) (a2 := a2) (pp := pp) hE hS hW hCA hSB hAll H hA hon hst hp hH hL hh hxa hxk F h3 c1 hx hlen g1 g2 e1 e2 (fun q hq => ?_) (fun q hq => (hgl q hq).1) p3 hpp2 p5 p7 ⟨by omega, by omega⟩ c3 c4 m4 t1 m1 m6 m7 (fun _ => m8) (fun _ => by omega) (by omega) (by omega) (fun uA uM sc' i' J s1 hv kk => ?_)
  · obtain ⟨z, hz⟩ : ∃ z, xs[q]? = some z := ⟨xs[q]'(by omega), List.getElem?_eq_getElem (by omega)⟩
    exact (hx q z hz).jmp hS
  · rw [e4] at J
    exact G uA uM sc' i' J s1 (fun z h0 => hv (by rw [z]; rfl) h0) kk
end LC2
