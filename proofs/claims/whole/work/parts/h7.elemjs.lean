/-! BOTH MACHINES: rows of values, ELEMENTS -/
section EL7
variable {E : SENV} {K : CXT} {Lim k n p nx a a1 b b1 y tk h sp sc i el j nb xx q : Nat} {x : Int} {wA wM uA uM : Wd} {stk : List Nat} {ty : Int32} {A B : ACT}
/-- values in a row -/
def ROWV (n h sp : Nat) (uA uM : Wd) : Prop := ∀ k, k < n → gl uA 51 (h + k) = gl uM 85 (sp + k) ∧ VT 1 (gl uA 51 (h + k))
theorem fold_mx {f : Nat → Nat} : ∀ (xs : List Nat) (m : Nat), m ≤ xs.foldl (fun m x => max m (f x)) m ∧ ∀ x ∈ xs, f x ≤ xs.foldl (fun m x => max m (f x)) m := by
  intro xs
  induction xs with
  | nil => exact fun m => ⟨Nat.le_refl _, fun x hx => absurd hx (by simp)⟩
  | cons y r ih =>
    intro m
    obtain ⟨h1, h2⟩ := ih (max m (f y))
    refine ⟨Nat.le_trans (Nat.le_max_left _ _) h1, fun x hx => ?_⟩
    rcases List.mem_cons.mp hx with rfl | hx
    · exact Nat.le_trans (Nat.le_max_right _ _) h1
    · exact h2 x hx
/-- a row of values is worked out -/
theorem SIR (hE : EOKS E) {M : Nat} {WA WM : Nat → Nat → Nat → Nat → Prop} : ∀ (xs : List Nat) (iA iM a a1 b b1 : Nat), (∀ y ∈ xs, ∀ iA iM a a' b b', WA y iA a a' → WM y iM b b' → a ≤ a' ∧ b ≤ b' ∧ (a' < eNo E 5 0 → b' < 60000 → SIV E Lim stk p 1 M a a' b b')) → rwM WA xs iA a a1 → rwM WM xs iM b b1 → a1 < eNo E 5 0 → b1 < 60000 →
    ∀ (K : CXT) (A : ACT) (h sp sc : Nat) (x : Int) (i : Nat) (wA wM : Wd), K.1[K.2.2 0]? = some A → aOn A → (∀ s ∈ stk, s ∈ aK A) → aP A = p → JS E K (K.2.2 5) a b h sp sc x i wA wM → HND E K Lim → eNo E 5 5 ≤ Lim + sc → h + xs.length + M ≤ 502 * (K.2.2 3 + 1) → (∀ (j : Nat) (B : ACT), K.1[j]? = some B → x + (a1 - a) ≤ aX B) → x + (a1 - a) ≤ KK →
    CTG E K (fun _ => ROWV xs.length) xs.length a1 b1 h sp sc (x + (a1 - a)) wA wM → a ≤ a1 ∧ b ≤ b1 ∧ GD E i wA wM := by
  have LE : ∀ (xs : List Nat) (iA iM a a1 b b1 : Nat), (∀ y ∈ xs, ∀ iA iM a a' b b', WA y iA a a' → WM y iM b b' → a ≤ a' ∧ b ≤ b' ∧ (a' < eNo E 5 0 → b' < 60000 → SIV E Lim stk p 1 M a a' b b')) → rwM WA xs iA a a1 → rwM WM xs iM b b1 → a ≤ a1 ∧ b ≤ b1 := by
    intro xs
    induction xs with
    | nil =>
      intro iA iM a a1 b b1 _ hA hM
      have hA : a1 = a := hA
      have hM : b1 = b := hM
      omega
    | cons y r ih =>
      intro iA iM a a1 b b1 hW ⟨a2, A1, A2⟩ ⟨b2, M1, M2⟩
      have := hW y List.mem_cons_self _ _ _ _ _ _ A1 M1
      have := ih _ _ _ _ _ _ (fun z hz => hW z (List.mem_cons_of_mem _ hz)) A2 M2
      omega
  intro xs
  induction xs with
  | nil =>
    intro iA iM a a1 b b1 _ hA hM ha hb K A h sp sc x i wA wM hAt hon hst hp H hH hL hh hxa hxk hc
    have hA : a1 = a := hA
    have hM : b1 = b := hM
    subst hA
    subst hM
    refine ⟨Nat.le_refl _, Nat.le_refl _, ?_⟩
    have e : x + ((a1 : Int) - a1) = x := by omega
    rw [e] at hc
    exact hc wA wM sc i H (Nat.le_refl _) (fun k hk => absurd hk (Nat.not_lt_zero _)) KEE.rf
  | cons y r ih =>
    intro iA iM a a1 b b1 hW hA hM ha hb K A h sp sc x i wA wM hAt hon hst hp H hH hL hh hxa hxk hc
    have hle := LE _ _ _ _ _ _ _ hW hA hM
    obtain ⟨a2, A1, A2⟩ := hA
    obtain ⟨b2, M1, M2⟩ := hM
    have h1 := hW y List.mem_cons_self _ _ _ _ _ _ A1 M1
    have h2 := LE _ _ _ _ _ _ _ (fun z hz => hW z (List.mem_cons_of_mem _ hz)) A2 M2
    have hlen : (y :: r).length = r.length + 1 := rfl
    rw [hlen] at hh hc
    refine ⟨hle.1, hle.2, ?_⟩
    refine h1.2.2 (by omega) (by omega) K A h sp sc x i wA wM hAt hon hst hp H hH hL (by omega) (fun j B hB => by have := hxa j B hB; omega) (by omega) ?_
    intro uA uM v sc1 i1 J1 s1 u1 u2 hv k1
    refine (ih _ _ _ _ _ _ (fun z hz => hW z (List.mem_cons_of_mem _ hz)) A2 M2 ha hb K A (h + 1) (sp + 1) sc1 _ i1 uA uM hAt hon hst hp J1 hH (by omega) (by omega) (fun j B hB => by have := hxa j B hB; omega) (by omega) ?_).2.2
    intro yA yM sc2 i2 J2 s2 hR k2
    have e : x + (a2 - a) + ((a1 : Int) - a2) = x + (a1 - a) := by omega
    have e1 : h + 1 + r.length = h + (r.length + 1) := by omega
    have e2 : sp + 1 + r.length = sp + (r.length + 1) := by omega
    rw [e, e1, e2] at J2
    refine hc yA yM sc2 i2 J2 (by omega) (fun q hq => ?_) (k1.tr (k2.le (by omega) (Nat.le_refl _) (by omega) (Nat.le_refl _)))
    by_cases z : q = 0
    · subst z
      have g1 : gl yA 51 h = v := (k2.1 h (by omega)).trans u1
      have g2 : gl yM 85 sp = v := (k2.2.2.1 sp (by omega)).trans u2
      rw [Nat.add_zero, Nat.add_zero, g1, g2]
      exact ⟨rfl, hv⟩
    · have := hR (q - 1) (by omega)
      rw [show h + 1 + (q - 1) = h + q by omega, show sp + 1 + (q - 1) = sp + q by omega] at this
      exact this
/-- the ELEMENT's place, out of its ARRAY and the indices -/
theorem JS.elem (hE : EOKS E) (H : JS E K (K.2.2 5) a b (h + 1 + n) (sp + n) sc x i wA wM) (hA : K.1[K.2.2 0]? = some A) (hon : aOn A) (hw : gl (cA E) 41 a = wdC 25 0 (Int32.ofNat n)) {X Y : Int32} (ho : opW (dM E) b 5 X Y (Int32.ofNat n)) (hst : fX12_step wM = fX12_element_ (Int32.ofNat q) (Int32.ofNat n) (si wM 0 128 (Int32.ofNat (b + 1)))) (hD : DESC K.2.1 xx q ty nb) (v1 : gl wA 51 h = Int64.ofNat xx) (hR : ROWV n (h + 1) sp wA wM) (hn : n ≤ 3) (ha : a < eNo E 5 0) (hb : b < 60000) (L : LOWK K h sp) (hsp : sp ≤ h) (hxk : x + 1 ≤ KK) (hqb : q < 199000)
    (hc : ∀ uA uM, JS E K (K.2.2 5) (a + 1) (b + 1) (h + 1) (sp + 1) sc (x + 1) (i + 1) uA uM → PP ty K h sp uA uM → OFF (PSK h) uA wA → OFF (PSO sp) uM wM → GD E (i + 1) uA uM) : GD E i wA wM := by
  have hd := H.dep
  obtain ⟨C, M⟩ := H.cka hA
  obtain ⟨hM, hDi⟩ := H.mem
  obtain ⟨base, sz, lo, hi, g1, g2, g3, g4, g5, g6, g7⟩ := hD
  have x1 := ((hDi.2.2 _ _ _ _ _ _ g1).2.1 (by omega)).1
  have x2 := ((hDi.2.2 _ _ _ _ _ _ g2).2.1 (by omega)).1
  have q2 : q + 1 < 199000 ∨ 1048576 ≤ q + 1 := by
    have := M.2.2.2.2.2.2.2.2.2.2.2.2.2.2.2.1
    rcases (hDi.2.2 _ _ _ _ _ _ g2).2.2.1 (by omega) with c | c
    · omega
    · omega
  have hq1 : q + 1 < 199000 := by omega
  have rA : ∀ {z r : Nat} {t : Int32} {va vm : Int64}, K.2.1 1 z r t va vm → gl wA 50 z = va := fun g => (hM _ _ _ _ _ _ g).2.1 (Or.inl rfl)
  have rM : ∀ {z r : Nat} {t : Int32} {va vm : Int64}, K.2.1 1 z r t va vm → r < 1048576 → gl wM 83 r = vm := fun g hr => by
    have := (hM _ _ _ _ _ _ g).2.2 (Or.inl rfl)
    unfold RMq at this
    rw [if_pos hr] at this
    exact this
  have M1 := M.nx (b1 := b + 1) (by omega)
  have T5 : ∀ Z, gl (si wM 0 128 (Int32.ofNat (b + 1))) 83 Z = gl wM 83 Z := fun Z => gl_si _ _ _ _ _ _
  obtain ⟨kA1, kA2, kA3⟩ := k_elem (lo := lo) (hi := hi) (ix := fun k => gl wA 51 (h + 1 + k)) C ha hw (by omega) v1 x1 (rA g1) g4.2
  obtain ⟨kM1, kM2, kM3⟩ := e_elem (w := si wM 0 128 (Int32.ofNat (b + 1))) (sp := sp) (q := q) (nb := nb) (n := n) (lo := lo) (hi := hi) (ix := fun k => gl wA 51 (h + 1 + k)) M1.2.2.2.2.1 M1.2.1 (by omega) (by omega) (by omega) ((T5 _).trans (rM g1 (by omega))) g4.2
  rw [← hst] at kM1 kM2 kM3
  have hrun := M.runs ho hb (by decide)
  have hELA : nb = n → ELA wA (K.2.2 1) xx h n lo hi (fun k => gl wA 51 (h + 1 + k)) := fun e => ⟨hn, x2, by omega, C.2.2.2.2.2.2.2.2.2.1, fun k hk => by
    obtain ⟨d1, d2, d3, d4⟩ := g3 k (by omega)
    exact ⟨((hDi.2.2 _ _ _ _ _ _ d2).2.1 (by omega)).1, rA d1, rA d2, rfl⟩⟩
  have hELM : nb = n → ELM (si wM 0 128 (Int32.ofNat (b + 1))) q sp n lo hi (fun k => gl wA 51 (h + 1 + k)) := fun e => ⟨hn, by omega, fun k hk => by
    obtain ⟨d1, d2, d3, d4⟩ := g3 k (by omega)
    exact ⟨(gl_si _ _ _ _ _ _).trans (rM d1 (by omega)), (gl_si _ _ _ _ _ _).trans (rM d2 (by omega)), (gl_si _ _ _ _ _ _).trans (hR k hk).1.symm⟩⟩
  have bad : ∀ (e1 : fX3_tick wA = some (si (si wA 48 11 (Int32.ofNat (a + 1))) 48 10 1)) (e2 : fX12_step wM = some (si (si (si wM 0 128 (Int32.ofNat (b + 1))) 0 130 (Int32.ofNat sp)) 0 140 1)), GD E i wA wM := fun e1 e2 => by
    obtain ⟨_, pr, de, fu, j1, j2, j3, j4, j5, j6, j7, j8⟩ := id H
    have OA : OFF (fun k j => k = 48 ∧ (j = 10 ∨ j = 11)) (si (si wA 48 11 (Int32.ofNat (a + 1))) 48 10 1) wA := OFF.tr (OFF.si (by omega)) (OFF.si (by omega))
    have OM : OFF (fun k j => k = 0 ∧ (j = 128 ∨ j = 130 ∨ j = 140)) (si (si (si wM 0 128 (Int32.ofNat (b + 1))) 0 130 (Int32.ofNat sp)) 0 140 1) wM := OFF.tr (OFF.si (by omega)) (OFF.tr (OFF.si (by omega)) (OFF.si (by omega)))
    refine H.fin hE (k := 1) (by decide) (TKS.one hd.2.2.2.2 e1) (SPS.one hrun e2) (by omega) (f := 1) ⟨gi_si0 _ _ _ _, by decide⟩ (Or.inr (Or.inl ⟨gi_si0 _ _ _ _, by decide, by decide⟩)) (j4.off OA (fun k j p => by omega)) (j6.off OM (fun k j p => by omega)) (fun j p1 p2 => ?_) (OA.mono fun k j p => by unfold PZA; omega) (OM.mono fun k j p => by unfold PZR; omega)
    rw [(OA 55 j (by omega)).2, (OM 86 j (by omega)).2]; exact j7 j p1 p2
  by_cases e : nb = n
  · by_cases hI : ∃ k, k < n ∧ ¬ INR lo hi (fun k => gl wA 51 (h + 1 + k)) k
    · exact bad (kA2 e (hELA e) hI) (kM2 e (hELM e) hI)
    · have hI' : ∀ k, k < n → INR lo hi (fun k => gl wA 51 (h + 1 + k)) k := fun k hk => Classical.byContradiction fun c => hI ⟨k, hk, c⟩
      have t1 := kA1 e (hELA e) hI'
      have t2 := kM1 e (hELM e) hI'
      obtain ⟨t, u1, u2⟩ := ofE_ok (lo := lo) (hi := hi) (ix := fun k => gl wA 51 (h + 1 + k)) (n := n) (fun k hk => ⟨hI' k hk, (g3 k (by omega)).2.2⟩) (by rw [← e, g5]; omega)
      rw [← e, g5] at u2
      rw [u1, rA g2, i64_add] at t1
      rw [u1, T5, rM g2 (by omega), show (1048576 : Int64) = Int64.ofNat 1048576 from rfl, i64_add, i64_add] at t2
      have OA : OFF (PSK h) (pshQ (si (si wA 48 11 (Int32.ofNat (a + 1))) 48 14 (Int32.ofNat h)) h (Int64.ofNat (4096 + base + t))) wA := OFF.tr pshQ_off (OFF.tr (OFF.si (Or.inl ⟨rfl, Or.inr rfl⟩)) (OFF.si (Or.inl ⟨rfl, Or.inl rfl⟩)))
      have OM : OFF (PSO sp) (pshM (si (si wM 0 128 (Int32.ofNat (b + 1))) 0 130 (Int32.ofNat sp)) sp (Int64.ofNat (1048576 + base + t))) wM := OFF.tr pshM_off (OFF.tr (OFF.si (Or.inl ⟨rfl, Or.inr rfl⟩)) (OFF.si (Or.inl ⟨rfl, Or.inl rfl⟩)))
      have g := g7 (base + t) (by omega) (by omega)
      rw [show 4096 + (base + t) = 4096 + base + t by omega, show 1048576 + (base + t) = 1048576 + base + t by omega] at g
      refine JS.stp (k := 1) (j := 1) (x1 := x + 1) hE H (TKS.one hd.2.2.2.2 t1) (SPS.one hrun t2) (by omega) L OA OM ?_ (gi_si0 _ _ _ _) ?_ (gi_si0 _ _ _ _) ⟨by omega, by omega, by omega, by omega, by omega⟩ ⟨Int.le_refl _, hxk⟩ (fun J => hc _ _ J ⟨_, _, pshQ_v, pshM_v, g⟩ OA OM)
      · unfold pshQ; rw [gi_si1 (by omega), gi_sl, gi_si1 (by omega), gi_si0]
      · unfold pshM; rw [gi_si1 (by omega), gi_sl, gi_si1 (by omega), gi_si0]
  · exact bad (kA3 e) (kM3 e)
end EL7
