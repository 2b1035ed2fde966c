/-! SCOPES, pure: chains of symbols, what a NAME is from a row of SCOPES -/
/-- number (from 1) of the first in a row whose name is x; 0 if none -/
def fnd (f : Nat → Nat) (x : Nat) : List Nat → Nat
  | [] => 0
  | i :: r => if f i = x then i + 1 else fnd f x r
/-- what x is, from the innermost of the SCOPES outwards -/
def lk (f : Nat → Nat) (SL : Nat → List Nat) (x : Nat) : List Nat → Nat
  | [] => 0
  | s :: r => if fnd f x (SL s) = 0 then lk f SL x r else fnd f x (SL s)
def hdS : List Nat → Nat
  | [] => 0
  | s :: _ => s + 1
theorem fnd_no {f : Nat → Nat} {x : Nat} : ∀ {L : List Nat}, (∀ i ∈ L, f i ≠ x) → fnd f x L = 0 := by
  intro L
  induction L with
  | nil => intro _; rfl
  | cons i r ih =>
    intro h
    unfold fnd
    rw [if_neg (h i List.mem_cons_self), ih (fun j hj => h j (List.mem_cons_of_mem _ hj))]
theorem fnd_in {f : Nat → Nat} {x : Nat} : ∀ {L : List Nat}, fnd f x L ≠ 0 → fnd f x L - 1 ∈ L ∧ f (fnd f x L - 1) = x := by
  intro L
  induction L with
  | nil => intro h; exact absurd rfl h
  | cons i r ih =>
    intro h
    unfold fnd at h ⊢
    by_cases q : f i = x
    · rw [if_pos q]
      exact ⟨by simp, by simpa using q⟩
    · rw [if_neg q] at h ⊢
      exact ⟨List.mem_cons_of_mem _ (ih h).1, (ih h).2⟩
theorem fnd_0 {f : Nat → Nat} {x : Nat} {L : List Nat} (h : fnd f x L = 0) : ∀ i ∈ L, f i ≠ x := by
  induction L with
  | nil => intro i hi; exact absurd hi (by simp)
  | cons j r ih =>
    unfold fnd at h
    by_cases q : f j = x
    · rw [if_pos q] at h; omega
    · rw [if_neg q] at h
      intro i hi
      rcases List.mem_cons.mp hi with rfl | hi
      · exact q
      · exact ih h i hi
/-- names in a row are unlike each other, and each symbol is newer than those behind -/
def DST (f : Nat → Nat) : List Nat → Prop
  | [] => True
  | i :: r => (∀ j ∈ r, f j ≠ f i ∧ j < i) ∧ DST f r
theorem lk_up {f : Nat → Nat} {SL SL' : Nat → List Nat} {x : Nat} : ∀ {stk : List Nat}, (∀ s ∈ stk, SL' s = SL s) → lk f SL' x stk = lk f SL x stk := by
  intro stk
  induction stk with
  | nil => intro _; rfl
  | cons s r ih =>
    intro h
    unfold lk
    rw [h s List.mem_cons_self, ih (fun j hj => h j (List.mem_cons_of_mem _ hj))]
theorem lk_f {f f' : Nat → Nat} {SL : Nat → List Nat} {x : Nat} : ∀ {stk : List Nat}, (∀ s ∈ stk, ∀ i ∈ SL s, f' i = f i) → lk f' SL x stk = lk f SL x stk := by
  have hf : ∀ L : List Nat, (∀ i ∈ L, f' i = f i) → fnd f' x L = fnd f x L := by
    intro L
    induction L with
    | nil => intro _; rfl
    | cons i r ih =>
      intro h
      unfold fnd
      rw [h i List.mem_cons_self, ih (fun j hj => h j (List.mem_cons_of_mem _ hj))]
  intro stk
  induction stk with
  | nil => intro _; rfl
  | cons s r ih =>
    intro h
    unfold lk
    rw [hf _ (h s List.mem_cons_self), ih (fun j hj => h j (List.mem_cons_of_mem _ hj))]
/-- the class's chain of a SCOPE's symbols -/
def LNA (w : Wd) : Int32 → List Nat → Prop
  | x, [] => x = 0
  | x, i :: r => x = Int32.ofNat (i + 1) ∧ LNA w (gi w 30 (i + 1)) r
/-- the reference's -/
def LNM (w : Wd) : Int32 → List Nat → Prop
  | x, [] => x = -1
  | x, i :: r => x = Int32.ofNat i ∧ LNM w (gi w 21 i) r
theorem LNA.agr {u w : Wd} : ∀ {L : List Nat} {x : Int32}, LNA w x L → (∀ i ∈ L, gi u 30 (i + 1) = gi w 30 (i + 1)) → LNA u x L := by
  intro L
  induction L with
  | nil => exact fun h _ => h
  | cons i r ih =>
    intro x h hA
    refine ⟨h.1, ?_⟩
    rw [hA i List.mem_cons_self]
    exact ih h.2 (fun j hj => hA j (List.mem_cons_of_mem _ hj))
theorem LNM.agr {u w : Wd} : ∀ {L : List Nat} {x : Int32}, LNM w x L → (∀ i ∈ L, gi u 21 i = gi w 21 i) → LNM u x L := by
  intro L
  induction L with
  | nil => exact fun h _ => h
  | cons i r ih =>
    intro x h hA
    refine ⟨h.1, ?_⟩
    rw [hA i List.mem_cons_self]
    exact ih h.2 (fun j hj => hA j (List.mem_cons_of_mem _ hj))
/-- what the SCOPES that are not left keep of those around them -/
def SHD (f : Nat → Nat) (SL : Nat → List Nat) (nsc : Nat) (w : Wd) : List Nat → Prop
  | [] => True
  | s :: r => (∀ i ∈ SL s, gi w 28 (i + 1) = Int32.ofNat (lk f SL (f i) r)) ∧ gi w 32 (s + 1) = Int32.ofNat (hdS r) ∧ s < nsc ∧ s ∉ r ∧ SHD f SL nsc w r
theorem SHD.agr {f : Nat → Nat} {SL SL' : Nat → List Nat} {nsc nsc' : Nat} {u w : Wd} (hn : nsc ≤ nsc') : ∀ {stk : List Nat}, SHD f SL nsc w stk → (∀ s ∈ stk, SL' s = SL s) → (∀ s ∈ stk, (∀ i ∈ SL s, gi u 28 (i + 1) = gi w 28 (i + 1)) ∧ gi u 32 (s + 1) = gi w 32 (s + 1)) → SHD f SL' nsc' u stk := by
  intro stk
  induction stk with
  | nil => exact fun _ _ _ => trivial
  | cons s r ih =>
    intro h hS hA
    obtain ⟨a, b, c, d, e⟩ := h
    obtain ⟨p, q⟩ := hA s List.mem_cons_self
    have hr := ih e (fun j hj => hS j (List.mem_cons_of_mem _ hj)) (fun j hj => hA j (List.mem_cons_of_mem _ hj))
    refine ⟨fun i hi => ?_, q.trans b, by omega, d, hr⟩
    rw [hS s List.mem_cons_self] at hi
    rw [p i hi, a i hi, lk_up (fun j hj => hS j (List.mem_cons_of_mem _ hj))]
/-- the class's SCOPES: f: the names (numbers) of symbols; SL: the symbols of each; stk: those that are not left, the innermost first; hid: hidden -/
def CSC (f : Nat → Nat) (SL : Nat → List Nat) (stk : List Nat) (nsc ns : Nat) (hid : Int32) (w : Wd) : Prop :=
  (∀ x, x < 8192 → gi w 27 x = Int32.ofNat (lk f SL x stk)) ∧ SHD f SL nsc w stk ∧ (gi w 26 8 = Int32.ofNat nsc ∧ gi w 26 9 = Int32.ofNat (hdS stk) ∧ gi w 26 10 = hid) ∧
  (∀ s, s < nsc → LNA w (gi w 31 (s + 1)) (SL s)) ∧ (∀ s, nsc ≤ s → SL s = [] ∧ (s + 1 < 4096 → gi w 31 (s + 1) = 0)) ∧
  (∀ s, DST f (SL s) ∧ (SL s).length ≤ 4100 ∧ ∀ i ∈ SL s, i < ns ∧ f i < 8192 ∧ gi w 29 (i + 1) = Int32.ofNat (s + 1)) ∧ (∀ i, i < ns → gi w 22 (i + 1) = Int32.ofNat (f i)) ∧ ns ≤ 4100 ∧ nsc ≤ 4000
/-- where the SCOPES of the class lie -/
def PSC (k j : Nat) : Prop := k = 22 ∨ (k = 26 ∧ 8 ≤ j ∧ j ≤ 10) ∨ (27 ≤ k ∧ k ≤ 32)
theorem CSC.agr {f : Nat → Nat} {SL : Nat → List Nat} {stk : List Nat} {nsc ns : Nat} {hid : Int32} {u w : Wd} (h : CSC f SL stk nsc ns hid w) (hA : ∀ k j, PSC k j → gi u k j = gi w k j) : CSC f SL stk nsc ns hid u := by
  obtain ⟨a, b, ⟨c1, c2, c3⟩, d, e, g, i, j⟩ := h
  have q : ∀ k j, (k = 22 ∨ 27 ≤ k ∧ k ≤ 32) → gi u k j = gi w k j := fun k j hk => hA k j (by unfold PSC; omega)
  refine ⟨fun x hx => by rw [q 27 x (by omega)]; exact a x hx, b.agr (Nat.le_refl _) (fun _ _ => rfl) (fun s _ => ⟨fun i _ => q 28 _ (by omega), q 32 _ (by omega)⟩), ⟨by rw [hA 26 8 (by unfold PSC; omega)]; exact c1, by rw [hA 26 9 (by unfold PSC; omega)]; exact c2, by rw [hA 26 10 (by unfold PSC; omega)]; exact c3⟩, fun s hs => ?_, fun s hs => ⟨(e s hs).1, fun h4 => by rw [q 31 _ (by omega)]; exact (e s hs).2 h4⟩, fun s => ⟨(g s).1, (g s).2.1, fun i hi => ?_⟩, fun x hx => by rw [q 22 _ (by omega)]; exact i x hx, j⟩
  · rw [q 31 _ (by omega)]
    exact (d s hs).agr (fun i _ => q 30 _ (by omega))
  · rw [q 29 _ (by omega)]
    exact (g s).2.2 i hi
section SC
variable {f : Nat → Nat} {SL : Nat → List Nat} {stk : List Nat} {nsc ns : Nat} {w : Wd}
theorem a_name {i : Nat} (h : CSC f SL stk nsc ns 0 w) (hi : i < ns) : fX8_name (Int32.ofNat (i + 1)) w = Int32.ofNat (f i) := by
  obtain ⟨_, _, _, _, _, _, g, e⟩ := h
  unfold fX8_name
  rw [ltq, rgi_iN (by omega) (by omega)]
  exact g i hi
theorem lk_le {x : Nat} (h : CSC f SL stk nsc ns 0 w) : lk f SL x stk ≤ ns := by
  have hg := h.2.2.2.2.2.1
  have : ∀ r : List Nat, lk f SL x r ≤ ns := by
    intro r
    induction r with
    | nil => exact Nat.zero_le _
    | cons s r ih =>
      unfold lk
      by_cases q : fnd f x (SL s) = 0
      · rw [if_pos q]; exact ih
      · rw [if_neg q]
        have := ((hg s).2.2 _ (fnd_in q).1).1
        omega
  exact this stk
theorem a_heads {x : Nat} (h : CSC f SL stk nsc ns 0 w) (hx : x < 8192) : rgi w 27 8192 (Int32.ofNat x) = Int32.ofNat (lk f SL x stk) := by
  rw [rgi_iN (by omega) (by omega)]
  exact h.1 x hx
theorem a_find {x : Nat} (h : CSC f SL stk nsc ns 0 w) (hx : x < 8192) : fX7_find (Int32.ofNat x) w = Int32.ofNat (lk f SL x stk) := by
  unfold fX7_find
  rw [ltq, a_heads h hx]
  have h40 : ∀ y, fX7_find_40 true y w = y := fun y => by
    unfold fX7_find_40
    exact if_pos rfl
  rw [h40, if_pos h.2.2.1.2.2]
  exact ite_self _
theorem hdS_le (h : CSC f SL stk nsc ns 0 w) : hdS stk ≤ nsc := by
  have hs := h.2.1
  cases stk with
  | nil => exact Nat.zero_le _
  | cons s r =>
    have := hs.2.2.1
    show s + 1 ≤ nsc
    omega
/-- a SCOPE is entered, of which nothing is known yet -/
theorem a_enter (h : CSC f SL stk nsc ns 0 w) (hn : nsc < 4000) : ∃ u, fX7_enter w = some u ∧ CSC f SL (nsc :: stk) (nsc + 1) ns 0 u ∧ OFF (fun k j => (k = 26 ∧ (j = 8 ∨ j = 9)) ∨ (k = 32 ∧ j = nsc + 1)) u w := by
  have hh := hdS_le h
  obtain ⟨a, b, ⟨c1, c2, c3⟩, d, e, g, i, j⟩ := h
  unfold fX7_enter
  rw [ltq, c1, ad1_iN, ltq, gi_si0, show gi (si w 26 8 (Int32.ofNat (nsc + 1))) 26 9 = Int32.ofNat (hdS stk) by rw [gi_si1 (by omega)]; exact c2, rsi_iN (n := nsc + 1) (m := 4096) (by omega) (by omega), ltq, show gi (si (si w 26 8 (Int32.ofNat (nsc + 1))) 32 (nsc + 1) (Int32.ofNat (hdS stk))) 26 8 = Int32.ofNat (nsc + 1) by rw [gi_si1 (by omega), gi_si0], ltq, gi_si0, rgi_iN (n := nsc + 1) (m := 4096) (by omega) (by omega)]
  have hO : OFF (fun k j => (k = 26 ∧ (j = 8 ∨ j = 9)) ∨ (k = 32 ∧ j = nsc + 1)) (si (si (si w 26 8 (Int32.ofNat (nsc + 1))) 32 (nsc + 1) (Int32.ofNat (hdS stk))) 26 9 (Int32.ofNat (nsc + 1))) w := OFF.tr (OFF.si (Or.inl ⟨rfl, Or.inr rfl⟩)) (OFF.tr (OFF.si (Or.inr ⟨rfl, rfl⟩)) (OFF.si (Or.inl ⟨rfl, Or.inl rfl⟩)))
  have h0 : gi (si (si (si w 26 8 (Int32.ofNat (nsc + 1))) 32 (nsc + 1) (Int32.ofNat (hdS stk))) 26 9 (Int32.ofNat (nsc + 1))) 31 (nsc + 1) = 0 := by
    rw [(hO 31 _ (by omega)).1]
    exact (e nsc (Nat.le_refl _)).2 (by omega)
  rw [h0]
  obtain ⟨f1, hf⟩ := FU_ge (k := 1) (by omega)
  rw [hf]
  refine ⟨_, by show fX7_enter_47 _ _ _ _ = _; unfold fX7_enter_47; exact if_pos rfl, ?_, hO⟩
  have hns : ∀ s ∈ stk, s < nsc := by
    have : ∀ r : List Nat, SHD f SL nsc w r → ∀ s ∈ r, s < nsc := by
      intro r
      induction r with
      | nil => exact fun _ s hs => absurd hs (by simp)
      | cons s r ih =>
        intro hr y hy
        rcases List.mem_cons.mp hy with rfl | hy
        · exact hr.2.2.1
        · exact ih hr.2.2.2.2 y hy
    exact this stk b
  have hSn : SL nsc = [] := (e nsc (Nat.le_refl _)).1
  have hlk : ∀ x, lk f SL x (nsc :: stk) = lk f SL x stk := fun x => by
    show (if fnd f x (SL nsc) = 0 then _ else _) = _
    rw [hSn]
    exact if_pos rfl
  refine ⟨fun x hx => ?_, ⟨fun i hi => ?_, ?_, by omega, fun q => by have := hns nsc q; omega, ?_⟩, ⟨?_, gi_si0 _ _ _ _, ?_⟩, fun s hs => ?_, fun s hs => ⟨(e s (by omega)).1, fun h4 => ?_⟩, fun s => ⟨(g s).1, (g s).2.1, fun i hi => ?_⟩, fun x hx => ?_, j.1, by omega⟩
  · rw [hlk, (hO 27 x (by omega)).1]; exact a x hx
  · rw [hSn] at hi; exact absurd hi (by simp)
  · rw [gi_si1 (by omega), gi_si0]
  · refine b.agr (by omega) (fun _ _ => rfl) (fun s hs => ⟨fun i _ => (hO 28 _ (by omega)).1, (hO 32 _ (by have := hns s hs; omega)).1⟩)
  · rw [gi_si1 (by omega), gi_si1 (by omega), gi_si0]
  · rw [(hO 26 10 (by omega)).1]; exact c3
  · by_cases q : s = nsc
    · rw [q, h0, hSn]; rfl
    · rw [(hO 31 _ (by omega)).1]
      exact (d s (by omega)).agr (fun i _ => (hO 30 _ (by omega)).1)
  · rw [(hO 31 _ (by omega)).1]; exact (e s (by omega)).2 h4
  · rw [(hO 29 _ (by omega)).1]; exact (g s).2.2 i hi
  · rw [(hO 22 _ (by omega)).1]; exact i x hx
/-- the SCOPE is left -/
theorem a_leave {s : Nat} (h : CSC f SL (s :: stk) nsc ns 0 w) (hn : nsc < 4095) : ∃ u, fX7_leave w = some u ∧ CSC f SL stk nsc ns 0 u ∧ OFF (fun k j => (k = 26 ∧ j = 9) ∨ k = 27) u w := by
  have h9 := h
  obtain ⟨a, b, ⟨c1, c2, c3⟩, d, e, g, i, j⟩ := h
  obtain ⟨b1, b2, b3, b4, b5⟩ := b
  have hlp : ∀ (L : List Nat) (x : Int32) (v : Wd) (n fo : Nat), LNA w x L → (∀ y ∈ L, y ∈ SL s) → DST f L → n + L.length ≤ 4103 → OFF (fun k j => k = 27) v w → (∀ y, y < 8192 → gi v 27 y = Int32.ofNat (if fnd f y L = 0 then lk f SL y stk else fnd f y L)) →
      ∃ u, oX7_leave_14 (fo + L.length + 1) x (Int32.ofNat n) v = some u ∧ gi u 26 9 = Int32.ofNat (hdS stk) ∧ (∀ y, y < 8192 → gi u 27 y = Int32.ofNat (lk f SL y stk)) ∧ OFF (fun k j => (k = 26 ∧ j = 9) ∨ k = 27) u w := by
    intro L
    induction L with
    | nil =>
      intro x v n fo hx hL hD hnn hO hv
      have hx0 : x = 0 := hx
      show ∃ u, fX7_leave_14 _ _ _ _ = _ ∧ _
      unfold fX7_leave_14
      have hc9 : gi v 26 9 = Int32.ofNat (s + 1) := by rw [(hO 26 9 (by omega)).1]; exact c2
      rw [if_pos hx0, ltq, hc9, rgi_iN (n := s + 1) (m := 4096) (by omega) (by omega), (hO 32 _ (by omega)).1, b2, ltq]
      refine ⟨_, rfl, gi_si0 _ _ _ _, fun y hy => ?_, OFF.tr (OFF.si (Or.inl ⟨rfl, rfl⟩)) (hO.mono (fun k j hp => Or.inr hp))⟩
      rw [gi_si1 (by omega), hv y hy]
      rfl
    | cons y L ih =>
      intro x v n fo hx hL hD hnn hO hv
      have hyS := hL y List.mem_cons_self
      obtain ⟨y1, y2, y3⟩ := (g s).2.2 y hyS
      have hst : oX7_leave_14 (fo + (y :: L).length + 1) x (Int32.ofNat n) v = fX7_leave_14 (oX7_leave_14 (fo + L.length + 1)) x (Int32.ofNat n) v := rfl
      rw [hst]
      unfold fX7_leave_14
      have hln : (y :: L).length = L.length + 1 := rfl
      rw [hx.1, if_neg (show ¬ (Int32.ofNat (y + 1) = 0) from of_ne (k := 0) (by omega) (by omega) (by omega)), if_neg (show ¬ ((4104 : Int32) ≤ Int32.ofNat n) from nle_iN (a := 4104) (by omega) (by omega))]
      have hnm : fX8_name (Int32.ofNat (y + 1)) v = Int32.ofNat (f y) := by
        unfold fX8_name
        rw [ltq, rgi_iN (n := y + 1) (m := 4104) (by omega) (by omega), (hO 22 _ (by omega)).1, i y y1]
      rw [ltq, hnm, ltq, rgi_iN (n := y + 1) (m := 4104) (by omega) (by omega), (hO 28 _ (by omega)).1, b1 y hyS, ltq, rsi_iN (n := f y) (m := 8192) y2 (by omega), ltq, rgi_iN (n := y + 1) (m := 4104) (by omega) (by omega), gi_si1 (by omega), (hO 30 _ (by omega)).1, ltq, ad1_iN]
      refine ih _ _ (n + 1) fo hx.2 (fun q hq => hL q (List.mem_cons_of_mem _ hq)) hD.2 (by omega) (OFF.tr (OFF.si rfl) hO) (fun q hq => ?_)
      by_cases qe : q = f y
      · rw [qe, gi_si0, fnd_no (fun p hp => (hD.1 p hp).1), if_pos rfl]
      · rw [gi_si1 (by omega), hv q hq]
        have hfy : fnd f q (y :: L) = fnd f q L := by
          show (if f y = q then y + 1 else fnd f q L) = _
          rw [if_neg (fun h => qe h.symm)]
        rw [hfy]
  unfold fX7_leave
  rw [ltq, c2]
  show ∃ u, oX7_leave_14 FU (rgi w 31 4096 (Int32.ofNat (s + 1))) 0 w = some u ∧ _
  rw [rgi_iN (n := s + 1) (m := 4096) (by omega) (by omega)]
  obtain ⟨fo, hf⟩ := FU_ge (k := (SL s).length + 1) (by have := (g s).2.1; omega)
  rw [hf, ← Nat.add_assoc]
  obtain ⟨u, u1, u2, u3, u4⟩ := hlp (SL s) _ w 0 fo (d s b3) (fun _ h => h) (g s).1 (by have := (g s).2.1; omega) OFF.rf (fun y hy => by
    rw [a y hy]
    show Int32.ofNat (if fnd f y (SL s) = 0 then lk f SL y stk else fnd f y (SL s)) = _
    rfl)
  refine ⟨u, u1, ⟨u3, b5.agr (Nat.le_refl _) (fun _ _ => rfl) (fun s hs => ⟨fun i _ => (u4 28 _ (by omega)).1, (u4 32 _ (by omega)).1⟩), ⟨by rw [(u4 26 8 (by omega)).1]; exact c1, u2, by rw [(u4 26 10 (by omega)).1]; exact c3⟩, fun s hs => ?_, fun s hs => ⟨(e s hs).1, fun h4 => by rw [(u4 31 _ (by omega)).1]; exact (e s hs).2 h4⟩, fun s => ⟨(g s).1, (g s).2.1, fun i hi => by rw [(u4 29 _ (by omega)).1]; exact (g s).2.2 i hi⟩, fun x hx => by rw [(u4 22 _ (by omega)).1]; exact i x hx, j⟩, u4⟩
  rw [(u4 31 _ (by omega)).1]
  exact (d s hs).agr (fun i _ => (u4 30 _ (by omega)).1)
end SC
