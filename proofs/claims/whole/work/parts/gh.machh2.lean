/-! THE REFERENCE'S MACHINE (8): switches, BLOCKS, the end of a for -/
section N7
variable {gM : Wd} {b ev sp cp na mt el us b1 ev1 sp1 cp1 na1 mt1 el1 us1 al sc pr de fu : Nat} {w u v : Wd} {a x y z : Int32}
/-- which switch, and in which activation -/
def SWM (w : Wd) (ev : Nat) (x y : Int32) (k e : Nat) : Prop := (∃ n, x = Int32.ofNat n ∧ n ≤ 100 ∧ y = Int32.ofNat k ∧ ACH w n ev e) ∨ ∃ s q, y = -1 - Int32.ofNat s ∧ s < 100000 ∧ SLT w ev x s q ∧ q + 1 < 200000 ∧ gl w 83 q = Int64.ofNat k ∧ gl w 83 (q + 1) = Int64.ofNat e
theorem aim_go {k e : Nat} {i : Int64} (H : MK gM b ev (sp + 1) cp na mt el us w) (hS : SWM w ev x y k e) (hk : k < 100000) (hi : gl w 85 sp = i) : fX12_aimed x y w = fX12_aimed_54 i (Int32.ofNat k) (Int32.ofNat e) (si w 0 130 (Int32.ofNat sp)) := by
  have hsp := H.2.2.2.2.2.2.2.2.2.2.2.2.1
  have H1 : MK gM b ev sp cp na mt el us (si w 0 130 (Int32.ofNat sp)) := H.ps (s0 := 0) (OFF.si (Or.inl ⟨rfl, Or.inr rfl⟩)) (by rw [gi_si1 (by omega)]; exact H.2.2.1) (gi_si0 _ _ _ _) H.2.2.2.2.2.2.2.2.2.2.1 (by omega)
  unfold fX12_aimed
  rw [popM (sp := sp) H.2.2.2.2.1 (by omega), bn2_so, hi]
  rcases hS with ⟨n, h1, h2, h3, h4⟩ | ⟨s, q, h1, h2, h3, h4, h5, h6⟩
  · rw [h3, if_pos (zl_iN (by omega)), h1, eup_ok H1.2.2.2.1 h2 (h4.agr fun j _ => gi_si1 (by omega)), bn2_so]
  · have e1 : ¬ (0 : Int32) ≤ -1 - Int32.ofNat s := by
      rw [Int32.le_iff_toInt_le, Int32.toInt_sub, ti_iN (by omega), show (0 : Int32).toInt = 0 by decide, show (-1 : Int32).toInt = -1 by decide]
      intro hh
      have : ((-1 - (s : Int)).bmod (2 ^ 32)) = -1 - (s : Int) := by
        rw [Int.bmod_def]
        omega
      rw [this] at hh
      omega
    have e2 : (-1 : Int32) - (-1 - Int32.ofNat s) = Int32.ofNat s := by
      apply Int32.toBitVec_inj.mp
      rw [Int32.toBitVec_sub, Int32.toBitVec_sub]
      generalize (Int32.ofNat s).toBitVec = p
      generalize (-1 : Int32).toBitVec = q
      apply BitVec.eq_of_toInt_eq
      rw [BitVec.toInt_sub, BitVec.toInt_sub, Int.sub_bmod_bmod, show q.toInt - (q.toInt - p.toInt) = p.toInt by omega]
      exact BitVec.toInt_bmod_cancel p
    rw [h1, if_neg e1, e2]
    have hs : SLT (si w 0 130 (Int32.ofNat sp)) ev x s q := by
      rcases h3 with ⟨n, g, base, k1, k2, k3, k4, k5, k6⟩ | ⟨k1, k2⟩
      · exact Or.inl ⟨n, g, base, k1, k2, k3.agr (fun j _ => gi_si1 (by omega)), k4, by rw [gi_si1 (by omega)]; exact k5, k6⟩
      · exact Or.inr ⟨k1, k2⟩
    rw [hs.ok H1, bn2_so, if_pos (inb_iN (by omega) (by omega)), tc_iN (by omega), gl_si, h5, tl_iN, ltq, ad1_iN, if_pos (inb_iN h4 (by omega)), tc_iN (by omega), gl_si, h6, tl_iN, ltq]
theorem am0 {i : Int64} (T : TLM al sc pr de fu w) (hs : sc = al) : ∃ u, fX12_aimed_54 i x y w = some u ∧ gi u 0 140 = 100 ∧ TLM al sc pr de fu u ∧ OFF PEM u w := by
  obtain ⟨u, h1, h3, h4, h5⟩ := pd0 T hs
  unfold fX12_aimed_54
  rw [h1, lt2q, if_neg (show ¬ (false = true) by decide)]
  exact ⟨u, rfl, h3, h4, h5⟩
theorem am6 {i : Int64} (H : MK gM b ev sp cp na mt el 60 w) (T : TLM al sc pr de fu w) (hs : sc < al) (ha : al ≤ 20000) : ∃ u, fX12_aimed_54 i x y w = some u ∧ gi u 0 140 = 6 ∧ TLM al (sc + 1) pr de fu u ∧ OFF PEM u w := by
  obtain ⟨u, h1, h2, h3, h4, h5⟩ := pd6 H T hs ha
  unfold fX12_aimed_54
  rw [h1, lt2q, if_pos rfl, h2, lt2q, if_neg (show ¬ (false = true) by decide)]
  exact ⟨u, rfl, h3, h4, h5⟩
theorem am_1 {i : Int64} {k n e : Nat} (H : MK gM b ev sp cp na mt el us w) (T : TLM al sc pr de fu w) (hs : sc < al) (ha : al ≤ 20000) (hu : us < 60) (hde : de ≤ 60) (hk : k < 5000) (hn : gi gM 57 k = Int32.ofNat n) (hn9 : n < 90000) (hi : i < 1 ∨ Int64.ofNat n < i) :
    ∃ u, fX12_aimed_54 i (Int32.ofNat k) (Int32.ofNat e) w = some u ∧ gi u 0 140 = 1 ∧ TLM al (sc + 1) pr (max de (us + 1)) fu u ∧ OFF PEM u w := by
  have H1 := H.pay (x := Int32.ofNat (sc + 1))
  have P1 := T.pay
  have O1 : OFF (fun k j => k = 0 ∧ j = 137) (si w 0 137 (Int32.ofNat (sc + 1))) w := OFF.si ⟨rfl, rfl⟩
  have h88 : ∃ u, fX12_aimed_88 (si w 0 137 (Int32.ofNat (sc + 1))) = some u ∧ gi u 0 140 = 1 ∧ TLM al (sc + 1) pr (max de (us + 1)) fu u ∧ OFF PEM u w := by
    unfold fX12_aimed_88 fX12_fail
    rw [P1.2.2.2.1, H1.2.2.2.2.2.2.2.2.2.1, ad1_iN, mx_iN (by omega) (by omega), ltq, ltq, gi_si1 (by omega), H1.2.1, if_pos rfl, ltq, ltq]
    refine ⟨_, rfl, gi_si0 _ _ _ _, ?_, OFF.tr (OFF.si (by unfold PEM; omega)) (OFF.tr (OFF.si (by unfold PEM; omega)) (O1.mono fun k j p => by unfold PEM; omega))⟩
    obtain ⟨t1, t2, t3, t4, t5⟩ := P1
    exact ⟨by rw [gi_si1 (by omega), gi_si1 (by omega)]; exact t1, by rw [gi_si1 (by omega), gi_si1 (by omega)]; exact t2, by rw [gi_si1 (by omega), gi_si1 (by omega)]; exact t3, by rw [gi_si1 (by omega), gi_si0], by rw [gi_si1 (by omega), gi_si1 (by omega)]; exact t5⟩
  unfold fX12_aimed_54
  rw [payM1 T hs ha, lt2q, if_pos rfl, deeM1 H1.2.2.2.2.2.2.2.2.2.1 hu, lt2q, if_pos rfl]
  dsimp only
  by_cases q : i < 1
  · rw [if_pos q]; exact h88
  · rw [if_neg q, if_pos (inb_iN hk (by omega)), tc_iN (by omega), (H1.1.2.2.2 k).2.2.2.2.2.2.2.2.1, hn, i64_iN (by omega), if_neg (fun hh => by
      have g := hi.resolve_left q
      rw [Int64.lt_iff_toInt_lt] at g
      rw [Int64.le_iff_toInt_le] at hh
      omega)]
    exact h88
theorem am_ok {k n e e0 c j : Nat} (H : MK gM b ev sp cp na mt el us w) (T : TLM al sc pr de fu w) (hs : sc < al) (ha : al ≤ 20000) (hu : us < 60) (hcp : cp < 900) (hde : de ≤ 60) (hk : k < 5000) (hn : gi gM 57 k = Int32.ofNat n) (hn9 : n < 90000) (hj : j + 1 ≤ n) (he : e < 64) (h56 : gi gM 56 k = Int32.ofNat e0) (h58 : gi gM 58 (e0 + j) = Int32.ofNat c) (hc9 : c ≤ 60000) (he0 : e0 + n ≤ 24000) :
    ∃ u, fX12_aimed_54 (Int64.ofNat (j + 1)) (Int32.ofNat k) (Int32.ofNat e) w = some u ∧ MK gM c e sp (cp + 1) na mt el (us + 1) u ∧ TLM al (sc + 1) pr (max de (us + 1)) fu u ∧ CTM cp b ev 0 (-1) us u ∧ OFF (PUM cp) u w := by
  have H1 := H.pay (x := Int32.ofNat (sc + 1))
  have O0 : OFF (fun k j => k = 0 ∧ j = 137) (si w 0 137 (Int32.ofNat (sc + 1))) w := OFF.si ⟨rfl, rfl⟩
  obtain ⟨y, q, k1, k2, k3, k4, k5, k6, k7, k8⟩ := ctl_up (md := 0) (sto := -1) (kd_ := 1) H1 T.pay hu hcp hde
  unfold fX12_aimed_54
  rw [payM1 T hs ha, lt2q, if_pos rfl, deeM1 H1.2.2.2.2.2.2.2.2.2.1 hu, lt2q, if_pos rfl]
  dsimp only
  rw [if_neg (show ¬ (Int64.ofNat (j + 1) < 1) from fun hh => absurd ((lt64 (b := 1) (by omega) (by omega)).mp hh) (by omega)), if_pos (inb_iN hk (by omega)), tc_iN (by omega), (H1.1.2.2.2 k).2.2.2.2.2.2.2.2.1, hn, i64_iN (by omega), if_pos ((le64 (by omega) (by omega)).mpr hj), k1, bn_so, k2, ad1_iN, ltq, k4, ltq, ← k3, ltq, ltq, if_pos (inb_iN hk (by omega)), gi_si1 (by omega), (k5.1.2.2.2 k).2.2.2.2.2.2.2.1, h56, tl_iN, add_iN, sb1_iN (by omega) (by omega), show e0 + (j + 1) - 1 = e0 + j by omega, if_pos (inb_iN (by omega) (by omega)), tc_iN (by omega), gi_si1 (by omega), (k5.1.2.2.2 (e0 + j)).2.2.2.2.2.2.2.2.2.1, h58, ltq]
  have O3 : OFF (fun k j => k = 0 ∧ (j = 128 ∨ j = 129)) (si (si q 0 129 (Int32.ofNat e)) 0 128 (Int32.ofNat c)) q := OFF.tr (OFF.si (by omega)) (OFF.si (by omega))
  have g : ∀ j, j ≠ 128 → j ≠ 129 → gi (si (si q 0 129 (Int32.ofNat e)) 0 128 (Int32.ofNat c)) 0 j = gi q 0 j := fun j p r => (O3 0 j (by omega)).1
  refine ⟨_, rfl, k5.nw (O3.mono fun k j p => by omega) (gi_si0 _ _ _ _) (by rw [gi_si1 (by omega), gi_si0]) ((g 130 (by omega) (by omega)).trans k5.2.2.2.2.1) ((g 127 (by omega) (by omega)).trans k5.2.2.2.2.2.1) ((g 131 (by omega) (by omega)).trans k5.2.2.2.2.2.2.1) ((g 132 (by omega) (by omega)).trans k5.2.2.2.2.2.2.2.1) ((g 133 (by omega) (by omega)).trans k5.2.2.2.2.2.2.2.2.1) ((g 134 (by omega) (by omega)).trans k5.2.2.2.2.2.2.2.2.2.1) ⟨hc9, he, k5.2.2.2.2.2.2.2.2.2.2.2.2⟩, k6.off O3 (fun k j p => by omega), k7.off O3 (fun k p r => by omega), OFF.tr (O3.mono fun k j p => by unfold PUM; omega) (OFF.tr (k8.mono fun k j p => by unfold PUM; omega) (O0.mono fun k j p => by unfold PUM; omega))⟩
/-- a BLOCK's VARIABLES set to nought -/
def VLS (gM : Wd) : List Nat → Int32 → Prop
  | [], x => x = -1
  | k :: r, x => x = Int32.ofNat k ∧ k < 5000 ∧ VLS gM r (gi gM 82 k)
def vzW (gM : Wd) (base : Nat) : List Nat → Wd → Wd
  | [], w => w
  | k :: r, w => vzW gM base r (sl w 83 (base + (gi gM 26 k).toNatClampNeg) 0)
theorem vzW_off {Q : Nat → Nat → Prop} {base : Nat} : ∀ (ks : List Nat) (w : Wd), (∀ k ∈ ks, Q 83 (base + (gi gM 26 k).toNatClampNeg)) → OFF Q (vzW gM base ks w) w := by
  intro ks
  induction ks with
  | nil => exact fun _ _ => OFF.rf
  | cons k ks ih => exact fun w h => OFF.tr (ih _ (fun y hy => h y (List.mem_cons_of_mem _ hy))) (OFF.sl (h k List.mem_cons_self))
theorem vzW_v {base : Nat} : ∀ (ks : List Nat) (w : Wd) (k : Nat), k ∈ ks → gl (vzW gM base ks w) 83 (base + (gi gM 26 k).toNatClampNeg) = 0 := by
  intro ks
  induction ks with
  | nil => exact fun w k h => absurd h (by simp)
  | cons y ks ih =>
    intro w k h
    by_cases q : k ∈ ks
    · exact ih _ k q
    · have e : k = y := (List.mem_cons.mp h).resolve_right q
      subst e
      by_cases r : ∃ y ∈ ks, (gi gM 26 y).toNatClampNeg = (gi gM 26 k).toNatClampNeg
      · obtain ⟨y, y1, y2⟩ := r
        have := ih (sl w 83 (base + (gi gM 26 k).toNatClampNeg) 0) y y1
        rw [y2] at this
        exact this
      · exact ((vzW_off (Q := fun k' j => k' = 83 ∧ j ≠ base + (gi gM 26 k).toNatClampNeg) ks _ (fun y hy => ⟨rfl, fun e => r ⟨y, hy, by omega⟩⟩)) 83 _ (fun p => p.2 rfl)).2.trans (gl_sl0 _ _ _ _)
theorem ent_bl {bl base q : Nat} (hbl : bl < 9000) (hq : base + q < 200000) (hev : ev < 64) (h80 : gi gM 41 bl = Int32.ofNat q) (hel : el ≤ 2000) : ∀ (ks : List Nat) (x : Int32) (fo : Nat) (w : Wd), VLS gM ks x → RTB gM w → gi w 0 129 = Int32.ofNat ev → gi w 87 ev = Int32.ofNat base → gi w 0 133 = Int32.ofNat el → (∀ k ∈ ks, ∃ s, gi gM 26 k = Int32.ofNat s ∧ base + s < 200000) →
    oX12_other_296 (fo + ks.length + 1) (Int32.ofNat bl) x w = some (sl (vzW gM base ks w) 83 (base + q) (Int64.ofNat el)) := by
  intro ks
  induction ks with
  | nil =>
    intro x fo w hV hR h129 h87 h133 hk
    have hV : x = -1 := hV
    subst hV
    show fX12_other_296 _ _ _ _ = _
    unfold fX12_other_296
    rw [if_pos (by decide), h129, if_pos (inb_iN hev (by omega)), if_pos (inb_iN hbl (by omega)), tc_iN (by omega), tc_iN (by omega), h87, (hR.2.2.2 bl).2.2.2.2.2.2.2.2.2.2.1, h80, add_iN, if_pos (inb_iN hq (by omega)), tc_iN (by omega), h133, i64_iN (by omega), ltq]
    rfl
  | cons k ks ih =>
    intro x fo w hV hR h129 h87 h133 hk
    obtain ⟨g1, g2, g3⟩ := hV
    obtain ⟨s, s1, s2⟩ := hk k List.mem_cons_self
    subst g1
    show fX12_other_296 (oX12_other_296 (fo + ks.length + 1)) _ _ _ = _
    unfold fX12_other_296
    rw [if_neg (nn_iN (by omega)), h129, if_pos (inb_iN hev (by omega)), if_pos (inb_iN g2 (by omega)), tc_iN (by omega), tc_iN (by omega), h87, (hR.2.2.2 k).2.2.2.2.1, s1, add_iN, if_pos (inb_iN s2 (by omega)), tc_iN (by omega), ltq, if_pos (inb_iN g2 (by omega)), gi_sl, (hR.2.2.2 k).2.2.2.2.2.2.2.2.2.2.2.2, ltq]
    have e : vzW gM base (k :: ks) w = vzW gM base ks (sl w 83 (base + s) 0) := by
      show vzW gM base ks (sl w 83 (base + (gi gM 26 k).toNatClampNeg) 0) = _
      rw [s1, tc_iN (by omega)]
    rw [e]
    exact ih (gi gM 82 k) fo (sl w 83 (base + s) 0) g3 (hR.off (OFF.sl (P := fun k j => k = 83) rfl) (fun k j p => by omega)) h129 h87 h133 (fun y hy => hk y (List.mem_cons_of_mem _ hy))
theorem rm_enter {bl base q : Nat} {ks : List Nat} (H : MK gM b ev sp cp na mt el us w) (hb : b < 60000) (ho : opW gM b 23 (Int32.ofNat bl) y z) (hbl : bl < 9000) (h87 : gi w 87 ev = Int32.ofNat base) (hq : base + q < 200000) (h41 : gi gM 41 bl = Int32.ofNat q) (hV : VLS gM ks (gi gM 81 bl)) (hk : ∀ k ∈ ks, ∃ s, gi gM 26 k = Int32.ofNat s ∧ base + s < 200000) (hl : ks.length ≤ 90000) :
    fX12_step w = some (sl (vzW gM base ks (si w 0 128 (Int32.ofNat (b + 1)))) 83 (base + q) (Int64.ofNat el)) := by
  have hev := H.2.2.2.2.2.2.2.2.2.2.2.1
  rw [stM_eq H ho hb]
  have H1 := H.nx (b1 := b + 1) (by omega)
  unfold stpB fX12_other
  rw [if_neg (show ¬ ((23 : Int32) = 1) by decide), if_neg (show ¬ ((23 : Int32) = 2) by decide), if_neg (show ¬ ((23 : Int32) = 3) by decide), if_neg (show ¬ ((23 : Int32) = 4) by decide), if_neg (show ¬ ((23 : Int32) = 5) by decide), if_neg (show ¬ ((23 : Int32) = 6) by decide), if_neg (show ¬ ((23 : Int32) = 7) by decide), if_neg (show ¬ ((23 : Int32) = 8) by decide), if_neg (show ¬ ((23 : Int32) = 9) by decide), if_neg (show ¬ ((23 : Int32) = 10) by decide), if_neg (show ¬ ((23 : Int32) = 11) by decide), if_neg (show ¬ ((23 : Int32) = 12) by decide), if_neg (show ¬ ((23 : Int32) = 13) by decide), if_neg (show ¬ ((23 : Int32) = 14) by decide), if_neg (show ¬ ((23 : Int32) = 15) by decide), if_neg (show ¬ ((23 : Int32) = 16) by decide), if_neg (show ¬ ((23 : Int32) = 17) by decide), if_neg (show ¬ ((23 : Int32) = 18) by decide), if_neg (show ¬ ((23 : Int32) = 19) by decide), if_neg (show ¬ ((23 : Int32) = 20) by decide), if_neg (show ¬ ((23 : Int32) = 21) by decide), if_neg (show ¬ ((23 : Int32) = 22) by decide), if_pos (show (23 : Int32) = 23 from rfl), if_pos (inb_iN hbl (by omega)), tc_iN (by omega), (H1.1.2.2.2 bl).2.2.2.2.2.2.2.2.2.2.2.1, ltq]
  obtain ⟨fo, hf⟩ := FU_ge (k := ks.length + 1) (by omega)
  rw [hf, ← Nat.add_assoc, ent_bl hbl hq hev h41 H.2.2.2.2.2.2.2.2.2.2.2.2.2.2.2.2.1 ks _ fo _ hV H1.1 H1.2.2.2.1 (by rw [gi_si1 (by omega)]; exact h87) H1.2.2.2.2.2.2.2.2.1 hk, bn_so]
/-- OVER -/
theorem rm_over {n : Nat} (H : MK gM b ev (sp + 3) cp na mt el us w) (hb : b < 60000) (ho : opW gM b 28 (Int32.ofNat n) y z) : ∃ q, OFF (fun k j => k = 0 ∧ (j = 128 ∨ j = 130)) q w ∧ MK gM (b + 1) ev sp cp na mt el us q ∧ fX12_step w = some (@ite _ (ftC (gl w 85 (sp + 2)) (gl w 85 (sp + 1)) (gl w 85 sp)) (Classical.propDecidable _) (si q 0 128 (Int32.ofNat n)) q) := by
  have hsp := H.2.2.2.2.2.2.2.2.2.2.2.2.1
  rw [stM_eq H ho hb]
  have H1 := H.nx (b1 := b + 1) (by omega)
  unfold stpB fX12_other
  rw [if_neg (show ¬ ((28 : Int32) = 1) by decide), if_neg (show ¬ ((28 : Int32) = 2) by decide), if_neg (show ¬ ((28 : Int32) = 3) by decide), if_neg (show ¬ ((28 : Int32) = 4) by decide), if_neg (show ¬ ((28 : Int32) = 5) by decide), if_neg (show ¬ ((28 : Int32) = 6) by decide), if_neg (show ¬ ((28 : Int32) = 7) by decide), if_neg (show ¬ ((28 : Int32) = 8) by decide), if_neg (show ¬ ((28 : Int32) = 9) by decide), if_neg (show ¬ ((28 : Int32) = 10) by decide), if_neg (show ¬ ((28 : Int32) = 11) by decide), if_neg (show ¬ ((28 : Int32) = 12) by decide), if_neg (show ¬ ((28 : Int32) = 13) by decide), if_neg (show ¬ ((28 : Int32) = 14) by decide), if_neg (show ¬ ((28 : Int32) = 15) by decide), if_neg (show ¬ ((28 : Int32) = 16) by decide), if_neg (show ¬ ((28 : Int32) = 17) by decide), if_neg (show ¬ ((28 : Int32) = 18) by decide), if_neg (show ¬ ((28 : Int32) = 19) by decide), if_neg (show ¬ ((28 : Int32) = 20) by decide), if_neg (show ¬ ((28 : Int32) = 21) by decide), if_neg (show ¬ ((28 : Int32) = 22) by decide), if_neg (show ¬ ((28 : Int32) = 23) by decide), if_neg (show ¬ ((28 : Int32) = 24) by decide), if_neg (show ¬ ((28 : Int32) = 25) by decide), if_neg (show ¬ ((28 : Int32) = 26) by decide), if_neg (show ¬ ((28 : Int32) = 27) by decide), if_neg (show ¬ ((28 : Int32) = 29) by decide), if_neg (show ¬ ((28 : Int32) = 30) by decide), if_neg (show ¬ ((28 : Int32) = 31) by decide), if_neg (show ¬ ((28 : Int32) = 32) by decide), popM (sp := sp + 2) H1.2.2.2.2.1 (by omega), bn2_so, gl_si, popM (sp := sp + 1) (gi_si0 _ _ _ _) (by omega), bn2_so, gl_si, gl_si, popM (sp := sp) (gi_si0 _ _ _ _) (by omega), bn2_so, gl_si, gl_si, gl_si]
  have O1 : OFF (fun k j => k = 0 ∧ (j = 128 ∨ j = 130)) (si (si (si (si w 0 128 (Int32.ofNat (b + 1))) 0 130 (Int32.ofNat (sp + 2))) 0 130 (Int32.ofNat (sp + 1))) 0 130 (Int32.ofNat sp)) w := OFF.tr (OFF.si (by omega)) (OFF.tr (OFF.si (by omega)) (OFF.tr (OFF.si (by omega)) (OFF.si (by omega))))
  have e11 : gi (si (si (si (si w 0 128 (Int32.ofNat (b + 1))) 0 130 (Int32.ofNat (sp + 2))) 0 130 (Int32.ofNat (sp + 1))) 0 130 (Int32.ofNat sp)) 0 128 = Int32.ofNat (b + 1) := by rw [gi_si1 (by omega), gi_si1 (by omega), gi_si1 (by omega), gi_si0]
  have e14 : gi (si (si (si (si w 0 128 (Int32.ofNat (b + 1))) 0 130 (Int32.ofNat (sp + 2))) 0 130 (Int32.ofNat (sp + 1))) 0 130 (Int32.ofNat sp)) 0 130 = Int32.ofNat sp := gi_si0 _ _ _ _
  generalize si (si (si (si w 0 128 (Int32.ofNat (b + 1))) 0 130 (Int32.ofNat (sp + 2))) 0 130 (Int32.ofNat (sp + 1))) 0 130 (Int32.ofNat sp) = q at O1 e11 e14 ⊢
  refine ⟨q, O1, H.ps (s0 := 0) (O1.mono fun k j p => Or.inl p) e11 e14 (by omega) (by omega), ?_⟩
  generalize gl w 85 (sp + 2) = lim
  generalize gl w 85 (sp + 1) = val
  generalize gl w 85 sp = by_
  unfold fX12_other_558
  have cc : ∀ x y : Int64, ¬ x ≤ y ↔ y < x := fun x y => by rw [Int64.le_iff_toInt_le, Int64.lt_iff_toInt_lt]; omega
  have c2 : ∀ x y : Int64, ¬ x < y ↔ y ≤ x := fun x y => by rw [Int64.le_iff_toInt_le, Int64.lt_iff_toInt_lt]; omega
  by_cases q1 : by_ ≤ 0
  · rw [if_pos q1]
    by_cases q2 : 0 ≤ by_
    · rw [if_pos q2, bn_so, if_neg (show ¬ ftC lim val by_ from fun hh => by
        rcases hh with hh | hh
        · exact (c2 _ _).mpr q1 hh.1
        · exact (c2 _ _).mpr q2 hh.1)]
    · rw [if_neg q2]
      by_cases q3 : lim ≤ val
      · rw [if_pos q3, bn_so, if_neg (show ¬ ftC lim val by_ from fun hh => by
          rcases hh with hh | hh
          · exact (c2 _ _).mpr q1 hh.1
          · exact (c2 _ _).mpr q3 hh.2)]
      · rw [if_neg q3, ltq, bn_so, if_pos (show ftC lim val by_ from Or.inr ⟨(cc _ _).mp q2, (cc _ _).mp q3⟩)]
  · rw [if_neg q1]
    by_cases q2 : lim < val
    · rw [if_pos q2, ltq, bn_so, if_pos (show ftC lim val by_ from Or.inl ⟨(cc _ _).mp q1, q2⟩)]
    · have q0 : 0 ≤ by_ := by
        have := (cc _ _).mp q1
        rw [Int64.lt_iff_toInt_lt] at this
        rw [Int64.le_iff_toInt_le]
        omega
      rw [if_neg q2, if_pos q0, bn_so, if_neg (show ¬ ftC lim val by_ from fun hh => by
        rcases hh with hh | hh
        · exact q2 hh.2
        · exact (c2 _ _).mpr q0 hh.1)]
end N7
