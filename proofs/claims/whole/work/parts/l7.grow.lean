/-! BOTH MACHINES: cells are added; an ARRAY is made -/
section LH7
variable {E : SENV} {K : CXT} {Lim p a a1 b b1 h sp sc i el el' tp mt xx qq n nb sz s q : Nat} {x x1 : Int} {wA wM uA uM : Wd} {A B : ACT} {G G' N : GHO} {ty : Int32} {fA fM lo hi : Nat → Int64}
/-- cells of both -/
def orG (G N : GHO) : GHO := fun k x q ty va vm => G k x q ty va vm ∨ N k x q ty va vm
theorem MEM.or (h : MEM G wA wM) (h2 : MEM N wA wM) : MEM (orG G N) wA wM := fun k x q ty va vm g => g.elim (h k x q ty va vm) (h2 k x q ty va vm)
theorem DIS.or (h : DIS G tp mt el) (hel : el ≤ el') (h2 : DIS N tp mt el')
    (d1 : ∀ k x q ty va vm k' x' q' ty' va' vm', G k x q ty va vm → N k' x' q' ty' va' vm' → k ≤ 2 → k' ≤ 2 → x ≠ x') (d2 : ∀ k x q ty va vm k' x' q' ty' va' vm', G k x q ty va vm → N k' x' q' ty' va' vm' → k ≠ 2 → k' ≠ 2 → q ≠ q') : DIS (orG G N) tp mt el' := by
  refine ⟨fun k x q ty va vm k' x' q' ty' va' vm' g g' e1 e2 e => ?_, fun k x q ty va vm k' x' q' ty' va' vm' g g' e1 e2 e => ?_, fun k x q ty va vm g => ?_⟩
  · rcases g with g | g
    · rcases g' with g' | g'
      · exact h.1 _ _ _ _ _ _ _ _ _ _ _ _ g g' e1 e2 e
      · exact absurd e (d1 _ _ _ _ _ _ _ _ _ _ _ _ g g' e1 e2)
    · rcases g' with g' | g'
      · exact absurd e.symm (d1 _ _ _ _ _ _ _ _ _ _ _ _ g' g e2 e1)
      · exact h2.1 _ _ _ _ _ _ _ _ _ _ _ _ g g' e1 e2 e
  · rcases g with g | g
    · rcases g' with g' | g'
      · exact h.2.1 _ _ _ _ _ _ _ _ _ _ _ _ g g' e1 e2 e
      · exact absurd e (d2 _ _ _ _ _ _ _ _ _ _ _ _ g g' e1 e2)
    · rcases g' with g' | g'
      · exact absurd e.symm (d2 _ _ _ _ _ _ _ _ _ _ _ _ g' g e2 e1)
      · exact h2.2.1 _ _ _ _ _ _ _ _ _ _ _ _ g g' e1 e2 e
  · rcases g with g | g
    · obtain ⟨b1, b2, b3, b4⟩ := h.2.2 _ _ _ _ _ _ g
      exact ⟨b1, b2, fun hk => (b3 hk).imp id (fun z => by omega), b4⟩
    · exact h2.2.2 _ _ _ _ _ _ g
/-- more cells, other ELEMENTS -/
def grK (K : CXT) (G' : GHO) (el' : Nat) : CXT := (K.1, G', fun k => if k = 5 then el' else K.2.2 k)
theorem KST.gr (h : KST E K) (hg : ∀ k x q ty va vm, K.2.1 k x q ty va vm → G' k x q ty va vm) (hD : DIS G' (K.2.2 1) (K.2.2 2) el') : KST E (grK K G' el') := by
  obtain ⟨k1, k2, k3, k4, k5, k6⟩ := h
  exact ⟨hD, fun j B hB => ⟨(k2 j B hB).1, (k2 j B hB).2.1, (k2 j B hB).2.2.1, fun ho => ((k2 j B hB).2.2.2 ho).mono (fun j B hB ho => ⟨B, hB, ho, ALK.rf⟩) hg⟩, k3, k4, k5, k6⟩
theorem HND.gr (h : HND E K Lim) (hg : ∀ k x q ty va vm, K.2.1 k x q ty va vm → G' k x q ty va vm) : HND E (grK K G' el') Lim := fun j B s r l h1 h2 h3 h4 h5 h6 => by
  obtain ⟨K2, k1, k2, k3⟩ := h j B s r l h1 h2 h3 h4 h5 h6
  exact ⟨K2, k1, fun k x q ty va vm g => hg _ _ _ _ _ _ (k2 _ _ _ _ _ _ g), k3⟩
/-- cells of an ARRAY: n words at xx and qq, sz ELEMENTS from el on -/
def arN (xx qq n : Nat) (ty : Int32) (el sz : Nat) (fA fM : Nat → Int64) : GHO := fun k x q t va vm => (k = 1 ∧ t = 0 ∧ ∃ d, d < n ∧ x = xx + d ∧ q = qq + d ∧ va = fA d ∧ vm = fM d) ∨ (k = 0 ∧ t = ty ∧ va = 0 ∧ vm = 0 ∧ ∃ j, el ≤ j ∧ j < el + sz ∧ x = 4096 + j ∧ q = 1048576 + j)
theorem arN_dis (hx : 6096 ≤ xx ∧ xx + n ≤ tp) (hq : qq + n ≤ mt ∧ mt ≤ 1048576) (hs : el + sz ≤ 2000) (ht : ty = 1 ∨ ty = 2) : DIS (arN xx qq n ty el sz fA fM) tp mt (el + sz) := by
  refine ⟨fun k x q ty va vm k' x' q' ty' va' vm' g g' e1 e2 e => ?_, fun k x q ty va vm k' x' q' ty' va' vm' g g' e1 e2 e => ?_, fun k x q ty va vm g => ?_⟩
  · rcases g with ⟨g1, g2, d, g3, g4, g5, g6, g7⟩ | ⟨g1, g2, g6, g7, d, g3, g4, g5, g8⟩
    · rcases g' with ⟨f1, f2, d', f3, f4, f5, f6, f7⟩ | ⟨f1, f2, f6, f7, d', f3, f4, f5, f8⟩
      · have : d' = d := by omega
        subst this
        exact ⟨by omega, by omega, g2.trans f2.symm, g6.trans f6.symm, g7.trans f7.symm⟩
      · omega
    · rcases g' with ⟨f1, f2, d', f3, f4, f5, f6, f7⟩ | ⟨f1, f2, f6, f7, d', f3, f4, f5, f8⟩
      · omega
      · exact ⟨by omega, by omega, g2.trans f2.symm, g6.trans f6.symm, g7.trans f7.symm⟩
  · rcases g with ⟨g1, g2, d, g3, g4, g5, g6, g7⟩ | ⟨g1, g2, g6, g7, d, g3, g4, g5, g8⟩
    · rcases g' with ⟨f1, f2, d', f3, f4, f5, f6, f7⟩ | ⟨f1, f2, f6, f7, d', f3, f4, f5, f8⟩
      · have : d' = d := by omega
        subst this
        exact ⟨by omega, by omega, g2.trans f2.symm, g6.trans f6.symm, g7.trans f7.symm⟩
      · omega
    · rcases g' with ⟨f1, f2, d', f3, f4, f5, f6, f7⟩ | ⟨f1, f2, f6, f7, d', f3, f4, f5, f8⟩
      · omega
      · exact ⟨by omega, by omega, g2.trans f2.symm, g6.trans f6.symm, g7.trans f7.symm⟩
  · rcases g with ⟨g1, g2, d, g3, g4, g5, g6, g7⟩ | ⟨g1, g2, g6, g7, d, g3, g4, g5, g8⟩
    · exact ⟨by omega, fun _ => ⟨by omega, fun _ => by omega⟩, fun _ => by omega, fun _ => by omega⟩
    · exact ⟨by omega, fun _ => ⟨by omega, fun _ => by omega⟩, fun _ => by omega, fun _ => by rw [g2]; exact ht⟩
/-- words that no cell has -/
def FRW (G : GHO) (xx qq n : Nat) : Prop := ∀ k x q ty va vm, G k x q ty va vm → (k ≤ 2 → x < xx ∨ xx + n ≤ x) ∧ (k ≠ 2 → q < qq ∨ qq + n ≤ q)
theorem DIS.arr (h : DIS G tp mt el) (hx : 6096 ≤ xx ∧ xx + n ≤ tp) (hq : qq + n ≤ mt ∧ mt ≤ 1048576) (hs : el + sz ≤ 2000) (ht : ty = 1 ∨ ty = 2) (hF : FRW G xx qq n) : DIS (orG G (arN xx qq n ty el sz fA fM)) tp mt (el + sz) := by
  refine h.or (by omega) (arN_dis hx hq hs ht) (fun k x q ty va vm k' x' q' ty' va' vm' g g' e1 e2 => ?_) (fun k x q ty va vm k' x' q' ty' va' vm' g g' e1 e2 => ?_)
  · obtain ⟨b1, b2, b3, b4⟩ := h.2.2 _ _ _ _ _ _ g
    have b2 := b2 e1
    have f := (hF _ _ _ _ _ _ g).1 e1
    rcases g' with ⟨f1, f2, d', f3, f4, f5, f6, f7⟩ | ⟨f1, f2, f6, f7, d', f3, f4, f5, f8⟩
    · omega
    · intro e
      have b2 := b2.2 (by omega)
      have b5 := b2.2 (by omega)
      have b3 := b3 (by omega)
      omega
  · obtain ⟨b1, b2, b3, b4⟩ := h.2.2 _ _ _ _ _ _ g
    have b3 := b3 e1
    have f := (hF _ _ _ _ _ _ g).2 e1
    rcases g' with ⟨f1, f2, d', f3, f4, f5, f6, f7⟩ | ⟨f1, f2, f6, f7, d', f3, f4, f5, f8⟩
    · omega
    · omega
/-- what stands in the words of an ARRAY -/
def arV (nb z : Nat) (lo hi : Nat → Int64) (d : Nat) : Int64 := if d = 0 then Int64.ofNat nb else if d = 1 then Int64.ofNat z else if d % 2 = 0 then lo ((d - 2) / 2) else hi ((d - 2) / 2)
theorem arV_0 : arV nb sz lo hi 0 = Int64.ofNat nb := rfl
theorem arV_1 : arV nb sz lo hi 1 = Int64.ofNat sz := rfl
theorem arV_2 {k : Nat} : arV nb sz lo hi (2 + 2 * k) = lo k := by
  unfold arV
  rw [if_neg (by omega), if_neg (by omega), if_pos (by omega), show (2 + 2 * k - 2) / 2 = k by omega]
theorem arV_3 {k : Nat} : arV nb sz lo hi (3 + 2 * k) = hi k := by
  unfold arV
  rw [if_neg (by omega), if_neg (by omega), if_neg (by omega), show (3 + 2 * k - 2) / 2 = k by omega]
theorem arN_desc (hn : 1 ≤ nb ∧ nb ≤ 3) (hR : ∀ k, k < nb → R36 (lo k) ∧ R36 (hi k)) (hz : PRZ lo hi nb = (sz : Int)) (he : el + sz ≤ 2000) : DESC (orG G (arN xx qq (2 + 2 * nb) ty el sz (arV nb (4096 + el) lo hi) (arV nb el lo hi))) xx qq ty nb := by
  refine ⟨el, (sz : Int), lo, hi, Or.inr (Or.inl ⟨rfl, rfl, 0, by omega, rfl, rfl, rfl, rfl⟩), Or.inr (Or.inl ⟨rfl, rfl, 1, by omega, rfl, rfl, rfl, rfl⟩), fun k hk => ⟨Or.inr (Or.inl ⟨rfl, rfl, 2 + 2 * k, by omega, by omega, by omega, arV_2.symm, arV_2.symm⟩), Or.inr (Or.inl ⟨rfl, rfl, 3 + 2 * k, by omega, by omega, by omega, arV_3.symm, arV_3.symm⟩), hR k hk⟩, hn, hz, by omega, fun t h1 h2 => Or.inr (Or.inr ⟨rfl, rfl, rfl, rfl, t, h1, by omega, rfl, rfl⟩)⟩
theorem JS.make (hE : EOKS E) (H : JS E K (K.2.2 5) a b (h + 2 * nb) (sp + 2 * nb) sc x i wA wM) (hA : K.1[K.2.2 0]? = some A) (hon : aOn A) (hw : gl (cA E) 41 a = wdC 30 (Int32.ofNat nb) (Int32.ofNat s)) (ho : opW (dM E) b 24 (Int32.ofNat q) (Int32.ofNat nb) 0) (ha : a < eNo E 5 0) (hb : b < 60000) (hn : 1 ≤ nb ∧ nb ≤ 3) (hR : ROWV (2 * nb) h sp wA wM) (hs : 6096 ≤ aF A + s ∧ aF A + s + (2 + 2 * nb) ≤ K.2.2 1) (hq : aB A + q + (2 + 2 * nb) ≤ K.2.2 2) (ht : ty = 1 ∨ ty = 2) (hF : FRW K.2.1 (aF A + s) (aB A + q) (2 + 2 * nb)) (hx : x + 1 ≤ x1 ∧ x1 ≤ KK)
    (g : ∀ uA uM sz fA fM, K.2.2 5 + sz ≤ 2000 → DESC (orG K.2.1 (arN (aF A + s) (aB A + q) (2 + 2 * nb) ty (K.2.2 5) sz fA fM)) (aF A + s) (aB A + q) ty nb → JS E (grK K (orG K.2.1 (arN (aF A + s) (aB A + q) (2 + 2 * nb) ty (K.2.2 5) sz fA fM)) (K.2.2 5 + sz)) (K.2.2 5 + sz) (a + 1) (b + 1) (h + 2 * nb) (sp + 2 * nb) sc x1 (i + 1) uA uM → KEE (h + 2 * nb) (K.2.2 3) (sp + 2 * nb) (K.2.2 4) wA wM uA uM → GD E (i + 1) uA uM) : GD E i wA wM := by
  obtain ⟨C, M⟩ := H.cka hA
  have hd := H.dep
  have act := H.act hA
  obtain ⟨hM, hD⟩ := H.mem
  have hmt : K.2.2 2 ≤ 199000 := M.2.2.2.2.2.2.2.2.2.2.2.2.2.2.2.1
  have hel : K.2.2 5 ≤ 2000 := M.2.2.2.2.2.2.2.2.2.2.2.2.2.2.2.2.1
  obtain ⟨_, pr, de, fu, j1, j2, j3, j4, j5, j6, j7, j8, j9, j10, ⟨j11, j12, j13, j14, j15, j16, j17⟩, o1, o2⟩ := id H
  have hfu : fu ≤ 2000 := j4.2.2.2.2.2.2.2.2.2.2
  have hl : ∀ k, k < nb → R36 (gl wA 51 (h + 2 * k)) ∧ R36 (gl wA 51 (h + 2 * k + 1)) := fun k hk => ⟨(hR (2 * k) (by omega)).2.r, (hR (2 * k + 1) (by omega)).2.r⟩
  have tk := k_make (lo := fun k => gl wA 51 (h + 2 * k)) (hi := fun k => gl wA 51 (h + 2 * k + 1)) C j4 ha hw (by omega) hn.2 (by omega) (fun q _ => ⟨rfl, rfl⟩) hl
  have st := rm_alloc (lo := fun k => gl wA 51 (h + 2 * k)) (hi := fun k => gl wA 51 (h + 2 * k + 1)) M j6 hfu hb ho act.1.1 (by omega) hn.2 (fun k hk => ⟨(hR (2 * k) (by omega)).1.symm, (hR (2 * k + 1) (by omega)).1.symm⟩) hl
  generalize hlo : (fun k => gl wA 51 (h + 2 * k)) = lo at tk st hl
  generalize hhi : (fun k => gl wA 51 (h + 2 * k + 1)) = hi at tk st hl
  have hl' : ∀ k, k < nb → R36 (lo k) ∧ R36 (hi k) := fun k hk => by
    rw [← hlo, ← hhi]; exact hl k hk
  have rn := M.runs ho hb (by decide)
  have E1 : OFF (fun k j => k = 48 ∨ (k = 50 ∧ aF A + s ≤ j ∧ j < aF A + s + (2 + 2 * nb))) (mkeW lo hi (aF A + s) nb (K.2.2 5) (si wA 48 11 (Int32.ofNat (a + 1)))) wA := OFF.tr (mkeW_off (fun j h1 h2 => Or.inr ⟨rfl, h1, by omega⟩)) (OFF.si (Or.inl rfl))
  have E2 : OFF (fun k j => k = 48 ∧ j = 11 ∨ (k = 50 ∧ aF A + s ≤ j ∧ j < aF A + s + (2 + 2 * nb))) (mkeW lo hi (aF A + s) nb (K.2.2 5) (si wA 48 11 (Int32.ofNat (a + 1)))) wA := OFF.tr (mkeW_off (fun j h1 h2 => Or.inr ⟨rfl, h1, by omega⟩)) (OFF.si (Or.inl ⟨rfl, rfl⟩))
  obtain ⟨v1, v2, v3⟩ := mkeW_v (lo := lo) (hi := hi) (x := aF A + s) (nb := nb) (el := K.2.2 5) (w := si wA 48 11 (Int32.ofNat (a + 1)))
  have M0 : OFF (fun k j => (k = 0 ∧ j = 128) ∨ (k = 83 ∧ aB A + q ≤ j ∧ j < aB A + q + (2 + 2 * nb))) (sl (sl (bndM lo hi (aB A + q) 0 nb (si wM 0 128 (Int32.ofNat (b + 1)))) 83 (aB A + q) (Int64.ofNat nb)) 83 (aB A + q + 1) (Int64.ofNat (K.2.2 5))) wM := OFF.tr (OFF.sl (Or.inr ⟨rfl, by omega, by omega⟩)) (OFF.tr (OFF.sl (Or.inr ⟨rfl, by omega, by omega⟩)) (OFF.tr (bndM_off nb 0 _ (fun j h1 h2 => Or.inr ⟨rfl, by omega, by omega⟩)) (OFF.si (Or.inl ⟨rfl, rfl⟩))))
  have N1 : gl (sl (sl (bndM lo hi (aB A + q) 0 nb (si wM 0 128 (Int32.ofNat (b + 1)))) 83 (aB A + q) (Int64.ofNat nb)) 83 (aB A + q + 1) (Int64.ofNat (K.2.2 5))) 83 (aB A + q) = Int64.ofNat nb := by rw [gl_sl1 (by omega), gl_sl0]
  have N2 : gl (sl (sl (bndM lo hi (aB A + q) 0 nb (si wM 0 128 (Int32.ofNat (b + 1)))) 83 (aB A + q) (Int64.ofNat nb)) 83 (aB A + q + 1) (Int64.ofNat (K.2.2 5))) 83 (aB A + q + 1) = Int64.ofNat (K.2.2 5) := gl_sl0 _ _ _ _
  have N3 : ∀ k, k < nb → gl (sl (sl (bndM lo hi (aB A + q) 0 nb (si wM 0 128 (Int32.ofNat (b + 1)))) 83 (aB A + q) (Int64.ofNat nb)) 83 (aB A + q + 1) (Int64.ofNat (K.2.2 5))) 83 (aB A + q + 2 + 2 * k) = lo k ∧ gl (sl (sl (bndM lo hi (aB A + q) 0 nb (si wM 0 128 (Int32.ofNat (b + 1)))) 83 (aB A + q) (Int64.ofNat nb)) 83 (aB A + q + 1) (Int64.ofNat (K.2.2 5))) 83 (aB A + q + 3 + 2 * k) = hi k := fun k hk => by
    rw [gl_sl1 (by omega), gl_sl1 (by omega), gl_sl1 (by omega), gl_sl1 (by omega)]
    exact bndM_v nb 0 _ k (by omega) (by omega)
  have y11 : gi (mkeW lo hi (aF A + s) nb (K.2.2 5) (si wA 48 11 (Int32.ofNat (a + 1)))) 48 11 = Int32.ofNat (a + 1) := ((mkeW_off (Q := fun k j => k = 50) (fun j h1 h2 => rfl)) 48 11 (by omega)).1.trans (gi_si0 _ _ _ _)
  have y128 : gi (sl (sl (bndM lo hi (aB A + q) 0 nb (si wM 0 128 (Int32.ofNat (b + 1)))) 83 (aB A + q) (Int64.ofNat nb)) 83 (aB A + q + 1) (Int64.ofNat (K.2.2 5))) 0 128 = Int32.ofNat (b + 1) := by
    rw [gi_sl, gi_sl]; exact ((bndM_off (Q := fun k j => k = 83) nb 0 _ (fun j h1 h2 => rfl)) 0 128 (by omega)).1.trans (gi_si0 _ _ _ _)
  generalize sl (sl (bndM lo hi (aB A + q) 0 nb (si wM 0 128 (Int32.ofNat (b + 1)))) 83 (aB A + q) (Int64.ofNat nb)) 83 (aB A + q + 1) (Int64.ofNat (K.2.2 5)) = yM at st M0 N1 N2 N3 y128
  generalize mkeW lo hi (aF A + s) nb (K.2.2 5) (si wA 48 11 (Int32.ofNat (a + 1))) = yA at tk E1 E2 v1 v2 v3 y11
  by_cases hfit : (K.2.2 5 : Int) + PRZ lo hi nb ≤ 2000
  · have tk := tk.1 hfit
    have st := st.1 hfit
    have hz : PRZ lo hi nb = ((PRZ lo hi nb).toNat : Int) := (Int.toNat_of_nonneg PRZ_nn).symm
    generalize (PRZ lo hi nb).toNat = sz at tk st hz
    have he : K.2.2 5 + sz ≤ 2000 := by omega
    have OA : OFF (fun k j => (k = 48 ∧ (j = 11 ∨ j = 16)) ∨ (k = 56 ∧ j = 6) ∨ (k = 50 ∧ (aF A + s ≤ j ∧ j < aF A + s + (2 + 2 * nb) ∨ 4096 + K.2.2 5 ≤ j ∧ j < 4096 + K.2.2 5 + sz))) (si (si (clrW (4096 + K.2.2 5) sz yA) 48 16 (Int32.ofNat (K.2.2 5 + sz))) 56 6 (Int32.ofNat (max fu (K.2.2 5 + sz)))) wA := OFF.tr (OFF.si (by omega)) (OFF.tr (OFF.si (by omega)) (OFF.tr (clrW_off sz _ _ (fun j h1 h2 => by omega)) (E2.mono fun k j p => by omega)))
    have OM : OFF (fun k j => (k = 0 ∧ (j = 128 ∨ j = 133 ∨ j = 136)) ∨ (k = 84 ∧ K.2.2 5 ≤ j) ∨ (k = 83 ∧ aB A + q ≤ j ∧ j < aB A + q + (2 + 2 * nb))) (si (si (zelW (K.2.2 5) sz yM) 0 133 (Int32.ofNat (K.2.2 5 + sz))) 0 136 (Int32.ofNat (max fu (K.2.2 5 + sz)))) wM := OFF.tr (OFF.si (by omega)) (OFF.tr (OFF.si (by omega)) (OFF.tr (zelW_off sz _ _ (fun j h1 h2 => by omega)) (M0.mono fun k j p => by omega)))
    have cl : OFF (fun k j => k = 50 ∧ 4096 + K.2.2 5 ≤ j ∧ j < 4096 + K.2.2 5 + sz) (clrW (4096 + K.2.2 5) sz yA) yA := clrW_off sz _ _ (fun j h1 h2 => ⟨rfl, h1, h2⟩)
    have zl : OFF (fun k j => k = 84 ∧ K.2.2 5 ≤ j) (zelW (K.2.2 5) sz yM) yM := zelW_off sz _ _ (fun j h1 h2 => ⟨rfl, h1⟩)
    have q11 : gi (si (si (clrW (4096 + K.2.2 5) sz yA) 48 16 (Int32.ofNat (K.2.2 5 + sz))) 56 6 (Int32.ofNat (max fu (K.2.2 5 + sz)))) 48 11 = Int32.ofNat (a + 1) := by
      rw [gi_si1 (by omega), gi_si1 (by omega), (cl 48 11 (by omega)).1]; exact y11
    have q16 : gi (si (si (clrW (4096 + K.2.2 5) sz yA) 48 16 (Int32.ofNat (K.2.2 5 + sz))) 56 6 (Int32.ofNat (max fu (K.2.2 5 + sz)))) 48 16 = Int32.ofNat (K.2.2 5 + sz) := by
      rw [gi_si1 (by omega), gi_si0]
    have q128 : gi (si (si (zelW (K.2.2 5) sz yM) 0 133 (Int32.ofNat (K.2.2 5 + sz))) 0 136 (Int32.ofNat (max fu (K.2.2 5 + sz)))) 0 128 = Int32.ofNat (b + 1) := by
      rw [gi_si1 (by omega), gi_si1 (by omega), (zl 0 128 (by omega)).1]; exact y128
    have q133 : gi (si (si (zelW (K.2.2 5) sz yM) 0 133 (Int32.ofNat (K.2.2 5 + sz))) 0 136 (Int32.ofNat (max fu (K.2.2 5 + sz)))) 0 133 = Int32.ofNat (K.2.2 5 + sz) := by
      rw [gi_si1 (by omega), gi_si0]
    have qT : TLY (eNo E 5 5) sc pr de (max fu (K.2.2 5 + sz)) (si (si (clrW (4096 + K.2.2 5) sz yA) 48 16 (Int32.ofNat (K.2.2 5 + sz))) 56 6 (Int32.ofNat (max fu (K.2.2 5 + sz)))) := by
      obtain ⟨t1, t2, t3, t4, t5, t6, t7, t8, t9, t10, t11⟩ := j4
      exact ⟨(OA 48 17 (by omega)).1.trans t1, (OA 56 4 (by omega)).1.trans t2, (OA 56 3 (by omega)).1.trans t3, (OA 56 5 (by omega)).1.trans t4, gi_si0 _ _ _ _, (OA 56 7 (by omega)).1.trans t6, t7, t8, t9, t10, by omega⟩
    have qTM : TLM (eNo E 5 5) sc pr de (max fu (K.2.2 5 + sz)) (si (si (zelW (K.2.2 5) sz yM) 0 133 (Int32.ofNat (K.2.2 5 + sz))) 0 136 (Int32.ofNat (max fu (K.2.2 5 + sz)))) := by
      obtain ⟨t1, t2, t3, t4, t5⟩ := j6
      exact ⟨(OM 0 138 (by omega)).1.trans t1, (OM 0 137 (by omega)).1.trans t2, (OM 0 139 (by omega)).1.trans t3, (OM 0 135 (by omega)).1.trans t4, gi_si0 _ _ _ _⟩
    have z50 : ∀ j, 4096 + K.2.2 5 ≤ j → j < 4096 + K.2.2 5 + sz → gl (si (si (clrW (4096 + K.2.2 5) sz yA) 48 16 (Int32.ofNat (K.2.2 5 + sz))) 56 6 (Int32.ofNat (max fu (K.2.2 5 + sz)))) 50 j = 0 := fun j h1 h2 => by
      rw [gl_si, gl_si]; exact clrW_v sz _ _ j h1 h2
    have z84 : ∀ j, K.2.2 5 ≤ j → j < K.2.2 5 + sz → gl (si (si (zelW (K.2.2 5) sz yM) 0 133 (Int32.ofNat (K.2.2 5 + sz))) 0 136 (Int32.ofNat (max fu (K.2.2 5 + sz)))) 84 j = 0 := fun j h1 h2 => by
      rw [gl_si, gl_si]; exact zelW_v sz _ _ j h1 h2
    have yv : ∀ j, aF A + s ≤ j → j < aF A + s + (2 + 2 * nb) → gl (si (si (clrW (4096 + K.2.2 5) sz yA) 48 16 (Int32.ofNat (K.2.2 5 + sz))) 56 6 (Int32.ofNat (max fu (K.2.2 5 + sz)))) 50 j = gl yA 50 j := fun j h1 h2 => by
      rw [gl_si, gl_si]; exact (cl 50 j (by omega)).2
    have yw : ∀ j, gl (si (si (zelW (K.2.2 5) sz yM) 0 133 (Int32.ofNat (K.2.2 5 + sz))) 0 136 (Int32.ofNat (max fu (K.2.2 5 + sz)))) 83 j = gl yM 83 j := fun j => by
      rw [gl_si, gl_si]; exact (zl 83 j (by omega)).2
    generalize (si (si (clrW (4096 + K.2.2 5) sz yA) 48 16 (Int32.ofNat (K.2.2 5 + sz))) 56 6 (Int32.ofNat (max fu (K.2.2 5 + sz)))) = uA at tk OA q11 q16 qT z50 yv
    generalize (si (si (zelW (K.2.2 5) sz yM) 0 133 (Int32.ofNat (K.2.2 5 + sz))) 0 136 (Int32.ofNat (max fu (K.2.2 5 + sz)))) = uM at st OM q128 q133 qTM z84 yw
    have hDn := hD.arr (ty := ty) (sz := sz) (fA := arV nb (4096 + K.2.2 5) lo hi) (fM := arV nb (K.2.2 5) lo hi) hs ⟨hq, by omega⟩ he ht hF
    have C1 : CK (cA E) (eNo E 5 0) (a + 1) (aF A) (K.2.2 1) (h + 2 * nb) (K.2.2 3) (K.2.2 5 + sz) uA := C.nw (OA.mono fun k j p => by omega) q11 ((OA 48 12 (by omega)).1.trans C.2.2.2.1) ((OA 48 13 (by omega)).1.trans C.2.2.2.2.1) ((OA 48 14 (by omega)).1.trans C.2.2.2.2.2.1) ((OA 48 15 (by omega)).1.trans C.2.2.2.2.2.2.1) q16 ⟨C.2.2.2.2.2.2.2.2.1, C.2.2.2.2.2.2.2.2.2.1, C.2.2.2.2.2.2.2.2.2.2.1, hd.1, he⟩
    have M1 : MK (dM E) (b + 1) (K.2.2 0) (sp + 2 * nb) (K.2.2 4) K.1.length (K.2.2 2) (K.2.2 5 + sz) (K.2.2 3) uM := by
      obtain ⟨m1, m2, m3, m4, m5, m6, m7, m8, m9, m10, m11, m12, m13, m14, m15, m16, m17, m18⟩ := id M
      have e : ∀ j, j ≠ 128 → j ≠ 133 → j ≠ 136 → gi uM 0 j = gi wM 0 j := fun j p q r => (OM 0 j (by omega)).1
      exact M.nw (OM.mono fun k j p => by omega) q128 ((e 129 (by omega) (by omega) (by omega)).trans m4) ((e 130 (by omega) (by omega) (by omega)).trans m5) ((e 127 (by omega) (by omega) (by omega)).trans m6) ((e 131 (by omega) (by omega) (by omega)).trans m7) ((e 132 (by omega) (by omega) (by omega)).trans m8) q133 ((e 134 (by omega) (by omega) (by omega)).trans m10) ⟨by omega, m12, m13, m14, m15, m16, he, m18⟩
    have hm0 : MEM K.2.1 uA uM := by
      refine hM.agr (fun k x q' t va vm gg hk => ?_) (fun k x q' t va vm gg hk => ?_)
      · obtain ⟨b1, b2, b3, b4⟩ := hD.2.2 _ _ _ _ _ _ gg
        have f := (hF _ _ _ _ _ _ gg).1 hk
        refine (OA 50 x (fun c => ?_)).2
        have b2 := b2 hk
        by_cases hx6 : x < 6096
        · have b5 := b2.2 hx6
          by_cases hx4 : 4096 ≤ x
          · have b6 := b5.2 hx4
            have b3 := b3 (by omega)
            omega
          · omega
        · omega
      · obtain ⟨b1, b2, b3, b4⟩ := hD.2.2 _ _ _ _ _ _ gg
        have f := (hF _ _ _ _ _ _ gg).2 hk
        have b3 := b3 hk
        unfold RMq
        by_cases h9 : q' < 1048576
        · rw [if_pos h9, if_pos h9]; exact (OM 83 q' (by omega)).2
        · rw [if_neg h9, if_neg h9]; exact (OM 84 _ (by omega)).2
    have hmn : MEM (arN (aF A + s) (aB A + q) (2 + 2 * nb) ty (K.2.2 5) sz (arV nb (4096 + K.2.2 5) lo hi) (arV nb (K.2.2 5) lo hi)) uA uM := by
      intro k x q' t va vm gg
      rcases gg with ⟨g1, g2, d, g3, g4, g5, g6, g7⟩ | ⟨g1, g2, g6, g7, j, g3, g4, g5, g8⟩
      · have r1 : gl uA 50 x = va := by
          rw [g4, g6, yv _ (by omega) (by omega)]
          by_cases d0 : d = 0
          · subst d0; exact v1
          · by_cases d1 : d = 1
            · subst d1; exact v2
            · have d2 : d = 2 + 2 * ((d - 2) / 2) ∨ d = 3 + 2 * ((d - 2) / 2) := by omega
              have d3 : (d - 2) / 2 < nb := by omega
              generalize (d - 2) / 2 = r at d2 d3
              rcases d2 with rfl | rfl
              · rw [arV_2]; exact ((congrArg (gl yA 50) (by omega)).trans (v3 r d3).1)
              · rw [arV_3]; exact ((congrArg (gl yA 50) (by omega)).trans (v3 r d3).2)
        have r2 : RMq uM q' = vm := by
          unfold RMq
          rw [if_pos (by omega), g5, g7, yw]
          by_cases d0 : d = 0
          · subst d0; exact N1
          · by_cases d1 : d = 1
            · subst d1; exact N2
            · have d2 : d = 2 + 2 * ((d - 2) / 2) ∨ d = 3 + 2 * ((d - 2) / 2) := by omega
              have d3 : (d - 2) / 2 < nb := by omega
              generalize (d - 2) / 2 = r at d2 d3
              rcases d2 with rfl | rfl
              · rw [arV_2]; exact ((congrArg (gl yM 83) (by omega)).trans (N3 r d3).1)
              · rw [arV_3]; exact ((congrArg (gl yM 83) (by omega)).trans (N3 r d3).2)
        exact ⟨fun c => by omega, fun _ => r1, fun _ => r2⟩
      · have r1 : gl uA 50 x = 0 := by rw [g5]; exact z50 _ (by omega) (by omega)
        have r2 : RMq uM q' = 0 := by
          unfold RMq
          rw [if_neg (by omega), g8, show 1048576 + j - 1048576 = j by omega]; exact z84 j g3 g4
        refine ⟨fun _ => ⟨r1.trans r2.symm, ?_⟩, fun c => by omega, fun c => by omega⟩
        rw [r1, g2]; exact VT.z ht
    have J : JS E (grK K (orG K.2.1 (arN (aF A + s) (aB A + q) (2 + 2 * nb) ty (K.2.2 5) sz (arV nb (4096 + K.2.2 5) lo hi) (arV nb (K.2.2 5) lo hi))) (K.2.2 5 + sz)) (K.2.2 5 + sz) (a + 1) (b + 1) (h + 2 * nb) (sp + 2 * nb) sc x1 (i + 1) uA uM := JS.ch (h0 := h + 2 * nb) (sp0 := sp + 2 * nb) H (H.kst.gr (fun _ _ _ _ _ _ g => Or.inl g) hDn) (fun j B hB => ⟨B, hB, SMA.rf⟩) hA hon C1 qT M1 qTM (fun pr0 de0 fu0 T => T.uq j4) (hm0.or hmn) (OA.mono fun k j p => by omega) (OM.mono fun k j p => by omega) H.low ⟨Nat.le_refl _, Nat.le_refl _, hd.2.2.1⟩ ⟨by omega, hx.2⟩
    exact J.go hE (TKS.one hd.2.2.2.2 tk) (SPS.one rn st) (by omega) (g uA uM sz _ _ he (arN_desc hn hl' hz he) J ⟨fun j _ => (OA 51 j (by omega)).2, fun k j p q r => (OA k j (by omega)).1, fun j _ => (OM 85 j (by omega)).2, fun k j p q r => (OM k j (by omega)).1, PSD.eq (OA 56 3 (by omega)).1 (OA 56 4 (by omega)).1⟩)
  · have tk := tk.2 hfit
    have st := st.2 hfit
    have OA : OFF (fun k j => k = 48 ∧ (j = 10 ∨ j = 11) ∨ (k = 50 ∧ aF A + s ≤ j ∧ j < aF A + s + (2 + 2 * nb))) (si yA 48 10 3) wA := OFF.tr (OFF.si (by omega)) (E2.mono fun k j p => by omega)
    have OM : OFF (fun k j => (k = 0 ∧ (j = 128 ∨ j = 140)) ∨ (k = 83 ∧ aB A + q ≤ j ∧ j < aB A + q + (2 + 2 * nb))) (si yM 0 140 3) wM := OFF.tr (OFF.si (by omega)) (M0.mono fun k j p => by omega)
    refine JS.fin (f := 3) (k := 1) hE H (by unfold KK; omega) (TKS.one hd.2.2.2.2 tk) (SPS.one rn st) (by omega) ⟨gi_si0 _ _ _ _, by decide⟩ (Or.inr (Or.inl ⟨gi_si0 _ _ _ _, by decide, by decide⟩)) (j4.off OA (fun k j p => by omega)) (j6.off OM (fun k j p => by omega)) (fun r q1 q2 => ?_) (OA.mono fun k j p => by unfold PZA; omega) (OM.mono fun k j p => by unfold PZR; omega)
    rw [(OA 55 r (by omega)).2, (OM 86 r (by omega)).2]; exact j7 r q1 q2
end LH7
