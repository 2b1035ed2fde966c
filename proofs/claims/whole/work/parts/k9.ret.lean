/-! BOTH MACHINES: STATEMENTS of what's innermost; the call is over -/
section KJ9
/-- the numbers of the activation that's the last -/
def LSN (E : SENV) (K : CXT) (A : ACT) : Prop := K.2.2 1 = aF A + eNo E 1 (aP A) ∧ K.2.2 2 = aB A + eNo E 3 (aP A) ∧ K.2.2 3 = A.1 4 ∧ K.2.2 4 = A.1 7 ∧ K.2.2 5 = kvO E A (aK A)
/-- free words: the class's from slot sg on, the reference's from m1 to s0, and from m2 on -/
def FRE (K : CXT) (A : ACT) (sg m1 s0 m2 : Nat) : Prop := ∀ k x q ty va vm, K.2.1 k x q ty va vm → (k ≤ 2 → x < aF A + sg) ∧ (k ≠ 2 → q < 1048576 → q < aB A + m1 ∨ aB A + s0 ≤ q ∧ q < aB A + m2)
/-- a STATEMENT of the last activation, in the SCOPES stk: words a .. a1, codes b .. b1 -/
def SIT (E : SENV) (Lim : Nat) (stk : List Nat) (p sg m1 s0 m2 a a1 b b1 : Nat) : Prop := ∀ (K : CXT) (A : ACT) (sc : Nat) (x : Int) (i : Nat) (wA wM : Wd), K.1[K.2.2 0]? = some A → aOn A → K.1.length = K.2.2 0 + 1 → aK A = stk → aP A = p → LSN E K A → FRE K A sg m1 s0 m2 → JS E K (K.2.2 5) a b (A.1 5) (A.1 6) sc x i wA wM → HND E K Lim → eNo E 5 5 ≤ Lim + sc → A.1 5 + 502 ≤ 502 * (A.1 4 + 1) ∧ A.1 7 + 1 ≤ 4 * A.1 4 + 4 → (∀ (j : Nat) (B : ACT), K.1[j]? = some B → x + 4 * (a1 - a) ≤ aX B) → x + 4 * (a1 - a) ≤ KK → aX A ≤ x + KK → aX A ≤ KK →
  (∀ uA uM sc' i', JS E K (K.2.2 5) a1 b1 (A.1 5) (A.1 6) sc' (x + 4 * (a1 - a)) i' uA uM → eNo E 5 5 ≤ Lim + sc' → GD E i' uA uM) → GD E i wA wM
/-- procedures' STATEMENTS -/
def BOD (E : SENV) (Lim : Nat) : Prop := ∀ p, 1 ≤ p → p < eNo E 5 3 → SIT E Lim (eNo E 6 p :: eDS E p) p (6 + wsum E (nd (vM E) 32 p) (nd (vM E) 31 p)) (1 + 2 * nd (vM E) 31 p) (eNo E 10 p) (eNo E 10 p) (eNo E 0 p + 2) (eNo E 7 p) (eNo E 8 p) (eNo E 9 p)
variable {E : SENV} {K : CXT} {Lim p nx a a1 b b1 b2 h sp sc i el S k nf ff y th a0 b0 q c s tp mt lk dp cp Z fL : Nat} {x x1 : Int} {wA wM uA uM zA zM : Wd} {A B N L : ACT} {stk : List Nat} {ty : Int32} {ax : Int} {t : Int32}
theorem JS.ret (hE : EOKS E) (H : JS E (onK E K p nf ff lk fL h sp Z S zA zM ax) (K.2.2 5) a b h sp sc x i wA wM) (hK : KST E K) (hA : K.1[K.2.2 0]? = some A) (hon : aOn A) (N : NUM K A) (L : LOWD K h sp (K.2.2 3) (K.2.2 4)) (hw : gl (cA E) 41 a = wdC 43 0 0) {X Y W : Int32} (ho : opW (dM E) b 16 X Y W) (ha : a < eNo E 5 0) (hb : b < 60000 ∧ b0 ≤ 60000) (hZ : 6 ≤ Z) (e53 : gi wA 53 (K.2.2 3 + 1) = Int32.ofNat a0) (e54 : gi wA 54 (K.2.2 3 + 1) = Int32.ofNat (aF A)) (hC : CTM (K.2.2 4) b0 (K.2.2 0) 0 t (K.2.2 3) wM) (hx : x + 1 ≤ x1 ∧ x1 ≤ KK) (hh : h < 30622) (hsp : sp ≤ h)
    (g : ∀ uA uM, JS E K (K.2.2 5) a0 b0 (h + 1) (sp + (if t = 1 then 1 else 0)) sc x1 (i + 1) uA uM → (t = 1 → gi (vM E) 20 (nd (vM E) 29 p) ≠ 0 → gl uA 51 h = gl uM 85 sp ∧ VT (gi (vM E) 20 (nd (vM E) 29 p)) (gl uA 51 h)) → OFF (fun k j => k = 48 ∨ (k = 51 ∧ h ≤ j)) uA wA → OFF (fun k j => k = 0 ∨ (k = 85 ∧ sp ≤ j)) uM wM → PSD wA uA → GD E (i + 1) uA uM) : GD E i wA wM := by
  have hd := H.dep
  obtain ⟨n1, n2, n3, n4, n5⟩ := N
  obtain ⟨C, M⟩ := H.cka (A := onA E K p lk h sp zA zM ax) at_last
  have hl2 : (onK E K p nf ff lk fL h sp Z S zA zM ax).1.length = K.1.length + 1 := by
    show (K.1 ++ [_]).length = _
    rw [List.length_append]; rfl
  rw [hl2] at M
  obtain ⟨k1, k2, k3, k4, k5, k6⟩ := id hK
  have C9 : CK (cA E) (eNo E 5 0) a (K.2.2 1) (K.2.2 1 + Z) h (K.2.2 3 + 1) (K.2.2 5) wA := C
  have htp := C9.2.2.2.2.2.2.2.2.2.1
  have tk := k_ret C9 ha hw (by omega) hh
  have act := H.act (j := K.1.length) (B := onA E K p lk h sp zA zM ax) at_last
  have hmt : K.2.2 2 ≤ 199000 := act.2.2.2.2.2.1
  have hel : K.2.2 5 ≤ 2000 := C9.2.2.2.2.2.2.2.2.2.2.2.2
  have M1 : MK (dM E) (b + 1) K.1.length sp (K.2.2 4 + 1) (K.1.length + 1) (K.2.2 2 + S) (K.2.2 5) (K.2.2 3 + 1) (si wM 0 128 (Int32.ofNat (b + 1))) := M.nx (b1 := b + 1) (by omega)
  have O0 : OFF (fun k j => k = 0 ∧ j = 128) (si wM 0 128 (Int32.ofNat (b + 1))) wM := OFF.si ⟨rfl, rfl⟩
  have hC1 : CTM (K.2.2 4) b0 (K.2.2 0) 0 t (K.2.2 3) (si wM 0 128 (Int32.ofNat (b + 1))) := hC.off O0 (fun k p q r => by omega)
  have hsp9 : sp < 100000 := by
    have := H.dep.2.2.1
    omega
  obtain ⟨u, u1, u2, u3⟩ := lea_ok M1 hC1 rfl ((O0 87 _ (by omega)).1.trans act.1.1) ((O0 91 _ (by omega)).1.trans act.1.2.2.2.2.2.1) ⟨hmt, hel⟩ ⟨hb.2, n3, n4⟩ hsp9
  have st := rm_ret M hb.1 ho
  have OA : OFF (fun k j => (k = 48 ∧ 11 ≤ j ∧ j ≤ 15) ∨ (k = 51 ∧ h ≤ j)) (pshQ (si (si (si (si (si wA 48 11 (Int32.ofNat (a + 1))) 48 13 (Int32.ofNat (K.2.2 1))) 48 11 (gi wA 53 (K.2.2 3 + 1))) 48 12 (gi wA 54 (K.2.2 3 + 1))) 48 15 (Int32.ofNat (K.2.2 3))) h (gl wA 50 (K.2.2 1 + 5))) wA := OFF.tr (pshQ_off.mono fun k j p => by unfold PSK at p; omega) (OFF.tr (OFF.si (by omega)) (OFF.tr (OFF.si (by omega)) (OFF.tr (OFF.si (by omega)) (OFF.tr (OFF.si (by omega)) (OFF.si (by omega))))))
  have OM : OFF (fun k j => (k = 0 ∧ 127 ≤ j ∧ j ≤ 134) ∨ (k = 85 ∧ sp ≤ j)) u wM := OFF.tr (u3.mono fun k j p => by omega) (O0.mono fun k j p => by omega)
  have q11 : gi (pshQ (si (si (si (si (si wA 48 11 (Int32.ofNat (a + 1))) 48 13 (Int32.ofNat (K.2.2 1))) 48 11 (gi wA 53 (K.2.2 3 + 1))) 48 12 (gi wA 54 (K.2.2 3 + 1))) 48 15 (Int32.ofNat (K.2.2 3))) h (gl wA 50 (K.2.2 1 + 5))) 48 11 = Int32.ofNat a0 := by
    unfold pshQ; rw [gi_si1 (by omega), gi_sl, gi_si1 (by omega), gi_si1 (by omega), gi_si0]; exact e53
  have q12 : gi (pshQ (si (si (si (si (si wA 48 11 (Int32.ofNat (a + 1))) 48 13 (Int32.ofNat (K.2.2 1))) 48 11 (gi wA 53 (K.2.2 3 + 1))) 48 12 (gi wA 54 (K.2.2 3 + 1))) 48 15 (Int32.ofNat (K.2.2 3))) h (gl wA 50 (K.2.2 1 + 5))) 48 12 = Int32.ofNat (aF A) := by
    unfold pshQ; rw [gi_si1 (by omega), gi_sl, gi_si1 (by omega), gi_si0]; exact e54
  have q13 : gi (pshQ (si (si (si (si (si wA 48 11 (Int32.ofNat (a + 1))) 48 13 (Int32.ofNat (K.2.2 1))) 48 11 (gi wA 53 (K.2.2 3 + 1))) 48 12 (gi wA 54 (K.2.2 3 + 1))) 48 15 (Int32.ofNat (K.2.2 3))) h (gl wA 50 (K.2.2 1 + 5))) 48 13 = Int32.ofNat (K.2.2 1) := by
    unfold pshQ; rw [gi_si1 (by omega), gi_sl, gi_si1 (by omega), gi_si1 (by omega), gi_si1 (by omega), gi_si0]
  have q15 : gi (pshQ (si (si (si (si (si wA 48 11 (Int32.ofNat (a + 1))) 48 13 (Int32.ofNat (K.2.2 1))) 48 11 (gi wA 53 (K.2.2 3 + 1))) 48 12 (gi wA 54 (K.2.2 3 + 1))) 48 15 (Int32.ofNat (K.2.2 3))) h (gl wA 50 (K.2.2 1 + 5))) 48 15 = Int32.ofNat (K.2.2 3) := by
    unfold pshQ; rw [gi_si1 (by omega), gi_sl, gi_si0]
  have qv : gl (pshQ (si (si (si (si (si wA 48 11 (Int32.ofNat (a + 1))) 48 13 (Int32.ofNat (K.2.2 1))) 48 11 (gi wA 53 (K.2.2 3 + 1))) 48 12 (gi wA 54 (K.2.2 3 + 1))) 48 15 (Int32.ofNat (K.2.2 3))) h (gl wA 50 (K.2.2 1 + 5))) 51 h = gl wA 50 (K.2.2 1 + 5) := pshQ_v
  have q14 : gi (pshQ (si (si (si (si (si wA 48 11 (Int32.ofNat (a + 1))) 48 13 (Int32.ofNat (K.2.2 1))) 48 11 (gi wA 53 (K.2.2 3 + 1))) 48 12 (gi wA 54 (K.2.2 3 + 1))) 48 15 (Int32.ofNat (K.2.2 3))) h (gl wA 50 (K.2.2 1 + 5))) 48 14 = Int32.ofNat (h + 1) := gi_si0 _ _ _ _
  generalize pshQ (si (si (si (si (si wA 48 11 (Int32.ofNat (a + 1))) 48 13 (Int32.ofNat (K.2.2 1))) 48 11 (gi wA 53 (K.2.2 3 + 1))) 48 12 (gi wA 54 (K.2.2 3 + 1))) 48 15 (Int32.ofNat (K.2.2 3))) h (gl wA 50 (K.2.2 1 + 5)) = v at tk OA q11 q12 q13 q14 q15 qv
  obtain ⟨_, pr, de, fu, j1, j2, j3, j4, j5, j6, j7, j8, j9, j10, ⟨j11, j12, j13, j14, j15, j16, j17⟩, o1, o2⟩ := id H
  have Cn : CK (cA E) (eNo E 5 0) a0 (aF A) (K.2.2 1) (h + 1) (K.2.2 3) (K.2.2 5) v := C9.nw (OA.mono fun k j p => by omega) q11 q12 q13 q14 q15 ((OA 48 16 (by omega)).1.trans C9.2.2.2.2.2.2.2.1) ⟨n5, by omega, by omega, n4, hel⟩
  have hps : PSD wA v := PSD.eq (OA 56 3 (by omega)).1 (OA 56 4 (by omega)).1
  have Mn : MK (dM E) b0 (K.2.2 0) (sp + (if t = 1 then 1 else 0)) (K.2.2 4) K.1.length (K.2.2 2) (K.2.2 5) (K.2.2 3) u := by
    by_cases ht : t = 1
    · rw [if_pos ht] at u2 ⊢; exact u2.1
    · rw [if_neg ht] at u2 ⊢; exact u2
  have hmem : MEM K.2.1 v u := by
    refine (j8.sub (fun _ _ _ _ _ _ g => Or.inl g)).agr (fun _ _ _ _ _ _ _ _ => (OA 50 _ (by omega)).2) (fun _ _ q _ _ _ _ _ => ?_)
    unfold RMq
    rw [(OM 83 q (by omega)).2, (OM 84 _ (by omega)).2]
  have J : JS E K (K.2.2 5) a0 b0 (h + 1) (sp + (if t = 1 then 1 else 0)) sc x1 (i + 1) v u := by
    refine JS.of (A := A) (pr := pr) (de := de) (fu := fu) hK hA hon Cn (j4.off OA (fun k j p => by omega)) Mn (j6.off OM (fun k j p => by omega)) (fun r q1 q2 => ?_) hmem (fun j B hB => ?_) ?_ ⟨by omega, hx.2⟩ (OFF.tr (OA.mono fun k j p => by unfold PZA; omega) o1) (OFF.tr (OM.mono fun k j p => by unfold PZR; omega) o2)
    · rw [(OA 55 r (by omega)).2, (OM 86 r (by omega)).2]; exact j7 r q1 q2
    · obtain ⟨m1, _⟩ := j10 j B (at_app hB)
      obtain ⟨l1, l2, l3, l4⟩ := L j B hB
      refine ⟨m1.nw (fun k p1 p2 p3 => (OM k j (by omega)).1) ⟨fun j' hj' => (OA 51 j' (by omega)).2, fun k j' p q' r => (OA k j' (by omega)).1, fun j' hj' => (OM 85 j' (by omega)).2, fun k j' p q' r => (OM k j' (by omega)).1, hps⟩, by omega, ?_⟩
      by_cases ht : t = 1
      · rw [if_pos ht]; omega
      · rw [if_neg ht]; omega
    · by_cases ht : t = 1
      · rw [if_pos ht]; omega
      · rw [if_neg ht]; omega
  refine J.go hE (TKS.one hd.2.2.2.2 tk) (SPS.one (M.runs ho hb.1 (by decide)) (st.trans u1)) (by omega) (g v u J (fun ht h20 => ?_) (OA.mono fun k j p => by omega) (OM.mono fun k j p => by omega) hps)
  rw [if_pos ht] at u2
  have hG : (onK E K p nf ff lk fL h sp Z S zA zM ax).2.1 0 (K.2.2 1 + 5) (K.2.2 2) (gi (vM E) 20 (nd (vM E) 29 p)) 0 0 := Or.inr (Or.inr (Or.inl ⟨rfl, rfl, rfl, rfl, rfl, rfl, h20⟩))
  obtain ⟨r1, r2⟩ := (j8 _ _ _ _ _ _ hG).1 rfl
  unfold RMq at r1
  rw [if_pos (by omega)] at r1
  rw [qv, u2.2, (O0 83 _ (by omega)).2]
  exact ⟨r1, r2⟩
end KJ9
