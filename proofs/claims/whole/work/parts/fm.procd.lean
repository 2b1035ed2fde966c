/-! PASS 2, THE CLASS: a procedure -/
/-- procedure, symbol y: formals take W0 words -/
def PPRc (SZ y W0 : Nat) (P : Nat → Nat → Nat → Wd → Prop) (b b' _Z : Nat) (g : Wd) : Prop := gl g 41 b = jwC 33 b' ∧ gl g 41 (y + 1) = Int32.toInt64 (Int32.ofNat (b + 1)) ∧ gl g 41 (b + 1) = Int32.toInt64 (Int32.ofNat W0) ∧ ∃ Zp, Zp ≤ SZ ∧ 6 + W0 ≤ Zp ∧ gl g 41 (b + 2) = Int32.toInt64 (Int32.ofNat Zp) ∧ ∃ b1, P (b + 3) b1 Zp g ∧ gl g 41 b1 = wdC 43 0 0 ∧ b' = b1 + 1
section ES
variable {kd wr nm TK : Nat → Nat} {z : Nat} {fA fM : Wd} {SL : Nat → List Nat} {NS ns SZ lev cur m : Nat} {pn : Nat → Int32} {i i0 i1 t e e1 d sg sz kp nsc nsc1 y a sb W0 : Nat} {stk : List Nat} {C : Nat → Nat} {w u : Wd} {L : List (Nat × Int32)} {P : Nat → Nat → Nat → Wd → Prop} {B T : Nat}
theorem s_proc {rc : TX4_block} {ty : Int32} (h10 : kd t = 10) (h2 : kd (t + 1) = 2) (hd : d ≤ 39) (hY : SYM kd m C TK fA fM y) (h22 : gi fM 22 y = Int32.ofNat (t + 1)) (hy : y < ns) (hsb : gi fA 24 (y + 1) = Int32.ofNat sb) (hW0 : gi fA 18 (y + 1) = Int32.ofNat W0) (htb : t + 2 ≤ sb) (hsz : sb < z) (hw : 6 + W0 ≤ SZ) (hlev : lev + 1 ≤ 62) (hn : nsc < NS) (hm : m < z)
    (hS : SSC kd wr nm TK z fA SL NS ns SZ (lev + 1) (upN pn (lev + 1) (Int32.ofNat (y + 1))) (6 + W0) 2 (nsc + 1) nsc1 (y + 1) i1 sb e (nsc :: stk) L P B (fun w => rc 4 (Int32.ofNat (d + 1)) 0 0 w)) :
    SSC kd wr nm TK z fA SL NS ns SZ lev pn sg kp nsc nsc1 y i1 t e stk L (PPRc SZ y W0 P) (B + 4) (fX4_procedure rc (Int32.ofNat d) ty) := by
  intro w a sz hG ha
  have hcf := hG.cfit
  obtain ⟨y1, y2, y3, y4, y5, _⟩ := hY
  have hTK : TK y = t + 1 := by
    rw [h22] at y4
    exact ((eq_iN (by omega) (by omega)).mp y4).symm
  rw [hTK] at y5
  obtain ⟨o1, o2⟩ := EC.opn hG.gc (d := d) (by omega) (by omega) (by omega)
  obtain ⟨d1, d2⟩ := c_decl (so := 3) (ty := ty) o2.1 h2
  rw [y5] at d1
  have E1 := ESC.ec (i := y) hG (o2.seq d2) (by omega)
  obtain ⟨w3, p1, p2⟩ := EC.put1 (x := 33) E1.1.gc (by omega)
  have E2 := ESC.ec (i := y) E1.1 p2 (by omega)
  generalize hw2 : si (si w 4 9 (Int32.ofNat (t + 1))) 4 9 (Int32.ofNat (t + 1 + 1)) = w2 at *
  obtain ⟨x1, x2⟩ := GTC.nl (x := Int32.ofNat (y + 1)) E2.1 hlev
  have fN : ∀ v : Wd, FLA (nlW (lev + 1) (Int32.ofNat (y + 1)) v) = FLA v := fun v => by
    have hN := nl_off (w := v) (L := lev + 1) (x := Int32.ofNat (y + 1))
    show (gi _ 3 6, gi _ 3 7) = (gi v 3 6, gi v 3 7)
    rw [(hN 3 6 (by omega)).1, (hN 3 7 (by omega)).1]
  have J : ESC kd wr nm TK z fA SL NS ns SZ (lev + 1) (upN pn (lev + 1) (Int32.ofNat (y + 1))) y y (t + 1 + 1) a (a + 1) 6 6 6 2 nsc stk 0 (nlW (lev + 1) (Int32.ofNat (y + 1)) w2) (nlW (lev + 1) (Int32.ofNat (y + 1)) w3) [] (fun b b' _ g => gl g 41 b = wdC 33 0 0 ∧ b' = b + 1) 1 :=
    ⟨x2, E2.2.1, by rw [fN, fN]; exact E2.2.2.1, (off_nl p2.2.2.2.1).mono fun k j hk => Or.inl hk, by omega, fun g Z hg _ => p2.2.2.2.2.2 g (fun j j1 j2 => hg j (Or.inl ⟨j1, j2⟩))⟩
  obtain ⟨v1, q1, Q1⟩ := ESC.enter (i := y) J.1 hn (by omega)
  have g1 := EC.go (t1 := sb) Q1.1.gc hsz (by omega)
  have Q2 := ESC.ec (i := y) Q1.1 g1 (by omega)
  obtain ⟨v2, sz2, t1, Q3⟩ := ESC.take (n := W0) (i := y) Q2.1 (by omega) (by omega)
  obtain ⟨c1, Q4⟩ := ESC.cell (i := y) Q3.1 hy
  obtain ⟨v3, k1, k2⟩ := EC.word (x := Int32.toInt64 (Int32.ofNat W0)) Q4.1.gc (by omega)
  have Q5 := ESC.ec (i := y + 1) Q4.1 k2 (by omega)
  obtain ⟨v4, l1, l2⟩ := EC.word (x := 0) Q5.1.gc (by omega)
  have Q6 := ESC.ec (i := y + 1) Q5.1 l2 (by omega)
  obtain ⟨v5, a1, sz5, z1, z2⟩ := hS v4 (a + 1 + 1 + 1) sz2 Q6.1 (by omega)
  have hb5 := z2.2.2.2.2.1
  obtain ⟨v6, m1, m2⟩ := EC.put1 (x := 43) z2.1.gc (by omega)
  have Q7 := z2.fix.seq (ESC.ec (i := i1) z2.1 m2 (by omega))
  have Q8 := ESC.over (Q := fun _ _ _ x' => x' = Int32.toInt64 (Int32.ofNat sz5)) (x := Int32.toInt64 (Int32.ofNat sz5)) Q6 Q7 (fun _ _ => rfl)
  have QQ := ((((Q1.seq Q2).seq Q3).seq Q4).seq Q5).seq Q8
  obtain ⟨yy, v8, n1, Q9⟩ := ESC.jmp J QQ (by omega) (by decide)
  obtain ⟨v9, r1, R1⟩ := ESC.leave (i := i1) Q9.1 (by omega)
  have R2 := ESC.inner E1.1 (fun l hl => by unfold upN; rw [if_neg (by omega)]) (Q9.seq R1)
  have hcs := z2.1.cfit
  have hQ3 := Q3.1.cfit
  have ht5 := Q3.2.2.2.2.1
  refine ⟨_, _, _, ?_, ((E1.seq R2).wk (fun b b' Z g hg => ?_) (by omega)).cL (by simp)⟩
  · have z1' : rc 4 (Int32.ofNat (d + 1)) 0 0 v4 = some (0, v5) := z1
    have hbody : fX8_body (Int32.ofNat (y + 1)) v1 = Int32.ofNat sb := by
      unfold fX8_body
      rw [rgi_iN (by omega) (by omega), Q1.1.2.2.2.2.2.2.1.1 24 _ (by omega), hsb, ltq]
    have hslot : ∀ {t a sg sz kp nsc stk hid} {v : Wd}, GTC kd wr nm TK z fA SL NS ns SZ (lev + 1) (upN pn (lev + 1) (Int32.ofNat (y + 1))) t a sg sz kp nsc stk hid v → fX8_slot (Int32.ofNat (y + 1)) v = Int32.ofNat W0 := fun hv => by
      unfold fX8_slot
      rw [rgi_iN (by omega) (by omega), hv.2.2.2.2.2.2.1.1 18 _ (by omega), hW0, ltq]
    have hhead : fX4_head (Int32.ofNat (y + 1)) v2 = (Int32.ofNat (a + 1), v4) := by
      unfold fX4_head
      rw [c1, ltq, hslot Q4.1, ltq, k1, lt2q, l1, lt2q]
      have : (Int32.ofNat (a + 1 + 1) : Int32) - 1 = Int32.ofNat (a + 1) := by
        rw [← ad1_iN (a + 1)]
        simp
      rw [this]
    have h97 : fX4_procedure_97 rc (Int32.ofNat (d + 1)) (Int32.ofNat (y + 1)) (Int32.ofNat a) v2 = some (0, si v9 34 5 (Int32.ofNat lev)) := by
      unfold fX4_procedure_97
      rw [hhead, lt2q, z1', bn2_so, m1, lt2q, (ESC.ec (i := i1) z2.1 m2 (by omega)).1.slot.2.1, ltq, ad1_iN]
      unfold fX0_set
      rw [rsl_iN (by omega) (by omega), ltq, ltq, n1, lt2q, r1, bn_so]
      unfold fX5_leave
      rw [R1.1.2.2.2.2.2.2.2.1.1, ltq]
      have : (Int32.ofNat (lev + 1) : Int32) - 1 = Int32.ofNat lev := by
        rw [← ad1_iN lev]
        simp
      rw [this, ltq]
    unfold fX4_procedure
    rw [o1, lt2q, d1, lt2q, p1, lt2q, x1, ltq, q1, bn_so, if_neg Q1.1.2.1, hbody, ltq]
    unfold fX9_goTo
    simp only [ltq]
    rw [hslot Q2.1, t1, lt2q, h97]
  · obtain ⟨b1, ⟨c0, g1, g2⟩, b2, ⟨g3, c5, ⟨c4, ⟨c3, ⟨c2, ⟨c1, g4, g5⟩, g6, g6'⟩, g7, g7'⟩, g8, g8'⟩, g9, c6, g10, g11, g11'⟩, g12⟩ := hg
    rw [g2, g1] at g3 g4
    rw [g5, g4] at g6
    rw [g6] at g7 g7'
    rw [g7] at g8 g8'
    rw [g8'] at g9 g10
    rw [g12]
    exact ⟨g3, g7', g8, sz5, hcs.2.2.2.2.2.1, g6', g9, c6, g10, g11, g11'⟩
end ES
