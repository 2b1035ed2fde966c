/-! THE MASTER: what's round a STATEMENT, and how it goes on -/
section RR0
variable {kd wr nm TK SG ph : Nat → Nat} {vv : Nat → Int64} {m z : Nat} {Cf : CV} {SL : Nat → List Nat} {fA fM : Wd} {NS ns SZ : Nat} {q0 : Int32 × Int32} {d d1 lev p pp sg sg1 s e s1 e1 i0 j n q q' : Nat} {stk stk' : List Nat} {pn : Nat → Int32} {C C' C1 C1' D D' : CV} {k : Nat} {r : PRL}
/-- bytes, with one more behind words: how they go on -/
def PHW (kd ph : Nat → Nat) (m : Nat) : Prop := ∀ i, i < m → ph i ≤ ph (i + 1) ∧ (kd i = 4 → ph i + 6 ≤ ph (i + 1)) ∧ (kd i = 5 → ph i + 4 ≤ ph (i + 1)) ∧ (kd i = 18 → ph i + 4 ≤ ph (i + 1)) ∧ (kd i = 19 → ph i + 3 ≤ ph (i + 1)) ∧ (kd i = 2 → ph i + 2 ≤ ph (i + 1))
theorem PHW.le (h : PHW kd ph m) : ∀ n s, s + n ≤ m → ph s ≤ ph (s + n) := by
  intro n
  induction n with
  | zero => exact fun _ _ => Nat.le_refl _
  | succ n ih => exact fun s hs => Nat.le_trans (ih s (by omega)) (h (s + n) (by omega)).1
theorem PHW.mono (h : PHW kd ph m) (hs : s ≤ e) (he : e ≤ m) : ph s ≤ ph e := by
  have := h.le (e - s) s (by omega)
  rw [show s + (e - s) = e by omega] at this
  exact this
theorem BYW.mono (h : BYW kd wr m) (hs : s ≤ e) (he : e ≤ m) : wr s ≤ wr e := by
  have := BYW.le h (e - s) s (by omega)
  rw [show s + (e - s) = e by omega] at this
  omega
theorem BYW.lt (h : BYW kd wr m) (hs : s < e) (he : e ≤ m) : wr s + 1 ≤ wr e := by
  have := BYW.le h (e - s) s (by omega)
  rw [show s + (e - s) = e by omega] at this
  omega
/-- what's told of the whole -/
def MC (kd wr TK ph : Nat → Nat) (m : Nat) (Cf : CV) (SL : Nat → List Nat) (fM : Wd) (NS ns SZ : Nat) (q0 : Int32 × Int32) : Prop :=
  (NS = Cf 2 ∧ Cf 1 ≤ ns ∧ ns ≤ 4100 ∧ Cf 3 < 9000 ∧ SZ ≤ 100000 ∧ gi fM 0 53 = Int32.ofNat (Cf 4)) ∧ PHW kd ph m ∧
  ((∀ j, j < Cf 4 → 6 + 8 * cntP fM j (Cf 1) + 50 ≤ SZ) ∧ (gi fM 0 10 = 0 → ∀ j, j < Cf 4 → cntP fM j (Cf 1) ≤ 200)) ∧
  ((Cf 7 ≠ 0 → dmP wr q0 (Cf 7 - 1, 5)) ∧ (gi fM 0 10 = 0 → Cf 7 = 0)) ∧
  (∀ i, i < Cf 1 → FO fM i 0 → FLN q0 (wr (nd fM 22 i) + 1)) ∧
  (∀ i, i < Cf 1 → (∀ s, s < Cf 2 → i ∉ SL s) → FLN q0 (wr (nd fM 22 i) + 1)) ∧
  ∀ j, 1 ≤ j → j < Cf 4 → ∃ j', j' < j ∧ gi fM 37 j = Int32.ofNat j'
theorem fln_dm {t : Nat} {x : Int32} {y : Nat} (h : FLN q0 y) (hy : y ≤ wr t) (hw : wr t < 2147483648) : dmP wr q0 (t, x) := by
  obtain ⟨h1, h2⟩ := h
  refine ⟨h1, Or.inl ?_⟩
  rw [Int32.lt_iff_toInt_lt]
  have e : (Int32.ofNat (wr t)).toInt = (wr t : Int) := ti_iN hw
  show q0.2.toInt < (Int32.ofNat (wr t)).toInt
  omega
/-- what's round a STATEMENT -/
def MH (kd wr nm TK : Nat → Nat) (vv : Nat → Int64) (m z : Nat) (Cf : CV) (SL : Nat → List Nat) (fA fM : Wd) (d s e : Nat) (stk : List Nat) (lev p sg : Nat) (pn : Nat → Int32) (C C' : CV) : Prop :=
  CTJ kd wr nm TK vv m z Cf SL fA fM stk lev p pn ∧
  (1 ≤ d ∧ (d ≤ 40 ∨ d = 41 ∧ kd s = 5) ∧ lev + 1 ≤ d ∧ gi fM 30 p = Int32.ofNat lev ∧ p < C 4) ∧
  (stk ≠ [] ∧ (∀ t ∈ stk, t < C 2) ∧ gi fM 15 (stk.headD 0) = Int32.ofNat p ∧ (∀ t ∈ stk, ∃ j, j < C 4 ∧ gi fM 15 t = Int32.ofNat j) ∧ stk.length ≤ 2 * d + 2 ∧ ∀ t ∈ stk, ∀ i ∈ SL t, gi fM 19 i = 6 → ∃ tk, tk < s ∧ gi fM 22 i = Int32.ofNat tk) ∧
  OUT SL C C' ∧ (6 ≤ sg ∧ sg ≤ 6 + 8 * cntP fM p (C 1) + d) ∧ (LEC C' Cf ∧ (C' 7 ≠ 0 → Cf 7 = C' 7) ∧ C 7 ≤ s ∧ e ≤ m ∧ kd e ≠ 50)
theorem CTJ.mv (h : CTJ kd wr nm TK vv m z Cf SL fA fM stk lev p pn) (hU : UPM (Cf 2) fM stk') (hl : stk'.length < 9000) : CTJ kd wr nm TK vv m z Cf SL fA fM stk' lev p pn := by
  obtain ⟨hT, hB, hcu, _, _, ⟨s1, s2, s3, s4⟩, hFM, hPN, hR⟩ := h
  refine ⟨hT, hB, hcu, hU, hl, ⟨s1, fun tk => ?_, s3, s4⟩, hFM, hPN, hR⟩
  by_cases c : luN nm TK SL stk' tk = 0
  · omega
  · have := (lu_in hT (fun t ht => UPM.lt hU t ht) c).1
    omega
/-- into a procedure -/
theorem CTJ.up (h : CTJ kd wr nm TK vv m z Cf SL fA fM stk lev p pn) (hC : MC kd wr TK ph m Cf SL fM NS ns SZ q0) (hU : UPM (Cf 2) fM stk') (hl : stk'.length < 9000) (h1 : 1 ≤ pp) (hpp : pp < Cf 4) (h37 : gi fM 37 pp = Int32.ofNat p) (hp : p < pp) (hi0 : i0 < Cf 1) (h24 : gi fM 24 i0 = Int32.ofNat pp) (h29 : gi fM 29 pp = Int32.ofNat i0) (h23 : gi fM 23 i0 = Int32.ofNat p) (h30 : gi fM 30 p = Int32.ofNat lev) (hlv : lev ≤ 41) : CTJ kd wr nm TK vv m z Cf SL fA fM stk' (lev + 1) pp (upN pn (lev + 1) (Int32.ofNat (i0 + 1))) := by
  obtain ⟨hT, hB, hcu, hU', hl', hS, hFM, hPN, hR⟩ := h.mv hU hl
  have hc4 := hT.2.2.2.1
  have hcu2 : CUR fM pp := ⟨by omega, fun j a b c => hC.2.2.2.2.2.2 j a (by omega)⟩
  exact ⟨hT, hB, hcu2, hU', hl', hS, hFM, pnr_up hT hcu2 h1 h37 hp hi0 h24 h29 h23 h30 hlv hPN, hR⟩
/-- to a part -/
theorem MH.mv' (h : MH kd wr nm TK vv m z Cf SL fA fM d s e stk lev p sg pn C C') (hd : d ≤ d1 ∧ (d1 ≤ 40 ∨ d1 = 41 ∧ kd s1 = 5)) (hs : s ≤ s1) (hL : C 2 ≤ C1 2 ∧ C 4 ≤ C1 4) (hO : OUT SL C1 C1') (hsg : 6 ≤ sg1 ∧ sg1 ≤ 6 + 8 * cntP fM p (C1 1) + d1) (h6 : LEC C1' Cf ∧ (C1' 7 ≠ 0 → Cf 7 = C1' 7) ∧ C1 7 ≤ s1 ∧ e1 ≤ m ∧ kd e1 ≠ 50) : MH kd wr nm TK vv m z Cf SL fA fM d1 s1 e1 stk lev p sg1 pn C1 C1' := by
  obtain ⟨a1, ⟨a2, a3, a4, a5, a6⟩, ⟨b1, b2, b3, b4, b5, b6⟩, c1, c2, c3⟩ := h
  obtain ⟨l2, l4⟩ := hL
  refine ⟨a1, ⟨by omega, hd.2, by omega, a5, by omega⟩, ⟨b1, fun t ht => by have := b2 t ht; omega, b3, fun t ht => ?_, by omega, fun t ht i hi h => ?_⟩, hO, hsg, h6⟩
  · obtain ⟨j, j1, j2⟩ := b4 t ht
    exact ⟨j, by omega, j2⟩
  · obtain ⟨tk, t1, t2⟩ := b6 t ht i hi h
    exact ⟨tk, by omega, t2⟩
theorem MH.mv (h : MH kd wr nm TK vv m z Cf SL fA fM d s e stk lev p sg pn C C') (hd : d ≤ d1 ∧ (d1 ≤ 40 ∨ d1 = 41 ∧ kd s1 = 5)) (hs : s ≤ s1) (hL : LEC C C1) (hO : OUT SL C1 C1') (hsg : 6 ≤ sg1 ∧ sg1 ≤ 6 + 8 * cntP fM p (C1 1) + d1) (h6 : LEC C1' Cf ∧ (C1' 7 ≠ 0 → Cf 7 = C1' 7) ∧ C1 7 ≤ s1 ∧ e1 ≤ m ∧ kd e1 ≠ 50) : MH kd wr nm TK vv m z Cf SL fA fM d1 s1 e1 stk lev p sg1 pn C1 C1' := h.mv' hd hs ⟨hL 2, hL 4⟩ hO hsg h6
/-- into a SCOPE -/
theorem MH.ins (h : MH kd wr nm TK vv m z Cf SL fA fM d s e stk lev p sg pn C C') (h14 : gi fM 14 (C 2) = hdM stk) (h15 : gi fM 15 (C 2) = Int32.ofNat p) (hlen : stk.length + 1 ≤ 2 * d + 2) (hC2 : C 2 < Cf 2) (h6 : ∀ i ∈ SL (C 2), gi fM 19 i ≠ 6) : MH kd wr nm TK vv m z Cf SL fA fM d s e (C 2 :: stk) lev p sg pn (upD C 2 1) C' := by
  obtain ⟨a1, ⟨a2, a3, a4, a5, a6⟩, ⟨b1, b2, b3, b4, b5, b6⟩, c1, c2, c3⟩ := h
  have u1 : upD C 2 1 1 = C 1 := upD_n (by decide)
  have u2 : upD C 2 1 2 = C 2 + 1 := upD_s
  have u4 : upD C 2 1 4 = C 4 := upD_n (by decide)
  have u7 : upD C 2 1 7 = C 7 := upD_n (by decide)
  have hU := a1.2.2.2.1
  refine ⟨a1.mv ⟨h14, hC2, hU⟩ (by rw [List.length_cons]; omega), ⟨a2, a3, a4, a5, by omega⟩, ⟨by simp, fun t ht => ?_, h15, fun t ht => ?_, by rw [List.length_cons]; omega, fun t ht i hi h => ?_⟩, c1.sub u1 (by omega) rfl (Nat.le_refl _), by rw [u1]; exact c2, by rw [u7]; exact c3⟩
  · rw [u2]
    rcases List.mem_cons.mp ht with rfl | ht
    · omega
    · have := b2 t ht; omega
  · rw [u4]
    rcases List.mem_cons.mp ht with rfl | ht
    · exact ⟨p, a6, h15⟩
    · exact b4 t ht
  · rcases List.mem_cons.mp ht with rfl | ht
    · exact absurd h (h6 i hi)
    · exact b6 t ht i hi h
theorem jss_cg {R : RTY} {kp N T F lev SZ : Nat} {hA : Wd → Option (Int32 × Wd)} (h : JSS kd wr nm TK SG m z SL fA fM NS ns SZ lev pn R p sg kp N s e n stk q q' C C' T F hA) (h1 : D 1 = C 1) (h2 : D 2 = C 2) (h3 : D' 1 = C' 1) (h4 : D' 2 = C' 2) : JSS kd wr nm TK SG m z SL fA fM NS ns SZ lev pn R p sg kp N s e n stk q q' D D' T F hA := by
  unfold JSS at h ⊢
  rw [h1, h2, h3, h4]
  exact h
/-- what's to be told of STATEMENTS within -/
def MIH (kd wr nm TK SG ph : Nat → Nat) (vv : Nat → Int64) (m z : Nat) (Cf : CV) (SL : Nat → List Nat) (fA fM : Wd) (NS ns SZ : Nat) (q0 : Int32 × Int32) (W : PSTT) : Prop :=
  ∀ (d s e n : Nat) (stk : List Nat) (q q' : Nat) (C C' : CV) (lev p sg qq : Nat) (r : PRL) (pn : Nat → Int32) (kp N F0 : Nat), W d s e n stk ((p, sg, qq) :: r) q q' C C' → lev = r.length → MH kd wr nm TK vv m z Cf SL fA fM d s e stk lev p sg pn C C' → 3 * (41 - d) + 1 ≤ N → 3 * (41 - d) + 7 ≤ F0 →
  ∃ T F, JST kd wr nm TK SG m z SL fA fM NS ns SZ lev pn (RXS kd wr nm TK SG ph m Cf SL fA fM NS ns SZ q0 lev p kp stk s e C C' T F) p sg kp N s e n stk q q' C C' T F (fX4_statement (RX4_block F0) (Int32.ofNat d))
end RR0
