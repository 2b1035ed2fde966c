/-! BOTH SIDES: an element of a for -/
section JT
variable {kd wr nm : Nat → Nat} {vv : Nat → Int64} {m z : Nat} {gA gM : Wd} {lv : Bool} {sl us B : Nat} {stk obl stkF : List Nat} {prs : PRL} {C TK : Nat → Nat} {SL : Nat → List Nat} {t d b : Nat} {fa : Int32} {wA wM : Wd} {γ α : Type} {wd : γ → Wd} {S : γ → α → Wd → Prop} {P : (Nat → Nat) → Nat → Wd → Wd → Prop}
/-- a node at the end of an element -/
theorem el_end (hT : TOKS kd wr nm vv m z gA gM) {C0 : Nat → Nat} {t0 tk : Nat} {KA : Int32 → Wd → Option γ} {KM : Int32 → Wd → Option (Option α × Wd)}
    (hS : STBJ stk prs obl P) (hst : STJ kd wr nm vv m z gA gM lv 0 us stk prs C TK SL t d b fa wA wM) {Ψ : Wd → Wd → Prop} (hl : lv = true → t0 < t ∧ t ≤ m ∧ (∀ i, i ≠ 0 → C i = C0 i) ∧ C0 0 ≤ C 0 ∧ C 0 + 1 ≤ 2 * t + 100 ∧ C 0 + t0 ≤ C0 0 + t ∧ P C t wA wM ∧ FACT stk prs obl (C0 0) C t (C 0) Ψ wA wM) (hd : lv = false → t = z - 1) {a1 a2 a3 a4 x : Int32}
    (hW : lv = true → ∀ fA fM, Ψ fA fM → gi fM 7 (C 0) = a1 → gi fM 8 (C 0) = a2 → gi fM 9 (C 0) = a3 → gi fM 10 (C 0) = a4 → gi fM 12 (C 0) = Int32.ofNat tk → ELT kd fA fM (hdM stk) d tk (C0 0) (C 0) t0 t (C 0 + 1))
    (H : ∀ lv' x t' fa' uA uM n, STJ kd wr nm vv m z gA gM lv' 0 us stk prs (upC C0 0 (n + 1)) TK SL t' d b fa' uA uM → (lv' = true → lv = true ∧ t0 < t' ∧ t' ≤ m ∧ C0 0 ≤ n ∧ n + t0 ≤ C0 0 + t' ∧ P (upC C0 0 (n + 1)) t' uA uM ∧ gi uM 11 n = -1 ∧ FACT stk prs obl (C0 0) (upC C0 0 (n + 1)) t' n (fun fA fM => ELT kd fA fM (hdM stk) d tk (C0 0) n t0 t' (n + 1)) uA uM) → (lv' = false → t' = z - 1) → GLJ kd wr nm z gA gM wd lv' stkF fa' B (KA x uA) (KM (Int32.ofNat n) uM) S) :
    GLJ kd wr nm z gA gM wd lv stkF fa B (KA x wA) (bn2 (fX12_node a1 a2 a3 a4 (Int32.ofNat tk) wM) KM) S := by
  have hS2 : STBJ stk prs obl (fun C' t' a c => (lv = true → P C' t' a c) ∧ (lv = true → PFA stk prs obl (C0 0) C t (C 0) Ψ C' t' a c)) := STBJ.and (STBJ.if (fun _ => hS)) (STBJ.if (fun _ => PFA.stb))
  refine J.node (P := fun C' t' a c => (lv = true → P C' t' a c) ∧ (lv = true → PFA stk prs obl (C0 0) C t (C 0) Ψ C' t' a c)) hT hS2 hst (fun h => ⟨fun _ => (hl h).2.2.2.2.2.2.1, fun _ => ⟨LEC.rf, Nat.le_refl _, (hl h).2.2.2.2.2.2.2⟩⟩) (fun h => (hl h).2.2.2.2.1) (fun uM hst1 hl1 => ?_)
  cases lv
  · exact ⟨fun _ => (H false x t fa wA uM (C 0) (hst1.dd rfl) (fun h => absurd h (by decide)) hd).1 rfl, fun h => absurd h (by decide)⟩
  · obtain ⟨c1, c2, c3, c4, c5, c6, c7, c8⟩ := hl rfl
    obtain ⟨⟨f1, f2⟩, n1, n2, n3, n4, n5, n6, n7⟩ := hl1 rfl
    have hCe : upC C 0 (C 0 + 1) = upC C0 0 (C 0 + 1) := by
      funext i
      by_cases i0 : i = 0
      · rw [i0, upC_s, upC_s]
      · rw [upC_n i0, upC_n i0, c3 i i0]
    have hLC : LEC C (upC C0 0 (C 0 + 1)) := by
      rw [← hCe]
      exact upC_le (by omega)
    rw [hCe] at hst1 f1 f2
    refine H true x t fa wA uM (C 0) hst1 (fun _ => ⟨rfl, c1, c2, c4, c6, f1 rfl, n5, fun fA fM hA hM hE => ?_⟩) hd
    have g : ∀ k, 7 ≤ k ∧ k ≤ 10 ∨ k = 12 ∨ k = 13 ∨ k = 44 ∨ k = 45 → gi fM k (C 0) = gi uM k (C 0) := fun k hk => (hM k (C 0) (Or.inl ⟨hk, c4, by rw [upC_s]; omega⟩)).1
    exact hW rfl fA fM ((f2 rfl).2.2 fA fM (hA.wk hLC (Nat.le_refl _) (fun _ h _ => h)) (hM.wk (Nat.le_refl _) hLC (Or.inl rfl)) hE) ((g 7 (by omega)).trans n1) ((g 8 (by omega)).trans n2) ((g 9 (by omega)).trans n3) ((g 10 (by omega)).trans n4) ((g 12 (by omega)).trans n6)
end JT
