/-! PASS 2, THE REFERENCE: PRIMARIES -/
section SG
variable {kd wr nm : Nat → Nat} {vv : Nat → Int64} {m lev cur : Nat} {fA fM : Wd} {C TK : Nat → Nat} {SL : Nat → List Nat}
/-- what's told of a procedure at hand -/
def CUR (fM : Wd) (cur : Nat) : Prop := cur < 1200 ∧ ∀ j, 1 ≤ j → j < 1200 → j ≤ cur → ∃ j', j' < j ∧ gi fM 37 j = Int32.ofNat j'
theorem i_ne {x : Int32} {a b : Nat} (h : x = Int32.ofNat a) (ha : a < 2147483648) (hb : b < 2147483648) (hn : a ≠ b) : ¬ x = Int32.ofNat b := fun e => of_ne (n := a) (k := b) ha hb hn (h.symm.trans e)
theorem pri_all (hT : TBM kd wr nm vv m C TK SL fA fM) (hFM : PFM fM (C 1)) (hcu : CUR fM cur) {W : PWT} {lo n d s e cn : Nat} {stk : List Nat} (hU : UPM (C 2) fM stk) (hl : stk.length < 9000)
    (hW : d ≤ 39 → ∀ lo x s e cn, W lo x (d + 1) s e cn → x < 24000 → e ≤ m → lo ≤ x ∧ s < e ∧ ALN kd wr m fM (luN nm TK SL stk) lev cur x (e - s) cn (40 * (40 - d) + 36)) (h : PRI kd fM W (hdM stk) lo n d s e cn) (hn : n < 24000) (he : e ≤ m) : s < e ∧ ALN kd wr m fM (luN nm TK SL stk) lev cur n (e - s) cn (40 * (41 - d) + 2) := by
  obtain ⟨h0, h12, h13, h45, h4⟩ := h
  have hm := hT.2.1.1.1
  rcases h4 with ⟨k7, q1, q2, q3⟩ | ⟨k7, q1, q2, q3⟩ | ⟨k7, q1, q2, x, e1, q3, q4, q5, q6, q7⟩ | ⟨k7, q1, q2, q3, q4, q5⟩ | ⟨c, xs, e1, q0, q1, q2, q3, q4, q5, q6, q7, q8⟩
  · refine ⟨by omega, ?_⟩
    rw [show e - s = 1 by omega]
    refine aln_mk hT hU hl hn (by omega) h12 (by omega) h45 (Or.inl q3) (fun g => absurd (k7.symm.trans g) (by decide)) (fun K N hK hN => ?_) (fun g => by omega) (fun g => g.elim (fun g => absurd (k7.symm.trans g) (by decide)) (fun g => absurd (k7.symm.trans g) (by decide))) (fun K N hK hN hL => as_other (s := 1) hn k7 (by omega) (by omega) (by omega) (by omega) (by omega) h12 (by omega) hL)
    obtain ⟨k, rfl⟩ : ∃ k, K = k + 1 := ⟨K - 1, by omega⟩
    obtain ⟨N1, rfl⟩ : ∃ N1, N = N1 + 1 := ⟨N - 1, by omega⟩
    exact vs_num hn k7
  · refine ⟨by omega, ?_⟩
    rw [show e - s = 1 by omega]
    refine aln_mk hT hU hl hn (by omega) h12 (by omega) h45 (Or.inl q3) (fun g => absurd (k7.symm.trans g) (by decide)) (fun K N hK hN => ?_) (fun g => by omega) (fun g => g.elim (fun g => absurd (k7.symm.trans g) (by decide)) (fun g => absurd (k7.symm.trans g) (by decide))) (fun K N hK hN hL => as_other (s := 2) hn k7 (by omega) (by omega) (by omega) (by omega) (by omega) h12 (by omega) hL)
    obtain ⟨k, rfl⟩ : ∃ k, K = k + 1 := ⟨K - 1, by omega⟩
    obtain ⟨N1, rfl⟩ : ∃ N1, N = N1 + 1 := ⟨N - 1, by omega⟩
    exact vs_truth hn k7
  · obtain ⟨g1, g2, a1, a2, a3, a4, a5, a6, a7, a8, a9, hcn⟩ := hW q2 _ _ _ _ _ q5 (by omega) (by omega)
    refine ⟨by omega, ?_⟩
    rw [show e - s = (e1 - (s + 1)) + 2 by omega]
    refine aln_mk hT hU hl hn (by omega) h12 (by omega) h45 hcn (fun g => absurd (k7.symm.trans g) (by decide)) (fun K N hK hN => ?_) (fun g K N hK hN => ?_) (fun g => g.elim (fun g => absurd (k7.symm.trans g) (by decide)) (fun g => absurd (k7.symm.trans g) (by decide))) (fun K N hK hN hL => as_group hn (by omega) k7 q3 (a6 K N (by omega) (by omega)))
    · obtain ⟨k, rfl⟩ : ∃ k, K = k + 1 := ⟨K - 1, by omega⟩
      obtain ⟨N1, rfl⟩ : ∃ N1, N = N1 + 1 := ⟨N - 1, by omega⟩
      exact vs_group hn (by omega) k7 q3 (a4 k N1 (by omega) (by omega))
    · obtain ⟨k, rfl⟩ : ∃ k, K = k + 1 := ⟨K - 1, by omega⟩
      obtain ⟨N1, rfl⟩ : ∃ N1, N = N1 + 1 := ⟨N - 1, by omega⟩
      exact ns_group hn (by omega) k7 q3 (a8 g k N1 (by omega) (by omega))
  · refine ⟨by omega, ?_⟩
    rw [show e - s = 1 by omega]
    refine aln_mk hT hU hl hn (by omega) h12 (by omega) h45 (Or.inr q5) (fun _ => ⟨h13, q1⟩) (fun K N hK hN => ?_) (fun _ K N hK hN => ?_) (fun _ K N f hf hK hN => ?_) (fun K N hK hN hL => as_name hT hU hl hn k7 h12 h13 (by omega) q1)
    · obtain ⟨k, rfl⟩ : ∃ k, K = k + 1 := ⟨K - 1, by omega⟩
      obtain ⟨N1, rfl⟩ : ∃ N1, N = N1 + 1 := ⟨N - 1, by omega⟩
      exact vs_name hT hU hl hn k7 h12 h13 (by omega) q1
    · obtain ⟨k, rfl⟩ : ∃ k, K = k + 1 := ⟨K - 1, by omega⟩
      obtain ⟨N1, rfl⟩ : ∃ N1, N = N1 + 1 := ⟨N - 1, by omega⟩
      exact ns_name hT hU hl hn k7 h12 h13 (by omega) q1
    · obtain ⟨k, rfl⟩ : ∃ k, K = k + 1 := ⟨K - 1, by omega⟩
      obtain ⟨N1, rfl⟩ : ∃ N1, N = N1 + 1 := ⟨N - 1, by omega⟩
      exact ps_name hT hU hl hn k7 h12 h13 (by omega) q1 hf hcu.1 hcu.2
  · obtain ⟨ps, p1, p2, p3, p4, p5, p6⟩ := row_ps (bnd := n) (by omega) (fun lo x s e cn hw hx he => hW q2 lo x s e cn hw (by omega) he) xs lo (s + 2) e1 (gi fM 8 n) q5 q6 (by omega) q3
    have hlen : ps.length = xs.length := by rw [← p1, List.length_map]
    have hT2 : e - s = smT ps + 2 := by omega
    have hl1 : 1 ≤ ps.length := by
      cases ps with
      | nil => exact absurd p3 (by show ¬ (0 = e1 - (s + 2) + 1); omega)
      | cons p r => exact Nat.succ_le_succ (Nat.zero_le _)
    rw [← p1] at p2
    refine ⟨by omega, ?_⟩
    have hrwn : ∀ k N, 4 * n ≤ k → 40 * (40 - d) + 36 ≤ N → ∀ p ∈ ps, RWN kd wr m fM (luN nm TK SL stk) lev cur k N p := fun k N hk hN p hp => by
      obtain ⟨hp0, cp, a1, a2, ⟨tx, a31, a32⟩, a4, a5, a6, a7, a8, a9⟩ := p6 p hp
      exact ⟨a4 k N (by omega) (by omega), ⟨tx, a31, by omega⟩, a2⟩
    have hl2 : 2 * ps.length ≤ smT ps := by
      have : ∀ ps : List (Nat × Nat), (∀ p ∈ ps, 1 ≤ p.2) → 2 * ps.length ≤ smT ps := by
        intro ps
        induction ps with
        | nil => exact fun _ => Nat.le_refl _
        | cons q r ih =>
          intro h
          have h1 := h q List.mem_cons_self
          have h2 := ih (fun q hq => h q (List.mem_cons_of_mem _ hq))
          show 2 * (r.length + 1) ≤ q.2 + 1 + smT r
          omega
      exact this ps (fun p hp => by
        obtain ⟨_, _, a⟩ := p6 p hp
        exact a.2.1)
    rcases q0 with ⟨k7, k1, k2, k3⟩ | ⟨k7, k1, k2, k3⟩
    · -- an ELEMENT
      have hcn : cn = 1 ∨ cn = 3 := by
        rw [k3]
        split <;> omega
      have hone : xs.length = 1 → ∃ x Tx tx, gi fM 8 n = Int32.ofNat x ∧ x < n ∧ gi fM 12 x = Int32.ofNat tx ∧ tx ≤ m ∧ 1 ≤ Tx ∧ e - s = Tx + 3 ∧ ∀ K N, 4 * x + 1 ≤ K → 40 * (40 - d) + 36 ≤ N → VS kd wr m fM (luN nm TK SL stk) lev cur K N x Tx := fun h1 => by
        obtain ⟨x, rfl⟩ : ∃ x, xs = [x] := List.length_eq_one_iff.mp h1
        obtain ⟨p, rfl⟩ : ∃ p, ps = [p] := List.length_eq_one_iff.mp (hlen.trans h1)
        have hpx : p.1 = x := by
          injection p1
        obtain ⟨hp0, cp, a1, a2, ⟨tx, a31, a32⟩, a4, _⟩ := p6 p List.mem_cons_self
        have hsm : smT [p] = p.2 + 1 := rfl
        rw [hpx] at hp0 a31 a4
        exact ⟨x, p.2, tx, q3, hp0, a31, by omega, a2, by omega, a4⟩
      refine aln_mk hT hU hl hn (by omega) h12 (by omega) h45 hcn (fun g => absurd (k7.symm.trans g) (by decide)) (fun K N hK hN => ?_) (fun g K N hK hN => ?_) (fun _ K N f hf hK hN => ?_) (fun K N hK hN hL => ?_)
      · obtain ⟨k, rfl⟩ : ∃ k, K = k + 1 := ⟨K - 1, by omega⟩
        obtain ⟨N1, rfl⟩ : ∃ N1, N = N1 + 3 := ⟨N - 3, by omega⟩
        rw [hT2]
        exact vs_index hT hU hl hn k7 h12 h13 (by omega) q1 p2 (hrwn k N1 (by omega) (by omega)) (by omega)
      · obtain ⟨k, rfl⟩ : ∃ k, K = k + 1 := ⟨K - 1, by omega⟩
        obtain ⟨N1, rfl⟩ : ∃ N1, N = N1 + 2 := ⟨N - 2, by omega⟩
        have h1 : xs.length = 1 := by
          rw [g] at k3
          by_cases q : xs.length = 1
          · exact q
          · rw [if_neg q] at k3
            omega
        obtain ⟨x, Tx, tx, r1, r2, r3, r4, r5, r6, r7⟩ := hone h1
        rw [r6]
        exact ns_index hT hU hl hn (by omega) k7 r1 h12 h13 (by omega) q1 r3 r4 r5 (r7 k N1 (by omega) (by omega))
      · obtain ⟨k, rfl⟩ : ∃ k, K = k + 1 := ⟨K - 1, by omega⟩
        obtain ⟨N1, rfl⟩ : ∃ N1, N = N1 + 3 := ⟨N - 3, by omega⟩
        rw [hT2]
        exact ps_index hT hU hl hn k7 h12 h13 (by omega) q1 p2 (hrwn k N1 (by omega) (by omega)) (by omega)
      · by_cases h1 : xs.length = 1
        · obtain ⟨x, Tx, tx, r1, r2, r3, r4, r5, r6, r7⟩ := hone h1
          obtain ⟨N1, rfl⟩ : ∃ N1, N = N1 + 1 := ⟨N - 1, by omega⟩
          rw [r6]
          exact as_index hT hU hl hn (by omega) k7 (by rw [q4, h1]; rfl) r1 h12 h13 (by omega) q1 r3 r4 r5 (r7 K N1 (by omega) (by omega))
        · exact as_other (s := 4) hn k7 (by omega) (by omega) (by omega) (by omega) (fun _ => i_ne (b := 1) q4 (by omega) (by omega) h1) h12 (by omega) hL
    · -- a call
      refine aln_mk hT hU hl hn (by omega) h12 (by omega) h45 (Or.inl k3) (fun g => absurd (k7.symm.trans g) (by decide)) (fun K N hK hN => ?_) (fun g => by omega) (fun g => g.elim (fun g => absurd (k7.symm.trans g) (by decide)) (fun g => absurd (k7.symm.trans g) (by decide))) (fun K N hK hN hL => as_other (s := 5) hn k7 (by omega) (by omega) (by omega) (by omega) (by omega) h12 (by omega) hL)
      obtain ⟨k, rfl⟩ : ∃ k, K = k + 2 := ⟨K - 2, by omega⟩
      obtain ⟨N1, rfl⟩ : ∃ N1, N = N1 + 2 := ⟨N - 2, by omega⟩
      rw [hT2]
      refine vs_call hn k7 (cl_all hT hFM (f := 0) hU hl hn k7 h12 h13 (by omega) q1 p2 (by rw [hlen]; exact q4) (fun p hp => ?_) (by omega) (by omega))
      obtain ⟨hp0, cp, a1, a2, _, a4, a5, a6, a7, a8, a9⟩ := p6 p hp
      exact ⟨fun f hf hx => a7 _ _ f (by omega) (by omega) hf hx, a5 _ _ (by omega) (by omega), a2⟩
end SG
