/-! HOW MUCH OF THE STACK AIMS, places and calls want -/
section NH9
variable {kd : Nat → Nat} {fA fM : Wd} {sc : Int32}
theorem kd_lt (hk9 : ∀ i, 9000 ≤ i → kd i = 0) {i c : Nat} (h1 : kd i = c) (h2 : c ≠ 0) : i < 9000 := by
  by_cases q : i < 9000
  · exact q
  · exact absurd ((hk9 i (by omega)).symm.trans h1).symm h2
theorem xpr_fit (hk9 : ∀ i, 9000 ≤ i → kd i = 0) {lo n d s e cn : Nat} (h : XPR kd sc lo n d s e cn fA fM) (hd : d ≤ 40) (he : e ≤ 9000) (hn : n < 24000) : FITX fM n (NBd d) := pwr_fit hk9 41 _ _ _ _ _ _ h.2 hd he hn
theorem pam_fit (hk9 : ∀ i, 9000 ≤ i → kd i = 0) : ∀ (k lo n d s e : Nat), PAM kd fM sc k lo n d s e → d ≤ 40 → e ≤ 9000 → n < 24000 → ∀ K, 3 * n + 3 ≤ K → OKN fM K 2 n ∧ NDX fM K 2 n ≤ NBd d := by
  intro k
  induction k with
  | zero => exact fun _ _ _ _ _ h => h.elim
  | succ k ih =>
    intro lo n d s e ⟨_, _, _, h⟩ hd he hn K hK
    obtain ⟨k', rfl⟩ : ∃ k', K = k' + 1 := ⟨K - 1, by omega⟩
    have h10 : 10 ≤ NBd d := by unfold NBd; omega
    rcases h with ⟨_, hd9, h7, c, y, z, e1, e2, cc, h8, h9, hz, hcy, hyz, hzn, p1, k1, p2, k2, p3⟩ | ⟨_, hd9, h7, x, e1, h8, hx, p1, k1, ee⟩ | ⟨_, _, hd9, h7, h9, x, e1, cx, h8, hx, p1, k1, ee⟩ | ⟨_, _, h7, _⟩
    · have l1 := kd_lt hk9 k1 (by decide)
      have l2 := kd_lt hk9 k2 (by decide)
      obtain ⟨c1, c2⟩ := pwr_fit hk9 k _ _ _ _ _ _ p1 (by omega) (by omega) (by omega) k' (by omega)
      obtain ⟨c3, c4⟩ := ih _ _ _ _ _ p2 (by omega) (by omega) (by omega) k' (by omega)
      obtain ⟨c5, c6⟩ := ih _ _ _ _ _ p3 (by omega) he (by omega) k' (by omega)
      have e8 : nd fM 8 n = c := nd_of h8 (by omega)
      have e9 : nd fM 9 n = y := nd_of h9 (by omega)
      have e10 : nd fM 10 n = z := nd_of hz (by omega)
      refine ⟨by rw [okn2_8 h7, e8, e9, e10]; exact ⟨c1, c3, c5⟩, ?_⟩
      rw [NDX]
      try dsimp only
      rw [if_neg (by decide), if_neg (by decide), if_neg (by rw [h7]; decide), if_pos h7, e8, e9, e10]
      unfold NBd at *
      omega
    · have l1 := kd_lt hk9 k1 (by decide)
      obtain ⟨c1, c2⟩ := ih _ _ _ _ _ p1 (by omega) (by omega) (by omega) k' (by omega)
      have e8 : nd fM 8 n = x := nd_of h8 (by omega)
      refine ⟨by rw [okn2_9 h7, e8]; exact c1, ?_⟩
      rw [NDX]
      try dsimp only
      rw [if_neg (by decide), if_neg (by decide), if_pos h7, e8]
      unfold NBd at *
      omega
    · have l1 := kd_lt hk9 k1 (by decide)
      obtain ⟨c1, c2⟩ := pwr_fit hk9 k _ _ _ _ _ _ p1 (by omega) (by omega) (by omega) k' (by omega)
      have e8 : nd fM 8 n = x := nd_of h8 (by omega)
      refine ⟨by rw [okn2_4 h7, e8]; exact c1, ?_⟩
      rw [NDX]
      try dsimp only
      rw [if_neg (by decide), if_neg (by decide), if_neg (by rw [h7]; decide), if_neg (by rw [h7]; decide), if_neg (by rw [h7]; decide), e8]
      unfold NBd at *
      omega
    · refine ⟨?_, ?_⟩
      · rw [OKN]
        try dsimp only
        rw [if_neg (by decide), if_neg (by decide), if_neg (by decide), if_neg (by rw [h7]; decide), if_neg (by rw [h7]; decide), if_neg (by rw [h7]; decide)]
        exact h7
      · rw [NDX]
        try dsimp only
        rw [if_neg (by decide), if_neg (by decide), if_neg (by rw [h7]; decide), if_neg (by rw [h7]; decide), if_pos h7]; omega
theorem xam_fit (hk9 : ∀ i, 9000 ≤ i → kd i = 0) {lo n d s e : Nat} (h : XAM kd sc lo n d s e fA fM) (hd : d ≤ 40) (he : e ≤ 9000) (hn : n < 24000) : ∀ K, 3 * n + 3 ≤ K → OKN fM K 2 n ∧ NDX fM K 2 n ≤ NBd d := pam_fit hk9 41 _ _ _ _ _ h.2 hd he hn
theorem rwc_fit (hk9 : ∀ i, 9000 ≤ i → kd i = 0) {lo n d s e c : Nat} {so : Int32} (h : RWC kd sc so c lo n d s e fA fM) (hc : c ≠ 0) (hn : n < 24000) : d ≤ 39 ∧ gi fM 7 n = so ∧ ∃ xs, gi fM 9 n = Int32.ofNat xs.length ∧ xs.length ≤ 5000 ∧ (∀ x ∈ xs, x < n) ∧ (∀ x ∈ xs, FITX fM x (NBd (d + 1))) ∧ ∀ K, 3 * n + 3 ≤ K + 1 → nxL fM K (gi fM 8 n) = xs := by
  obtain ⟨hd, h7, xs, e1, h8, h9, hR, hx, hk, ee, _⟩ := h
  have l1 := kd_lt hk9 hk hc
  have r := fun K hK => row_fit (n := n) (K := K) (fun lo x d s e cn => PWR_lt9 41 lo x d s e cn) (fun lo x s e cn h1 h2 h3 => pwr_fit hk9 41 lo x (d + 1) s e cn h1 (by omega) h2 h3) hR h8 hx hn (by omega) hK
  have r0 := r (3 * n + 2) (by omega)
  exact ⟨hd, h7, xs, h9, r0.2.1, hx, r0.2.2, fun K hK => (r K hK).1⟩
/-- a place -/
theorem plc_fit (hk9 : ∀ i, 9000 ≤ i → kd i = 0) {lo n d s e : Nat} (h : PLC kd sc lo n d s e fA fM) (hn : n < 24000) : ∀ K, 3 * n + 3 ≤ K → OKN fM K 1 n ∧ NDX fM K 1 n ≤ PKd d := fun K hK => by
  obtain ⟨k, rfl⟩ : ∃ k, K = k + 1 := ⟨K - 1, by omega⟩
  have hp2 : 2 ≤ PKd d := by unfold PKd; omega
  obtain ⟨_, _, _, ⟨_, h7, _⟩ | ⟨_, h⟩⟩ := h
  · refine ⟨?_, ?_⟩
    · rw [OKN]
      try dsimp only
      rw [if_neg (by decide), if_pos rfl, if_neg (by rw [h7]; decide)]
      exact h7
    · rw [NDX]
      try dsimp only
      rw [if_neg (by decide), if_pos rfl, if_neg (by rw [h7]; decide)]; omega
  · obtain ⟨hd, h7, xs, h9, hl, hx, hf, hnx⟩ := rwc_fit hk9 h (by decide) hn
    have hb : NBd (d + 1) + 4 = PKd d := by unfold NBd PKd; omega
    refine ⟨?_, ?_⟩
    · rw [okn1_4 h7, hnx k (by omega)]
      exact ⟨h9, hl, fun x hxx => (hf x hxx k (by have := hx x hxx; omega)).1⟩
    · rw [NDX]
      try dsimp only
      rw [if_neg (by decide), if_pos rfl, if_pos h7, hnx k (by omega)]
      refine fold_le xs 3 (by unfold NBd at hb; omega) (fun x hxx => ?_)
      have := (hf x hxx k (by have := hx x hxx; omega)).2
      omega
/-- a call -/
theorem clc_fit (hk9 : ∀ i, 9000 ≤ i → kd i = 0) {lo n d s e : Nat} (h : CLC kd sc lo n d s e fA fM) (h43 : kd (s + 1) = 43) (hn : n < 24000) : gi fM 7 n = 5 ∧ ∀ K, 3 * n + 3 ≤ K → OKN fM K 0 n := by
  obtain ⟨_, _, _, ⟨c, _⟩ | ⟨_, h⟩⟩ := h
  · exact absurd h43 c
  · obtain ⟨hd, h7, xs, h9, hl, hx, hf, hnx⟩ := rwc_fit hk9 h (by decide) hn
    refine ⟨h7, fun K hK => ?_⟩
    obtain ⟨k, rfl⟩ : ∃ k, K = k + 1 := ⟨K - 1, by omega⟩
    have hb9 : NBd (d + 1) ≤ 478 := by unfold NBd; omega
    rw [okn0_5 h7, hnx k (by omega)]
    refine ⟨h9, hl, fun x hxx => ?_⟩
    have hxn := hx x hxx
    obtain ⟨k2, rfl⟩ : ∃ k2, k = k2 + 1 := ⟨k - 1, by omega⟩
    obtain ⟨c1, c2⟩ := hf x hxx k2 (by omega)
    have c3 : NDX fM k2 1 x ≤ 502 := by
      cases k2 with
      | zero => exact Nat.zero_le _
      | succ k3 =>
        rw [NDX]
        try dsimp only
        rw [if_neg (by decide), if_pos rfl]
        by_cases q4 : gi fM 7 x = 4
        · rw [if_pos q4]
          rw [NDX] at c2
          try dsimp only at c2
          rw [if_pos rfl, if_neg (by rw [q4]; decide), if_neg (by rw [q4]; decide), if_neg (by rw [q4]; decide), if_pos q4] at c2
          omega
        · rw [if_neg q4]; omega
    rw [okn5]
    exact fun f => ⟨fun _ _ => ⟨by omega, c1⟩, fun _ _ => ⟨c1, by omega, fun q => okn01 c1 q, c3⟩, fun _ => ⟨c1, by omega⟩⟩
end NH9
