/-! HOW MUCH OF THE STACK AN EXPR WANTS, and that its nodes fit -/
section NG8
variable {kd : Nat → Nat} {fM : Wd} {sc : Int32} {W : PWT} {pr : Nat → Nat → Sum Nat Nat}
def PKd (d : Nat) : Nat := 2 + 12 * (40 - d)
def NBd (d : Nat) : Nat := 10 + 12 * (40 - d)
/-- what events want of the stack -/
def nsE (x : EV) (st : List Nat) : List Nat := if x.1 = 0 then PKd x.2.2 :: st else if x.1 = 1 then st else (match st with
  | y :: h :: r => (max h (y + 1)) :: r
  | _ => [])
def nst : List EV → List Nat → List Nat
  | [], st => st
  | x :: r, st => nst r (nsE x st)
theorem nst_app : ∀ (a b : List EV) (st : List Nat), nst (a ++ b) st = nst b (nst a st) := by
  intro a
  induction a with
  | nil => exact fun _ _ => rfl
  | cons x r ih => exact fun b st => ih b _
def NMQ (evs : List EV) (B : Nat) : Prop := ∃ h, h ≤ B ∧ ∀ st, nst evs st = h :: st
theorem NMQ.wk {B B' : Nat} {evs : List EV} (h : NMQ evs B) (hb : B ≤ B') : NMQ evs B' := by
  obtain ⟨x, h2, h3⟩ := h
  exact ⟨x, by omega, h3⟩
theorem NMQ.two {B1 B2 k t : Nat} {a b : List EV} (h : NMQ a B1) (g : NMQ b B2) : NMQ (a ++ b ++ [(2, k, t)]) (max B1 (B2 + 1)) := by
  obtain ⟨x, h2, h3⟩ := h
  obtain ⟨y, g2, g3⟩ := g
  refine ⟨max x (y + 1), by omega, fun st => ?_⟩
  rw [nst_app, nst_app, h3, g3]
  rfl
theorem NMQ.one {B k t : Nat} {a : List EV} (h : NMQ a B) : NMQ (a ++ [(1, k, t)]) B := by
  obtain ⟨x, h2, h3⟩ := h
  refine ⟨x, h2, fun st => ?_⟩
  rw [nst_app, h3]
  rfl
theorem lpR_nm {f : Nat → RS} {l B Bf : Nat} (hB : B + 1 ≤ Bf) (hf : ∀ t r, f t = .inr r → NMQ r.2 B) : ∀ (n t : Nat) (ev : List EV) (r : Nat × List EV), NMQ ev Bf → lpR kd f l n t ev = .inr r → NMQ r.2 Bf := by
  intro n
  induction n with
  | zero => intro t ev r hq h; injection h with h; rw [← h]; exact hq
  | succ n ih =>
    intro t ev r hq h
    unfold lpR at h
    by_cases q : stb (kd t) = l
    · rw [if_pos q] at h
      rcases hx : f (t + 1) with p | r2
      · rw [hx] at h; exact nomatch h
      · rw [hx] at h
        have h1 := hf _ _ hx
        have hq2 : NMQ (ev ++ r2.2 ++ [(2, kd t, t)]) Bf := (hq.two h1).wk (by omega)
        dsimp only at h
        by_cases q6 : l = 6
        · rw [if_pos q6] at h
          injection h with h
          rw [← h]
          exact hq2
        · rw [if_neg q6] at h
          exact ih _ _ _ hq2 h
    · rw [if_neg q] at h
      injection h with h
      rw [← h]
      exact hq
theorem PKd_s {d : Nat} : PKd (d + 1) ≤ PKd d := by unfold PKd; omega
theorem rdN_nm {f : Nat → Nat → RS} {c : Nat} (hf : ∀ d t r, f d t = .inr r → NMQ r.2 (PKd d + c)) : ∀ (m d t : Nat) (r : Nat × List EV), rdN kd f m d t = .inr r → NMQ r.2 (PKd d + c) := by
  intro m
  induction m with
  | zero => exact fun d t r h => hf d t r h
  | succ m ih =>
    intro d t r h
    unfold rdN at h
    by_cases q : kd t = 29
    · rw [if_pos q] at h
      by_cases q2 : 40 ≤ d
      · rw [if_pos q2] at h; exact nomatch h
      · rw [if_neg q2] at h
        rcases hx : rdN kd f m (d + 1) (t + 1) with p | r2
        · rw [hx] at h; exact nomatch h
        · rw [hx] at h
          have h1 := ih _ _ _ hx
          injection h with h
          rw [← h]
          exact (h1.one (k := 29)).wk (by have := PKd_s (d := d); omega)
    · rw [if_neg q] at h
      exact hf _ _ _ h
theorem rd_nm : ∀ (j d t : Nat) (r : Nat × List EV), rd kd pr j d t = .inr r → NMQ r.2 (PKd d + gl5 j) := by
  intro j
  induction j with
  | zero =>
    intro d t r h
    unfold rd at h
    rcases hx : pr d t with p | e
    · rw [hx] at h; exact nomatch h
    · rw [hx] at h
      injection h with h
      rw [← h]
      exact ⟨PKd d, by omega, fun st => rfl⟩
  | succ j ih =>
    intro d t r h
    unfold rd at h
    by_cases q : j = 4
    · rw [if_pos q] at h
      exact (rdN_nm (c := gl5 j) (fun d t r h => ih d t r h) _ _ _ _ h).wk (by rw [q]; exact Nat.le_refl _)
    · rw [if_neg q] at h
      by_cases q2 : j = 2 ∧ (kd t = 33 ∨ kd t = 34)
      · rw [if_pos q2] at h
        rcases hx : rd kd pr j d (t + 1) with p | r2
        · rw [hx] at h; exact nomatch h
        · rw [hx] at h
          exact lpR_nm (B := PKd d + gl5 j) (by have := gl5_s q; omega) (fun t r h => ih d t r h) _ _ _ _ (((ih _ _ _ hx).one).wk (by have := gl5_s q; omega)) h
      · rw [if_neg q2] at h
        rcases hx : rd kd pr j d t with p | r2
        · rw [hx] at h; exact nomatch h
        · rw [hx] at h
          exact lpR_nm (B := PKd d + gl5 j) (by have := gl5_s q; omega) (fun t r h => ih d t r h) _ _ _ _ ((ih _ _ _ hx).wk (by have := gl5_s q; omega)) h
/-- an EXPR's node fits and wants so much -/
def FITX (fM : Wd) (n B : Nat) : Prop := ∀ K, 3 * n + 3 ≤ K → OKN fM K 0 n ∧ NDX fM K 0 n ≤ B
theorem FITX.wk {n B B' : Nat} (h : FITX fM n B) (hb : B ≤ B') : FITX fM n B' := fun K hK => ⟨(h K hK).1, by have := (h K hK).2; omega⟩
/-- rows -/
theorem row_nx : ∀ (xs : List Nat) (lo d s e : Nat), rowR kd fM W xs lo d s e → (∀ x ∈ xs, x < 24000) → nxC fM xs (Int32.ofNat (xs.headD 0)) ∧ 1 ≤ xs.length ∧ ∀ n, (∀ x ∈ xs, x < n) → xs.length + xs.headD 0 ≤ n := by
  intro xs
  induction xs with
  | nil => exact fun _ _ _ _ h => h.elim
  | cons x r ih =>
    intro lo d s e h hb
    cases r with
    | nil => exact ⟨⟨rfl, hb x List.mem_cons_self, h.2⟩, by simp, fun n hn => by have := hn x List.mem_cons_self; show 1 + x ≤ n; omega⟩
    | cons y r' =>
      obtain ⟨e1, _, _, h11, _, hxy, hr⟩ := h
      obtain ⟨g1, g2, g3⟩ := ih _ _ _ _ hr (fun z hz => hb z (List.mem_cons_of_mem _ hz))
      refine ⟨⟨rfl, hb x List.mem_cons_self, by rw [h11]; exact g1⟩, by simp, fun n hn => ?_⟩
      have := g3 n (fun z hz => hn z (List.mem_cons_of_mem _ hz))
      have e1 : (x :: y :: r').length = (y :: r').length + 1 := rfl
      have e2 : (x :: y :: r').headD 0 = x := rfl
      have e3 : (y :: r').headD 0 = y := rfl
      omega
theorem row_mem : ∀ (xs : List Nat) (lo d s e : Nat), rowR kd fM W xs lo d s e → ∀ x ∈ xs, ∃ lo' s' e' cn, W lo' x d s' e' cn := by
  intro xs
  induction xs with
  | nil => exact fun _ _ _ _ h => h.elim
  | cons x r ih =>
    intro lo d s e h z hz
    cases r with
    | nil =>
      obtain ⟨⟨cn, h1⟩, _⟩ := h
      rw [List.mem_singleton] at hz
      subst hz
      exact ⟨_, _, _, _, h1⟩
    | cons y r' =>
      obtain ⟨e1, ⟨cn, h1⟩, _, _, _, _, hr⟩ := h
      rcases List.mem_cons.mp hz with rfl | hz
      · exact ⟨_, _, _, _, h1⟩
      · exact ih _ _ _ _ hr z hz
theorem fold_le {f : Nat → Nat} {B : Nat} : ∀ (l : List Nat) (m : Nat), m ≤ B → (∀ x ∈ l, f x ≤ B) → l.foldl (fun m x => max m (f x)) m ≤ B := by
  intro l
  induction l with
  | nil => exact fun m h _ => h
  | cons y r ih =>
    intro m h hl
    have := hl y List.mem_cons_self
    exact ih _ (Nat.max_le.mpr ⟨h, this⟩) (fun x hx => hl x (List.mem_cons_of_mem _ hx))
theorem row_len9 (hlt : ∀ lo x d s e cn, W lo x d s e cn → s < e) : ∀ (xs : List Nat) (lo d s e : Nat), rowR kd fM W xs lo d s e → s + 2 * xs.length ≤ e + 1 := by
  intro xs
  induction xs with
  | nil => exact fun _ _ _ _ h => h.elim
  | cons x r ih =>
    intro lo d s e h
    cases r with
    | nil =>
      obtain ⟨⟨cn, h1⟩, _⟩ := h
      have := hlt _ _ _ _ _ _ h1
      show s + 2 * 1 ≤ e + 1
      omega
    | cons y r' =>
      obtain ⟨e1, ⟨cn, h1⟩, _, _, _, _, hr⟩ := h
      have := hlt _ _ _ _ _ _ h1
      have := ih _ _ _ _ hr
      have e1 : (x :: y :: r').length = (y :: r').length + 1 := rfl
      omega
/-- a row of ELEMENT's or call's children -/
theorem row_fit {xs : List Nat} {lo n d s e : Nat} (hlt : ∀ lo x d s e cn, W lo x d s e cn → s < e) (hW : ∀ lo x s e cn, W lo x d s e cn → e ≤ 9000 → x < 24000 → FITX fM x (NBd d)) (hR : rowR kd fM W xs lo d s e) (h8 : gi fM 8 n = Int32.ofNat (xs.headD 0)) (hx : ∀ x ∈ xs, x < n) (hn : n < 24000) (he : e ≤ 9000) {K : Nat} (hK : 3 * n + 3 ≤ K + 1) : nxL fM K (gi fM 8 n) = xs ∧ xs.length ≤ 5000 ∧ ∀ x ∈ xs, FITX fM x (NBd d) := by
  obtain ⟨g1, g2, g3⟩ := row_nx xs _ _ _ _ hR (fun x h => by have := hx x h; omega)
  have := g3 n hx
  have := row_len9 hlt xs _ _ _ _ hR
  refine ⟨by rw [h8]; exact nxL_eq xs K _ g1 (by omega), by omega, ?_⟩
  have : ∀ (xs : List Nat) (lo s e : Nat), rowR kd fM W xs lo d s e → e ≤ 9000 → (∀ x ∈ xs, x < n) → ∀ x ∈ xs, FITX fM x (NBd d) := by
    intro xs
    induction xs with
    | nil => exact fun _ _ _ h => h.elim
    | cons x r ih =>
      intro lo s e h he hb z hz
      cases r with
      | nil =>
        obtain ⟨⟨cn, h1⟩, _⟩ := h
        rw [List.mem_singleton] at hz
        subst hz
        exact hW _ _ _ _ _ h1 he (by have := hb z List.mem_cons_self; omega)
      | cons y r' =>
        obtain ⟨e1, ⟨cn, h1⟩, _, _, _, _, hr⟩ := h
        have l1 := row_len9 hlt _ _ _ _ _ hr
        have l2 : 1 ≤ (y :: r').length := by simp
        rcases List.mem_cons.mp hz with rfl | hz
        · exact hW _ _ _ _ _ h1 (by omega) (by have := hb z List.mem_cons_self; omega)
        · exact ih _ _ _ hr he (fun w hw => hb w (List.mem_cons_of_mem _ hw)) z hz
  exact this xs lo s e hR he hx
/-- a PRIMARY -/
theorem pri_fit {lo n d s e cn : Nat} (hlt : ∀ lo x d s e cn, W lo x d s e cn → s < e) (hW : ∀ lo x d s e cn, W lo x d s e cn → d ≤ 40 → e ≤ 9000 → x < 24000 → FITX fM x (NBd d)) (hk9 : ∀ i, 9000 ≤ i → kd i = 0) (h : PRI kd fM W sc lo n d s e cn) (hn : n < 24000) : FITX fM n (PKd d) := fun K hK => by
  obtain ⟨_, _, _, _, h⟩ := h
  have hk : ∀ {i c : Nat}, kd i = c → c ≠ 0 → i < 9000 := fun {i c} h1 h2 => by
    by_cases q : i < 9000
    · exact q
    · exact absurd ((hk9 i (by omega)).symm.trans h1).symm h2
  obtain ⟨k, rfl⟩ : ∃ k, K = k + 1 := ⟨K - 1, by omega⟩
  have hp2 : 2 ≤ PKd d := by unfold PKd; omega
  rcases h with ⟨h7, _⟩ | ⟨h7, _⟩ | ⟨h7, _, hd, x, e1, h8, hx, hw, h44, ee⟩ | ⟨h7, _⟩ | ⟨c, xs, e1, hkk, _, hd, h8, h9, hR, hx, hce, ee⟩
  · refine ⟨?_, ?_⟩
    · rw [OKN]
      try dsimp only
      rw [if_pos rfl, if_neg (by rw [h7]; decide), if_neg (by rw [h7]; decide), if_neg (by rw [h7]; decide), if_neg (by rw [h7]; decide), if_neg (by rw [h7]; decide), if_neg (by rw [h7]; decide)]
      exact Or.inl h7
    · rw [NDX]
      try dsimp only
      rw [if_pos rfl, if_pos (Or.inl h7)]; omega
  · refine ⟨?_, ?_⟩
    · rw [OKN]
      try dsimp only
      rw [if_pos rfl, if_neg (by rw [h7]; decide), if_neg (by rw [h7]; decide), if_neg (by rw [h7]; decide), if_neg (by rw [h7]; decide), if_neg (by rw [h7]; decide), if_neg (by rw [h7]; decide)]
      exact Or.inr (Or.inl h7)
    · rw [NDX]
      try dsimp only
      rw [if_pos rfl, if_pos (Or.inr h7)]; omega
  · have he1 := hk h44 (by decide)
    have hc := hW _ _ _ _ _ _ hw (by omega) (by omega) (by omega)
    have ex : nd fM 8 n = x := nd_of h8 (by omega)
    obtain ⟨c1, c2⟩ := hc k (by omega)
    refine ⟨by rw [okn0_9 h7, ex]; exact c1, ?_⟩
    rw [NDX]
    try dsimp only
    rw [if_pos rfl, if_neg (by rw [h7]; decide), if_pos h7, ex]
    unfold NBd at c2
    unfold PKd
    omega
  · refine ⟨?_, ?_⟩
    · rw [OKN]
      try dsimp only
      rw [if_pos rfl, if_neg (by rw [h7]; decide), if_neg (by rw [h7]; decide), if_neg (by rw [h7]; decide), if_neg (by rw [h7]; decide), if_neg (by rw [h7]; decide), if_neg (by rw [h7]; decide)]
      exact Or.inr (Or.inr h7)
    · rw [NDX]
      try dsimp only
      rw [if_pos rfl, if_neg (by rw [h7]; decide), if_neg (by rw [h7]; decide), if_pos h7]; omega
  · have he1 : e1 < 9000 := hk hce (by rcases hkk with z | z <;> omega)
    obtain ⟨r1, r2, r3⟩ := row_fit (n := n) (K := k) hlt (fun lo x s e cn h1 h2 h3 => hW lo x (d + 1) s e cn h1 (by omega) h2 h3) hR h8 hx hn (by omega) hK
    have hb : NBd (d + 1) + 4 = PKd d := by unfold NBd PKd; omega
    have hb9 : NBd (d + 1) ≤ 478 := by unfold NBd; omega
    rcases hkk with ⟨h7, _⟩ | ⟨h7, _⟩
    · refine ⟨?_, ?_⟩
      · rw [okn0_4 h7, r1]
        exact ⟨h9, r2, fun x hxx => (r3 x hxx k (by have := hx x hxx; omega)).1⟩
      · rw [NDX]
        try dsimp only
        rw [if_pos rfl, if_neg (by rw [h7]; decide), if_neg (by rw [h7]; decide), if_neg (by rw [h7]; decide), if_pos h7, r1]
        refine fold_le xs 3 (by unfold NBd at hb; omega) (fun x hxx => ?_)
        have := (r3 x hxx k (by have := hx x hxx; omega)).2
        omega
    · refine ⟨?_, ?_⟩
      · rw [okn0_5 h7, r1]
        refine ⟨h9, r2, fun x hxx => ?_⟩
        have hxn := hx x hxx
        obtain ⟨k2, rfl⟩ : ∃ k2, k = k2 + 1 := ⟨k - 1, by omega⟩
        obtain ⟨c1, c2⟩ := r3 x hxx k2 (by omega)
        have c3 : NDX fM k2 1 x ≤ 502 := by
          cases k2 with
          | zero => exact Nat.zero_le _
          | succ k3 =>
            rw [NDX]
            try dsimp only
            rw [if_neg (by decide), if_pos rfl]
            by_cases q4 : gi fM 7 x = 4
            · rw [if_pos q4]
              rw [NDX] at c2
              try dsimp only at c2
              rw [if_pos rfl, if_neg (by rw [q4]; decide), if_neg (by rw [q4]; decide), if_neg (by rw [q4]; decide), if_pos q4] at c2
              omega
            · rw [if_neg q4]; omega
        rw [okn5]
        exact fun f => ⟨fun _ _ => ⟨by omega, c1⟩, fun _ _ => ⟨c1, by omega, fun q => okn01 c1 q, c3⟩, fun _ => ⟨c1, by omega⟩⟩
      · rw [NDX]
        try dsimp only
        rw [if_pos rfl, if_neg (by rw [h7]; decide), if_neg (by rw [h7]; decide), if_neg (by rw [h7]; decide), if_neg (by rw [h7]; decide), if_pos h7]; omega
/-- an EXPR without if -/
theorem pev_fit (hk9 : ∀ i, 9000 ≤ i → kd i = 0) (hlt : ∀ lo x d s e cn, W lo x d s e cn → s < e) (hW : ∀ lo x d s e cn, W lo x d s e cn → d ≤ 40 → e ≤ 9000 → x < 24000 → FITX fM x (NBd d)) : ∀ (q lo n d s : Nat) (evs : List EV) (cn : Nat), PEV kd fM W sc q lo n d s evs cn → n < 24000 → ∃ h, (∀ st, nst evs st = h :: st) ∧ FITX fM n h := by
  intro q
  induction q with
  | zero => exact fun _ _ _ _ _ _ h => h.elim
  | succ q ih =>
    intro lo n d s evs cn h hn
    obtain ⟨_, h⟩ := h
    rcases h with ⟨h7, _, _, _, x, y, sg, tk, s2, ex, ey, cx, cy, h8, h10, h9, _, hxy, hyn, he, p1, p2⟩ | ⟨h7, _, _, _, x, sg, ex, cx, h8, h9, _, hxn, he, p1⟩ | ⟨e, he, hp⟩
    · obtain ⟨a, a1, a2⟩ := ih _ _ _ _ _ _ p1 (by omega)
      obtain ⟨b, b1, b2⟩ := ih _ _ _ _ _ _ p2 (by omega)
      refine ⟨max a (b + 1), fun st => ?_, fun K hK => ?_⟩
      · rw [he, nst_app, nst_app, a1, b1]; rfl
      · obtain ⟨k, rfl⟩ : ∃ k, K = k + 1 := ⟨K - 1, by omega⟩
        obtain ⟨c1, c2⟩ := a2 k (by omega)
        obtain ⟨c3, c4⟩ := b2 k (by omega)
        have e8 : nd fM 8 n = x := nd_of h8 (by omega)
        have e10 : nd fM 10 n = y := nd_of h10 (by omega)
        refine ⟨by rw [okn0_6 h7, e8, e10]; exact ⟨c1, c3⟩, ?_⟩
        rw [NDX]
        try dsimp only
        rw [if_pos rfl, if_neg (by rw [h7]; decide), if_neg (by rw [h7]; decide), if_neg (by rw [h7]; decide), if_neg (by rw [h7]; decide), if_neg (by rw [h7]; decide), if_neg (by rw [h7]; decide), if_neg (by rw [h7]; decide), e8, e10]
        omega
    · obtain ⟨a, a1, a2⟩ := ih _ _ _ _ _ _ p1 (by omega)
      refine ⟨a, fun st => ?_, fun K hK => ?_⟩
      · rw [he, nst_app, a1]; rfl
      · obtain ⟨k, rfl⟩ : ∃ k, K = k + 1 := ⟨K - 1, by omega⟩
        obtain ⟨c1, c2⟩ := a2 k (by omega)
        have e8 : nd fM 8 n = x := nd_of h8 (by omega)
        refine ⟨by rw [okn0_7 h7, e8]; exact c1, ?_⟩
        rw [NDX]
        try dsimp only
        rw [if_pos rfl, if_neg (by rw [h7]; decide), if_neg (by rw [h7]; decide), if_neg (by rw [h7]; decide), if_neg (by rw [h7]; decide), if_neg (by rw [h7]; decide), if_neg (by rw [h7]; decide), if_pos h7, e8]
        exact c2
    · refine ⟨PKd d, fun st => by rw [he]; rfl, pri_fit hlt hW hk9 hp hn⟩
theorem gl5_9 : gl5 9 = 8 := rfl
theorem PWR_lt9 : ∀ (k lo n d s e cn : Nat), PWR kd fM sc k lo n d s e cn → s < e := by
  intro k lo n d s e cn h
  exact xw_lt _ _ _ _ (PWR_xw k h)
theorem pwr_fit (hk9 : ∀ i, 9000 ≤ i → kd i = 0) : ∀ (k lo n d s e cn : Nat), PWR kd fM sc k lo n d s e cn → d ≤ 40 → e ≤ 9000 → n < 24000 → FITX fM n (NBd d) := by
  intro k
  induction k with
  | zero => exact fun _ _ _ _ _ _ h => h.elim
  | succ k ih =>
    have hk : ∀ {i c : Nat}, kd i = c → c ≠ 0 → i < 9000 := fun {i c} h1 h2 => by
      by_cases q : i < 9000
      · exact q
      · exact absurd ((hk9 i (by omega)).symm.trans h1).symm h2
    have sm : ∀ (lo n d s e cn : Nat), PSM kd fM k (PWR kd fM sc k) sc lo n d s e cn → n < 24000 → FITX fM n (NBd d) := fun lo n d s e cn ⟨evs, q, h1, h2⟩ hn => by
      obtain ⟨h, p1, p2⟩ := pev_fit hk9 (fun lo x d s e cn => PWR_lt9 k lo x d s e cn) ih q _ _ _ _ _ _ h2 hn
      obtain ⟨h', b1, b2⟩ := rd_nm 9 d s _ h1
      have : h' = h := by
        have := (b2 []).symm.trans (p1 [])
        injection this
      subst this
      refine p2.wk ?_
      rw [gl5_9] at b1
      unfold PKd at b1
      unfold NBd
      omega
    intro lo n d s e cn h hd he hn
    rcases h with ⟨_, hd9, _, h7, _, _, c, y, z, e1, e2, cc, cy, cz, h8, h9, h10, hcy, hyz, hzn, p1, k1, p2, k2, p3, _⟩ | ⟨_, h⟩
    · have l1 := hk k1 (by decide)
      have l2 := hk k2 (by decide)
      have f1 := ih _ _ _ _ _ _ p1 (by omega) (by omega) (by omega)
      have f2 := sm _ _ _ _ _ _ p2 (by omega)
      have f3 := ih _ _ _ _ _ _ p3 (by omega) he (by omega)
      intro K hK
      obtain ⟨k', rfl⟩ : ∃ k', K = k' + 1 := ⟨K - 1, by omega⟩
      obtain ⟨c1, c2⟩ := f1 k' (by omega)
      obtain ⟨c3, c4⟩ := f2 k' (by omega)
      obtain ⟨c5, c6⟩ := f3 k' (by omega)
      have e8 : nd fM 8 n = c := nd_of h8 (by omega)
      have e9 : nd fM 9 n = y := nd_of h9 (by omega)
      have e10 : nd fM 10 n = z := nd_of h10 (by omega)
      refine ⟨by rw [okn0_8 h7, e8, e9, e10]; exact ⟨c1, c3, c5⟩, ?_⟩
      rw [NDX]
      try dsimp only
      rw [if_pos rfl, if_neg (by rw [h7]; decide), if_neg (by rw [h7]; decide), if_neg (by rw [h7]; decide), if_neg (by rw [h7]; decide), if_neg (by rw [h7]; decide), if_pos h7, e8, e9, e10]
      unfold NBd at *
      omega
    · exact sm _ _ _ _ _ _ h hn
end NG8
