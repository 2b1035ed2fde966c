/-! WALKS: the words of the pure functions (lt, bn ..), their eliminations, and the rows that turn RT along them -/
def lt {α β : Type} (a : α) (f : α → β) : β := f a
def lt2 {α β γ : Type} (p : α × β) (f : α → β → γ) : γ := f p.1 p.2
def bn {α γ : Type} (p : Option α) (f : α → Option γ) : Option γ := match p with
  | some a => f a
  | none => none
def bn2 {α β γ : Type} (p : Option (α × β)) (f : α → β → Option γ) : Option γ := match p with
  | some a => f a.1 a.2
  | none => none
/-- a call that may throw: none in the answer's place -/
def be {α γ : Type} (p : Option (Option α × Wd)) (f : α → Wd → Option (Option γ × Wd)) : Option (Option γ × Wd) := match p with
  | some a => (match a.1 with
    | some x => f x a.2
    | none => some (none, a.2))
  | none => none
theorem lt_e {α β : Type} {a : α} {f : α → β} {r : β} (h : lt a f = r) : ∃ x, a = x ∧ f x = r := ⟨a, rfl, h⟩
theorem lt2_e {α β γ : Type} {p : α × β} {f : α → β → γ} {r : γ} (h : lt2 p f = r) : ∃ x u, p = (x, u) ∧ f x u = r := ⟨p.1, p.2, rfl, h⟩
theorem bn_e {α γ : Type} {p : Option α} {f : α → Option γ} {r : γ} (h : bn p f = some r) : ∃ x, p = some x ∧ f x = some r := by
  cases p with
  | none => cases h
  | some a => exact ⟨a, rfl, h⟩
theorem bn2_e {α β γ : Type} {p : Option (α × β)} {f : α → β → Option γ} {r : γ} (h : bn2 p f = some r) : ∃ x u, p = some (x, u) ∧ f x u = some r := by
  cases p with
  | none => cases h
  | some a => exact ⟨a.1, a.2, rfl, h⟩
theorem be_e {α γ : Type} {p : Option (Option α × Wd)} {f : α → Wd → Option (Option γ × Wd)} {r : Option γ × Wd} (h : be p f = some r) : ∃ o u, p = some (o, u) ∧ (∀ x, o = some x → f x u = some r) ∧ (o = none → r = (none, u)) := by
  cases p with
  | none => cases h
  | some a =>
    obtain ⟨o, u⟩ := a
    cases o with
    | none => exact ⟨none, u, rfl, (fun _ e => nomatch e), (fun _ => (Option.some.inj h).symm)⟩
    | some x => exact ⟨some x, u, rfl, (fun z e => by obtain rfl := Option.some.inj e; exact h), (fun e => nomatch e)⟩
theorem if_t {α : Type} {c : Prop} [Decidable c] {a b r : α} (hc : c) (h : ite c a b = r) : a = r := by rw [if_pos hc] at h; exact h
theorem if_f {α : Type} {c : Prop} [Decidable c] {a b r : α} (hc : ¬ c) (h : ite c a b = r) : b = r := by rw [if_neg hc] at h; exact h
theorem if_n {α : Type} {c : Prop} [Decidable c] {a : Option α} {r : α} (h : ite c a none = some r) : c ∧ a = some r := by
  by_cases hc : c
  · rw [if_pos hc] at h; exact ⟨hc, h⟩
  · rw [if_neg hc] at h; cases h
def b2i (b : Bool) : Int32 := match b with
  | true => 1
  | false => 0
theorem b2i_ne {b : Bool} : ¬ b2i b = 0 ↔ b = true := by cases b <;> decide
theorem b2i_eq {b : Bool} : b2i b = 0 ↔ ¬ b = true := by cases b <;> decide
theorem b2i_nar (b : Bool) : narrow .boolean (.int (b2i b)) = .int (b2i b) := by cases b <;> rfl
theorem b2i_fit (b : Bool) : fits .boolean (.int (b2i b)) = true := by cases b <;> rfl
/-- an index that lies in a row of n -/
def inb (i : Int32) (n : Nat) : Bool := !(decide (i < 0)) && Nat.ble (i.toNatClampNeg + 1) n
theorem inb_in {i : Int32} {n : Nat} (h : inb i n = true) : vp_in i n := by
  unfold inb at h
  simp only [Bool.and_eq_true, Bool.not_eq_true', decide_eq_false_iff_not, Nat.ble_eq] at h
  intro q
  rcases q with q | q
  · exact h.1 q
  · exact absurd h.2 (by omega)
/-- x is one of these -/
def ol (x : Int32) : List Int32 → Prop
  | [] => False
  | [c] => x = c
  | c :: b :: t => x = c ∨ ol x (b :: t)
theorem ol_mem {x : Int32} : ∀ {L : List Int32}, ol x L → x ∈ L
  | [], h => h.elim
  | [c], h => by rw [show x = c from h]; exact List.mem_singleton.mpr rfl
  | c :: b :: t, h => by
    rcases h with h | h
    · rw [h]; exact List.mem_cons_self
    · exact List.mem_cons_of_mem _ (ol_mem h)
/-- x is none of all these -/
def nl (x : Int32) : List (List Int32) → Prop
  | [] => True
  | L :: t => ¬ ol x L ∧ nl x t
theorem nl_mem {x : Int32} : ∀ {K : List (List Int32)}, nl x K → ∀ L ∈ K, ¬ ol x L
  | [], _, _, h => absurd h List.not_mem_nil
  | _ :: _, h, L, hL => by
    rcases List.mem_cons.mp hL with e | e
    · rw [e]; exact h.1
    · exact nl_mem h.2 L e
theorem ol_of_mem {x : Int32} : ∀ {L : List Int32}, x ∈ L → ol x L
  | [], h => absurd h List.not_mem_nil
  | [c], h => List.mem_singleton.mp h
  | c :: b :: t, h => by
    rcases List.mem_cons.mp h with e | e
    · exact Or.inl e
    · exact Or.inr (ol_of_mem e)
section RTW
variable {Γ : Gm} {l : Launch} {d : Nat} {y : MethodName} {cc : ByteArray} {nL : Nat} {ret : Option FieldType} {N : Option Value → Wd → Prop} {X : String → Wd → Prop} {pc : Nat} {rest : List Value} {loc : List (Nat × Value)} {w : Wd}
theorem r_if_eq {x : Int32} {off : Int} {tgt : Nat} (hdg : decode cc pc = .ok (.ifCond .eq off, 3)) (ht : (pc : Int) + off = (tgt : Int)) (kt : x = 0 → RT Γ l d y cc nL ret N X tgt rest loc w) (kf : ¬ x = 0 → RT Γ l d y cc nL ret N X (pc + 3) rest loc w) : RT Γ l d y cc nL ret N X pc (.int x :: rest) loc w := by
  intro p e s m args below meth c H locs ls hC hP hS hl
  obtain ⟨hx, hb, hr, hml, hown, hts, hlk, het, hK, hE, hG⟩ := id hC
  exact lv_if_eq hx hb hdg ht (fun h => kt h p e s m args below meth c H locs ls hC hP hS hl) (fun h => kf h p e s m args below meth c H locs ls hC hP hS hl)
theorem r_if_ne {x : Int32} {off : Int} {tgt : Nat} (hdg : decode cc pc = .ok (.ifCond .ne off, 3)) (ht : (pc : Int) + off = (tgt : Int)) (kt : ¬ x = 0 → RT Γ l d y cc nL ret N X tgt rest loc w) (kf : x = 0 → RT Γ l d y cc nL ret N X (pc + 3) rest loc w) : RT Γ l d y cc nL ret N X pc (.int x :: rest) loc w := by
  intro p e s m args below meth c H locs ls hC hP hS hl
  obtain ⟨hx, hb, hr, hml, hown, hts, hlk, het, hK, hE, hG⟩ := id hC
  exact lv_if_ne hx hb hdg ht (fun h => kt h p e s m args below meth c H locs ls hC hP hS hl) (fun h => kf h p e s m args below meth c H locs ls hC hP hS hl)
theorem r_if_lt {x : Int32} {off : Int} {tgt : Nat} (hdg : decode cc pc = .ok (.ifCond .lt off, 3)) (ht : (pc : Int) + off = (tgt : Int)) (kt : x < 0 → RT Γ l d y cc nL ret N X tgt rest loc w) (kf : ¬ x < 0 → RT Γ l d y cc nL ret N X (pc + 3) rest loc w) : RT Γ l d y cc nL ret N X pc (.int x :: rest) loc w := by
  intro p e s m args below meth c H locs ls hC hP hS hl
  obtain ⟨hx, hb, hr, hml, hown, hts, hlk, het, hK, hE, hG⟩ := id hC
  exact lv_if_lt hx hb hdg ht (fun h => kt h p e s m args below meth c H locs ls hC hP hS hl) (fun h => kf h p e s m args below meth c H locs ls hC hP hS hl)
theorem r_if_ge {x : Int32} {off : Int} {tgt : Nat} (hdg : decode cc pc = .ok (.ifCond .ge off, 3)) (ht : (pc : Int) + off = (tgt : Int)) (kt : 0 ≤ x → RT Γ l d y cc nL ret N X tgt rest loc w) (kf : ¬ 0 ≤ x → RT Γ l d y cc nL ret N X (pc + 3) rest loc w) : RT Γ l d y cc nL ret N X pc (.int x :: rest) loc w := by
  intro p e s m args below meth c H locs ls hC hP hS hl
  obtain ⟨hx, hb, hr, hml, hown, hts, hlk, het, hK, hE, hG⟩ := id hC
  exact lv_if_ge hx hb hdg ht (fun h => kt h p e s m args below meth c H locs ls hC hP hS hl) (fun h => kf h p e s m args below meth c H locs ls hC hP hS hl)
theorem r_if_gt {x : Int32} {off : Int} {tgt : Nat} (hdg : decode cc pc = .ok (.ifCond .gt off, 3)) (ht : (pc : Int) + off = (tgt : Int)) (kt : 0 < x → RT Γ l d y cc nL ret N X tgt rest loc w) (kf : ¬ 0 < x → RT Γ l d y cc nL ret N X (pc + 3) rest loc w) : RT Γ l d y cc nL ret N X pc (.int x :: rest) loc w := by
  intro p e s m args below meth c H locs ls hC hP hS hl
  obtain ⟨hx, hb, hr, hml, hown, hts, hlk, het, hK, hE, hG⟩ := id hC
  exact lv_if_gt hx hb hdg ht (fun h => kt h p e s m args below meth c H locs ls hC hP hS hl) (fun h => kf h p e s m args below meth c H locs ls hC hP hS hl)
theorem r_if_le {x : Int32} {off : Int} {tgt : Nat} (hdg : decode cc pc = .ok (.ifCond .le off, 3)) (ht : (pc : Int) + off = (tgt : Int)) (kt : x ≤ 0 → RT Γ l d y cc nL ret N X tgt rest loc w) (kf : ¬ x ≤ 0 → RT Γ l d y cc nL ret N X (pc + 3) rest loc w) : RT Γ l d y cc nL ret N X pc (.int x :: rest) loc w := by
  intro p e s m args below meth c H locs ls hC hP hS hl
  obtain ⟨hx, hb, hr, hml, hown, hts, hlk, het, hK, hE, hG⟩ := id hC
  exact lv_if_le hx hb hdg ht (fun h => kt h p e s m args below meth c H locs ls hC hP hS hl) (fun h => kf h p e s m args below meth c H locs ls hC hP hS hl)
theorem r_z_eq {b : Bool} {off : Int} {tgt : Nat} (hdg : decode cc pc = .ok (.ifCond .eq off, 3)) (ht : (pc : Int) + off = (tgt : Int)) (kt : ¬ b = true → RT Γ l d y cc nL ret N X tgt rest loc w) (kf : b = true → RT Γ l d y cc nL ret N X (pc + 3) rest loc w) : RT Γ l d y cc nL ret N X pc (.int (b2i b) :: rest) loc w := r_if_eq hdg ht (fun h => kt (b2i_eq.mp h)) (fun h => kf (b2i_ne.mp h))
theorem r_z_ne {b : Bool} {off : Int} {tgt : Nat} (hdg : decode cc pc = .ok (.ifCond .ne off, 3)) (ht : (pc : Int) + off = (tgt : Int)) (kt : b = true → RT Γ l d y cc nL ret N X tgt rest loc w) (kf : ¬ b = true → RT Γ l d y cc nL ret N X (pc + 3) rest loc w) : RT Γ l d y cc nL ret N X pc (.int (b2i b) :: rest) loc w := r_if_ne hdg ht (fun h => kt (b2i_ne.mp h)) (fun h => kf (b2i_eq.mp h))
theorem r_l_eq {x z : Int64} {off : Int} {tgt : Nat} (h1 : decode cc pc = .ok (.lcmp, 1)) (hdg : decode cc (pc + 1) = .ok (.ifCond .eq off, 3)) (ht : ((pc + 1 : Nat) : Int) + off = (tgt : Int)) (kt : x = z → RT Γ l d y cc nL ret N X tgt rest loc w) (kf : ¬ x = z → RT Γ l d y cc nL ret N X (pc + 1 + 3) rest loc w) : RT Γ l d y cc nL ret N X pc (.long z :: .long x :: rest) loc w := r_lcmp h1 (r_if_eq hdg ht (fun h => kt ((lg_cmp_eq x z).mp h)) (fun h => kf (fun q => h ((lg_cmp_eq x z).mpr q))))
theorem r_l_ne {x z : Int64} {off : Int} {tgt : Nat} (h1 : decode cc pc = .ok (.lcmp, 1)) (hdg : decode cc (pc + 1) = .ok (.ifCond .ne off, 3)) (ht : ((pc + 1 : Nat) : Int) + off = (tgt : Int)) (kt : ¬ x = z → RT Γ l d y cc nL ret N X tgt rest loc w) (kf : x = z → RT Γ l d y cc nL ret N X (pc + 1 + 3) rest loc w) : RT Γ l d y cc nL ret N X pc (.long z :: .long x :: rest) loc w := r_lcmp h1 (r_if_ne hdg ht (fun h => kt (fun q => h ((lg_cmp_eq x z).mpr q))) (fun h => kf ((lg_cmp_eq x z).mp h)))
theorem r_l_lt {x z : Int64} {off : Int} {tgt : Nat} (h1 : decode cc pc = .ok (.lcmp, 1)) (hdg : decode cc (pc + 1) = .ok (.ifCond .lt off, 3)) (ht : ((pc + 1 : Nat) : Int) + off = (tgt : Int)) (kt : x < z → RT Γ l d y cc nL ret N X tgt rest loc w) (kf : ¬ x < z → RT Γ l d y cc nL ret N X (pc + 1 + 3) rest loc w) : RT Γ l d y cc nL ret N X pc (.long z :: .long x :: rest) loc w := r_lcmp h1 (r_if_lt hdg ht (fun h => kt ((lg_cmp_lt x z).mp h)) (fun h => kf (fun q => h ((lg_cmp_lt x z).mpr q))))
theorem r_l_ge {x z : Int64} {off : Int} {tgt : Nat} (h1 : decode cc pc = .ok (.lcmp, 1)) (hdg : decode cc (pc + 1) = .ok (.ifCond .ge off, 3)) (ht : ((pc + 1 : Nat) : Int) + off = (tgt : Int)) (kt : z ≤ x → RT Γ l d y cc nL ret N X tgt rest loc w) (kf : ¬ z ≤ x → RT Γ l d y cc nL ret N X (pc + 1 + 3) rest loc w) : RT Γ l d y cc nL ret N X pc (.long z :: .long x :: rest) loc w := r_lcmp h1 (r_if_ge hdg ht (fun h => kt ((lg_cmp_ge x z).mp h)) (fun h => kf (fun q => h ((lg_cmp_ge x z).mpr q))))
theorem r_l_gt {x z : Int64} {off : Int} {tgt : Nat} (h1 : decode cc pc = .ok (.lcmp, 1)) (hdg : decode cc (pc + 1) = .ok (.ifCond .gt off, 3)) (ht : ((pc + 1 : Nat) : Int) + off = (tgt : Int)) (kt : z < x → RT Γ l d y cc nL ret N X tgt rest loc w) (kf : ¬ z < x → RT Γ l d y cc nL ret N X (pc + 1 + 3) rest loc w) : RT Γ l d y cc nL ret N X pc (.long z :: .long x :: rest) loc w := r_lcmp h1 (r_if_gt hdg ht (fun h => kt ((lg_cmp_gt x z).mp h)) (fun h => kf (fun q => h ((lg_cmp_gt x z).mpr q))))
theorem r_l_le {x z : Int64} {off : Int} {tgt : Nat} (h1 : decode cc pc = .ok (.lcmp, 1)) (hdg : decode cc (pc + 1) = .ok (.ifCond .le off, 3)) (ht : ((pc + 1 : Nat) : Int) + off = (tgt : Int)) (kt : x ≤ z → RT Γ l d y cc nL ret N X tgt rest loc w) (kf : ¬ x ≤ z → RT Γ l d y cc nL ret N X (pc + 1 + 3) rest loc w) : RT Γ l d y cc nL ret N X pc (.long z :: .long x :: rest) loc w := r_lcmp h1 (r_if_le hdg ht (fun h => kt ((lg_cmp_le x z).mp h)) (fun h => kf (fun q => h ((lg_cmp_le x z).mpr q))))
theorem r_w {u : Wd} (e : w = u) (k : RT Γ l d y cc nL ret N X pc rest loc u) : RT Γ l d y cc nL ret N X pc rest loc w := by subst e; exact k
theorem r_topi {x z : Int32} (e : x = z) (k : RT Γ l d y cc nL ret N X pc (.int z :: rest) loc w) : RT Γ l d y cc nL ret N X pc (.int x :: rest) loc w := by subst e; exact k
theorem r_topl {x z : Int64} (e : x = z) (k : RT Γ l d y cc nL ret N X pc (.long z :: rest) loc w) : RT Γ l d y cc nL ret N X pc (.long x :: rest) loc w := by subst e; exact k
theorem r_topz {x z : Bool} (e : x = z) (k : RT Γ l d y cc nL ret N X pc (.int (b2i z) :: rest) loc w) : RT Γ l d y cc nL ret N X pc (.int (b2i x) :: rest) loc w := by subst e; exact k
theorem r_inc {i : Nat} {n : Int} {x v k9 : Int32} {loc' : List (Nat × Value)} (hdg : decode cc pc = .ok (.iinc i n, 3)) (hk9 : Int32.ofInt n = k9) (hv : x + k9 = v) (q : Nat) (hq : loc[q]? = some (i, .int x)) (hn : i < nL) (hl' : (i, Value.int v) :: loc.filter (fun q => !(q.1 == i) && !(q.1 + 1 == i && q.2.category == 2)) = loc') (k : RT Γ l d y cc nL ret N X (pc + 3) rest loc' w) : RT Γ l d y cc nL ret N X pc rest loc w := r_iinc hdg hq (by rw [hk9]; exact hv) hn hl' k
theorem r_tabC {dflt lo hi : Int} {offs : Array Int} {len : Nat} {x : Int32} {off : Int} {tgt : Nat} {L : List Int32} (hdg : decode cc pc = .ok (.tableswitch dflt lo hi offs, len)) (hx : ol x L) (hL : L.all (fun c => !(decide (c.toInt < lo)) && (!(decide (hi < c.toInt)) && decide (offs[(c.toInt - lo).toNat]? = some off))) = true) (ht : (pc : Int) + off = (tgt : Int)) (k : RT Γ l d y cc nL ret N X tgt rest loc w) : RT Γ l d y cc nL ret N X pc (.int x :: rest) loc w := by
  have h := List.all_eq_true.mp hL x (ol_mem hx)
  simp only [Bool.and_eq_true, Bool.not_eq_true', decide_eq_false_iff_not, decide_eq_true_eq] at h
  exact r_tableIn hdg h.1 h.2.1 h.2.2 ht k
theorem r_tabD {dflt lo hi : Int} {offs : Array Int} {len : Nat} {x : Int32} {tgt : Nat} {K : List (List Int32)} (hdg : decode cc pc = .ok (.tableswitch dflt lo hi offs, len)) (hx : nl x K) (hK : (List.range offs.size).all (fun i => decide (offs[i]? = some dflt) || K.any (fun L => L.any (fun c => decide (c.toInt = lo + (i : Int))))) = true) (hz : hi - lo < (offs.size : Int)) (ht : (pc : Int) + dflt = (tgt : Int)) (k : RT Γ l d y cc nL ret N X tgt rest loc w) : RT Γ l d y cc nL ret N X pc (.int x :: rest) loc w := by
  by_cases h1 : x.toInt < lo ∨ hi < x.toInt
  · exact r_tableOut hdg h1 ht k
  have h2 : ¬ x.toInt < lo := fun q => h1 (Or.inl q)
  have h3 : ¬ hi < x.toInt := fun q => h1 (Or.inr q)
  have hr : (x.toInt - lo).toNat ∈ List.range offs.size := List.mem_range.mpr (by omega)
  have h := List.all_eq_true.mp hK _ hr
  simp only [Bool.or_eq_true, decide_eq_true_eq] at h
  rcases h with h | h
  · exact r_tableIn hdg h2 h3 h ht k
  · exfalso
    obtain ⟨L, hL, hc⟩ := List.any_eq_true.mp h
    obtain ⟨c, hcL, hcc⟩ := List.any_eq_true.mp hc
    have hcc := of_decide_eq_true hcc
    refine nl_mem hx L hL (ol_of_mem ?_)
    have : x = c := Int32.toInt_inj.mp (by omega)
    rw [this]; exact hcL
theorem r_lkC {dflt : Int} {ps : Array (Int × Int)} {len : Nat} {x : Int32} {off : Int} {tgt : Nat} {L : List Int32} (hdg : decode cc pc = .ok (.lookupswitch dflt ps, len)) (hp : (ps.toList.zip (ps.toList.drop 1)).all (fun (a, next) => a.1 < next.1) = true) (hx : ol x L) (hL : L.all (fun c => decide (Op.lookupswitch.offset ps.toList dflt c.toInt = off)) = true) (ht : (pc : Int) + off = (tgt : Int)) (k : RT Γ l d y cc nL ret N X tgt rest loc w) : RT Γ l d y cc nL ret N X pc (.int x :: rest) loc w := by
  have h := List.all_eq_true.mp hL x (ol_mem hx)
  exact r_lookup hdg hp (of_decide_eq_true h) ht k
theorem look_d {x : Int32} {dflt : Int} {K : List (List Int32)} (hx : nl x K) : ∀ (ps : List (Int × Int)), ps.all (fun p => decide (p.2 = dflt) || K.any (fun L => L.any (fun c => decide (c.toInt = p.1)))) = true → Op.lookupswitch.offset ps dflt x.toInt = dflt
  | [], _ => rfl
  | (a, o9) :: t, h => by
    simp only [List.all_cons, Bool.and_eq_true] at h
    rw [Op.lookupswitch.offset_cons]
    by_cases e : a = x.toInt
    · rw [if_pos e]
      have h1 := h.1
      simp only [Bool.or_eq_true, decide_eq_true_eq] at h1
      rcases h1 with h1 | h1
      · exact h1
      · exfalso
        obtain ⟨L, hL, hc⟩ := List.any_eq_true.mp h1
        obtain ⟨c, hcL, hcc⟩ := List.any_eq_true.mp hc
        have hcc := of_decide_eq_true hcc
        refine nl_mem hx L hL (ol_of_mem ?_)
        have : x = c := Int32.toInt_inj.mp (by omega)
        rw [this]; exact hcL
    · rw [if_neg e]
      exact look_d hx t h.2
theorem r_lkD {dflt : Int} {ps : Array (Int × Int)} {len : Nat} {x : Int32} {tgt : Nat} {K : List (List Int32)} (hdg : decode cc pc = .ok (.lookupswitch dflt ps, len)) (hp : (ps.toList.zip (ps.toList.drop 1)).all (fun (a, next) => a.1 < next.1) = true) (hx : nl x K) (hK : ps.toList.all (fun p => decide (p.2 = dflt) || K.any (fun L => L.any (fun c => decide (c.toInt = p.1)))) = true) (ht : (pc : Int) + dflt = (tgt : Int)) (k : RT Γ l d y cc nL ret N X tgt rest loc w) : RT Γ l d y cc nL ret N X pc (.int x :: rest) loc w := r_lookup hdg hp (look_d hx _ hK) ht k
theorem r_cVi {d' nL' n k ci index : Nat} {C : String} {Tc : u_T} {Nf : Nat} {fs : List (Option Nat)} {y' : MethodName} {cc' : ByteArray} {ret' : Option FieldType} {av stk : List Value} (hY : CY y' cc' nL' ret' n) (hO : OB Γ k ci C Tc Nf fs) (hC9 : y'.cls = C) (h1 : Cond.methodLink y.cls index y' ∈ TB) (h2 : Cond.instanceMethod y' ∈ TB) (h3 : Cond.selects C y' y' ∈ TB) (hd : d' + 1 ≤ d ∧ nL' ≤ 26) (hn : av.length = n) (hstk : stk = av.reverse ++ .ref k :: rest) (hroom : (rest.map fun v => v.category).sum ≤ 8) (hdg : decode cc pc = .ok (.invokevirtual index, 3))
    (hM : Ct Γ l d' y' cc' nL' ret' (.ref k :: av) w (pI (fun x u => RT Γ l d y cc nL ret N X (pc + 3) (.int x :: rest) loc u)) X) : RT Γ l d y cc nL ret N X pc stk loc w := r_callVi hY hO hC9 h1 h2 h3 hd hn hstk hroom hdg hM (fun _ _ h => h)
theorem r_cSi {d' nL' n index : Nat} {y' : MethodName} {cc' : ByteArray} {ret' : Option FieldType} {av stk : List Value} (hY : CY y' cc' nL' ret' n) (h1 : Cond.methodLink y.cls index y' ∈ TB) (h2 : Cond.static y' ∈ TB) (hd : d' + 1 ≤ d ∧ nL' ≤ 26) (hn : av.length = n) (hstk : stk = av.reverse ++ rest) (hroom : (rest.map fun v => v.category).sum ≤ 8) (hdg : decode cc pc = .ok (.invokestatic index, 3))
    (hM : Ct Γ l d' y' cc' nL' ret' av w (pI (fun x u => RT Γ l d y cc nL ret N X (pc + 3) (.int x :: rest) loc u)) X) : RT Γ l d y cc nL ret N X pc stk loc w := r_callSi hY h1 h2 hd hn hstk hroom hdg hM (fun _ _ h => h)
theorem r_cVl {d' nL' n k ci index : Nat} {C : String} {Tc : u_T} {Nf : Nat} {fs : List (Option Nat)} {y' : MethodName} {cc' : ByteArray} {ret' : Option FieldType} {av stk : List Value} (hY : CY y' cc' nL' ret' n) (hO : OB Γ k ci C Tc Nf fs) (hC9 : y'.cls = C) (h1 : Cond.methodLink y.cls index y' ∈ TB) (h2 : Cond.instanceMethod y' ∈ TB) (h3 : Cond.selects C y' y' ∈ TB) (hd : d' + 1 ≤ d ∧ nL' ≤ 26) (hn : av.length = n) (hstk : stk = av.reverse ++ .ref k :: rest) (hroom : (rest.map fun v => v.category).sum ≤ 8) (hdg : decode cc pc = .ok (.invokevirtual index, 3))
    (hM : Ct Γ l d' y' cc' nL' ret' (.ref k :: av) w (pL (fun x u => RT Γ l d y cc nL ret N X (pc + 3) (.long x :: rest) loc u)) X) : RT Γ l d y cc nL ret N X pc stk loc w := r_callVl hY hO hC9 h1 h2 h3 hd hn hstk hroom hdg hM (fun _ _ h => h)
theorem r_cSl {d' nL' n index : Nat} {y' : MethodName} {cc' : ByteArray} {ret' : Option FieldType} {av stk : List Value} (hY : CY y' cc' nL' ret' n) (h1 : Cond.methodLink y.cls index y' ∈ TB) (h2 : Cond.static y' ∈ TB) (hd : d' + 1 ≤ d ∧ nL' ≤ 26) (hn : av.length = n) (hstk : stk = av.reverse ++ rest) (hroom : (rest.map fun v => v.category).sum ≤ 8) (hdg : decode cc pc = .ok (.invokestatic index, 3))
    (hM : Ct Γ l d' y' cc' nL' ret' av w (pL (fun x u => RT Γ l d y cc nL ret N X (pc + 3) (.long x :: rest) loc u)) X) : RT Γ l d y cc nL ret N X pc stk loc w := r_callSl hY h1 h2 hd hn hstk hroom hdg hM (fun _ _ h => h)
theorem r_cVv {d' nL' n k ci index : Nat} {C : String} {Tc : u_T} {Nf : Nat} {fs : List (Option Nat)} {y' : MethodName} {cc' : ByteArray} {ret' : Option FieldType} {av stk : List Value} (hY : CY y' cc' nL' ret' n) (hO : OB Γ k ci C Tc Nf fs) (hC9 : y'.cls = C) (h1 : Cond.methodLink y.cls index y' ∈ TB) (h2 : Cond.instanceMethod y' ∈ TB) (h3 : Cond.selects C y' y' ∈ TB) (hd : d' + 1 ≤ d ∧ nL' ≤ 26) (hn : av.length = n) (hstk : stk = av.reverse ++ .ref k :: rest) (hroom : (rest.map fun v => v.category).sum ≤ 8) (hdg : decode cc pc = .ok (.invokevirtual index, 3))
    (hM : Ct Γ l d' y' cc' nL' ret' (.ref k :: av) w (pV (fun u => RT Γ l d y cc nL ret N X (pc + 3) rest loc u)) X) : RT Γ l d y cc nL ret N X pc stk loc w := r_callVv hY hO hC9 h1 h2 h3 hd hn hstk hroom hdg hM (fun _ h => h)
theorem r_cSv {d' nL' n index : Nat} {y' : MethodName} {cc' : ByteArray} {ret' : Option FieldType} {av stk : List Value} (hY : CY y' cc' nL' ret' n) (h1 : Cond.methodLink y.cls index y' ∈ TB) (h2 : Cond.static y' ∈ TB) (hd : d' + 1 ≤ d ∧ nL' ≤ 26) (hn : av.length = n) (hstk : stk = av.reverse ++ rest) (hroom : (rest.map fun v => v.category).sum ≤ 8) (hdg : decode cc pc = .ok (.invokestatic index, 3))
    (hM : Ct Γ l d' y' cc' nL' ret' av w (pV (fun u => RT Γ l d y cc nL ret N X (pc + 3) rest loc u)) X) : RT Γ l d y cc nL ret N X pc stk loc w := r_callSv hY h1 h2 hd hn hstk hroom hdg hM (fun _ h => h)
theorem r_cVr {d' nL' n k ci index : Nat} {C : String} {Tc : u_T} {Nf : Nat} {fs : List (Option Nat)} {y' : MethodName} {cc' : ByteArray} {ret' : Option FieldType} {av stk : List Value} (hY : CY y' cc' nL' ret' n) (hO : OB Γ k ci C Tc Nf fs) (hC9 : y'.cls = C) (h1 : Cond.methodLink y.cls index y' ∈ TB) (h2 : Cond.instanceMethod y' ∈ TB) (h3 : Cond.selects C y' y' ∈ TB) (hd : d' + 1 ≤ d ∧ nL' ≤ 26) (hn : av.length = n) (hstk : stk = av.reverse ++ .ref k :: rest) (hroom : (rest.map fun v => v.category).sum ≤ 8) (hdg : decode cc pc = .ok (.invokevirtual index, 3))
    (hM : Ct Γ l d' y' cc' nL' ret' (.ref k :: av) w (pR (fun x u => RT Γ l d y cc nL ret N X (pc + 3) (.ref x :: rest) loc u)) X) : RT Γ l d y cc nL ret N X pc stk loc w := r_callVr hY hO hC9 h1 h2 h3 hd hn hstk hroom hdg hM (fun _ _ h => h)
theorem r_cSr {d' nL' n index : Nat} {y' : MethodName} {cc' : ByteArray} {ret' : Option FieldType} {av stk : List Value} (hY : CY y' cc' nL' ret' n) (h1 : Cond.methodLink y.cls index y' ∈ TB) (h2 : Cond.static y' ∈ TB) (hd : d' + 1 ≤ d ∧ nL' ≤ 26) (hn : av.length = n) (hstk : stk = av.reverse ++ rest) (hroom : (rest.map fun v => v.category).sum ≤ 8) (hdg : decode cc pc = .ok (.invokestatic index, 3))
    (hM : Ct Γ l d' y' cc' nL' ret' av w (pR (fun x u => RT Γ l d y cc nL ret N X (pc + 3) (.ref x :: rest) loc u)) X) : RT Γ l d y cc nL ret N X pc stk loc w := r_callSr hY h1 h2 hd hn hstk hroom hdg hM (fun _ _ h => h)
theorem rP_i {x R : Int32} (hr : ret = some .int) (hdg : decode cc pc = .ok (.ireturn, 1)) (h : x = R) (hN : N (some (.int R)) w) : RT Γ l d y cc nL ret N X pc [.int x] loc w := by subst h; exact r_ireturn hr hdg hN
theorem rS_i {x : Int32} {R : Int32 × Wd} (hr : ret = some .int) (hdg : decode cc pc = .ok (.ireturn, 1)) (h : (x, w) = R) (hN : N (some (.int R.1)) R.2) : RT Γ l d y cc nL ret N X pc [.int x] loc w := by subst h; exact r_ireturn hr hdg hN
theorem rO_i {x : Int32} {R : Int32 × Wd} (hr : ret = some .int) (hdg : decode cc pc = .ok (.ireturn, 1)) (h : some (x, w) = some R) (hN : N (some (.int R.1)) R.2) : RT Γ l d y cc nL ret N X pc [.int x] loc w := rS_i hr hdg (Option.some.inj h) hN
theorem rE_i {x : Int32} {R : Option Int32 × Wd} (hr : ret = some .int) (hdg : decode cc pc = .ok (.ireturn, 1)) (h : some (some x, w) = some R) (hN : ∀ r, R.1 = some r → N (some (.int r)) R.2) : RT Γ l d y cc nL ret N X pc [.int x] loc w := by obtain rfl := Option.some.inj h; exact r_ireturn hr hdg (hN _ rfl)
theorem rP_z {x R : Bool} (hr : ret = some .boolean) (hdg : decode cc pc = .ok (.ireturn, 1)) (h : x = R) (hN : N (some (.int (b2i R))) w) : RT Γ l d y cc nL ret N X pc [.int (b2i x)] loc w := by subst h; exact r_zreturn hr (b2i_nar _) hdg hN
theorem rS_z {x : Bool} {R : Bool × Wd} (hr : ret = some .boolean) (hdg : decode cc pc = .ok (.ireturn, 1)) (h : (x, w) = R) (hN : N (some (.int (b2i R.1))) R.2) : RT Γ l d y cc nL ret N X pc [.int (b2i x)] loc w := by subst h; exact r_zreturn hr (b2i_nar _) hdg hN
theorem rO_z {x : Bool} {R : Bool × Wd} (hr : ret = some .boolean) (hdg : decode cc pc = .ok (.ireturn, 1)) (h : some (x, w) = some R) (hN : N (some (.int (b2i R.1))) R.2) : RT Γ l d y cc nL ret N X pc [.int (b2i x)] loc w := rS_z hr hdg (Option.some.inj h) hN
theorem rE_z {x : Bool} {R : Option Bool × Wd} (hr : ret = some .boolean) (hdg : decode cc pc = .ok (.ireturn, 1)) (h : some (some x, w) = some R) (hN : ∀ r, R.1 = some r → N (some (.int (b2i r))) R.2) : RT Γ l d y cc nL ret N X pc [.int (b2i x)] loc w := by obtain rfl := Option.some.inj h; exact r_zreturn hr (b2i_nar _) hdg (hN _ rfl)
theorem rP_l {x R : Int64} (hr : ret = some .long) (hdg : decode cc pc = .ok (.lreturn, 1)) (h : x = R) (hN : N (some (.long R)) w) : RT Γ l d y cc nL ret N X pc [.long x] loc w := by subst h; exact r_lreturn hr hdg hN
theorem rS_l {x : Int64} {R : Int64 × Wd} (hr : ret = some .long) (hdg : decode cc pc = .ok (.lreturn, 1)) (h : (x, w) = R) (hN : N (some (.long R.1)) R.2) : RT Γ l d y cc nL ret N X pc [.long x] loc w := by subst h; exact r_lreturn hr hdg hN
theorem rO_l {x : Int64} {R : Int64 × Wd} (hr : ret = some .long) (hdg : decode cc pc = .ok (.lreturn, 1)) (h : some (x, w) = some R) (hN : N (some (.long R.1)) R.2) : RT Γ l d y cc nL ret N X pc [.long x] loc w := rS_l hr hdg (Option.some.inj h) hN
theorem rE_l {x : Int64} {R : Option Int64 × Wd} (hr : ret = some .long) (hdg : decode cc pc = .ok (.lreturn, 1)) (h : some (some x, w) = some R) (hN : ∀ r, R.1 = some r → N (some (.long r)) R.2) : RT Γ l d y cc nL ret N X pc [.long x] loc w := by obtain rfl := Option.some.inj h; exact r_lreturn hr hdg (hN _ rfl)
theorem rS_v {R : Wd} (hr : ret = none) (hdg : decode cc pc = .ok (.return_, 1)) (h : w = R) (hN : N none R) : RT Γ l d y cc nL ret N X pc [] loc w := by subst h; exact r_vreturn hr hdg hN
theorem rO_v {R : Wd} (hr : ret = none) (hdg : decode cc pc = .ok (.return_, 1)) (h : some w = some R) (hN : N none R) : RT Γ l d y cc nL ret N X pc [] loc w := rS_v hr hdg (Option.some.inj h) hN
theorem rE_v {R : Option Unit × Wd} (hr : ret = none) (hdg : decode cc pc = .ok (.return_, 1)) (h : some (some (), w) = some R) (hN : ∀ r : Unit, R.1 = some r → N none R.2) : RT Γ l d y cc nL ret N X pc [] loc w := by obtain rfl := Option.some.inj h; exact r_vreturn hr hdg (hN _ rfl)
theorem rE_x {α : Type} {k ci : Nat} {C : String} {T : u_T} {n : Nat} {fs : List (Option Nat)} {R : Option α × Wd} (hO : OB Γ k ci C T n fs) (hdg : decode cc pc = .ok (.athrow, 1)) (h : some ((none : Option α), w) = some R) (hX : R.1 = none → X C R.2) : RT Γ l d y cc nL ret N X pc (.ref k :: rest) loc w := by obtain rfl := Option.some.inj h; exact r_athrow hO hdg (hX rfl)
end RTW
/-- rows read and written where they are -/
def rgi (w : Wd) (k n : Nat) (i : Int32) : Int32 := if inb i n = true then gi w k i.toNatClampNeg else 0
def rgl (w : Wd) (k n : Nat) (i : Int32) : Int64 := if inb i n = true then gl w k i.toNatClampNeg else 0
def rsi (w : Wd) (k n : Nat) (i v : Int32) : Wd := if inb i n = true then si w k i.toNatClampNeg v else w
def rsl (w : Wd) (k n : Nat) (i : Int32) (v : Int64) : Wd := if inb i n = true then sl w k i.toNatClampNeg v else w
theorem inb_of {i a : Int32} {n : Nat} (ha : Int32.ofNat n = a) (hn : n < 2147483648) (h1 : ¬ i < 0) (h2 : ¬ a ≤ i) : inb i n = true := by
  unfold inb
  have h3 : a.toInt = (n : Int) := by rw [← ha]; exact Int32.toInt_ofNat_of_lt hn
  have h4 : i.toInt < a.toInt := by
    have := mt Int32.le_iff_toInt_le.mpr h2
    omega
  have h5 : 0 ≤ i.toInt := by
    have := mt Int32.lt_iff_toInt_lt.mpr h1
    simp at this
    exact this
  have h6 : i.toNatClampNeg = i.toInt.toNat := rfl
  simp only [Bool.and_eq_true, Bool.not_eq_true', decide_eq_false_iff_not, Nat.ble_eq]
  exact ⟨h1, by omega⟩
theorem inb_no {i a : Int32} {n : Nat} (ha : Int32.ofNat n = a) (hn : n < 2147483648) (h : i < 0 ∨ a ≤ i) : ¬ inb i n = true := by
  intro q
  have hv := inb_in q
  unfold inb at q
  simp only [Bool.and_eq_true, Bool.not_eq_true', decide_eq_false_iff_not, Nat.ble_eq] at q
  have h3 : a.toInt = (n : Int) := by rw [← ha]; exact Int32.toInt_ofNat_of_lt hn
  rcases h with h | h
  · exact q.1 h
  · have h4 := Int32.le_iff_toInt_le.mp h
    have h6 : i.toNatClampNeg = i.toInt.toNat := rfl
    omega
