/-! TOKENS' MAKER: the gap closed -/
theorem code_w (c : Int32) (w : Wd) : fX9_code c w = fX9_code c w00 := rfl
def tkg : Nat → Int32 → Int64 → Int32 → Option (List (Int32 × Int64))
  | 0 => fun _ _ _ => none
  | n + 1 => fun a1 a2 a4 => if 154 ≤ a4 then some [] else if inb a4 154 = true then (if wch1 a4 = 32 then (tkg n (a1 + 1) 0 (a4 + 1)).map (fun L => (a1, a2) :: L) else tkg n a1 (a2 * 37 + (fX9_code (wch1 a4) w00).toInt64) (a4 + 1)) else none
theorem tkl_g : ∀ (n : Nat) (a1 : Int32) (a2 : Int64) (a4 : Int32) (w : Wd), tkl n a1 a2 a4 w = (tkg n a1 a2 a4).map (fun L => L.foldl (fun w p => rsl w 11 33 p.1 p.2) w) := by
  intro n
  induction n with
  | zero => intro a1 a2 a4 w; rfl
  | succ n ih =>
    intro a1 a2 a4 w
    show (if 154 ≤ a4 then some w else if inb a4 154 = true then (if wch1 a4 = 32 then tkl n (a1 + 1) 0 (a4 + 1) (rsl w 11 33 a1 a2) else tkl n a1 (a2 * 37 + (fX9_code (wch1 a4) w).toInt64) (a4 + 1) w) else none) = ((if 154 ≤ a4 then some [] else if inb a4 154 = true then (if wch1 a4 = 32 then (tkg n (a1 + 1) 0 (a4 + 1)).map (fun L => (a1, a2) :: L) else tkg n a1 (a2 * 37 + (fX9_code (wch1 a4) w00).toInt64) (a4 + 1)) else none) : Option (List (Int32 × Int64))).map (fun L => L.foldl (fun w p => rsl w 11 33 p.1 p.2) w)
    by_cases h1 : 154 ≤ a4
    · rw [if_pos h1, if_pos h1]; rfl
    · rw [if_neg h1, if_neg h1]
      by_cases h2 : inb a4 154 = true
      · rw [if_pos h2, if_pos h2]
        by_cases h3 : wch1 a4 = 32
        · rw [if_pos h3, if_pos h3, ih, Option.map_map]
          rfl
        · rw [if_neg h3, if_neg h3, code_w, ih]
      · rw [if_neg h2, if_neg h2]; rfl
def tkL : List (Int32 × Int64) := [(4, 4011517), (5, 7367), (6, 21400), (7, 24100099350), (8, 6200339320), (9, 2810619), (10, 57947148581973), (11, 41299405), (12, 22543520), (13, 1361124262), (14, 375861), (15, 339), (16, 1024211), (17, 270401), (18, 8787), (19, 163), (20, 989988), (21, 40094248), (22, 43523697), (23, 1038484), (24, 11312755), (25, 1891), (26, 573), (27, 474278), (28, 10261010), (29, 19741), (30, 5831), (31, 18356), (32, 30911189)]
theorem tkg_ok : tkg 200 4 0 0 = some tkL := by decide +kernel
theorem rsl_in {w : Wd} {i : Int32} {v : Int64} (h : inb i 33 = true) : rsl w 11 33 i v = sl w 11 i.toNatClampNeg v := by
  unfold rsl
  rw [if_pos h]
theorem tkl_ok (w : Wd) : tkl 200 4 0 0 w = some (tkw w) := by
  rw [tkl_g, tkg_ok]
  show some (tkL.foldl (fun w p => rsl w 11 33 p.1 p.2) w) = some (tkw w)
  congr 1
theorem tki_ok {q : Gq} {F : Nat → Prop} {l : Launch} {nz : Bool} (hE : ∀ (U : State) (H : Heap), q.2.2.2 U H → EB F q.2.2.1 nz U H) : TKI q F l := by
  intro ad0 w
  show RC (gbA q F) ad0 5 13 tA (tkw w) l 10 8 57383 yX9_init cX9_init 5 13 tA 8 57383 75 [] [(0, .ref 4)] w
  refine c_iconst (pc := 75) dX9_init_75 ki_4 ?_
  refine c_istore_n (pc := 76) (loc' := [(1, .int 4), (0, .ref 4)]) dX9_init_76 rfl (Nat.le_of_ble_eq_true rfl) rfl ?_
  refine c_lconst (pc := 77) dX9_init_77 kl_0 ?_
  refine c_lstore_n (pc := 78) (loc' := [(2, .long 0), (1, .int 4), (0, .ref 4)]) dX9_init_78 rfl (Nat.le_of_ble_eq_true rfl) rfl ?_
  refine c_iconst (pc := 79) dX9_init_79 ki_0 ?_
  refine c_istore (pc := 80) (loc' := [(4, .int 0), (2, .long 0), (1, .int 4), (0, .ref 4)]) dX9_init_80 (Nat.le_of_ble_eq_true rfl) rfl ?_
  refine c_drop (loc' := [(0, .ref 4), (1, .int 4), (2, .long 0), (4, .int 0)]) [3, 2, 1, 0] rfl ?_
  exact tk_loop hE 200 4 0 0 w (tkl_ok w)
