/-! NODES BY KINDS -/
section NK
variable {fM fA : Wd} {lu : Nat → Nat} {cur lev k n f ac b b' : Nat} {g : Wd}
theorem cdm0_1 (h : gi fM 7 n = 1) : CDM fM lu lev (k + 1) 0 n f ac b b' g = (opW g b 1 (gi fM 12 n) 0 0 ∧ b' = b + 1) := by
  rw [CDM]
  dsimp only
  rw [if_pos rfl, if_pos h]
theorem cdm0_2 (h : gi fM 7 n = 2) : CDM fM lu lev (k + 1) 0 n f ac b b' g = (opW g b 1 (-1) (gi fM 8 n) 0 ∧ b' = b + 1) := by
  rw [CDM]
  dsimp only
  rw [if_pos rfl, if_neg (by rw [h]; decide), if_pos h]
theorem cdm0_9 (h : gi fM 7 n = 9) : CDM fM lu lev (k + 1) 0 n f ac b b' g = (CDM fM lu lev k 0 (nd fM 8 n) 0 0 b b' g) := by
  rw [CDM]
  dsimp only
  rw [if_pos rfl, if_neg (by rw [h]; decide), if_neg (by rw [h]; decide), if_pos h]
theorem cdm0_3 (h : gi fM 7 n = 3) : CDM fM lu lev (k + 1) 0 n f ac b b' g = (cdY fM lev (lu (nd fM 12 n)) b b' g) := by
  rw [CDM]
  dsimp only
  rw [if_pos rfl, if_neg (by rw [h]; decide), if_neg (by rw [h]; decide), if_neg (by rw [h]; decide), if_pos h]
theorem cdm0_8 (h : gi fM 7 n = 8) : CDM fM lu lev (k + 1) 0 n f ac b b' g = (∃ b1 b2, CDM fM lu lev k 0 (nd fM 8 n) 0 0 b b1 g ∧ opW g b1 11 (Int32.ofNat (b2 + 1)) 0 0 ∧ CDM fM lu lev k 0 (nd fM 9 n) 0 0 (b1 + 1) b2 g ∧ opW g b2 10 (Int32.ofNat b') 0 0 ∧ CDM fM lu lev k 0 (nd fM 10 n) 0 0 (b2 + 1) b' g) := by
  rw [CDM]
  dsimp only
  rw [if_pos rfl, if_neg (by rw [h]; decide), if_neg (by rw [h]; decide), if_neg (by rw [h]; decide), if_neg (by rw [h]; decide), if_neg (by rw [h]; decide), if_neg (by rw [h]; decide), if_pos h]
theorem cdm0_7 (h : gi fM 7 n = 7) : CDM fM lu lev (k + 1) 0 n f ac b b' g = ((gi fM 9 n = 43 ∧ CDM fM lu lev k 0 (nd fM 8 n) 0 0 b b' g) ∨ (gi fM 9 n ≠ 43 ∧ ∃ b1, CDM fM lu lev k 0 (nd fM 8 n) 0 0 b b1 g ∧ opW g b1 9 (gi fM 9 n) 0 0 ∧ b' = b1 + 1)) := by
  rw [CDM]
  dsimp only
  rw [if_pos rfl, if_neg (by rw [h]; decide), if_neg (by rw [h]; decide), if_neg (by rw [h]; decide), if_neg (by rw [h]; decide), if_neg (by rw [h]; decide), if_neg (by rw [h]; decide), if_neg (by rw [h]; decide), if_pos h]
theorem cdm0_6 (h : gi fM 7 n = 6) : CDM fM lu lev (k + 1) 0 n f ac b b' g = (∃ b1 b2, CDM fM lu lev k 0 (nd fM 8 n) 0 0 b b1 g ∧ CDM fM lu lev k 0 (nd fM 10 n) 0 0 b1 b2 g ∧ opW g b2 8 (gi fM 9 n) 0 0 ∧ b' = b2 + 1) := by
  rw [CDM]
  dsimp only
  rw [if_pos rfl, if_neg (by rw [h]; decide), if_neg (by rw [h]; decide), if_neg (by rw [h]; decide), if_neg (by rw [h]; decide), if_neg (by rw [h]; decide), if_neg (by rw [h]; decide), if_neg (by rw [h]; decide), if_neg (by rw [h]; decide)]
def elCMx (fM : Wd) (lu : Nat → Nat) (lev k n : Nat) (xs : List Nat) (b b' : Nat) (g : Wd) : Prop := ∃ b1, rwM (fun x _ b b' => CDM fM lu lev k 0 x 0 0 b b' g) xs 0 b b1 ∧ cdE fM lev (lu (nd fM 12 n)) n b1 b' g
theorem cdm0_4 {xs : List Nat} (h : gi fM 7 n = 4) (hx : nxL fM k (gi fM 8 n) = xs) : CDM fM lu lev (k + 1) 0 n f ac b b' g = (∃ b1, elCMx fM lu lev k n xs b b1 g ∧ opW g b1 6 0 0 0 ∧ b' = b1 + 1) := by
  rw [CDM]
  dsimp only
  rw [if_pos rfl, if_neg (by rw [h]; decide), if_neg (by rw [h]; decide), if_neg (by rw [h]; decide), if_neg (by rw [h]; decide), if_pos h, hx]
  rfl
theorem cdm0_5 {xs : List Nat} (h : gi fM 7 n = 5) (hx : nxL fM k (gi fM 8 n) = xs) : CDM fM lu lev (k + 1) 0 n f ac b b' g = ((FO fM (lu (nd fM 12 n) - 1) 0 ∧ rwM (fun x _ b b' => CDM fM lu lev k 4 x 0 0 b b' g) xs 0 b b') ∨ (gi fM 19 (lu (nd fM 12 n) - 1) = 3 ∧ ∃ s a0 b1, s < 4300 ∧ a0 + nd fM 9 n ≤ 6000 ∧ rwM (fun x i b b' => CDM fM lu lev k 5 x (nd fM 32 (nd fM 24 (lu (nd fM 12 n) - 1)) + i) (a0 + i) b b' g) xs 0 b b1 ∧ opW g b1 14 (Int32.ofNat s) (if f = 0 then 1 else 0) 0 ∧ b' = b1 + 1 ∧ gi g 49 s = gi fM 24 (lu (nd fM 12 n) - 1) ∧ gi g 50 s = upI fM lev (lu (nd fM 12 n) - 1) ∧ gi g 51 s = Int32.ofNat a0)) := by
  rw [CDM]
  dsimp only
  rw [if_pos rfl, if_neg (by rw [h]; decide), if_neg (by rw [h]; decide), if_neg (by rw [h]; decide), if_neg (by rw [h]; decide), if_neg (by rw [h]; decide), if_pos h, hx]
theorem cdm1_4 {xs : List Nat} (h : gi fM 7 n = 4) (hx : nxL fM k (gi fM 8 n) = xs) : CDM fM lu lev (k + 1) 1 n f ac b b' g = (elCMx fM lu lev k n xs b b' g) := by
  rw [CDM]
  dsimp only
  rw [if_neg (by decide), if_pos rfl, if_pos h, hx]
  rfl
theorem cdm1_3 (h : gi fM 7 n = 3) : CDM fM lu lev (k + 1) 1 n f ac b b' g = (cdL fM lev (lu (nd fM 12 n)) b b' g) := by
  rw [CDM]
  dsimp only
  rw [if_neg (by decide), if_pos rfl, if_neg (by rw [h]; decide)]
theorem cdm2_9 (h : gi fM 7 n = 9) : CDM fM lu lev (k + 1) 2 n f ac b b' g = (CDM fM lu lev k 2 (nd fM 8 n) 0 0 b b' g) := by
  rw [CDM]
  dsimp only
  rw [if_neg (by decide), if_neg (by decide), if_pos rfl, if_pos h]
theorem cdm2_8 (h : gi fM 7 n = 8) : CDM fM lu lev (k + 1) 2 n f ac b b' g = (∃ b1 b2, CDM fM lu lev k 0 (nd fM 8 n) 0 0 b b1 g ∧ opW g b1 11 (Int32.ofNat (b2 + 1)) 0 0 ∧ CDM fM lu lev k 2 (nd fM 9 n) 0 0 (b1 + 1) b2 g ∧ opW g b2 10 (Int32.ofNat b') 0 0 ∧ CDM fM lu lev k 2 (nd fM 10 n) 0 0 (b2 + 1) b' g) := by
  rw [CDM]
  dsimp only
  rw [if_neg (by decide), if_neg (by decide), if_pos rfl, if_neg (by rw [h]; decide), if_pos h]
theorem cdm2_3 (h : gi fM 7 n = 3) : CDM fM lu lev (k + 1) 2 n f ac b b' g = ((gi fM 19 (lu (nd fM 12 n) - 1) = 4 ∧ opW g b 20 (Int32.ofNat (lu (nd fM 12 n) - 1)) (upI fM lev (lu (nd fM 12 n) - 1)) 0 ∧ b' = b + 1) ∨ (FO fM (lu (nd fM 12 n) - 1) 4 ∧ opW g b 22 (upI fM lev (lu (nd fM 12 n) - 1)) (gi fM 26 (lu (nd fM 12 n) - 1)) 0 ∧ b' = b + 1) ∨ (FO fM (lu (nd fM 12 n) - 1) 0 ∧ b' = b)) := by
  rw [CDM]
  dsimp only
  rw [if_neg (by decide), if_neg (by decide), if_pos rfl, if_neg (by rw [h]; decide), if_neg (by rw [h]; decide), if_pos h]
theorem cdm2_4 (h : gi fM 7 n = 4) : CDM fM lu lev (k + 1) 2 n f ac b b' g = (∃ b1, CDM fM lu lev k 0 (nd fM 8 n) 0 0 b b1 g ∧ ((gi fM 19 (lu (nd fM 12 n) - 1) = 5 ∧ opW g b1 21 (upI fM lev (lu (nd fM 12 n) - 1)) (Int32.ofNat (lu (nd fM 12 n) - 1)) 0 ∧ b' = b1 + 1) ∨ (FO fM (lu (nd fM 12 n) - 1) 5 ∧ opW g b1 21 (upI fM lev (lu (nd fM 12 n) - 1)) (-1 - gi fM 26 (lu (nd fM 12 n) - 1)) 0 ∧ b' = b1 + 1) ∨ (FO fM (lu (nd fM 12 n) - 1) 0 ∧ b' = b1))) := by
  rw [CDM]
  dsimp only
  rw [if_neg (by decide), if_neg (by decide), if_pos rfl, if_neg (by rw [h]; decide), if_neg (by rw [h]; decide), if_neg (by rw [h]; decide)]
theorem flx0_7 (h : gi fM 7 n = 7) : FLX fM lu cur (k + 1) 0 n f = (FLX fM lu cur k 0 (nd fM 8 n) 0 ++ misT (TYX fM lu k (nd fM 8 n)) (if gi fM 9 n = 281 then 2 else 1) (nd fM 12 (nd fM 8 n))) := by
  rw [FLX]
  dsimp only
  rw [if_pos rfl, if_neg (by rw [h]; decide), if_neg (by rw [h]; decide), if_neg (by rw [h]; decide), if_neg (by rw [h]; decide), if_neg (by rw [h]; decide), if_neg (by rw [h]; decide), if_pos h]
theorem flx0_6 (h : gi fM 7 n = 6) : FLX fM lu cur (k + 1) 0 n f = (FLX fM lu cur k 0 (nd fM 8 n) 0 ++ (if gi fM 9 n = 61 ∨ gi fM 9 n = 289 then FLX fM lu cur k 0 (nd fM 10 n) 0 ++ (if TYX fM lu k (nd fM 8 n) ≠ 0 then misT (TYX fM lu k (nd fM 10 n)) (TYX fM lu k (nd fM 8 n)) (nd fM 12 (nd fM 10 n)) else []) else misT (TYX fM lu k (nd fM 8 n)) (if gi fM 9 n = 280 ∨ gi fM 9 n = 279 ∨ gi fM 9 n = 278 ∨ gi fM 9 n = 277 then 2 else 1) (nd fM 12 (nd fM 8 n)) ++ (FLX fM lu cur k 0 (nd fM 10 n) 0 ++ misT (TYX fM lu k (nd fM 10 n)) (if gi fM 9 n = 280 ∨ gi fM 9 n = 279 ∨ gi fM 9 n = 278 ∨ gi fM 9 n = 277 then 2 else 1) (nd fM 12 (nd fM 10 n))))) := by
  rw [FLX]
  dsimp only
  rw [if_pos rfl, if_neg (by rw [h]; decide), if_neg (by rw [h]; decide), if_neg (by rw [h]; decide), if_neg (by rw [h]; decide), if_neg (by rw [h]; decide), if_neg (by rw [h]; decide), if_neg (by rw [h]; decide)]
theorem tyx_7 (h : gi fM 7 n = 7) : TYX fM lu (k + 1) n = (if gi fM 9 n = 281 then 2 else 1) := by rw [TYX, if_neg (by rw [h]; decide), if_neg (by rw [h]; decide), if_neg (by rw [h]; decide), if_neg (by rw [h]; decide), if_neg (by rw [h]; decide), if_neg (by rw [h]; decide), if_neg (by rw [h]; decide), if_pos h]
theorem tyx_6 (h : gi fM 7 n = 6) : TYX fM lu (k + 1) n = sgY (gi fM 9 n) := by rw [TYX, if_neg (by rw [h]; decide), if_neg (by rw [h]; decide), if_neg (by rw [h]; decide), if_neg (by rw [h]; decide), if_neg (by rw [h]; decide), if_neg (by rw [h]; decide), if_neg (by rw [h]; decide), if_neg (by rw [h]; decide)]
theorem ndx0_1 (h : gi fM 7 n = 1 ∨ gi fM 7 n = 2) : NDX fM (k + 1) 0 n = (1) := by
  rw [NDX]
  try dsimp only
  rw [if_pos rfl, if_pos h]
theorem ndx0_9 (h : gi fM 7 n = 9) : NDX fM (k + 1) 0 n = (NDX fM k 0 (nd fM 8 n)) := by
  rw [NDX]
  try dsimp only
  rw [if_pos rfl, if_neg (by rw [h]; decide), if_pos h]
theorem ndx0_3 (h : gi fM 7 n = 3) : NDX fM (k + 1) 0 n = (2) := by
  rw [NDX]
  try dsimp only
  rw [if_pos rfl, if_neg (by rw [h]; decide), if_neg (by rw [h]; decide), if_pos h]
theorem ndx0_5 (h : gi fM 7 n = 5) : NDX fM (k + 1) 0 n = (2) := by
  rw [NDX]
  try dsimp only
  rw [if_pos rfl, if_neg (by rw [h]; decide), if_neg (by rw [h]; decide), if_neg (by rw [h]; decide), if_neg (by rw [h]; decide), if_pos h]
theorem ndx0_4 (h : gi fM 7 n = 4) : NDX fM (k + 1) 0 n = ((nxL fM k (gi fM 8 n)).foldl (fun m x => max m (4 + NDX fM k 0 x)) 3) := by
  rw [NDX]
  try dsimp only
  rw [if_pos rfl, if_neg (by rw [h]; decide), if_neg (by rw [h]; decide), if_neg (by rw [h]; decide), if_pos h]
theorem ndx0_8 (h : gi fM 7 n = 8) : NDX fM (k + 1) 0 n = (max (NDX fM k 0 (nd fM 8 n)) (max (NDX fM k 0 (nd fM 9 n)) (NDX fM k 0 (nd fM 10 n)))) := by
  rw [NDX]
  try dsimp only
  rw [if_pos rfl, if_neg (by rw [h]; decide), if_neg (by rw [h]; decide), if_neg (by rw [h]; decide), if_neg (by rw [h]; decide), if_neg (by rw [h]; decide), if_pos h]
theorem ndx0_7 (h : gi fM 7 n = 7) : NDX fM (k + 1) 0 n = (NDX fM k 0 (nd fM 8 n)) := by
  rw [NDX]
  try dsimp only
  rw [if_pos rfl, if_neg (by rw [h]; decide), if_neg (by rw [h]; decide), if_neg (by rw [h]; decide), if_neg (by rw [h]; decide), if_neg (by rw [h]; decide), if_neg (by rw [h]; decide), if_pos h]
theorem ndx0_6 (h : gi fM 7 n = 6) : NDX fM (k + 1) 0 n = (max (NDX fM k 0 (nd fM 8 n)) (1 + NDX fM k 0 (nd fM 10 n))) := by
  rw [NDX]
  try dsimp only
  rw [if_pos rfl, if_neg (by rw [h]; decide), if_neg (by rw [h]; decide), if_neg (by rw [h]; decide), if_neg (by rw [h]; decide), if_neg (by rw [h]; decide), if_neg (by rw [h]; decide), if_neg (by rw [h]; decide)]
theorem ndx1_4 (h : gi fM 7 n = 4) : NDX fM (k + 1) 1 n = ((nxL fM k (gi fM 8 n)).foldl (fun m x => max m (4 + NDX fM k 0 x)) 3) := by
  rw [NDX]
  try dsimp only
  rw [if_neg (by decide), if_pos rfl, if_pos h]
theorem ndx1_3 (h : gi fM 7 n = 3) : NDX fM (k + 1) 1 n = (2) := by
  rw [NDX]
  try dsimp only
  rw [if_neg (by decide), if_pos rfl, if_neg (by rw [h]; decide)]
theorem ndx2_9 (h : gi fM 7 n = 9) : NDX fM (k + 1) 2 n = (NDX fM k 2 (nd fM 8 n)) := by
  rw [NDX]
  try dsimp only
  rw [if_neg (by decide), if_neg (by decide), if_pos h]
theorem ndx2_8 (h : gi fM 7 n = 8) : NDX fM (k + 1) 2 n = (max (NDX fM k 0 (nd fM 8 n)) (max (NDX fM k 2 (nd fM 9 n)) (NDX fM k 2 (nd fM 10 n)))) := by
  rw [NDX]
  try dsimp only
  rw [if_neg (by decide), if_neg (by decide), if_neg (by rw [h]; decide), if_pos h]
theorem ndx2_3 (h : gi fM 7 n = 3) : NDX fM (k + 1) 2 n = (2) := by
  rw [NDX]
  try dsimp only
  rw [if_neg (by decide), if_neg (by decide), if_neg (by rw [h]; decide), if_neg (by rw [h]; decide), if_pos h]
theorem ndx2_4 (h : gi fM 7 n = 4) : NDX fM (k + 1) 2 n = (max 3 (NDX fM k 0 (nd fM 8 n))) := by
  rw [NDX]
  try dsimp only
  rw [if_neg (by decide), if_neg (by decide), if_neg (by rw [h]; decide), if_neg (by rw [h]; decide), if_neg (by rw [h]; decide)]
theorem okn0_9 (h : gi fM 7 n = 9) : OKN fM (k + 1) 0 n = (OKN fM k 0 (nd fM 8 n)) := by
  rw [OKN]
  try dsimp only
  rw [if_pos rfl, if_pos h]
theorem okn0_4 (h : gi fM 7 n = 4) : OKN fM (k + 1) 0 n = (gi fM 9 n = Int32.ofNat (nxL fM k (gi fM 8 n)).length ∧ (nxL fM k (gi fM 8 n)).length ≤ 5000 ∧ ∀ x ∈ nxL fM k (gi fM 8 n), OKN fM k 0 x) := by
  rw [OKN]
  try dsimp only
  rw [if_pos rfl, if_neg (by rw [h]; decide), if_pos h]
theorem okn0_8 (h : gi fM 7 n = 8) : OKN fM (k + 1) 0 n = (OKN fM k 0 (nd fM 8 n) ∧ OKN fM k 0 (nd fM 9 n) ∧ OKN fM k 0 (nd fM 10 n)) := by
  rw [OKN]
  try dsimp only
  rw [if_pos rfl, if_neg (by rw [h]; decide), if_neg (by rw [h]; decide), if_neg (by rw [h]; decide), if_pos h]
theorem okn0_7 (h : gi fM 7 n = 7) : OKN fM (k + 1) 0 n = (OKN fM k 0 (nd fM 8 n)) := by
  rw [OKN]
  try dsimp only
  rw [if_pos rfl, if_neg (by rw [h]; decide), if_neg (by rw [h]; decide), if_neg (by rw [h]; decide), if_neg (by rw [h]; decide), if_pos h]
theorem okn0_6 (h : gi fM 7 n = 6) : OKN fM (k + 1) 0 n = (OKN fM k 0 (nd fM 8 n) ∧ OKN fM k 0 (nd fM 10 n)) := by
  rw [OKN]
  try dsimp only
  rw [if_pos rfl, if_neg (by rw [h]; decide), if_neg (by rw [h]; decide), if_neg (by rw [h]; decide), if_neg (by rw [h]; decide), if_neg (by rw [h]; decide), if_pos h]
theorem okn1_4 (h : gi fM 7 n = 4) : OKN fM (k + 1) 1 n = (gi fM 9 n = Int32.ofNat (nxL fM k (gi fM 8 n)).length ∧ (nxL fM k (gi fM 8 n)).length ≤ 5000 ∧ ∀ x ∈ nxL fM k (gi fM 8 n), OKN fM k 0 x) := by
  rw [OKN]
  try dsimp only
  rw [if_neg (by decide), if_pos rfl, if_pos h]
theorem okn2_9 (h : gi fM 7 n = 9) : OKN fM (k + 1) 2 n = (OKN fM k 2 (nd fM 8 n)) := by
  rw [OKN]
  try dsimp only
  rw [if_neg (by decide), if_neg (by decide), if_neg (by decide), if_pos h]
theorem okn2_8 (h : gi fM 7 n = 8) : OKN fM (k + 1) 2 n = (OKN fM k 0 (nd fM 8 n) ∧ OKN fM k 2 (nd fM 9 n) ∧ OKN fM k 2 (nd fM 10 n)) := by
  rw [OKN]
  try dsimp only
  rw [if_neg (by decide), if_neg (by decide), if_neg (by decide), if_neg (by rw [h]; decide), if_pos h]
theorem okn2_4 (h : gi fM 7 n = 4) : OKN fM (k + 1) 2 n = (OKN fM k 0 (nd fM 8 n)) := by
  rw [OKN]
  try dsimp only
  rw [if_neg (by decide), if_neg (by decide), if_neg (by decide), if_neg (by rw [h]; decide), if_neg (by rw [h]; decide), if_pos h]
theorem okn0_5 (h : gi fM 7 n = 5) : OKN fM (k + 1) 0 n = (gi fM 9 n = Int32.ofNat (nxL fM k (gi fM 8 n)).length ∧ (nxL fM k (gi fM 8 n)).length ≤ 5000 ∧ ∀ x ∈ nxL fM k (gi fM 8 n), OKN fM k 5 x) := by
  rw [OKN]
  try dsimp only
  rw [if_pos rfl, if_neg (by rw [h]; decide), if_neg (by rw [h]; decide), if_pos h]
theorem okn5 : OKN fM (k + 1) 5 n = (∀ f, (gi fM 24 f = 1 → gi fM 28 f ≠ 0 → 20 + NDX fM k 0 n ≤ 502 ∧ OKN fM k 0 n) ∧ (gi fM 24 f = 1 → gi fM 28 f = 0 → OKN fM k 0 n ∧ NDX fM k 0 n ≤ 502 ∧ (gi fM 7 n = 3 ∨ gi fM 7 n = 4 → OKN fM k 1 n) ∧ NDX fM k 1 n ≤ 502) ∧ (gi fM 24 f = 4 → OKN fM k 0 n ∧ NDX fM k 0 n ≤ 502)) := by
  rw [OKN]
  try dsimp only
  rw [if_neg (by decide), if_neg (by decide), if_pos rfl]
/-- kinds that are possible -/
theorem okn0_k (h : OKN fM (k + 1) 0 n) : gi fM 7 n = 1 ∨ gi fM 7 n = 2 ∨ gi fM 7 n = 9 ∨ gi fM 7 n = 3 ∨ gi fM 7 n = 4 ∨ gi fM 7 n = 5 ∨ gi fM 7 n = 8 ∨ gi fM 7 n = 7 ∨ gi fM 7 n = 6 := by
  by_cases h9 : gi fM 7 n = 9
  · exact Or.inr (Or.inr (Or.inl h9))
  by_cases h4 : gi fM 7 n = 4
  · exact Or.inr (Or.inr (Or.inr (Or.inr (Or.inl h4))))
  by_cases h5 : gi fM 7 n = 5
  · exact Or.inr (Or.inr (Or.inr (Or.inr (Or.inr (Or.inl h5)))))
  by_cases h8 : gi fM 7 n = 8
  · exact Or.inr (Or.inr (Or.inr (Or.inr (Or.inr (Or.inr (Or.inl h8))))))
  by_cases h7 : gi fM 7 n = 7
  · exact Or.inr (Or.inr (Or.inr (Or.inr (Or.inr (Or.inr (Or.inr (Or.inl h7)))))))
  by_cases h6 : gi fM 7 n = 6
  · exact Or.inr (Or.inr (Or.inr (Or.inr (Or.inr (Or.inr (Or.inr (Or.inr h6)))))))
  rw [OKN] at h
  try dsimp only at h
  rw [if_pos rfl, if_neg h9, if_neg h4, if_neg h5, if_neg h8, if_neg h7, if_neg h6] at h
  rcases h with h | h | h
  · exact Or.inl h
  · exact Or.inr (Or.inl h)
  · exact Or.inr (Or.inr (Or.inr (Or.inl h)))
theorem okn1_k (h : OKN fM (k + 1) 1 n) : gi fM 7 n = 4 ∨ gi fM 7 n = 3 := by
  by_cases h4 : gi fM 7 n = 4
  · exact Or.inl h4
  rw [OKN] at h
  try dsimp only at h
  rw [if_neg (by decide), if_pos rfl, if_neg h4] at h
  exact Or.inr h
theorem okn2_k (h : OKN fM (k + 1) 2 n) : gi fM 7 n = 9 ∨ gi fM 7 n = 8 ∨ gi fM 7 n = 4 ∨ gi fM 7 n = 3 := by
  by_cases h9 : gi fM 7 n = 9
  · exact Or.inl h9
  by_cases h8 : gi fM 7 n = 8
  · exact Or.inr (Or.inl h8)
  by_cases h4 : gi fM 7 n = 4
  · exact Or.inr (Or.inr (Or.inl h4))
  rw [OKN] at h
  try dsimp only at h
  rw [if_neg (by decide), if_neg (by decide), if_neg (by decide), if_neg h9, if_neg h8, if_neg h4] at h
  exact Or.inr (Or.inr (Or.inr h))
end NK
