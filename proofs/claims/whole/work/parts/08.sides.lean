/-! THE SIDES: the class's cells (GA) and the reference's (GM), by places -/
abbrev Gq : Type := va_G × (Nat → ClassId) × (Nat → Nat) × (State → Heap → Prop)
def dsA : Nat → Ds := fun k => match k with
  | 0 => .inl (0, [some 1, some 2, some 48, none, none, none, none])
  | 2 => .inl (1, [some 3, some 4, some 13, some 26, some 34, some 40, some 42])
  | 3 => .inl (3, [some 4, some 13, some 26, some 34, some 40, none, none, none])
  | 4 => .inl (4, [some 5, some 6, some 7, some 8, some 9, some 10, some 11, some 12, none, none, none])
  | 13 => .inl (5, [some 14, some 15, some 16, some 17, some 18, some 19, some 20, some 21, some 22, some 23, some 24, some 25, none, none, none])
  | 26 => .inl (6, [some 27, some 28, some 29, some 30, some 31, some 32, some 33, some 13, none, none, none])
  | 34 => .inl (7, [some 35, some 36, some 37, some 38, some 39, none])
  | 40 => .inl (8, [some 41, none])
  | 42 => .inl (9, [some 3, some 4, some 13, some 40, some 43])
  | 43 => .inl (10, [some 44, some 45, some 46, some 47, none, none])
  | 48 => .inl (2, [some 49, some 50, some 51, some 52, some 53, some 54, some 55, some 56, none, none, none, none, none, none, none, none, none, none])
  | 1 => .inr (0, 8192)
  | 5 => .inr (0, 8193)
  | 6 => .inr (0, 8193)
  | 7 => .inr (1, 8193)
  | 8 => .inr (0, 8193)
  | 9 => .inr (0, 8193)
  | 10 => .inr (0, 8193)
  | 11 => .inr (1, 33)
  | 12 => .inr (1, 8192)
  | 14 => .inr (0, 4104)
  | 15 => .inr (0, 4104)
  | 16 => .inr (0, 4104)
  | 17 => .inr (0, 4104)
  | 18 => .inr (0, 4104)
  | 19 => .inr (0, 4104)
  | 20 => .inr (0, 4104)
  | 21 => .inr (0, 4104)
  | 22 => .inr (0, 4104)
  | 23 => .inr (0, 4104)
  | 24 => .inr (0, 4104)
  | 25 => .inr (0, 8193)
  | 27 => .inr (0, 8192)
  | 28 => .inr (0, 4104)
  | 29 => .inr (0, 4104)
  | 30 => .inr (0, 4104)
  | 31 => .inr (0, 4096)
  | 32 => .inr (0, 4096)
  | 33 => .inr (0, 4096)
  | 35 => .inr (0, 64)
  | 36 => .inr (0, 64)
  | 37 => .inr (0, 64)
  | 38 => .inr (0, 64)
  | 39 => .inr (0, 64)
  | 41 => .inr (1, 36872)
  | 44 => .inr (0, 512)
  | 45 => .inr (0, 512)
  | 46 => .inr (0, 512)
  | 47 => .inr (0, 512)
  | 49 => .inr (1, 36872)
  | 50 => .inr (1, 109186)
  | 51 => .inr (1, 30622)
  | 52 => .inr (0, 61)
  | 53 => .inr (0, 61)
  | 54 => .inr (0, 61)
  | 55 => .inr (1, 500)
  | 56 => .inr (0, 8)
  | _ => .inr (0, 0)
def clA : List vw_C := [(RX11, TX11, 7), (RX4, TX4, 7), (RX3, TX3, 18), (RX1, TX1, 8), (RX9, TX9, 11), (RX8, TX8, 15), (RX7, TX7, 11), (RX5, TX5, 6), (RX0, TX0, 2), (RX2, TX2, 5), (RX10, TX10, 6)]
def GA (q : Gq) : Gm := (q.1, q.2.1, q.2.2.1, 57, dsA, clA, [.int, .long], q.2.2.2)
theorem oA0 {q : Gq} : OB (GA q) 0 0 RX11 TX11 7 [some 1, some 2, some 48, none, none, none, none] := ⟨Nat.le_of_ble_eq_true rfl, rfl, rfl, rfl⟩
theorem oA2 {q : Gq} : OB (GA q) 2 1 RX4 TX4 7 [some 3, some 4, some 13, some 26, some 34, some 40, some 42] := ⟨Nat.le_of_ble_eq_true rfl, rfl, rfl, rfl⟩
theorem oA3 {q : Gq} : OB (GA q) 3 3 RX1 TX1 8 [some 4, some 13, some 26, some 34, some 40, none, none, none] := ⟨Nat.le_of_ble_eq_true rfl, rfl, rfl, rfl⟩
theorem oA4 {q : Gq} : OB (GA q) 4 4 RX9 TX9 11 [some 5, some 6, some 7, some 8, some 9, some 10, some 11, some 12, none, none, none] := ⟨Nat.le_of_ble_eq_true rfl, rfl, rfl, rfl⟩
theorem oA13 {q : Gq} : OB (GA q) 13 5 RX8 TX8 15 [some 14, some 15, some 16, some 17, some 18, some 19, some 20, some 21, some 22, some 23, some 24, some 25, none, none, none] := ⟨Nat.le_of_ble_eq_true rfl, rfl, rfl, rfl⟩
theorem oA26 {q : Gq} : OB (GA q) 26 6 RX7 TX7 11 [some 27, some 28, some 29, some 30, some 31, some 32, some 33, some 13, none, none, none] := ⟨Nat.le_of_ble_eq_true rfl, rfl, rfl, rfl⟩
theorem oA34 {q : Gq} : OB (GA q) 34 7 RX5 TX5 6 [some 35, some 36, some 37, some 38, some 39, none] := ⟨Nat.le_of_ble_eq_true rfl, rfl, rfl, rfl⟩
theorem oA40 {q : Gq} : OB (GA q) 40 8 RX0 TX0 2 [some 41, none] := ⟨Nat.le_of_ble_eq_true rfl, rfl, rfl, rfl⟩
theorem oA42 {q : Gq} : OB (GA q) 42 9 RX2 TX2 5 [some 3, some 4, some 13, some 40, some 43] := ⟨Nat.le_of_ble_eq_true rfl, rfl, rfl, rfl⟩
theorem oA43 {q : Gq} : OB (GA q) 43 10 RX10 TX10 6 [some 44, some 45, some 46, some 47, none, none] := ⟨Nat.le_of_ble_eq_true rfl, rfl, rfl, rfl⟩
theorem oA48 {q : Gq} : OB (GA q) 48 2 RX3 TX3 18 [some 49, some 50, some 51, some 52, some 53, some 54, some 55, some 56, none, none, none, none, none, none, none, none, none, none] := ⟨Nat.le_of_ble_eq_true rfl, rfl, rfl, rfl⟩
/-- AlgolMill.text -/
theorem aA1 {q : Gq} : AR (GA q) 1 0 8192 .int := ⟨Nat.le_of_ble_eq_true rfl, rfl, rfl⟩
/-- AlgolMill$Tokens.kinds -/
theorem aA5 {q : Gq} : AR (GA q) 5 0 8193 .int := ⟨Nat.le_of_ble_eq_true rfl, rfl, rfl⟩
/-- AlgolMill$Tokens.wheres -/
theorem aA6 {q : Gq} : AR (GA q) 6 0 8193 .int := ⟨Nat.le_of_ble_eq_true rfl, rfl, rfl⟩
/-- AlgolMill$Tokens.values -/
theorem aA7 {q : Gq} : AR (GA q) 7 1 8193 .long := ⟨Nat.le_of_ble_eq_true rfl, rfl, rfl⟩
/-- AlgolMill$Tokens.forms -/
theorem aA8 {q : Gq} : AR (GA q) 8 0 8193 .int := ⟨Nat.le_of_ble_eq_true rfl, rfl, rfl⟩
/-- AlgolMill$Tokens.aims -/
theorem aA9 {q : Gq} : AR (GA q) 9 0 8193 .int := ⟨Nat.le_of_ble_eq_true rfl, rfl, rfl⟩
/-- AlgolMill$Tokens.ends -/
theorem aA10 {q : Gq} : AR (GA q) 10 0 8193 .int := ⟨Nat.le_of_ble_eq_true rfl, rfl, rfl⟩
/-- AlgolMill$Tokens.words -/
theorem aA11 {q : Gq} : AR (GA q) 11 1 33 .long := ⟨Nat.le_of_ble_eq_true rfl, rfl, rfl⟩
/-- AlgolMill$Tokens.names -/
theorem aA12 {q : Gq} : AR (GA q) 12 1 8192 .long := ⟨Nat.le_of_ble_eq_true rfl, rfl, rfl⟩
/-- AlgolMill$Symbols.sorts -/
theorem aA14 {q : Gq} : AR (GA q) 14 0 4104 .int := ⟨Nat.le_of_ble_eq_true rfl, rfl, rfl⟩
/-- AlgolMill$Symbols.types -/
theorem aA15 {q : Gq} : AR (GA q) 15 0 4104 .int := ⟨Nat.le_of_ble_eq_true rfl, rfl, rfl⟩
/-- AlgolMill$Symbols.hows -/
theorem aA16 {q : Gq} : AR (GA q) 16 0 4104 .int := ⟨Nat.le_of_ble_eq_true rfl, rfl, rfl⟩
/-- AlgolMill$Symbols.levels -/
theorem aA17 {q : Gq} : AR (GA q) 17 0 4104 .int := ⟨Nat.le_of_ble_eq_true rfl, rfl, rfl⟩
/-- AlgolMill$Symbols.slots -/
theorem aA18 {q : Gq} : AR (GA q) 18 0 4104 .int := ⟨Nat.le_of_ble_eq_true rfl, rfl, rfl⟩
/-- AlgolMill$Symbols.sizes -/
theorem aA19 {q : Gq} : AR (GA q) 19 0 4104 .int := ⟨Nat.le_of_ble_eq_true rfl, rfl, rfl⟩
/-- AlgolMill$Symbols.firsts -/
theorem aA20 {q : Gq} : AR (GA q) 20 0 4104 .int := ⟨Nat.le_of_ble_eq_true rfl, rfl, rfl⟩
/-- AlgolMill$Symbols.tokens -/
theorem aA21 {q : Gq} : AR (GA q) 21 0 4104 .int := ⟨Nat.le_of_ble_eq_true rfl, rfl, rfl⟩
/-- AlgolMill$Symbols.names -/
theorem aA22 {q : Gq} : AR (GA q) 22 0 4104 .int := ⟨Nat.le_of_ble_eq_true rfl, rfl, rfl⟩
/-- AlgolMill$Symbols.specs -/
theorem aA23 {q : Gq} : AR (GA q) 23 0 4104 .int := ⟨Nat.le_of_ble_eq_true rfl, rfl, rfl⟩
/-- AlgolMill$Symbols.bodies -/
theorem aA24 {q : Gq} : AR (GA q) 24 0 4104 .int := ⟨Nat.le_of_ble_eq_true rfl, rfl, rfl⟩
/-- AlgolMill$Symbols.byToken -/
theorem aA25 {q : Gq} : AR (GA q) 25 0 8193 .int := ⟨Nat.le_of_ble_eq_true rfl, rfl, rfl⟩
/-- AlgolMill$Scopes.heads -/
theorem aA27 {q : Gq} : AR (GA q) 27 0 8192 .int := ⟨Nat.le_of_ble_eq_true rfl, rfl, rfl⟩
/-- AlgolMill$Scopes.shadowed -/
theorem aA28 {q : Gq} : AR (GA q) 28 0 4104 .int := ⟨Nat.le_of_ble_eq_true rfl, rfl, rfl⟩
/-- AlgolMill$Scopes.scopeOf -/
theorem aA29 {q : Gq} : AR (GA q) 29 0 4104 .int := ⟨Nat.le_of_ble_eq_true rfl, rfl, rfl⟩
/-- AlgolMill$Scopes.nextOf -/
theorem aA30 {q : Gq} : AR (GA q) 30 0 4104 .int := ⟨Nat.le_of_ble_eq_true rfl, rfl, rfl⟩
/-- AlgolMill$Scopes.firstOf -/
theorem aA31 {q : Gq} : AR (GA q) 31 0 4096 .int := ⟨Nat.le_of_ble_eq_true rfl, rfl, rfl⟩
/-- AlgolMill$Scopes.parents -/
theorem aA32 {q : Gq} : AR (GA q) 32 0 4096 .int := ⟨Nat.le_of_ble_eq_true rfl, rfl, rfl⟩
/-- AlgolMill$Scopes.words -/
theorem aA33 {q : Gq} : AR (GA q) 33 0 4096 .int := ⟨Nat.le_of_ble_eq_true rfl, rfl, rfl⟩
/-- AlgolMill$Nest.procedures -/
theorem aA35 {q : Gq} : AR (GA q) 35 0 64 .int := ⟨Nat.le_of_ble_eq_true rfl, rfl, rfl⟩
/-- AlgolMill$Nest.slots -/
theorem aA36 {q : Gq} : AR (GA q) 36 0 64 .int := ⟨Nat.le_of_ble_eq_true rfl, rfl, rfl⟩
/-- AlgolMill$Nest.sizes -/
theorem aA37 {q : Gq} : AR (GA q) 37 0 64 .int := ⟨Nat.le_of_ble_eq_true rfl, rfl, rfl⟩
/-- AlgolMill$Nest.names -/
theorem aA38 {q : Gq} : AR (GA q) 38 0 64 .int := ⟨Nat.le_of_ble_eq_true rfl, rfl, rfl⟩
/-- AlgolMill$Nest.keeps -/
theorem aA39 {q : Gq} : AR (GA q) 39 0 64 .int := ⟨Nat.le_of_ble_eq_true rfl, rfl, rfl⟩
/-- AlgolMill$Code.words -/
theorem aA41 {q : Gq} : AR (GA q) 41 1 36872 .long := ⟨Nat.le_of_ble_eq_true rfl, rfl, rfl⟩
/-- AlgolMill$Work.signs -/
theorem aA44 {q : Gq} : AR (GA q) 44 0 512 .int := ⟨Nat.le_of_ble_eq_true rfl, rfl, rfl⟩
/-- AlgolMill$Work.signTokens -/
theorem aA45 {q : Gq} : AR (GA q) 45 0 512 .int := ⟨Nat.le_of_ble_eq_true rfl, rfl, rfl⟩
/-- AlgolMill$Work.types -/
theorem aA46 {q : Gq} : AR (GA q) 46 0 512 .int := ⟨Nat.le_of_ble_eq_true rfl, rfl, rfl⟩
/-- AlgolMill$Work.starts -/
theorem aA47 {q : Gq} : AR (GA q) 47 0 512 .int := ⟨Nat.le_of_ble_eq_true rfl, rfl, rfl⟩
/-- AlgolMill$Machine.code -/
theorem aA49 {q : Gq} : AR (GA q) 49 1 36872 .long := ⟨Nat.le_of_ble_eq_true rfl, rfl, rfl⟩
/-- AlgolMill$Machine.store -/
theorem aA50 {q : Gq} : AR (GA q) 50 1 109186 .long := ⟨Nat.le_of_ble_eq_true rfl, rfl, rfl⟩
/-- AlgolMill$Machine.stack -/
theorem aA51 {q : Gq} : AR (GA q) 51 1 30622 .long := ⟨Nat.le_of_ble_eq_true rfl, rfl, rfl⟩
/-- AlgolMill$Machine.modes -/
theorem aA52 {q : Gq} : AR (GA q) 52 0 61 .int := ⟨Nat.le_of_ble_eq_true rfl, rfl, rfl⟩
/-- AlgolMill$Machine.backs -/
theorem aA53 {q : Gq} : AR (GA q) 53 0 61 .int := ⟨Nat.le_of_ble_eq_true rfl, rfl, rfl⟩
/-- AlgolMill$Machine.callers -/
theorem aA54 {q : Gq} : AR (GA q) 54 0 61 .int := ⟨Nat.le_of_ble_eq_true rfl, rfl, rfl⟩
/-- AlgolMill$Machine.kept -/
theorem aA55 {q : Gq} : AR (GA q) 55 1 500 .long := ⟨Nat.le_of_ble_eq_true rfl, rfl, rfl⟩
/-- AlgolMill$Machine.tallies -/
theorem aA56 {q : Gq} : AR (GA q) 56 0 8 .int := ⟨Nat.le_of_ble_eq_true rfl, rfl, rfl⟩
def RAE : String := "java/lang/ArithmeticException"
def TAE : u_T := fun _ => ("", "", "", false)
def dsM : Nat → Ds := fun k => match k with
  | 0 => .inl (0, [none, some 1, none, some 2, some 3, some 4, none, none, none, none, none, none, none, none, some 5, some 6, some 7, some 8, some 9, some 10, some 11, some 12, some 13, none, some 14, some 15, some 16, some 17, none, none, none, some 18, some 19, some 20, some 21, some 22, some 23, some 24, some 25, some 26, some 27, some 28, none, some 29, some 30, some 31, some 32, some 33, some 34, some 35, some 36, some 37, some 38, none, none, some 39, some 40, some 41, some 42, none, some 43, some 44, some 45, some 46, none, none, none, some 47, some 48, none, some 49, some 50, some 51, none, some 52, some 53, some 54, none, some 55, some 56, some 57, some 58, none, some 59, none, none, none, none, some 60, some 61, some 62, some 63, some 64, some 65, some 66, some 67, some 68, some 69, some 70, some 71, some 72, some 73, some 74, some 75, some 76, some 77, some 78, some 79, some 80, some 81, some 82, none, some 83, some 84, some 85, some 86, some 87, some 88, some 89, some 90, some 91, some 92, some 93, some 94, some 95, some 96, some 97, none, none, none, none, none, none, none, none, none, none, none, none, none, none, some 98])
  | 5 => .inl (1, [])
  | 1 => .inr (2, 8192)
  | 2 => .inr (0, 8194)
  | 3 => .inr (0, 8194)
  | 4 => .inr (1, 8194)
  | 6 => .inr (4, 29)
  | 7 => .inr (0, 24000)
  | 8 => .inr (0, 24000)
  | 9 => .inr (0, 24000)
  | 10 => .inr (0, 24000)
  | 11 => .inr (0, 24000)
  | 12 => .inr (0, 24000)
  | 13 => .inr (0, 24000)
  | 14 => .inr (0, 9000)
  | 15 => .inr (0, 9000)
  | 16 => .inr (0, 9000)
  | 17 => .inr (0, 9000)
  | 18 => .inr (1, 5000)
  | 19 => .inr (0, 5000)
  | 20 => .inr (0, 5000)
  | 21 => .inr (0, 5000)
  | 22 => .inr (0, 5000)
  | 23 => .inr (0, 5000)
  | 24 => .inr (0, 5000)
  | 25 => .inr (0, 5000)
  | 26 => .inr (0, 5000)
  | 27 => .inr (3, 5000)
  | 28 => .inr (3, 5000)
  | 29 => .inr (0, 1200)
  | 30 => .inr (0, 1200)
  | 31 => .inr (0, 1200)
  | 32 => .inr (0, 1200)
  | 33 => .inr (0, 1200)
  | 34 => .inr (0, 1200)
  | 35 => .inr (0, 1200)
  | 36 => .inr (0, 1200)
  | 37 => .inr (0, 1200)
  | 38 => .inr (0, 1200)
  | 39 => .inr (0, 9000)
  | 40 => .inr (0, 9000)
  | 41 => .inr (0, 9000)
  | 42 => .inr (0, 9000)
  | 43 => .inr (0, 5000)
  | 44 => .inr (0, 24000)
  | 45 => .inr (0, 24000)
  | 46 => .inr (0, 240000)
  | 47 => .inr (0, 6000)
  | 48 => .inr (0, 6000)
  | 49 => .inr (0, 4300)
  | 50 => .inr (0, 4300)
  | 51 => .inr (0, 4300)
  | 52 => .inr (0, 6000)
  | 53 => .inr (0, 6000)
  | 54 => .inr (0, 6000)
  | 55 => .inr (0, 5000)
  | 56 => .inr (0, 5000)
  | 57 => .inr (0, 5000)
  | 58 => .inr (0, 24000)
  | 59 => .inr (0, 24000)
  | 60 => .inr (0, 240000)
  | 61 => .inr (0, 6000)
  | 62 => .inr (0, 6000)
  | 63 => .inr (0, 4300)
  | 64 => .inr (0, 4300)
  | 65 => .inr (0, 4300)
  | 66 => .inr (0, 6000)
  | 67 => .inr (0, 6000)
  | 68 => .inr (0, 6000)
  | 69 => .inr (1, 8194)
  | 70 => .inr (0, 1200)
  | 71 => .inr (0, 1200)
  | 72 => .inr (0, 1200)
  | 73 => .inr (0, 1200)
  | 74 => .inr (0, 5000)
  | 75 => .inr (0, 5000)
  | 76 => .inr (0, 5000)
  | 77 => .inr (0, 5000)
  | 78 => .inr (0, 5000)
  | 79 => .inr (0, 24000)
  | 80 => .inr (0, 9000)
  | 81 => .inr (0, 9000)
  | 82 => .inr (0, 5000)
  | 83 => .inr (1, 200000)
  | 84 => .inr (1, 2000)
  | 85 => .inr (1, 200000)
  | 86 => .inr (1, 500)
  | 87 => .inr (0, 64)
  | 88 => .inr (0, 64)
  | 89 => .inr (0, 64)
  | 90 => .inr (0, 64)
  | 91 => .inr (0, 64)
  | 92 => .inr (0, 1000)
  | 93 => .inr (0, 1000)
  | 94 => .inr (0, 1000)
  | 95 => .inr (0, 1000)
  | 96 => .inr (0, 1000)
  | 97 => .inr (0, 1000)
  | 98 => .inr (0, 64)
  | _ => .inr (0, 0)
def clM : List vw_C := [(RX12, TX12, 142), (RAE, TAE, 0)]
def GM (q : Gq) : Gm := (q.1, q.2.1, q.2.2.1, 99, dsM, clM, [.int, .long, .byte, .boolean, .object "java/lang/String"], q.2.2.2)
theorem oM0 {q : Gq} : OB (GM q) 0 0 RX12 TX12 142 [none, some 1, none, some 2, some 3, some 4, none, none, none, none, none, none, none, none, some 5, some 6, some 7, some 8, some 9, some 10, some 11, some 12, some 13, none, some 14, some 15, some 16, some 17, none, none, none, some 18, some 19, some 20, some 21, some 22, some 23, some 24, some 25, some 26, some 27, some 28, none, some 29, some 30, some 31, some 32, some 33, some 34, some 35, some 36, some 37, some 38, none, none, some 39, some 40, some 41, some 42, none, some 43, some 44, some 45, some 46, none, none, none, some 47, some 48, none, some 49, some 50, some 51, none, some 52, some 53, some 54, none, some 55, some 56, some 57, some 58, none, some 59, none, none, none, none, some 60, some 61, some 62, some 63, some 64, some 65, some 66, some 67, some 68, some 69, some 70, some 71, some 72, some 73, some 74, some 75, some 76, some 77, some 78, some 79, some 80, some 81, some 82, none, some 83, some 84, some 85, some 86, some 87, some 88, some 89, some 90, some 91, some 92, some 93, some 94, some 95, some 96, some 97, none, none, none, none, none, none, none, none, none, none, none, none, none, none, some 98] := ⟨Nat.le_of_ble_eq_true rfl, rfl, rfl, rfl⟩
theorem oM5 {q : Gq} : OB (GM q) 5 1 RAE TAE 0 [] := ⟨Nat.le_of_ble_eq_true rfl, rfl, rfl, rfl⟩
/-- text -/
theorem aM1 {q : Gq} : AR (GM q) 1 2 8192 .byte := ⟨Nat.le_of_ble_eq_true rfl, rfl, rfl⟩
/-- tokKind -/
theorem aM2 {q : Gq} : AR (GM q) 2 0 8194 .int := ⟨Nat.le_of_ble_eq_true rfl, rfl, rfl⟩
/-- tokAt -/
theorem aM3 {q : Gq} : AR (GM q) 3 0 8194 .int := ⟨Nat.le_of_ble_eq_true rfl, rfl, rfl⟩
/-- tokValue -/
theorem aM4 {q : Gq} : AR (GM q) 4 1 8194 .long := ⟨Nat.le_of_ble_eq_true rfl, rfl, rfl⟩
/-- WORDS -/
theorem aM6 {q : Gq} : AR (GM q) 6 4 29 (.object "java/lang/String") := ⟨Nat.le_of_ble_eq_true rfl, rfl, rfl⟩
/-- sort -/
theorem aM7 {q : Gq} : AR (GM q) 7 0 24000 .int := ⟨Nat.le_of_ble_eq_true rfl, rfl, rfl⟩
/-- a -/
theorem aM8 {q : Gq} : AR (GM q) 8 0 24000 .int := ⟨Nat.le_of_ble_eq_true rfl, rfl, rfl⟩
/-- b -/
theorem aM9 {q : Gq} : AR (GM q) 9 0 24000 .int := ⟨Nat.le_of_ble_eq_true rfl, rfl, rfl⟩
/-- c -/
theorem aM10 {q : Gq} : AR (GM q) 10 0 24000 .int := ⟨Nat.le_of_ble_eq_true rfl, rfl, rfl⟩
/-- next -/
theorem aM11 {q : Gq} : AR (GM q) 11 0 24000 .int := ⟨Nat.le_of_ble_eq_true rfl, rfl, rfl⟩
/-- tok -/
theorem aM12 {q : Gq} : AR (GM q) 12 0 24000 .int := ⟨Nat.le_of_ble_eq_true rfl, rfl, rfl⟩
/-- scopeOf -/
theorem aM13 {q : Gq} : AR (GM q) 13 0 24000 .int := ⟨Nat.le_of_ble_eq_true rfl, rfl, rfl⟩
/-- scopeUp -/
theorem aM14 {q : Gq} : AR (GM q) 14 0 9000 .int := ⟨Nat.le_of_ble_eq_true rfl, rfl, rfl⟩
/-- scopeProc -/
theorem aM15 {q : Gq} : AR (GM q) 15 0 9000 .int := ⟨Nat.le_of_ble_eq_true rfl, rfl, rfl⟩
/-- scopeFirst -/
theorem aM16 {q : Gq} : AR (GM q) 16 0 9000 .int := ⟨Nat.le_of_ble_eq_true rfl, rfl, rfl⟩
/-- scopeBlock -/
theorem aM17 {q : Gq} : AR (GM q) 17 0 9000 .int := ⟨Nat.le_of_ble_eq_true rfl, rfl, rfl⟩
/-- symName -/
theorem aM18 {q : Gq} : AR (GM q) 18 1 5000 .long := ⟨Nat.le_of_ble_eq_true rfl, rfl, rfl⟩
/-- symKind -/
theorem aM19 {q : Gq} : AR (GM q) 19 0 5000 .int := ⟨Nat.le_of_ble_eq_true rfl, rfl, rfl⟩
/-- symType -/
theorem aM20 {q : Gq} : AR (GM q) 20 0 5000 .int := ⟨Nat.le_of_ble_eq_true rfl, rfl, rfl⟩
/-- symNext -/
theorem aM21 {q : Gq} : AR (GM q) 21 0 5000 .int := ⟨Nat.le_of_ble_eq_true rfl, rfl, rfl⟩
/-- symTok -/
theorem aM22 {q : Gq} : AR (GM q) 22 0 5000 .int := ⟨Nat.le_of_ble_eq_true rfl, rfl, rfl⟩
/-- symProc -/
theorem aM23 {q : Gq} : AR (GM q) 23 0 5000 .int := ⟨Nat.le_of_ble_eq_true rfl, rfl, rfl⟩
/-- symX -/
theorem aM24 {q : Gq} : AR (GM q) 24 0 5000 .int := ⟨Nat.le_of_ble_eq_true rfl, rfl, rfl⟩
/-- symY -/
theorem aM25 {q : Gq} : AR (GM q) 25 0 5000 .int := ⟨Nat.le_of_ble_eq_true rfl, rfl, rfl⟩
/-- symSlot -/
theorem aM26 {q : Gq} : AR (GM q) 26 0 5000 .int := ⟨Nat.le_of_ble_eq_true rfl, rfl, rfl⟩
/-- symOwn -/
theorem aM27 {q : Gq} : AR (GM q) 27 3 5000 .boolean := ⟨Nat.le_of_ble_eq_true rfl, rfl, rfl⟩
/-- symValue -/
theorem aM28 {q : Gq} : AR (GM q) 28 3 5000 .boolean := ⟨Nat.le_of_ble_eq_true rfl, rfl, rfl⟩
/-- pSymbol -/
theorem aM29 {q : Gq} : AR (GM q) 29 0 1200 .int := ⟨Nat.le_of_ble_eq_true rfl, rfl, rfl⟩
/-- pLevel -/
theorem aM30 {q : Gq} : AR (GM q) 30 0 1200 .int := ⟨Nat.le_of_ble_eq_true rfl, rfl, rfl⟩
/-- pFormals -/
theorem aM31 {q : Gq} : AR (GM q) 31 0 1200 .int := ⟨Nat.le_of_ble_eq_true rfl, rfl, rfl⟩
/-- pFirst -/
theorem aM32 {q : Gq} : AR (GM q) 32 0 1200 .int := ⟨Nat.le_of_ble_eq_true rfl, rfl, rfl⟩
/-- pBody -/
theorem aM33 {q : Gq} : AR (GM q) 33 0 1200 .int := ⟨Nat.le_of_ble_eq_true rfl, rfl, rfl⟩
/-- pNames -/
theorem aM34 {q : Gq} : AR (GM q) 34 0 1200 .int := ⟨Nat.le_of_ble_eq_true rfl, rfl, rfl⟩
/-- pSlots -/
theorem aM35 {q : Gq} : AR (GM q) 35 0 1200 .int := ⟨Nat.le_of_ble_eq_true rfl, rfl, rfl⟩
/-- pCode -/
theorem aM36 {q : Gq} : AR (GM q) 36 0 1200 .int := ⟨Nat.le_of_ble_eq_true rfl, rfl, rfl⟩
/-- pUp -/
theorem aM37 {q : Gq} : AR (GM q) 37 0 1200 .int := ⟨Nat.le_of_ble_eq_true rfl, rfl, rfl⟩
/-- pBodyScope -/
theorem aM38 {q : Gq} : AR (GM q) 38 0 1200 .int := ⟨Nat.le_of_ble_eq_true rfl, rfl, rfl⟩
/-- blockFirst -/
theorem aM39 {q : Gq} : AR (GM q) 39 0 9000 .int := ⟨Nat.le_of_ble_eq_true rfl, rfl, rfl⟩
/-- blockArrays -/
theorem aM40 {q : Gq} : AR (GM q) 40 0 9000 .int := ⟨Nat.le_of_ble_eq_true rfl, rfl, rfl⟩
/-- blockSlot -/
theorem aM41 {q : Gq} : AR (GM q) 41 0 9000 .int := ⟨Nat.le_of_ble_eq_true rfl, rfl, rfl⟩
/-- blockVars -/
theorem aM42 {q : Gq} : AR (GM q) 42 0 9000 .int := ⟨Nat.le_of_ble_eq_true rfl, rfl, rfl⟩
/-- labelNext -/
theorem aM43 {q : Gq} : AR (GM q) 43 0 5000 .int := ⟨Nat.le_of_ble_eq_true rfl, rfl, rfl⟩
/-- labelsOf -/
theorem aM44 {q : Gq} : AR (GM q) 44 0 24000 .int := ⟨Nat.le_of_ble_eq_true rfl, rfl, rfl⟩
/-- can -/
theorem aM45 {q : Gq} : AR (GM q) 45 0 24000 .int := ⟨Nat.le_of_ble_eq_true rfl, rfl, rfl⟩
/-- code -/
theorem aM46 {q : Gq} : AR (GM q) 46 0 240000 .int := ⟨Nat.le_of_ble_eq_true rfl, rfl, rfl⟩
/-- thunkCode -/
theorem aM47 {q : Gq} : AR (GM q) 47 0 6000 .int := ⟨Nat.le_of_ble_eq_true rfl, rfl, rfl⟩
/-- thunkKind -/
theorem aM48 {q : Gq} : AR (GM q) 48 0 6000 .int := ⟨Nat.le_of_ble_eq_true rfl, rfl, rfl⟩
/-- siteProc -/
theorem aM49 {q : Gq} : AR (GM q) 49 0 4300 .int := ⟨Nat.le_of_ble_eq_true rfl, rfl, rfl⟩
/-- siteUp -/
theorem aM50 {q : Gq} : AR (GM q) 50 0 4300 .int := ⟨Nat.le_of_ble_eq_true rfl, rfl, rfl⟩
/-- siteFirst -/
theorem aM51 {q : Gq} : AR (GM q) 51 0 4300 .int := ⟨Nat.le_of_ble_eq_true rfl, rfl, rfl⟩
/-- actKind -/
theorem aM52 {q : Gq} : AR (GM q) 52 0 6000 .int := ⟨Nat.le_of_ble_eq_true rfl, rfl, rfl⟩
/-- actA -/
theorem aM53 {q : Gq} : AR (GM q) 53 0 6000 .int := ⟨Nat.le_of_ble_eq_true rfl, rfl, rfl⟩
/-- actB -/
theorem aM54 {q : Gq} : AR (GM q) 54 0 6000 .int := ⟨Nat.le_of_ble_eq_true rfl, rfl, rfl⟩
/-- labelCode -/
theorem aM55 {q : Gq} : AR (GM q) 55 0 5000 .int := ⟨Nat.le_of_ble_eq_true rfl, rfl, rfl⟩
/-- swFirst -/
theorem aM56 {q : Gq} : AR (GM q) 56 0 5000 .int := ⟨Nat.le_of_ble_eq_true rfl, rfl, rfl⟩
/-- swMany -/
theorem aM57 {q : Gq} : AR (GM q) 57 0 5000 .int := ⟨Nat.le_of_ble_eq_true rfl, rfl, rfl⟩
/-- swEntry -/
theorem aM58 {q : Gq} : AR (GM q) 58 0 24000 .int := ⟨Nat.le_of_ble_eq_true rfl, rfl, rfl⟩
/-- spine -/
theorem aM59 {q : Gq} : AR (GM q) 59 0 24000 .int := ⟨Nat.le_of_ble_eq_true rfl, rfl, rfl⟩
/-- run -/
theorem aM60 {q : Gq} : AR (GM q) 60 0 240000 .int := ⟨Nat.le_of_ble_eq_true rfl, rfl, rfl⟩
/-- rThunkCode -/
theorem aM61 {q : Gq} : AR (GM q) 61 0 6000 .int := ⟨Nat.le_of_ble_eq_true rfl, rfl, rfl⟩
/-- rThunkKind -/
theorem aM62 {q : Gq} : AR (GM q) 62 0 6000 .int := ⟨Nat.le_of_ble_eq_true rfl, rfl, rfl⟩
/-- rSiteProc -/
theorem aM63 {q : Gq} : AR (GM q) 63 0 4300 .int := ⟨Nat.le_of_ble_eq_true rfl, rfl, rfl⟩
/-- rSiteUp -/
theorem aM64 {q : Gq} : AR (GM q) 64 0 4300 .int := ⟨Nat.le_of_ble_eq_true rfl, rfl, rfl⟩
/-- rSiteFirst -/
theorem aM65 {q : Gq} : AR (GM q) 65 0 4300 .int := ⟨Nat.le_of_ble_eq_true rfl, rfl, rfl⟩
/-- rActKind -/
theorem aM66 {q : Gq} : AR (GM q) 66 0 6000 .int := ⟨Nat.le_of_ble_eq_true rfl, rfl, rfl⟩
/-- rActA -/
theorem aM67 {q : Gq} : AR (GM q) 67 0 6000 .int := ⟨Nat.le_of_ble_eq_true rfl, rfl, rfl⟩
/-- rActB -/
theorem aM68 {q : Gq} : AR (GM q) 68 0 6000 .int := ⟨Nat.le_of_ble_eq_true rfl, rfl, rfl⟩
/-- literal -/
theorem aM69 {q : Gq} : AR (GM q) 69 1 8194 .long := ⟨Nat.le_of_ble_eq_true rfl, rfl, rfl⟩
/-- rpCode -/
theorem aM70 {q : Gq} : AR (GM q) 70 0 1200 .int := ⟨Nat.le_of_ble_eq_true rfl, rfl, rfl⟩
/-- rpSlots -/
theorem aM71 {q : Gq} : AR (GM q) 71 0 1200 .int := ⟨Nat.le_of_ble_eq_true rfl, rfl, rfl⟩
/-- rpFirst -/
theorem aM72 {q : Gq} : AR (GM q) 72 0 1200 .int := ⟨Nat.le_of_ble_eq_true rfl, rfl, rfl⟩
/-- rpFormals -/
theorem aM73 {q : Gq} : AR (GM q) 73 0 1200 .int := ⟨Nat.le_of_ble_eq_true rfl, rfl, rfl⟩
/-- rSlot -/
theorem aM74 {q : Gq} : AR (GM q) 74 0 5000 .int := ⟨Nat.le_of_ble_eq_true rfl, rfl, rfl⟩
/-- rLabelCode -/
theorem aM75 {q : Gq} : AR (GM q) 75 0 5000 .int := ⟨Nat.le_of_ble_eq_true rfl, rfl, rfl⟩
/-- rLabelBlock -/
theorem aM76 {q : Gq} : AR (GM q) 76 0 5000 .int := ⟨Nat.le_of_ble_eq_true rfl, rfl, rfl⟩
/-- rSwFirst -/
theorem aM77 {q : Gq} : AR (GM q) 77 0 5000 .int := ⟨Nat.le_of_ble_eq_true rfl, rfl, rfl⟩
/-- rSwMany -/
theorem aM78 {q : Gq} : AR (GM q) 78 0 5000 .int := ⟨Nat.le_of_ble_eq_true rfl, rfl, rfl⟩
/-- rSwEntry -/
theorem aM79 {q : Gq} : AR (GM q) 79 0 24000 .int := ⟨Nat.le_of_ble_eq_true rfl, rfl, rfl⟩
/-- rBlockSlot -/
theorem aM80 {q : Gq} : AR (GM q) 80 0 9000 .int := ⟨Nat.le_of_ble_eq_true rfl, rfl, rfl⟩
/-- rBlockVar -/
theorem aM81 {q : Gq} : AR (GM q) 81 0 9000 .int := ⟨Nat.le_of_ble_eq_true rfl, rfl, rfl⟩
/-- rNextVar -/
theorem aM82 {q : Gq} : AR (GM q) 82 0 5000 .int := ⟨Nat.le_of_ble_eq_true rfl, rfl, rfl⟩
/-- mem -/
theorem aM83 {q : Gq} : AR (GM q) 83 1 200000 .long := ⟨Nat.le_of_ble_eq_true rfl, rfl, rfl⟩
/-- heap -/
theorem aM84 {q : Gq} : AR (GM q) 84 1 2000 .long := ⟨Nat.le_of_ble_eq_true rfl, rfl, rfl⟩
/-- st -/
theorem aM85 {q : Gq} : AR (GM q) 85 1 200000 .long := ⟨Nat.le_of_ble_eq_true rfl, rfl, rfl⟩
/-- out -/
theorem aM86 {q : Gq} : AR (GM q) 86 1 500 .long := ⟨Nat.le_of_ble_eq_true rfl, rfl, rfl⟩
/-- actBase -/
theorem aM87 {q : Gq} : AR (GM q) 87 0 64 .int := ⟨Nat.le_of_ble_eq_true rfl, rfl, rfl⟩
/-- actLink -/
theorem aM88 {q : Gq} : AR (GM q) 88 0 64 .int := ⟨Nat.le_of_ble_eq_true rfl, rfl, rfl⟩
/-- actCtl -/
theorem aM89 {q : Gq} : AR (GM q) 89 0 64 .int := ⟨Nat.le_of_ble_eq_true rfl, rfl, rfl⟩
/-- actSp -/
theorem aM90 {q : Gq} : AR (GM q) 90 0 64 .int := ⟨Nat.le_of_ble_eq_true rfl, rfl, rfl⟩
/-- actHeap -/
theorem aM91 {q : Gq} : AR (GM q) 91 0 64 .int := ⟨Nat.le_of_ble_eq_true rfl, rfl, rfl⟩
/-- cKind -/
theorem aM92 {q : Gq} : AR (GM q) 92 0 1000 .int := ⟨Nat.le_of_ble_eq_true rfl, rfl, rfl⟩
/-- cPc -/
theorem aM93 {q : Gq} : AR (GM q) 93 0 1000 .int := ⟨Nat.le_of_ble_eq_true rfl, rfl, rfl⟩
/-- cEnv -/
theorem aM94 {q : Gq} : AR (GM q) 94 0 1000 .int := ⟨Nat.le_of_ble_eq_true rfl, rfl, rfl⟩
/-- cMode -/
theorem aM95 {q : Gq} : AR (GM q) 95 0 1000 .int := ⟨Nat.le_of_ble_eq_true rfl, rfl, rfl⟩
/-- cDepth -/
theorem aM96 {q : Gq} : AR (GM q) 96 0 1000 .int := ⟨Nat.le_of_ble_eq_true rfl, rfl, rfl⟩
/-- cStore -/
theorem aM97 {q : Gq} : AR (GM q) 97 0 1000 .int := ⟨Nat.le_of_ble_eq_true rfl, rfl, rfl⟩
/-- actProc -/
theorem aM98 {q : Gq} : AR (GM q) 98 0 64 .int := ⟨Nat.le_of_ble_eq_true rfl, rfl, rfl⟩
section RTC
variable {Γ : Gm} {l : Launch} {d : Nat} {y : MethodName} {cc : ByteArray} {nL : Nat} {ret : Option FieldType} {N : Option Value → Wd → Prop} {X : String → Wd → Prop} {pc : Nat} {rest : List Value} {loc : List (Nat × Value)} {w : Wd}
theorem r_callVi {d' nL' n k ci index : Nat} {C : String} {Tc : u_T} {Nf : Nat} {fs : List (Option Nat)} {y' : MethodName} {cc' : ByteArray} {ret' : Option FieldType} {av stk : List Value} {f : Int32 → Wd → Prop} (hY : CY y' cc' nL' ret' n) (hO : OB Γ k ci C Tc Nf fs) (hC9 : y'.cls = C) (h1 : Cond.methodLink y.cls index y' ∈ TB) (h2 : Cond.instanceMethod y' ∈ TB) (h3 : Cond.selects C y' y' ∈ TB) (hd : d' + 1 ≤ d ∧ nL' ≤ 26) (hn : av.length = n) (hstk : stk = av.reverse ++ .ref k :: rest) (hroom : (rest.map fun v => v.category).sum ≤ 8) (hdg : decode cc pc = .ok (.invokevirtual index, 3))
    (hM : Ct Γ l d' y' cc' nL' ret' (.ref k :: av) w (pI f) X) (k : ∀ (x : Int32) (u : Wd), f x u → RT Γ l d y cc nL ret N X (pc + 3) (.int x :: rest) loc u) : RT Γ l d y cc nL ret N X pc stk loc w := by
  refine r_callV hY hO hC9 h1 h2 h3 hd hn hstk hroom hdg (hM.mono (fun v u hq => ?_) (fun _ _ h => h))
  obtain ⟨x, rfl, h⟩ := hq
  exact k x u h
theorem r_callSi {d' nL' n index : Nat} {y' : MethodName} {cc' : ByteArray} {ret' : Option FieldType} {av stk : List Value} {f : Int32 → Wd → Prop} (hY : CY y' cc' nL' ret' n) (h1 : Cond.methodLink y.cls index y' ∈ TB) (h2 : Cond.static y' ∈ TB) (hd : d' + 1 ≤ d ∧ nL' ≤ 26) (hn : av.length = n) (hstk : stk = av.reverse ++ rest) (hroom : (rest.map fun v => v.category).sum ≤ 8) (hdg : decode cc pc = .ok (.invokestatic index, 3))
    (hM : Ct Γ l d' y' cc' nL' ret' av w (pI f) X) (k : ∀ (x : Int32) (u : Wd), f x u → RT Γ l d y cc nL ret N X (pc + 3) (.int x :: rest) loc u) : RT Γ l d y cc nL ret N X pc stk loc w := by
  refine r_callS hY h1 h2 hd hn hstk hroom hdg (hM.mono (fun v u hq => ?_) (fun _ _ h => h))
  obtain ⟨x, rfl, h⟩ := hq
  exact k x u h
theorem r_callVl {d' nL' n k ci index : Nat} {C : String} {Tc : u_T} {Nf : Nat} {fs : List (Option Nat)} {y' : MethodName} {cc' : ByteArray} {ret' : Option FieldType} {av stk : List Value} {f : Int64 → Wd → Prop} (hY : CY y' cc' nL' ret' n) (hO : OB Γ k ci C Tc Nf fs) (hC9 : y'.cls = C) (h1 : Cond.methodLink y.cls index y' ∈ TB) (h2 : Cond.instanceMethod y' ∈ TB) (h3 : Cond.selects C y' y' ∈ TB) (hd : d' + 1 ≤ d ∧ nL' ≤ 26) (hn : av.length = n) (hstk : stk = av.reverse ++ .ref k :: rest) (hroom : (rest.map fun v => v.category).sum ≤ 8) (hdg : decode cc pc = .ok (.invokevirtual index, 3))
    (hM : Ct Γ l d' y' cc' nL' ret' (.ref k :: av) w (pL f) X) (k : ∀ (x : Int64) (u : Wd), f x u → RT Γ l d y cc nL ret N X (pc + 3) (.long x :: rest) loc u) : RT Γ l d y cc nL ret N X pc stk loc w := by
  refine r_callV hY hO hC9 h1 h2 h3 hd hn hstk hroom hdg (hM.mono (fun v u hq => ?_) (fun _ _ h => h))
  obtain ⟨x, rfl, h⟩ := hq
  exact k x u h
theorem r_callSl {d' nL' n index : Nat} {y' : MethodName} {cc' : ByteArray} {ret' : Option FieldType} {av stk : List Value} {f : Int64 → Wd → Prop} (hY : CY y' cc' nL' ret' n) (h1 : Cond.methodLink y.cls index y' ∈ TB) (h2 : Cond.static y' ∈ TB) (hd : d' + 1 ≤ d ∧ nL' ≤ 26) (hn : av.length = n) (hstk : stk = av.reverse ++ rest) (hroom : (rest.map fun v => v.category).sum ≤ 8) (hdg : decode cc pc = .ok (.invokestatic index, 3))
    (hM : Ct Γ l d' y' cc' nL' ret' av w (pL f) X) (k : ∀ (x : Int64) (u : Wd), f x u → RT Γ l d y cc nL ret N X (pc + 3) (.long x :: rest) loc u) : RT Γ l d y cc nL ret N X pc stk loc w := by
  refine r_callS hY h1 h2 hd hn hstk hroom hdg (hM.mono (fun v u hq => ?_) (fun _ _ h => h))
  obtain ⟨x, rfl, h⟩ := hq
  exact k x u h
theorem r_callVr {d' nL' n k ci index : Nat} {C : String} {Tc : u_T} {Nf : Nat} {fs : List (Option Nat)} {y' : MethodName} {cc' : ByteArray} {ret' : Option FieldType} {av stk : List Value} {f : Nat → Wd → Prop} (hY : CY y' cc' nL' ret' n) (hO : OB Γ k ci C Tc Nf fs) (hC9 : y'.cls = C) (h1 : Cond.methodLink y.cls index y' ∈ TB) (h2 : Cond.instanceMethod y' ∈ TB) (h3 : Cond.selects C y' y' ∈ TB) (hd : d' + 1 ≤ d ∧ nL' ≤ 26) (hn : av.length = n) (hstk : stk = av.reverse ++ .ref k :: rest) (hroom : (rest.map fun v => v.category).sum ≤ 8) (hdg : decode cc pc = .ok (.invokevirtual index, 3))
    (hM : Ct Γ l d' y' cc' nL' ret' (.ref k :: av) w (pR f) X) (k : ∀ (x : Nat) (u : Wd), f x u → RT Γ l d y cc nL ret N X (pc + 3) (.ref x :: rest) loc u) : RT Γ l d y cc nL ret N X pc stk loc w := by
  refine r_callV hY hO hC9 h1 h2 h3 hd hn hstk hroom hdg (hM.mono (fun v u hq => ?_) (fun _ _ h => h))
  obtain ⟨x, rfl, h⟩ := hq
  exact k x u h
theorem r_callSr {d' nL' n index : Nat} {y' : MethodName} {cc' : ByteArray} {ret' : Option FieldType} {av stk : List Value} {f : Nat → Wd → Prop} (hY : CY y' cc' nL' ret' n) (h1 : Cond.methodLink y.cls index y' ∈ TB) (h2 : Cond.static y' ∈ TB) (hd : d' + 1 ≤ d ∧ nL' ≤ 26) (hn : av.length = n) (hstk : stk = av.reverse ++ rest) (hroom : (rest.map fun v => v.category).sum ≤ 8) (hdg : decode cc pc = .ok (.invokestatic index, 3))
    (hM : Ct Γ l d' y' cc' nL' ret' av w (pR f) X) (k : ∀ (x : Nat) (u : Wd), f x u → RT Γ l d y cc nL ret N X (pc + 3) (.ref x :: rest) loc u) : RT Γ l d y cc nL ret N X pc stk loc w := by
  refine r_callS hY h1 h2 hd hn hstk hroom hdg (hM.mono (fun v u hq => ?_) (fun _ _ h => h))
  obtain ⟨x, rfl, h⟩ := hq
  exact k x u h
theorem r_callVv {d' nL' n k ci index : Nat} {C : String} {Tc : u_T} {Nf : Nat} {fs : List (Option Nat)} {y' : MethodName} {cc' : ByteArray} {ret' : Option FieldType} {av stk : List Value} {f : Wd → Prop} (hY : CY y' cc' nL' ret' n) (hO : OB Γ k ci C Tc Nf fs) (hC9 : y'.cls = C) (h1 : Cond.methodLink y.cls index y' ∈ TB) (h2 : Cond.instanceMethod y' ∈ TB) (h3 : Cond.selects C y' y' ∈ TB) (hd : d' + 1 ≤ d ∧ nL' ≤ 26) (hn : av.length = n) (hstk : stk = av.reverse ++ .ref k :: rest) (hroom : (rest.map fun v => v.category).sum ≤ 8) (hdg : decode cc pc = .ok (.invokevirtual index, 3))
    (hM : Ct Γ l d' y' cc' nL' ret' (.ref k :: av) w (pV f) X) (k : ∀ (u : Wd), f u → RT Γ l d y cc nL ret N X (pc + 3) rest loc u) : RT Γ l d y cc nL ret N X pc stk loc w := by
  refine r_callV hY hO hC9 h1 h2 h3 hd hn hstk hroom hdg (hM.mono (fun v u hq => ?_) (fun _ _ h => h))
  obtain ⟨rfl, h⟩ := hq
  exact k u h
theorem r_callSv {d' nL' n index : Nat} {y' : MethodName} {cc' : ByteArray} {ret' : Option FieldType} {av stk : List Value} {f : Wd → Prop} (hY : CY y' cc' nL' ret' n) (h1 : Cond.methodLink y.cls index y' ∈ TB) (h2 : Cond.static y' ∈ TB) (hd : d' + 1 ≤ d ∧ nL' ≤ 26) (hn : av.length = n) (hstk : stk = av.reverse ++ rest) (hroom : (rest.map fun v => v.category).sum ≤ 8) (hdg : decode cc pc = .ok (.invokestatic index, 3))
    (hM : Ct Γ l d' y' cc' nL' ret' av w (pV f) X) (k : ∀ (u : Wd), f u → RT Γ l d y cc nL ret N X (pc + 3) rest loc u) : RT Γ l d y cc nL ret N X pc stk loc w := by
  refine r_callS hY h1 h2 hd hn hstk hroom hdg (hM.mono (fun v u hq => ?_) (fun _ _ h => h))
  obtain ⟨rfl, h⟩ := hq
  exact k u h
end RTC
/-- 0 or 1 -/
def bz (x : Int32) : Prop := x = 0 ∨ x = 1
theorem bz.nar {x : Int32} (h : bz x) : narrow .boolean (.int x) = .int x := by rcases h with rfl | rfl <;> rfl
theorem bz0 : bz 0 := Or.inl rfl
theorem bz1 : bz 1 := Or.inr rfl

theorem pI.mk {f : Int32 → Wd → Prop} {x : Int32} {w : Wd} (h : f x w) : pI f (some (.int x)) w := ⟨x, rfl, h⟩
theorem pL.mk {f : Int64 → Wd → Prop} {x : Int64} {w : Wd} (h : f x w) : pL f (some (.long x)) w := ⟨x, rfl, h⟩
theorem pR.mk {f : Nat → Wd → Prop} {x : Nat} {w : Wd} (h : f x w) : pR f (some (.ref x)) w := ⟨x, rfl, h⟩
theorem pV.mk {f : Wd → Prop} {w : Wd} (h : f w) : pV f none w := ⟨rfl, h⟩
