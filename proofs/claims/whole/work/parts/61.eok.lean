/-! THE MAKERS, CLOSED BUT FOR THE EXCEPTION THAT STANDS READY -/
theorem nlA_warm {u U : State} (hW : u.WarmedH U.vm) (h : nlA u) : nlA U := by
  obtain ⟨h1, h2, h3, h4, h5, h6, h7⟩ := h
  exact ⟨va_Nw.warmM hW h1, va_Nw.warmM hW h2, va_Nw.warmM hW h3, va_Nw.warmM hW h4, va_Nw.warmM hW h5, va_Nw.warmM hW h6, va_Nw.warmM hW h7⟩
theorem eokA {q : Gq} {F : Nat → Prop} {nz : Bool} (hE : q.2.2.2 = EB F q.2.2.1 nz) : EOK (gbA q F) := by
  refine ⟨fun u U H hW h => ?_, fun U H H1 hz hk h => ?_⟩
  · have h1 : q.2.2.2 u H ∧ nlA u := h
    rw [hE] at h1
    show q.2.2.2 U H ∧ nlA U
    rw [hE]
    exact ⟨h1.1.warm hW, nlA_warm hW h1.2⟩
  · have h1 : q.2.2.2 U H ∧ nlA U := h
    rw [hE] at h1
    show q.2.2.2 U H1 ∧ nlA U
    rw [hE]
    exact ⟨h1.1.kept hk, h1.2⟩
theorem eokM {q : Gq} {F : Nat → Prop} {nz : Bool} (hE : q.2.2.2 = EB F q.2.2.1 nz) : EOK (gbM q F) := by
  refine ⟨fun u U H hW h => ?_, fun U H H1 hz hk h => ?_⟩
  · have h1 : q.2.2.2 u H := h
    rw [hE] at h1
    show q.2.2.2 U H
    rw [hE]
    exact h1.warm hW
  · have h1 : q.2.2.2 U H := h
    rw [hE] at h1
    show q.2.2.2 U H1
    rw [hE]
    exact h1.kept hk
/-- the class's own maker: from its object alone to all its cells -/
theorem made_A {q : Gq} {F : Nat → Prop} {l : Launch} {nz : Bool} (hE : q.2.2.2 = EB F q.2.2.1 nz) {w : Wd} : CC (gbA q F) l 13 56 368404 yX11_init cX11_init 1 [.ref 0] 1 [] w 57 allA (WX11_init w) :=
  kX11_init (tki_ok (nz := nz) (fun U H h => by rw [hE] at h; exact h))
/-- the reference's maker, but for the exception that stands ready -/
theorem made_M {q : Gq} {F : Nat → Prop} {l : Launch} {nz : Bool} (hE : q.2.2.2 = EB F q.2.2.1 nz) (he : EXI q F l) {w : Wd} : CC (gbM q F) l 12 98 1515487 yX12_init cX12_init 1 [.ref 0] 1 [] w 99 allM (WX12_init w) :=
  kX12_init he (wdi_EB (fun U H h => by rw [hE] at h; exact h) (fun _ _ => rfl))
