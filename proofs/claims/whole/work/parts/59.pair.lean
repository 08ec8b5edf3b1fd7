/-! ===== a call of both ===== -/
def Pr (Inv : HP → Prop) (G : GG) (x y : Nat) (m1 m2 : MM) (as : List Value) (h : HP) : Prop := Cal G 59 m1 (.ref x :: as) h (fun r h1 => ∃ v, r = some (.int v) ∧ Cal G 59 m2 (.ref y :: as) h1 (fun r2 h2 => r2 = some (.int v) ∧ Inv h2))
def PrL (Inv : HP → Prop) (G : GG) (x y : Nat) (m1 m2 : MM) (as : List Value) (h : HP) : Prop := Cal G 59 m1 (.ref x :: as) h (fun r h1 => ∃ v, r = some (.long v) ∧ Cal G 59 m2 (.ref y :: as) h1 (fun r2 h2 => r2 = some (.long v) ∧ Inv h2))
