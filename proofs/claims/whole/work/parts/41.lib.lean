/-! ===== numbers ===== -/
theorem ti_lo (x : Int32) : -2147483648 ≤ x.toInt := Int32.le_toInt x
theorem ti_hi (x : Int32) : x.toInt < 2147483648 := Int32.toInt_lt x
theorem bm32 {z : Int} (h1 : -2147483648 ≤ z) (h2 : z < 2147483648) : z.bmod (2 ^ 32) = z := by
  apply Int.bmod_eq_of_le <;> omega
theorem ti_add {x y : Int32} (h1 : -2147483648 ≤ x.toInt + y.toInt) (h2 : x.toInt + y.toInt < 2147483648) : (x + y).toInt = x.toInt + y.toInt := by
  rw [Int32.toInt_add]; exact bm32 h1 h2
theorem ti_sub {x y : Int32} (h1 : -2147483648 ≤ x.toInt - y.toInt) (h2 : x.toInt - y.toInt < 2147483648) : (x - y).toInt = x.toInt - y.toInt := by
  rw [Int32.toInt_sub]; exact bm32 h1 h2
theorem ti_mul {x y : Int32} (h1 : -2147483648 ≤ x.toInt * y.toInt) (h2 : x.toInt * y.toInt < 2147483648) : (x * y).toInt = x.toInt * y.toInt := by
  rw [Int32.toInt_mul]; exact bm32 h1 h2
theorem ti_lt {x y : Int32} : x < y ↔ x.toInt < y.toInt := Int32.lt_iff_toInt_lt
theorem ti_le {x y : Int32} : x ≤ y ↔ x.toInt ≤ y.toInt := Int32.le_iff_toInt_le
theorem ti_eq {x y : Int32} : x = y ↔ x.toInt = y.toInt := Int32.toInt_inj.symm
theorem ti_nI {n : Nat} (h : n < 2147483648) : (nI n).toInt = n := nI_toInt (by omega)
theorem cl_nI {n : Nat} (h : n < 2147483648) : (nI n).toNatClampNeg = n := by
  show (nI n).toInt.toNat = n
  rw [ti_nI h]; rfl
theorem cl_ti (x : Int32) : x.toNatClampNeg = x.toInt.toNat := rfl
theorem nI_ti {x : Int32} {n : Nat} (h : x.toInt = n) : x = nI n := by
  have := ti_hi x
  rw [ti_eq, h, ti_nI (by omega)]
theorem vin {i : Int32} {n : Nat} (h1 : 0 ≤ i.toInt) (h2 : i.toInt < n) : vp_in i n := by
  intro q
  rcases q with q | q
  · rw [ti_lt] at q
    have : (0 : Int32).toInt = 0 := rfl
    omega
  · rw [cl_ti] at q; omega
theorem vin_nI {k n : Nat} (h : k < n) (h2 : n < 2147483648) : vp_in (nI k) n := vin (by rw [ti_nI (by omega)]; omega) (by rw [ti_nI (by omega)]; omega)
theorem nI_S (n : Nat) : nI n + 1 = nI (n + 1) := nI_1 n
/-! ===== frames ===== -/
/-- no cell made, no long, no reference changed, ints only where P says -/
def FrI (P : Nat → Nat → Prop) (h h2 : HP) : Prop := KP h h2 ∧ hZ h2 = hZ h ∧ hU h2 = hU h ∧ (∀ a k, hL h2 a k = hL h a k) ∧ (∀ a k, hR h2 a k = hR h a k) ∧ ∀ a k, ¬ P a k → hI h2 a k = hI h a k
theorem FrI.rf (P : Nat → Nat → Prop) (h : HP) : FrI P h h := ⟨KP.rf h, rfl, rfl, fun _ _ => rfl, fun _ _ => rfl, fun _ _ _ => rfl⟩
theorem FrI.tr {P : Nat → Nat → Prop} {h h1 h2 : HP} (p : FrI P h h1) (q : FrI P h1 h2) : FrI P h h2 :=
  ⟨p.1.tr q.1, q.2.1.trans p.2.1, q.2.2.1.trans p.2.2.1, fun a k => (q.2.2.2.1 a k).trans (p.2.2.2.1 a k), fun a k => (q.2.2.2.2.1 a k).trans (p.2.2.2.2.1 a k), fun a k h => (q.2.2.2.2.2 a k h).trans (p.2.2.2.2.2 a k h)⟩
theorem FrI.weak {P P' : Nat → Nat → Prop} {h h2 : HP} (p : FrI P h h2) (hp : ∀ a k, P a k → P' a k) : FrI P' h h2 := ⟨p.1, p.2.1, p.2.2.1, p.2.2.2.1, p.2.2.2.2.1, fun a k q => p.2.2.2.2.2 a k (fun z => q (hp a k z))⟩
theorem FrI.sI {P : Nat → Nat → Prop} (h : HP) {a k : Nat} (v : Int32) (hp : P a k) : FrI P h (sI h a k v) := ⟨kp_sI h a k v, rfl, rfl, fun _ _ => rfl, fun _ _ => rfl, fun b j q => by
  rw [hI_sI, if_neg]
  rintro ⟨rfl, rfl⟩
  exact q hp⟩
theorem FrI.kd {P : Nat → Nat → Prop} {G : GG} {h h2 : HP} {a κ : Nat} (p : FrI P h h2) (k : Kd G h a κ) : Kd G h2 a κ := k.up p.1
theorem FrI.n {P : Nat → Nat → Prop} {G : GG} {h h2 : HP} {a κ : Nat} (p : FrI P h h2) (k : Kd G h a κ) : hN h2 a = hN h a := k.len p.1
theorem FrI.r {P : Nat → Nat → Prop} {h h2 : HP} (p : FrI P h h2) (a k : Nat) : hR h2 a k = hR h a k := p.2.2.2.2.1 a k
theorem FrI.l {P : Nat → Nat → Prop} {h h2 : HP} (p : FrI P h h2) (a k : Nat) : hL h2 a k = hL h a k := p.2.2.2.1 a k
theorem FrI.i {P : Nat → Nat → Prop} {h h2 : HP} (p : FrI P h h2) {a k : Nat} (q : ¬ P a k) : hI h2 a k = hI h a k := p.2.2.2.2.2 a k q
theorem hI_eq (h : HP) (a k : Nat) (v : Int32) : hI (sI h a k v) a k = v := by rw [hI_sI, if_pos ⟨rfl, rfl⟩]
theorem hI_ne (h : HP) {a k b j : Nat} (v : Int32) (q : b ≠ a ∨ j ≠ k) : hI (sI h a k v) b j = hI h b j := by
  rw [hI_sI, if_neg]
  rintro ⟨rfl, rfl⟩
  rcases q with q | q <;> exact q rfl
/-- the four bytes of an int, the highest first -/
def btv (x c : Int32) : Int32 := ((x >>> (c &&& 31)).toInt8.toInt32).toInt8.toInt32
def bt (x : Int32) (j : Nat) : Int32 := btv x (nI (24 - 8 * j))
