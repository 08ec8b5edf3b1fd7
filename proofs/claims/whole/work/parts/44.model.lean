/-! ===== the reference at y: its shape; reading what is said ===== -/
def mdL : List (Nat × Nat × Nat × Nat) := [(0, 1, 13, 400), (2, 2, 14, 2), (3, 3, 14, 4800), (4, 4, 14, 13), (5, 5, 14, 720), (6, 6, 14, 12), (7, 7, 14, 12), (11, 8, 14, 1600), (12, 9, 14, 24), (20, 10, 14, 400), (26, 11, 15, 64), (28, 12, 15, 12), (29, 13, 14, 2440), (30, 14, 14, 2440), (43, 15, 14, 1600), (44, 16, 14, 1600), (45, 17, 14, 1600), (46, 18, 16, 1600), (49, 19, 14, 9760), (50, 20, 16, 4)]
def MdSh (G : GG) (h : HP) (y : Nat) : Prop := Kd G h y 12 ∧ ∀ q ∈ mdL, hR h y q.1 = some (y + q.2.1) ∧ Kd G h (y + q.2.1) q.2.2.1 ∧ hN h (y + q.2.1) = q.2.2.2
theorem MdSh.fr {P : Nat → Nat → Prop} {G : GG} {h h2 : HP} {y : Nat} (f : FrI P h h2) (M : MdSh G h y) : MdSh G h2 y := ⟨f.kd M.1, fun q hq => ⟨(f.r _ _).trans (M.2 q hq).1, f.kd (M.2 q hq).2.1, (f.n (M.2 q hq).2.1).trans (M.2 q hq).2.2⟩⟩
/-- what the reference says of thing t, field k -/
def sd (h : HP) (y t k : Nat) : Int32 := hI h (y + 13) (1608 + 12 * t + k)
/-- there or not -/
def bin (A : Nat → Nat → Int32) : Prop := ∀ t, t < 54 → A t 0 = 0 ∨ A t 0 = 1
theorem bin.w {A : Nat → Nat → Int32} (b : bin A) {t : Nat} (ht : t < 54) : (A t 0 = 1) ↔ wallB A t = true := by
  rcases b t ht with e | e <;> simp [wallB, e]
section MR
variable {G : GG} {d : Nat} {h : HP} {Q : Option Value → HP → Prop} {y : Nat}
theorem r_of (hd : 1 ≤ d) (M : MdSh G h y) {x w : Int32} {t k : Nat} (hx : x.toInt = t) (ht : t < 54) (hw : w.toInt = k) (hk : k < 12) (hQ : Q (some (.int (sd h y t k))) h) : Cal G d mX12_of [.ref y, .int x, .int w] h Q := by
  refine e_X12_of hd ?_
  obtain ⟨m1, m2, m3⟩ := M.2 (29, 13, 14, 2440) (by decide)
  replace m3 : hN h (y + 13) = 2440 := m3
  refine ⟨M.1, y + 13, m1, e_X12_placeOf ⟨_, rfl, m2, ?_, ?_⟩⟩
  all_goals
    have e1 : (12 * x).toInt = 12 * t := by
      have e12 : (12 : Int32).toInt = 12 := rfl
      rw [ti_mul] <;> rw [e12, hx] <;> omega
    have e2 : (1608 + 12 * x).toInt = 1608 + 12 * t := by
      have e16 : (1608 : Int32).toInt = 1608 := rfl
      rw [ti_add] <;> rw [e16, e1] <;> omega
    have e3 : (1608 + 12 * x + w).toInt = 1608 + 12 * t + k := by
      rw [ti_add] <;> rw [e2, hw] <;> omega
  · rw [m3]; exact vin (by omega) (by omega)
  · have e4 : (1608 + 12 * x + w).toNatClampNeg = 1608 + 12 * t + k := by rw [cl_ti, e3]; omega
    rw [e4]
    exact hQ
theorem r_isThing (hd : 2 ≤ d) (M : MdSh G h y) (b : bin (sd h y)) {x : Int32} (hQ0 : ¬ (0 ≤ x.toInt ∧ x.toInt < 30) → Q (some (.int 0)) h) (hQ : ∀ t : Nat, x = nI t → t < 30 → Q (some (.int (if wallB (sd h y) t then 1 else 0))) h) : Cal G d mX12_isThing [.ref y, .int x] h Q := by
  refine e_X12_isThing (by omega) ?_
  unfold T_X12_isThing
  have e0 : (0 : Int32).toInt = 0 := rfl
  have e30 : (30 : Int32).toInt = 30 := rfl
  refine ⟨fun c => hQ0 (by rw [ti_lt, e0] at c; omega), fun c => ⟨fun c2 => hQ0 (by rw [ti_le, e30] at c2; omega), fun c2 => ?_⟩⟩
  rw [ti_lt, e0] at c
  rw [ti_le, e30] at c2
  obtain ⟨t, hx⟩ : ∃ t : Nat, x.toInt = t := ⟨x.toInt.toNat, by omega⟩
  have hq := hQ t (nI_ti hx) (by omega)
  refine ⟨M.1, r_of (by omega) M hx (by omega) (k := 0) rfl (by omega) ⟨_, rfl, fun q => ?_, fun q => ?_⟩⟩
  · have e : wallB (sd h y) t = false := by
      cases w : wallB (sd h y) t
      · rfl
      · exact absurd ((b.w (by omega)).mpr w) q
    rw [e] at hq
    exact hq
  · rw [(b.w (by omega)).mp q] at hq
    exact hq
theorem r_isWall (hd : 3 ≤ d) (M : MdSh G h y) (b : bin (sd h y)) {x : Int32} (hQ0 : ¬ (6 ≤ x.toInt ∧ x.toInt < 30) → Q (some (.int 0)) h) (hQ : ∀ t : Nat, x = nI t → 6 ≤ t → t < 30 → Q (some (.int (if wallB (sd h y) t then 1 else 0))) h) : Cal G d mX12_isWall [.ref y, .int x] h Q := by
  refine e_X12_isWall (by omega) ?_
  unfold T_X12_isWall
  have e6 : (6 : Int32).toInt = 6 := rfl
  refine ⟨fun c => hQ0 (by rw [ti_lt, e6] at c; omega), fun c => ⟨M.1, r_isThing (by omega) M b (fun c2 => ⟨0, rfl, fun _ => hQ0 (by omega), fun q => absurd rfl q⟩) (fun t e ht => ?_)⟩⟩
  have h6 : 6 ≤ t := by
    rw [ti_lt, e6, e, ti_nI (by omega)] at c
    omega
  have hq := hQ t e h6 ht
  cases w : wallB (sd h y) t
  · rw [w] at hq
    exact ⟨0, rfl, fun _ => hq, fun q => absurd rfl q⟩
  · rw [w] at hq
    exact ⟨1, rfl, fun q => absurd q (by decide), fun _ => hq⟩
theorem r_isOuter (hd : 2 ≤ d) (M : MdSh G h y) {x : Int32} {t : Nat} (hx : x.toInt = t) (ht : t < 54) (hQ : Q (some (.int (if sd h y t 6 = -1 then 1 else 0))) h) : Cal G d mX12_isOuter [.ref y, .int x] h Q := by
  refine e_X12_isOuter (by omega) ?_
  refine ⟨M.1, r_of (by omega) M hx ht (k := 6) rfl (by omega) ⟨_, rfl, fun q => ?_, fun q => ?_⟩⟩
  · rw [if_neg q] at hQ; exact hQ
  · rw [if_pos q] at hQ; exact hQ
/-- cells of a thing's rectangle -/
def areaI (A : Nat → Nat → Int32) (t : Nat) : Int32 := (A t 3 - A t 1) * (A t 4 - A t 2)
theorem r_cellsOf (hd : 2 ≤ d) (M : MdSh G h y) {x : Int32} {t : Nat} (hx : x.toInt = t) (ht : t < 54) (hQ : Q (some (.int (areaI (sd h y) t))) h) : Cal G d mX12_cellsOf [.ref y, .int x] h Q := by
  refine e_X12_cellsOf (by omega) ?_
  exact ⟨M.1, r_of (by omega) M hx ht (k := 3) rfl (by omega) ⟨_, rfl, r_of (by omega) M hx ht (k := 1) rfl (by omega) ⟨_, rfl, r_of (by omega) M hx ht (k := 4) rfl (by omega) ⟨_, rfl, r_of (by omega) M hx ht (k := 2) rfl (by omega) ⟨_, rfl, hQ⟩⟩⟩⟩⟩
/-- a thing has a cell -/
def hasB (A : Nat → Nat → Int32) (t : Nat) (x y : Int32) : Bool := decide (A t 1 ≤ x ∧ x < A t 3 ∧ A t 2 ≤ y ∧ y < A t 4)
theorem r_hasCell (hd : 2 ≤ d) (M : MdSh G h y) {z u v : Int32} {t : Nat} (hx : z.toInt = t) (ht : t < 54) (hQ : Q (some (.int (if hasB (sd h y) t u v then 1 else 0))) h) : Cal G d mX12_hasCell [.ref y, .int z, .int u, .int v] h Q := by
  refine e_X12_hasCell (by omega) ?_
  have no : ∀ c : Prop, (c → False) → ∀ p : Bool, (p = true → c) → p = false := fun c hc p hp => by cases p <;> simp_all
  refine ⟨M.1, r_of (by omega) M hx ht (k := 1) rfl (by omega) ⟨_, rfl, fun c => ?_, fun c => r_of (by omega) M hx ht (k := 3) rfl (by omega) ⟨_, rfl, fun c2 => ?_, fun c2 => r_of (by omega) M hx ht (k := 2) rfl (by omega) ⟨_, rfl, fun c3 => ?_, fun c3 => r_of (by omega) M hx ht (k := 4) rfl (by omega) ⟨_, rfl, fun c4 => ?_, fun c4 => ?_⟩⟩⟩⟩⟩
  all_goals simp only [ti_lt, ti_le] at *
  · rw [if_neg (by simp only [hasB, decide_eq_true_eq, ti_lt, ti_le]; omega)] at hQ; exact hQ
  · rw [if_neg (by simp only [hasB, decide_eq_true_eq, ti_lt, ti_le]; omega)] at hQ; exact hQ
  · rw [if_neg (by simp only [hasB, decide_eq_true_eq, ti_lt, ti_le]; omega)] at hQ; exact hQ
  · rw [if_neg (by simp only [hasB, decide_eq_true_eq, ti_lt, ti_le]; omega)] at hQ; exact hQ
  · rw [if_pos (by simp only [hasB, decide_eq_true_eq, ti_lt, ti_le]; omega)] at hQ; exact hQ
theorem add0 (x : Int32) : x + 0 = x := Int32.add_zero x
theorem sub0 (x : Int32) : x - 0 = x := Int32.sub_zero x
theorem r_wallMany (hd : 3 ≤ d) (M : MdSh G h y) (b : bin (sd h y)) (hQ : Q (some (.int (nI (cntF (wallB (sd h y)) 6 24)))) h) : Cal G d mX12_wallMany [.ref y] h Q := by
  refine e_X12_wallMany ?_
  unfold T_X12_wallMany
  have loop : ∀ n i c, i + n = 30 → Q (some (.int (nI (c + cntF (wallB (sd h y)) i n)))) h → Ex G d mX12_wallMany 5 [(0, .ref y), (1, .int (nI c)), (2, .int (nI i))] [] h Q := by
    intro n
    induction n with
    | zero =>
      intro i c hi hq
      obtain rfl : i = 30 := by omega
      exact t_X12_wallMany_5 (by omega) ⟨fun _ => hq, fun q => absurd (show (30 : Int32) ≤ nI 30 by decide) q⟩
    | succ n ih =>
      intro i c hi hq
      refine t_X12_wallMany_5 (by omega) ⟨fun q => ?_, fun _ => ⟨M.1, r_isThing (by omega) M b (fun q => absurd ⟨by rw [ti_nI (by omega)]; omega, by rw [ti_nI (by omega)]; omega⟩ q) (fun t e ht => ?_)⟩⟩
      · have := (nI_le_iff (a := 30) (b := i) (by omega) (by omega)).mp q
        omega
      · obtain rfl : i = t := (nI_eq_iff (by omega) (by omega)).mp e
        rw [nI_S, nI_S, add0]
        simp only [cntF] at hq
        cases w : wallB (sd h y) i
        · rw [w] at hq
          exact ⟨0, rfl, fun _ => ih (i + 1) c (by omega) (by simpa using hq), fun q => absurd rfl q⟩
        · rw [w] at hq
          exact ⟨1, rfl, fun q => absurd q (by decide), fun _ => ih (i + 1) (c + 1) (by omega) (by simpa [Nat.add_assoc] using hq)⟩
  exact loop 24 6 0 rfl (by simpa using hQ)
theorem r_wallsOf (hd : 2 ≤ d) (M : MdSh G h y) (b : bin (sd h y)) {f : Int32} (hQ : Q (some (.int (nI (cntF (ownB (sd h y) f) 6 48)))) h) : Cal G d mX12_wallsOf [.ref y, .int f] h Q := by
  refine e_X12_wallsOf ?_
  unfold T_X12_wallsOf
  have loop : ∀ n i c, i + n = 54 → Q (some (.int (nI (c + cntF (ownB (sd h y) f) i n)))) h → Ex G d mX12_wallsOf 5 [(0, .ref y), (1, .int f), (2, .int (nI c)), (3, .int (nI i))] [] h Q := by
    intro n
    induction n with
    | zero =>
      intro i c hi hq
      obtain rfl : i = 54 := by omega
      exact t_X12_wallsOf_5 (by omega) ⟨fun _ => hq, fun q => absurd (show (54 : Int32) ≤ nI 54 by decide) q⟩
    | succ n ih =>
      intro i c hi hq
      refine t_X12_wallsOf_5 (by omega) ⟨fun q => ?_, fun _ => ⟨M.1, r_of (by omega) M (t := i) (ti_nI (by omega)) (by omega) (k := 0) rfl (by omega) ⟨_, rfl, fun q => ?_, fun q => r_of (by omega) M (t := i) (ti_nI (by omega)) (by omega) (k := 5) rfl (by omega) ⟨_, rfl, fun q2 => ?_, fun q2 => ?_⟩⟩⟩⟩
      · have := (nI_le_iff (a := 54) (b := i) (by omega) (by omega)).mp q
        omega
      all_goals
        simp only [nI_S, add0]
        simp only [cntF] at hq
      · have e : ownB (sd h y) f i = false := by
          rcases b i (by omega) with e | e
          · simp [ownB, e]
          · exact absurd e q
        rw [e] at hq
        exact ih (i + 1) c (by omega) (by simpa using hq)
      · have e : ownB (sd h y) f i = false := by simp [ownB, q2]
        rw [e] at hq
        exact ih (i + 1) c (by omega) (by simpa using hq)
      · have e : ownB (sd h y) f i = true := by simp [ownB, q, q2]
        rw [e] at hq
        exact ih (i + 1) (c + 1) (by omega) (by simpa [Nat.add_assoc] using hq)
  exact loop 48 6 0 rfl (by simpa using hQ)
theorem r_nestMany (hd : 3 ≤ d) (M : MdSh G h y) (b : bin (sd h y)) (hQ : Q (some (.int (nI (cntF (outB (sd h y)) 0 30)))) h) : Cal G d mX12_nestMany [.ref y] h Q := by
  refine e_X12_nestMany ?_
  unfold T_X12_nestMany
  have loop : ∀ n i c, i + n = 30 → Q (some (.int (nI (c + cntF (outB (sd h y)) i n)))) h → Ex G d mX12_nestMany 4 [(0, .ref y), (1, .int (nI c)), (2, .int (nI i))] [] h Q := by
    intro n
    induction n with
    | zero =>
      intro i c hi hq
      obtain rfl : i = 30 := by omega
      exact t_X12_nestMany_4 (by omega) ⟨fun _ => hq, fun q => absurd (show (30 : Int32) ≤ nI 30 by decide) q⟩
    | succ n ih =>
      intro i c hi hq
      refine t_X12_nestMany_4 (by omega) ⟨fun q => ?_, fun _ => ⟨M.1, r_isThing (by omega) M b (fun q => absurd ⟨by rw [ti_nI (by omega)]; omega, by rw [ti_nI (by omega)]; omega⟩ q) (fun t e ht => ?_)⟩⟩
      · have := (nI_le_iff (a := 30) (b := i) (by omega) (by omega)).mp q
        omega
      · obtain rfl : i = t := (nI_eq_iff (by omega) (by omega)).mp e
        simp only [cntF] at hq
        cases w : wallB (sd h y) i
        · have e : outB (sd h y) i = false := by
            simp only [wallB, bne_eq_false_iff_eq] at w
            simp [outB, w]
          rw [e] at hq
          refine ⟨0, rfl, fun _ => ?_, fun q => absurd rfl q⟩
          rw [nI_S, add0]
          exact ih (i + 1) c (by omega) (by simpa using hq)
        · refine ⟨1, rfl, fun q => absurd q (by decide), fun _ => r_isOuter (by omega) M (t := i) (ti_nI (by omega)) (by omega) ?_⟩
          simp only [wallB, bne_iff_ne, ne_eq] at w
          rw [nI_S, nI_S, add0]
          by_cases w2 : sd h y i 6 = -1
          · have e : outB (sd h y) i = true := by simp [outB, w, w2]
            rw [e] at hq
            rw [if_pos w2]
            exact ⟨1, rfl, fun q => absurd q (by decide), fun _ => ih (i + 1) (c + 1) (by omega) (by simpa [Nat.add_assoc] using hq)⟩
          · have e : outB (sd h y) i = false := by simp [outB, w2]
            rw [e] at hq
            rw [if_neg w2]
            exact ⟨0, rfl, fun _ => ih (i + 1) c (by omega) (by simpa using hq), fun q => absurd rfl q⟩
  exact loop 30 0 0 rfl (by simpa using hQ)
theorem r_freeNumber (hd : 2 ≤ d) (M : MdSh G h y) (hQ : Q (some (.int (onI (firF (fun t => !wallB (sd h y) t) 6 24)))) h) : Cal G d mX12_freeNumber [.ref y] h Q := by
  refine e_X12_freeNumber ?_
  unfold T_X12_freeNumber
  have loop : ∀ n i, i + n = 30 → Q (some (.int (onI (firF (fun t => !wallB (sd h y) t) i n)))) h → Ex G d mX12_freeNumber 3 [(0, .ref y), (1, .int (nI i))] [] h Q := by
    intro n
    induction n with
    | zero =>
      intro i hi hq
      obtain rfl : i = 30 := by omega
      exact t_X12_freeNumber_3 (by omega) ⟨fun _ => hq, fun q => absurd (show (30 : Int32) ≤ nI 30 by decide) q⟩
    | succ n ih =>
      intro i hi hq
      refine t_X12_freeNumber_3 (by omega) ⟨fun q => ?_, fun _ => ⟨M.1, r_of (by omega) M (t := i) (ti_nI (by omega)) (by omega) (k := 0) rfl (by omega) ⟨_, rfl, fun q => ?_, fun q => ?_⟩⟩⟩
      · have := (nI_le_iff (a := 30) (b := i) (by omega) (by omega)).mp q
        omega
      · rw [nI_S]
        have e : wallB (sd h y) i = true := by simp [wallB, q]
        simp [firF, e] at hq
        exact ih (i + 1) (by omega) hq
      · have e : wallB (sd h y) i = false := by simp [wallB, q]
        simp [firF, e] at hq
        exact hq
  exact loop 24 6 rfl hQ
end MR
