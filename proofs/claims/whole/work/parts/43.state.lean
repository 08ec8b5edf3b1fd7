/-! ===== a State at s: its shape; reading it ===== -/
theorem nI_le_iff {a b : Nat} (ha : a < 2147483648) (hb : b < 2147483648) : nI a ≤ nI b ↔ a ≤ b := by rw [ti_le, ti_nI ha, ti_nI hb]; omega
theorem nI_lt_iff {a b : Nat} (ha : a < 2147483648) (hb : b < 2147483648) : nI a < nI b ↔ a < b := by rw [ti_lt, ti_nI ha, ti_nI hb]; omega
theorem nI_eq_iff {a b : Nat} (ha : a < 2147483648) (hb : b < 2147483648) : nI a = nI b ↔ a = b := by rw [ti_eq, ti_nI ha, ti_nI hb]; omega
def StSh (G : GG) (h : HP) (s : Nat) : Prop := Kd G h s 6 ∧ (hR h s 5 = some (s + 1) ∧ hR h s 6 = some (s + 2) ∧ hR h s 7 = some (s + 3) ∧ hR h s 8 = some (s + 4)) ∧ (Kd G h (s + 1) 14 ∧ hN h (s + 1) = 1600) ∧ (Kd G h (s + 2) 14 ∧ hN h (s + 2) = 144) ∧ (Kd G h (s + 3) 20 ∧ hN h (s + 3) = 31) ∧ (Kd G h (s + 4) 17 ∧ hN h (s + 4) = 6) ∧
  (∀ i, i < 31 → hR h (s + 3) i = some (s + 5 + i) ∧ Kd G h (s + 5 + i) 9) ∧ (∀ i, i < 6 → hR h (s + 4) i = some (s + 36 + i) ∧ Kd G h (s + 36 + i) 1)
theorem StSh.fr {P : Nat → Nat → Prop} {G : GG} {h h2 : HP} {s : Nat} (f : FrI P h h2) (S : StSh G h s) : StSh G h2 s := by
  obtain ⟨a1, ⟨b1, b2, b3, b4⟩, ⟨c1, c2⟩, ⟨d1, d2⟩, ⟨e1, e2⟩, ⟨g1, g2⟩, k1, k2⟩ := S
  exact ⟨f.kd a1, ⟨(f.r _ _).trans b1, (f.r _ _).trans b2, (f.r _ _).trans b3, (f.r _ _).trans b4⟩, ⟨f.kd c1, (f.n c1).trans c2⟩, ⟨f.kd d1, (f.n d1).trans d2⟩, ⟨f.kd e1, (f.n e1).trans e2⟩, ⟨f.kd g1, (f.n g1).trans g2⟩, fun i hi => ⟨(f.r _ _).trans (k1 i hi).1, f.kd (k1 i hi).2⟩, fun i hi => ⟨(f.r _ _).trans (k2 i hi).1, f.kd (k2 i hi).2⟩⟩
/-- thing t of the State at s, field k -/
def tg (h : HP) (s t k : Nat) : Int32 := hI h (s + 5 + t) k
/-- how many of the n from i on have p -/
def cntF (p : Nat → Bool) : Nat → Nat → Nat
  | _, 0 => 0
  | i, n + 1 => (if p i then 1 else 0) + cntF p (i + 1) n
theorem cntF_le (p : Nat → Bool) : ∀ n i, cntF p i n ≤ n
  | 0, _ => Nat.le_refl _
  | n + 1, i => by
    have := cntF_le p n (i + 1)
    simp only [cntF]
    split <;> omega
def wallB (A : Nat → Nat → Int32) (t : Nat) : Bool := A t 0 != 0
def ownB (A : Nat → Nat → Int32) (f : Int32) (t : Nat) : Bool := A t 0 != 0 && A t 5 == f
def outB (A : Nat → Nat → Int32) (t : Nat) : Bool := A t 0 != 0 && A t 6 == -1
/-- the first of the n from i on that has p -/
def firF (p : Nat → Bool) : Nat → Nat → Option Nat
  | _, 0 => none
  | i, n + 1 => if p i then some i else firF p (i + 1) n
section SR
variable {G : GG} {d : Nat} {h : HP} {Q : Option Value → HP → Prop} {s : Nat}
theorem th_at (S : StSh G h s) {x : Int32} {t : Nat} (hx : x.toInt = t) (ht : t < 31) {P : Nat → Nat → Prop} (hP : P (s + 3) (s + 5 + t)) : Kd G h s 6 ∧ ∃ q, hR h s 7 = some q ∧ Kd G h q 20 ∧ vp_in x (hN h q) ∧ ∃ q2, hR h q x.toNatClampNeg = some q2 ∧ Kd G h q2 9 ∧ P q q2 := by
  obtain ⟨a1, ⟨b1, b2, b3, b4⟩, -, -, ⟨e1, e2⟩, -, k1, -⟩ := S
  exact ⟨a1, s + 3, b3, e1, by rw [e2]; exact vin (by omega) (by omega), s + 5 + t, by rw [cl_ti, hx]; exact (k1 t ht).1, (k1 t ht).2, hP⟩
theorem th_in (S : StSh G h s) {x : Int32} {t : Nat} (hx : x.toInt = t) (ht : t < 31) {P : Nat → Prop} (hP : P (s + 5 + t)) : vp_in x (hN h (s + 3)) ∧ ∃ q2, hR h (s + 3) x.toNatClampNeg = some q2 ∧ Kd G h q2 9 ∧ P q2 := by
  obtain ⟨-, -, -, -, ⟨e1, e2⟩, -, k1, -⟩ := S
  exact ⟨by rw [e2]; exact vin (by omega) (by omega), s + 5 + t, by rw [cl_ti, hx]; exact (k1 t ht).1, (k1 t ht).2, hP⟩
theorem s_isThere (S : StSh G h s) {x : Int32} (hQ0 : ¬ (0 ≤ x.toInt ∧ x.toInt < 30) → Q (some (.int 0)) h) (hQ : ∀ t : Nat, x = nI t → t < 30 → Q (some (.int (if wallB (tg h s) t then 1 else 0))) h) : Cal G d mX6_isThere [.ref s, .int x] h Q := by
  refine e_X6_isThere ?_
  unfold T_X6_isThere
  have e0 : (0 : Int32).toInt = 0 := rfl
  have e30 : (30 : Int32).toInt = 30 := rfl
  refine ⟨fun c => hQ0 (by rw [ti_lt, e0] at c; omega), fun c => ⟨fun c2 => hQ0 (by rw [ti_le, e30] at c2; omega), fun c2 => ?_⟩⟩
  rw [ti_lt, e0] at c
  rw [ti_le, e30] at c2
  obtain ⟨t, hx⟩ : ∃ t : Nat, x.toInt = t := ⟨x.toInt.toNat, by omega⟩
  have hq := hQ t (nI_ti hx) (by omega)
  refine th_at S hx (by omega) ?_
  by_cases w : hI h (s + 5 + t) 0 = 0
  · have e : wallB (tg h s) t = false := by simp [wallB, tg, w]
    rw [e] at hq
    exact ⟨fun _ => hq, fun q => absurd w q⟩
  · have e : wallB (tg h s) t = true := by simp [wallB, tg, w]
    rw [e] at hq
    exact ⟨fun q => absurd q w, fun _ => hq⟩
theorem s_isWall (hd : 1 ≤ d) (S : StSh G h s) {x : Int32} (hQ0 : ¬ (6 ≤ x.toInt ∧ x.toInt < 30) → Q (some (.int 0)) h) (hQ : ∀ t : Nat, x = nI t → 6 ≤ t → t < 30 → Q (some (.int (if wallB (tg h s) t then 1 else 0))) h) : Cal G d mX6_isWall [.ref s, .int x] h Q := by
  refine e_X6_isWall hd ?_
  unfold T_X6_isWall
  have e6 : (6 : Int32).toInt = 6 := rfl
  refine ⟨fun c => hQ0 (by rw [ti_lt, e6] at c; omega), fun c => ⟨S.1, s_isThere S (fun c2 => ⟨0, rfl, fun _ => hQ0 (by omega), fun q => absurd rfl q⟩) (fun t e ht => ?_)⟩⟩
  have h6 : 6 ≤ t := by
    rw [ti_lt, e6, e, ti_nI (by omega)] at c
    omega
  have hq := hQ t e h6 ht
  cases w : wallB (tg h s) t
  · rw [w] at hq
    exact ⟨0, rfl, fun _ => hq, fun q => absurd rfl q⟩
  · rw [w] at hq
    exact ⟨1, rfl, fun q => absurd q (by decide), fun _ => hq⟩
theorem s_isOutermost (S : StSh G h s) {x : Int32} (hQ0 : ¬ (0 ≤ x.toInt ∧ x.toInt < 31) → Q (some (.int 0)) h) (hQ : ∀ t : Nat, x = nI t → t < 31 → Q (some (.int (if outB (tg h s) t then 1 else 0))) h) : Cal G d mX6_isOutermost [.ref s, .int x] h Q := by
  refine e_X6_isOutermost ?_
  unfold T_X6_isOutermost
  have e0 : (0 : Int32).toInt = 0 := rfl
  have e31 : (31 : Int32).toInt = 31 := rfl
  refine ⟨fun c => hQ0 (by rw [ti_lt, e0] at c; omega), fun c => ⟨fun c2 => hQ0 (by rw [ti_le, e31] at c2; omega), fun c2 => ?_⟩⟩
  rw [ti_lt, e0] at c
  rw [ti_le, e31] at c2
  obtain ⟨t, hx⟩ : ∃ t : Nat, x.toInt = t := ⟨x.toInt.toNat, by omega⟩
  have hq := hQ t (nI_ti hx) (by omega)
  refine th_at S hx (by omega) ?_
  by_cases w : hI h (s + 5 + t) 0 = 0
  · have e : outB (tg h s) t = false := by simp [outB, tg, w]
    rw [e] at hq
    exact ⟨fun _ => hq, fun q => absurd w q⟩
  · refine ⟨fun q => absurd q w, fun _ => th_in S hx (by omega) ?_⟩
    by_cases w2 : hI h (s + 5 + t) 6 = -1
    · have e : outB (tg h s) t = true := by simp [outB, tg, w, w2]
      rw [e] at hq
      exact ⟨fun q => absurd w2 q, fun _ => hq⟩
    · have e : outB (tg h s) t = false := by simp [outB, tg, w2]
      rw [e] at hq
      exact ⟨fun _ => hq, fun q => absurd q w2⟩
theorem s_wallCount (S : StSh G h s) (hQ : Q (some (.int (nI (cntF (wallB (tg h s)) 6 24)))) h) : Cal G d mX6_wallCount [.ref s] h Q := by
  refine e_X6_wallCount ?_
  unfold T_X6_wallCount
  have loop : ∀ n i c, i + n = 30 → Q (some (.int (nI (c + cntF (wallB (tg h s)) i n)))) h → Ex G d mX6_wallCount 5 [(0, .ref s), (1, .int (nI c)), (2, .int (nI i))] [] h Q := by
    intro n
    induction n with
    | zero =>
      intro i c hi hq
      obtain rfl : i = 30 := by omega
      exact t_X6_wallCount_5 ⟨fun _ => hq, fun q => absurd (show (30 : Int32) ≤ nI 30 by decide) q⟩
    | succ n ih =>
      intro i c hi hq
      refine t_X6_wallCount_5 ⟨fun q => ?_, fun _ => th_at S (t := i) (ti_nI (by omega)) (by omega) ?_⟩
      · have := (nI_le_iff (a := 30) (b := i) (by omega) (by omega)).mp q
        omega
      · rw [nI_S, nI_S]
        simp only [cntF] at hq
        by_cases w : hI h (s + 5 + i) 0 = 0
        · have e : wallB (tg h s) i = false := by simp [wallB, tg, w]
          rw [e] at hq
          exact ⟨fun _ => ih (i + 1) c (by omega) (by simpa using hq), fun q => absurd w q⟩
        · have e : wallB (tg h s) i = true := by simp [wallB, tg, w]
          rw [e] at hq
          exact ⟨fun q => absurd q w, fun _ => ih (i + 1) (c + 1) (by omega) (by simpa [Nat.add_assoc] using hq)⟩
  exact loop 24 6 0 rfl (by simpa using hQ)
theorem s_wallsOf (S : StSh G h s) {f : Int32} (hQ : Q (some (.int (nI (cntF (ownB (tg h s) f) 6 24)))) h) : Cal G d mX6_wallsOf [.ref s, .int f] h Q := by
  refine e_X6_wallsOf ?_
  unfold T_X6_wallsOf
  have loop : ∀ n i c, i + n = 30 → Q (some (.int (nI (c + cntF (ownB (tg h s) f) i n)))) h → Ex G d mX6_wallsOf 5 [(0, .ref s), (1, .int f), (2, .int (nI c)), (3, .int (nI i))] [] h Q := by
    intro n
    induction n with
    | zero =>
      intro i c hi hq
      obtain rfl : i = 30 := by omega
      exact t_X6_wallsOf_5 ⟨fun _ => hq, fun q => absurd (show (30 : Int32) ≤ nI 30 by decide) q⟩
    | succ n ih =>
      intro i c hi hq
      refine t_X6_wallsOf_5 ⟨fun q => ?_, fun _ => th_at S (t := i) (ti_nI (by omega)) (by omega) ?_⟩
      · have := (nI_le_iff (a := 30) (b := i) (by omega) (by omega)).mp q
        omega
      · rw [nI_S, nI_S]
        simp only [cntF] at hq
        by_cases w : hI h (s + 5 + i) 0 = 0
        · have e : ownB (tg h s) f i = false := by simp [ownB, tg, w]
          rw [e] at hq
          exact ⟨fun _ => ih (i + 1) c (by omega) (by simpa using hq), fun q => absurd w q⟩
        · refine ⟨fun q => absurd q w, fun _ => th_in S (t := i) (ti_nI (by omega)) (by omega) ?_⟩
          by_cases w2 : hI h (s + 5 + i) 5 = f
          · have e : ownB (tg h s) f i = true := by simp [ownB, tg, w, w2]
            rw [e] at hq
            exact ⟨fun q => absurd w2 q, fun _ => ih (i + 1) (c + 1) (by omega) (by simpa [Nat.add_assoc] using hq)⟩
          · have e : ownB (tg h s) f i = false := by simp [ownB, tg, w2]
            rw [e] at hq
            exact ⟨fun _ => ih (i + 1) c (by omega) (by simpa using hq), fun q => absurd q w2⟩
  exact loop 24 6 0 rfl (by simpa using hQ)
theorem s_nestCount (hd : 1 ≤ d) (S : StSh G h s) (hQ : Q (some (.int (nI (cntF (outB (tg h s)) 0 30)))) h) : Cal G d mX6_nestCount [.ref s] h Q := by
  refine e_X6_nestCount ?_
  unfold T_X6_nestCount
  have loop : ∀ n i c, i + n = 30 → Q (some (.int (nI (c + cntF (outB (tg h s)) i n)))) h → Ex G d mX6_nestCount 4 [(0, .ref s), (1, .int (nI c)), (2, .int (nI i))] [] h Q := by
    intro n
    induction n with
    | zero =>
      intro i c hi hq
      obtain rfl : i = 30 := by omega
      exact t_X6_nestCount_4 hd ⟨fun _ => hq, fun q => absurd (show (30 : Int32) ≤ nI 30 by decide) q⟩
    | succ n ih =>
      intro i c hi hq
      refine t_X6_nestCount_4 hd ⟨fun q => ?_, fun _ => ⟨S.1, s_isOutermost S (fun q => absurd ⟨by rw [ti_nI (by omega)]; omega, by rw [ti_nI (by omega)]; omega⟩ q) (fun t e ht => ?_)⟩⟩
      · have := (nI_le_iff (a := 30) (b := i) (by omega) (by omega)).mp q
        omega
      · obtain rfl : i = t := (nI_eq_iff (by omega) (by omega)).mp e
        rw [nI_S, nI_S]
        simp only [cntF] at hq
        cases w : outB (tg h s) i
        · rw [w] at hq
          exact ⟨0, rfl, fun _ => ih (i + 1) c (by omega) (by simpa using hq), fun q => absurd rfl q⟩
        · rw [w] at hq
          exact ⟨1, rfl, fun q => absurd q (by decide), fun _ => ih (i + 1) (c + 1) (by omega) (by simpa [Nat.add_assoc] using hq)⟩
  exact loop 30 0 0 rfl (by simpa using hQ)
/-- a number, or -1 -/
def onI : Option Nat → Int32
  | none => -1
  | some n => nI n
theorem s_freeNumber (S : StSh G h s) (hQ : Q (some (.int (onI (firF (fun t => !wallB (tg h s) t) 6 24)))) h) : Cal G d mX6_freeNumber [.ref s] h Q := by
  refine e_X6_freeNumber ?_
  unfold T_X6_freeNumber
  have loop : ∀ n i, i + n = 30 → Q (some (.int (onI (firF (fun t => !wallB (tg h s) t) i n)))) h → Ex G d mX6_freeNumber 3 [(0, .ref s), (1, .int (nI i))] [] h Q := by
    intro n
    induction n with
    | zero =>
      intro i hi hq
      obtain rfl : i = 30 := by omega
      exact t_X6_freeNumber_3 ⟨fun _ => hq, fun q => absurd (show (30 : Int32) ≤ nI 30 by decide) q⟩
    | succ n ih =>
      intro i hi hq
      refine t_X6_freeNumber_3 ⟨fun q => ?_, fun _ => th_at S (t := i) (ti_nI (by omega)) (by omega) ?_⟩
      · have := (nI_le_iff (a := 30) (b := i) (by omega) (by omega)).mp q
        omega
      · rw [nI_S]
        simp only [firF] at hq
        by_cases w : hI h (s + 5 + i) 0 = 0
        · have e : wallB (tg h s) i = false := by simp [wallB, tg, w]
          simp only [e, Bool.not_false, if_true] at hq
          exact ⟨fun q => absurd w q, fun _ => hq⟩
        · have e : wallB (tg h s) i = true := by simp [wallB, tg, w]
          simp [e] at hq
          exact ⟨fun _ => ih (i + 1) (by omega) hq, fun q => absurd q w⟩
  exact loop 24 6 rfl hQ
end SR
