/-! ===== the best of many ===== -/
/-- margins of a number: left, up, right, down -/
def mgN (m i : Nat) : Nat → Nat
  | 0 => i / m / m / m % m + 1
  | 1 => i / m / m % m + 1
  | 2 => i / m % m + 1
  | _ => i % m + 1
theorem mgN_le {m i j : Nat} (hm : 0 < m) : 1 ≤ mgN m i j ∧ mgN m i j ≤ m := by
  have h : ∀ x, x % m < m := fun x => Nat.mod_lt x hm
  match j with
  | 0 => have := h (i / m / m / m); simp only [mgN]; omega
  | 1 => have := h (i / m / m); simp only [mgN]; omega
  | 2 => have := h (i / m); simp only [mgN]; omega
  | j + 3 => have := h i; simp only [mgN]; omega
/-- the rectangle of a number -/
def rcX (A : Nat → Nat → Int32) (a : Nat) (ob : Option Nat) (m i : Nat) : Int32 := corI A a ob 1 - nI (mgN m i 0)
def rcZ (A : Nat → Nat → Int32) (a : Nat) (ob : Option Nat) (m i : Nat) : Int32 := corI A a ob 2 - nI (mgN m i 1)
def rcTX (A : Nat → Nat → Int32) (a : Nat) (ob : Option Nat) (m i : Nat) : Int32 := corI A a ob 3 + nI (mgN m i 2)
def rcTZ (A : Nat → Nat → Int32) (a : Nat) (ob : Option Nat) (m i : Nat) : Int32 := corI A a ob 4 + nI (mgN m i 3)
def lnI (x z tx tz : Int32) : Int32 := 2 * (((tx - x) + tz) - z)
abbrev Acc : Type := Option (Nat × Int64 × Int32)
/-- one more is weighed -/
def weS (can : Nat → Bool) (val : Nat → Int64) (ln : Nat → Int32) (i : Nat) : Acc → Acc
  | none => if can i then some (i, val i, ln i) else none
  | some q => if can i && (decide (0 < lg_cmp (val i) q.2.1) || (decide (lg_cmp (val i) q.2.1 = 0) && decide (ln i < q.2.2))) then some (i, val i, ln i) else some q
noncomputable def canB (S : Nat → Int32) (C : List Cla) (jn : Prop) (f : Nat) (a : Nat) (ob : Option Nat) (m i : Nat) : Bool := @decide (canV S C jn f (rcX (tS S) a ob m i) (rcZ (tS S) a ob m i) (rcTX (tS S) a ob m i) (rcTZ (tS S) a ob m i) a ob) (Classical.propDecidable _)
theorem canB_iff {S : Nat → Int32} {C : List Cla} {jn : Prop} {f : Nat} {a : Nat} {ob : Option Nat} {m i : Nat} : canB S C jn f a ob m i = true ↔ canV S C jn f (rcX (tS S) a ob m i) (rcZ (tS S) a ob m i) (rcTX (tS S) a ob m i) (rcTZ (tS S) a ob m i) a ob := by
  unfold canB
  exact @decide_eq_true_iff _ (Classical.propDecidable _)
noncomputable def valF (S : Nat → Int32) (D : List Cla) (f : Nat) (a : Nat) (ob : Option Nat) (m i : Nat) : Int64 := totF (wdF S f (rcX (tS S) a ob m i) (rcZ (tS S) a ob m i) (rcTX (tS S) a ob m i) (rcTZ (tS S) a ob m i) a ob) D 0
def lnF (S : Nat → Int32) (a : Nat) (ob : Option Nat) (m i : Nat) : Int32 := lnI (rcX (tS S) a ob m i) (rcZ (tS S) a ob m i) (rcTX (tS S) a ob m i) (rcTZ (tS S) a ob m i)
section SE
variable {G : GG} {d : Nat} {Q : Option Value → HP → Prop}
theorem m4 {m : Nat} (hm : m ≤ 5) : nI m * nI m * nI m * nI m = nI (m * m * m * m) ∧ m * m * m * m ≤ 625 := by
  refine ⟨by rw [nM, nM, nM], ?_⟩
  have : m = 0 ∨ m = 1 ∨ m = 2 ∨ m = 3 ∨ m = 4 ∨ m = 5 := by omega
  rcases this with rfl | rfl | rfl | rfl | rfl | rfl <;> omega
/-- a plan spread by a number -/
theorem s_spreadBy {h : HP} {P m i : Nat} (hd : 1 ≤ d) (k : Kd G h P 3) (hm : 1 ≤ m) (hm5 : m ≤ 5) (hi : i < 1000) {c1 c2 c3 c4 : Int32} (e1 : hI h P 9 = c1) (e2 : hI h P 10 = c2) (e3 : hI h P 11 = c3) (e4 : hI h P 12 = c4) (hQ : ∀ h2, FrI (fun c j => c = P ∧ ((1 ≤ j ∧ j ≤ 4) ∨ (13 ≤ j ∧ j ≤ 16))) h h2 → (hI h2 P 1 = c1 - nI (mgN m i 0) ∧ hI h2 P 2 = c2 - nI (mgN m i 1) ∧ hI h2 P 3 = c3 + nI (mgN m i 2) ∧ hI h2 P 4 = c4 + nI (mgN m i 3)) → (∀ j, j < 4 → hI h2 P (13 + j) = nI (mgN m i j)) → Q none h2) : Cal G d mX3_spreadBy [.ref P, .int (nI i), .int (nI m)] h Q := by
  have n0 : ∀ k, 0 < k → k < 1000 → ¬ nI k = 0 := fun k h1 h2 q => by
    have := (nI_eq_iff (a := k) (b := 0) (by omega) (by omega)).mp q
    omega
  have mm : 1 ≤ m * m ∧ m * m ≤ 25 ∧ 1 ≤ m * m * m ∧ m * m * m ≤ 125 := by
    have : m = 1 ∨ m = 2 ∨ m = 3 ∨ m = 4 ∨ m = 5 := by omega
    rcases this with rfl | rfl | rfl | rfl | rfl <;> omega
  have r0 : 1 + irm (nI i / (nI m * nI m * nI m)) (nI m) = nI (mgN m i 0) := by
    have hd' := Nat.div_le_self i (m * m * m)
    rw [nM, nM, nD (by omega) (by omega), nR (by omega) (by omega)]
    show nI 1 + _ = _
    rw [nA]
    simp only [mgN]
    rw [Nat.div_div_eq_div_mul, Nat.div_div_eq_div_mul, Nat.mul_assoc, Nat.add_comm]
  have r1 : 1 + irm (nI i / (nI m * nI m)) (nI m) = nI (mgN m i 1) := by
    have hd' := Nat.div_le_self i (m * m)
    rw [nM, nD (by omega) (by omega), nR (by omega) (by omega)]
    show nI 1 + _ = _
    rw [nA]
    simp only [mgN]
    rw [Nat.div_div_eq_div_mul, Nat.add_comm]
  have r2 : 1 + irm (nI i / nI m) (nI m) = nI (mgN m i 2) := by
    have hd' := Nat.div_le_self i m
    rw [nD (by omega) (by omega), nR (by omega) (by omega)]
    show nI 1 + _ = _
    rw [nA, Nat.add_comm]
    rfl
  have r3 : 1 + irm (nI i) (nI m) = nI (mgN m i 3) := by
    rw [nR (by omega) (by omega)]
    show nI 1 + _ = _
    rw [nA, Nat.add_comm]
    rfl
  refine e_X3_spreadBy hd ⟨fun q => ?_, fun _ => ⟨?_, n0 m (by omega) (by omega), ?_, n0 m (by omega) (by omega), n0 m (by omega) (by omega), n0 m (by omega) (by omega), n0 m (by omega) (by omega), k, ?_⟩⟩
  · have := (nI_le_iff (a := m) (b := 0) (by omega) (by omega)).mp q
    omega
  · rw [nM, nM]; exact n0 _ (by omega) (by omega)
  · rw [nM]; exact n0 _ (by omega) (by omega)
  rw [r0, r1, r2, r3]
  refine s_spread k (fun h2 F v l => ⟨rfl, hQ h2 F ?_ (fun j hj => ?_)⟩)
  · rw [← e1, ← e2, ← e3, ← e4]; exact v
  · have : j = 0 ∨ j = 1 ∨ j = 2 ∨ j = 3 := by omega
    rcases this with rfl | rfl | rfl | rfl
    · exact l.1
    · exact l.2.1
    · exact l.2.2.1
    · exact l.2.2.2
/-- a Choice holds what was found -/
def ChI (h : HP) (Ch m : Nat) (cnt : Nat) (q : Acc) : Prop := hI h Ch 0 = nI cnt ∧ (q = none ↔ cnt = 0) ∧ ∀ r, q = some r → hL h Ch 1 = r.2.1 ∧ hI h Ch 2 = r.2.2 ∧ ∀ j, j < 4 → hI h Ch (3 + j) = nI (mgN m r.1 j)
def SeI (P Ch a k : Nat) : Prop := (a = P ∧ ((1 ≤ k ∧ k ≤ 4) ∨ k = 8 ∨ (13 ≤ k ∧ k ≤ 16))) ∨ a = Ch
theorem s_weigh {h : HP} {P Ch m i cnt : Nat} {x z tx tz : Int32} {v : Int64} {q : Acc} (hd : 1 ≤ d) (kP : Kd G h P 3) (kC : Kd G h Ch 0) (hne : P ≠ Ch) (hx : hI h P 1 = x ∧ hI h P 2 = z ∧ hI h P 3 = tx ∧ hI h P 4 = tz) (hl : ∀ j, j < 4 → hI h P (13 + j) = nI (mgN m i j)) (hc : cnt < 1000000) (H : ChI h Ch m cnt q) (can : Nat → Bool) (val : Nat → Int64) (ln : Nat → Int32) (hcan : can i = true) (hv : val i = v) (hln : ln i = lnI x z tx tz) (hQ : ∀ h2, FrS (fun a _ => a = Ch) (fun a _ => a = Ch) h h2 → ChI h2 Ch m (cnt + 1) (weS can val ln i q) → Q none h2) : Cal G d mX0_weigh [.ref Ch, .long v, .ref P] h Q := by
  obtain ⟨c0, c1, c2⟩ := H
  obtain ⟨p1, p2, p3, p4⟩ := hx
  have el : 2 * (((hI h P 3 - hI h P 1) + hI h P 4) - hI h P 2) = ln i := by
    rw [p1, p2, p3, p4, hln]; rfl
  have take : weS can val ln i q = some (i, v, ln i) → Ex G d mX0_weigh 40 [(0, .ref Ch), (1, .long v), (3, .ref P), (4, .int (ln i))] [] h Q := by
    intro ew
    refine t_X0_weigh_40 ⟨kC, kP.up ((kp_sL ..).tr (kp_sI ..)), fun h3 g3 h6 g6 => ?_⟩
    have l0 := hl 0 (by omega)
    have l1 := hl 1 (by omega)
    have l2 := hl 2 (by omega)
    have l3 := hl 3 (by omega)
    have F : FrS (fun a _ => a = Ch) (fun a _ => a = Ch) h h6 := by
      rw [g6, g3]
      exact (((((((frS_sL (PI := fun a _ => a = Ch) (PL := fun a _ => a = Ch) h v rfl).tr (frS_sI _ _ rfl)).tr (frS_sI _ _ rfl)).tr (frS_sI _ _ rfl)).tr (frS_sI _ _ rfl)).tr (frS_sI _ _ rfl)).tr (frS_sI _ _ rfl))
    refine hQ h6 F ?_
    rw [ew]
    refine ⟨?_, ⟨fun z => (by cases z), fun z => by omega⟩, fun r er => ?_⟩
    · rw [g6, hI_eq, hI_ne _ _ (Or.inr (by omega)), hI_ne _ _ (Or.inr (by omega)), g3, hI_ne _ _ (Or.inr (by omega)), hI_ne _ _ (Or.inr (by omega)), hI_ne _ _ (Or.inr (by omega)), hI_sL, c0, nI_S]
    · obtain rfl : (i, v, ln i) = r := Option.some.inj er
      refine ⟨?_, ?_, fun j hj => ?_⟩
      · rw [g6, g3]
        simp [hL_sI, hL_sL]
      · rw [g6, hI_ne _ _ (Or.inr (by omega)), hI_ne _ _ (Or.inr (by omega)), hI_ne _ _ (Or.inr (by omega)), g3, hI_ne _ _ (Or.inr (by omega)), hI_ne _ _ (Or.inr (by omega)), hI_eq]
      · have : j = 0 ∨ j = 1 ∨ j = 2 ∨ j = 3 := by omega
        rcases this with rfl | rfl | rfl | rfl
        · rw [← l0, g6, g3]; simp [hI_sI, hI_sL, hne]
        · rw [← l1, g6, g3]; simp [hI_sI, hI_sL, hne]
        · rw [← l2, g6, g3]; simp [hI_sI, hI_sL, hne]
        · rw [← l3, g6, g3]; simp [hI_sI, hI_sL, hne]
  have keep : weS can val ln i q = q → cnt ≠ 0 → Q none (sI h Ch 0 (nI cnt + 1)) := by
    intro ew n0
    refine hQ _ (frS_sI _ _ rfl) ?_
    rw [ew]
    refine ⟨by rw [hI_eq, nI_S], ⟨fun z => absurd (c1.mp z) n0, fun z => by omega⟩, fun r er => ?_⟩
    obtain ⟨r1, r2, r3⟩ := c2 r er
    exact ⟨r1, by rw [hI_ne _ _ (Or.inr (by omega))]; exact r2, fun j hj => by rw [hI_ne _ _ (Or.inr (by omega))]; exact r3 j hj⟩
  refine e_X0_weigh hd ⟨kP, e_X3_line ⟨kP, _, rfl, kC, ?_⟩⟩
  rw [el, c0]
  cases q with
  | none =>
    have z0 := c1.mp rfl
    subst z0
    refine ⟨fun _ => take (by simp [weS, hcan, hv]), fun z => absurd rfl z⟩
  | some r =>
    obtain ⟨r1, r2, -⟩ := c2 r rfl
    have cn0 : cnt ≠ 0 := fun z => by
      have := c1.mpr z
      cases this
    have cn : ¬ nI cnt = 0 := fun z => cn0 ((nI_eq_iff (b := 0) (by omega) (by omega)).mp z)
    rw [r1, r2]
    refine ⟨fun z => absurd z cn, fun _ => ⟨fun z => take ?_, fun z => ⟨fun z2 => keep ?_ cn0, fun z2 => ⟨fun z3 => keep ?_ cn0, fun z3 => take ?_⟩⟩⟩⟩
    · simp [weS, hcan, hv, z]
    · simp [weS, hcan, hv, z, z2]
    · have : ¬ ln i < r.2.2 := fun q => by
        rw [ti_le] at z3
        rw [ti_lt] at q
        omega
      simp [weS, hcan, hv, z, this]
    · have : ln i < r.2.2 := by
        rw [ti_le] at z3
        rw [ti_lt]
        omega
      simp [weS, hcan, hv, z2, this]
end SE
