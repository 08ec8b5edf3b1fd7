/-! ===== the best of many ===== -/
/-- margins of a number: left, up, right, down -/
def mgN (m i : Nat) : Nat → Nat
  | 0 => i / m / m / m % m + 1
  | 1 => i / m / m % m + 1
  | 2 => i / m % m + 1
  | _ => i % m + 1
theorem mgN_le {m i j : Nat} (hm : 0 < m) : 1 ≤ mgN m i j ∧ mgN m i j ≤ m := by
  have h : ∀ x, x % m < m := fun x => Nat.mod_lt x hm
  match j with
  | 0 => have := h (i / m / m / m); simp only [mgN]; omega
  | 1 => have := h (i / m / m); simp only [mgN]; omega
  | 2 => have := h (i / m); simp only [mgN]; omega
  | j + 3 => have := h i; simp only [mgN]; omega
/-- the rectangle of a number -/
def rcX (A : Nat → Nat → Int32) (a : Nat) (ob : Option Nat) (m i : Nat) : Int32 := corI A a ob 1 - nI (mgN m i 0)
def rcZ (A : Nat → Nat → Int32) (a : Nat) (ob : Option Nat) (m i : Nat) : Int32 := corI A a ob 2 - nI (mgN m i 1)
def rcTX (A : Nat → Nat → Int32) (a : Nat) (ob : Option Nat) (m i : Nat) : Int32 := corI A a ob 3 + nI (mgN m i 2)
def rcTZ (A : Nat → Nat → Int32) (a : Nat) (ob : Option Nat) (m i : Nat) : Int32 := corI A a ob 4 + nI (mgN m i 3)
def lnI (x z tx tz : Int32) : Int32 := 2 * (((tx - x) + tz) - z)
abbrev Acc : Type := Option (Nat × Int64 × Int32)
/-- one more is weighed -/
def weS (can : Nat → Bool) (val : Nat → Int64) (ln : Nat → Int32) (i : Nat) : Acc → Acc
  | none => if can i then some (i, val i, ln i) else none
  | some q => if can i && (decide (0 < lg_cmp (val i) q.2.1) || (decide (lg_cmp (val i) q.2.1 = 0) && decide (ln i < q.2.2))) then some (i, val i, ln i) else some q
noncomputable def canB (S : Nat → Int32) (C : List Cla) (jn : Prop) (f : Nat) (a : Nat) (ob : Option Nat) (m i : Nat) : Bool := @decide (canV S C jn f (rcX (tS S) a ob m i) (rcZ (tS S) a ob m i) (rcTX (tS S) a ob m i) (rcTZ (tS S) a ob m i) a ob) (Classical.propDecidable _)
theorem canB_iff {S : Nat → Int32} {C : List Cla} {jn : Prop} {f : Nat} {a : Nat} {ob : Option Nat} {m i : Nat} : canB S C jn f a ob m i = true ↔ canV S C jn f (rcX (tS S) a ob m i) (rcZ (tS S) a ob m i) (rcTX (tS S) a ob m i) (rcTZ (tS S) a ob m i) a ob := by
  unfold canB
  exact @decide_eq_true_iff _ (Classical.propDecidable _)
noncomputable def valF (S : Nat → Int32) (D : List Cla) (f : Nat) (a : Nat) (ob : Option Nat) (m i : Nat) : Int64 := totF (wdF S f (rcX (tS S) a ob m i) (rcZ (tS S) a ob m i) (rcTX (tS S) a ob m i) (rcTZ (tS S) a ob m i) a ob) D 0
def lnF (S : Nat → Int32) (a : Nat) (ob : Option Nat) (m i : Nat) : Int32 := lnI (rcX (tS S) a ob m i) (rcZ (tS S) a ob m i) (rcTX (tS S) a ob m i) (rcTZ (tS S) a ob m i)
section SE
variable {G : GG} {d : Nat} {Q : Option Value → HP → Prop}
theorem m4 {m : Nat} (hm : m ≤ 5) : nI m * nI m * nI m * nI m = nI (m * m * m * m) ∧ m * m * m * m ≤ 625 := by
  refine ⟨by rw [nM, nM, nM], ?_⟩
  have : m = 0 ∨ m = 1 ∨ m = 2 ∨ m = 3 ∨ m = 4 ∨ m = 5 := by omega
  rcases this with rfl | rfl | rfl | rfl | rfl | rfl <;> omega
/-- a plan spread by a number -/
theorem s_spreadBy {h : HP} {P m i : Nat} (hd : 1 ≤ d) (k : Kd G h P 3) (hm : 1 ≤ m) (hm5 : m ≤ 5) (hi : i < 1000) {c1 c2 c3 c4 : Int32} (e1 : hI h P 9 = c1) (e2 : hI h P 10 = c2) (e3 : hI h P 11 = c3) (e4 : hI h P 12 = c4) (hQ : ∀ h2, FrI (fun c j => c = P ∧ ((1 ≤ j ∧ j ≤ 4) ∨ (13 ≤ j ∧ j ≤ 16))) h h2 → (hI h2 P 1 = c1 - nI (mgN m i 0) ∧ hI h2 P 2 = c2 - nI (mgN m i 1) ∧ hI h2 P 3 = c3 + nI (mgN m i 2) ∧ hI h2 P 4 = c4 + nI (mgN m i 3)) → (∀ j, j < 4 → hI h2 P (13 + j) = nI (mgN m i j)) → Q none h2) : Cal G d mX3_spreadBy [.ref P, .int (nI i), .int (nI m)] h Q := by
  have n0 : ∀ k, 0 < k → k < 1000 → ¬ nI k = 0 := fun k h1 h2 q => by
    have := (nI_eq_iff (a := k) (b := 0) (by omega) (by omega)).mp q
    omega
  have mm : 1 ≤ m * m ∧ m * m ≤ 25 ∧ 1 ≤ m * m * m ∧ m * m * m ≤ 125 := by
    have : m = 1 ∨ m = 2 ∨ m = 3 ∨ m = 4 ∨ m = 5 := by omega
    rcases this with rfl | rfl | rfl | rfl | rfl <;> omega
  have r0 : 1 + irm (nI i / (nI m * nI m * nI m)) (nI m) = nI (mgN m i 0) := by
    have hd' := Nat.div_le_self i (m * m * m)
    rw [nM, nM, nD (by omega) (by omega), nR (by omega) (by omega)]
    show nI 1 + _ = _
    rw [nA]
    simp only [mgN]
    rw [Nat.div_div_eq_div_mul, Nat.div_div_eq_div_mul, Nat.mul_assoc, Nat.add_comm]
  have r1 : 1 + irm (nI i / (nI m * nI m)) (nI m) = nI (mgN m i 1) := by
    have hd' := Nat.div_le_self i (m * m)
    rw [nM, nD (by omega) (by omega), nR (by omega) (by omega)]
    show nI 1 + _ = _
    rw [nA]
    simp only [mgN]
    rw [Nat.div_div_eq_div_mul, Nat.add_comm]
  have r2 : 1 + irm (nI i / nI m) (nI m) = nI (mgN m i 2) := by
    have hd' := Nat.div_le_self i m
    rw [nD (by omega) (by omega), nR (by omega) (by omega)]
    show nI 1 + _ = _
    rw [nA, Nat.add_comm]
    rfl
  have r3 : 1 + irm (nI i) (nI m) = nI (mgN m i 3) := by
    rw [nR (by omega) (by omega)]
    show nI 1 + _ = _
    rw [nA, Nat.add_comm]
    rfl
  refine e_X3_spreadBy hd ⟨fun q => ?_, fun _ => ⟨?_, n0 m (by omega) (by omega), ?_, n0 m (by omega) (by omega), n0 m (by omega) (by omega), n0 m (by omega) (by omega), n0 m (by omega) (by omega), k, ?_⟩⟩
  · have := (nI_le_iff (a := m) (b := 0) (by omega) (by omega)).mp q
    omega
  · rw [nM, nM]; exact n0 _ (by omega) (by omega)
  · rw [nM]; exact n0 _ (by omega) (by omega)
  rw [r0, r1, r2, r3]
  refine s_spread k (fun h2 F v l => ⟨rfl, hQ h2 F ?_ (fun j hj => ?_)⟩)
  · rw [← e1, ← e2, ← e3, ← e4]; exact v
  · have : j = 0 ∨ j = 1 ∨ j = 2 ∨ j = 3 := by omega
    rcases this with rfl | rfl | rfl | rfl
    · exact l.1
    · exact l.2.1
    · exact l.2.2.1
    · exact l.2.2.2
/-- a Choice holds what was found -/
def ChI (h : HP) (Ch m : Nat) (cnt : Nat) (q : Acc) : Prop := hI h Ch 0 = nI cnt ∧ (q = none ↔ cnt = 0) ∧ ∀ r, q = some r → hL h Ch 1 = r.2.1 ∧ hI h Ch 2 = r.2.2 ∧ ∀ j, j < 4 → hI h Ch (3 + j) = nI (mgN m r.1 j)
def SeI (P Ch a k : Nat) : Prop := (a = P ∧ ((1 ≤ k ∧ k ≤ 4) ∨ k = 8 ∨ (13 ≤ k ∧ k ≤ 16))) ∨ a = Ch
theorem s_weigh {h : HP} {P Ch m i cnt : Nat} {x z tx tz : Int32} {v : Int64} {q : Acc} (hd : 1 ≤ d) (kP : Kd G h P 3) (kC : Kd G h Ch 0) (hne : P ≠ Ch) (hx : hI h P 1 = x ∧ hI h P 2 = z ∧ hI h P 3 = tx ∧ hI h P 4 = tz) (hl : ∀ j, j < 4 → hI h P (13 + j) = nI (mgN m i j)) (hc : cnt < 1000000) (H : ChI h Ch m cnt q) (can : Nat → Bool) (val : Nat → Int64) (ln : Nat → Int32) (hcan : can i = true) (hv : val i = v) (hln : ln i = lnI x z tx tz) (hQ : ∀ h2, FrS (fun a _ => a = Ch) (fun a _ => a = Ch) h h2 → ChI h2 Ch m (cnt + 1) (weS can val ln i q) → Q none h2) : Cal G d mX0_weigh [.ref Ch, .long v, .ref P] h Q := by
  obtain ⟨c0, c1, c2⟩ := H
  obtain ⟨p1, p2, p3, p4⟩ := hx
  have el : 2 * (((hI h P 3 - hI h P 1) + hI h P 4) - hI h P 2) = ln i := by
    rw [p1, p2, p3, p4, hln]; rfl
  have take : weS can val ln i q = some (i, v, ln i) → Ex G d mX0_weigh 40 [(0, .ref Ch), (1, .long v), (3, .ref P), (4, .int (ln i))] [] h Q := by
    intro ew
    refine t_X0_weigh_40 ⟨kC, kP.up ((kp_sL ..).tr (kp_sI ..)), fun h3 g3 h6 g6 => ?_⟩
    have l0 := hl 0 (by omega)
    have l1 := hl 1 (by omega)
    have l2 := hl 2 (by omega)
    have l3 := hl 3 (by omega)
    have F : FrS (fun a _ => a = Ch) (fun a _ => a = Ch) h h6 := by
      rw [g6, g3]
      exact (((((((frS_sL (PI := fun a _ => a = Ch) (PL := fun a _ => a = Ch) h v rfl).tr (frS_sI _ _ rfl)).tr (frS_sI _ _ rfl)).tr (frS_sI _ _ rfl)).tr (frS_sI _ _ rfl)).tr (frS_sI _ _ rfl)).tr (frS_sI _ _ rfl))
    refine hQ h6 F ?_
    rw [ew]
    refine ⟨?_, ⟨fun z => (by cases z), fun z => by omega⟩, fun r er => ?_⟩
    · rw [g6, hI_eq, hI_ne _ _ (Or.inr (by omega)), hI_ne _ _ (Or.inr (by omega)), g3, hI_ne _ _ (Or.inr (by omega)), hI_ne _ _ (Or.inr (by omega)), hI_ne _ _ (Or.inr (by omega)), hI_sL, c0, nI_S]
    · obtain rfl : (i, v, ln i) = r := Option.some.inj er
      refine ⟨?_, ?_, fun j hj => ?_⟩
      · rw [g6, g3]
        simp [hL_sI, hL_sL]
      · rw [g6, hI_ne _ _ (Or.inr (by omega)), hI_ne _ _ (Or.inr (by omega)), hI_ne _ _ (Or.inr (by omega)), g3, hI_ne _ _ (Or.inr (by omega)), hI_ne _ _ (Or.inr (by omega)), hI_eq]
      · have : j = 0 ∨ j = 1 ∨ j = 2 ∨ j = 3 := by omega
        rcases this with rfl | rfl | rfl | rfl
        · rw [← l0, g6, g3]; simp [hI_sI, hI_sL, hne]
        · rw [← l1, g6, g3]; simp [hI_sI, hI_sL, hne]
        · rw [← l2, g6, g3]; simp [hI_sI, hI_sL, hne]
        · rw [← l3, g6, g3]; simp [hI_sI, hI_sL, hne]
  have keep : weS can val ln i q = q → cnt ≠ 0 → Q none (sI h Ch 0 (nI cnt + 1)) := by
    intro ew n0
    refine hQ _ (frS_sI _ _ rfl) ?_
    rw [ew]
    refine ⟨by rw [hI_eq, nI_S], ⟨fun z => absurd (c1.mp z) n0, fun z => by omega⟩, fun r er => ?_⟩
    obtain ⟨r1, r2, r3⟩ := c2 r er
    exact ⟨r1, by rw [hI_ne _ _ (Or.inr (by omega))]; exact r2, fun j hj => by rw [hI_ne _ _ (Or.inr (by omega))]; exact r3 j hj⟩
  refine e_X0_weigh hd ⟨kP, e_X3_line ⟨kP, _, rfl, kC, ?_⟩⟩
  rw [el, c0]
  cases q with
  | none =>
    have z0 := c1.mp rfl
    subst z0
    refine ⟨fun _ => take (by simp [weS, hcan, hv]), fun z => absurd rfl z⟩
  | some r =>
    obtain ⟨r1, r2, -⟩ := c2 r rfl
    have cn0 : cnt ≠ 0 := fun z => by
      have := c1.mpr z
      cases this
    have cn : ¬ nI cnt = 0 := fun z => cn0 ((nI_eq_iff (b := 0) (by omega) (by omega)).mp z)
    rw [r1, r2]
    refine ⟨fun z => absurd z cn, fun _ => ⟨fun z => take ?_, fun z => ⟨fun z2 => keep ?_ cn0, fun z2 => ⟨fun z3 => keep ?_ cn0, fun z3 => take ?_⟩⟩⟩⟩
    · simp [weS, hcan, hv, z]
    · simp [weS, hcan, hv, z, z2]
    · have : ¬ ln i < r.2.2 := fun q => by
        rw [ti_le] at z3
        rw [ti_lt] at q
        omega
      simp [weS, hcan, hv, z, this]
    · have : ln i < r.2.2 := by
        rw [ti_le] at z3
        rw [ti_lt]
        omega
      simp [weS, hcan, hv, z2, this]

def weC (can : Nat → Bool) (val : Nat → Int64) (ln : Nat → Int32) (i : Nat) (p : Nat × Acc) : Nat × Acc := (if can i then p.1 + 1 else p.1, weS can val ln i p.2)
theorem weC_no {can : Nat → Bool} {val : Nat → Int64} {ln : Nat → Int32} {i : Nat} (h : can i = false) (p : Nat × Acc) : weC can val ln i p = p := by
  obtain ⟨c, q⟩ := p
  cases q with
  | none => simp [weC, weS, h]
  | some r => simp [weC, weS, h]
theorem weC_yes {can : Nat → Bool} {val : Nat → Int64} {ln : Nat → Int32} {i : Nat} (h : can i = true) (p : Nat × Acc) : weC can val ln i p = (p.1 + 1, weS can val ln i p.2) := by
  simp [weC, h]
theorem weC_le {can : Nat → Bool} {val : Nat → Int64} {ln : Nat → Int32} {i : Nat} {p : Nat × Acc} (h : p.1 ≤ i) : (weC can val ln i p).1 ≤ i + 1 := by
  simp only [weC]
  split <;> omega
/-- what a search finds -/
def seF (can : Nat → Bool) (val : Nat → Int64) (ln : Nat → Int32) (m : Nat) : Nat × Acc := foldF (weC can val ln) (0, none) 0 (m * m * m * m)
noncomputable def valO (S : Nat → Int32) (oD : Option (List Cla)) (f : Nat) (a : Nat) (ob : Option Nat) (m i : Nat) : Int64 :=
  match oD with
  | none => 0
  | some D => valF S D f a ob m i
def WiX (G : GG) (h : HP) (P lo : Nat) : Option Nat → Option (List Cla) → Prop
  | none, none => True
  | some w, some D => ScrC G h w D ∧ D.length ≤ 12 ∧ (∀ q ∈ D, ClaP q) ∧ lo ≤ w
  | _, _ => False
theorem ScrC.fs {PI PL : Nat → Nat → Prop} {h h2 : HP} {a : Nat} {C : List Cla} (F : FrS PI PL h h2) (hp : ∀ x k, PI x k → x < a) (S : ScrC G h a C) : ScrC G h2 a C := S.fr F.1 (fun x k _ _ => F.r x k) (fun x k h1 _ => F.i (fun z => by have := hp x k z; omega))
def SeX (G : GG) (h : HP) (b s : Nat) (S : Nat → Int32) (n P Ch A : Nat) (C : List Cla) (jn : Prop) (oW : Option Nat) (oD : Option (List Cla)) (f tc ta : Nat) (ob : Option Nat) : Prop := VwC G h b s S n ∧ PlW G h P ∧ Kd G h Ch 0 ∧ (hI h P 0 = nI f ∧ hI h P 5 = nI tc ∧ hI h P 6 = onI ob ∧ hI h P 7 = nI (supN S f)) ∧ (∀ j, 1 ≤ j → j ≤ 4 → hI h P (8 + j) = corI (tS S) ta ob j) ∧ ScrC G h A C ∧ (hI h A 0 = 0 ↔ ¬ jn) ∧ WiX G h P (b + 140) oW oD
def SeL (P Ch A : Nat) (oW : Option Nat) (a : Nat) (_ : Nat) : Prop := a = P + 1 ∨ a = A + 5 ∨ a = Ch ∨ ∃ w, oW = some w ∧ a = w + 5
theorem SeX.fs {PI PL : Nat → Nat → Prop} {h h2 : HP} {b s n P Ch A f tc ta : Nat} {S : Nat → Int32} {C : List Cla} {jn : Prop} {oW : Option Nat} {oD : Option (List Cla)} {ob : Option Nat} (F : FrS PI PL h h2) (hA : b + 140 ≤ A) (hp : ∀ a k, PI a k → (a = P ∧ ((1 ≤ k ∧ k ≤ 4) ∨ k = 8 ∨ 13 ≤ k)) ∨ (a ≠ P ∧ ¬ (s ≤ a ∧ a < s + 42) ∧ ¬ (b + 16 ≤ a ∧ a ≤ b + 20) ∧ a < b + 140)) (hP : P + 1 < s ∧ P < b + 35 ∧ b + 20 < P) (X : SeX G h b s S n P Ch A C jn oW oD f tc ta ob) : SeX G h2 b s S n P Ch A C jn oW oD f tc ta ob := by
  obtain ⟨x1, x2, x3, x4, x5, x6, x7, x8⟩ := X
  have ep : ∀ k, k = 0 ∨ (5 ≤ k ∧ k ≤ 7) ∨ (9 ≤ k ∧ k ≤ 12) → hI h2 P k = hI h P k := fun k hk => F.i (fun z => by
    rcases hp P k z with q | q
    · omega
    · exact q.1 rfl)
  refine ⟨x1.fs F (fun a k z => by
    rcases hp a k z with q | q
    · omega
    · exact ⟨q.2.1, q.2.2.1⟩), x2.fs F, F.kd x3, ⟨(ep _ (by omega)).trans x4.1, (ep _ (by omega)).trans x4.2.1, (ep _ (by omega)).trans x4.2.2.1, (ep _ (by omega)).trans x4.2.2.2⟩, fun j h1 h4 => (ep _ (by omega)).trans (x5 j h1 h4), x6.fs F (fun x k z => by
    rcases hp x k z with q | q <;> omega), ?_, ?_⟩
  · rw [F.i (fun z => by rcases hp _ _ z with q | q <;> omega)]
    exact x7
  · cases oW with
    | none => cases oD with
      | none => trivial
      | some D => exact x8.elim
    | some w => cases oD with
      | none => exact x8.elim
      | some D =>
        obtain ⟨y1, y2, y3, y4⟩ := x8
        exact ⟨y1.fs F (fun x k z => by rcases hp x k z with q | q <;> omega), y2, y3, y4⟩
theorem ChI.fs {PI PL : Nat → Nat → Prop} {h h2 : HP} {Ch m c : Nat} {q : Acc} (F : FrS PI PL h h2) (hi : ∀ k, ¬ PI Ch k) (hl : ∀ k, ¬ PL Ch k) (H : ChI h Ch m c q) : ChI h2 Ch m c q := by
  obtain ⟨h0, h1, h2'⟩ := H
  refine ⟨(F.i (hi _)).trans h0, h1, fun r er => ?_⟩
  obtain ⟨a1, a2, a3⟩ := h2' r er
  exact ⟨(F.l (hl _)).trans a1, (F.i (hi _)).trans a2, fun j hj => (F.i (hi _)).trans (a3 j hj)⟩
theorem s_search {h : HP} {b s n P Ch A m f tc ta : Nat} {S : Nat → Int32} {C : List Cla} {jn : Prop} {oW : Option Nat} {oD : Option (List Cla)} {ob : Option Nat} (hd : 6 ≤ d) (X : SeX G h b s S n P Ch A C jn oW oD f tc ta ob) (hA : b + 140 ≤ A) (hP : P + 1 < s ∧ P < b + 35 ∧ b + 20 < P) (hCh : Ch < s ∧ Ch < b + 35 ∧ P + 1 < Ch) (hm : 1 ≤ m) (hm5 : m ≤ 5) (hC : C.length ≤ 12) (hcl : ∀ q ∈ C, ClaP q) (hf : f < 12) (e : ix n tc ta) (w : tS S ta 0 = 1) (wb : ∀ c, ob = some c → c < 30 ∧ tS S c 0 = 1) (hob : ob ≠ none → tc < 30) (hQ : ∀ h2, FrS (SeI P Ch) (SeL P Ch A oW) h h2 → ChI h2 Ch m (seF (canB S C jn f ta ob m) (valO S oD f ta ob m) (lnF S ta ob m) m).1 (seF (canB S C jn f ta ob m) (valO S oD f ta ob m) (lnF S ta ob m) m).2 → Q none h2) : Cal G d mX11_search [.ref b, .ref A, va_rf oW, .ref P, .int (nI m), .ref Ch] h Q := by
  obtain ⟨e4, l4⟩ := m4 hm5
  have hp : ∀ a k, SeI P Ch a k → (a = P ∧ ((1 ≤ k ∧ k ≤ 4) ∨ k = 8 ∨ 13 ≤ k)) ∨ (a ≠ P ∧ ¬ (s ≤ a ∧ a < s + 42) ∧ ¬ (b + 16 ≤ a ∧ a ≤ b + 20) ∧ a < b + 140) := fun a k q => by
    unfold SeI at q
    omega
  refine e_X11_search (by omega) ⟨X.2.2.1, e_X0_clear ⟨X.2.2.1, rfl, ?_⟩⟩
  rw [e4]
  have F0 : FrS (SeI P Ch) (SeL P Ch A oW) h (sI h Ch 0 0) := frS_sI _ _ (Or.inr rfl)
  suffices H : ∀ h', FrS (SeI P Ch) (SeL P Ch A oW) h h' → ChI h' Ch m 0 none → Ex G d mX11_search 21 [(0, .ref b), (1, .ref A), (2, va_rf oW), (3, .ref P), (4, .int (nI m)), (5, .ref Ch), (6, .int (nI (m * m * m * m))), (7, .int (nI 0))] [] h' Q from
    H _ F0 ⟨by rw [hI_eq]; rfl, ⟨fun _ => rfl, fun _ => rfl⟩, fun r er => by cases er⟩
  refine loop_up (α := Nat × Acc) (f := weC (canB S C jn f ta ob m) (valO S oD f ta ob m) (lnF S ta ob m)) (e := m * m * m * m) (J := fun i p => p.1 ≤ i) (P := fun i p => ∀ h', FrS (SeI P Ch) (SeL P Ch A oW) h h' → ChI h' Ch m p.1 p.2 → Ex G d mX11_search 21 [(0, .ref b), (1, .ref A), (2, va_rf oW), (3, .ref P), (4, .int (nI m)), (5, .ref Ch), (6, .int (nI (m * m * m * m))), (7, .int (nI i))] [] h' Q) (fun i p _ h1 => weC_le h1) (fun i p hi hc ih h' F H => ?_) (m * m * m * m) 0 (0, none) (by omega) (Nat.le_refl _) (fun _ h' F H => t_X11_search_21 (by omega) ⟨fun _ => hQ h' F H, fun c => absurd ((nI_le_iff (by omega) (by omega)).mpr (Nat.le_refl _)) c⟩)
  have X' := X.fs F hA hp hP
  refine t_X11_search_21 (by omega) ⟨fun c => ?_, fun _ => ⟨X'.2.1.1, ?_⟩⟩
  · have := (nI_le_iff (by omega) (by omega)).mp c
    omega
  obtain ⟨x1, x2, x3, x4, x5, x6, x7, x8⟩ := X'
  refine s_spreadBy (by omega) x2.1 hm hm5 (by omega) (x5 1 (by omega) (by omega)) (x5 2 (by omega) (by omega)) (x5 3 (by omega) (by omega)) (x5 4 (by omega) (by omega)) (fun h1 F1 v1 l1 => ⟨rfl, ?_⟩)
  have F1' : FrS (SeI P Ch) (SeL P Ch A oW) h' h1 := (F1.s _).weak (fun a k q => Or.inl ⟨q.1, by omega⟩) (fun _ _ q => q)
  have X1 := (X.fs (F.tr F1') hA hp hP)
  obtain ⟨y1, y2, y3, y4, y5, y6, y7, y8⟩ := X1
  refine ⟨y1.1, s_mayCome (by omega) y1 y2 hP ⟨v1, y4.2.1, y4.2.2.1, y4.1⟩ y4.2.2.2 hf e w wb hob y6 hC hcl y7 ⟨by omega, by omega⟩ (fun h2 v F2 b01 ev ew => ⟨_, rfl, ?_⟩)⟩
  have F2' : FrS (SeI P Ch) (SeL P Ch A oW) h1 h2 := F2.weak (fun a k q => by unfold McI at q; exact Or.inl ⟨q.1, by omega⟩) (fun a k q => by
    unfold McL at q
    unfold SeL
    rcases q with q | q
    · exact Or.inl q
    · exact Or.inr (Or.inl q))
  have H2 : ChI h2 Ch m p.1 p.2 := (H.fs (F1.s nop) (fun k q => by omega) (fun k q => q.elim)).fs F2 (fun k q => by unfold McI at q; omega) (fun k q => by unfold McL at q; omega)
  have nx : nI i + 1 = nI (i + 1) := nI_S i
  rw [nx]
  have canv : v = 1 ↔ canB S C jn f ta ob m i = true := by rw [canB_iff]; exact ev
  have F02 := (F.tr F1').tr F2'
  refine ⟨fun z => ?_, fun z => ?_⟩
  · have cf : canB S C jn f ta ob m i = false := by
      cases q : canB S C jn f ta ob m i with
      | false => rfl
      | true =>
        have := canv.mpr q
        rw [z] at this
        exact absurd this (by decide)
    rw [weC_no cf] at ih
    exact ih h2 F02 H2
  have v1' : v = 1 := b01.resolve_left z
  have ct := canv.mp v1'
  have words := ew v1'
  rw [weC_yes ct] at ih
  obtain ⟨z1, z2, z3, z4, z5, z6, z7, z8⟩ := X.fs F02 hA hp hP
  have hl2 : ∀ j, j < 4 → hI h2 P (13 + j) = nI (mgN m i j) := fun j hj => (F2.i (by unfold McI; omega)).trans (l1 j hj)
  have hx2 : hI h2 P 1 = rcX (tS S) ta ob m i ∧ hI h2 P 2 = rcZ (tS S) ta ob m i ∧ hI h2 P 3 = rcTX (tS S) ta ob m i ∧ hI h2 P 4 = rcTZ (tS S) ta ob m i := ⟨(F2.i (by unfold McI; omega)).trans v1.1, (F2.i (by unfold McI; omega)).trans v1.2.1, (F2.i (by unfold McI; omega)).trans v1.2.2.1, (F2.i (by unfold McI; omega)).trans v1.2.2.2⟩
  refine ⟨fun z => ?_, fun w' z => ?_⟩
  · subst z
    cases oD with
    | some D => exact x8.elim
    | none =>
      refine ⟨z3, s_weigh (i := i) (by omega) z2.1 z3 (by omega) hx2 hl2 (by omega) H2 _ _ _ ct rfl rfl (fun h3 F3 H3 => ⟨rfl, ih h3 (F02.tr (F3.weak (fun a k q => Or.inr q) (fun a k q => Or.inr (Or.inr (Or.inl q))))) H3⟩)⟩
  · subst z
    cases oD with
    | none => exact x8.elim
    | some D =>
      obtain ⟨w1, w2, w3, w4⟩ := z8
      refine ⟨P + 1, z2.2.1, w1.1, s_total (by omega) w2 ⟨w1, ⟨z2.2.2.1, z2.2.2.2, words⟩, by omega, w3⟩ (fun h3 F3 => ⟨_, rfl, F3.kd z3, ?_⟩)⟩
      have F3' : FrS (SeI P Ch) (SeL P Ch A (some w')) h2 h3 := F3.weak (fun a k q => q.elim) (fun a k q => Or.inr (Or.inr (Or.inr ⟨w', rfl, q⟩)))
      refine s_weigh (i := i) (by omega) (F3.kd z2.1) (F3.kd z3) (by omega) ⟨(F3.i (fun q => q)).trans hx2.1, (F3.i (fun q => q)).trans hx2.2.1, (F3.i (fun q => q)).trans hx2.2.2.1, (F3.i (fun q => q)).trans hx2.2.2.2⟩ (fun j hj => (F3.i (fun q => q)).trans (hl2 j hj)) (by omega) (H2.fs F3 (fun k q => q) (fun k q => by omega)) _ _ _ ct rfl rfl (fun h4 F4 H4 => ⟨rfl, ih h4 ((F02.tr F3').tr (F4.weak (fun a k q => Or.inr q) (fun a k q => Or.inr (Or.inr (Or.inl q))))) H4⟩)
end SE
