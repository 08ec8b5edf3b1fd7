/-! ===== more of reading a State ===== -/
/-- following what is round what from p on: it ends within n steps, by numbers below b -/
def endsF (A : Nat → Nat → Int32) (b : Nat) : Nat → Int32 → Prop
  | 0, p => p = -1
  | n + 1, p => p = -1 ∨ ∃ r, p = nI r ∧ r < b ∧ endsF A b n (A r 6)
/-- whether it comes by o -/
def liesF (A : Nat → Nat → Int32) (o : Int32) : Nat → Int32 → Bool
  | 0, _ => false
  | n + 1, p => if p = -1 then false else if p = o then true else liesF A o n (A p.toNatClampNeg 6)
/-- how many it comes by -/
def rndF (A : Nat → Nat → Int32) : Nat → Int32 → Nat
  | 0, _ => 0
  | n + 1, p => if p = -1 then 0 else 1 + rndF A n (A p.toNatClampNeg 6)
theorem rndF_le (A : Nat → Nat → Int32) : ∀ n p, rndF A n p ≤ n
  | 0, _ => Nat.le_refl _
  | n + 1, p => by
    have := rndF_le A n (A p.toNatClampNeg 6)
    simp only [rndF]
    split <;> omega
theorem nI_ne_neg {r : Nat} (h : r < 2147483648) : ¬ nI r = -1 := by
  rw [ti_eq, ti_nI h]
  have : (-1 : Int32).toInt = -1 := rfl
  omega
section SR2
variable {G : GG} {d : Nat} {h : HP} {Q : Option Value → HP → Prop} {s : Nat}
theorem s_area {t : Nat} (k : Kd G h (s + 5 + t) 9) (hQ : Q (some (.int (areaI (tg h s) t))) h) : Cal G d mX9_area [.ref (s + 5 + t)] h Q := e_X9_area ⟨k, hQ⟩
theorem s_has {t : Nat} {x y : Int32} (k : Kd G h (s + 5 + t) 9) (hQ : Q (some (.int (if hasB (tg h s) t x y then 1 else 0))) h) : Cal G d mX9_has [.ref (s + 5 + t), .int x, .int y] h Q := by
  refine e_X9_has ?_
  unfold T_X9_has
  have e : ∀ (c : Prop) [Decidable c], True := fun _ _ => trivial
  refine ⟨k, fun c1 => ?_, fun c1 => ⟨fun c2 => ?_, fun c2 => ⟨fun c3 => ?_, fun c3 => ⟨fun c4 => ?_, fun c4 => ?_⟩⟩⟩⟩
  all_goals simp only [ti_lt, ti_le] at *
  · rw [if_neg (by simp only [hasB, tg, decide_eq_true_eq, ti_lt, ti_le]; omega)] at hQ; exact hQ
  · rw [if_neg (by simp only [hasB, tg, decide_eq_true_eq, ti_lt, ti_le]; omega)] at hQ; exact hQ
  · rw [if_neg (by simp only [hasB, tg, decide_eq_true_eq, ti_lt, ti_le]; omega)] at hQ; exact hQ
  · rw [if_neg (by simp only [hasB, tg, decide_eq_true_eq, ti_lt, ti_le]; omega)] at hQ; exact hQ
  · rw [if_pos (by simp only [hasB, tg, decide_eq_true_eq, ti_lt, ti_le]; omega)] at hQ; exact hQ
/-- a cell of the land -/
def inB (c r x y : Int32) : Bool := decide (0 ≤ x ∧ x < c ∧ 0 ≤ y ∧ y < r)
theorem s_hasCell {x y : Int32} (k : Kd G h s 6) (hQ : Q (some (.int (if inB (hI h s 0) (hI h s 1) x y then 1 else 0))) h) : Cal G d mX6_hasCell [.ref s, .int x, .int y] h Q := by
  refine e_X6_hasCell ?_
  unfold T_X6_hasCell
  refine ⟨fun c1 => ?_, fun c1 => ⟨k, fun c2 => ?_, fun c2 => ⟨fun c3 => ?_, fun c3 => ⟨fun c4 => ?_, fun c4 => ?_⟩⟩⟩⟩
  all_goals simp only [ti_lt, ti_le] at *
  · rw [if_neg (by simp only [inB, decide_eq_true_eq, ti_lt, ti_le]; omega)] at hQ; exact hQ
  · rw [if_neg (by simp only [inB, decide_eq_true_eq, ti_lt, ti_le]; omega)] at hQ; exact hQ
  · rw [if_neg (by simp only [inB, decide_eq_true_eq, ti_lt, ti_le]; omega)] at hQ; exact hQ
  · rw [if_neg (by simp only [inB, decide_eq_true_eq, ti_lt, ti_le]; omega)] at hQ; exact hQ
  · rw [if_pos (by simp only [inB, decide_eq_true_eq, ti_lt, ti_le]; omega)] at hQ; exact hQ
theorem s_liesIn (S : StSh G h s) {x o : Int32} {t : Nat} (hx : x.toInt = t) (ht : t < 31) (he : endsF (tg h s) 31 30 (tg h s t 6)) (hQ : Q (some (.int (if liesF (tg h s) o 31 (tg h s t 6) then 1 else 0))) h) : Cal G d mX6_liesIn [.ref s, .int x, .int o] h Q := by
  refine e_X6_liesIn (th_at S hx ht ?_)
  have loop : ∀ n p i, i + n = 30 → endsF (tg h s) 31 n p → Q (some (.int (if liesF (tg h s) o (n + 1) p then 1 else 0))) h → Ex G d mX6_liesIn 13 [(0, .ref s), (1, .int x), (2, .int o), (3, .int p), (4, .int (nI i))] [] h Q := by
    intro n
    induction n with
    | zero =>
      intro p i hi hp hq
      obtain rfl : p = -1 := hp
      refine t_X6_liesIn_13 ⟨fun q => absurd ((nI_le_iff (a := 31) (b := i) (by omega) (by omega)).mp q) (by omega), fun _ => ⟨fun _ => ?_, fun q => absurd rfl q⟩⟩
      simpa [liesF] using hq
    | succ n ih =>
      intro p i hi hp hq
      refine t_X6_liesIn_13 ⟨fun q => absurd ((nI_le_iff (a := 31) (b := i) (by omega) (by omega)).mp q) (by omega), fun _ => ⟨fun q => ?_, fun q => ⟨fun q2 => ?_, fun q2 => ?_⟩⟩⟩
      · rw [liesF, if_pos q] at hq
        exact hq
      · rcases hp with hp | ⟨r, rfl, hr, hp⟩
        · exact absurd hp q
        · rw [liesF, if_neg q, if_neg q2, cl_nI (by omega)] at hq
          refine th_at S (t := r) (ti_nI (by omega)) hr ?_
          rw [nI_S]
          exact ih _ (i + 1) (by omega) hp hq
      · rw [liesF, if_neg q, if_pos q2] at hq
        exact hq
  exact loop 30 _ 0 rfl he hQ
theorem s_coversOf (S : StSh G h s) {x : Int32} {t : Nat} (hx : x.toInt = t) (ht : t < 31) (he : endsF (tg h s) 31 30 (tg h s t 6)) (hQ : Q (some (.int (nI (rndF (tg h s) 31 (tg h s t 6))))) h) : Cal G d mX6_coversOf [.ref s, .int x] h Q := by
  refine e_X6_coversOf ?_
  have hxn : ¬ x = -1 := by
    rw [nI_ti hx]
    exact nI_ne_neg (by omega)
  refine ⟨fun _ => th_at S hx ht ?_, fun q => absurd q hxn⟩
  have loop : ∀ n p i c, i + n = 30 → endsF (tg h s) 31 n p → Q (some (.int (nI (c + rndF (tg h s) (n + 1) p)))) h → Ex G d mX6_coversOf 24 [(0, .ref s), (1, .int x), (2, .int (nI c)), (3, .int p), (4, .int (nI i))] [] h Q := by
    intro n
    induction n with
    | zero =>
      intro p i c hi hp hq
      obtain rfl : p = -1 := hp
      refine t_X6_coversOf_24 ⟨fun q => absurd ((nI_le_iff (a := 31) (b := i) (by omega) (by omega)).mp q) (by omega), fun _ => ⟨fun _ => ?_, fun q => absurd rfl q⟩⟩
      simpa [rndF] using hq
    | succ n ih =>
      intro p i c hi hp hq
      refine t_X6_coversOf_24 ⟨fun q => absurd ((nI_le_iff (a := 31) (b := i) (by omega) (by omega)).mp q) (by omega), fun _ => ⟨fun q => ?_, fun q => ?_⟩⟩
      · rw [rndF, if_pos q] at hq
        exact hq
      · rcases hp with hp | ⟨r, rfl, hr, hp⟩
        · exact absurd hp q
        · rw [rndF, if_neg q, cl_nI (by omega)] at hq
          refine th_at S (t := r) (ti_nI (by omega)) hr ?_
          rw [nI_S, nI_S]
          exact ih _ (i + 1) (c + 1) (by omega) hp (by rw [Nat.add_assoc]; exact hq)
  exact loop 30 _ 0 0 rfl he (by rw [Nat.zero_add]; exact hQ)
/-- less g of those that have p -/
def subF (p : Nat → Bool) (g : Nat → Int32) : Int32 → Nat → Nat → Int32
  | a, _, 0 => a
  | a, i, n + 1 => subF p g (if p i then a - g i else a) (i + 1) n
theorem s_freeCells (hd : 1 ≤ d) (S : StSh G h s) (hQ : Q (some (.int (subF (outB (tg h s)) (areaI (tg h s)) (hI h s 0 * hI h s 1) 0 30))) h) : Cal G d mX6_freeCells [.ref s] h Q := by
  refine e_X6_freeCells ⟨S.1, ?_⟩
  have loop : ∀ n i a, i + n = 30 → Q (some (.int (subF (outB (tg h s)) (areaI (tg h s)) a i n))) h → Ex G d mX6_freeCells 12 [(0, .ref s), (1, .int a), (2, .int (nI i))] [] h Q := by
    intro n
    induction n with
    | zero =>
      intro i a hi hq
      obtain rfl : i = 30 := by omega
      exact t_X6_freeCells_12 hd ⟨fun _ => hq, fun q => absurd (show (30 : Int32) ≤ nI 30 by decide) q⟩
    | succ n ih =>
      intro i a hi hq
      refine t_X6_freeCells_12 hd ⟨fun q => absurd ((nI_le_iff (a := 30) (b := i) (by omega) (by omega)).mp q) (by omega), fun _ => ⟨S.1, s_isOutermost S (fun q => absurd ⟨by rw [ti_nI (by omega)]; omega, by rw [ti_nI (by omega)]; omega⟩ q) (fun t e ht => ?_)⟩⟩
      obtain rfl : i = t := (nI_eq_iff (by omega) (by omega)).mp e
      rw [nI_S]
      simp only [subF] at hq
      cases w : outB (tg h s) i
      · rw [w] at hq
        exact ⟨0, rfl, fun _ => ih (i + 1) a (by omega) hq, fun q => absurd rfl q⟩
      · rw [w] at hq
        refine ⟨1, rfl, fun q => absurd q (by decide), fun _ => ?_⟩
        obtain ⟨-, r1⟩ := th_at S (t := i) (ti_nI (by omega)) (by omega) (P := fun _ q12 => Cal G (d - 1) mX9_area [.ref q12] h (fun r14 h15 => ∃ v18, r14 = some (.int v18) ∧ Ex G d mX6_freeCells 12 [(0, .ref s), (1, .int (a - v18)), (2, .int (nI (i + 1)))] [] h15 Q)) (s_area (S.2.2.2.2.2.2.1 i (by omega)).2 ⟨_, rfl, ih (i + 1) _ (by omega) hq⟩)
        exact r1
  exact loop 30 0 _ rfl hQ
/-- the greatest g of those that have p -/
def mxF (p : Nat → Bool) (g : Nat → Int32) : Int32 → Nat → Nat → Int32
  | a, _, 0 => a
  | a, i, n + 1 => mxF p g (if p i then mxI a (g i) else a) (i + 1) n
theorem s_deepest (hd : 1 ≤ d) (S : StSh G h s) (hQ : Q (some (.int (mxF (wallB (tg h s)) (fun t => tg h s t 7) 0 6 24))) h) : Cal G d mX6_deepest [.ref s] h Q := by
  refine e_X6_deepest ?_
  unfold T_X6_deepest
  have loop : ∀ n i a, i + n = 30 → Q (some (.int (mxF (wallB (tg h s)) (fun t => tg h s t 7) a i n))) h → Ex G d mX6_deepest 5 [(0, .ref s), (1, .int a), (2, .int (nI i))] [] h Q := by
    intro n
    induction n with
    | zero =>
      intro i a hi hq
      obtain rfl : i = 30 := by omega
      exact t_X6_deepest_5 hd ⟨fun _ => hq, fun q => absurd (show (30 : Int32) ≤ nI 30 by decide) q⟩
    | succ n ih =>
      intro i a hi hq
      refine t_X6_deepest_5 hd ⟨fun q => absurd ((nI_le_iff (a := 30) (b := i) (by omega) (by omega)).mp q) (by omega), fun _ => th_at S (t := i) (ti_nI (by omega)) (by omega) ?_⟩
      rw [nI_S]
      simp only [mxF] at hq
      by_cases w : hI h (s + 5 + i) 0 = 0
      · have e : wallB (tg h s) i = false := by simp [wallB, tg, w]
        rw [e] at hq
        exact ⟨fun _ => ih (i + 1) a (by omega) hq, fun q => absurd w q⟩
      · have e : wallB (tg h s) i = true := by simp [wallB, tg, w]
        rw [e] at hq
        exact ⟨fun q => absurd q w, fun _ => th_in S (t := i) (ti_nI (by omega)) (by omega) (ih (i + 1) _ (by omega) hq)⟩
  exact loop 24 6 0 rfl hQ
theorem s_deepRound (S : StSh G h s) {x : Int32} (hQ0 : x.toInt < 6 → Q (some (.int 0)) h) (hx : x.toInt < 31) (hQ : ∀ t : Nat, x = nI t → 6 ≤ t → t < 31 → Q (some (.int (1 + tg h s t 7))) h) : Cal G d mX6_deepRound [.ref s, .int x] h Q := by
  refine e_X6_deepRound ?_
  have e6 : (6 : Int32).toInt = 6 := rfl
  refine ⟨fun c => ?_, fun c => hQ0 (by rw [ti_le, e6] at c; omega)⟩
  rw [ti_le, e6] at c
  obtain ⟨t, ht⟩ : ∃ t : Nat, x.toInt = t := ⟨x.toInt.toNat, by omega⟩
  exact th_at S ht (by omega) (hQ t (nI_ti ht) (by omega) (by omega))
end SR2
