/-! ===== sums ===== -/
def iI (z : Int) : Int32 := Int32.ofInt z
theorem iI_add (a b : Int) : iI (a + b) = iI a + iI b := Int32.ofInt_add a b
theorem iI_sub (a b : Int) : iI (a - b) = iI a - iI b := Int32.ofInt_sub a b
theorem iI_ti (x : Int32) : iI x.toInt = x := Int32.ofInt_toInt x
theorem iI_nI (n : Nat) : iI (n : Int) = nI n := rfl
theorem iI_of {x : Int32} {z : Int} (h : x.toInt = z) : x = iI z := by rw [← h, iI_ti]
theorem ti_iI {z : Int} (h1 : -2147483648 ≤ z) (h2 : z < 2147483648) : (iI z).toInt = z := by
  unfold iI
  rw [Int32.toInt_ofInt]
  exact bm32 h1 h2
theorem sum1_add (f g : Nat → Int) : ∀ n, sum1 (fun i => f i + g i) n = sum1 f n + sum1 g n
  | 0 => rfl
  | n + 1 => by simp only [sum1]; rw [sum1_add f g n]; omega
theorem sum1_sub (f g : Nat → Int) : ∀ n, sum1 (fun i => f i - g i) n = sum1 f n - sum1 g n
  | 0 => rfl
  | n + 1 => by simp only [sum1]; rw [sum1_sub f g n]; omega
theorem sum1_zero {f : Nat → Int} : ∀ n, (∀ i, i < n → f i = 0) → sum1 f n = 0
  | 0, _ => rfl
  | n + 1, h => by simp only [sum1]; rw [sum1_zero n (fun i hi => h i (by omega)), h n (by omega)]; rfl
theorem sum1_comm (F : Nat → Nat → Int) (m : Nat) : ∀ n, sum1 (fun i => sum1 (fun o => F i o) m) n = sum1 (fun o => sum1 (fun i => F i o) n) m
  | 0 => (sum1_zero m (fun _ _ => rfl)).symm
  | n + 1 => by
    simp only [sum1]
    rw [sum1_comm F m n, sum1_add]
theorem sum1_nn {f : Nat → Int} : ∀ n, (∀ i, i < n → 0 ≤ f i) → 0 ≤ sum1 f n
  | 0, _ => Int.le_refl _
  | n + 1, h => by
    simp only [sum1]
    have := sum1_nn n (fun i hi => h i (by omega))
    have := h n (by omega)
    omega
theorem sum1_le {f g : Nat → Int} : ∀ n, (∀ i, i < n → f i ≤ g i) → sum1 f n ≤ sum1 g n
  | 0, _ => Int.le_refl _
  | n + 1, h => by
    simp only [sum1]
    have := sum1_le n (fun i hi => h i (by omega))
    have := h n (by omega)
    omega
theorem sum1_const (c : Int) : ∀ n : Nat, sum1 (fun _ => c) n = n * c
  | 0 => by simp [sum1]
  | n + 1 => by
    simp only [sum1]
    rw [sum1_const c n, Int.natCast_add, Int.add_mul]
    simp
theorem sum1_box (f : Nat → Int) : ∀ (n a b : Nat), a ≤ b → b ≤ n → sum1 (fun i => if a ≤ i ∧ i < b then f i else 0) n = sum1 f b - sum1 f a
  | 0, a, b, h1, h2 => by
    obtain rfl : b = 0 := by omega
    obtain rfl : a = 0 := by omega
    rfl
  | n + 1, a, b, h1, h2 => by
    by_cases hb : b = n + 1
    · subst hb
      by_cases ha : a = n + 1
      · subst ha
        rw [sum1_zero _ (fun i hi => by rw [if_neg (by omega)])]
        omega
      · have e : sum1 (fun i => if a ≤ i ∧ i < n + 1 then f i else 0) n = sum1 (fun i => if a ≤ i ∧ i < n then f i else 0) n := sum1_congr n (fun i hi => by
          by_cases c : a ≤ i
          · rw [if_pos ⟨c, by omega⟩, if_pos ⟨c, hi⟩]
          · rw [if_neg (by omega), if_neg (by omega)])
        simp only [sum1]
        rw [e, sum1_box f n a n (by omega) (by omega), if_pos ⟨by omega, by omega⟩]
        omega
    · simp only [sum1]
      rw [sum1_box f n a b h1 (by omega), if_neg (by omega)]
      omega
/-- at most one: the sum is that one -/
theorem sum1_one {q : Nat → Prop} [DecidablePred q] (v : Int) : ∀ n, (∀ i j, i < n → j < n → q i → q j → i = j) → sum1 (fun i => if q i then v else 0) n = if ∃ i, i < n ∧ q i then v else 0
  | 0, _ => by rw [if_neg (by rintro ⟨i, h, -⟩; omega)]; rfl
  | n + 1, h => by
    simp only [sum1]
    rw [sum1_one v n (fun i j hi hj => h i j (by omega) (by omega))]
    by_cases c : q n
    · rw [if_pos c, if_neg, if_pos ⟨n, by omega, c⟩]
      · omega
      · rintro ⟨i, hi, qi⟩
        have := h i n (by omega) (by omega) qi c
        omega
    · rw [if_neg c]
      by_cases e : ∃ i, i < n ∧ q i
      · obtain ⟨i, hi, qi⟩ := e
        rw [if_pos ⟨i, hi, qi⟩, if_pos ⟨i, by omega, qi⟩]
        omega
      · rw [if_neg e, if_neg]
        · rfl
        · rintro ⟨i, hi, qi⟩
          by_cases z : i = n
          · rw [z] at qi; exact c qi
          · exact e ⟨i, by omega, qi⟩
/-- over all cells -/
def all2 (f : Nat → Nat → Int) : Int := sum2 f 40 40
theorem all2_sub (f g : Nat → Nat → Int) : all2 (fun i j => f i j - g i j) = all2 f - all2 g := by
  unfold all2 sum2
  rw [← sum1_sub]
  exact sum1_congr _ (fun j _ => sum1_sub _ _ _)
theorem all2_congr {f g : Nat → Nat → Int} (h : ∀ i j, i < 40 → j < 40 → f i j = g i j) : all2 f = all2 g := sum2_congr 40 40 h
theorem all2_sum (F : Nat → Nat → Nat → Int) (m : Nat) : all2 (fun i j => sum1 (fun o => F o i j) m) = sum1 (fun o => all2 (F o)) m := by
  unfold all2 sum2
  rw [← sum1_comm (fun j o => sum1 (fun i => F o i j) 40) m 40]
  exact sum1_congr _ (fun j _ => sum1_comm (fun i o => F o i j) m 40)
/-- a rectangle -/
def inR (x0 y0 x1 y1 i j : Nat) : Prop := (x0 ≤ i ∧ i < x1) ∧ y0 ≤ j ∧ j < y1
def box (f : Nat → Nat → Int) (x0 y0 x1 y1 : Nat) : Int := all2 (fun i j => if (x0 ≤ i ∧ i < x1) ∧ y0 ≤ j ∧ j < y1 then f i j else 0)
theorem box_pre (f : Nat → Nat → Int) {x0 y0 x1 y1 : Nat} (h1 : x0 ≤ x1) (h2 : x1 ≤ 40) (h3 : y0 ≤ y1) (h4 : y1 ≤ 40) : box f x0 y0 x1 y1 = sum2 f x1 y1 - sum2 f x0 y1 - sum2 f x1 y0 + sum2 f x0 y0 := by
  unfold box all2 sum2
  have e : ∀ j, sum1 (fun i => if (x0 ≤ i ∧ i < x1) ∧ y0 ≤ j ∧ j < y1 then f i j else 0) 40 = if y0 ≤ j ∧ j < y1 then sum1 (fun i => f i j) x1 - sum1 (fun i => f i j) x0 else 0 := fun j => by
    by_cases c : y0 ≤ j ∧ j < y1
    · rw [if_pos c, ← sum1_box (fun i => f i j) 40 x0 x1 h1 h2]
      exact sum1_congr _ (fun i _ => by
        by_cases c2 : x0 ≤ i ∧ i < x1
        · rw [if_pos ⟨c2, c⟩, if_pos c2]
        · rw [if_neg (fun z => c2 z.1), if_neg c2])
    · rw [if_neg c]
      exact sum1_zero _ (fun i _ => if_neg (fun z => c z.2))
  rw [sum1_congr 40 (fun j _ => e j), sum1_box _ 40 y0 y1 h3 h4, sum1_sub, sum1_sub]
  omega
/-- row by row, as loops go -/
theorem box_rows (f : Nat → Nat → Int) {x0 y0 x1 y1 : Nat} (h1 : x0 ≤ x1) (h2 : x1 ≤ 40) (h3 : y0 ≤ y1) (h4 : y1 ≤ 40) : box f x0 y0 x1 y1 = sum1 (fun j => sum1 (fun i => f (x0 + i) (y0 + j)) (x1 - x0)) (y1 - y0) := by
  have sh : ∀ (g : Nat → Int) (a n : Nat), sum1 (fun i => g (a + i)) n = sum1 g (a + n) - sum1 g a := by
    intro g a n
    induction n with
    | zero => simp [sum1]
    | succ n ih =>
      rw [show a + (n + 1) = (a + n) + 1 by omega]
      simp only [sum1]
      rw [ih]
      omega
  have e : ∀ j, sum1 (fun i => f (x0 + i) (y0 + j)) (x1 - x0) = sum1 (fun i => f i (y0 + j)) x1 - sum1 (fun i => f i (y0 + j)) x0 := fun j => by
    rw [sh (fun i => f i (y0 + j)) x0 (x1 - x0), show x0 + (x1 - x0) = x1 by omega]
  rw [sum1_congr _ (fun j _ => e j), sh (fun j => sum1 (fun i => f i j) x1 - sum1 (fun i => f i j) x0) y0 (y1 - y0), show y0 + (y1 - y0) = y1 by omega, sum1_sub, sum1_sub, box_pre f h1 h2 h3 h4]
  unfold sum2
  omega
theorem box_le {f : Nat → Nat → Int} {c : Int} (hc : 0 ≤ c) (hf : ∀ i j, i < 40 → j < 40 → 0 ≤ f i j ∧ f i j ≤ c) (x0 y0 x1 y1 : Nat) : 0 ≤ box f x0 y0 x1 y1 ∧ box f x0 y0 x1 y1 ≤ 1600 * c := by
  unfold box all2 sum2
  refine ⟨sum1_nn _ (fun j hj => sum1_nn _ (fun i hi => ?_)), ?_⟩
  · show 0 ≤ if (x0 ≤ i ∧ i < x1) ∧ y0 ≤ j ∧ j < y1 then f i j else 0
    split
    · exact (hf i j hi hj).1
    · exact Int.le_refl _
  · have e : sum1 (fun _ => sum1 (fun _ => c) 40) 40 = 1600 * c := by
      rw [sum1_const, sum1_const]
      omega
    rw [← e]
    refine sum1_le _ (fun j hj => sum1_le _ (fun i hi => ?_))
    show (if (x0 ≤ i ∧ i < x1) ∧ y0 ≤ j ∧ j < y1 then f i j else 0) ≤ c
    split
    · exact (hf i j hi hj).2
    · exact hc
