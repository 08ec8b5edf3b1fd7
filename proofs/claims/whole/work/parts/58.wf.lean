/-! ===== chains of walls; what stays when other things are said ===== -/
theorem tn1 : (-1 : Int32).toInt = -1 := rfl
theorem tn2 : (-2 : Int32).toInt = -2 := rfl
theorem tn9 : (-9 : Int32).toInt = -9 := rfl
theorem if10 {P : Prop} [Decidable P] : (if P then (1 : Int32) else 0) = 0 ↔ ¬ P := by
  by_cases h : P
  · rw [if_pos h]; simp [h]
  · rw [if_neg h]; simp [h]
theorem endsF.mono {A : Nat → Nat → Int32} {b b' : Nat} (hb : b ≤ b') : ∀ {n m : Nat} {p : Int32}, endsF A b n p → n ≤ m → endsF A b' m p
  | 0, 0, _, h, _ => h
  | 0, _ + 1, _, h, _ => Or.inl h
  | n + 1, 0, _, _, hm => absurd hm (by omega)
  | n + 1, m + 1, p, h, hm => by
    rcases h with h | ⟨r, h1, h2, h3⟩
    · exact Or.inl h
    · exact Or.inr ⟨r, h1, by omega, h3.mono hb (by omega)⟩
theorem endsF.congr {A A' : Nat → Nat → Int32} {b : Nat} (e : ∀ r, r < b → A' r 6 = A r 6) : ∀ {n : Nat} {p : Int32}, endsF A b n p → endsF A' b n p
  | 0, _, h => h
  | n + 1, p, h => by
    rcases h with h | ⟨r, h1, h2, h3⟩
    · exact Or.inl h
    · refine Or.inr ⟨r, h1, h2, ?_⟩
      rw [e r h2]
      exact h3.congr e
theorem liesF_congr {A A' : Nat → Nat → Int32} {b : Nat} (hb : b < 2147483648) (e : ∀ r, r < b → A' r 6 = A r 6) (o : Int32) : ∀ (m n : Nat) (p : Int32), endsF A b n p → liesF A' o m p = liesF A o m p
  | 0, _, _, _ => rfl
  | m + 1, 0, p, h => by
    obtain rfl : p = -1 := h
    rfl
  | m + 1, n + 1, p, h => by
    rcases h with rfl | ⟨r, rfl, h2, h3⟩
    · rfl
    · simp only [liesF, cl_nI (show r < 2147483648 by omega), e r h2]
      rw [liesF_congr hb e o m n _ h3]
/-- enough fuel is enough -/
theorem liesF_fuel {A : Nat → Nat → Int32} {b : Nat} (hb : b < 2147483648) (o : Int32) : ∀ (n m m' : Nat) (p : Int32), endsF A b n p → n < m → n < m' → liesF A o m p = liesF A o m' p
  | 0, m, m', p, h, h1, h2 => by
    obtain rfl : p = -1 := h
    obtain ⟨m, rfl⟩ : ∃ k, m = k + 1 := ⟨m - 1, by omega⟩
    obtain ⟨m', rfl⟩ : ∃ k, m' = k + 1 := ⟨m' - 1, by omega⟩
    rfl
  | n + 1, m, m', p, h, h1, h2 => by
    obtain ⟨m, rfl⟩ : ∃ k, m = k + 1 := ⟨m - 1, by omega⟩
    obtain ⟨m', rfl⟩ : ∃ k, m' = k + 1 := ⟨m' - 1, by omega⟩
    rcases h with rfl | ⟨r, rfl, h3, h4⟩
    · rfl
    · simp only [liesF, cl_nI (show r < 2147483648 by omega)]
      rw [liesF_fuel hb o n m m' _ h4 (by omega) (by omega)]
theorem rndF_fuel {A : Nat → Nat → Int32} {b : Nat} (hb : b < 2147483648) : ∀ (n m m' : Nat) (p : Int32), endsF A b n p → n < m → n < m' → rndF A m p = rndF A m' p
  | 0, m, m', p, h, h1, h2 => by
    obtain rfl : p = -1 := h
    obtain ⟨m, rfl⟩ : ∃ k, m = k + 1 := ⟨m - 1, by omega⟩
    obtain ⟨m', rfl⟩ : ∃ k, m' = k + 1 := ⟨m' - 1, by omega⟩
    rfl
  | n + 1, m, m', p, h, h1, h2 => by
    obtain ⟨m, rfl⟩ : ∃ k, m = k + 1 := ⟨m - 1, by omega⟩
    obtain ⟨m', rfl⟩ : ∃ k, m' = k + 1 := ⟨m' - 1, by omega⟩
    rcases h with rfl | ⟨r, rfl, h3, h4⟩
    · rfl
    · simp only [rndF, cl_nI (show r < 2147483648 by omega)]
      rw [rndF_fuel hb n m m' _ h4 (by omega) (by omega)]
theorem rndF_congr {A A' : Nat → Nat → Int32} {b : Nat} (hb : b < 2147483648) (e : ∀ r, r < b → A' r 6 = A r 6) : ∀ (m n : Nat) (p : Int32), endsF A b n p → rndF A' m p = rndF A m p
  | 0, _, _, _ => rfl
  | m + 1, 0, p, h => by
    obtain rfl : p = -1 := h
    rfl
  | m + 1, n + 1, p, h => by
    rcases h with rfl | ⟨r, rfl, h2, h3⟩
    · rfl
    · simp only [rndF, cl_nI (show r < 2147483648 by omega), e r h2]
      rw [rndF_congr hb e m n _ h3]
theorem cntF_congr {p q : Nat → Bool} : ∀ (n i : Nat), (∀ j, i ≤ j → j < i + n → p j = q j) → cntF p i n = cntF q i n
  | 0, _, _ => rfl
  | n + 1, i, h => by
    simp only [cntF, h i (by omega) (by omega)]
    rw [cntF_congr n (i + 1) (fun j h1 h2 => h j (by omega) (by omega))]
theorem cntF_app (p : Nat → Bool) : ∀ (n m i : Nat), cntF p i (n + m) = cntF p i n + cntF p (i + n) m
  | 0, m, i => by simp [cntF]
  | n + 1, m, i => by
    rw [show n + 1 + m = (n + m) + 1 by omega]
    simp only [cntF]
    rw [cntF_app p n m (i + 1), show i + 1 + n = i + (n + 1) by omega]
    omega
theorem cntF_none {p : Nat → Bool} : ∀ (n i : Nat), (∀ j, i ≤ j → j < i + n → p j = false) → cntF p i n = 0
  | 0, _, _ => rfl
  | n + 1, i, h => by
    simp only [cntF, h i (by omega) (by omega)]
    rw [cntF_none n (i + 1) (fun j h1 h2 => h j (by omega) (by omega))]
    rfl
theorem deepN_congr {A A' : Nat → Nat → Int32} {n m : Nat} (he : ∀ w, w < 54 → wallB A w = true → endsF A 54 n (A w 6)) (e0 : ∀ t, t < 54 → A' t 0 = A t 0) (e6 : ∀ t, t < 54 → A' t 6 = A t 6) (o : Int32) : deepN A' m o = deepN A m o := by
  unfold deepN
  refine cntF_congr _ _ (fun j h1 h2 => ?_)
  have ew : wallB A' j = wallB A j := by unfold wallB; rw [e0 j (by omega)]
  rw [ew]
  cases hw : wallB A j
  · rfl
  · rw [e6 j (by omega), liesF_congr (by omega) e6 o m n _ (he j (by omega) hw)]
theorem deepN_le (A : Nat → Nat → Int32) (N : Nat) (o : Int32) : deepN A N o ≤ 48 := cntF_le _ _ _
/-- how wide a thing is -/
def wdt (A : Nat → Nat → Int32) (t : Nat) : Int := (A t 3).toInt - (A t 1).toInt
theorem WfT.chain {M : Nat} {c r : Int32} {A : Nat → Nat → Int32} (W : WfT M c r A) (hc : c.toInt ≤ 40) : ∀ (n t : Nat), t < M → A t 0 = 1 → 40 ≤ wdt A t + 2 * n + 1 → endsF A M n (A t 6)
  | 0, t, ht, h0, hn => by
    rcases W.2.1 t ht h0 with h | ⟨u, h1, h2, h3, h4, h5⟩
    · exact h
    · have g := W.1 u h2 h4
      unfold inn at h5
      unfold geo at g
      unfold wdt at hn
      omega
  | n + 1, t, ht, h0, hn => by
    rcases W.2.1 t ht h0 with h | ⟨u, h1, h2, h3, h4, h5⟩
    · exact Or.inl h
    · refine Or.inr ⟨u, h3, h2, W.chain hc n u h2 h4 ?_⟩
      unfold inn at h5
      unfold wdt at hn ⊢
      omega
theorem WfT.ends {M : Nat} {c r : Int32} {A : Nat → Nat → Int32} (W : WfT M c r A) (hc : c.toInt ≤ 40) {t : Nat} (ht : t < M) (h0 : A t 0 = 1) : endsF A M 20 (A t 6) := by
  refine W.chain hc 20 t ht h0 ?_
  have g := W.1 t ht h0
  unfold geo at g
  unfold wdt
  omega
theorem WfT.congr {M : Nat} {c r : Int32} {A A' : Nat → Nat → Int32} (e : ∀ t k, t < M → k ≤ 6 → A' t k = A t k) (W : WfT M c r A) : WfT M c r A' := by
  obtain ⟨w1, w2, w3⟩ := W
  have ei : ∀ t r, t < M → r < M → (inn A' t r ↔ inn A t r) := fun t r h1 h2 => by unfold inn; simp only [e t _ h1 (show 1 ≤ 6 by omega), e t _ h1 (show 2 ≤ 6 by omega), e t _ h1 (show 3 ≤ 6 by omega), e t _ h1 (show 4 ≤ 6 by omega), e r _ h2 (show 1 ≤ 6 by omega), e r _ h2 (show 2 ≤ 6 by omega), e r _ h2 (show 3 ≤ 6 by omega), e r _ h2 (show 4 ≤ 6 by omega)]
  have ec : ∀ t r, t < M → r < M → (clr A' t r ↔ clr A t r) := fun t r h1 h2 => by unfold clr; simp only [e t _ h1 (show 1 ≤ 6 by omega), e t _ h1 (show 2 ≤ 6 by omega), e t _ h1 (show 3 ≤ 6 by omega), e t _ h1 (show 4 ≤ 6 by omega), e r _ h2 (show 1 ≤ 6 by omega), e r _ h2 (show 2 ≤ 6 by omega), e r _ h2 (show 3 ≤ 6 by omega), e r _ h2 (show 4 ≤ 6 by omega)]
  refine ⟨fun t ht h0 => ?_, fun t ht h0 => ?_, fun t u ht hu hne h0 h1 h6 => ?_⟩
  · rw [e t 0 ht (by omega)] at h0
    have g := w1 t ht h0
    unfold geo at g ⊢
    simp only [e t _ ht (show 1 ≤ 6 by omega), e t _ ht (show 2 ≤ 6 by omega), e t _ ht (show 3 ≤ 6 by omega), e t _ ht (show 4 ≤ 6 by omega)]
    exact g
  · rw [e t 0 ht (by omega)] at h0
    rw [e t 6 ht (by omega)]
    rcases w2 t ht h0 with h | ⟨u, h1, h2, h3, h4, h5⟩
    · exact Or.inl h
    · exact Or.inr ⟨u, h1, h2, h3, by rw [e u 0 h2 (by omega)]; exact h4, (ei t u ht h2).mpr h5⟩
  · rw [e t 0 ht (by omega)] at h0
    rw [e u 0 hu (by omega)] at h1
    rw [e t 6 ht (by omega), e u 6 hu (by omega)] at h6
    exact (ec t u ht hu).mpr (w3 t u ht hu hne h0 h1 h6)
theorem WF.ends {S : Nat → Int32} (W : WF S) {t : Nat} (ht : t < 30) (h0 : tS S t 0 = 1) : endsF (tS S) 30 20 (tS S t 6) := W.2.2.2.2.ends W.1.1.1.2 ht h0
theorem WF.endsW {S : Nat → Int32} (W : WF S) (w : Nat) (hw : w < 54) (h : wallB (tS S) w = true) : endsF (tS S) 54 30 (tS S w 6) := by
  have h1 := (W.2.2.1.w hw).mpr h
  by_cases h30 : w < 30
  · exact (W.ends h30 h1).mono (by omega) (by omega)
  · rw [W.2.2.2.1 w (by omega) hw] at h1
    exact absurd h1 (by decide)
theorem CoTh.same {h h2 : HP} {s : Nat} {S S' : Nat → Int32} {t : Nat} (W : WF S) (ht : t < 30) (et : ∀ k, tg h2 s t k = tg h s t k) (e : ∀ u k, u < 54 → k < 12 → tS S' u k = tS S u k) (C : CoTh h s S t) : CoTh h2 s S' t := by
  unfold CoTh at C ⊢
  have ed : deepN (tS S') 31 (nI t) = deepN (tS S) 31 (nI t) := deepN_congr W.endsW (fun u hu => e u 0 hu (by omega)) (fun u hu => e u 6 hu (by omega)) _
  simp only [et, ed, e t 0 (by omega) (by omega), e t 7 (by omega) (by omega), e t 8 (by omega) (by omega), e t 9 (by omega) (by omega), e t 10 (by omega) (by omega)]
  refine ⟨C.1, fun q => ?_⟩
  obtain ⟨c1, c2⟩ := C.2 q
  exact ⟨fun k h1 h2 => by rw [e t k (by omega) (by omega)]; exact c1 k h1 h2, c2⟩
/-- the same things, and other numbers -/
theorem WF.nums {S S' : Nat → Int32} (W : WF S) (e : ∀ u k, u < 54 → k < 12 → tS S' u k = tS S u k) (e0 : S' 0 = S 0) (e1 : S' 1 = S 1) (e2 : S' 2 = S 2) (N : (0 ≤ (S' 3).toInt ∧ 0 ≤ (S' 4).toInt) ∧ (∀ c, c < 1600 → rng (S' (8 + c)) 0 511) ∧ (∀ j, j < 144 → rng (S' (2256 + j)) (-9) 9) ∧ (∀ f, f < 12 → S' (2256 + 13 * f) = 0) ∧ (∀ e, e < 6 → S' (2400 + 6 * e) = 0 ∨ (S' (2400 + 6 * e) = 1 ∧ rng (S' (2400 + 6 * e + 1)) 0 11 ∧ ∀ j, 2 ≤ j → j < 6 → rng (S' (2400 + 6 * e + j)) 0 39))) : WF S' := by
  obtain ⟨⟨⟨a1, a2, a3, a4, a5⟩, a6, a7, a8, a9, a10, a11⟩, b, c, d, w⟩ := W
  refine ⟨⟨⟨by rw [e0]; exact a1, by rw [e1]; exact a2, by rw [e2]; exact a3, N.1.1, N.1.2⟩, N.2.1, N.2.2.1, N.2.2.2.1, fun t ht => by rw [e t 0 (by omega) (by omega), e2]; exact a9 t ht, fun t ht h0 => ?_, N.2.2.2.2⟩, ?_, fun t ht => by rw [e t 0 ht (by omega)]; exact c t ht, fun t h1 h2 => by rw [e t 0 h2 (by omega)]; exact d t h1 h2, by rw [e0, e1]; exact w.congr (fun t k ht hk => e t k (by omega) (by omega))⟩
  · rw [e t 0 (by omega) (by omega)] at h0
    obtain ⟨x1, x2, x3⟩ := a10 t ht h0
    rw [e t 5 (by omega) (by omega), e t 7 (by omega) (by omega)]
    refine ⟨x1, x2, ?_⟩
    unfold gat at x3 ⊢
    simp only [e t 1 (by omega) (by omega), e t 2 (by omega) (by omega), e t 3 (by omega) (by omega), e t 4 (by omega) (by omega), e t 7 (by omega) (by omega), e t 8 (by omega) (by omega), e t 9 (by omega) (by omega), e t 10 (by omega) (by omega)]
    exact x3
  · rintro ⟨t, ht, h0⟩
    rw [e t 0 (by omega) (by omega)] at h0
    rw [e2]
    exact b ⟨t, ht, h0⟩
theorem noTh.congr {S S' : Nat → Int32} (e : ∀ u k, u < 54 → k < 12 → tS S' u k = tS S u k) (H : noTh S) : noTh S' := fun t ht => by rw [e t 0 (by omega) (by omega)]; exact H t ht
theorem sum1_congr {f g : Nat → Int} : ∀ n, (∀ i, i < n → f i = g i) → sum1 f n = sum1 g n
  | 0, _ => rfl
  | n + 1, h => by
    simp only [sum1]
    rw [sum1_congr n (fun i hi => h i (by omega)), h n (by omega)]
theorem sum2_congr {f g : Nat → Nat → Int} (x y : Nat) (h : ∀ i j, i < x → j < y → f i j = g i j) : sum2 f x y = sum2 g x y := sum1_congr y (fun j hj => sum1_congr x (fun i hi => h i j hi hj))
theorem SumsOK.congr {h : HP} {b : Nat} {S S' : Nat → Int32} (e0 : S' 0 = S 0) (e1 : S' 1 = S 1) (h0 : (S 0).toInt ≤ 40) (h1 : (S 1).toInt ≤ 40) (ec : ∀ c, c < 1600 → S' (8 + c) = S (8 + c)) (H : SumsOK h b S) : SumsOK h b S' := fun x y hx hy => by
  rw [e0] at hx
  rw [e1] at hy
  obtain ⟨a1, a2, a3, a4, a5⟩ := H x y hx hy
  have er : ∀ i j, i < 40 → j < 40 → riv S' i j = riv S i j := fun i j hi hj => by unfold riv; rw [ec _ (by omega)]
  refine ⟨a1.trans (sum2_congr x y (fun i j hi hj => ?_)), a2.trans (sum2_congr x y (fun i j hi hj => ?_)), a3.trans (sum2_congr x y (fun i j hi hj => (er i j (by omega) (by omega)).symm)), a4.trans (sum1_congr x (fun i hi => ?_)), a5.trans (sum1_congr y (fun i hi => ?_))⟩
  · unfold wrt; rw [ec _ (by omega)]
  · unfold wel; rw [ec _ (by omega)]
  · unfold lvl
    rw [e1]
    by_cases hj : 0 < y ∧ (y : Int) < (S 1).toInt
    · rw [er i y (by omega) (by omega), er i (y - 1) (by omega) (by omega)]
    · rw [if_neg (fun z => hj ⟨z.1, z.2.1⟩), if_neg (fun z => hj ⟨z.1, z.2.1⟩)]
  · unfold upr
    rw [e0]
    by_cases hj : 0 < x ∧ (x : Int) < (S 0).toInt
    · rw [er x i (by omega) (by omega), er (x - 1) i (by omega) (by omega)]
    · rw [if_neg (fun z => hj ⟨z.1, z.2.1⟩), if_neg (fun z => hj ⟨z.1, z.2.1⟩)]
