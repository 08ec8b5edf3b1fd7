/-! ===== pulling down ===== -/
theorem WfT.lies {M : Nat} (hM : M < 2147483648) {c r : Int32} {A : Nat → Nat → Int32} (W : WfT M c r A) {o : Nat} (ho : o < 2147483648) : ∀ (n t : Nat), t < M → A t 0 = 1 → liesF A (nI o) n (A t 6) = true → 6 ≤ o ∧ o < M ∧ A o 0 = 1 ∧ inn A t o
  | 0, t, _, _, h => by simp [liesF] at h
  | n + 1, t, ht, h0, h => by
    rcases W.2.1 t ht h0 with e | ⟨u, h1, h2, h3, h4, h5⟩
    · rw [e] at h
      simp [liesF] at h
    · rw [h3] at h
      simp only [liesF, if_neg (nI_ne_neg (show u < 2147483648 by omega)), cl_nI (show u < 2147483648 by omega)] at h
      by_cases e : nI u = nI o
      · have e := (nI_eq_iff (by omega) ho).mp e
        subst e
        exact ⟨h1, h2, h4, h5⟩
      · rw [if_neg e] at h
        obtain ⟨a1, a2, a3, a4⟩ := W.lies hM ho n u h2 h4 h
        refine ⟨a1, a2, a3, ?_⟩
        unfold inn at h5 a4 ⊢
        omega
theorem WfT.noself {M : Nat} (hM : M < 2147483648) {c r : Int32} {A : Nat → Nat → Int32} (W : WfT M c r A) {t : Nat} (ht : t < M) (h0 : A t 0 = 1) (n : Nat) : liesF A (nI t) n (A t 6) = false := by
  cases e : liesF A (nI t) n (A t 6)
  · rfl
  · have := (W.lies hM (by omega) n t ht h0 e).2.2.2
    unfold inn at this
    omega
def pullA (A : Nat → Nat → Int32) (w u k : Nat) : Int32 := if u = w ∧ k = 0 then 0 else if k = 6 ∧ A u 0 = 1 ∧ A u 6 = nI w then A w 6 else A u k
def prm (A : Nat → Nat → Int32) (w : Nat) (p : Int32) : Int32 := if p = nI w then A w 6 else p
theorem pullA_6 {A : Nat → Nat → Int32} {w u : Nat} (h0 : A u 0 = 1) : pullA A w u 6 = prm A w (A u 6) := by
  unfold pullA prm
  rw [if_neg (by omega)]
  by_cases c : A u 6 = nI w
  · rw [if_pos ⟨rfl, h0, c⟩, if_pos c]
  · rw [if_neg (fun q => c q.2.2), if_neg c]
theorem pullA_ne {A : Nat → Nat → Int32} {w u k : Nat} (h6 : k ≠ 6) (h : u ≠ w ∨ k ≠ 0) : pullA A w u k = A u k := by
  unfold pullA
  rw [if_neg (by omega), if_neg (fun q => h6 q.1)]
/-- chains, w left out -/
theorem pull_lies {A : Nat → Nat → Int32} {b w : Nat} (hb : b < 2147483648) (hw : w < 2147483648) (hs : ¬ A w 6 = nI w) {o : Int32} (ho : ¬ o = nI w) : ∀ (n m m' : Nat) (p : Int32), endsT A b n p → n < m → n < m' → liesF (pullA A w) o m (prm A w p) = liesF A o m' p
  | 0, m, m', p, h, h1, h2 => by
    obtain rfl : p = -1 := h
    obtain ⟨m, rfl⟩ : ∃ k, m = k + 1 := ⟨m - 1, by omega⟩
    obtain ⟨m', rfl⟩ : ∃ k, m' = k + 1 := ⟨m' - 1, by omega⟩
    have : prm A w (-1) = -1 := by
      unfold prm
      rw [if_neg (fun q => nI_ne_neg hw q.symm)]
    rw [this]
    rfl
  | n + 1, m, m', p, h, h1, h2 => by
    obtain ⟨m, rfl⟩ : ∃ k, m = k + 1 := ⟨m - 1, by omega⟩
    obtain ⟨m', rfl⟩ : ∃ k, m' = k + 1 := ⟨m' - 1, by omega⟩
    rcases h with rfl | ⟨r, rfl, h3, h0, h4⟩
    · have : prm A w (-1) = -1 := by
        unfold prm
        rw [if_neg (fun q => nI_ne_neg hw q.symm)]
      rw [this]
      rfl
    · by_cases e : r = w
      · subst e
        have e1 : prm A r (nI r) = prm A r (A r 6) := by
          unfold prm
          rw [if_pos rfl, if_neg hs]
        rw [e1, pull_lies hb hw hs ho n (m + 1) m' (A r 6) h4 (by omega) (by omega)]
        simp only [liesF, if_neg (nI_ne_neg (show r < 2147483648 by omega)), cl_nI (show r < 2147483648 by omega)]
        rw [if_neg (fun q => ho q.symm)]
      · have e1 : prm A w (nI r) = nI r := by
          unfold prm
          rw [if_neg (fun q => e ((nI_eq_iff (by omega) (by omega)).mp q))]
        rw [e1]
        simp only [liesF, if_neg (nI_ne_neg (show r < 2147483648 by omega)), cl_nI (show r < 2147483648 by omega)]
        rw [pullA_6 h0, pull_lies hb hw hs ho n m m' (A r 6) h4 (by omega) (by omega)]
theorem prm_neg (A : Nat → Nat → Int32) {w : Nat} (hw : w < 2147483648) : prm A w (-1) = -1 := by
  unfold prm
  rw [if_neg (fun q => nI_ne_neg hw q.symm)]
theorem pull_ends {A : Nat → Nat → Int32} {b w : Nat} (hb : b < 2147483648) (hw : w < 2147483648) (hs : ¬ A w 6 = nI w) : ∀ (n : Nat) (p : Int32), endsT A b n p → endsT (pullA A w) b n (prm A w p)
  | 0, p, h => by
    obtain rfl : p = -1 := h
    exact prm_neg A hw
  | n + 1, p, h => by
    rcases h with rfl | ⟨r, rfl, h3, h0, h4⟩
    · exact Or.inl (prm_neg A hw)
    · by_cases e : r = w
      · subst e
        have e1 : prm A r (nI r) = prm A r (A r 6) := by
          unfold prm
          rw [if_pos rfl, if_neg hs]
        rw [e1]
        exact (pull_ends hb hw hs n _ h4).mono (Nat.le_refl _) (by omega)
      · have e1 : prm A w (nI r) = nI r := by
          unfold prm
          rw [if_neg (fun q => e ((nI_eq_iff (by omega) (by omega)).mp q))]
        rw [e1]
        refine Or.inr ⟨r, rfl, h3, ?_, ?_⟩
        · rw [pullA_ne (by omega) (Or.inl e)]
          exact h0
        · rw [pullA_6 h0]
          exact pull_ends hb hw hs n _ h4
theorem cntF_rm {p q : Nat → Bool} {w : Nat} : ∀ (n i : Nat), i ≤ w → w < i + n → (∀ j, j ≠ w → q j = p j) → q w = false → cntF p i n = cntF q i n + (if p w = true then 1 else 0)
  | 0, i, h1, h2, _, _ => by omega
  | n + 1, i, h1, h2, e, e0 => by
    simp only [cntF]
    by_cases c : i = w
    · subst c
      rw [e0, cntF_congr n (i + 1) (fun j a b => (e j (by omega)).symm)]
      cases p i <;> simp <;> omega
    · rw [cntF_rm n (i + 1) (by omega) (by omega) e e0, e i c]
      omega
theorem WF.endsW54 {S : Nat → Int32} (W : WF S) {v : Nat} (hv : v < 54) (h : tS S v 0 = 1) : v < 30 := by
  by_cases h30 : v < 30
  · exact h30
  · rw [W.2.2.2.1 v (by omega) hv] at h
    exact absurd h (by decide)
/-- how deep things are without w -/
theorem pull_deep {S S' : Nat → Int32} (W : WF S) {w : Nat} (h6 : 6 ≤ w) (hw : w < 30) (w0 : tS S w 0 = 1) (e : ∀ u k, u < 54 → k < 12 → tS S' u k = pullA (tS S) w u k) {o : Nat} (ho : o < 30) (hne : o ≠ w) : deepN (tS S) 31 (nI o) = deepN (tS S') 31 (nI o) + (if liesF (tS S) (nI o) 31 (tS S w 6) = true then 1 else 0) := by
  have hs : ¬ tS S w 6 = nI w := fun q => by
    have := W.2.2.2.2.noself (by omega) hw w0 1
    rw [q] at this
    simp only [liesF, if_neg (nI_ne_neg (show w < 2147483648 by omega))] at this
    simp at this
  have ew : wallB (tS S) w = true := (W.2.2.1.w (by omega)).mp w0
  have key : ∀ v, v < 54 → v ≠ w → (wallB (tS S') v && liesF (tS S') (nI o) 31 (tS S' v 6)) = (wallB (tS S) v && liesF (tS S) (nI o) 31 (tS S v 6)) := fun v hv hvw => by
    have e0 : wallB (tS S') v = wallB (tS S) v := by
      unfold wallB
      rw [e v 0 hv (by omega), pullA_ne (by omega) (Or.inl hvw)]
    rw [e0]
    cases c : wallB (tS S) v
    · rw [Bool.false_and, Bool.false_and]
    · have v0 := (W.2.2.1.w hv).mpr c
      have v30 := W.endsW54 hv v0
      have et := W.endsT v30 v0
      rw [e v 6 hv (by omega), pullA_6 v0]
      have ef : endsF (pullA (tS S) w) 54 20 (prm (tS S) w (tS S v 6)) := ((pull_ends (by omega) (by omega) hs 20 _ et).toF).mono (by omega) (Nat.le_refl _)
      rw [liesF_congr (A := pullA (tS S) w) (b := 54) (by omega) (fun r hr => e r 6 hr (by omega)) (nI o) 31 20 _ ef]
      rw [pull_lies (b := 30) (by omega) (by omega) hs (fun q => hne ((nI_eq_iff (by omega) (by omega)).mp q)) 20 31 31 _ et (by omega) (by omega)]
  have e2 : wallB (tS S') w = false := by
    unfold wallB
    rw [e w 0 (by omega) (by omega)]
    unfold pullA
    rw [if_pos ⟨rfl, rfl⟩]
    rfl
  have e1 : cntF (fun v => wallB (tS S) v && liesF (tS S) (nI o) 31 (tS S v 6)) 6 48 = cntF (fun v => if v < 54 then wallB (tS S') v && liesF (tS S') (nI o) 31 (tS S' v 6) else wallB (tS S) v && liesF (tS S) (nI o) 31 (tS S v 6)) 6 48 + (if (wallB (tS S) w && liesF (tS S) (nI o) 31 (tS S w 6)) = true then 1 else 0) := by
    refine cntF_rm 48 6 (by omega) (by omega) (fun j hj => ?_) ?_
    · by_cases c : j < 54
      · rw [if_pos c]
        exact key j c hj
      · rw [if_neg c]
    · rw [if_pos (by omega), e2, Bool.false_and]
  have e3 : cntF (fun v => if v < 54 then wallB (tS S') v && liesF (tS S') (nI o) 31 (tS S' v 6) else wallB (tS S) v && liesF (tS S) (nI o) 31 (tS S v 6)) 6 48 = cntF (fun v => wallB (tS S') v && liesF (tS S') (nI o) 31 (tS S' v 6)) 6 48 := cntF_congr 48 6 (fun j h1 h2 => if_pos (by omega))
  unfold deepN
  rw [e1, e3, ew, Bool.true_and]
theorem inn_clr {A : Nat → Nat → Int32} {t w u : Nat} (h : inn A t w) (c : clr A w u) : clr A t u := by
  unfold inn at h
  unfold clr at c ⊢
  omega
theorem clr_symm {A : Nat → Nat → Int32} {t u : Nat} (c : clr A t u) : clr A u t := by
  unfold clr at c ⊢
  omega
/-- things without w -/
theorem pull_wft {c r : Int32} {A A' : Nat → Nat → Int32} (W : WfT 30 c r A) (b : bin A) {w : Nat} (h6 : 6 ≤ w) (hw : w < 30) (w0 : A w 0 = 1) (e : ∀ u k, u < 54 → k < 12 → A' u k = pullA A w u k) : WfT 30 c r A' := by
  have e0 : ∀ u, u < 30 → A' u 0 = 1 → u ≠ w ∧ A u 0 = 1 := fun u hu q => by
    rw [e u 0 (by omega) (by omega)] at q
    unfold pullA at q
    by_cases z : u = w
    · rw [if_pos ⟨z, rfl⟩] at q
      exact absurd q (by decide)
    · rw [if_neg (fun y => z y.1), if_neg (by omega)] at q
      exact ⟨z, q⟩
  have ek : ∀ u k, u < 30 → 1 ≤ k → k ≤ 4 → A' u k = A u k := fun u k hu h1 h4 => by
    rw [e u k (by omega) (by omega), pullA_ne (by omega) (by omega)]
  have ei : ∀ t u, t < 30 → u < 30 → (inn A' t u ↔ inn A t u) := fun t u ht hu => by
    unfold inn
    rw [ek t 1 ht (by omega) (by omega), ek t 2 ht (by omega) (by omega), ek t 3 ht (by omega) (by omega), ek t 4 ht (by omega) (by omega), ek u 1 hu (by omega) (by omega), ek u 2 hu (by omega) (by omega), ek u 3 hu (by omega) (by omega), ek u 4 hu (by omega) (by omega)]
  have ec : ∀ t u, t < 30 → u < 30 → (clr A' t u ↔ clr A t u) := fun t u ht hu => by
    unfold clr
    rw [ek t 1 ht (by omega) (by omega), ek t 2 ht (by omega) (by omega), ek t 3 ht (by omega) (by omega), ek t 4 ht (by omega) (by omega), ek u 1 hu (by omega) (by omega), ek u 2 hu (by omega) (by omega), ek u 3 hu (by omega) (by omega), ek u 4 hu (by omega) (by omega)]
  have inw : ∀ t, t < 30 → A t 0 = 1 → A t 6 = nI w → inn A t w := fun t ht t0 q => by
    rcases W.2.1 t ht t0 with z | ⟨u, h1, h2, h3, h4, h5⟩
    · rw [q] at z
      exact absurd z (nI_ne_neg (by omega))
    · rw [q, nI_eq_iff (by omega) (by omega)] at h3
      rw [h3]; exact h5
  refine ⟨fun t ht q => ?_, fun t ht q => ?_, fun t u ht hu hne q1 q2 q3 => ?_⟩
  · obtain ⟨-, t0⟩ := e0 t ht q
    exact (W.1 t ht t0).same (fun k h1 h4 => ek t k ht h1 h4)
  · obtain ⟨tw, t0⟩ := e0 t ht q
    rw [e t 6 (by omega) (by omega), pullA_6 t0]
    unfold prm
    by_cases z : A t 6 = nI w
    · rw [if_pos z]
      rcases W.2.1 w hw w0 with y | ⟨u, h1, h2, h3, h4, h5⟩
      · exact Or.inl y
      · have hne : u ≠ w := fun q => by
          rw [q] at h5
          unfold inn at h5
          omega
        refine Or.inr ⟨u, h1, h2, h3, ?_, (ei t u ht h2).mpr ?_⟩
        · rw [e u 0 (by omega) (by omega), pullA_ne (by omega) (Or.inl hne)]
          exact h4
        · have := inw t ht t0 z
          unfold inn at this h5 ⊢
          omega
    · rw [if_neg z]
      rcases W.2.1 t ht t0 with y | ⟨u, h1, h2, h3, h4, h5⟩
      · exact Or.inl y
      · have hne : u ≠ w := fun q => z (by rw [h3, q])
        refine Or.inr ⟨u, h1, h2, h3, ?_, (ei t u ht h2).mpr h5⟩
        rw [e u 0 (by omega) (by omega), pullA_ne (by omega) (Or.inl hne)]
        exact h4
  · obtain ⟨tw, t0⟩ := e0 t ht q1
    obtain ⟨uw, u0⟩ := e0 u hu q2
    rw [ec t u ht hu]
    rw [e t 6 (by omega) (by omega), e u 6 (by omega) (by omega), pullA_6 t0, pullA_6 u0] at q3
    unfold prm at q3
    by_cases z1 : A t 6 = nI w
    · by_cases z2 : A u 6 = nI w
      · exact W.2.2 t u ht hu hne t0 u0 (z1.trans z2.symm)
      · rw [if_pos z1, if_neg z2] at q3
        exact inn_clr (inw t ht t0 z1) (W.2.2 w u hw hu (fun q => uw q.symm) w0 u0 q3)
    · by_cases z2 : A u 6 = nI w
      · rw [if_neg z1, if_pos z2] at q3
        exact clr_symm (inn_clr (inw u hu u0 z2) (W.2.2 w t hw ht (fun q => tw q.symm) w0 t0 q3.symm))
      · rw [if_neg z1, if_neg z2] at q3
        exact W.2.2 t u ht hu hne t0 u0 q3
