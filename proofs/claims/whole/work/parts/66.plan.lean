/-! ===== plans ===== -/
theorem r_less {G : GG} {d : Nat} {h : HP} {Q : Option Value → HP → Prop} {x z : Int32} (hQ : Q (some (.int (mnI x z))) h) : Cal G d mX12_less [.int x, .int z] h Q := by
  refine e_X12_less ⟨fun c => ?_, fun c => ?_⟩
  · unfold mnI at hQ
    by_cases c2 : z < x
    · rw [if_pos c2] at hQ; exact hQ
    · rw [if_neg c2] at hQ
      have : z = x := by rw [ti_le] at c; rw [ti_lt] at c2; rw [ti_eq]; omega
      rw [this]; exact hQ
  · unfold mnI at hQ
    rw [if_neg (by rw [ti_le] at c; rw [ti_lt]; omega)] at hQ
    exact hQ
theorem r_more {G : GG} {d : Nat} {h : HP} {Q : Option Value → HP → Prop} {x z : Int32} (hQ : Q (some (.int (mxI x z))) h) : Cal G d mX12_more [.int x, .int z] h Q := by
  refine e_X12_more ⟨fun c => ?_, fun c => ?_⟩
  · unfold mxI at hQ
    by_cases c2 : x < z
    · rw [if_pos c2] at hQ; exact hQ
    · rw [if_neg c2] at hQ
      have : z = x := by rw [ti_le] at c; rw [ti_lt] at c2; rw [ti_eq]; omega
      rw [this]; exact hQ
  · unfold mxI at hQ
    rw [if_neg (by rw [ti_le] at c; rw [ti_lt]; omega)] at hQ
    exact hQ
theorem ti_mn (x z : Int32) : (mnI x z).toInt = min x.toInt z.toInt := by
  unfold mnI
  by_cases c : z < x
  · rw [if_pos c]; rw [ti_lt] at c; omega
  · rw [if_neg c]; rw [ti_lt] at c; omega
theorem ti_mx (x z : Int32) : (mxI x z).toInt = max x.toInt z.toInt := by
  unfold mxI
  by_cases c : x < z
  · rw [if_pos c]; rw [ti_lt] at c; omega
  · rw [if_neg c]; rw [ti_lt] at c; omega
/-- the least rectangle: side k of one thing, or of two -/
def corI (A : Nat → Nat → Int32) (a : Nat) : Option Nat → Nat → Int32
  | none, k => A a k
  | some b, k => if k ≤ 2 then mnI (A a k) (A b k) else mxI (A a k) (A b k)
section PL
variable {G : GG} {d : Nat} {h : HP} {P : Nat} {Q : Option Value → HP → Prop}
theorem s_pset (k : Kd G h P 3) {f x z tx tz a b : Int32} (hQ : ∀ h2, FrI (fun c j => c = P ∧ j ≤ 7) h h2 → (hI h2 P 0 = f ∧ hI h2 P 1 = x ∧ hI h2 P 2 = z ∧ hI h2 P 3 = tx ∧ hI h2 P 4 = tz ∧ hI h2 P 5 = a ∧ hI h2 P 6 = b ∧ hI h2 P 7 = 0) → Q none h2) : Cal G d mX3_set [.ref P, .int f, .int x, .int z, .int tx, .int tz, .int a, .int b] h Q := by
  refine e_X3_set ⟨k, fun h2 e => hQ _ ?_ ?_⟩
  · rw [e]
    exact (((((((FrI.sI _ _ ⟨rfl, by omega⟩).tr (FrI.sI _ _ ⟨rfl, by omega⟩)).tr (FrI.sI _ _ ⟨rfl, by omega⟩)).tr (FrI.sI _ _ ⟨rfl, by omega⟩)).tr (FrI.sI _ _ ⟨rfl, by omega⟩)).tr (FrI.sI _ _ ⟨rfl, by omega⟩)).tr (FrI.sI _ _ ⟨rfl, by omega⟩)).tr (FrI.sI _ _ ⟨rfl, by omega⟩)
  · rw [e]
    simp [hI_sI]
theorem s_surround1 (hd : 1 ≤ d) (k : Kd G h P 3) {s t : Nat} (k9 : Kd G h (s + 5 + t) 9) (hne : s + 5 + t ≠ P) (hQ : ∀ h2, FrI (fun c j => c = P ∧ 9 ≤ j ∧ j ≤ 12) h h2 → (∀ j, 1 ≤ j → j ≤ 4 → hI h2 P (8 + j) = corI (tg h s) t none j) → Q none h2) : Cal G d mX3_surround [.ref P, .ref (s + 5 + t), va_rf none] h Q := by
  have K : ∀ {h2 : HP} {a κ : Nat}, KP h h2 → Kd G h a κ → Kd G h2 a κ := fun kp k => k.up kp
  refine e_X3_surround hd ⟨fun _ => ⟨k9, t_X3_surround_23 hd ⟨k, fun _ => ⟨k9.up (kp_sI ..), t_X3_surround_49 hd ⟨k.up (kp_sI ..), fun _ => ⟨k9.up ((kp_sI ..).tr (kp_sI ..)), t_X3_surround_75 hd ⟨k.up ((kp_sI ..).tr (kp_sI ..)), fun _ => ⟨k9.up (((kp_sI ..).tr (kp_sI ..)).tr (kp_sI ..)), k.up (((kp_sI ..).tr (kp_sI ..)).tr (kp_sI ..)), hQ _ ?_ ?_⟩, fun q e => by cases e⟩⟩, fun q e => by cases e⟩⟩, fun q e => by cases e⟩⟩, fun q e => by cases e⟩
  · exact (((FrI.sI _ _ ⟨rfl, by omega, by omega⟩).tr (FrI.sI _ _ ⟨rfl, by omega, by omega⟩)).tr (FrI.sI _ _ ⟨rfl, by omega, by omega⟩)).tr (FrI.sI _ _ ⟨rfl, by omega, by omega⟩)
  · intro j h1 h4
    have : j = 1 ∨ j = 2 ∨ j = 3 ∨ j = 4 := by omega
    simp only [corI, tg]
    rcases this with rfl | rfl | rfl | rfl <;> simp [hI_sI, hne]
theorem s_surround2 (hd : 1 ≤ d) (k : Kd G h P 3) {s t u : Nat} (k9 : Kd G h (s + 5 + t) 9) (k9' : Kd G h (s + 5 + u) 9) (hne : s + 5 + t ≠ P) (hne' : s + 5 + u ≠ P) (hQ : ∀ h2, FrI (fun c j => c = P ∧ 9 ≤ j ∧ j ≤ 12) h h2 → (∀ j, 1 ≤ j → j ≤ 4 → hI h2 P (8 + j) = corI (tg h s) t (some u) j) → Q none h2) : Cal G d mX3_surround [.ref P, .ref (s + 5 + t), .ref (s + 5 + u)] h Q := by
  refine e_X3_surround (o2 := some (s + 5 + u)) hd ⟨fun q => (by cases q), fun q e => ?_⟩
  obtain rfl : s + 5 + u = q := Option.some.inj e
  refine ⟨k9, k9', t_X3_surround_23 hd ⟨k, fun q => (by cases q), fun q e => ?_⟩⟩
  obtain rfl : s + 5 + u = q := Option.some.inj e
  refine ⟨k9.up (kp_sI ..), k9'.up (kp_sI ..), t_X3_surround_49 hd ⟨k.up (kp_sI ..), fun q => (by cases q), fun q e => ?_⟩⟩
  obtain rfl : s + 5 + u = q := Option.some.inj e
  refine ⟨k9.up ((kp_sI ..).tr (kp_sI ..)), k9'.up ((kp_sI ..).tr (kp_sI ..)), t_X3_surround_75 hd ⟨k.up ((kp_sI ..).tr (kp_sI ..)), fun q => (by cases q), fun q e => ?_⟩⟩
  obtain rfl : s + 5 + u = q := Option.some.inj e
  refine ⟨k9.up (((kp_sI ..).tr (kp_sI ..)).tr (kp_sI ..)), k9'.up (((kp_sI ..).tr (kp_sI ..)).tr (kp_sI ..)), k.up (((kp_sI ..).tr (kp_sI ..)).tr (kp_sI ..)), hQ _ ?_ ?_⟩
  · exact (((FrI.sI _ _ ⟨rfl, by omega, by omega⟩).tr (FrI.sI _ _ ⟨rfl, by omega, by omega⟩)).tr (FrI.sI _ _ ⟨rfl, by omega, by omega⟩)).tr (FrI.sI _ _ ⟨rfl, by omega, by omega⟩)
  · intro j h1 h4
    have : j = 1 ∨ j = 2 ∨ j = 3 ∨ j = 4 := by omega
    simp only [corI, tg]
    rcases this with rfl | rfl | rfl | rfl <;> simp [hI_sI, hne, hne']
theorem s_spread (k : Kd G h P 3) {l u r e : Int32} (hQ : ∀ h2, FrI (fun c j => c = P ∧ ((1 ≤ j ∧ j ≤ 4) ∨ (13 ≤ j ∧ j ≤ 16))) h h2 → (hI h2 P 1 = hI h P 9 - l ∧ hI h2 P 2 = hI h P 10 - u ∧ hI h2 P 3 = hI h P 11 + r ∧ hI h2 P 4 = hI h P 12 + e) → (hI h2 P 13 = l ∧ hI h2 P 14 = u ∧ hI h2 P 15 = r ∧ hI h2 P 16 = e) → Q none h2) : Cal G d mX3_spread [.ref P, .int l, .int u, .int r, .int e] h Q := by
  refine e_X3_spread ⟨k, fun h2 e2 h5 e5 => hQ _ ?_ ?_ ?_⟩
  · rw [e5, e2]
    exact (((((((FrI.sI _ _ ⟨rfl, by omega⟩).tr (FrI.sI _ _ ⟨rfl, by omega⟩)).tr (FrI.sI _ _ ⟨rfl, by omega⟩)).tr (FrI.sI _ _ ⟨rfl, by omega⟩)).tr (FrI.sI _ _ ⟨rfl, by omega⟩)).tr (FrI.sI _ _ ⟨rfl, by omega⟩)).tr (FrI.sI _ _ ⟨rfl, by omega⟩)).tr (FrI.sI _ _ ⟨rfl, by omega⟩)
  · rw [e5, e2]
    simp [hI_sI]
  · rw [e5, e2]
    simp [hI_sI]
def hldP (c r x z tx tz : Int32) : Prop := (0 ≤ x.toInt ∧ x.toInt < tx.toInt ∧ tx.toInt ≤ c.toInt) ∧ 0 ≤ z.toInt ∧ z.toInt < tz.toInt ∧ tz.toInt ≤ r.toInt
theorem s_holds {s : Nat} (k : Kd G h P 3) (k6 : Kd G h s 6) (h0 : ¬ hldP (hI h s 0) (hI h s 1) (hI h P 1) (hI h P 2) (hI h P 3) (hI h P 4) → Q (some (.int 0)) h) (h1 : hldP (hI h s 0) (hI h s 1) (hI h P 1) (hI h P 2) (hI h P 3) (hI h P 4) → Q (some (.int 1)) h) : Cal G d mX6_holds [.ref s, .ref P] h Q := by
  have z0 : (0 : Int32).toInt = 0 := rfl
  unfold hldP at h0 h1
  refine e_X6_holds ⟨k, fun c => h0 ?_, fun c => ⟨fun c2 => h0 ?_, fun c2 => ⟨fun c3 => h0 ?_, fun c3 => ⟨fun c4 => h0 ?_, fun c4 => ⟨k6, fun c5 => h0 ?_, fun c5 => ⟨fun c6 => h0 ?_, fun c6 => h1 ?_⟩⟩⟩⟩⟩⟩
  all_goals
    simp only [ti_lt, ti_le, z0] at *
    omega
theorem s_parea (k : Kd G h P 3) (hQ : Q (some (.int ((hI h P 3 - hI h P 1) * (hI h P 4 - hI h P 2)))) h) : Cal G d mX3_area [.ref P] h Q := e_X3_area ⟨k, hQ⟩
end PL
theorem r_bases2 {G : GG} {d : Nat} {h : HP} {y : Nat} {Q : Option Value → HP → Prop} (hd : 2 ≤ d) (M : MdSh G h y) {t u : Nat} (ht : t < 54) (hu : u < 54) (hQ : ∀ h2, FrI (fun a k => a = y ∧ 37 ≤ k ∧ k ≤ 40) h h2 → (∀ j, 1 ≤ j → j ≤ 4 → hI h2 y (36 + j) = corI (tS (said h y)) t (some u) j) → Q none h2) : Cal G d mX12_bases [.ref y, .int (nI t), .int (nI u)] h Q := by
  have step : ∀ {h1 h2 : HP} {k : Nat} {v : Int32}, FrI (fun a k => a = y ∧ 37 ≤ k ∧ k ≤ 40) h h1 → h2 = sI h1 y k v → 37 ≤ k → k ≤ 40 → FrI (fun a k => a = y ∧ 37 ≤ k ∧ k ≤ 40) h h2 := fun F e h1 h2 => e ▸ F.tr (FrI.sI _ _ ⟨rfl, h1, h2⟩)
  have es : ∀ {h1 : HP} {u k : Nat}, FrI (fun a k => a = y ∧ 37 ≤ k ∧ k ≤ 40) h h1 → sd h1 y u k = tS (said h y) u k := fun F => F.i (by omega)
  refine e_X12_bases (by omega) ⟨M.1, r_of (k := 1) (by omega) M (ti_nI (by omega)) ht rfl (by omega) ⟨_, rfl, ?_⟩⟩
  generalize g1 : sI h y 37 _ = h1
  have F1 := step (FrI.rf _ h) g1.symm (by omega) (by omega)
  refine r_of (k := 2) (by omega) (M.fr F1) (ti_nI (by omega)) ht rfl (by omega) ⟨_, rfl, ?_⟩
  generalize g2 : sI h1 y 38 _ = h2
  have F2 := step F1 g2.symm (by omega) (by omega)
  refine r_of (k := 3) (by omega) (M.fr F2) (ti_nI (by omega)) ht rfl (by omega) ⟨_, rfl, ?_⟩
  generalize g3 : sI h2 y 39 _ = h3
  have F3 := step F2 g3.symm (by omega) (by omega)
  refine r_of (k := 4) (by omega) (M.fr F3) (ti_nI (by omega)) ht rfl (by omega) ⟨_, rfl, fun _ => ?_, fun q => absurd q (nI_ne_neg (by omega))⟩
  generalize g4 : sI h3 y 40 _ = h4
  have F4 := step F3 g4.symm (by omega) (by omega)
  refine r_of (k := 1) (by omega) (M.fr F4) (ti_nI (by omega)) hu rfl (by omega) ⟨_, rfl, r_less ⟨_, rfl, ?_⟩⟩
  generalize g5 : sI h4 y 37 _ = h5
  have F5 := step F4 g5.symm (by omega) (by omega)
  refine r_of (k := 2) (by omega) (M.fr F5) (ti_nI (by omega)) hu rfl (by omega) ⟨_, rfl, r_less ⟨_, rfl, ?_⟩⟩
  generalize g6 : sI h5 y 38 _ = h6
  have F6 := step F5 g6.symm (by omega) (by omega)
  refine r_of (k := 3) (by omega) (M.fr F6) (ti_nI (by omega)) hu rfl (by omega) ⟨_, rfl, r_more ⟨_, rfl, ?_⟩⟩
  generalize g7 : sI h6 y 39 _ = h7
  have F7 := step F6 g7.symm (by omega) (by omega)
  refine r_of (k := 4) (by omega) (M.fr F7) (ti_nI (by omega)) hu rfl (by omega) ⟨_, rfl, r_more ⟨_, rfl, ?_⟩⟩
  generalize g8 : sI h7 y 40 _ = h8
  have F8 := step F7 g8.symm (by omega) (by omega)
  refine hQ _ F8 (fun j h1' h4' => ?_)
  simp only [corI]
  have : j = 1 ∨ j = 2 ∨ j = 3 ∨ j = 4 := by omega
  rcases this with rfl | rfl | rfl | rfl
  · rw [if_pos (by omega), ← g8, hI_ne _ _ (Or.inr (by omega)), ← g7, hI_ne _ _ (Or.inr (by omega)), ← g6, hI_ne _ _ (Or.inr (by omega)), ← g5, hI_eq, es F4, ← g4, hI_ne _ _ (Or.inr (by omega)), ← g3, hI_ne _ _ (Or.inr (by omega)), ← g2, hI_ne _ _ (Or.inr (by omega)), ← g1, hI_eq]
    rfl
  · rw [if_pos (by omega), ← g8, hI_ne _ _ (Or.inr (by omega)), ← g7, hI_ne _ _ (Or.inr (by omega)), ← g6, hI_eq, es F5, ← g5, hI_ne _ _ (Or.inr (by omega)), ← g4, hI_ne _ _ (Or.inr (by omega)), ← g3, hI_ne _ _ (Or.inr (by omega)), ← g2, hI_eq, es F1]
  · rw [if_neg (by omega), ← g8, hI_ne _ _ (Or.inr (by omega)), ← g7, hI_eq, es F6, ← g6, hI_ne _ _ (Or.inr (by omega)), ← g5, hI_ne _ _ (Or.inr (by omega)), ← g4, hI_ne _ _ (Or.inr (by omega)), ← g3, hI_eq, es F2]
  · rw [if_neg (by omega), ← g8, hI_eq, es F7, ← g7, hI_ne _ _ (Or.inr (by omega)), ← g6, hI_ne _ _ (Or.inr (by omega)), ← g5, hI_ne _ _ (Or.inr (by omega)), ← g4, hI_eq, es F3]
theorem r_bases1 {G : GG} {d : Nat} {h : HP} {y : Nat} {Q : Option Value → HP → Prop} (hd : 2 ≤ d) (M : MdSh G h y) {t : Nat} (ht : t < 54) (hQ : ∀ h2, FrI (fun a k => a = y ∧ 37 ≤ k ∧ k ≤ 40) h h2 → (∀ j, 1 ≤ j → j ≤ 4 → hI h2 y (36 + j) = corI (tS (said h y)) t none j) → Q none h2) : Cal G d mX12_bases [.ref y, .int (nI t), .int (-1)] h Q := by
  have step : ∀ {h1 h2 : HP} {k : Nat} {v : Int32}, FrI (fun a k => a = y ∧ 37 ≤ k ∧ k ≤ 40) h h1 → h2 = sI h1 y k v → 37 ≤ k → k ≤ 40 → FrI (fun a k => a = y ∧ 37 ≤ k ∧ k ≤ 40) h h2 := fun F e h1 h2 => e ▸ F.tr (FrI.sI _ _ ⟨rfl, h1, h2⟩)
  have es : ∀ {h1 : HP} {u k : Nat}, FrI (fun a k => a = y ∧ 37 ≤ k ∧ k ≤ 40) h h1 → sd h1 y u k = tS (said h y) u k := fun F => F.i (by omega)
  refine e_X12_bases (by omega) ⟨M.1, r_of (k := 1) (by omega) M (ti_nI (by omega)) ht rfl (by omega) ⟨_, rfl, ?_⟩⟩
  generalize g1 : sI h y 37 _ = h1
  have F1 := step (FrI.rf _ h) g1.symm (by omega) (by omega)
  refine r_of (k := 2) (by omega) (M.fr F1) (ti_nI (by omega)) ht rfl (by omega) ⟨_, rfl, ?_⟩
  generalize g2 : sI h1 y 38 _ = h2
  have F2 := step F1 g2.symm (by omega) (by omega)
  refine r_of (k := 3) (by omega) (M.fr F2) (ti_nI (by omega)) ht rfl (by omega) ⟨_, rfl, ?_⟩
  generalize g3 : sI h2 y 39 _ = h3
  have F3 := step F2 g3.symm (by omega) (by omega)
  refine r_of (k := 4) (by omega) (M.fr F3) (ti_nI (by omega)) ht rfl (by omega) ⟨_, rfl, fun q => absurd rfl q, fun _ => ?_⟩
  generalize g4 : sI h3 y 40 _ = h4
  have F4 := step F3 g4.symm (by omega) (by omega)
  refine hQ _ F4 (fun j h1' h4' => ?_)
  simp only [corI]
  have : j = 1 ∨ j = 2 ∨ j = 3 ∨ j = 4 := by omega
  rcases this with rfl | rfl | rfl | rfl
  · rw [← g4, hI_ne _ _ (Or.inr (by omega)), ← g3, hI_ne _ _ (Or.inr (by omega)), ← g2, hI_ne _ _ (Or.inr (by omega)), ← g1, hI_eq]
    rfl
  · rw [← g4, hI_ne _ _ (Or.inr (by omega)), ← g3, hI_ne _ _ (Or.inr (by omega)), ← g2, hI_eq, es F1]
  · rw [← g4, hI_ne _ _ (Or.inr (by omega)), ← g3, hI_eq, es F2]
  · rw [← g4, hI_eq, es F3]
