/-! ===== copies of a State ===== -/
theorem fr_s3 {P : Nat → Nat → Prop} (h : HP) {a k1 k2 k3 : Nat} {v1 v2 v3 : Int32} (hp : ∀ k, P a k) : FrI P h (sI (sI (sI h a k1 v1) a k2 v2) a k3 v3) := ((FrI.sI h v1 (hp k1)).tr (FrI.sI _ v2 (hp k2))).tr (FrI.sI _ v3 (hp k3))
section CP
variable {G : GG} {d : Nat} {Q : Option Value → HP → Prop}
theorem s_tcopy {h : HP} {a c : Nat} (ka : Kd G h a 9) (kc : Kd G h c 9) (hne : c ≠ a) (hb : hI h c 0 = 0 ∨ hI h c 0 = 1) (hQ : ∀ h2, FrI (fun x _ => x = a) h h2 → (∀ k, k < 12 → hI h2 a k = hI h c k) → Q none h2) : Cal G d mX9_copyFrom [.ref a, .ref c] h Q := by
  refine e_X9_copyFrom ⟨kc, hb, ka, fun h4 e4 h7 e7 h10 e10 h13 e13 => ?_⟩
  have F4 : FrI (fun x _ => x = a) h h4 := by rw [e4]; exact fr_s3 _ (fun _ => rfl)
  have F7 : FrI (fun x _ => x = a) h4 h7 := by rw [e7]; exact fr_s3 _ (fun _ => rfl)
  have F10 : FrI (fun x _ => x = a) h7 h10 := by rw [e10]; exact fr_s3 _ (fun _ => rfl)
  have F13 : FrI (fun x _ => x = a) h10 h13 := by rw [e13]; exact fr_s3 _ (fun _ => rfl)
  have v4 : ∀ k, hI h4 a k = if k < 3 then hI h c k else hI h a k := fun k => by
    rw [e4]
    by_cases c0 : k = 0
    · subst c0; simp [hI_sI, hne]
    · by_cases c1 : k = 1
      · subst c1; simp [hI_sI, hne]
      · by_cases c2 : k = 2
        · subst c2; simp [hI_sI, hne]
        · rw [if_neg (by omega), hI_ne _ _ (Or.inr (by omega)), hI_ne _ _ (Or.inr (by omega)), hI_ne _ _ (Or.inr (by omega))]
  have v7 : ∀ k, hI h7 a k = if 3 ≤ k ∧ k < 6 then hI h4 c k else hI h4 a k := fun k => by
    rw [e7]
    by_cases c0 : k = 3
    · subst c0; simp [hI_sI, hne]
    · by_cases c1 : k = 4
      · subst c1; simp [hI_sI, hne]
      · by_cases c2 : k = 5
        · subst c2; simp [hI_sI, hne]
        · rw [if_neg (by omega), hI_ne _ _ (Or.inr (by omega)), hI_ne _ _ (Or.inr (by omega)), hI_ne _ _ (Or.inr (by omega))]
  have v10 : ∀ k, hI h10 a k = if 6 ≤ k ∧ k < 9 then hI h7 c k else hI h7 a k := fun k => by
    rw [e10]
    by_cases c0 : k = 6
    · subst c0; simp [hI_sI, hne]
    · by_cases c1 : k = 7
      · subst c1; simp [hI_sI, hne]
      · by_cases c2 : k = 8
        · subst c2; simp [hI_sI, hne]
        · rw [if_neg (by omega), hI_ne _ _ (Or.inr (by omega)), hI_ne _ _ (Or.inr (by omega)), hI_ne _ _ (Or.inr (by omega))]
  have v13 : ∀ k, hI h13 a k = if 9 ≤ k ∧ k < 12 then hI h10 c k else hI h10 a k := fun k => by
    rw [e13]
    by_cases c0 : k = 9
    · subst c0; simp [hI_sI, hne]
    · by_cases c1 : k = 10
      · subst c1; simp [hI_sI, hne]
      · by_cases c2 : k = 11
        · subst c2; simp [hI_sI, hne]
        · rw [if_neg (by omega), hI_ne _ _ (Or.inr (by omega)), hI_ne _ _ (Or.inr (by omega)), hI_ne _ _ (Or.inr (by omega))]
  have o4 : ∀ k, hI h4 c k = hI h c k := fun k => F4.i hne
  have o7 : ∀ k, hI h7 c k = hI h c k := fun k => (F7.i hne).trans (o4 k)
  have o10 : ∀ k, hI h10 c k = hI h c k := fun k => (F10.i hne).trans (o7 k)
  refine hQ h13 (F4.tr (F7.tr (F10.tr F13))) (fun k hk => ?_)
  rw [v13, v10, v7, v4, o10, o7, o4]
  by_cases c1 : k < 3
  · rw [if_neg (by omega), if_neg (by omega), if_neg (by omega), if_pos c1]
  · by_cases c2 : k < 6
    · rw [if_neg (by omega), if_neg (by omega), if_pos (by omega)]
    · by_cases c3 : k < 9
      · rw [if_neg (by omega), if_pos (by omega)]
      · rw [if_pos (by omega)]
theorem s_ecopy {h : HP} {a c : Nat} (ka : Kd G h a 1) (kc : Kd G h c 1) (hne : c ≠ a) (hb : hI h c 0 = 0 ∨ hI h c 0 = 1) (hQ : ∀ h2, FrI (fun x _ => x = a) h h2 → (∀ k, k < 6 → hI h2 a k = hI h c k) → Q none h2) : Cal G d mX1_copyFrom [.ref a, .ref c] h Q := by
  refine e_X1_copyFrom ⟨kc, hb, ka, fun h4 e4 h7 e7 => ?_⟩
  have F4 : FrI (fun x _ => x = a) h h4 := by rw [e4]; exact fr_s3 _ (fun _ => rfl)
  have F7 : FrI (fun x _ => x = a) h4 h7 := by rw [e7]; exact fr_s3 _ (fun _ => rfl)
  have v4 : ∀ k, hI h4 a k = if k < 3 then hI h c k else hI h a k := fun k => by
    rw [e4]
    by_cases c0 : k = 0
    · subst c0; simp [hI_sI, hne]
    · by_cases c1 : k = 1
      · subst c1; simp [hI_sI, hne]
      · by_cases c2 : k = 2
        · subst c2; simp [hI_sI, hne]
        · rw [if_neg (by omega), hI_ne _ _ (Or.inr (by omega)), hI_ne _ _ (Or.inr (by omega)), hI_ne _ _ (Or.inr (by omega))]
  have v7 : ∀ k, hI h7 a k = if 3 ≤ k ∧ k < 6 then hI h4 c k else hI h4 a k := fun k => by
    rw [e7]
    by_cases c0 : k = 3
    · subst c0; simp [hI_sI, hne]
    · by_cases c1 : k = 4
      · subst c1; simp [hI_sI, hne]
      · by_cases c2 : k = 5
        · subst c2; simp [hI_sI, hne]
        · rw [if_neg (by omega), hI_ne _ _ (Or.inr (by omega)), hI_ne _ _ (Or.inr (by omega)), hI_ne _ _ (Or.inr (by omega))]
  have o4 : ∀ k, hI h4 c k = hI h c k := fun k => F4.i hne
  refine hQ h7 (F4.tr F7) (fun k hk => ?_)
  rw [v7, v4, o4]
  by_cases c1 : k < 3
  · rw [if_neg (by omega), if_pos c1]
  · rw [if_pos (by omega)]
/-- cells of a State that count -/
def StC (i k : Nat) : Prop := (i = 0 ∧ k < 5) ∨ (i = 1 ∧ k < 1600) ∨ (i = 2 ∧ k < 144) ∨ (5 ≤ i ∧ i < 36 ∧ k < 12) ∨ (36 ≤ i ∧ i < 42 ∧ k < 6)
theorem FrI.cp {P : Nat → Nat → Prop} (h : HP) {c sp a dp n : Nat} (hp : ∀ j, dp ≤ j → j < dp + n → P a j) : FrI P h (cpI h c sp a dp n) := ⟨kp_cp .., rfl, rfl, fun _ _ => rfl, fun _ _ => rfl, fun x j q => by
  rw [hI_cp, if_neg]
  rintro ⟨rfl, h1, h2⟩
  exact q (hp j h1 h2)⟩
theorem s_copyFrom {h : HP} {a c : Nat} (hd : 3 ≤ d) (A : StSh G h a) (C : StSh G h c) (dis : a + 42 ≤ c ∨ c + 42 ≤ a) (hb : ∀ t, t < 31 → tg h c t 0 = 0 ∨ tg h c t 0 = 1) (he : ∀ e, e < 6 → hI h (c + 36 + e) 0 = 0 ∨ hI h (c + 36 + e) 0 = 1)
    (hQ : ∀ h2, FrI (fun x _ => a ≤ x ∧ x < a + 42) h h2 → (∀ i k, StC i k → hI h2 (a + i) k = hI h (c + i) k) → Q none h2) : Cal G d mX6_copyFrom [.ref a, .ref c] h Q := by
  have z0 : (0 : Int32).toNatClampNeg = 0 := rfl
  have z16 : (1600 : Int32).toNatClampNeg = 1600 := rfl
  have n0 : ¬ (0 : Int32) < 0 := by decide
  have n16 : ¬ (1600 : Int32) < 0 := by decide
  refine e_X6_copyFrom (by omega) ⟨C.1, A.1, fun h3 e3 => ?_⟩
  have F3 : FrI (fun x _ => a ≤ x ∧ x < a + 42) h h3 := by rw [e3]; exact fr_s3 _ (fun _ => ⟨by omega, by omega⟩)
  have hne : c ≠ a := by omega
  have v3 : ∀ k, k < 3 → hI h3 a k = hI h c k := fun k hk => by
    rw [e3]
    have : k = 0 ∨ k = 1 ∨ k = 2 := by omega
    rcases this with rfl | rfl | rfl <;> simp [hI_sI, hne]
  generalize g4 : sI h3 a 3 (hI h3 c 3) = h4
  have F4 : FrI (fun x _ => a ≤ x ∧ x < a + 42) h3 h4 := by rw [← g4]; exact FrI.sI _ _ ⟨by omega, by omega⟩
  have A4 := (A.fr F3).fr F4
  have C4 := (C.fr F3).fr F4
  generalize g5 : sI h4 a 4 (hI h4 c 4) = h5
  have F5 : FrI (fun x _ => a ≤ x ∧ x < a + 42) h4 h5 := by rw [← g5]; exact FrI.sI _ _ ⟨by omega, by omega⟩
  have A5 := A4.fr F5
  have C5 := C4.fr F5
  have e144 : (Int32.ofNat (hN h5 (a + 2))).toNatClampNeg = 144 := by rw [A5.2.2.2.1.2]; rfl
  have p144 : ¬ Int32.ofNat (hN h5 (a + 2)) < 0 := by rw [A5.2.2.2.1.2]; decide
  refine e_X6_keepFeelings (by omega) ⟨C4.1, A4.1, c + 2, ?_⟩
  rw [g5]
  refine ⟨C5.2.1.2.1, a + 2, A5.2.1.2.1, A5.2.2.2.1.1, C5.2.2.2.1.1, ⟨n0, n0, p144, by rw [z0, e144, C5.2.2.2.1.2]; omega, by rw [z0, e144, A5.2.2.2.1.2]; omega⟩, fun h10 e10 => ⟨rfl, ?_⟩⟩
  rw [z0, e144] at e10
  have F10 : FrI (fun x _ => a ≤ x ∧ x < a + 42) h5 h10 := by rw [e10]; exact FrI.cp _ (fun _ _ _ => ⟨by omega, by omega⟩)
  have A10 := A5.fr F10
  have C10 := C5.fr F10
  refine ⟨c + 1, C10.2.1.1, a + 1, A10.2.1.1, C10.2.2.1.1, A10.2.2.1.1, ⟨n0, n0, n16, by rw [z0, z16, C10.2.2.1.2]; omega, by rw [z0, z16, A10.2.2.1.2]; omega⟩, fun h16 e16 => ?_⟩
  rw [z0, z16] at e16
  have F16 : FrI (fun x _ => a ≤ x ∧ x < a + 42) h10 h16 := by rw [e16]; exact FrI.cp _ (fun _ _ _ => ⟨by omega, by omega⟩)
  have F : FrI (fun x _ => a ≤ x ∧ x < a + 42) h h16 := F3.tr (F4.tr (F5.tr (F10.tr F16)))
  have oc : ∀ {h1 : HP} {i k : Nat}, FrI (fun x _ => a ≤ x ∧ x < a + 42) h h1 → i < 42 → hI h1 (c + i) k = hI h (c + i) k := fun F hi => F.i (by omega)
  have u4 : ∀ k, hI h4 a k = if k = 3 then hI h c 3 else hI h3 a k := fun k => by
    rw [← g4, hI_sI]
    by_cases q : k = 3
    · rw [if_pos ⟨rfl, q⟩, if_pos q]
      exact oc (i := 0) F3 (by omega)
    · rw [if_neg (fun z => q z.2), if_neg q]
  have u5 : ∀ k, hI h5 a k = if k = 4 then hI h c 4 else hI h4 a k := fun k => by
    rw [← g5, hI_sI]
    by_cases q : k = 4
    · rw [if_pos ⟨rfl, q⟩, if_pos q]
      exact oc (i := 0) (F3.tr F4) (by omega)
    · rw [if_neg (fun z => q z.2), if_neg q]
  have w0 : ∀ k, k < 5 → hI h16 a k = hI h c k := fun k hk => by
    rw [e16, hI_cp, if_neg (by omega), e10, hI_cp, if_neg (by omega), u5, u4]
    by_cases q4 : k = 4
    · rw [if_pos q4, q4]
    · rw [if_neg q4]
      by_cases q3 : k = 3
      · rw [if_pos q3, q3]
      · rw [if_neg q3]
        exact v3 k (by omega)
  have w1 : ∀ k, k < 1600 → hI h16 (a + 1) k = hI h (c + 1) k := fun k hk => by
    rw [e16, hI_cp, if_pos ⟨rfl, by omega, by omega⟩, Nat.zero_add, Nat.sub_zero]
    exact oc (F3.tr (F4.tr (F5.tr F10))) (by omega)
  have w2 : ∀ k, k < 144 → hI h16 (a + 2) k = hI h (c + 2) k := fun k hk => by
    rw [e16, hI_cp, if_neg (by omega), e10, hI_cp, if_pos ⟨rfl, by omega, by omega⟩, Nat.zero_add, Nat.sub_zero]
    exact oc (F3.tr (F4.tr F5)) (by omega)
  have el : ∀ n i h1, i + n = 6 → FrI (fun x _ => a ≤ x ∧ x < a + 42) h h1 → (∀ j k, StC j k → j < 36 + i → hI h1 (a + j) k = hI h (c + j) k) → Ex G d mX6_copyFrom 84 [(0, .ref a), (1, .ref c), (2, .int (nI i))] [] h1 Q := by
    intro n
    induction n with
    | zero =>
      intro i h1 hi F1 V
      obtain rfl : i = 6 := by omega
      exact t_X6_copyFrom_84 (by omega) ⟨fun _ => hQ h1 F1 (fun j k q => V j k q (by unfold StC at q; omega)), fun q => absurd (show (6 : Int32) ≤ nI 6 by decide) q⟩
    | succ n ih =>
      intro i h1 hi F1 V
      have A1 := A.fr F1
      have C1 := C.fr F1
      have cl : (nI i).toNatClampNeg = i := cl_nI (by omega)
      obtain ⟨r1, k1⟩ := A1.2.2.2.2.2.2.2 i (by omega)
      obtain ⟨r2, k2⟩ := C1.2.2.2.2.2.2.2 i (by omega)
      refine t_X6_copyFrom_84 (by omega) ⟨fun q => ?_, fun _ => ⟨A1.1, a + 4, A1.2.1.2.2.2, A1.2.2.2.2.2.1.1, by rw [A1.2.2.2.2.2.1.2]; exact vin_nI (by omega) (by omega), a + 36 + i, by rw [cl]; exact r1, C1.1, c + 4, C1.2.1.2.2.2, C1.2.2.2.2.2.1.1, by rw [C1.2.2.2.2.2.1.2]; exact vin_nI (by omega) (by omega), c + 36 + i, by rw [cl]; exact r2, k1, s_ecopy k1 k2 (by omega) ?_ (fun h2 F2 v2 => ⟨rfl, ?_⟩)⟩⟩
      · have := (nI_le_iff (a := 6) (b := i) (by omega) (by omega)).mp q
        omega
      · have e : hI h1 (c + 36 + i) 0 = hI h (c + 36 + i) 0 := F1.i (by omega)
        rw [e]
        exact he i (by omega)
      · rw [nI_S]
        refine ih (i + 1) h2 (by omega) (F1.tr (F2.weak (fun x k q => by omega))) (fun j k q hj => ?_)
        by_cases e : j = 36 + i
        · subst e
          rw [show a + (36 + i) = a + 36 + i by omega, show c + (36 + i) = c + 36 + i by omega, v2 k (by unfold StC at q; omega)]
          exact F1.i (by omega)
        · rw [F2.i (by omega)]
          exact V j k q (by omega)
  have tl : ∀ n i h1, i + n = 31 → FrI (fun x _ => a ≤ x ∧ x < a + 42) h h1 → (∀ j k, StC j k → j < 5 + i → hI h1 (a + j) k = hI h (c + j) k) → Ex G d mX6_copyFrom 55 [(0, .ref a), (1, .ref c), (2, .int (nI i))] [] h1 Q := by
    intro n
    induction n with
    | zero =>
      intro i h1 hi F1 V
      obtain rfl : i = 31 := by omega
      exact t_X6_copyFrom_55 (by omega) ⟨fun _ => el 6 0 h1 (by omega) F1 (fun j k q hj => V j k q (by omega)), fun q => absurd (show (31 : Int32) ≤ nI 31 by decide) q⟩
    | succ n ih =>
      intro i h1 hi F1 V
      have A1 := A.fr F1
      have C1 := C.fr F1
      have cl : (nI i).toNatClampNeg = i := cl_nI (by omega)
      obtain ⟨r1, k1⟩ := A1.2.2.2.2.2.2.1 i (by omega)
      obtain ⟨r2, k2⟩ := C1.2.2.2.2.2.2.1 i (by omega)
      refine t_X6_copyFrom_55 (by omega) ⟨fun q => absurd q (n31_not (by omega)), fun _ => ⟨A1.1, a + 3, A1.2.1.2.2.1, A1.2.2.2.2.1.1, by rw [A1.2.2.2.2.1.2]; exact vin_nI (by omega) (by omega), a + 5 + i, by rw [cl]; exact r1, C1.1, c + 3, C1.2.1.2.2.1, C1.2.2.2.2.1.1, by rw [C1.2.2.2.2.1.2]; exact vin_nI (by omega) (by omega), c + 5 + i, by rw [cl]; exact r2, k1, s_tcopy k1 k2 (by omega) ?_ (fun h2 F2 v2 => ⟨rfl, ?_⟩)⟩⟩
      · have e : hI h1 (c + 5 + i) 0 = tg h c i 0 := F1.i (by omega)
        rw [e]
        exact hb i (by omega)
      · rw [nI_S]
        refine ih (i + 1) h2 (by omega) (F1.tr (F2.weak (fun x k q => by omega))) (fun j k q hj => ?_)
        by_cases e : j = 5 + i
        · subst e
          rw [show a + (5 + i) = a + 5 + i by omega, show c + (5 + i) = c + 5 + i by omega, v2 k (by unfold StC at q; omega)]
          exact F1.i (by omega)
        · rw [F2.i (by omega)]
          exact V j k q (by omega)
  refine tl 31 0 h16 (by omega) F (fun j k q hj => ?_)
  unfold StC at q
  have : (j = 0 ∧ k < 5) ∨ (j = 1 ∧ k < 1600) ∨ (j = 2 ∧ k < 144) := by omega
  clear q
  rcases this with ⟨rfl, q⟩ | ⟨rfl, q⟩ | ⟨rfl, q⟩
  · exact w0 k q
  · exact w1 k q
  · exact w2 k q
end CP
/-- a copy holds what is said -/
theorem CoSt.copy {h h2 : HP} {a c : Nat} {S : Nat → Int32} (e : ∀ i k, StC i k → hI h2 (a + i) k = hI h (c + i) k) (C : CoSt h c S) : CoSt h2 a S := by
  have et : ∀ t k, t < 31 → k < 12 → tg h2 a t k = tg h c t k := fun t k ht hk => by
    unfold tg
    rw [show a + 5 + t = a + (5 + t) by omega, show c + 5 + t = c + (5 + t) by omega]
    exact e _ _ (by unfold StC; omega)
  have ee : ∀ i k, i < 6 → k < 6 → hI h2 (a + 36 + i) k = hI h (c + 36 + i) k := fun i k hi hk => by
    rw [show a + 36 + i = a + (36 + i) by omega, show c + 36 + i = c + (36 + i) by omega]
    exact e _ _ (by unfold StC; omega)
  obtain ⟨c1, c2, c3, c4, c5, c6⟩ := C
  refine ⟨fun j hj => (e 0 j (by unfold StC; omega)).trans (c1 j hj), fun j hj => (e 1 j (by unfold StC; omega)).trans (c2 j hj), fun j hj => (e 2 j (by unfold StC; omega)).trans (c3 j hj), fun t ht => ?_, (et 30 0 (by omega) (by omega)).trans c5, fun i hi => ⟨(ee i 0 hi (by omega)).trans (c6 i hi).1, fun q j h1 h6 => (ee i j hi h6).trans ((c6 i hi).2 q j h1 h6)⟩⟩
  obtain ⟨d1, d2⟩ := c4 t ht
  refine ⟨(et t 0 (by omega) (by omega)).trans d1, fun q => ?_⟩
  obtain ⟨e1, e2, e3, e4, e5, e6⟩ := d2 q
  rw [et t 7 (by omega) (by omega), et t 8 (by omega) (by omega), et t 9 (by omega) (by omega), et t 10 (by omega) (by omega), et t 11 (by omega) (by omega)]
  exact ⟨fun k h1 h6 => (et t k (by omega) (by omega)).trans (e1 k h1 h6), e2, e3, e4, e5, e6⟩
theorem WF.ext {S S' : Nat → Int32} (W : WF S) (e : ∀ j, j < 2440 → S' j = S j) : WF S' := by
  obtain ⟨⟨a1, a2, a3, a4, a5⟩, a6, a7, a8, a9, a10, a11⟩ := W.1
  refine W.nums (fun u k hu hk => e _ (by omega)) (e 0 (by omega)) (e 1 (by omega)) (e 2 (by omega)) ⟨⟨by rw [e 3 (by omega)]; exact a4, by rw [e 4 (by omega)]; exact a5⟩, fun c hc => by rw [e _ (by omega)]; exact a6 c hc, fun j hj => by rw [e _ (by omega)]; exact a7 j hj, fun f hf => by rw [e _ (by omega)]; exact a8 f hf, fun k hk => ?_⟩
  rw [e _ (by omega), e _ (by omega)]
  rcases a11 k hk with q | ⟨q1, q2, q3⟩
  · exact Or.inl q
  · exact Or.inr ⟨q1, q2, fun j h1 h2 => by rw [e _ (by omega)]; exact q3 j h1 h2⟩
theorem CoSt.ext {h : HP} {s : Nat} {S S' : Nat → Int32} (W : WF S) (C : CoSt h s S) (e : ∀ j, j < 2440 → S' j = S j) : CoSt h s S' :=
  CoSt.nums W C (fun _ _ _ => rfl) (fun u k hu hk => e _ (by omega)) (fun j hj => (C.1 j hj).trans (e j (by omega)).symm) (fun c hc => (C.2.1 c hc).trans (e _ (by omega)).symm) (fun j hj => (C.2.2.1 j hj).trans (e _ (by omega)).symm) (fun i hi => by
    rw [e _ (by omega)]
    exact ⟨(C.2.2.2.2.2 i hi).1, fun q j h1 h2 => ((C.2.2.2.2.2 i hi).2 q j h1 h2).trans (e _ (by omega)).symm⟩)
theorem CoSt.bits {h : HP} {s : Nat} {S : Nat → Int32} (W : WF S) (C : CoSt h s S) : (∀ t, t < 31 → tg h s t 0 = 0 ∨ tg h s t 0 = 1) ∧ ∀ e, e < 6 → hI h (s + 36 + e) 0 = 0 ∨ hI h (s + 36 + e) 0 = 1 := by
  refine ⟨fun t ht => ?_, fun e he => ?_⟩
  · by_cases c : t = 30
    · left; rw [c]; exact C.2.2.2.2.1
    · rw [(C.2.2.2.1 t (by omega)).1]
      exact W.2.2.1 t (by omega)
  · rw [(C.2.2.2.2.2 e he).1]
    rcases W.1.2.2.2.2.2.2 e he with q | q
    · exact Or.inl q
    · exact Or.inr q.1
