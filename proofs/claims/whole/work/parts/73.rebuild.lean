/-! ===== the tables are made ===== -/
theorem sum2_step (f : Nat → Nat → Int) (i j : Nat) : sum2 f (i + 1) (j + 1) = f i j + sum2 f i (j + 1) + sum2 f (i + 1) j - sum2 f i j := by
  unfold sum2
  simp only [sum1]
  omega
theorem sum2_x0 (f : Nat → Nat → Int) (y : Nat) : sum2 f 0 y = 0 := sum1_zero _ (fun _ _ => rfl)
theorem sum2_y0 (f : Nat → Nat → Int) (x : Nat) : sum2 f x 0 = 0 := rfl
/-- the State's land is S's -/
def LandS (h : HP) (s : Nat) (S : Nat → Int32) : Prop := (hI h s 0 = S 0 ∧ hI h s 1 = S 1) ∧ (∀ c, c < 1600 → hI h (s + 1) c = S (8 + c)) ∧ (rng (S 0) 5 40 ∧ rng (S 1) 5 40) ∧ ∀ c, c < 1600 → rng (S (8 + c)) 0 511
theorem LandS.fr {h h2 : HP} {s : Nat} {S : Nat → Int32} (e0 : hI h2 s 0 = hI h s 0) (e1 : hI h2 s 1 = hI h s 1) (ec : ∀ c, hI h2 (s + 1) c = hI h (s + 1) c) (L : LandS h s S) : LandS h2 s S := ⟨⟨e0.trans L.1.1, e1.trans L.1.2⟩, fun c hc => (ec c).trans (L.2.1 c hc), L.2.2⟩
theorem LandS.cell {h : HP} {s : Nat} {S : Nat → Int32} (L : LandS h s S) {c : Nat} (hc : c < 1600) : ∃ k, k < 512 ∧ S (8 + c) = nI k := by
  have q := L.2.2.2 c hc
  unfold rng at q
  exact of_in q.1 (by omega)
theorem wrt_n {S : Nat → Int32} {i j k : Nat} (hk : k < 512) (e : S (8 + (40 * j + i)) = nI k) : wrt S i j = ((k % 128 : Nat) : Int) ∧ riv S i j = ((k / 128 % 2 : Nat) : Int) ∧ wel S i j = ((k / 256 : Nat) : Int) := by
  unfold wrt riv wel
  rw [e, ti_nI (by omega)]
  omega
theorem and2_128 {k m : Nat} (hk : k < 512) (hm : m < 512) : (nI k &&& nI m) &&& 128 = 0 ↔ ¬ (k / 128 % 2 = 1 ∧ m / 128 % 2 = 1) := by
  have l := @Nat.and_le_left k m
  rw [nAnd (by omega) (by omega), and128 (by omega)]
  have e : (k &&& m) / 2 ^ 7 % 2 = 1 ↔ k / 2 ^ 7 % 2 = 1 ∧ m / 2 ^ 7 % 2 = 1 := by
    have t := Nat.testBit_and k m 7
    rw [Nat.testBit_eq_decide_div_mod_eq, Nat.testBit_eq_decide_div_mod_eq, Nat.testBit_eq_decide_div_mod_eq] at t
    by_cases a : k / 2 ^ 7 % 2 = 1
    · by_cases b : m / 2 ^ 7 % 2 = 1
      · simp only [a, b, decide_true, Bool.and_self, decide_eq_true_eq] at t
        exact ⟨fun _ => ⟨a, b⟩, fun _ => t⟩
      · simp only [a, b, decide_true, decide_false, Bool.and_false, decide_eq_false_iff_not] at t
        exact ⟨fun q => absurd q t, fun q => absurd q.2 b⟩
    · simp only [a, decide_false, Bool.false_and, decide_eq_false_iff_not] at t
      exact ⟨fun q => absurd q t, fun q => absurd q.1 a⟩
  have p7 : (2 : Nat) ^ 7 = 128 := rfl
  rw [p7] at e
  rw [← e]
  omega
section RB
variable {G : GG} {d : Nat} {b s : Nat} {S : Nat → Int32} {Q : Option Value → HP → Prop}
theorem s_areRivers {h : HP} (hd : 1 ≤ d) (St : StSh G h s) (L : LandS h s S) {x y x' y' : Int32} (h0 : ¬ (inB (S 0) (S 1) x y = true ∧ inB (S 0) (S 1) x' y' = true) → Q (some (.int 0)) h) (h1 : ∀ i j i' j' : Nat, i < 40 → j < 40 → i' < 40 → j' < 40 → x = nI i → y = nI j → x' = nI i' → y' = nI j' → inB (S 0) (S 1) x y = true → inB (S 0) (S 1) x' y' = true → Q (some (.int (if riv S i j = 1 ∧ riv S i' j' = 1 then 1 else 0))) h) : Cal G d mX7_areRivers [.ref s, .int x, .int y, .int x', .int y'] h Q := by
  have go : ∀ x y : Int32, inB (S 0) (S 1) x y = true → ∃ i j : Nat, i < 40 ∧ j < 40 ∧ x = nI i ∧ y = nI j := fun x y q => by
    have r := L.2.2.1
    unfold rng at r
    unfold inB at q
    rw [decide_eq_true_eq, ti_le, ti_lt, ti_le, ti_lt, show (0 : Int32).toInt = 0 from rfl] at q
    obtain ⟨i, hi, rfl⟩ := of_in (n := 40) q.1 (by omega)
    obtain ⟨j, hj, rfl⟩ := of_in (n := 40) q.2.2.1 (by omega)
    exact ⟨i, j, hi, hj, rfl, rfl⟩
  have e1 : ∀ i j : Nat, nI j * 40 + nI i = nI (40 * j + i) := fun i j => by
    show nI j * nI 40 + nI i = _
    rw [nM, nA, Nat.mul_comm]
  refine e_X7_areRivers hd ⟨St.1, s_hasCell St.1 ⟨_, rfl, fun c => h0 ?_, fun c => s_hasCell St.1 ⟨_, rfl, fun c2 => h0 ?_, fun c2 => ?_⟩⟩⟩
  · have c := if10.mp c
    rw [L.1.1, L.1.2] at c
    exact fun q => c q.1
  · have c := if10.mp c2
    rw [L.1.1, L.1.2] at c
    exact fun q => c q.2
  · have c := Decidable.not_not.mp (fun z => c (if10.mpr z))
    have c2 := Decidable.not_not.mp (fun z => c2 (if10.mpr z))
    rw [L.1.1, L.1.2] at c c2
    obtain ⟨i, j, hi, hj, rfl, rfl⟩ := go x y c
    obtain ⟨i', j', hi', hj', rfl, rfl⟩ := go x' y' c2
    obtain ⟨k, hk, ek⟩ := L.cell (c := 40 * j + i) (by omega)
    obtain ⟨m, hm, em⟩ := L.cell (c := 40 * j' + i') (by omega)
    have a := (wrt_n hk ek).2.1
    have a' := (wrt_n hm em).2.1
    have fin := h1 i j i' j' hi hj hi' hj' rfl rfl rfl rfl c c2
    have g1 : hI h (s + 1) (nI j * 40 + nI i).toNatClampNeg = nI k := by rw [e1, cl_nI (by omega), L.2.1 _ (by omega), ek]
    have g2 : hI h (s + 1) (nI j' * 40 + nI i').toNatClampNeg = nI m := by rw [e1, cl_nI (by omega), L.2.1 _ (by omega), em]
    refine ⟨s + 1, St.2.1.1, St.2.2.1.1, by rw [e1, St.2.2.1.2]; exact vin_nI (by omega) (by omega), by rw [e1, St.2.2.1.2]; exact vin_nI (by omega) (by omega), fun z => ?_, fun z => ?_⟩
    · rw [g1, g2, and2_128 hk hm] at z
      rw [if_neg (by rw [a, a']; omega)] at fin
      exact fin
    · rw [g1, g2, and2_128 hk hm] at z
      rw [if_pos (by rw [a, a']; omega)] at fin
      exact fin
theorem s_grow {h : HP} {T a : Nat} (k : Kd G h T 14) (hn : hN h T = 1681) (h1 : 42 ≤ a) (h2 : a < 1681) {v : Int32} (hQ : Q none (sI h T a (((v + hI h T (a - 1)) + hI h T (a - 41)) - hI h T (a - 42)))) : Cal G d mX7_grow [.ref T, .int (nI a), .int v] h Q := by
  have e1 : nI a - 1 = nI (a - 1) := nS (b := 1) (by omega)
  have e2 : nI a - 41 = nI (a - 41) := nS (b := 41) (by omega)
  have e3 : nI a - 41 - 1 = nI (a - 42) := by rw [e2]; show nI (a - 41) - nI 1 = _; rw [nS (by omega), Nat.sub_sub]
  have v : ∀ z, z < 1681 → vp_in (nI z) (hN h T) := fun z hz => by rw [hn]; exact vin_nI hz (by omega)
  refine e_X7_grow ⟨k, by rw [e1]; exact v _ (by omega), by rw [e2]; exact v _ (by omega), by rw [e3]; exact v _ (by omega), v _ h2, fun h6 g => ?_⟩
  rw [g, e1, e3, e2, cl_nI (by omega), cl_nI (by omega), cl_nI (by omega), cl_nI (by omega)]
  exact hQ
def Tab3 (h : HP) (b : Nat) (S : Nat → Int32) (C j i : Nat) : Prop := ∀ x y, x ≤ C → (y ≤ j ∨ (y = j + 1 ∧ x ≤ i ∧ y ≤ 40)) → hI h (b + 16) (41 * y + x) = iI (sum2 (wrt S) x y) ∧ hI h (b + 17) (41 * y + x) = iI (sum2 (wel S) x y) ∧ hI h (b + 18) (41 * y + x) = iI (sum2 (riv S) x y)
def TbSh (G : GG) (h : HP) (b : Nat) : Prop := Kd G h (b + 15) 7 ∧ (hR h (b + 15) 0 = some (b + 16) ∧ hR h (b + 15) 1 = some (b + 17) ∧ hR h (b + 15) 2 = some (b + 18) ∧ hR h (b + 15) 3 = some (b + 19) ∧ hR h (b + 15) 4 = some (b + 20)) ∧ ∀ a, b + 16 ≤ a → a ≤ b + 20 → Kd G h a 14 ∧ hN h a = 1681
theorem TbSh.fr {P : Nat → Nat → Prop} {h h2 : HP} (F : FrI P h h2) (T : TbSh G h b) : TbSh G h2 b := ⟨F.kd T.1, ⟨(F.r _ _).trans T.2.1.1, (F.r _ _).trans T.2.1.2.1, (F.r _ _).trans T.2.1.2.2.1, (F.r _ _).trans T.2.1.2.2.2.1, (F.r _ _).trans T.2.1.2.2.2.2⟩, fun a h1 h2 => ⟨F.kd (T.2.2 a h1 h2).1, (F.n (T.2.2 a h1 h2).1).trans (T.2.2 a h1 h2).2⟩⟩
def RbF (b a : Nat) (_ : Nat) : Prop := b + 16 ≤ a ∧ a ≤ b + 20
theorem s_rebuild12 {h : HP} (hd : 1 ≤ d) (hs : s + 2 ≤ b + 16 ∨ b + 20 < s) (T : TbSh G h b) (St : StSh G h s) (L : LandS h s S) {C R j : Nat} (eC : S 0 = nI C) (eR : S 1 = nI R) (hC : C ≤ 40) (hR : R ≤ 40) (hj : j < R) (Z : BorZ h b) (T3 : Tab3 h b S C j 0) (hQ : ∀ h2, FrI (RbF b) h h2 → BorZ h2 b → Tab3 h2 b S C (j + 1) 0 → Ex G d mX7_rebuild 2 [(0, .ref (b + 15)), (1, .ref s), (2, .int (nI (j + 1)))] [] h2 Q) : Ex G d mX7_rebuild 12 [(0, .ref (b + 15)), (1, .ref s), (2, .int (nI j)), (3, .int 0)] [] h Q := by
  have loop : ∀ n i h1, i + n = C → FrI (RbF b) h h1 → BorZ h1 b → Tab3 h1 b S C j i → Ex G d mX7_rebuild 12 [(0, .ref (b + 15)), (1, .ref s), (2, .int (nI j)), (3, .int (nI i))] [] h1 Q := by
    intro n
    induction n with
    | zero =>
      intro i h1 hi F Z1 V
      obtain rfl : i = C := by omega
      have S1 := St.fr F
      have L1 : LandS h1 s S := L.fr (F.i (by unfold RbF; omega)) (F.i (by unfold RbF; omega)) (fun c => F.i (by unfold RbF; omega))
      refine t_X7_rebuild_12 hd ⟨S1.1, fun _ => ?_, fun q => ?_⟩
      · rw [nI_S]
        refine hQ h1 F Z1 (fun x y hx hy => ?_)
        by_cases c : y ≤ j + 1
        · by_cases c2 : y ≤ j
          · exact V x y hx (Or.inl c2)
          · exact V x y hx (Or.inr ⟨by omega, hx, by omega⟩)
        · obtain ⟨z1, z2, z3⟩ := (Z1 y (by omega)).2.1
          obtain rfl : x = 0 := by omega
          show hI h1 (b + 16) (41 * y) = _ ∧ hI h1 (b + 17) (41 * y) = _ ∧ hI h1 (b + 18) (41 * y) = _
          rw [z1, z2, z3, sum2_x0, sum2_x0, sum2_x0]
          exact ⟨rfl, rfl, rfl⟩
      · rw [L1.1.1, eC] at q
        exact absurd ((nI_le_iff (by omega) (by omega)).mpr (Nat.le_refl _)) q
    | succ n ih =>
      intro i h1 hi F Z1 V
      have S1 := St.fr F
      have T1 := T.fr F
      have L1 : LandS h1 s S := L.fr (F.i (by unfold RbF; omega)) (F.i (by unfold RbF; omega)) (fun c => F.i (by unfold RbF; omega))
      obtain ⟨k, hk, ek⟩ := L1.cell (c := 40 * j + i) (by omega)
      obtain ⟨w1, w2, w3⟩ := wrt_n hk ek
      have e1 : nI j * 40 + nI i = nI (40 * j + i) := by
        show nI j * nI 40 + nI i = _
        rw [nM, nA, Nat.mul_comm]
      have e2 : (nI j + 1) * 41 + nI i + 1 = nI (41 * (j + 1) + (i + 1)) := by
        show (nI j + nI 1) * nI 41 + nI i + nI 1 = _
        rw [nA, nM, nA, nA, Nat.mul_comm, Nat.add_assoc]
      have ec : hI h1 (s + 1) (nI j * 40 + nI i).toNatClampNeg = nI k := by rw [e1, cl_nI (by omega), L1.2.1 _ (by omega), ek]
      have a1 : 41 * (j + 1) + (i + 1) - 1 = 41 * (j + 1) + i := by omega
      have a2 : 41 * (j + 1) + (i + 1) - 41 = 41 * j + (i + 1) := by omega
      have a3 : 41 * (j + 1) + (i + 1) - 42 = 41 * j + i := by omega
      obtain ⟨p1, p2, p3⟩ := V i (j + 1) (by omega) (Or.inr ⟨rfl, Nat.le_refl _, by omega⟩)
      obtain ⟨r1, r2, r3⟩ := V (i + 1) j (by omega) (Or.inl (Nat.le_refl _))
      obtain ⟨t1, t2, t3⟩ := V i j (by omega) (Or.inl (Nat.le_refl _))
      have stp : ∀ {f : Nat → Nat → Int} {v : Int32}, v = iI (f i j) → ((v + iI (sum2 f i (j + 1))) + iI (sum2 f (i + 1) j)) - iI (sum2 f i j) = iI (sum2 f (i + 1) (j + 1)) := fun {f v} e => by
        rw [e, ← iI_add, ← iI_add, ← iI_sub, sum2_step]
      refine t_X7_rebuild_12 hd ⟨S1.1, fun q => ?_, fun _ => ⟨s + 1, S1.2.1.1, S1.2.2.1.1, by rw [e1, S1.2.2.1.2]; exact vin_nI (by omega) (by omega), T1.1, b + 16, T1.2.1.1, ?_⟩⟩
      · rw [L1.1.1, eC, nI_le_iff (by omega) (by omega)] at q
        omega
      rw [ec, e2]
      refine s_grow (T1.2.2 _ (by omega) (by omega)).1 (T1.2.2 _ (by omega) (by omega)).2 (by omega) (by omega) ⟨rfl, b + 18, T1.2.1.2.2.1, ?_⟩
      rw [a1, a2, a3, p1, r1, t1, stp (f := wrt S) (by rw [and127 hk, w1]; rfl)]
      generalize g1 : sI h1 (b + 16) (41 * (j + 1) + (i + 1)) (iI (sum2 (wrt S) (i + 1) (j + 1))) = h2
      have F1 : FrI (RbF b) h1 h2 := g1 ▸ FrI.sI _ _ ⟨by omega, by omega⟩
      have cont : ∀ z : Int32, z = iI (riv S i j) → Ex G d mX7_rebuild 79 [(0, .ref (b + 15)), (1, .ref s), (2, .int (nI j)), (3, .int (nI i)), (4, .int (nI k)), (5, .int (nI (41 * (j + 1) + (i + 1))))] [.int z, .int (nI (41 * (j + 1) + (i + 1))), .ref (b + 18)] h2 Q := by
        intro z hz
        have T2 := T1.fr F1
        refine t_X7_rebuild_79 hd (s_grow (T2.2.2 _ (by omega) (by omega)).1 (T2.2.2 _ (by omega) (by omega)).2 (by omega) (by omega) ⟨rfl, ?_⟩)
        have o18 : ∀ q, hI h2 (b + 18) q = hI h1 (b + 18) q := fun q => by rw [← g1, hI_ne _ _ (Or.inl (by omega))]
        rw [a1, a2, a3, o18, o18, o18, p3, r3, t3, stp (f := riv S) hz]
        generalize g2 : sI h2 (b + 18) (41 * (j + 1) + (i + 1)) (iI (sum2 (riv S) (i + 1) (j + 1))) = h3
        have F2 : FrI (RbF b) h2 h3 := g2 ▸ FrI.sI _ _ ⟨by omega, by omega⟩
        have T3 := T2.fr F2
        have o17 : ∀ q, hI h3 (b + 17) q = hI h1 (b + 17) q := fun q => by rw [← g2, hI_ne _ _ (Or.inl (by omega)), ← g1, hI_ne _ _ (Or.inl (by omega))]
        have last : ∀ z : Int32, z = iI (wel S i j) → Cal G (d - 1) mX7_grow [.ref (b + 17), .int (nI (41 * (j + 1) + (i + 1))), .int z] h3 (fun r8 h9 => r8 = none ∧ Ex G d mX7_rebuild 12 [(0, .ref (b + 15)), (1, .ref s), (2, .int (nI j)), (3, .int (nI i + 1))] [] h9 Q) := by
          intro z hz
          refine s_grow (T3.2.2 _ (by omega) (by omega)).1 (T3.2.2 _ (by omega) (by omega)).2 (by omega) (by omega) ⟨rfl, ?_⟩
          rw [a1, a2, a3, o17, o17, o17, p2, r2, t2, stp (f := wel S) hz]
          generalize g3 : sI h3 (b + 17) (41 * (j + 1) + (i + 1)) (iI (sum2 (wel S) (i + 1) (j + 1))) = h4
          have F3 : FrI (RbF b) h3 h4 := g3 ▸ FrI.sI _ _ ⟨by omega, by omega⟩
          have v16 : ∀ q, hI h4 (b + 16) q = if q = 41 * (j + 1) + (i + 1) then iI (sum2 (wrt S) (i + 1) (j + 1)) else hI h1 (b + 16) q := fun q => by
            rw [← g3, hI_ne _ _ (Or.inl (by omega)), ← g2, hI_ne _ _ (Or.inl (by omega)), ← g1, hI_sI]
            by_cases c : q = 41 * (j + 1) + (i + 1)
            · rw [if_pos ⟨rfl, c⟩, if_pos c]
            · rw [if_neg (fun z => c z.2), if_neg c]
          have v17 : ∀ q, hI h4 (b + 17) q = if q = 41 * (j + 1) + (i + 1) then iI (sum2 (wel S) (i + 1) (j + 1)) else hI h1 (b + 17) q := fun q => by
            rw [← g3, hI_sI]
            by_cases c : q = 41 * (j + 1) + (i + 1)
            · rw [if_pos ⟨rfl, c⟩, if_pos c]
            · rw [if_neg (fun z => c z.2), if_neg c, o17]
          have v18 : ∀ q, hI h4 (b + 18) q = if q = 41 * (j + 1) + (i + 1) then iI (sum2 (riv S) (i + 1) (j + 1)) else hI h1 (b + 18) q := fun q => by
            rw [← g3, hI_ne _ _ (Or.inl (by omega)), ← g2, hI_sI]
            by_cases c : q = 41 * (j + 1) + (i + 1)
            · rw [if_pos ⟨rfl, c⟩, if_pos c]
            · rw [if_neg (fun z => c z.2), if_neg c, o18]
          have v19 : ∀ a q, a = b + 19 ∨ a = b + 20 → hI h4 a q = hI h1 a q := fun a q ha => by
            rw [← g3, hI_ne _ _ (Or.inl (by omega)), ← g2, hI_ne _ _ (Or.inl (by omega)), ← g1, hI_ne _ _ (Or.inl (by omega))]
          rw [nI_S]
          refine ih (i + 1) h4 (by omega) (F.tr (F1.tr (F2.tr F3))) (fun q hq => ?_) (fun x y hx hy => ?_)
          · have z := Z1 q hq
            have n1 : ¬ q = 41 * (j + 1) + (i + 1) := by omega
            have n2 : ¬ 41 * q = 41 * (j + 1) + (i + 1) := by omega
            rw [v16, v17, v18, v16, v17, v18, v19 _ _ (Or.inl rfl), v19 _ _ (Or.inr rfl), if_neg n1, if_neg n1, if_neg n1, if_neg n2, if_neg n2, if_neg n2]
            exact z
          · rw [v16, v17, v18]
            by_cases c : x = i + 1 ∧ y = j + 1
            · obtain ⟨rfl, rfl⟩ := c
              rw [if_pos rfl, if_pos rfl, if_pos rfl]
              exact ⟨rfl, rfl, rfl⟩
            · have n1 : ¬ 41 * y + x = 41 * (j + 1) + (i + 1) := by omega
              rw [if_neg n1, if_neg n1, if_neg n1]
              exact V x y hx (by omega)
        refine ⟨T3.1, b + 17, T3.2.1.2.1, fun c => last 0 ?_, fun c => last 1 ?_⟩
        · rw [and256 hk] at c
          rw [w3, c]; rfl
        · rw [and256 hk] at c
          rw [w3, show k / 256 = 1 by omega]; rfl
      refine ⟨fun c => cont 0 ?_, fun c => cont 1 ?_⟩
      · rw [and128 hk] at c
        rw [w2, c]; rfl
      · rw [and128 hk] at c
        rw [w2, show k / 128 % 2 = 1 by omega]; rfl
  exact loop C 0 h (by omega) (FrI.rf _ h) Z T3
end RB
