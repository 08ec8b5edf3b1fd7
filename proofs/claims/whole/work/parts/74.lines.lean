/-! ===== the tables of lines ===== -/
section RL
variable {G : GG} {d : Nat} {b s : Nat} {S : Nat → Int32} {Q : Option Value → HP → Prop}
def TabL (h : HP) (b : Nat) (S : Nat → Int32) (C j i : Nat) : Prop := ∀ x y, x ≤ C → (y < j ∨ (y = j ∧ x ≤ i ∧ y ≤ 40)) → hI h (b + 19) (41 * y + x) = iI (sum1 (fun i => lvl S i y) x)
def TabU (h : HP) (b : Nat) (S : Nat → Int32) (R j i : Nat) : Prop := ∀ x y, y ≤ R → (x < j ∨ (x = j ∧ y ≤ i ∧ x ≤ 40)) → hI h (b + 20) (41 * x + y) = iI (sum1 (fun k => upr S x k) y)
theorem s_lines12 {h : HP} (hd : 2 ≤ d) (hs : s + 2 ≤ b + 16 ∨ b + 20 < s) (T : TbSh G h b) (St : StSh G h s) (L : LandS h s S) {C R j : Nat} (eC : S 0 = nI C) (eR : S 1 = nI R) (hC : C ≤ 40) (hR : R ≤ 40) (hj : j ≤ R) (Z : BorZ h b) (T3 : TabL h b S C j 0) (hQ : ∀ h2, FrI (fun a k => a = b + 19) h h2 → BorZ h2 b → TabL h2 b S C (j + 1) 0 → Ex G d mX7_rebuildLines 2 [(0, .ref (b + 15)), (1, .ref s), (2, .int (nI (j + 1)))] [] h2 Q) : Ex G d mX7_rebuildLines 12 [(0, .ref (b + 15)), (1, .ref s), (2, .int (nI j)), (3, .int 0)] [] h Q := by
  have loop : ∀ n i h1, i + n = C → FrI (fun a k => a = b + 19) h h1 → BorZ h1 b → TabL h1 b S C j i → Ex G d mX7_rebuildLines 12 [(0, .ref (b + 15)), (1, .ref s), (2, .int (nI j)), (3, .int (nI i))] [] h1 Q := by
    intro n
    induction n with
    | zero =>
      intro i h1 hi F Z1 V
      obtain rfl : i = C := by omega
      have S1 := St.fr F
      have L1 : LandS h1 s S := L.fr (F.i (by omega)) (F.i (by omega)) (fun c => F.i (by omega))
      refine t_X7_rebuildLines_12 (by omega) ⟨S1.1, fun _ => ?_, fun q => ?_⟩
      · rw [nI_S]
        refine hQ h1 F Z1 (fun x y hx hy => ?_)
        by_cases c : y ≤ j
        · by_cases c2 : y < j
          · exact V x y hx (Or.inl c2)
          · exact V x y hx (Or.inr ⟨by omega, hx, by omega⟩)
        · by_cases c40 : y ≤ 40
          · have z := (Z1 y c40).2.2.1
            obtain rfl : x = 0 := by omega
            show hI h1 _ (41 * _) = _
            rw [z]
            rfl
          · omega
      · rw [L1.1.1, eC] at q
        exact absurd ((nI_le_iff (by omega) (by omega)).mpr (Nat.le_refl _)) q
    | succ n ih =>
      intro i h1 hi F Z1 V
      have S1 := St.fr F
      have T1 := T.fr F
      have L1 : LandS h1 s S := L.fr (F.i (by omega)) (F.i (by omega)) (fun c => F.i (by omega))
      have e1 : nI j * 41 + nI i = nI (41 * j + i) := by
        show nI j * nI 41 + nI i = _
        rw [nM, nA, Nat.mul_comm]
      have e2 : nI j * 41 + nI i + 1 = nI (41 * j + (i + 1)) := by
        rw [e1, nI_S, Nat.add_assoc]
      have p1 := V i j (by omega) (Or.inr ⟨rfl, Nat.le_refl _, by omega⟩)
      obtain ⟨k19, n19⟩ := T1.2.2 (b + 19) (by omega) (by omega)
      have step : ∀ (v : Int32) (h2 : HP), v = iI (lvl S i j) → h2 = sI h1 (b + 19) (nI j * 41 + nI i + 1).toNatClampNeg (hI h1 (b + 19) (nI j * 41 + nI i).toNatClampNeg + v) → Ex G d mX7_rebuildLines 12 [(0, .ref (b + 15)), (1, .ref s), (2, .int (nI j)), (3, .int (nI i + 1))] [] h2 Q := by
        intro v h2 hv g
        rw [e2, e1, cl_nI (by omega), cl_nI (by omega), p1, hv, ← iI_add] at g
        have es : sum1 (fun i => lvl S i j) i + lvl S i j = sum1 (fun i => lvl S i j) (i + 1) := rfl
        rw [es] at g
        have F1 : FrI (fun a k => a = b + 19) h1 h2 := g ▸ FrI.sI _ _ rfl
        have v19 : ∀ q, hI h2 (b + 19) q = if q = 41 * j + (i + 1) then iI (sum1 (fun i => lvl S i j) (i + 1)) else hI h1 (b + 19) q := fun q => by
          rw [g, hI_sI]
          by_cases c : q = 41 * j + (i + 1)
          · rw [if_pos ⟨rfl, c⟩, if_pos c]
          · rw [if_neg (fun z => c z.2), if_neg c]
        rw [nI_S]
        refine ih (i + 1) h2 (by omega) (F.tr F1) (fun q hq => ?_) (fun x y hx hy => ?_)
        · have z := Z1 q hq
          have n2 : ¬ 41 * q = 41 * j + (i + 1) := by omega
          rw [F1.i (a := b + 16) (by omega), F1.i (a := b + 17) (by omega), F1.i (a := b + 18) (by omega), F1.i (a := b + 16) (by omega), F1.i (a := b + 17) (by omega), F1.i (a := b + 18) (by omega), F1.i (a := b + 20) (by omega), v19, if_neg n2]
          exact z
        · rw [v19]
          by_cases c : x = i + 1 ∧ y = j
          · obtain ⟨rfl, rfl⟩ := c
            rw [if_pos rfl]
          · have n1 : ¬ 41 * y + x = 41 * j + (i + 1) := by omega
            rw [if_neg n1]
            exact V x y hx (by omega)
      have vv : vp_in (nI j * 41 + nI i + 1) (hN h1 (b + 19)) := by rw [e2, n19]; exact vin_nI (by omega) (by omega)
      have z0 : (0 : Int32).toInt = 0 := rfl
      have ib : ∀ x y : Nat, x ≤ 40 → y ≤ 40 → (inB (S 0) (S 1) (nI x) (nI y) = true ↔ x < C ∧ y < R) := fun x y hx hy => by
        unfold inB
        rw [decide_eq_true_eq, eC, eR, ti_le, ti_lt, ti_le, ti_lt, z0, ti_nI (by omega), ti_nI (by omega), ti_nI (by omega), ti_nI (by omega)]
        omega
      have tR : (S 1).toInt = R := by rw [eR, ti_nI (by omega)]
      have res : ∀ {Q' : Option Value → HP → Prop}, (∀ v : Int32, v = iI (lvl S i j) → (v = 0 ∨ v = 1) → Q' (some (.int v)) h1) → Cal G (d - 1) mX7_areRivers [.ref s, .int (nI i), .int (nI j), .int (nI i), .int (nI j - 1)] h1 Q' := by
        intro Q' q
        refine s_areRivers (by omega) S1 L1 (fun c => q 0 ?_ (Or.inl rfl)) (fun a c a' c' _ _ _ _ e1 e2 e3 e4 b1 b2 => ?_)
        · unfold lvl
          rw [if_neg]
          · rfl
          · rintro ⟨q1, q2, -⟩
            refine c ⟨(ib i j (by omega) (by omega)).mpr ⟨by omega, by omega⟩, ?_⟩
            rw [show nI j - 1 = nI (j - 1) from nS (b := 1) (by omega)]
            exact (ib i (j - 1) (by omega) (by omega)).mpr ⟨by omega, by omega⟩
        · obtain rfl : i = a := (nI_eq_iff (by omega) (by omega)).mp e1
          obtain rfl : j = c := (nI_eq_iff (by omega) (by omega)).mp e2
          obtain rfl : i = a' := (nI_eq_iff (by omega) (by omega)).mp e3
          have j0 : 0 < j := by
            rcases Nat.eq_zero_or_pos j with z | z
            · subst z
              have : (nI 0 - 1 : Int32).toInt = -1 := rfl
              rw [e4, ti_nI (by omega)] at this
              omega
            · exact z
          rw [show nI j - 1 = nI (j - 1) from nS (b := 1) (by omega), nI_eq_iff (by omega) (by omega)] at e4
          subst e4
          have jR := ((ib i j (by omega) (by omega)).mp b1).2
          refine q _ ?_ ?_
          · unfold lvl
            by_cases z : riv S i j = 1 ∧ riv S i (j - 1) = 1
            · rw [if_pos z, if_pos ⟨j0, by omega, z⟩]; rfl
            · rw [if_neg z, if_neg (fun w => z w.2.2)]; rfl
          · split
            · exact Or.inr rfl
            · exact Or.inl rfl
      refine t_X7_rebuildLines_12 (by omega) ⟨S1.1, fun q => ?_, fun _ => ⟨T1.1, b + 19, T1.2.1.2.2.2.1, k19, by rw [e1, n19]; exact vin_nI (by omega) (by omega), res (fun v hv h01 => ⟨_, rfl, fun c => ⟨vv, fun h14 g => step 0 h14 (c ▸ hv) g⟩, fun c => ⟨vv, fun h18 g => step 1 h18 ?_ g⟩⟩)⟩⟩
      · rw [L1.1.1, eC, nI_le_iff (by omega) (by omega)] at q
        omega
      · rcases h01 with z | z
        · exact absurd z c
        · exact z ▸ hv
  exact loop C 0 h (by omega) (FrI.rf _ h) Z T3
theorem s_lines87 {h : HP} (hd : 2 ≤ d) (hs : s + 2 ≤ b + 16 ∨ b + 20 < s) (T : TbSh G h b) (St : StSh G h s) (L : LandS h s S) {C R j : Nat} (eC : S 0 = nI C) (eR : S 1 = nI R) (hC : C ≤ 40) (hR : R ≤ 40) (hj : j ≤ C) (Z : BorZ h b) (T3 : TabU h b S R j 0) (hQ : ∀ h2, FrI (fun a k => a = b + 20) h h2 → BorZ h2 b → TabU h2 b S R (j + 1) 0 → Ex G d mX7_rebuildLines 77 [(0, .ref (b + 15)), (1, .ref s), (2, .int (nI (j + 1)))] [] h2 Q) : Ex G d mX7_rebuildLines 87 [(0, .ref (b + 15)), (1, .ref s), (2, .int (nI j)), (3, .int 0)] [] h Q := by
  have loop : ∀ n i h1, i + n = R → FrI (fun a k => a = b + 20) h h1 → BorZ h1 b → TabU h1 b S R j i → Ex G d mX7_rebuildLines 87 [(0, .ref (b + 15)), (1, .ref s), (2, .int (nI j)), (3, .int (nI i))] [] h1 Q := by
    intro n
    induction n with
    | zero =>
      intro i h1 hi F Z1 V
      obtain rfl : i = R := by omega
      have S1 := St.fr F
      have L1 : LandS h1 s S := L.fr (F.i (by omega)) (F.i (by omega)) (fun c => F.i (by omega))
      refine t_X7_rebuildLines_87 (by omega) ⟨S1.1, fun _ => ?_, fun q => ?_⟩
      · rw [nI_S]
        refine hQ h1 F Z1 (fun x y hx hy => ?_)
        by_cases c : x ≤ j
        · by_cases c2 : x < j
          · exact V x y hx (Or.inl c2)
          · exact V x y hx (Or.inr ⟨by omega, hx, by omega⟩)
        · by_cases c40 : x ≤ 40
          · have z := (Z1 x c40).2.2.2
            obtain rfl : y = 0 := by omega
            show hI h1 _ (41 * _) = _
            rw [z]
            rfl
          · omega
      · rw [L1.1.2, eR] at q
        exact absurd ((nI_le_iff (by omega) (by omega)).mpr (Nat.le_refl _)) q
    | succ n ih =>
      intro i h1 hi F Z1 V
      have S1 := St.fr F
      have T1 := T.fr F
      have L1 : LandS h1 s S := L.fr (F.i (by omega)) (F.i (by omega)) (fun c => F.i (by omega))
      have e1 : nI j * 41 + nI i = nI (41 * j + i) := by
        show nI j * nI 41 + nI i = _
        rw [nM, nA, Nat.mul_comm]
      have e2 : nI j * 41 + nI i + 1 = nI (41 * j + (i + 1)) := by
        rw [e1, nI_S, Nat.add_assoc]
      have p1 := V j i (by omega) (Or.inr ⟨rfl, Nat.le_refl _, by omega⟩)
      obtain ⟨k20, n20⟩ := T1.2.2 (b + 20) (by omega) (by omega)
      have step : ∀ (v : Int32) (h2 : HP), v = iI (upr S j i) → h2 = sI h1 (b + 20) (nI j * 41 + nI i + 1).toNatClampNeg (hI h1 (b + 20) (nI j * 41 + nI i).toNatClampNeg + v) → Ex G d mX7_rebuildLines 87 [(0, .ref (b + 15)), (1, .ref s), (2, .int (nI j)), (3, .int (nI i + 1))] [] h2 Q := by
        intro v h2 hv g
        rw [e2, e1, cl_nI (by omega), cl_nI (by omega), p1, hv, ← iI_add] at g
        have es : sum1 (fun k => upr S j k) i + upr S j i = sum1 (fun k => upr S j k) (i + 1) := rfl
        rw [es] at g
        have F1 : FrI (fun a k => a = b + 20) h1 h2 := g ▸ FrI.sI _ _ rfl
        have v20 : ∀ q, hI h2 (b + 20) q = if q = 41 * j + (i + 1) then iI (sum1 (fun k => upr S j k) (i + 1)) else hI h1 (b + 20) q := fun q => by
          rw [g, hI_sI]
          by_cases c : q = 41 * j + (i + 1)
          · rw [if_pos ⟨rfl, c⟩, if_pos c]
          · rw [if_neg (fun z => c z.2), if_neg c]
        rw [nI_S]
        refine ih (i + 1) h2 (by omega) (F.tr F1) (fun q hq => ?_) (fun x y hx hy => ?_)
        · have z := Z1 q hq
          have n2 : ¬ 41 * q = 41 * j + (i + 1) := by omega
          rw [F1.i (a := b + 16) (by omega), F1.i (a := b + 17) (by omega), F1.i (a := b + 18) (by omega), F1.i (a := b + 16) (by omega), F1.i (a := b + 17) (by omega), F1.i (a := b + 18) (by omega), F1.i (a := b + 19) (by omega), v20, if_neg n2]
          exact z
        · rw [v20]
          by_cases c : y = i + 1 ∧ x = j
          · obtain ⟨rfl, rfl⟩ := c
            rw [if_pos rfl]
          · have n1 : ¬ 41 * x + y = 41 * j + (i + 1) := by omega
            rw [if_neg n1]
            exact V x y hx (by omega)
      have vv : vp_in (nI j * 41 + nI i + 1) (hN h1 (b + 20)) := by rw [e2, n20]; exact vin_nI (by omega) (by omega)
      have z0 : (0 : Int32).toInt = 0 := rfl
      have ib : ∀ x y : Nat, x ≤ 40 → y ≤ 40 → (inB (S 0) (S 1) (nI x) (nI y) = true ↔ x < C ∧ y < R) := fun x y hx hy => by
        unfold inB
        rw [decide_eq_true_eq, eC, eR, ti_le, ti_lt, ti_le, ti_lt, z0, ti_nI (by omega), ti_nI (by omega), ti_nI (by omega), ti_nI (by omega)]
        omega
      have tC : (S 0).toInt = C := by rw [eC, ti_nI (by omega)]
      have res : ∀ {Q' : Option Value → HP → Prop}, (∀ v : Int32, v = iI (upr S j i) → (v = 0 ∨ v = 1) → Q' (some (.int v)) h1) → Cal G (d - 1) mX7_areRivers [.ref s, .int (nI j), .int (nI i), .int (nI j - 1), .int (nI i)] h1 Q' := by
        intro Q' q
        refine s_areRivers (by omega) S1 L1 (fun c => q 0 ?_ (Or.inl rfl)) (fun a c a' c' _ _ _ _ e1 e2 e3 e4 b1 b2 => ?_)
        · unfold upr
          rw [if_neg]
          · rfl
          · rintro ⟨q1, q2, -⟩
            refine c ⟨(ib j i (by omega) (by omega)).mpr ⟨by omega, by omega⟩, ?_⟩
            rw [show nI j - 1 = nI (j - 1) from nS (b := 1) (by omega)]
            exact (ib (j - 1) i (by omega) (by omega)).mpr ⟨by omega, by omega⟩
        · obtain rfl : j = a := (nI_eq_iff (by omega) (by omega)).mp e1
          obtain rfl : i = c := (nI_eq_iff (by omega) (by omega)).mp e2
          obtain rfl : i = c' := (nI_eq_iff (by omega) (by omega)).mp e4
          have j0 : 0 < j := by
            rcases Nat.eq_zero_or_pos j with z | z
            · subst z
              have : (nI 0 - 1 : Int32).toInt = -1 := rfl
              rw [e3, ti_nI (by omega)] at this
              omega
            · exact z
          rw [show nI j - 1 = nI (j - 1) from nS (b := 1) (by omega), nI_eq_iff (by omega) (by omega)] at e3
          subst e3
          have jC := ((ib j i (by omega) (by omega)).mp b1).1
          refine q _ ?_ ?_
          · unfold upr
            by_cases z : riv S j i = 1 ∧ riv S (j - 1) i = 1
            · rw [if_pos z, if_pos ⟨j0, by omega, z⟩]; rfl
            · rw [if_neg z, if_neg (fun w => z w.2.2)]; rfl
          · split
            · exact Or.inr rfl
            · exact Or.inl rfl
      refine t_X7_rebuildLines_87 (by omega) ⟨S1.1, fun q => ?_, fun _ => ⟨T1.1, b + 20, T1.2.1.2.2.2.2, k20, by rw [e1, n20]; exact vin_nI (by omega) (by omega), res (fun v hv h01 => ⟨_, rfl, fun c => ⟨vv, fun h14 g => step 0 h14 (c ▸ hv) g⟩, fun c => ⟨vv, fun h18 g => step 1 h18 ?_ g⟩⟩)⟩⟩
      · rw [L1.1.2, eR, nI_le_iff (by omega) (by omega)] at q
        omega
      · rcases h01 with z | z
        · exact absurd z c
        · exact z ▸ hv
  exact loop R 0 h (by omega) (FrI.rf _ h) Z T3
/-- the tables are made anew -/
theorem s_rebuild {h : HP} (hd : 3 ≤ d) (hs : s + 2 ≤ b + 16 ∨ b + 20 < s) (T : TbSh G h b) (St : StSh G h s) (L : LandS h s S) (Z : BorZ h b) (hQ : ∀ h2, FrI (RbF b) h h2 → SumsOK h2 b S → BorZ h2 b → Q none h2) : Cal G d mX7_rebuild [.ref (b + 15), .ref s] h Q := by
  obtain ⟨⟨c1, c2⟩, r1, r2⟩ := L.2.2.1
  obtain ⟨C, hC, eC⟩ := of_in (n := 41) (x := S 0) (by omega) (by omega)
  obtain ⟨R, hR, eR⟩ := of_in (n := 41) (x := S 1) (by omega) (by omega)
  refine e_X7_rebuild ?_
  unfold T_X7_rebuild
  have L' : ∀ {h1 : HP}, FrI (RbF b) h h1 → LandS h1 s S := fun F => L.fr (F.i (by unfold RbF; omega)) (F.i (by unfold RbF; omega)) (fun c => F.i (by unfold RbF; omega))
  have up : ∀ n j h1, j + n = C + 1 → FrI (RbF b) h h1 → BorZ h1 b → Tab3 h1 b S C R 0 → TabL h1 b S C (R + 1) 0 → TabU h1 b S R j 0 → Ex G (d - 1) mX7_rebuildLines 77 [(0, .ref (b + 15)), (1, .ref s), (2, .int (nI j))] [] h1 (fun r3 h4 => r3 = none ∧ Q none h4) := by
    intro n
    induction n with
    | zero =>
      intro j h1 hj F Z1 V3 VL VU
      obtain rfl : j = C + 1 := by omega
      refine t_X7_rebuildLines_77 ⟨(St.fr F).1, fun _ => ⟨rfl, hQ h1 F (fun x y hx hy => ?_) Z1⟩, fun q => ?_⟩
      · rw [eC, ti_nI (by omega)] at hx
        rw [eR, ti_nI (by omega)] at hy
        obtain ⟨a1, a2, a3⟩ := V3 x y (by omega) (Or.inl (by omega))
        have a4 := VL x y (by omega) (Or.inl (by omega))
        have a5 := VU x y (by omega) (Or.inl (by omega))
        have bd : ∀ {f : Nat → Nat → Int} {m : Int}, 0 ≤ m → m ≤ 127 → (∀ i j, i < 40 → j < 40 → 0 ≤ f i j ∧ f i j ≤ m) → -2147483648 ≤ sum2 f x y ∧ sum2 f x y < 2147483648 := by
          intro f m m0 m1 hf
          have z := box_le (f := f) m0 hf 0 0 x y
          rw [box_pre f (by omega) (by omega) (by omega) (by omega), sum2_x0, sum2_x0, sum2_y0] at z
          omega
        have cf : ∀ i j, i < 40 → j < 40 → (0 ≤ wrt S i j ∧ wrt S i j ≤ 127) ∧ (0 ≤ riv S i j ∧ riv S i j ≤ 1) ∧ 0 ≤ wel S i j ∧ wel S i j ≤ 1 := fun i j hi hj => by
          obtain ⟨k, hk, ek⟩ := L.cell (c := 40 * j + i) (by omega)
          obtain ⟨w1, w2, w3⟩ := wrt_n hk ek
          omega
        have o : ∀ (f : Nat → Int) (n : Nat), n ≤ 40 → (∀ i, i < n → 0 ≤ f i ∧ f i ≤ 1) → -2147483648 ≤ sum1 f n ∧ sum1 f n < 2147483648 := by
          intro f n hn hf
          have z1 := sum1_nn n (fun i hi => (hf i hi).1)
          have z2 := sum1_le (g := fun _ => 1) n (fun i hi => (hf i hi).2)
          rw [sum1_const] at z2
          omega
        rw [a1, a2, a3, a4, a5]
        refine ⟨ti_iI (bd (m := 127) (by omega) (by omega) (fun i j hi hj => (cf i j hi hj).1)).1 (bd (m := 127) (by omega) (by omega) (fun i j hi hj => (cf i j hi hj).1)).2, ti_iI (bd (m := 1) (by omega) (by omega) (fun i j hi hj => (cf i j hi hj).2.2)).1 (bd (m := 1) (by omega) (by omega) (fun i j hi hj => (cf i j hi hj).2.2)).2, ti_iI (bd (m := 1) (by omega) (by omega) (fun i j hi hj => (cf i j hi hj).2.1)).1 (bd (m := 1) (by omega) (by omega) (fun i j hi hj => (cf i j hi hj).2.1)).2, ?_, ?_⟩
        · have z := o (fun i => lvl S i y) x (by omega) (fun i _ => by unfold lvl; split <;> omega)
          exact ti_iI z.1 z.2
        · have z := o (fun k => upr S x k) y (by omega) (fun i _ => by unfold upr; split <;> omega)
          exact ti_iI z.1 z.2
      · rw [(L' F).1.1, eC, nI_lt_iff (by omega) (by omega)] at q
        omega
    | succ n ih =>
      intro j h1 hj F Z1 V3 VL VU
      refine t_X7_rebuildLines_77 ⟨(St.fr F).1, fun q => ?_, fun _ => s_lines87 (by omega) hs (T.fr F) (St.fr F) (L' F) eC eR (by omega) (by omega) (by omega) Z1 VU (fun h2 F2 Z2 VU2 => ?_)⟩
      · rw [(L' F).1.1, eC, nI_lt_iff (by omega) (by omega)] at q
        omega
      · refine ih (j + 1) h2 (by omega) (F.tr (F2.weak (fun a k q => by unfold RbF; omega))) Z2 (fun x y hx hy => ?_) (fun x y hx hy => ?_) VU2
        · rw [F2.i (by omega), F2.i (a := b + 17) (by omega), F2.i (a := b + 18) (by omega)]
          exact V3 x y hx hy
        · rw [F2.i (by omega)]
          exact VL x y hx hy
  have lv : ∀ n j h1, j + n = R + 1 → FrI (RbF b) h h1 → BorZ h1 b → Tab3 h1 b S C R 0 → TabL h1 b S C j 0 → Ex G (d - 1) mX7_rebuildLines 2 [(0, .ref (b + 15)), (1, .ref s), (2, .int (nI j))] [] h1 (fun r3 h4 => r3 = none ∧ Q none h4) := by
    intro n
    induction n with
    | zero =>
      intro j h1 hj F Z1 V3 VL
      obtain rfl : j = R + 1 := by omega
      refine t_X7_rebuildLines_2 ⟨(St.fr F).1, fun _ => up (C + 1) 0 h1 (by omega) F Z1 V3 VL (fun x y hy hx => ?_), fun q => ?_⟩
      · obtain ⟨rfl, rfl⟩ : x = 0 ∧ y = 0 := by omega
        have z := (Z1 0 (by omega)).2.2.2
        rw [show 41 * 0 + 0 = 41 * 0 from rfl, z]
        rfl
      · rw [(L' F).1.2, eR, nI_lt_iff (by omega) (by omega)] at q
        omega
    | succ n ih =>
      intro j h1 hj F Z1 V3 VL
      refine t_X7_rebuildLines_2 ⟨(St.fr F).1, fun q => ?_, fun _ => s_lines12 (by omega) hs (T.fr F) (St.fr F) (L' F) eC eR (by omega) (by omega) (by omega) Z1 VL (fun h2 F2 Z2 VL2 => ?_)⟩
      · rw [(L' F).1.2, eR, nI_lt_iff (by omega) (by omega)] at q
        omega
      · refine ih (j + 1) h2 (by omega) (F.tr (F2.weak (fun a k q => by unfold RbF; omega))) Z2 (fun x y hx hy => ?_) VL2
        rw [F2.i (by omega), F2.i (a := b + 17) (by omega), F2.i (a := b + 18) (by omega)]
        exact V3 x y hx hy
  have rows : ∀ n j h1, j + n = R → FrI (RbF b) h h1 → BorZ h1 b → Tab3 h1 b S C j 0 → Ex G d mX7_rebuild 2 [(0, .ref (b + 15)), (1, .ref s), (2, .int (nI j))] [] h1 Q := by
    intro n
    induction n with
    | zero =>
      intro j h1 hj F Z1 V
      obtain rfl : j = R := by omega
      refine t_X7_rebuild_2 (by omega) ⟨(St.fr F).1, fun _ => ⟨(T.fr F).1, e_X7_rebuildLines ?_⟩, fun q => ?_⟩
      · unfold T_X7_rebuildLines
        refine lv (j + 1) 0 h1 (by omega) F Z1 V (fun x y hx hy => ?_)
        obtain ⟨rfl, rfl⟩ : x = 0 ∧ y = 0 := by omega
        have z := (Z1 0 (by omega)).2.2.1
        rw [show 41 * 0 + 0 = 41 * 0 from rfl, z]
        rfl
      · rw [(L' F).1.2, eR] at q
        exact absurd ((nI_le_iff (by omega) (by omega)).mpr (Nat.le_refl _)) q
    | succ n ih =>
      intro j h1 hj F Z1 V
      refine t_X7_rebuild_2 (by omega) ⟨(St.fr F).1, fun q => ?_, fun _ => s_rebuild12 (by omega) hs (T.fr F) (St.fr F) (L' F) eC eR (by omega) (by omega) (by omega) Z1 V (fun h2 F2 Z2 V2 => ih (j + 1) h2 (by omega) (F.tr F2) Z2 V2)⟩
      rw [(L' F).1.2, eR, nI_le_iff (by omega) (by omega)] at q
      omega
  refine rows R 0 h (by omega) (FrI.rf _ h) Z (fun x y hx hy => ?_)
  by_cases c : y = 0
  · subst c
    obtain ⟨z1, z2, z3⟩ := (Z x (by omega)).1
    rw [show 41 * 0 + x = x by omega, z1, z2, z3]
    exact ⟨rfl, rfl, rfl⟩
  · obtain ⟨rfl, rfl⟩ : y = 1 ∧ x = 0 := by omega
    obtain ⟨z1, z2, z3⟩ := (Z 1 (by omega)).2.1
    rw [show 41 * 1 + 0 = 41 * 1 from rfl, z1, z2, z3, sum2_x0, sum2_x0, sum2_x0]
    exact ⟨rfl, rfl, rfl⟩
end RL
