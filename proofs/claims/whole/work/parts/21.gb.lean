def T_X4_init (G : GG) (d : Nat) (h : HP) (Q : Option Value → HP → Prop) (a0 : Nat) (a1 : Nat) (a2 : Nat) (a3 : Nat) (a4 : Nat) (x5 : Int32) : Prop :=
  ∀ q1 h2, q1 = hZ h → h2 = nw h 15 ((64 : Int32).toNatClampNeg) → Kd G h2 a0 4 ∧ ∀ h7, h7 = (sR (sR (sR (sR (sR h2 a0 5 (some q1)) a0 1 (some a1)) a0 2 (some a2)) a0 3 (some a3)) a0 4 (some a4)) → (x5 = 0 ∨ x5 = 1) ∧ Q none (sI h7 a0 0 x5)
set_option maxRecDepth 20000 in
theorem t_X4_init {G : GG} {d : Nat} {h : HP} {Q : Option Value → HP → Prop} {a0 : Nat} {a1 : Nat} {a2 : Nat} {a3 : Nat} {a4 : Nat} {x5 : Int32} (hd1 : 1 ≤ d) (ht : T_X4_init G d h Q a0 a1 a2 a3 a4 x5) : Ex G d mX4_init 0 [(0, .ref a0), (1, .ref a1), (2, .ref a2), (3, .ref a3), (4, .ref a4), (5, .int x5)] [] h Q := by
  unfold T_X4_init at ht
  refine x_aload_n (pc2 := 1) 0 (n := 0) (x := a0) rfl dX4_init_0 rfl ?_
  refine x_objInit (pc2 := 4) ml_X4_3 hd1 (Nat.le_of_ble_eq_true rfl) dX4_init_1 rfl ?_
  refine x_aload_n (pc2 := 5) 0 (n := 0) (x := a0) rfl dX4_init_4 rfl ?_
  refine x_bipush (pc2 := 7) (v := 64) (by decide) dX4_init_5 rfl ?_
  refine y_newa (pc2 := 9) (κ := 15) (at0 := .long) ac_long rfl (by decide) (by decide) (by decide) (by decide) dX4_init_7 rfl (fun q1 h2 e3 e4 p5 => ?_)
  replace ht := ht q1 h2 e3 e4
  obtain ⟨k6, ht⟩ := ht
  refine x_putR (pc2 := 12) (v := (some q1)) (κ := 4) (k := 5) fl_X4_9 (by decide) (by decide) (Or.inr ⟨rfl, rfl⟩) (isRt_a _) k6 dX4_init_9 rfl ?_
  refine x_aload_n (pc2 := 13) 0 (n := 0) (x := a0) rfl dX4_init_12 rfl ?_
  refine x_aload_n (pc2 := 14) 1 (n := 1) (x := a1) rfl dX4_init_13 rfl ?_
  refine x_putR (pc2 := 17) (v := (some a1)) (κ := 4) (k := 1) fl_X4_15 (by decide) (by decide) (Or.inr ⟨rfl, rfl⟩) (isRt_a _) k6.sR dX4_init_14 rfl ?_
  refine x_aload_n (pc2 := 18) 0 (n := 0) (x := a0) rfl dX4_init_17 rfl ?_
  refine x_aload_n (pc2 := 19) 2 (n := 2) (x := a2) rfl dX4_init_18 rfl ?_
  refine x_putR (pc2 := 22) (v := (some a2)) (κ := 4) (k := 2) fl_X4_19 (by decide) (by decide) (Or.inr ⟨rfl, rfl⟩) (isRt_a _) k6.sR.sR dX4_init_19 rfl ?_
  refine x_aload_n (pc2 := 23) 0 (n := 0) (x := a0) rfl dX4_init_22 rfl ?_
  refine x_aload_n (pc2 := 24) 3 (n := 3) (x := a3) rfl dX4_init_23 rfl ?_
  refine x_putR (pc2 := 27) (v := (some a3)) (κ := 4) (k := 3) fl_X4_22 (by decide) (by decide) (Or.inr ⟨rfl, rfl⟩) (isRt_a _) k6.sR.sR.sR dX4_init_24 rfl ?_
  refine x_aload_n (pc2 := 28) 0 (n := 0) (x := a0) rfl dX4_init_27 rfl ?_
  refine x_aload (pc2 := 30) 4 (n := 4) (x := a4) rfl dX4_init_28 rfl ?_
  refine x_putR (pc2 := 33) (v := (some a4)) (κ := 4) (k := 4) fl_X4_25 (by decide) (by decide) (Or.inr ⟨rfl, rfl⟩) (isRt_a _) k6.sR.sR.sR.sR dX4_init_30 rfl ?_
  refine nm_R (fun h7 e8 p9 => ?_)
  replace ht := ht h7 e8
  refine x_aload_n (pc2 := 34) 0 (n := 0) (x := a0) rfl dX4_init_33 rfl ?_
  refine x_iload (pc2 := 36) 5 (n := 5) (x := x5) rfl dX4_init_34 rfl ?_
  obtain ⟨z10, ht⟩ := ht
  refine x_putZ (pc2 := 39) (κ := 4) (k := 0) z10 fl_X4_28 (by decide) (by decide) (Or.inr ⟨rfl, rfl⟩) rfl (k6.sR.sR.sR.sR.up p9) dX4_init_36 rfl ?_
  exact x_retV rfl dX4_init_39 ht
theorem e_X4_init {G : GG} {d : Nat} {h : HP} {Q : Option Value → HP → Prop} {a0 : Nat} {a1 : Nat} {a2 : Nat} {a3 : Nat} {a4 : Nat} {x5 : Int32} (hd1 : 1 ≤ d) (ht : T_X4_init G d h Q a0 a1 a2 a3 a4 x5) : Cal G d mX4_init [.ref a0, .ref a1, .ref a2, .ref a3, .ref a4, .int x5] h Q := cal_of rfl (Nat.le_of_ble_eq_true rfl) (t_X4_init hd1 ht)
def T_X4_arithmeticOf (G : GG) (d : Nat) (h : HP) (Q : Option Value → HP → Prop) (x0 : Int32) : Prop :=
  ((x0 = 42 → Q (some (.int (-4))) h) ∧ (¬ x0 = 42 → ((x0 = 43 → Q (some (.int (-2))) h) ∧ (¬ x0 = 43 → ((x0 = 44 → Q (some (.int (-1))) h) ∧ (¬ x0 = 44 → ((x0 = 45 → Q (some (.int (-3))) h) ∧ (¬ x0 = 45 → ((x0 = 46 → Q (some (.int (-1))) h) ∧ (¬ x0 = 46 → ((x0 = 47 → Q (some (.int (-5))) h) ∧ (¬ x0 = 47 → Q (some (.int (-1))) h))))))))))))
set_option maxRecDepth 20000 in
theorem t_X4_arithmeticOf {G : GG} {d : Nat} {h : HP} {Q : Option Value → HP → Prop} {x0 : Int32} (ht : T_X4_arithmeticOf G d h Q x0) : Ex G d mX4_arithmeticOf 0 [(0, .int x0)] [] h Q := by
  unfold T_X4_arithmeticOf at ht
  refine x_iload_n (pc2 := 1) 0 (n := 0) (x := x0) rfl dX4_arithmeticOf_0 rfl ?_
  refine y_tcase (x := x0) 42 46 dX4_arithmeticOf_1 (by decide) (by decide) rfl (by decide) (fun c1 => ?_) (fun c1 => ?_)
  · replace ht := ht.1 c1
    refine x_bipush (pc2 := 48) (v := (-4)) (by decide) dX4_arithmeticOf_46 rfl ?_
    exact x_ret (ty := .int) rfl rfl dX4_arithmeticOf_48 ht
  replace ht := ht.2 c1
  refine y_tcase (x := x0) 43 40 dX4_arithmeticOf_1 (by decide) (by decide) rfl (by decide) (fun c2 => ?_) (fun c2 => ?_)
  · replace ht := ht.1 c2
    refine x_bipush (pc2 := 42) (v := (-2)) (by decide) dX4_arithmeticOf_40 rfl ?_
    exact x_ret (ty := .int) rfl rfl dX4_arithmeticOf_42 ht
  replace ht := ht.2 c2
  refine y_tcase (x := x0) 44 52 dX4_arithmeticOf_1 (by decide) (by decide) rfl (by decide) (fun c3 => ?_) (fun c3 => ?_)
  · replace ht := ht.1 c3
    refine x_iconst (pc2 := 53) (v := (-1)) (by decide) dX4_arithmeticOf_52 rfl ?_
    exact x_ret (ty := .int) rfl rfl dX4_arithmeticOf_53 ht
  replace ht := ht.2 c3
  refine y_tcase (x := x0) 45 43 dX4_arithmeticOf_1 (by decide) (by decide) rfl (by decide) (fun c4 => ?_) (fun c4 => ?_)
  · replace ht := ht.1 c4
    refine x_bipush (pc2 := 45) (v := (-3)) (by decide) dX4_arithmeticOf_43 rfl ?_
    exact x_ret (ty := .int) rfl rfl dX4_arithmeticOf_45 ht
  replace ht := ht.2 c4
  refine y_tcase (x := x0) 46 52 dX4_arithmeticOf_1 (by decide) (by decide) rfl (by decide) (fun c5 => ?_) (fun c5 => ?_)
  · replace ht := ht.1 c5
    refine x_iconst (pc2 := 53) (v := (-1)) (by decide) dX4_arithmeticOf_52 rfl ?_
    exact x_ret (ty := .int) rfl rfl dX4_arithmeticOf_53 ht
  replace ht := ht.2 c5
  refine y_tcase (x := x0) 47 49 dX4_arithmeticOf_1 (by decide) (by decide) rfl (by decide) (fun c6 => ?_) (fun c6 => ?_)
  · replace ht := ht.1 c6
    refine x_bipush (pc2 := 51) (v := (-5)) (by decide) dX4_arithmeticOf_49 rfl ?_
    exact x_ret (ty := .int) rfl rfl dX4_arithmeticOf_51 ht
  replace ht := ht.2 c6
  have wc1 := ne_ti (z := 42) rfl c1
  have wc2 := ne_ti (z := 43) rfl c2
  have wc3 := ne_ti (z := 44) rfl c3
  have wc4 := ne_ti (z := 45) rfl c4
  have wc5 := ne_ti (z := 46) rfl c5
  have wc6 := ne_ti (z := 47) rfl c6
  refine x_tableOut (x := x0) 52 dX4_arithmeticOf_1 (by omega) (by decide) ?_
  refine x_iconst (pc2 := 53) (v := (-1)) (by decide) dX4_arithmeticOf_52 rfl ?_
  exact x_ret (ty := .int) rfl rfl dX4_arithmeticOf_53 ht
theorem e_X4_arithmeticOf {G : GG} {d : Nat} {h : HP} {Q : Option Value → HP → Prop} {x0 : Int32} (ht : T_X4_arithmeticOf G d h Q x0) : Cal G d mX4_arithmeticOf [.int x0] h Q := cal_of rfl (Nat.le_of_ble_eq_true rfl) (t_X4_arithmeticOf ht)
def T_X4_comparisonOf (G : GG) (d : Nat) (h : HP) (Q : Option Value → HP → Prop) (x0 : Int32) : Prop :=
  ((x0 = 60 → Q (some (.int (-6))) h) ∧ (¬ x0 = 60 → ((x0 = 61 → Q (some (.int (-8))) h) ∧ (¬ x0 = 61 → ((x0 = 62 → Q (some (.int (-10))) h) ∧ (¬ x0 = 62 → ((x0 = 256 → Q (some (.int (-7))) h) ∧ (¬ x0 = 256 → ((x0 = 257 → Q (some (.int (-9))) h) ∧ (¬ x0 = 257 → Q (some (.int (-1))) h))))))))))
set_option maxRecDepth 20000 in
theorem t_X4_comparisonOf {G : GG} {d : Nat} {h : HP} {Q : Option Value → HP → Prop} {x0 : Int32} (ht : T_X4_comparisonOf G d h Q x0) : Ex G d mX4_comparisonOf 0 [(0, .int x0)] [] h Q := by
  unfold T_X4_comparisonOf at ht
  refine x_iload_n (pc2 := 1) 0 (n := 0) (x := x0) rfl dX4_comparisonOf_0 rfl ?_
  refine y_lcase (x := x0) 60 52 dX4_comparisonOf_1 (by decide) rfl (by decide) (fun c1 => ?_) (fun c1 => ?_)
  · replace ht := ht.1 c1
    refine x_bipush (pc2 := 54) (v := (-6)) (by decide) dX4_comparisonOf_52 rfl ?_
    exact x_ret (ty := .int) rfl rfl dX4_comparisonOf_54 ht
  replace ht := ht.2 c1
  refine y_lcase (x := x0) 61 58 dX4_comparisonOf_1 (by decide) rfl (by decide) (fun c2 => ?_) (fun c2 => ?_)
  · replace ht := ht.1 c2
    refine x_bipush (pc2 := 60) (v := (-8)) (by decide) dX4_comparisonOf_58 rfl ?_
    exact x_ret (ty := .int) rfl rfl dX4_comparisonOf_60 ht
  replace ht := ht.2 c2
  refine y_lcase (x := x0) 62 64 dX4_comparisonOf_1 (by decide) rfl (by decide) (fun c3 => ?_) (fun c3 => ?_)
  · replace ht := ht.1 c3
    refine x_bipush (pc2 := 66) (v := (-10)) (by decide) dX4_comparisonOf_64 rfl ?_
    exact x_ret (ty := .int) rfl rfl dX4_comparisonOf_66 ht
  replace ht := ht.2 c3
  refine y_lcase (x := x0) 256 55 dX4_comparisonOf_1 (by decide) rfl (by decide) (fun c4 => ?_) (fun c4 => ?_)
  · replace ht := ht.1 c4
    refine x_bipush (pc2 := 57) (v := (-7)) (by decide) dX4_comparisonOf_55 rfl ?_
    exact x_ret (ty := .int) rfl rfl dX4_comparisonOf_57 ht
  replace ht := ht.2 c4
  refine y_lcase (x := x0) 257 61 dX4_comparisonOf_1 (by decide) rfl (by decide) (fun c5 => ?_) (fun c5 => ?_)
  · replace ht := ht.1 c5
    refine x_bipush (pc2 := 63) (v := (-9)) (by decide) dX4_comparisonOf_61 rfl ?_
    exact x_ret (ty := .int) rfl rfl dX4_comparisonOf_63 ht
  replace ht := ht.2 c5
  have wc1 := ne_ti (z := 60) rfl c1
  have wc2 := ne_ti (z := 61) rfl c2
  have wc3 := ne_ti (z := 62) rfl c3
  have wc4 := ne_ti (z := 256) rfl c4
  have wc5 := ne_ti (z := 257) rfl c5
  refine x_lookup (x := x0) 67 dX4_comparisonOf_1 (by decide) (off := 66) (by simp [Op.lookupswitch.offset, Ne.symm wc1, Ne.symm wc2, Ne.symm wc3, Ne.symm wc4, Ne.symm wc5, wc1, wc2, wc3, wc4, wc5]) (by decide) ?_
  refine x_iconst (pc2 := 68) (v := (-1)) (by decide) dX4_comparisonOf_67 rfl ?_
  exact x_ret (ty := .int) rfl rfl dX4_comparisonOf_68 ht
theorem e_X4_comparisonOf {G : GG} {d : Nat} {h : HP} {Q : Option Value → HP → Prop} {x0 : Int32} (ht : T_X4_comparisonOf G d h Q x0) : Cal G d mX4_comparisonOf [.int x0] h Q := cal_of rfl (Nat.le_of_ble_eq_true rfl) (t_X4_comparisonOf ht)
def T_X4_distance (G : GG) (d : Nat) (h : HP) (Q : Option Value → HP → Prop) (a0 : Nat) (a1 : Nat) : Prop :=
  Ex G d mX4_distance 2 [(0, .ref a0), (1, .ref a1), (2, .int 0)] [] h Q
set_option maxRecDepth 20000 in
theorem t_X4_distance {G : GG} {d : Nat} {h : HP} {Q : Option Value → HP → Prop} {a0 : Nat} {a1 : Nat} (ht : T_X4_distance G d h Q a0 a1) : Ex G d mX4_distance 0 [(0, .ref a0), (1, .ref a1)] [] h Q := by
  unfold T_X4_distance at ht
  refine x_iconst (pc2 := 1) (v := 0) (by decide) dX4_distance_0 rfl ?_
  refine x_istore_n (pc2 := 2) [1, 2, 0] (n := 2) (x := 0) (lv2 := [(0, .ref a0), (1, .ref a1), (2, .int 0)]) (by decide) rfl dX4_distance_1 rfl ?_
  exact ht
theorem e_X4_distance {G : GG} {d : Nat} {h : HP} {Q : Option Value → HP → Prop} {a0 : Nat} {a1 : Nat} (ht : T_X4_distance G d h Q a0 a1) : Cal G d mX4_distance [.ref a0, .ref a1] h Q := cal_of rfl (Nat.le_of_ble_eq_true rfl) (t_X4_distance ht)
def T_X4_distance_2 (G : GG) (d : Nat) (h : HP) (Q : Option Value → HP → Prop) (a0 : Nat) (a1 : Nat) (x2 : Int32) : Prop :=
  Kd G h a0 4 ∧ ∃ q2, hR h a0 2 = some q2 ∧ Kd G h q2 14 ∧ (((Int32.ofNat (hN h q2)) ≤ x2 → Q (some (.int 1)) h) ∧ (¬ (Int32.ofNat (hN h q2)) ≤ x2 → vp_in x2 (hN h q2) ∧ ((¬ (hI h q2 x2.toNatClampNeg) = 12 → Ex G d mX4_distance 2 [(0, .ref a0), (1, .ref a1), (2, .int (x2 + 1))] [] h Q) ∧ ((hI h q2 x2.toNatClampNeg) = 12 → ∃ q8, hR h a0 4 = some q8 ∧ Kd G h q8 14 ∧ vp_in x2 (hN h q8) ∧ (((hI h q8 x2.toNatClampNeg) = (-1) → Ex G d mX4_distance 48 [(0, .ref a0), (1, .ref a1), (2, .int x2)] [] h Q) ∧ (¬ (hI h q8 x2.toNatClampNeg) = (-1) → vp_in x2 (hN h q8) ∧ Cal G (d - 1) mX4_run [.ref a0, .int (hI h q8 x2.toNatClampNeg), .ref a1] h (fun r14 h15 => ∃ v17, r14 = some (.long v17) ∧ (((lg_cmp v17 0) = 0 → Ex G d mX4_distance 2 [(0, .ref a0), (1, .ref a1), (2, .int (x2 + 1))] [] h15 Q) ∧ (¬ (lg_cmp v17 0) = 0 → Ex G d mX4_distance 48 [(0, .ref a0), (1, .ref a1), (2, .int x2)] [] h15 Q)))))))))
set_option maxRecDepth 20000 in
theorem t_X4_distance_2 {G : GG} {d : Nat} {h : HP} {Q : Option Value → HP → Prop} {a0 : Nat} {a1 : Nat} {x2 : Int32} (hd1 : 1 ≤ d) (ht : T_X4_distance_2 G d h Q a0 a1 x2) : Ex G d mX4_distance 2 [(0, .ref a0), (1, .ref a1), (2, .int x2)] [] h Q := by
  unfold T_X4_distance_2 at ht
  refine x_iload_n (pc2 := 3) 2 (n := 2) (x := x2) rfl dX4_distance_2 rfl ?_
  refine x_aload_n (pc2 := 4) 0 (n := 0) (x := a0) rfl dX4_distance_3 rfl ?_
  obtain ⟨k1, ht⟩ := ht
  obtain ⟨q2, e3, ht⟩ := ht
  refine y_getR (pc2 := 7) (κ := 4) (k := 2) fl_X4_19 (by decide) (by decide) k1 rfl e3 dX4_distance_4 rfl ?_
  obtain ⟨k4, ht⟩ := ht
  refine x_alen (pc2 := 8) (κ := 14) (by decide) k4 dX4_distance_7 rfl ?_
  refine x_icmp_ge (pc2 := 11) 77 dX4_distance_8 (by decide) rfl (fun c5 => ?_) (fun c5 => ?_)
  · replace ht := ht.1 c5
    refine x_iconst (pc2 := 78) (v := 1) (by decide) dX4_distance_77 rfl ?_
    exact x_ret (ty := .int) rfl rfl dX4_distance_78 ht
  · replace ht := ht.2 c5
    refine x_aload_n (pc2 := 12) 0 (n := 0) (x := a0) rfl dX4_distance_11 rfl ?_
    refine y_getR (pc2 := 15) (κ := 4) (k := 2) fl_X4_19 (by decide) (by decide) k1 rfl e3 dX4_distance_12 rfl ?_
    refine x_iload_n (pc2 := 16) 2 (n := 2) (x := x2) rfl dX4_distance_15 rfl ?_
    obtain ⟨b6, ht⟩ := ht
    refine x_iald (pc2 := 17) k4 b6 dX4_distance_16 rfl ?_
    refine x_bipush (pc2 := 19) (v := 12) (by decide) dX4_distance_17 rfl ?_
    refine y_icmp_ne (pc2 := 22) 71 dX4_distance_19 (by decide) rfl (fun c7 => ?_) (fun c7 => ?_)
    · replace ht := ht.1 c7
      refine x_iinc (pc2 := 74) 2 [1, 2, 0] (i := 2) (x := x2) (v := (x2 + 1)) (lv2 := [(0, .ref a0), (1, .ref a1), (2, .int (x2 + 1))]) rfl (iinc_eq (by decide) _) (by decide) rfl dX4_distance_71 rfl ?_
      refine x_goto 2 dX4_distance_74 (by decide) ?_
      exact ht
    · replace ht := ht.2 c7
      refine x_aload_n (pc2 := 23) 0 (n := 0) (x := a0) rfl dX4_distance_22 rfl ?_
      obtain ⟨q8, e9, ht⟩ := ht
      refine y_getR (pc2 := 26) (κ := 4) (k := 4) fl_X4_25 (by decide) (by decide) k1 rfl e9 dX4_distance_23 rfl ?_
      refine x_iload_n (pc2 := 27) 2 (n := 2) (x := x2) rfl dX4_distance_26 rfl ?_
      obtain ⟨k10, ht⟩ := ht
      obtain ⟨b11, ht⟩ := ht
      refine x_iald (pc2 := 28) k10 b11 dX4_distance_27 rfl ?_
      refine x_iconst (pc2 := 29) (v := (-1)) (by decide) dX4_distance_28 rfl ?_
      refine x_icmp_eq (pc2 := 32) 48 dX4_distance_29 (by decide) rfl (fun c12 => ?_) (fun c12 => ?_)
      · replace ht := ht.1 c12
        exact ht
      · replace ht := ht.2 c12
        refine x_aload_n (pc2 := 33) 0 (n := 0) (x := a0) rfl dX4_distance_32 rfl ?_
        refine x_aload_n (pc2 := 34) 0 (n := 0) (x := a0) rfl dX4_distance_33 rfl ?_
        refine y_getR (pc2 := 37) (κ := 4) (k := 4) fl_X4_25 (by decide) (by decide) k1 rfl e9 dX4_distance_34 rfl ?_
        refine x_iload_n (pc2 := 38) 2 (n := 2) (x := x2) rfl dX4_distance_37 rfl ?_
        obtain ⟨b13, ht⟩ := ht
        refine x_iald (pc2 := 39) k10 b13 dX4_distance_38 rfl ?_
        refine x_aload_n (pc2 := 40) 1 (n := 1) (x := a1) rfl dX4_distance_39 rfl ?_
        refine x_callV (pc2 := 43) (As := [.int (hI h q8 x2.toNatClampNeg), .ref a1]) (rest := []) (b := a0) mv_X4_run ml_X4_32 k1 rfl rfl (Nat.le_of_ble_eq_true rfl) hd1 dX4_distance_40 rfl (ht.mono (fun r14 h15 p16 ht' => ?_))
        clear ht
        obtain ⟨v17, rfl, ht⟩ := ht'
        show Ex G d mX4_distance 43 [(0, .ref a0), (1, .ref a1), (2, .int x2)] [.long v17] h15 Q
        refine x_lconst (pc2 := 44) (v := 0) (by decide) dX4_distance_43 rfl ?_
        refine x_lcmp (pc2 := 45) dX4_distance_44 rfl ?_
        refine x_if_eq (pc2 := 48) 71 dX4_distance_45 (by decide) rfl (fun c18 => ?_) (fun c18 => ?_)
        · replace ht := ht.1 c18
          refine x_iinc (pc2 := 74) 2 [1, 2, 0] (i := 2) (x := x2) (v := (x2 + 1)) (lv2 := [(0, .ref a0), (1, .ref a1), (2, .int (x2 + 1))]) rfl (iinc_eq (by decide) _) (by decide) rfl dX4_distance_71 rfl ?_
          refine x_goto 2 dX4_distance_74 (by decide) ?_
          exact ht
        · replace ht := ht.2 c18
          exact ht
def T_X4_distance_48 (G : GG) (d : Nat) (h : HP) (Q : Option Value → HP → Prop) (a0 : Nat) (a1 : Nat) (x2 : Int32) : Prop :=
  Kd G h a0 4 ∧ ∃ q2, hR h a0 3 = some q2 ∧ Kd G h q2 14 ∧ vp_in x2 (hN h q2) ∧ Cal G (d - 1) mX4_run [.ref a0, .int (hI h q2 x2.toNatClampNeg), .ref a1] h (fun r6 h7 => ∃ v9, r6 = some (.long v9) ∧ Q (some (.int ((mxL 1 (mnL 40 v9)).toInt32))) h7)
set_option maxRecDepth 20000 in
theorem t_X4_distance_48 {G : GG} {d : Nat} {h : HP} {Q : Option Value → HP → Prop} {a0 : Nat} {a1 : Nat} {x2 : Int32} (hd1 : 1 ≤ d) (ht : T_X4_distance_48 G d h Q a0 a1 x2) : Ex G d mX4_distance 48 [(0, .ref a0), (1, .ref a1), (2, .int x2)] [] h Q := by
  unfold T_X4_distance_48 at ht
  refine x_lconst (pc2 := 49) (v := 1) (by decide) dX4_distance_48 rfl ?_
  refine x_ldc2 (pc2 := 52) (v := 40) ct_X4_36 dX4_distance_49 rfl ?_
  refine x_aload_n (pc2 := 53) 0 (n := 0) (x := a0) rfl dX4_distance_52 rfl ?_
  refine x_aload_n (pc2 := 54) 0 (n := 0) (x := a0) rfl dX4_distance_53 rfl ?_
  obtain ⟨k1, ht⟩ := ht
  obtain ⟨q2, e3, ht⟩ := ht
  refine y_getR (pc2 := 57) (κ := 4) (k := 3) fl_X4_22 (by decide) (by decide) k1 rfl e3 dX4_distance_54 rfl ?_
  refine x_iload_n (pc2 := 58) 2 (n := 2) (x := x2) rfl dX4_distance_57 rfl ?_
  obtain ⟨k4, ht⟩ := ht
  obtain ⟨b5, ht⟩ := ht
  refine x_iald (pc2 := 59) k4 b5 dX4_distance_58 rfl ?_
  refine x_aload_n (pc2 := 60) 1 (n := 1) (x := a1) rfl dX4_distance_59 rfl ?_
  refine x_callV (pc2 := 63) (As := [.int (hI h q2 x2.toNatClampNeg), .ref a1]) (rest := [.long 40, .long 1]) (b := a0) mv_X4_run ml_X4_32 k1 rfl rfl (Nat.le_of_ble_eq_true rfl) hd1 dX4_distance_60 rfl (ht.mono (fun r6 h7 p8 ht' => ?_))
  clear ht
  obtain ⟨v9, rfl, ht⟩ := ht'
  show Ex G d mX4_distance 63 [(0, .ref a0), (1, .ref a1), (2, .int x2)] [.long v9, .long 40, .long 1] h7 Q
  refine x_lmin (pc2 := 66) ml_X4_38 hd1 (Nat.le_of_ble_eq_true rfl) dX4_distance_63 rfl ?_
  refine x_lmax (pc2 := 69) ml_X4_44 hd1 (Nat.le_of_ble_eq_true rfl) dX4_distance_66 rfl ?_
  refine x_l2i (pc2 := 70) dX4_distance_69 rfl ?_
  exact x_ret (ty := .int) rfl rfl dX4_distance_70 ht
def T_X4_allows (G : GG) (d : Nat) (h : HP) (Q : Option Value → HP → Prop) (a0 : Nat) (a1 : Nat) : Prop :=
  Ex G d mX4_allows 7 [(0, .ref a0), (1, .ref a1), (2, .int 0), (3, .int 0), (4, .int 0)] [] h Q
set_option maxRecDepth 20000 in
theorem t_X4_allows {G : GG} {d : Nat} {h : HP} {Q : Option Value → HP → Prop} {a0 : Nat} {a1 : Nat} (ht : T_X4_allows G d h Q a0 a1) : Ex G d mX4_allows 0 [(0, .ref a0), (1, .ref a1)] [] h Q := by
  unfold T_X4_allows at ht
  refine x_iconst (pc2 := 1) (v := 0) (by decide) dX4_allows_0 rfl ?_
  refine x_istore_n (pc2 := 2) [1, 2, 0] (n := 2) (x := 0) (lv2 := [(0, .ref a0), (1, .ref a1), (2, .int 0)]) (by decide) rfl dX4_allows_1 rfl ?_
  refine x_iconst (pc2 := 3) (v := 0) (by decide) dX4_allows_2 rfl ?_
  refine x_istore_n (pc2 := 4) [1, 2, 3, 0] (n := 3) (x := 0) (lv2 := [(0, .ref a0), (1, .ref a1), (2, .int 0), (3, .int 0)]) (by decide) rfl dX4_allows_3 rfl ?_
  refine x_iconst (pc2 := 5) (v := 0) (by decide) dX4_allows_4 rfl ?_
  refine x_istore (pc2 := 7) [1, 2, 3, 4, 0] (n := 4) (x := 0) (lv2 := [(0, .ref a0), (1, .ref a1), (2, .int 0), (3, .int 0), (4, .int 0)]) (by decide) rfl dX4_allows_5 rfl ?_
  exact ht
theorem e_X4_allows {G : GG} {d : Nat} {h : HP} {Q : Option Value → HP → Prop} {a0 : Nat} {a1 : Nat} (ht : T_X4_allows G d h Q a0 a1) : Cal G d mX4_allows [.ref a0, .ref a1] h Q := cal_of rfl (Nat.le_of_ble_eq_true rfl) (t_X4_allows ht)
def T_X4_allows_7 (G : GG) (d : Nat) (h : HP) (Q : Option Value → HP → Prop) (a0 : Nat) (a1 : Nat) (x2 : Int32) (x3 : Int32) (x4 : Int32) : Prop :=
  Kd G h a0 4 ∧ ∃ q2, hR h a0 2 = some q2 ∧ Kd G h q2 14 ∧ (((Int32.ofNat (hN h q2)) ≤ x4 → ((¬ x3 = 0 → Q (some (.int 1)) h) ∧ (x3 = 0 → ((¬ x2 = 0 → Q (some (.int 0)) h) ∧ (x2 = 0 → Q (some (.int 1)) h))))) ∧ (¬ (Int32.ofNat (hN h q2)) ≤ x4 → vp_in x4 (hN h q2) ∧ ((¬ (hI h q2 x4.toNatClampNeg) = 14 → Ex G d mX4_allows 48 [(0, .ref a0), (1, .ref a1), (2, .int x2), (3, .int x3), (4, .int x4)] [] h Q) ∧ ((hI h q2 x4.toNatClampNeg) = 14 → ∃ q10, hR h a0 4 = some q10 ∧ Kd G h q10 14 ∧ vp_in x4 (hN h q10) ∧ Cal G (d - 1) mX4_run [.ref a0, .int (hI h q10 x4.toNatClampNeg), .ref a1] h (fun r14 h15 => ∃ v17, r14 = some (.long v17) ∧ (((lg_cmp v17 0) = 0 → Ex G d mX4_allows 48 [(0, .ref a0), (1, .ref a1), (2, .int x2), (3, .int x3), (4, .int x4)] [] h15 Q) ∧ (¬ (lg_cmp v17 0) = 0 → Q (some (.int 0)) h15)))))))
set_option maxRecDepth 20000 in
theorem t_X4_allows_7 {G : GG} {d : Nat} {h : HP} {Q : Option Value → HP → Prop} {a0 : Nat} {a1 : Nat} {x2 : Int32} {x3 : Int32} {x4 : Int32} (hd1 : 1 ≤ d) (ht : T_X4_allows_7 G d h Q a0 a1 x2 x3 x4) : Ex G d mX4_allows 7 [(0, .ref a0), (1, .ref a1), (2, .int x2), (3, .int x3), (4, .int x4)] [] h Q := by
  unfold T_X4_allows_7 at ht
  refine x_iload (pc2 := 9) 4 (n := 4) (x := x4) rfl dX4_allows_7 rfl ?_
  refine x_aload_n (pc2 := 10) 0 (n := 0) (x := a0) rfl dX4_allows_9 rfl ?_
  obtain ⟨k1, ht⟩ := ht
  obtain ⟨q2, e3, ht⟩ := ht
  refine y_getR (pc2 := 13) (κ := 4) (k := 2) fl_X4_19 (by decide) (by decide) k1 rfl e3 dX4_allows_10 rfl ?_
  obtain ⟨k4, ht⟩ := ht
  refine x_alen (pc2 := 14) (κ := 14) (by decide) k4 dX4_allows_13 rfl ?_
  refine x_icmp_ge (pc2 := 17) 95 dX4_allows_14 (by decide) rfl (fun c5 => ?_) (fun c5 => ?_)
  · replace ht := ht.1 c5
    refine x_iload_n (pc2 := 96) 3 (n := 3) (x := x3) rfl dX4_allows_95 rfl ?_
    refine y_if_ne (pc2 := 99) 103 dX4_allows_96 (by decide) rfl (fun c6 => ?_) (fun c6 => ?_)
    · replace ht := ht.1 c6
      refine x_iconst (pc2 := 104) (v := 1) (by decide) dX4_allows_103 rfl ?_
      refine x_goto 108 dX4_allows_104 (by decide) ?_
      exact x_retZ rfl (Or.inr rfl) dX4_allows_108 ht
    · replace ht := ht.2 c6
      refine x_iload_n (pc2 := 100) 2 (n := 2) (x := x2) rfl dX4_allows_99 rfl ?_
      refine y_if_ne (pc2 := 103) 107 dX4_allows_100 (by decide) rfl (fun c7 => ?_) (fun c7 => ?_)
      · replace ht := ht.1 c7
        refine x_iconst (pc2 := 108) (v := 0) (by decide) dX4_allows_107 rfl ?_
        exact x_retZ rfl (Or.inl rfl) dX4_allows_108 ht
      · replace ht := ht.2 c7
        refine x_iconst (pc2 := 104) (v := 1) (by decide) dX4_allows_103 rfl ?_
        refine x_goto 108 dX4_allows_104 (by decide) ?_
        exact x_retZ rfl (Or.inr rfl) dX4_allows_108 ht
  · replace ht := ht.2 c5
    refine x_aload_n (pc2 := 18) 0 (n := 0) (x := a0) rfl dX4_allows_17 rfl ?_
    refine y_getR (pc2 := 21) (κ := 4) (k := 2) fl_X4_19 (by decide) (by decide) k1 rfl e3 dX4_allows_18 rfl ?_
    refine x_iload (pc2 := 23) 4 (n := 4) (x := x4) rfl dX4_allows_21 rfl ?_
    obtain ⟨b8, ht⟩ := ht
    refine x_iald (pc2 := 24) k4 b8 dX4_allows_23 rfl ?_
    refine x_bipush (pc2 := 26) (v := 14) (by decide) dX4_allows_24 rfl ?_
    refine y_icmp_ne (pc2 := 29) 48 dX4_allows_26 (by decide) rfl (fun c9 => ?_) (fun c9 => ?_)
    · replace ht := ht.1 c9
      exact ht
    · replace ht := ht.2 c9
      refine x_aload_n (pc2 := 30) 0 (n := 0) (x := a0) rfl dX4_allows_29 rfl ?_
      refine x_aload_n (pc2 := 31) 0 (n := 0) (x := a0) rfl dX4_allows_30 rfl ?_
      obtain ⟨q10, e11, ht⟩ := ht
      refine y_getR (pc2 := 34) (κ := 4) (k := 4) fl_X4_25 (by decide) (by decide) k1 rfl e11 dX4_allows_31 rfl ?_
      refine x_iload (pc2 := 36) 4 (n := 4) (x := x4) rfl dX4_allows_34 rfl ?_
      obtain ⟨k12, ht⟩ := ht
      obtain ⟨b13, ht⟩ := ht
      refine x_iald (pc2 := 37) k12 b13 dX4_allows_36 rfl ?_
      refine x_aload_n (pc2 := 38) 1 (n := 1) (x := a1) rfl dX4_allows_37 rfl ?_
      refine x_callV (pc2 := 41) (As := [.int (hI h q10 x4.toNatClampNeg), .ref a1]) (rest := []) (b := a0) mv_X4_run ml_X4_32 k1 rfl rfl (Nat.le_of_ble_eq_true rfl) hd1 dX4_allows_38 rfl (ht.mono (fun r14 h15 p16 ht' => ?_))
      clear ht
      obtain ⟨v17, rfl, ht⟩ := ht'
      show Ex G d mX4_allows 41 [(0, .ref a0), (1, .ref a1), (2, .int x2), (3, .int x3), (4, .int x4)] [.long v17] h15 Q
      refine x_lconst (pc2 := 42) (v := 0) (by decide) dX4_allows_41 rfl ?_
      refine x_lcmp (pc2 := 43) dX4_allows_42 rfl ?_
      refine x_if_eq (pc2 := 46) 48 dX4_allows_43 (by decide) rfl (fun c18 => ?_) (fun c18 => ?_)
      · replace ht := ht.1 c18
        exact ht
      · replace ht := ht.2 c18
        refine x_iconst (pc2 := 47) (v := 0) (by decide) dX4_allows_46 rfl ?_
        exact x_retZ rfl (Or.inl rfl) dX4_allows_47 ht
def T_X4_allows_48 (G : GG) (d : Nat) (h : HP) (Q : Option Value → HP → Prop) (a0 : Nat) (a1 : Nat) (x2 : Int32) (x3 : Int32) (x4 : Int32) : Prop :=
  Kd G h a0 4 ∧ ∃ q2, hR h a0 2 = some q2 ∧ Kd G h q2 14 ∧ vp_in x4 (hN h q2) ∧ ((¬ (hI h q2 x4.toNatClampNeg) = 13 → Ex G d mX4_allows 7 [(0, .ref a0), (1, .ref a1), (2, .int x2), (3, .int x3), (4, .int (x4 + 1))] [] h Q) ∧ ((hI h q2 x4.toNatClampNeg) = 13 → ((¬ x3 = 0 → Ex G d mX4_allows 7 [(0, .ref a0), (1, .ref a1), (2, .int 1), (3, .int 1), (4, .int (x4 + 1))] [] h Q) ∧ (x3 = 0 → ∃ q8, hR h a0 4 = some q8 ∧ Kd G h q8 14 ∧ vp_in x4 (hN h q8) ∧ Cal G (d - 1) mX4_run [.ref a0, .int (hI h q8 x4.toNatClampNeg), .ref a1] h (fun r12 h13 => ∃ v15, r12 = some (.long v15) ∧ (((lg_cmp v15 0) = 0 → Ex G d mX4_allows 7 [(0, .ref a0), (1, .ref a1), (2, .int 1), (3, .int 0), (4, .int (x4 + 1))] [] h13 Q) ∧ (¬ (lg_cmp v15 0) = 0 → Ex G d mX4_allows 7 [(0, .ref a0), (1, .ref a1), (2, .int 1), (3, .int 1), (4, .int (x4 + 1))] [] h13 Q)))))))
set_option maxRecDepth 20000 in
theorem t_X4_allows_48 {G : GG} {d : Nat} {h : HP} {Q : Option Value → HP → Prop} {a0 : Nat} {a1 : Nat} {x2 : Int32} {x3 : Int32} {x4 : Int32} (hd1 : 1 ≤ d) (ht : T_X4_allows_48 G d h Q a0 a1 x2 x3 x4) : Ex G d mX4_allows 48 [(0, .ref a0), (1, .ref a1), (2, .int x2), (3, .int x3), (4, .int x4)] [] h Q := by
  unfold T_X4_allows_48 at ht
  refine x_aload_n (pc2 := 49) 0 (n := 0) (x := a0) rfl dX4_allows_48 rfl ?_
  obtain ⟨k1, ht⟩ := ht
  obtain ⟨q2, e3, ht⟩ := ht
  refine y_getR (pc2 := 52) (κ := 4) (k := 2) fl_X4_19 (by decide) (by decide) k1 rfl e3 dX4_allows_49 rfl ?_
  refine x_iload (pc2 := 54) 4 (n := 4) (x := x4) rfl dX4_allows_52 rfl ?_
  obtain ⟨k4, ht⟩ := ht
  obtain ⟨b5, ht⟩ := ht
  refine x_iald (pc2 := 55) k4 b5 dX4_allows_54 rfl ?_
  refine x_bipush (pc2 := 57) (v := 13) (by decide) dX4_allows_55 rfl ?_
  refine y_icmp_ne (pc2 := 60) 89 dX4_allows_57 (by decide) rfl (fun c6 => ?_) (fun c6 => ?_)
  · replace ht := ht.1 c6
    refine x_iinc (pc2 := 92) 4 [1, 2, 3, 4, 0] (i := 4) (x := x4) (v := (x4 + 1)) (lv2 := [(0, .ref a0), (1, .ref a1), (2, .int x2), (3, .int x3), (4, .int (x4 + 1))]) rfl (iinc_eq (by decide) _) (by decide) rfl dX4_allows_89 rfl ?_
    refine x_goto 7 dX4_allows_92 (by decide) ?_
    exact ht
  · replace ht := ht.2 c6
    refine x_iconst (pc2 := 61) (v := 1) (by decide) dX4_allows_60 rfl ?_
    refine x_istore_n (pc2 := 62) [1, 2, 0, 3, 4] (n := 2) (x := 1) (lv2 := [(0, .ref a0), (1, .ref a1), (2, .int 1), (3, .int x3), (4, .int x4)]) (by decide) rfl dX4_allows_61 rfl ?_
    refine x_iload_n (pc2 := 63) 3 (n := 3) (x := x3) rfl dX4_allows_62 rfl ?_
    refine y_if_ne (pc2 := 66) 83 dX4_allows_63 (by decide) rfl (fun c7 => ?_) (fun c7 => ?_)
    · replace ht := ht.1 c7
      refine x_iconst (pc2 := 84) (v := 1) (by decide) dX4_allows_83 rfl ?_
      refine x_goto 88 dX4_allows_84 (by decide) ?_
      refine x_istore_n (pc2 := 89) [1, 2, 3, 0, 4] (n := 3) (x := 1) (lv2 := [(0, .ref a0), (1, .ref a1), (2, .int 1), (3, .int 1), (4, .int x4)]) (by decide) rfl dX4_allows_88 rfl ?_
      refine x_iinc (pc2 := 92) 4 [1, 2, 3, 4, 0] (i := 4) (x := x4) (v := (x4 + 1)) (lv2 := [(0, .ref a0), (1, .ref a1), (2, .int 1), (3, .int 1), (4, .int (x4 + 1))]) rfl (iinc_eq (by decide) _) (by decide) rfl dX4_allows_89 rfl ?_
      refine x_goto 7 dX4_allows_92 (by decide) ?_
      exact ht
    · replace ht := ht.2 c7
      refine x_aload_n (pc2 := 67) 0 (n := 0) (x := a0) rfl dX4_allows_66 rfl ?_
      refine x_aload_n (pc2 := 68) 0 (n := 0) (x := a0) rfl dX4_allows_67 rfl ?_
      obtain ⟨q8, e9, ht⟩ := ht
      refine y_getR (pc2 := 71) (κ := 4) (k := 4) fl_X4_25 (by decide) (by decide) k1 rfl e9 dX4_allows_68 rfl ?_
      refine x_iload (pc2 := 73) 4 (n := 4) (x := x4) rfl dX4_allows_71 rfl ?_
      obtain ⟨k10, ht⟩ := ht
      obtain ⟨b11, ht⟩ := ht
      refine x_iald (pc2 := 74) k10 b11 dX4_allows_73 rfl ?_
      refine x_aload_n (pc2 := 75) 1 (n := 1) (x := a1) rfl dX4_allows_74 rfl ?_
      refine x_callV (pc2 := 78) (As := [.int (hI h q8 x4.toNatClampNeg), .ref a1]) (rest := []) (b := a0) mv_X4_run ml_X4_32 k1 rfl rfl (Nat.le_of_ble_eq_true rfl) hd1 dX4_allows_75 rfl (ht.mono (fun r12 h13 p14 ht' => ?_))
      clear ht
      obtain ⟨v15, rfl, ht⟩ := ht'
      show Ex G d mX4_allows 78 [(0, .ref a0), (1, .ref a1), (2, .int 1), (3, .int x3), (4, .int x4)] [.long v15] h13 Q
      refine x_lconst (pc2 := 79) (v := 0) (by decide) dX4_allows_78 rfl ?_
      refine x_lcmp (pc2 := 80) dX4_allows_79 rfl ?_
      refine x_if_eq (pc2 := 83) 87 dX4_allows_80 (by decide) rfl (fun c16 => ?_) (fun c16 => ?_)
      · replace ht := ht.1 c16
        refine x_iconst (pc2 := 88) (v := 0) (by decide) dX4_allows_87 rfl ?_
        refine x_istore_n (pc2 := 89) [1, 2, 3, 0, 4] (n := 3) (x := 0) (lv2 := [(0, .ref a0), (1, .ref a1), (2, .int 1), (3, .int 0), (4, .int x4)]) (by decide) rfl dX4_allows_88 rfl ?_
        refine x_iinc (pc2 := 92) 4 [1, 2, 3, 4, 0] (i := 4) (x := x4) (v := (x4 + 1)) (lv2 := [(0, .ref a0), (1, .ref a1), (2, .int 1), (3, .int 0), (4, .int (x4 + 1))]) rfl (iinc_eq (by decide) _) (by decide) rfl dX4_allows_89 rfl ?_
        refine x_goto 7 dX4_allows_92 (by decide) ?_
        exact ht
      · replace ht := ht.2 c16
        refine x_iconst (pc2 := 84) (v := 1) (by decide) dX4_allows_83 rfl ?_
        refine x_goto 88 dX4_allows_84 (by decide) ?_
        refine x_istore_n (pc2 := 89) [1, 2, 3, 0, 4] (n := 3) (x := 1) (lv2 := [(0, .ref a0), (1, .ref a1), (2, .int 1), (3, .int 1), (4, .int x4)]) (by decide) rfl dX4_allows_88 rfl ?_
        refine x_iinc (pc2 := 92) 4 [1, 2, 3, 4, 0] (i := 4) (x := x4) (v := (x4 + 1)) (lv2 := [(0, .ref a0), (1, .ref a1), (2, .int 1), (3, .int 1), (4, .int (x4 + 1))]) rfl (iinc_eq (by decide) _) (by decide) rfl dX4_allows_89 rfl ?_
        refine x_goto 7 dX4_allows_92 (by decide) ?_
        exact ht
def T_X4_total (G : GG) (d : Nat) (h : HP) (Q : Option Value → HP → Prop) (a0 : Nat) (a1 : Nat) : Prop :=
  Ex G d mX4_total 5 [(0, .ref a0), (1, .ref a1), (2, .long 0), (4, .int 0)] [] h Q
set_option maxRecDepth 20000 in
theorem t_X4_total {G : GG} {d : Nat} {h : HP} {Q : Option Value → HP → Prop} {a0 : Nat} {a1 : Nat} (ht : T_X4_total G d h Q a0 a1) : Ex G d mX4_total 0 [(0, .ref a0), (1, .ref a1)] [] h Q := by
  unfold T_X4_total at ht
  refine x_lconst (pc2 := 1) (v := 0) (by decide) dX4_total_0 rfl ?_
  refine x_lstore_n (pc2 := 2) [1, 2, 0] (n := 2) (x := 0) (lv2 := [(0, .ref a0), (1, .ref a1), (2, .long 0)]) (by decide) rfl dX4_total_1 rfl ?_
  refine x_iconst (pc2 := 3) (v := 0) (by decide) dX4_total_2 rfl ?_
  refine x_istore (pc2 := 5) [1, 2, 3, 0] (n := 4) (x := 0) (lv2 := [(0, .ref a0), (1, .ref a1), (2, .long 0), (4, .int 0)]) (by decide) rfl dX4_total_3 rfl ?_
  exact ht
theorem e_X4_total {G : GG} {d : Nat} {h : HP} {Q : Option Value → HP → Prop} {a0 : Nat} {a1 : Nat} (ht : T_X4_total G d h Q a0 a1) : Cal G d mX4_total [.ref a0, .ref a1] h Q := cal_of rfl (Nat.le_of_ble_eq_true rfl) (t_X4_total ht)
def T_X4_total_5 (G : GG) (d : Nat) (h : HP) (Q : Option Value → HP → Prop) (a0 : Nat) (a1 : Nat) (y2 : Int64) (x4 : Int32) : Prop :=
  Kd G h a0 4 ∧ ∃ q2, hR h a0 2 = some q2 ∧ Kd G h q2 14 ∧ (((Int32.ofNat (hN h q2)) ≤ x4 → Q (some (.long y2)) h) ∧ (¬ (Int32.ofNat (hN h q2)) ≤ x4 → vp_in x4 (hN h q2) ∧ ((¬ (hI h q2 x4.toNatClampNeg) = 16 → Ex G d mX4_total 5 [(0, .ref a0), (1, .ref a1), (2, .long y2), (4, .int (x4 + 1))] [] h Q) ∧ ((hI h q2 x4.toNatClampNeg) = 16 → ∃ q8, hR h a0 4 = some q8 ∧ Kd G h q8 14 ∧ vp_in x4 (hN h q8) ∧ (((hI h q8 x4.toNatClampNeg) = (-1) → Ex G d mX4_total 55 [(0, .ref a0), (1, .ref a1), (2, .long y2), (4, .int x4)] [] h Q) ∧ (¬ (hI h q8 x4.toNatClampNeg) = (-1) → vp_in x4 (hN h q8) ∧ Cal G (d - 1) mX4_run [.ref a0, .int (hI h q8 x4.toNatClampNeg), .ref a1] h (fun r14 h15 => ∃ v17, r14 = some (.long v17) ∧ (((lg_cmp v17 0) = 0 → Ex G d mX4_total 5 [(0, .ref a0), (1, .ref a1), (2, .long y2), (4, .int (x4 + 1))] [] h15 Q) ∧ (¬ (lg_cmp v17 0) = 0 → Ex G d mX4_total 55 [(0, .ref a0), (1, .ref a1), (2, .long y2), (4, .int x4)] [] h15 Q)))))))))
set_option maxRecDepth 20000 in
theorem t_X4_total_5 {G : GG} {d : Nat} {h : HP} {Q : Option Value → HP → Prop} {a0 : Nat} {a1 : Nat} {y2 : Int64} {x4 : Int32} (hd1 : 1 ≤ d) (ht : T_X4_total_5 G d h Q a0 a1 y2 x4) : Ex G d mX4_total 5 [(0, .ref a0), (1, .ref a1), (2, .long y2), (4, .int x4)] [] h Q := by
  unfold T_X4_total_5 at ht
  refine x_iload (pc2 := 7) 3 (n := 4) (x := x4) rfl dX4_total_5 rfl ?_
  refine x_aload_n (pc2 := 8) 0 (n := 0) (x := a0) rfl dX4_total_7 rfl ?_
  obtain ⟨k1, ht⟩ := ht
  obtain ⟨q2, e3, ht⟩ := ht
  refine y_getR (pc2 := 11) (κ := 4) (k := 2) fl_X4_19 (by decide) (by decide) k1 rfl e3 dX4_total_8 rfl ?_
  obtain ⟨k4, ht⟩ := ht
  refine x_alen (pc2 := 12) (κ := 14) (by decide) k4 dX4_total_11 rfl ?_
  refine x_icmp_ge (pc2 := 15) 76 dX4_total_12 (by decide) rfl (fun c5 => ?_) (fun c5 => ?_)
  · replace ht := ht.1 c5
    refine x_lload_n (pc2 := 77) 2 (n := 2) (x := y2) rfl dX4_total_76 rfl ?_
    exact x_retL rfl dX4_total_77 ht
  · replace ht := ht.2 c5
    refine x_aload_n (pc2 := 16) 0 (n := 0) (x := a0) rfl dX4_total_15 rfl ?_
    refine y_getR (pc2 := 19) (κ := 4) (k := 2) fl_X4_19 (by decide) (by decide) k1 rfl e3 dX4_total_16 rfl ?_
    refine x_iload (pc2 := 21) 3 (n := 4) (x := x4) rfl dX4_total_19 rfl ?_
    obtain ⟨b6, ht⟩ := ht
    refine x_iald (pc2 := 22) k4 b6 dX4_total_21 rfl ?_
    refine x_bipush (pc2 := 24) (v := 16) (by decide) dX4_total_22 rfl ?_
    refine y_icmp_ne (pc2 := 27) 70 dX4_total_24 (by decide) rfl (fun c7 => ?_) (fun c7 => ?_)
    · replace ht := ht.1 c7
      refine x_iinc (pc2 := 73) 3 [1, 2, 3, 0] (i := 4) (x := x4) (v := (x4 + 1)) (lv2 := [(0, .ref a0), (1, .ref a1), (2, .long y2), (4, .int (x4 + 1))]) rfl (iinc_eq (by decide) _) (by decide) rfl dX4_total_70 rfl ?_
      refine x_goto 5 dX4_total_73 (by decide) ?_
      exact ht
    · replace ht := ht.2 c7
      refine x_aload_n (pc2 := 28) 0 (n := 0) (x := a0) rfl dX4_total_27 rfl ?_
      obtain ⟨q8, e9, ht⟩ := ht
      refine y_getR (pc2 := 31) (κ := 4) (k := 4) fl_X4_25 (by decide) (by decide) k1 rfl e9 dX4_total_28 rfl ?_
      refine x_iload (pc2 := 33) 3 (n := 4) (x := x4) rfl dX4_total_31 rfl ?_
      obtain ⟨k10, ht⟩ := ht
      obtain ⟨b11, ht⟩ := ht
      refine x_iald (pc2 := 34) k10 b11 dX4_total_33 rfl ?_
      refine x_iconst (pc2 := 35) (v := (-1)) (by decide) dX4_total_34 rfl ?_
      refine x_icmp_eq (pc2 := 38) 55 dX4_total_35 (by decide) rfl (fun c12 => ?_) (fun c12 => ?_)
      · replace ht := ht.1 c12
        exact ht
      · replace ht := ht.2 c12
        refine x_aload_n (pc2 := 39) 0 (n := 0) (x := a0) rfl dX4_total_38 rfl ?_
        refine x_aload_n (pc2 := 40) 0 (n := 0) (x := a0) rfl dX4_total_39 rfl ?_
        refine y_getR (pc2 := 43) (κ := 4) (k := 4) fl_X4_25 (by decide) (by decide) k1 rfl e9 dX4_total_40 rfl ?_
        refine x_iload (pc2 := 45) 3 (n := 4) (x := x4) rfl dX4_total_43 rfl ?_
        obtain ⟨b13, ht⟩ := ht
        refine x_iald (pc2 := 46) k10 b13 dX4_total_45 rfl ?_
        refine x_aload_n (pc2 := 47) 1 (n := 1) (x := a1) rfl dX4_total_46 rfl ?_
        refine x_callV (pc2 := 50) (As := [.int (hI h q8 x4.toNatClampNeg), .ref a1]) (rest := []) (b := a0) mv_X4_run ml_X4_32 k1 rfl rfl (Nat.le_of_ble_eq_true rfl) hd1 dX4_total_47 rfl (ht.mono (fun r14 h15 p16 ht' => ?_))
        clear ht
        obtain ⟨v17, rfl, ht⟩ := ht'
        show Ex G d mX4_total 50 [(0, .ref a0), (1, .ref a1), (2, .long y2), (4, .int x4)] [.long v17] h15 Q
        refine x_lconst (pc2 := 51) (v := 0) (by decide) dX4_total_50 rfl ?_
        refine x_lcmp (pc2 := 52) dX4_total_51 rfl ?_
        refine x_if_eq (pc2 := 55) 70 dX4_total_52 (by decide) rfl (fun c18 => ?_) (fun c18 => ?_)
        · replace ht := ht.1 c18
          refine x_iinc (pc2 := 73) 3 [1, 2, 3, 0] (i := 4) (x := x4) (v := (x4 + 1)) (lv2 := [(0, .ref a0), (1, .ref a1), (2, .long y2), (4, .int (x4 + 1))]) rfl (iinc_eq (by decide) _) (by decide) rfl dX4_total_70 rfl ?_
          refine x_goto 5 dX4_total_73 (by decide) ?_
          exact ht
        · replace ht := ht.2 c18
          exact ht
def T_X4_total_55 (G : GG) (d : Nat) (h : HP) (Q : Option Value → HP → Prop) (a0 : Nat) (a1 : Nat) (y2 : Int64) (x4 : Int32) : Prop :=
  Kd G h a0 4 ∧ ∃ q2, hR h a0 3 = some q2 ∧ Kd G h q2 14 ∧ vp_in x4 (hN h q2) ∧ Cal G (d - 1) mX4_run [.ref a0, .int (hI h q2 x4.toNatClampNeg), .ref a1] h (fun r6 h7 => ∃ v9, r6 = some (.long v9) ∧ Ex G d mX4_total 5 [(0, .ref a0), (1, .ref a1), (2, .long (y2 + v9)), (4, .int (x4 + 1))] [] h7 Q)
set_option maxRecDepth 20000 in
theorem t_X4_total_55 {G : GG} {d : Nat} {h : HP} {Q : Option Value → HP → Prop} {a0 : Nat} {a1 : Nat} {y2 : Int64} {x4 : Int32} (hd1 : 1 ≤ d) (ht : T_X4_total_55 G d h Q a0 a1 y2 x4) : Ex G d mX4_total 55 [(0, .ref a0), (1, .ref a1), (2, .long y2), (4, .int x4)] [] h Q := by
  unfold T_X4_total_55 at ht
  refine x_lload_n (pc2 := 56) 2 (n := 2) (x := y2) rfl dX4_total_55 rfl ?_
  refine x_aload_n (pc2 := 57) 0 (n := 0) (x := a0) rfl dX4_total_56 rfl ?_
  refine x_aload_n (pc2 := 58) 0 (n := 0) (x := a0) rfl dX4_total_57 rfl ?_
  obtain ⟨k1, ht⟩ := ht
  obtain ⟨q2, e3, ht⟩ := ht
  refine y_getR (pc2 := 61) (κ := 4) (k := 3) fl_X4_22 (by decide) (by decide) k1 rfl e3 dX4_total_58 rfl ?_
  refine x_iload (pc2 := 63) 3 (n := 4) (x := x4) rfl dX4_total_61 rfl ?_
  obtain ⟨k4, ht⟩ := ht
  obtain ⟨b5, ht⟩ := ht
  refine x_iald (pc2 := 64) k4 b5 dX4_total_63 rfl ?_
  refine x_aload_n (pc2 := 65) 1 (n := 1) (x := a1) rfl dX4_total_64 rfl ?_
  refine x_callV (pc2 := 68) (As := [.int (hI h q2 x4.toNatClampNeg), .ref a1]) (rest := [.long y2]) (b := a0) mv_X4_run ml_X4_32 k1 rfl rfl (Nat.le_of_ble_eq_true rfl) hd1 dX4_total_65 rfl (ht.mono (fun r6 h7 p8 ht' => ?_))
  clear ht
  obtain ⟨v9, rfl, ht⟩ := ht'
  show Ex G d mX4_total 68 [(0, .ref a0), (1, .ref a1), (2, .long y2), (4, .int x4)] [.long v9, .long y2] h7 Q
  refine x_ladd (pc2 := 69) dX4_total_68 rfl ?_
  refine x_lstore_n (pc2 := 70) [1, 2, 0, 3] (n := 2) (x := (y2 + v9)) (lv2 := [(0, .ref a0), (1, .ref a1), (2, .long (y2 + v9)), (4, .int x4)]) (by decide) rfl dX4_total_69 rfl ?_
  refine x_iinc (pc2 := 73) 3 [1, 2, 3, 0] (i := 4) (x := x4) (v := (x4 + 1)) (lv2 := [(0, .ref a0), (1, .ref a1), (2, .long (y2 + v9)), (4, .int (x4 + 1))]) rfl (iinc_eq (by decide) _) (by decide) rfl dX4_total_70 rfl ?_
  refine x_goto 5 dX4_total_73 (by decide) ?_
  exact ht
def T_X4_run (G : GG) (d : Nat) (h : HP) (Q : Option Value → HP → Prop) (a0 : Nat) (x1 : Int32) (a2 : Nat) : Prop :=
  Ex G d mX4_run 9 [(0, .ref a0), (1, .int x1), (2, .ref a2), (3, .int 0), (4, .int (mxI 0 x1))] [] h Q
set_option maxRecDepth 20000 in
theorem t_X4_run {G : GG} {d : Nat} {h : HP} {Q : Option Value → HP → Prop} {a0 : Nat} {x1 : Int32} {a2 : Nat} (hd1 : 1 ≤ d) (ht : T_X4_run G d h Q a0 x1 a2) : Ex G d mX4_run 0 [(0, .ref a0), (1, .int x1), (2, .ref a2)] [] h Q := by
  unfold T_X4_run at ht
  refine x_iconst (pc2 := 1) (v := 0) (by decide) dX4_run_0 rfl ?_
  refine x_istore_n (pc2 := 2) [1, 2, 3, 0] (n := 3) (x := 0) (lv2 := [(0, .ref a0), (1, .int x1), (2, .ref a2), (3, .int 0)]) (by decide) rfl dX4_run_1 rfl ?_
  refine x_iconst (pc2 := 3) (v := 0) (by decide) dX4_run_2 rfl ?_
  refine x_iload_n (pc2 := 4) 1 (n := 1) (x := x1) rfl dX4_run_3 rfl ?_
  refine x_mmax (pc2 := 7) ml_X4_47 hd1 (Nat.le_of_ble_eq_true rfl) dX4_run_4 rfl ?_
  refine x_istore (pc2 := 9) [1, 2, 3, 4, 0] (n := 4) (x := (mxI 0 x1)) (lv2 := [(0, .ref a0), (1, .int x1), (2, .ref a2), (3, .int 0), (4, .int (mxI 0 x1))]) (by decide) rfl dX4_run_7 rfl ?_
  exact ht
theorem e_X4_run {G : GG} {d : Nat} {h : HP} {Q : Option Value → HP → Prop} {a0 : Nat} {x1 : Int32} {a2 : Nat} (hd1 : 1 ≤ d) (ht : T_X4_run G d h Q a0 x1 a2) : Cal G d mX4_run [.ref a0, .int x1, .ref a2] h Q := cal_of rfl (Nat.le_of_ble_eq_true rfl) (t_X4_run hd1 ht)
def T_X4_run_9 (G : GG) (d : Nat) (h : HP) (Q : Option Value → HP → Prop) (a0 : Nat) (x1 : Int32) (a2 : Nat) (x3 : Int32) (x4 : Int32) : Prop :=
  Kd G h a0 4 ∧ ∃ q2, hR h a0 1 = some q2 ∧ Kd G h q2 14 ∧ (((Int32.ofNat (hN h q2)) ≤ x4 → Ex G d mX4_run 163 [(0, .ref a0), (1, .int x1), (2, .ref a2), (3, .int x3), (4, .int x4)] [] h Q) ∧ (¬ (Int32.ofNat (hN h q2)) ≤ x4 → vp_in x4 (hN h q2) ∧ (((hI h q2 x4.toNatClampNeg) = (-1) → Ex G d mX4_run 163 [(0, .ref a0), (1, .int x1), (2, .ref a2), (3, .int x3), (4, .int x4)] [] h Q) ∧ (¬ (hI h q2 x4.toNatClampNeg) = (-1) → vp_in x4 (hN h q2) ∧ ((0 ≤ (hI h q2 x4.toNatClampNeg) → Ex G d mX4_run 51 [(0, .ref a0), (1, .int x1), (2, .ref a2), (3, .int x3), (4, .int x4), (5, .int (hI h q2 x4.toNatClampNeg))] [] h Q) ∧ (¬ 0 ≤ (hI h q2 x4.toNatClampNeg) → (((-20) < (hI h q2 x4.toNatClampNeg) → ((¬ (hI h q2 x4.toNatClampNeg) = (-13) → ((x3 ≤ 1 → Ex G d mX4_run 9 [(0, .ref a0), (1, .int x1), (2, .ref a2), (3, .int x3), (4, .int (x4 + 1))] [] h Q) ∧ (¬ x3 ≤ 1 → ∃ q13, hR h a0 5 = some q13 ∧ Kd G h q13 15 ∧ vp_in ((x3 + (-1)) - 1) (hN h q13) ∧ vp_in (x3 + (-1)) (hN h q13) ∧ Cal G (d - 1) mX4_apply [.int (hI h q2 x4.toNatClampNeg), .long (hL h q13 ((x3 + (-1)) - 1).toNatClampNeg), .long (hL h q13 (x3 + (-1)).toNatClampNeg)] h (fun r18 h19 => ∃ v21, r18 = some (.long v21) ∧ vp_in ((x3 + (-1)) - 1) (hN h19 q13) ∧ Ex G d mX4_run 9 [(0, .ref a0), (1, .int x1), (2, .ref a2), (3, .int (x3 + (-1))), (4, .int (x4 + 1))] [] (sL h19 q13 ((x3 + (-1)) - 1).toNatClampNeg v21) Q)))) ∧ ((hI h q2 x4.toNatClampNeg) = (-13) → ((x3 ≤ 0 → Ex G d mX4_run 9 [(0, .ref a0), (1, .int x1), (2, .ref a2), (3, .int x3), (4, .int (x4 + 1))] [] h Q) ∧ (¬ x3 ≤ 0 → ∃ q24, hR h a0 5 = some q24 ∧ Kd G h q24 15 ∧ vp_in (x3 - 1) (hN h q24) ∧ vp_in (x3 - 1) (hN h q24) ∧ Ex G d mX4_run 9 [(0, .ref a0), (1, .int x1), (2, .ref a2), (3, .int x3), (4, .int (x4 + 1))] [] (sL h q24 (x3 - 1).toNatClampNeg (1 - (hL h q24 (x3 - 1).toNatClampNeg))) Q))))) ∧ (¬ (-20) < (hI h q2 x4.toNatClampNeg) → Ex G d mX4_run 51 [(0, .ref a0), (1, .int x1), (2, .ref a2), (3, .int x3), (4, .int x4), (5, .int (hI h q2 x4.toNatClampNeg))] [] h Q))))))))
set_option maxRecDepth 20000 in
theorem t_X4_run_9 {G : GG} {d : Nat} {h : HP} {Q : Option Value → HP → Prop} {a0 : Nat} {x1 : Int32} {a2 : Nat} {x3 : Int32} {x4 : Int32} (hd1 : 1 ≤ d) (ht : T_X4_run_9 G d h Q a0 x1 a2 x3 x4) : Ex G d mX4_run 9 [(0, .ref a0), (1, .int x1), (2, .ref a2), (3, .int x3), (4, .int x4)] [] h Q := by
  unfold T_X4_run_9 at ht
  refine x_iload (pc2 := 11) 4 (n := 4) (x := x4) rfl dX4_run_9 rfl ?_
  refine x_aload_n (pc2 := 12) 0 (n := 0) (x := a0) rfl dX4_run_11 rfl ?_
  obtain ⟨k1, ht⟩ := ht
  obtain ⟨q2, e3, ht⟩ := ht
  refine y_getR (pc2 := 15) (κ := 4) (k := 1) fl_X4_15 (by decide) (by decide) k1 rfl e3 dX4_run_12 rfl ?_
  obtain ⟨k4, ht⟩ := ht
  refine x_alen (pc2 := 16) (κ := 14) (by decide) k4 dX4_run_15 rfl ?_
  refine x_icmp_ge (pc2 := 19) 163 dX4_run_16 (by decide) rfl (fun c5 => ?_) (fun c5 => ?_)
  · replace ht := ht.1 c5
    exact ht
  · replace ht := ht.2 c5
    refine x_aload_n (pc2 := 20) 0 (n := 0) (x := a0) rfl dX4_run_19 rfl ?_
    refine y_getR (pc2 := 23) (κ := 4) (k := 1) fl_X4_15 (by decide) (by decide) k1 rfl e3 dX4_run_20 rfl ?_
    refine x_iload (pc2 := 25) 4 (n := 4) (x := x4) rfl dX4_run_23 rfl ?_
    obtain ⟨b6, ht⟩ := ht
    refine x_iald (pc2 := 26) k4 b6 dX4_run_25 rfl ?_
    refine x_iconst (pc2 := 27) (v := (-1)) (by decide) dX4_run_26 rfl ?_
    refine x_icmp_eq (pc2 := 30) 163 dX4_run_27 (by decide) rfl (fun c7 => ?_) (fun c7 => ?_)
    · replace ht := ht.1 c7
      exact ht
    · replace ht := ht.2 c7
      refine x_aload_n (pc2 := 31) 0 (n := 0) (x := a0) rfl dX4_run_30 rfl ?_
      refine y_getR (pc2 := 34) (κ := 4) (k := 1) fl_X4_15 (by decide) (by decide) k1 rfl e3 dX4_run_31 rfl ?_
      refine x_iload (pc2 := 36) 4 (n := 4) (x := x4) rfl dX4_run_34 rfl ?_
      obtain ⟨b8, ht⟩ := ht
      refine x_iald (pc2 := 37) k4 b8 dX4_run_36 rfl ?_
      refine x_istore (pc2 := 39) [1, 2, 3, 4, 5, 0] (n := 5) (x := (hI h q2 x4.toNatClampNeg)) (lv2 := [(0, .ref a0), (1, .int x1), (2, .ref a2), (3, .int x3), (4, .int x4), (5, .int (hI h q2 x4.toNatClampNeg))]) (by decide) rfl dX4_run_37 rfl ?_
      refine x_iload (pc2 := 41) 5 (n := 5) (x := (hI h q2 x4.toNatClampNeg)) rfl dX4_run_39 rfl ?_
      refine x_if_ge (pc2 := 44) 51 dX4_run_41 (by decide) rfl (fun c9 => ?_) (fun c9 => ?_)
      · replace ht := ht.1 c9
        exact ht
      · replace ht := ht.2 c9
        refine x_iload (pc2 := 46) 5 (n := 5) (x := (hI h q2 x4.toNatClampNeg)) rfl dX4_run_44 rfl ?_
        refine x_bipush (pc2 := 48) (v := (-20)) (by decide) dX4_run_46 rfl ?_
        refine x_icmp_gt (pc2 := 51) 90 dX4_run_48 (by decide) rfl (fun c10 => ?_) (fun c10 => ?_)
        · replace ht := ht.1 c10
          refine x_iload (pc2 := 92) 5 (n := 5) (x := (hI h q2 x4.toNatClampNeg)) rfl dX4_run_90 rfl ?_
          refine x_bipush (pc2 := 94) (v := (-13)) (by decide) dX4_run_92 rfl ?_
          refine y_icmp_ne (pc2 := 97) 122 dX4_run_94 (by decide) rfl (fun c11 => ?_) (fun c11 => ?_)
          · replace ht := ht.1 c11
            refine x_iload_n (pc2 := 123) 3 (n := 3) (x := x3) rfl dX4_run_122 rfl ?_
            refine x_iconst (pc2 := 124) (v := 1) (by decide) dX4_run_123 rfl ?_
            refine x_icmp_le (pc2 := 127) 157 dX4_run_124 (by decide) rfl (fun c12 => ?_) (fun c12 => ?_)
            · replace ht := ht.1 c12
              refine x_iinc (pc2 := 160) 4 [1, 2, 3, 4, 0, 5] (i := 4) (x := x4) (v := (x4 + 1)) (lv2 := [(0, .ref a0), (1, .int x1), (2, .ref a2), (3, .int x3), (4, .int (x4 + 1)), (5, .int (hI h q2 x4.toNatClampNeg))]) rfl (iinc_eq (by decide) _) (by decide) rfl dX4_run_157 rfl ?_
              refine x_goto 9 dX4_run_160 (by decide) ?_
              refine x_sub [0, 1, 2, 3, 4] (lv2 := [(0, .ref a0), (1, .int x1), (2, .ref a2), (3, .int x3), (4, .int (x4 + 1))]) rfl ?_
              exact ht
            · replace ht := ht.2 c12
              refine x_iinc (pc2 := 130) 3 [1, 2, 3, 0, 4, 5] (i := 3) (x := x3) (v := (x3 + (-1))) (lv2 := [(0, .ref a0), (1, .int x1), (2, .ref a2), (3, .int (x3 + (-1))), (4, .int x4), (5, .int (hI h q2 x4.toNatClampNeg))]) rfl (iinc_eq (by decide) _) (by decide) rfl dX4_run_127 rfl ?_
              refine x_aload_n (pc2 := 131) 0 (n := 0) (x := a0) rfl dX4_run_130 rfl ?_
              obtain ⟨q13, e14, ht⟩ := ht
              refine y_getR (pc2 := 134) (κ := 4) (k := 5) fl_X4_9 (by decide) (by decide) k1 rfl e14 dX4_run_131 rfl ?_
              refine x_iload_n (pc2 := 135) 3 (n := 3) (x := (x3 + (-1))) rfl dX4_run_134 rfl ?_
              refine x_iconst (pc2 := 136) (v := 1) (by decide) dX4_run_135 rfl ?_
              refine x_isub (pc2 := 137) dX4_run_136 rfl ?_
              refine x_iload (pc2 := 139) 5 (n := 5) (x := (hI h q2 x4.toNatClampNeg)) rfl dX4_run_137 rfl ?_
              refine x_aload_n (pc2 := 140) 0 (n := 0) (x := a0) rfl dX4_run_139 rfl ?_
              refine y_getR (pc2 := 143) (κ := 4) (k := 5) fl_X4_9 (by decide) (by decide) k1 rfl e14 dX4_run_140 rfl ?_
              refine x_iload_n (pc2 := 144) 3 (n := 3) (x := (x3 + (-1))) rfl dX4_run_143 rfl ?_
              refine x_iconst (pc2 := 145) (v := 1) (by decide) dX4_run_144 rfl ?_
              refine x_isub (pc2 := 146) dX4_run_145 rfl ?_
              obtain ⟨k15, ht⟩ := ht
              obtain ⟨b16, ht⟩ := ht
              refine x_lald (pc2 := 147) k15 b16 dX4_run_146 rfl ?_
              refine x_aload_n (pc2 := 148) 0 (n := 0) (x := a0) rfl dX4_run_147 rfl ?_
              refine y_getR (pc2 := 151) (κ := 4) (k := 5) fl_X4_9 (by decide) (by decide) k1 rfl e14 dX4_run_148 rfl ?_
              refine x_iload_n (pc2 := 152) 3 (n := 3) (x := (x3 + (-1))) rfl dX4_run_151 rfl ?_
              obtain ⟨b17, ht⟩ := ht
              refine x_lald (pc2 := 153) k15 b17 dX4_run_152 rfl ?_
              refine x_callS (pc2 := 156) (As := [.int (hI h q2 x4.toNatClampNeg), .long (hL h q13 ((x3 + (-1)) - 1).toNatClampNeg), .long (hL h q13 (x3 + (-1)).toNatClampNeg)]) (rest := [.int ((x3 + (-1)) - 1), .ref q13]) ms_X4_apply ml_X4_50 rfl rfl (Nat.le_of_ble_eq_true rfl) hd1 dX4_run_153 rfl (ht.mono (fun r18 h19 p20 ht' => ?_))
              clear ht
              obtain ⟨v21, rfl, ht⟩ := ht'
              show Ex G d mX4_run 156 [(0, .ref a0), (1, .int x1), (2, .ref a2), (3, .int (x3 + (-1))), (4, .int x4), (5, .int (hI h q2 x4.toNatClampNeg))] [.long v21, .int ((x3 + (-1)) - 1), .ref q13] h19 Q
              obtain ⟨b22, ht⟩ := ht
              refine x_last (pc2 := 157) (k15.up p20) b22 dX4_run_156 rfl ?_
              refine x_iinc (pc2 := 160) 4 [1, 2, 3, 4, 0, 5] (i := 4) (x := x4) (v := (x4 + 1)) (lv2 := [(0, .ref a0), (1, .int x1), (2, .ref a2), (3, .int (x3 + (-1))), (4, .int (x4 + 1)), (5, .int (hI h q2 x4.toNatClampNeg))]) rfl (iinc_eq (by decide) _) (by decide) rfl dX4_run_157 rfl ?_
              refine x_goto 9 dX4_run_160 (by decide) ?_
              refine x_sub [0, 1, 2, 3, 4] (lv2 := [(0, .ref a0), (1, .int x1), (2, .ref a2), (3, .int (x3 + (-1))), (4, .int (x4 + 1))]) rfl ?_
              exact ht
          · replace ht := ht.2 c11
            refine x_iload_n (pc2 := 98) 3 (n := 3) (x := x3) rfl dX4_run_97 rfl ?_
            refine x_if_le (pc2 := 101) 157 dX4_run_98 (by decide) rfl (fun c23 => ?_) (fun c23 => ?_)
            · replace ht := ht.1 c23
              refine x_iinc (pc2 := 160) 4 [1, 2, 3, 4, 0, 5] (i := 4) (x := x4) (v := (x4 + 1)) (lv2 := [(0, .ref a0), (1, .int x1), (2, .ref a2), (3, .int x3), (4, .int (x4 + 1)), (5, .int (hI h q2 x4.toNatClampNeg))]) rfl (iinc_eq (by decide) _) (by decide) rfl dX4_run_157 rfl ?_
              refine x_goto 9 dX4_run_160 (by decide) ?_
              refine x_sub [0, 1, 2, 3, 4] (lv2 := [(0, .ref a0), (1, .int x1), (2, .ref a2), (3, .int x3), (4, .int (x4 + 1))]) rfl ?_
              exact ht
            · replace ht := ht.2 c23
              refine x_aload_n (pc2 := 102) 0 (n := 0) (x := a0) rfl dX4_run_101 rfl ?_
              obtain ⟨q24, e25, ht⟩ := ht
              refine y_getR (pc2 := 105) (κ := 4) (k := 5) fl_X4_9 (by decide) (by decide) k1 rfl e25 dX4_run_102 rfl ?_
              refine x_iload_n (pc2 := 106) 3 (n := 3) (x := x3) rfl dX4_run_105 rfl ?_
              refine x_iconst (pc2 := 107) (v := 1) (by decide) dX4_run_106 rfl ?_
              refine x_isub (pc2 := 108) dX4_run_107 rfl ?_
              refine x_lconst (pc2 := 109) (v := 1) (by decide) dX4_run_108 rfl ?_
              refine x_aload_n (pc2 := 110) 0 (n := 0) (x := a0) rfl dX4_run_109 rfl ?_
              refine y_getR (pc2 := 113) (κ := 4) (k := 5) fl_X4_9 (by decide) (by decide) k1 rfl e25 dX4_run_110 rfl ?_
              refine x_iload_n (pc2 := 114) 3 (n := 3) (x := x3) rfl dX4_run_113 rfl ?_
              refine x_iconst (pc2 := 115) (v := 1) (by decide) dX4_run_114 rfl ?_
              refine x_isub (pc2 := 116) dX4_run_115 rfl ?_
              obtain ⟨k26, ht⟩ := ht
              obtain ⟨b27, ht⟩ := ht
              refine x_lald (pc2 := 117) k26 b27 dX4_run_116 rfl ?_
              refine x_lsub (pc2 := 118) dX4_run_117 rfl ?_
              obtain ⟨b28, ht⟩ := ht
              refine x_last (pc2 := 119) k26 b28 dX4_run_118 rfl ?_
              refine x_goto 157 dX4_run_119 (by decide) ?_
              refine x_iinc (pc2 := 160) 4 [1, 2, 3, 4, 0, 5] (i := 4) (x := x4) (v := (x4 + 1)) (lv2 := [(0, .ref a0), (1, .int x1), (2, .ref a2), (3, .int x3), (4, .int (x4 + 1)), (5, .int (hI h q2 x4.toNatClampNeg))]) rfl (iinc_eq (by decide) _) (by decide) rfl dX4_run_157 rfl ?_
              refine x_goto 9 dX4_run_160 (by decide) ?_
              refine x_sub [0, 1, 2, 3, 4] (lv2 := [(0, .ref a0), (1, .int x1), (2, .ref a2), (3, .int x3), (4, .int (x4 + 1))]) rfl ?_
              exact ht
        · replace ht := ht.2 c10
          exact ht
def T_X4_run_51 (G : GG) (d : Nat) (h : HP) (Q : Option Value → HP → Prop) (a0 : Nat) (x1 : Int32) (a2 : Nat) (x3 : Int32) (x4 : Int32) (x5 : Int32) : Prop :=
  Kd G h a0 4 ∧ ∃ q2, hR h a0 5 = some q2 ∧ Kd G h q2 15 ∧ (((Int32.ofNat (hN h q2)) ≤ x3 → Ex G d mX4_run 9 [(0, .ref a0), (1, .int x1), (2, .ref a2), (3, .int x3), (4, .int (x4 + 1))] [] h Q) ∧ (¬ (Int32.ofNat (hN h q2)) ≤ x3 → ((x5 < 0 → Kd G h a2 15 ∧ vp_in ((-20) - x5) (hN h a2) ∧ vp_in x3 (hN h q2) ∧ Ex G d mX4_run 9 [(0, .ref a0), (1, .int x1), (2, .ref a2), (3, .int (x3 + 1)), (4, .int (x4 + 1))] [] (sL h q2 x3.toNatClampNeg (hL h a2 ((-20) - x5).toNatClampNeg)) Q) ∧ (¬ x5 < 0 → vp_in x3 (hN h q2) ∧ Ex G d mX4_run 9 [(0, .ref a0), (1, .int x1), (2, .ref a2), (3, .int (x3 + 1)), (4, .int (x4 + 1))] [] (sL h q2 x3.toNatClampNeg (x5.toInt64)) Q))))
set_option maxRecDepth 20000 in
theorem t_X4_run_51 {G : GG} {d : Nat} {h : HP} {Q : Option Value → HP → Prop} {a0 : Nat} {x1 : Int32} {a2 : Nat} {x3 : Int32} {x4 : Int32} {x5 : Int32} (ht : T_X4_run_51 G d h Q a0 x1 a2 x3 x4 x5) : Ex G d mX4_run 51 [(0, .ref a0), (1, .int x1), (2, .ref a2), (3, .int x3), (4, .int x4), (5, .int x5)] [] h Q := by
  unfold T_X4_run_51 at ht
  refine x_iload_n (pc2 := 52) 3 (n := 3) (x := x3) rfl dX4_run_51 rfl ?_
  refine x_aload_n (pc2 := 53) 0 (n := 0) (x := a0) rfl dX4_run_52 rfl ?_
  obtain ⟨k1, ht⟩ := ht
  obtain ⟨q2, e3, ht⟩ := ht
  refine y_getR (pc2 := 56) (κ := 4) (k := 5) fl_X4_9 (by decide) (by decide) k1 rfl e3 dX4_run_53 rfl ?_
  obtain ⟨k4, ht⟩ := ht
  refine x_alen (pc2 := 57) (κ := 15) (by decide) k4 dX4_run_56 rfl ?_
  refine x_icmp_ge (pc2 := 60) 157 dX4_run_57 (by decide) rfl (fun c5 => ?_) (fun c5 => ?_)
  · replace ht := ht.1 c5
    refine x_iinc (pc2 := 160) 4 [1, 2, 3, 4, 0, 5] (i := 4) (x := x4) (v := (x4 + 1)) (lv2 := [(0, .ref a0), (1, .int x1), (2, .ref a2), (3, .int x3), (4, .int (x4 + 1)), (5, .int x5)]) rfl (iinc_eq (by decide) _) (by decide) rfl dX4_run_157 rfl ?_
    refine x_goto 9 dX4_run_160 (by decide) ?_
    refine x_sub [0, 1, 2, 3, 4] (lv2 := [(0, .ref a0), (1, .int x1), (2, .ref a2), (3, .int x3), (4, .int (x4 + 1))]) rfl ?_
    exact ht
  · replace ht := ht.2 c5
    refine x_aload_n (pc2 := 61) 0 (n := 0) (x := a0) rfl dX4_run_60 rfl ?_
    refine y_getR (pc2 := 64) (κ := 4) (k := 5) fl_X4_9 (by decide) (by decide) k1 rfl e3 dX4_run_61 rfl ?_
    refine x_iload_n (pc2 := 65) 3 (n := 3) (x := x3) rfl dX4_run_64 rfl ?_
    refine x_iload (pc2 := 67) 5 (n := 5) (x := x5) rfl dX4_run_65 rfl ?_
    refine x_if_lt (pc2 := 70) 76 dX4_run_67 (by decide) rfl (fun c6 => ?_) (fun c6 => ?_)
    · replace ht := ht.1 c6
      refine x_aload_n (pc2 := 77) 2 (n := 2) (x := a2) rfl dX4_run_76 rfl ?_
      refine x_bipush (pc2 := 79) (v := (-20)) (by decide) dX4_run_77 rfl ?_
      refine x_iload (pc2 := 81) 5 (n := 5) (x := x5) rfl dX4_run_79 rfl ?_
      refine x_isub (pc2 := 82) dX4_run_81 rfl ?_
      obtain ⟨k7, ht⟩ := ht
      obtain ⟨b8, ht⟩ := ht
      refine x_lald (pc2 := 83) k7 b8 dX4_run_82 rfl ?_
      obtain ⟨b9, ht⟩ := ht
      refine x_last (pc2 := 84) k4 b9 dX4_run_83 rfl ?_
      refine x_iinc (pc2 := 87) 3 [1, 2, 3, 0, 4, 5] (i := 3) (x := x3) (v := (x3 + 1)) (lv2 := [(0, .ref a0), (1, .int x1), (2, .ref a2), (3, .int (x3 + 1)), (4, .int x4), (5, .int x5)]) rfl (iinc_eq (by decide) _) (by decide) rfl dX4_run_84 rfl ?_
      refine x_goto 157 dX4_run_87 (by decide) ?_
      refine x_iinc (pc2 := 160) 4 [1, 2, 3, 4, 0, 5] (i := 4) (x := x4) (v := (x4 + 1)) (lv2 := [(0, .ref a0), (1, .int x1), (2, .ref a2), (3, .int (x3 + 1)), (4, .int (x4 + 1)), (5, .int x5)]) rfl (iinc_eq (by decide) _) (by decide) rfl dX4_run_157 rfl ?_
      refine x_goto 9 dX4_run_160 (by decide) ?_
      refine x_sub [0, 1, 2, 3, 4] (lv2 := [(0, .ref a0), (1, .int x1), (2, .ref a2), (3, .int (x3 + 1)), (4, .int (x4 + 1))]) rfl ?_
      exact ht
    · replace ht := ht.2 c6
      refine x_iload (pc2 := 72) 5 (n := 5) (x := x5) rfl dX4_run_70 rfl ?_
      refine x_i2l (pc2 := 73) dX4_run_72 rfl ?_
      refine x_goto 83 dX4_run_73 (by decide) ?_
      obtain ⟨b10, ht⟩ := ht
      refine x_last (pc2 := 84) k4 b10 dX4_run_83 rfl ?_
      refine x_iinc (pc2 := 87) 3 [1, 2, 3, 0, 4, 5] (i := 3) (x := x3) (v := (x3 + 1)) (lv2 := [(0, .ref a0), (1, .int x1), (2, .ref a2), (3, .int (x3 + 1)), (4, .int x4), (5, .int x5)]) rfl (iinc_eq (by decide) _) (by decide) rfl dX4_run_84 rfl ?_
      refine x_goto 157 dX4_run_87 (by decide) ?_
      refine x_iinc (pc2 := 160) 4 [1, 2, 3, 4, 0, 5] (i := 4) (x := x4) (v := (x4 + 1)) (lv2 := [(0, .ref a0), (1, .int x1), (2, .ref a2), (3, .int (x3 + 1)), (4, .int (x4 + 1)), (5, .int x5)]) rfl (iinc_eq (by decide) _) (by decide) rfl dX4_run_157 rfl ?_
      refine x_goto 9 dX4_run_160 (by decide) ?_
      refine x_sub [0, 1, 2, 3, 4] (lv2 := [(0, .ref a0), (1, .int x1), (2, .ref a2), (3, .int (x3 + 1)), (4, .int (x4 + 1))]) rfl ?_
      exact ht
def T_X4_run_163 (G : GG) (d : Nat) (h : HP) (Q : Option Value → HP → Prop) (a0 : Nat) (x1 : Int32) (a2 : Nat) (x3 : Int32) (x4 : Int32) : Prop :=
  ((x3 ≤ 0 → Q (some (.long 0)) h) ∧ (¬ x3 ≤ 0 → Kd G h a0 4 ∧ ∃ q3, hR h a0 5 = some q3 ∧ Kd G h q3 15 ∧ vp_in 0 (hN h q3) ∧ Q (some (.long (hL h q3 0))) h))
set_option maxRecDepth 20000 in
theorem t_X4_run_163 {G : GG} {d : Nat} {h : HP} {Q : Option Value → HP → Prop} {a0 : Nat} {x1 : Int32} {a2 : Nat} {x3 : Int32} {x4 : Int32} (ht : T_X4_run_163 G d h Q a0 x1 a2 x3 x4) : Ex G d mX4_run 163 [(0, .ref a0), (1, .int x1), (2, .ref a2), (3, .int x3), (4, .int x4)] [] h Q := by
  unfold T_X4_run_163 at ht
  refine x_iload_n (pc2 := 164) 3 (n := 3) (x := x3) rfl dX4_run_163 rfl ?_
  refine x_if_le (pc2 := 167) 176 dX4_run_164 (by decide) rfl (fun c1 => ?_) (fun c1 => ?_)
  · replace ht := ht.1 c1
    refine x_lconst (pc2 := 177) (v := 0) (by decide) dX4_run_176 rfl ?_
    exact x_retL rfl dX4_run_177 ht
  · replace ht := ht.2 c1
    refine x_aload_n (pc2 := 168) 0 (n := 0) (x := a0) rfl dX4_run_167 rfl ?_
    obtain ⟨k2, ht⟩ := ht
    obtain ⟨q3, e4, ht⟩ := ht
    refine y_getR (pc2 := 171) (κ := 4) (k := 5) fl_X4_9 (by decide) (by decide) k2 rfl e4 dX4_run_168 rfl ?_
    refine x_iconst (pc2 := 172) (v := 0) (by decide) dX4_run_171 rfl ?_
    obtain ⟨k5, ht⟩ := ht
    obtain ⟨b6, ht⟩ := ht
    refine z_lald (pc2 := 173) (k := 0) (by decide) k5 b6 dX4_run_172 rfl ?_
    refine x_goto 177 dX4_run_173 (by decide) ?_
    exact x_retL rfl dX4_run_177 ht
def T_X4_apply (G : GG) (d : Nat) (h : HP) (Q : Option Value → HP → Prop) (x0 : Int32) (y1 : Int64) (y3 : Int64) : Prop :=
  ((x0 = (-11) → Q (some (.long (y1 &&& y3))) h) ∧ (¬ x0 = (-11) → ((x0 = (-10) → (((lg_cmp y1 y3) ≤ 0 → Q (some (.long 0)) h) ∧ (¬ (lg_cmp y1 y3) ≤ 0 → Q (some (.long 1)) h))) ∧ (¬ x0 = (-10) → ((x0 = (-9) → (((lg_cmp y1 y3) < 0 → Q (some (.long 0)) h) ∧ (¬ (lg_cmp y1 y3) < 0 → Q (some (.long 1)) h))) ∧ (¬ x0 = (-9) → ((x0 = (-8) → ((¬ (lg_cmp y1 y3) = 0 → Q (some (.long 0)) h) ∧ ((lg_cmp y1 y3) = 0 → Q (some (.long 1)) h))) ∧ (¬ x0 = (-8) → ((x0 = (-7) → ((0 < (lg_cmp y1 y3) → Q (some (.long 0)) h) ∧ (¬ 0 < (lg_cmp y1 y3) → Q (some (.long 1)) h))) ∧ (¬ x0 = (-7) → ((x0 = (-6) → ((0 ≤ (lg_cmp y1 y3) → Q (some (.long 0)) h) ∧ (¬ 0 ≤ (lg_cmp y1 y3) → Q (some (.long 1)) h))) ∧ (¬ x0 = (-6) → ((x0 = (-5) → ((¬ (lg_cmp y3 0) = 0 → ¬ y3 = 0 ∧ Q (some (.long (y1 / y3))) h) ∧ ((lg_cmp y3 0) = 0 → Q (some (.long 0)) h))) ∧ (¬ x0 = (-5) → ((x0 = (-4) → Q (some (.long (y1 * y3))) h) ∧ (¬ x0 = (-4) → ((x0 = (-3) → Q (some (.long (y1 - y3))) h) ∧ (¬ x0 = (-3) → ((x0 = (-2) → Q (some (.long (y1 + y3))) h) ∧ (¬ x0 = (-2) → Q (some (.long (y1 ||| y3))) h))))))))))))))))))))
set_option maxRecDepth 20000 in
theorem t_X4_apply {G : GG} {d : Nat} {h : HP} {Q : Option Value → HP → Prop} {x0 : Int32} {y1 : Int64} {y3 : Int64} (ht : T_X4_apply G d h Q x0 y1 y3) : Ex G d mX4_apply 0 [(0, .int x0), (1, .long y1), (3, .long y3)] [] h Q := by
  unfold T_X4_apply at ht
  refine x_iload_n (pc2 := 1) 0 (n := 0) (x := x0) rfl dX4_apply_0 rfl ?_
  refine y_tcase (x := x0) (-11) 142 dX4_apply_1 (by decide) (by decide) rfl (by decide) (fun c1 => ?_) (fun c1 => ?_)
  · replace ht := ht.1 c1
    refine x_lload_n (pc2 := 143) 1 (n := 1) (x := y1) rfl dX4_apply_142 rfl ?_
    refine x_lload_n (pc2 := 144) 2 (n := 3) (x := y3) rfl dX4_apply_143 rfl ?_
    refine x_land (pc2 := 145) dX4_apply_144 rfl ?_
    exact x_retL rfl dX4_apply_145 ht
  replace ht := ht.2 c1
  refine y_tcase (x := x0) (-10) 130 dX4_apply_1 (by decide) (by decide) rfl (by decide) (fun c2 => ?_) (fun c2 => ?_)
  · replace ht := ht.1 c2
    refine x_lload_n (pc2 := 131) 1 (n := 1) (x := y1) rfl dX4_apply_130 rfl ?_
    refine x_lload_n (pc2 := 132) 2 (n := 3) (x := y3) rfl dX4_apply_131 rfl ?_
    refine x_lcmp (pc2 := 133) dX4_apply_132 rfl ?_
    refine x_if_le (pc2 := 136) 140 dX4_apply_133 (by decide) rfl (fun c3 => ?_) (fun c3 => ?_)
    · replace ht := ht.1 c3
      refine x_lconst (pc2 := 141) (v := 0) (by decide) dX4_apply_140 rfl ?_
      exact x_retL rfl dX4_apply_141 ht
    · replace ht := ht.2 c3
      refine x_lconst (pc2 := 137) (v := 1) (by decide) dX4_apply_136 rfl ?_
      refine x_goto 141 dX4_apply_137 (by decide) ?_
      exact x_retL rfl dX4_apply_141 ht
  replace ht := ht.2 c2
  refine y_tcase (x := x0) (-9) 118 dX4_apply_1 (by decide) (by decide) rfl (by decide) (fun c4 => ?_) (fun c4 => ?_)
  · replace ht := ht.1 c4
    refine x_lload_n (pc2 := 119) 1 (n := 1) (x := y1) rfl dX4_apply_118 rfl ?_
    refine x_lload_n (pc2 := 120) 2 (n := 3) (x := y3) rfl dX4_apply_119 rfl ?_
    refine x_lcmp (pc2 := 121) dX4_apply_120 rfl ?_
    refine x_if_lt (pc2 := 124) 128 dX4_apply_121 (by decide) rfl (fun c5 => ?_) (fun c5 => ?_)
    · replace ht := ht.1 c5
      refine x_lconst (pc2 := 129) (v := 0) (by decide) dX4_apply_128 rfl ?_
      exact x_retL rfl dX4_apply_129 ht
    · replace ht := ht.2 c5
      refine x_lconst (pc2 := 125) (v := 1) (by decide) dX4_apply_124 rfl ?_
      refine x_goto 129 dX4_apply_125 (by decide) ?_
      exact x_retL rfl dX4_apply_129 ht
  replace ht := ht.2 c4
  refine y_tcase (x := x0) (-8) 106 dX4_apply_1 (by decide) (by decide) rfl (by decide) (fun c6 => ?_) (fun c6 => ?_)
  · replace ht := ht.1 c6
    refine x_lload_n (pc2 := 107) 1 (n := 1) (x := y1) rfl dX4_apply_106 rfl ?_
    refine x_lload_n (pc2 := 108) 2 (n := 3) (x := y3) rfl dX4_apply_107 rfl ?_
    refine x_lcmp (pc2 := 109) dX4_apply_108 rfl ?_
    refine y_if_ne (pc2 := 112) 116 dX4_apply_109 (by decide) rfl (fun c7 => ?_) (fun c7 => ?_)
    · replace ht := ht.1 c7
      refine x_lconst (pc2 := 117) (v := 0) (by decide) dX4_apply_116 rfl ?_
      exact x_retL rfl dX4_apply_117 ht
    · replace ht := ht.2 c7
      refine x_lconst (pc2 := 113) (v := 1) (by decide) dX4_apply_112 rfl ?_
      refine x_goto 117 dX4_apply_113 (by decide) ?_
      exact x_retL rfl dX4_apply_117 ht
  replace ht := ht.2 c6
  refine y_tcase (x := x0) (-7) 94 dX4_apply_1 (by decide) (by decide) rfl (by decide) (fun c8 => ?_) (fun c8 => ?_)
  · replace ht := ht.1 c8
    refine x_lload_n (pc2 := 95) 1 (n := 1) (x := y1) rfl dX4_apply_94 rfl ?_
    refine x_lload_n (pc2 := 96) 2 (n := 3) (x := y3) rfl dX4_apply_95 rfl ?_
    refine x_lcmp (pc2 := 97) dX4_apply_96 rfl ?_
    refine x_if_gt (pc2 := 100) 104 dX4_apply_97 (by decide) rfl (fun c9 => ?_) (fun c9 => ?_)
    · replace ht := ht.1 c9
      refine x_lconst (pc2 := 105) (v := 0) (by decide) dX4_apply_104 rfl ?_
      exact x_retL rfl dX4_apply_105 ht
    · replace ht := ht.2 c9
      refine x_lconst (pc2 := 101) (v := 1) (by decide) dX4_apply_100 rfl ?_
      refine x_goto 105 dX4_apply_101 (by decide) ?_
      exact x_retL rfl dX4_apply_105 ht
  replace ht := ht.2 c8
  refine y_tcase (x := x0) (-6) 82 dX4_apply_1 (by decide) (by decide) rfl (by decide) (fun c10 => ?_) (fun c10 => ?_)
  · replace ht := ht.1 c10
    refine x_lload_n (pc2 := 83) 1 (n := 1) (x := y1) rfl dX4_apply_82 rfl ?_
    refine x_lload_n (pc2 := 84) 2 (n := 3) (x := y3) rfl dX4_apply_83 rfl ?_
    refine x_lcmp (pc2 := 85) dX4_apply_84 rfl ?_
    refine x_if_ge (pc2 := 88) 92 dX4_apply_85 (by decide) rfl (fun c11 => ?_) (fun c11 => ?_)
    · replace ht := ht.1 c11
      refine x_lconst (pc2 := 93) (v := 0) (by decide) dX4_apply_92 rfl ?_
      exact x_retL rfl dX4_apply_93 ht
    · replace ht := ht.2 c11
      refine x_lconst (pc2 := 89) (v := 1) (by decide) dX4_apply_88 rfl ?_
      refine x_goto 93 dX4_apply_89 (by decide) ?_
      exact x_retL rfl dX4_apply_93 ht
  replace ht := ht.2 c10
  refine y_tcase (x := x0) (-5) 68 dX4_apply_1 (by decide) (by decide) rfl (by decide) (fun c12 => ?_) (fun c12 => ?_)
  · replace ht := ht.1 c12
    refine x_lload_n (pc2 := 69) 2 (n := 3) (x := y3) rfl dX4_apply_68 rfl ?_
    refine x_lconst (pc2 := 70) (v := 0) (by decide) dX4_apply_69 rfl ?_
    refine x_lcmp (pc2 := 71) dX4_apply_70 rfl ?_
    refine y_if_ne (pc2 := 74) 78 dX4_apply_71 (by decide) rfl (fun c13 => ?_) (fun c13 => ?_)
    · replace ht := ht.1 c13
      refine x_lload_n (pc2 := 79) 1 (n := 1) (x := y1) rfl dX4_apply_78 rfl ?_
      refine x_lload_n (pc2 := 80) 2 (n := 3) (x := y3) rfl dX4_apply_79 rfl ?_
      obtain ⟨n14, ht⟩ := ht
      refine x_ldiv (pc2 := 81) n14 dX4_apply_80 rfl ?_
      exact x_retL rfl dX4_apply_81 ht
    · replace ht := ht.2 c13
      refine x_lconst (pc2 := 75) (v := 0) (by decide) dX4_apply_74 rfl ?_
      refine x_goto 81 dX4_apply_75 (by decide) ?_
      exact x_retL rfl dX4_apply_81 ht
  replace ht := ht.2 c12
  refine y_tcase (x := x0) (-4) 64 dX4_apply_1 (by decide) (by decide) rfl (by decide) (fun c15 => ?_) (fun c15 => ?_)
  · replace ht := ht.1 c15
    refine x_lload_n (pc2 := 65) 1 (n := 1) (x := y1) rfl dX4_apply_64 rfl ?_
    refine x_lload_n (pc2 := 66) 2 (n := 3) (x := y3) rfl dX4_apply_65 rfl ?_
    refine x_lmul (pc2 := 67) dX4_apply_66 rfl ?_
    exact x_retL rfl dX4_apply_67 ht
  replace ht := ht.2 c15
  refine y_tcase (x := x0) (-3) 60 dX4_apply_1 (by decide) (by decide) rfl (by decide) (fun c16 => ?_) (fun c16 => ?_)
  · replace ht := ht.1 c16
    refine x_lload_n (pc2 := 61) 1 (n := 1) (x := y1) rfl dX4_apply_60 rfl ?_
    refine x_lload_n (pc2 := 62) 2 (n := 3) (x := y3) rfl dX4_apply_61 rfl ?_
    refine x_lsub (pc2 := 63) dX4_apply_62 rfl ?_
    exact x_retL rfl dX4_apply_63 ht
  replace ht := ht.2 c16
  refine y_tcase (x := x0) (-2) 56 dX4_apply_1 (by decide) (by decide) rfl (by decide) (fun c17 => ?_) (fun c17 => ?_)
  · replace ht := ht.1 c17
    refine x_lload_n (pc2 := 57) 1 (n := 1) (x := y1) rfl dX4_apply_56 rfl ?_
    refine x_lload_n (pc2 := 58) 2 (n := 3) (x := y3) rfl dX4_apply_57 rfl ?_
    refine x_ladd (pc2 := 59) dX4_apply_58 rfl ?_
    exact x_retL rfl dX4_apply_59 ht
  replace ht := ht.2 c17
  have wc1 := ne_ti (z := -11) rfl c1
  have wc2 := ne_ti (z := -10) rfl c2
  have wc4 := ne_ti (z := -9) rfl c4
  have wc6 := ne_ti (z := -8) rfl c6
  have wc8 := ne_ti (z := -7) rfl c8
  have wc10 := ne_ti (z := -6) rfl c10
  have wc12 := ne_ti (z := -5) rfl c12
  have wc15 := ne_ti (z := -4) rfl c15
  have wc16 := ne_ti (z := -3) rfl c16
  have wc17 := ne_ti (z := -2) rfl c17
  refine x_tableOut (x := x0) 146 dX4_apply_1 (by omega) (by decide) ?_
  refine x_lload_n (pc2 := 147) 1 (n := 1) (x := y1) rfl dX4_apply_146 rfl ?_
  refine x_lload_n (pc2 := 148) 2 (n := 3) (x := y3) rfl dX4_apply_147 rfl ?_
  refine x_lor (pc2 := 149) dX4_apply_148 rfl ?_
  exact x_retL rfl dX4_apply_149 ht
theorem e_X4_apply {G : GG} {d : Nat} {h : HP} {Q : Option Value → HP → Prop} {x0 : Int32} {y1 : Int64} {y3 : Int64} (ht : T_X4_apply G d h Q x0 y1 y3) : Cal G d mX4_apply [.int x0, .long y1, .long y3] h Q := cal_of rfl (Nat.le_of_ble_eq_true rfl) (t_X4_apply ht)
