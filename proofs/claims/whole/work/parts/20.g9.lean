def T_X9_init (G : GG) (d : Nat) (h : HP) (Q : Option Value → HP → Prop) (a0 : Nat) : Prop :=
  Kd G h a0 9 ∧ Q none (sI (sI (sI h a0 5 (-1)) a0 6 (-1)) a0 8 (-1))
set_option maxRecDepth 20000 in
theorem t_X9_init {G : GG} {d : Nat} {h : HP} {Q : Option Value → HP → Prop} {a0 : Nat} (hd1 : 1 ≤ d) (ht : T_X9_init G d h Q a0) : Ex G d mX9_init 0 [(0, .ref a0)] [] h Q := by
  unfold T_X9_init at ht
  refine x_aload_n (pc2 := 1) 0 (n := 0) (x := a0) rfl dX9_init_0 rfl ?_
  refine x_objInit (pc2 := 4) ml_X9_3 hd1 (Nat.le_of_ble_eq_true rfl) dX9_init_1 rfl ?_
  refine x_aload_n (pc2 := 5) 0 (n := 0) (x := a0) rfl dX9_init_4 rfl ?_
  refine x_iconst (pc2 := 6) (v := (-1)) (by decide) dX9_init_5 rfl ?_
  obtain ⟨k1, ht⟩ := ht
  refine x_putI (pc2 := 9) (κ := 9) (k := 5) fl_X9_9 (by decide) (by decide) (Or.inl rfl) rfl k1 dX9_init_6 rfl ?_
  refine x_aload_n (pc2 := 10) 0 (n := 0) (x := a0) rfl dX9_init_9 rfl ?_
  refine x_iconst (pc2 := 11) (v := (-1)) (by decide) dX9_init_10 rfl ?_
  refine x_putI (pc2 := 14) (κ := 9) (k := 6) fl_X9_15 (by decide) (by decide) (Or.inl rfl) rfl k1 dX9_init_11 rfl ?_
  refine x_aload_n (pc2 := 15) 0 (n := 0) (x := a0) rfl dX9_init_14 rfl ?_
  refine x_iconst (pc2 := 16) (v := (-1)) (by decide) dX9_init_15 rfl ?_
  refine x_putI (pc2 := 19) (κ := 9) (k := 8) fl_X9_18 (by decide) (by decide) (Or.inl rfl) rfl k1 dX9_init_16 rfl ?_
  exact x_retV rfl dX9_init_19 ht
theorem e_X9_init {G : GG} {d : Nat} {h : HP} {Q : Option Value → HP → Prop} {a0 : Nat} (hd1 : 1 ≤ d) (ht : T_X9_init G d h Q a0) : Cal G d mX9_init [.ref a0] h Q := cal_of rfl (Nat.le_of_ble_eq_true rfl) (t_X9_init hd1 ht)
def T_X9_copyFrom (G : GG) (d : Nat) (h : HP) (Q : Option Value → HP → Prop) (a0 : Nat) (a1 : Nat) : Prop :=
  Kd G h a1 9 ∧ ((hI h a1 0) = 0 ∨ (hI h a1 0) = 1) ∧ Kd G h a0 9 ∧ ∀ h4, h4 = (sI (sI (sI h a0 0 (hI h a1 0)) a0 1 (hI (sI h a0 0 (hI h a1 0)) a1 1)) a0 2 (hI (sI (sI h a0 0 (hI h a1 0)) a0 1 (hI (sI h a0 0 (hI h a1 0)) a1 1)) a1 2)) → ∀ h7, h7 = (sI (sI (sI h4 a0 3 (hI h4 a1 3)) a0 4 (hI (sI h4 a0 3 (hI h4 a1 3)) a1 4)) a0 5 (hI (sI (sI h4 a0 3 (hI h4 a1 3)) a0 4 (hI (sI h4 a0 3 (hI h4 a1 3)) a1 4)) a1 5)) → ∀ h10, h10 = (sI (sI (sI h7 a0 6 (hI h7 a1 6)) a0 7 (hI (sI h7 a0 6 (hI h7 a1 6)) a1 7)) a0 8 (hI (sI (sI h7 a0 6 (hI h7 a1 6)) a0 7 (hI (sI h7 a0 6 (hI h7 a1 6)) a1 7)) a1 8)) → ∀ h13, h13 = (sI (sI (sI h10 a0 9 (hI h10 a1 9)) a0 10 (hI (sI h10 a0 9 (hI h10 a1 9)) a1 10)) a0 11 (hI (sI (sI h10 a0 9 (hI h10 a1 9)) a0 10 (hI (sI h10 a0 9 (hI h10 a1 9)) a1 10)) a1 11)) → Q none h13
set_option maxRecDepth 20000 in
theorem t_X9_copyFrom {G : GG} {d : Nat} {h : HP} {Q : Option Value → HP → Prop} {a0 : Nat} {a1 : Nat} (ht : T_X9_copyFrom G d h Q a0 a1) : Ex G d mX9_copyFrom 0 [(0, .ref a0), (1, .ref a1)] [] h Q := by
  unfold T_X9_copyFrom at ht
  refine x_aload_n (pc2 := 1) 0 (n := 0) (x := a0) rfl dX9_copyFrom_0 rfl ?_
  refine x_aload_n (pc2 := 2) 1 (n := 1) (x := a1) rfl dX9_copyFrom_1 rfl ?_
  obtain ⟨k1, ht⟩ := ht
  refine y_getI (pc2 := 5) (κ := 9) (k := 0) fl_X9_21 (by decide) (by decide) k1 rfl dX9_copyFrom_2 rfl ?_
  obtain ⟨z2, ht⟩ := ht
  obtain ⟨k3, ht⟩ := ht
  refine x_putZ (pc2 := 8) (κ := 9) (k := 0) z2 fl_X9_21 (by decide) (by decide) (Or.inl rfl) rfl k3 dX9_copyFrom_5 rfl ?_
  refine x_aload_n (pc2 := 9) 0 (n := 0) (x := a0) rfl dX9_copyFrom_8 rfl ?_
  refine x_aload_n (pc2 := 10) 1 (n := 1) (x := a1) rfl dX9_copyFrom_9 rfl ?_
  refine y_getI (pc2 := 13) (κ := 9) (k := 1) fl_X9_25 (by decide) (by decide) k1 rfl dX9_copyFrom_10 rfl ?_
  refine x_putI (pc2 := 16) (κ := 9) (k := 1) fl_X9_25 (by decide) (by decide) (Or.inl rfl) rfl k3 dX9_copyFrom_13 rfl ?_
  refine x_aload_n (pc2 := 17) 0 (n := 0) (x := a0) rfl dX9_copyFrom_16 rfl ?_
  refine x_aload_n (pc2 := 18) 1 (n := 1) (x := a1) rfl dX9_copyFrom_17 rfl ?_
  refine y_getI (pc2 := 21) (κ := 9) (k := 2) fl_X9_28 (by decide) (by decide) k1 rfl dX9_copyFrom_18 rfl ?_
  refine x_putI (pc2 := 24) (κ := 9) (k := 2) fl_X9_28 (by decide) (by decide) (Or.inl rfl) rfl k3 dX9_copyFrom_21 rfl ?_
  refine nm_I (fun h4 e5 p6 => ?_)
  have ht := ht h4 e5
  refine x_aload_n (pc2 := 25) 0 (n := 0) (x := a0) rfl dX9_copyFrom_24 rfl ?_
  refine x_aload_n (pc2 := 26) 1 (n := 1) (x := a1) rfl dX9_copyFrom_25 rfl ?_
  refine y_getI (pc2 := 29) (κ := 9) (k := 3) fl_X9_31 (by decide) (by decide) (k1.up p6) rfl dX9_copyFrom_26 rfl ?_
  refine x_putI (pc2 := 32) (κ := 9) (k := 3) fl_X9_31 (by decide) (by decide) (Or.inl rfl) rfl (k3.up p6) dX9_copyFrom_29 rfl ?_
  refine x_aload_n (pc2 := 33) 0 (n := 0) (x := a0) rfl dX9_copyFrom_32 rfl ?_
  refine x_aload_n (pc2 := 34) 1 (n := 1) (x := a1) rfl dX9_copyFrom_33 rfl ?_
  refine y_getI (pc2 := 37) (κ := 9) (k := 4) fl_X9_34 (by decide) (by decide) (k1.up p6) rfl dX9_copyFrom_34 rfl ?_
  refine x_putI (pc2 := 40) (κ := 9) (k := 4) fl_X9_34 (by decide) (by decide) (Or.inl rfl) rfl (k3.up p6) dX9_copyFrom_37 rfl ?_
  refine x_aload_n (pc2 := 41) 0 (n := 0) (x := a0) rfl dX9_copyFrom_40 rfl ?_
  refine x_aload_n (pc2 := 42) 1 (n := 1) (x := a1) rfl dX9_copyFrom_41 rfl ?_
  refine y_getI (pc2 := 45) (κ := 9) (k := 5) fl_X9_9 (by decide) (by decide) (k1.up p6) rfl dX9_copyFrom_42 rfl ?_
  refine x_putI (pc2 := 48) (κ := 9) (k := 5) fl_X9_9 (by decide) (by decide) (Or.inl rfl) rfl (k3.up p6) dX9_copyFrom_45 rfl ?_
  refine nm_I (fun h7 e8 p9 => ?_)
  have ht := ht h7 e8
  refine x_aload_n (pc2 := 49) 0 (n := 0) (x := a0) rfl dX9_copyFrom_48 rfl ?_
  refine x_aload_n (pc2 := 50) 1 (n := 1) (x := a1) rfl dX9_copyFrom_49 rfl ?_
  refine y_getI (pc2 := 53) (κ := 9) (k := 6) fl_X9_15 (by decide) (by decide) ((k1.up p6).up p9) rfl dX9_copyFrom_50 rfl ?_
  refine x_putI (pc2 := 56) (κ := 9) (k := 6) fl_X9_15 (by decide) (by decide) (Or.inl rfl) rfl ((k3.up p6).up p9) dX9_copyFrom_53 rfl ?_
  refine x_aload_n (pc2 := 57) 0 (n := 0) (x := a0) rfl dX9_copyFrom_56 rfl ?_
  refine x_aload_n (pc2 := 58) 1 (n := 1) (x := a1) rfl dX9_copyFrom_57 rfl ?_
  refine y_getI (pc2 := 61) (κ := 9) (k := 7) fl_X9_37 (by decide) (by decide) ((k1.up p6).up p9) rfl dX9_copyFrom_58 rfl ?_
  refine x_putI (pc2 := 64) (κ := 9) (k := 7) fl_X9_37 (by decide) (by decide) (Or.inl rfl) rfl ((k3.up p6).up p9) dX9_copyFrom_61 rfl ?_
  refine x_aload_n (pc2 := 65) 0 (n := 0) (x := a0) rfl dX9_copyFrom_64 rfl ?_
  refine x_aload_n (pc2 := 66) 1 (n := 1) (x := a1) rfl dX9_copyFrom_65 rfl ?_
  refine y_getI (pc2 := 69) (κ := 9) (k := 8) fl_X9_18 (by decide) (by decide) ((k1.up p6).up p9) rfl dX9_copyFrom_66 rfl ?_
  refine x_putI (pc2 := 72) (κ := 9) (k := 8) fl_X9_18 (by decide) (by decide) (Or.inl rfl) rfl ((k3.up p6).up p9) dX9_copyFrom_69 rfl ?_
  refine nm_I (fun h10 e11 p12 => ?_)
  have ht := ht h10 e11
  refine x_aload_n (pc2 := 73) 0 (n := 0) (x := a0) rfl dX9_copyFrom_72 rfl ?_
  refine x_aload_n (pc2 := 74) 1 (n := 1) (x := a1) rfl dX9_copyFrom_73 rfl ?_
  refine y_getI (pc2 := 77) (κ := 9) (k := 9) fl_X9_40 (by decide) (by decide) (((k1.up p6).up p9).up p12) rfl dX9_copyFrom_74 rfl ?_
  refine x_putI (pc2 := 80) (κ := 9) (k := 9) fl_X9_40 (by decide) (by decide) (Or.inl rfl) rfl (((k3.up p6).up p9).up p12) dX9_copyFrom_77 rfl ?_
  refine x_aload_n (pc2 := 81) 0 (n := 0) (x := a0) rfl dX9_copyFrom_80 rfl ?_
  refine x_aload_n (pc2 := 82) 1 (n := 1) (x := a1) rfl dX9_copyFrom_81 rfl ?_
  refine y_getI (pc2 := 85) (κ := 9) (k := 10) fl_X9_43 (by decide) (by decide) (((k1.up p6).up p9).up p12) rfl dX9_copyFrom_82 rfl ?_
  refine x_putI (pc2 := 88) (κ := 9) (k := 10) fl_X9_43 (by decide) (by decide) (Or.inl rfl) rfl (((k3.up p6).up p9).up p12) dX9_copyFrom_85 rfl ?_
  refine x_aload_n (pc2 := 89) 0 (n := 0) (x := a0) rfl dX9_copyFrom_88 rfl ?_
  refine x_aload_n (pc2 := 90) 1 (n := 1) (x := a1) rfl dX9_copyFrom_89 rfl ?_
  refine y_getI (pc2 := 93) (κ := 9) (k := 11) fl_X9_46 (by decide) (by decide) (((k1.up p6).up p9).up p12) rfl dX9_copyFrom_90 rfl ?_
  refine x_putI (pc2 := 96) (κ := 9) (k := 11) fl_X9_46 (by decide) (by decide) (Or.inl rfl) rfl (((k3.up p6).up p9).up p12) dX9_copyFrom_93 rfl ?_
  refine nm_I (fun h13 e14 p15 => ?_)
  have ht := ht h13 e14
  exact x_retV rfl dX9_copyFrom_96 ht
theorem e_X9_copyFrom {G : GG} {d : Nat} {h : HP} {Q : Option Value → HP → Prop} {a0 : Nat} {a1 : Nat} (ht : T_X9_copyFrom G d h Q a0 a1) : Cal G d mX9_copyFrom [.ref a0, .ref a1] h Q := cal_of rfl (Nat.le_of_ble_eq_true rfl) (t_X9_copyFrom ht)
def T_X9_rise (G : GG) (d : Nat) (h : HP) (Q : Option Value → HP → Prop) (a0 : Nat) (x1 : Int32) (x2 : Int32) (x3 : Int32) (x4 : Int32) (x5 : Int32) : Prop :=
  Kd G h a0 9 ∧ ∀ h2, h2 = (sI (sI (sI (sI (sI (sI (sI h a0 0 1) a0 1 x1) a0 2 x2) a0 3 x3) a0 4 x4) a0 5 x5) a0 6 (-1)) → Q none (sI (sI (sI (sI (sI h2 a0 7 0) a0 8 (-1)) a0 9 0) a0 10 0) a0 11 0)
set_option maxRecDepth 20000 in
theorem t_X9_rise {G : GG} {d : Nat} {h : HP} {Q : Option Value → HP → Prop} {a0 : Nat} {x1 : Int32} {x2 : Int32} {x3 : Int32} {x4 : Int32} {x5 : Int32} (ht : T_X9_rise G d h Q a0 x1 x2 x3 x4 x5) : Ex G d mX9_rise 0 [(0, .ref a0), (1, .int x1), (2, .int x2), (3, .int x3), (4, .int x4), (5, .int x5)] [] h Q := by
  unfold T_X9_rise at ht
  refine x_aload_n (pc2 := 1) 0 (n := 0) (x := a0) rfl dX9_rise_0 rfl ?_
  refine x_iconst (pc2 := 2) (v := 1) (by decide) dX9_rise_1 rfl ?_
  obtain ⟨k1, ht⟩ := ht
  refine x_putZ (pc2 := 5) (κ := 9) (k := 0) (Or.inr rfl) fl_X9_21 (by decide) (by decide) (Or.inl rfl) rfl k1 dX9_rise_2 rfl ?_
  refine x_aload_n (pc2 := 6) 0 (n := 0) (x := a0) rfl dX9_rise_5 rfl ?_
  refine x_iload_n (pc2 := 7) 1 (n := 1) (x := x1) rfl dX9_rise_6 rfl ?_
  refine x_putI (pc2 := 10) (κ := 9) (k := 1) fl_X9_25 (by decide) (by decide) (Or.inl rfl) rfl k1 dX9_rise_7 rfl ?_
  refine x_aload_n (pc2 := 11) 0 (n := 0) (x := a0) rfl dX9_rise_10 rfl ?_
  refine x_iload_n (pc2 := 12) 2 (n := 2) (x := x2) rfl dX9_rise_11 rfl ?_
  refine x_putI (pc2 := 15) (κ := 9) (k := 2) fl_X9_28 (by decide) (by decide) (Or.inl rfl) rfl k1 dX9_rise_12 rfl ?_
  refine x_aload_n (pc2 := 16) 0 (n := 0) (x := a0) rfl dX9_rise_15 rfl ?_
  refine x_iload_n (pc2 := 17) 3 (n := 3) (x := x3) rfl dX9_rise_16 rfl ?_
  refine x_putI (pc2 := 20) (κ := 9) (k := 3) fl_X9_31 (by decide) (by decide) (Or.inl rfl) rfl k1 dX9_rise_17 rfl ?_
  refine x_aload_n (pc2 := 21) 0 (n := 0) (x := a0) rfl dX9_rise_20 rfl ?_
  refine x_iload (pc2 := 23) 4 (n := 4) (x := x4) rfl dX9_rise_21 rfl ?_
  refine x_putI (pc2 := 26) (κ := 9) (k := 4) fl_X9_34 (by decide) (by decide) (Or.inl rfl) rfl k1 dX9_rise_23 rfl ?_
  refine x_aload_n (pc2 := 27) 0 (n := 0) (x := a0) rfl dX9_rise_26 rfl ?_
  refine x_iload (pc2 := 29) 5 (n := 5) (x := x5) rfl dX9_rise_27 rfl ?_
  refine x_putI (pc2 := 32) (κ := 9) (k := 5) fl_X9_9 (by decide) (by decide) (Or.inl rfl) rfl k1 dX9_rise_29 rfl ?_
  refine x_aload_n (pc2 := 33) 0 (n := 0) (x := a0) rfl dX9_rise_32 rfl ?_
  refine x_iconst (pc2 := 34) (v := (-1)) (by decide) dX9_rise_33 rfl ?_
  refine x_putI (pc2 := 37) (κ := 9) (k := 6) fl_X9_15 (by decide) (by decide) (Or.inl rfl) rfl k1 dX9_rise_34 rfl ?_
  refine nm_I (fun h2 e3 p4 => ?_)
  have ht := ht h2 e3
  refine x_aload_n (pc2 := 38) 0 (n := 0) (x := a0) rfl dX9_rise_37 rfl ?_
  refine x_iconst (pc2 := 39) (v := 0) (by decide) dX9_rise_38 rfl ?_
  refine x_putI (pc2 := 42) (κ := 9) (k := 7) fl_X9_37 (by decide) (by decide) (Or.inl rfl) rfl (k1.up p4) dX9_rise_39 rfl ?_
  refine x_aload_n (pc2 := 43) 0 (n := 0) (x := a0) rfl dX9_rise_42 rfl ?_
  refine x_iconst (pc2 := 44) (v := (-1)) (by decide) dX9_rise_43 rfl ?_
  refine x_putI (pc2 := 47) (κ := 9) (k := 8) fl_X9_18 (by decide) (by decide) (Or.inl rfl) rfl (k1.up p4) dX9_rise_44 rfl ?_
  refine x_aload_n (pc2 := 48) 0 (n := 0) (x := a0) rfl dX9_rise_47 rfl ?_
  refine x_iconst (pc2 := 49) (v := 0) (by decide) dX9_rise_48 rfl ?_
  refine x_putI (pc2 := 52) (κ := 9) (k := 9) fl_X9_40 (by decide) (by decide) (Or.inl rfl) rfl (k1.up p4) dX9_rise_49 rfl ?_
  refine x_aload_n (pc2 := 53) 0 (n := 0) (x := a0) rfl dX9_rise_52 rfl ?_
  refine x_iconst (pc2 := 54) (v := 0) (by decide) dX9_rise_53 rfl ?_
  refine x_putI (pc2 := 57) (κ := 9) (k := 10) fl_X9_43 (by decide) (by decide) (Or.inl rfl) rfl (k1.up p4) dX9_rise_54 rfl ?_
  refine x_aload_n (pc2 := 58) 0 (n := 0) (x := a0) rfl dX9_rise_57 rfl ?_
  refine x_iconst (pc2 := 59) (v := 0) (by decide) dX9_rise_58 rfl ?_
  refine x_putI (pc2 := 62) (κ := 9) (k := 11) fl_X9_46 (by decide) (by decide) (Or.inl rfl) rfl (k1.up p4) dX9_rise_59 rfl ?_
  exact x_retV rfl dX9_rise_62 ht
theorem e_X9_rise {G : GG} {d : Nat} {h : HP} {Q : Option Value → HP → Prop} {a0 : Nat} {x1 : Int32} {x2 : Int32} {x3 : Int32} {x4 : Int32} {x5 : Int32} (ht : T_X9_rise G d h Q a0 x1 x2 x3 x4 x5) : Cal G d mX9_rise [.ref a0, .int x1, .int x2, .int x3, .int x4, .int x5] h Q := cal_of rfl (Nat.le_of_ble_eq_true rfl) (t_X9_rise ht)
def T_X9_area (G : GG) (d : Nat) (h : HP) (Q : Option Value → HP → Prop) (a0 : Nat) : Prop :=
  Kd G h a0 9 ∧ Q (some (.int (((hI h a0 3) - (hI h a0 1)) * ((hI h a0 4) - (hI h a0 2))))) h
set_option maxRecDepth 20000 in
theorem t_X9_area {G : GG} {d : Nat} {h : HP} {Q : Option Value → HP → Prop} {a0 : Nat} (ht : T_X9_area G d h Q a0) : Ex G d mX9_area 0 [(0, .ref a0)] [] h Q := by
  unfold T_X9_area at ht
  refine x_aload_n (pc2 := 1) 0 (n := 0) (x := a0) rfl dX9_area_0 rfl ?_
  obtain ⟨k1, ht⟩ := ht
  refine y_getI (pc2 := 4) (κ := 9) (k := 3) fl_X9_31 (by decide) (by decide) k1 rfl dX9_area_1 rfl ?_
  refine x_aload_n (pc2 := 5) 0 (n := 0) (x := a0) rfl dX9_area_4 rfl ?_
  refine y_getI (pc2 := 8) (κ := 9) (k := 1) fl_X9_25 (by decide) (by decide) k1 rfl dX9_area_5 rfl ?_
  refine x_isub (pc2 := 9) dX9_area_8 rfl ?_
  refine x_aload_n (pc2 := 10) 0 (n := 0) (x := a0) rfl dX9_area_9 rfl ?_
  refine y_getI (pc2 := 13) (κ := 9) (k := 4) fl_X9_34 (by decide) (by decide) k1 rfl dX9_area_10 rfl ?_
  refine x_aload_n (pc2 := 14) 0 (n := 0) (x := a0) rfl dX9_area_13 rfl ?_
  refine y_getI (pc2 := 17) (κ := 9) (k := 2) fl_X9_28 (by decide) (by decide) k1 rfl dX9_area_14 rfl ?_
  refine x_isub (pc2 := 18) dX9_area_17 rfl ?_
  refine x_imul (pc2 := 19) dX9_area_18 rfl ?_
  exact x_ret (ty := .int) rfl rfl dX9_area_19 ht
theorem e_X9_area {G : GG} {d : Nat} {h : HP} {Q : Option Value → HP → Prop} {a0 : Nat} (ht : T_X9_area G d h Q a0) : Cal G d mX9_area [.ref a0] h Q := cal_of rfl (Nat.le_of_ble_eq_true rfl) (t_X9_area ht)
def T_X9_lengthOf (G : GG) (d : Nat) (h : HP) (Q : Option Value → HP → Prop) (a0 : Nat) (x1 : Int32) : Prop :=
  ((¬ (irm x1 2) = 0 → Kd G h a0 9 ∧ Q (some (.int ((hI h a0 4) - (hI h a0 2)))) h) ∧ ((irm x1 2) = 0 → Kd G h a0 9 ∧ Q (some (.int ((hI h a0 3) - (hI h a0 1)))) h))
set_option maxRecDepth 20000 in
theorem t_X9_lengthOf {G : GG} {d : Nat} {h : HP} {Q : Option Value → HP → Prop} {a0 : Nat} {x1 : Int32} (ht : T_X9_lengthOf G d h Q a0 x1) : Ex G d mX9_lengthOf 0 [(0, .ref a0), (1, .int x1)] [] h Q := by
  unfold T_X9_lengthOf at ht
  refine x_iload_n (pc2 := 1) 1 (n := 1) (x := x1) rfl dX9_lengthOf_0 rfl ?_
  refine x_iconst (pc2 := 2) (v := 2) (by decide) dX9_lengthOf_1 rfl ?_
  refine y_irem (pc2 := 3) (by decide) dX9_lengthOf_2 rfl ?_
  refine y_if_ne (pc2 := 6) 18 dX9_lengthOf_3 (by decide) rfl (fun c1 => ?_) (fun c1 => ?_)
  · have ht := ht.1 c1
    refine x_aload_n (pc2 := 19) 0 (n := 0) (x := a0) rfl dX9_lengthOf_18 rfl ?_
    obtain ⟨k2, ht⟩ := ht
    refine y_getI (pc2 := 22) (κ := 9) (k := 4) fl_X9_34 (by decide) (by decide) k2 rfl dX9_lengthOf_19 rfl ?_
    refine x_aload_n (pc2 := 23) 0 (n := 0) (x := a0) rfl dX9_lengthOf_22 rfl ?_
    refine y_getI (pc2 := 26) (κ := 9) (k := 2) fl_X9_28 (by decide) (by decide) k2 rfl dX9_lengthOf_23 rfl ?_
    refine x_isub (pc2 := 27) dX9_lengthOf_26 rfl ?_
    exact x_ret (ty := .int) rfl rfl dX9_lengthOf_27 ht
  · have ht := ht.2 c1
    refine x_aload_n (pc2 := 7) 0 (n := 0) (x := a0) rfl dX9_lengthOf_6 rfl ?_
    obtain ⟨k3, ht⟩ := ht
    refine y_getI (pc2 := 10) (κ := 9) (k := 3) fl_X9_31 (by decide) (by decide) k3 rfl dX9_lengthOf_7 rfl ?_
    refine x_aload_n (pc2 := 11) 0 (n := 0) (x := a0) rfl dX9_lengthOf_10 rfl ?_
    refine y_getI (pc2 := 14) (κ := 9) (k := 1) fl_X9_25 (by decide) (by decide) k3 rfl dX9_lengthOf_11 rfl ?_
    refine x_isub (pc2 := 15) dX9_lengthOf_14 rfl ?_
    refine x_goto 27 dX9_lengthOf_15 (by decide) ?_
    exact x_ret (ty := .int) rfl rfl dX9_lengthOf_27 ht
theorem e_X9_lengthOf {G : GG} {d : Nat} {h : HP} {Q : Option Value → HP → Prop} {a0 : Nat} {x1 : Int32} (ht : T_X9_lengthOf G d h Q a0 x1) : Cal G d mX9_lengthOf [.ref a0, .int x1] h Q := cal_of rfl (Nat.le_of_ble_eq_true rfl) (t_X9_lengthOf ht)
def T_X9_has (G : GG) (d : Nat) (h : HP) (Q : Option Value → HP → Prop) (a0 : Nat) (x1 : Int32) (x2 : Int32) : Prop :=
  Kd G h a0 9 ∧ ((x1 < (hI h a0 1) → Q (some (.int 0)) h) ∧ (¬ x1 < (hI h a0 1) → (((hI h a0 3) ≤ x1 → Q (some (.int 0)) h) ∧ (¬ (hI h a0 3) ≤ x1 → ((x2 < (hI h a0 2) → Q (some (.int 0)) h) ∧ (¬ x2 < (hI h a0 2) → (((hI h a0 4) ≤ x2 → Q (some (.int 0)) h) ∧ (¬ (hI h a0 4) ≤ x2 → Q (some (.int 1)) h))))))))
set_option maxRecDepth 20000 in
theorem t_X9_has {G : GG} {d : Nat} {h : HP} {Q : Option Value → HP → Prop} {a0 : Nat} {x1 : Int32} {x2 : Int32} (ht : T_X9_has G d h Q a0 x1 x2) : Ex G d mX9_has 0 [(0, .ref a0), (1, .int x1), (2, .int x2)] [] h Q := by
  unfold T_X9_has at ht
  refine x_aload_n (pc2 := 1) 0 (n := 0) (x := a0) rfl dX9_has_0 rfl ?_
  obtain ⟨k1, ht⟩ := ht
  refine y_getI (pc2 := 4) (κ := 9) (k := 1) fl_X9_25 (by decide) (by decide) k1 rfl dX9_has_1 rfl ?_
  refine x_iload_n (pc2 := 5) 1 (n := 1) (x := x1) rfl dX9_has_4 rfl ?_
  refine x_icmp_gt (pc2 := 8) 36 dX9_has_5 (by decide) rfl (fun c2 => ?_) (fun c2 => ?_)
  · have ht := ht.1 c2
    refine x_iconst (pc2 := 37) (v := 0) (by decide) dX9_has_36 rfl ?_
    exact x_retZ rfl (Or.inl rfl) dX9_has_37 ht
  · have ht := ht.2 c2
    refine x_iload_n (pc2 := 9) 1 (n := 1) (x := x1) rfl dX9_has_8 rfl ?_
    refine x_aload_n (pc2 := 10) 0 (n := 0) (x := a0) rfl dX9_has_9 rfl ?_
    refine y_getI (pc2 := 13) (κ := 9) (k := 3) fl_X9_31 (by decide) (by decide) k1 rfl dX9_has_10 rfl ?_
    refine x_icmp_ge (pc2 := 16) 36 dX9_has_13 (by decide) rfl (fun c3 => ?_) (fun c3 => ?_)
    · have ht := ht.1 c3
      refine x_iconst (pc2 := 37) (v := 0) (by decide) dX9_has_36 rfl ?_
      exact x_retZ rfl (Or.inl rfl) dX9_has_37 ht
    · have ht := ht.2 c3
      refine x_aload_n (pc2 := 17) 0 (n := 0) (x := a0) rfl dX9_has_16 rfl ?_
      refine y_getI (pc2 := 20) (κ := 9) (k := 2) fl_X9_28 (by decide) (by decide) k1 rfl dX9_has_17 rfl ?_
      refine x_iload_n (pc2 := 21) 2 (n := 2) (x := x2) rfl dX9_has_20 rfl ?_
      refine x_icmp_gt (pc2 := 24) 36 dX9_has_21 (by decide) rfl (fun c4 => ?_) (fun c4 => ?_)
      · have ht := ht.1 c4
        refine x_iconst (pc2 := 37) (v := 0) (by decide) dX9_has_36 rfl ?_
        exact x_retZ rfl (Or.inl rfl) dX9_has_37 ht
      · have ht := ht.2 c4
        refine x_iload_n (pc2 := 25) 2 (n := 2) (x := x2) rfl dX9_has_24 rfl ?_
        refine x_aload_n (pc2 := 26) 0 (n := 0) (x := a0) rfl dX9_has_25 rfl ?_
        refine y_getI (pc2 := 29) (κ := 9) (k := 4) fl_X9_34 (by decide) (by decide) k1 rfl dX9_has_26 rfl ?_
        refine x_icmp_ge (pc2 := 32) 36 dX9_has_29 (by decide) rfl (fun c5 => ?_) (fun c5 => ?_)
        · have ht := ht.1 c5
          refine x_iconst (pc2 := 37) (v := 0) (by decide) dX9_has_36 rfl ?_
          exact x_retZ rfl (Or.inl rfl) dX9_has_37 ht
        · have ht := ht.2 c5
          refine x_iconst (pc2 := 33) (v := 1) (by decide) dX9_has_32 rfl ?_
          refine x_goto 37 dX9_has_33 (by decide) ?_
          exact x_retZ rfl (Or.inr rfl) dX9_has_37 ht
theorem e_X9_has {G : GG} {d : Nat} {h : HP} {Q : Option Value → HP → Prop} {a0 : Nat} {x1 : Int32} {x2 : Int32} (ht : T_X9_has G d h Q a0 x1 x2) : Cal G d mX9_has [.ref a0, .int x1, .int x2] h Q := cal_of rfl (Nat.le_of_ble_eq_true rfl) (t_X9_has ht)
def T_X9_parts (G : GG) (d : Nat) (h : HP) (Q : Option Value → HP → Prop) (a0 : Nat) (a1 : Nat) : Prop :=
  Kd G h a1 1 ∧ Kd G h a0 9 ∧ Cal G (d - 1) mX9_has [.ref a0, .int (hI h a1 2), .int (hI h a1 3)] h (fun r2 h3 => ∃ v6, r2 = some (.int v6) ∧ Cal G (d - 1) mX9_has [.ref a0, .int (hI h3 a1 4), .int (hI h3 a1 5)] h3 (fun r7 h8 => ∃ v10, r7 = some (.int v10) ∧ ((v6 = v10 → Q (some (.int 0)) h8) ∧ (¬ v6 = v10 → Q (some (.int 1)) h8))))
set_option maxRecDepth 20000 in
theorem t_X9_parts {G : GG} {d : Nat} {h : HP} {Q : Option Value → HP → Prop} {a0 : Nat} {a1 : Nat} (hd1 : 1 ≤ d) (ht : T_X9_parts G d h Q a0 a1) : Ex G d mX9_parts 0 [(0, .ref a0), (1, .ref a1)] [] h Q := by
  unfold T_X9_parts at ht
  refine x_aload_n (pc2 := 1) 0 (n := 0) (x := a0) rfl dX9_parts_0 rfl ?_
  refine x_aload_n (pc2 := 2) 1 (n := 1) (x := a1) rfl dX9_parts_1 rfl ?_
  obtain ⟨k1, ht⟩ := ht
  refine y_getI (pc2 := 5) (κ := 1) (k := 2) fl_X9_49 (by decide) (by decide) k1 rfl dX9_parts_2 rfl ?_
  refine x_aload_n (pc2 := 6) 1 (n := 1) (x := a1) rfl dX9_parts_5 rfl ?_
  refine y_getI (pc2 := 9) (κ := 1) (k := 3) fl_X9_52 (by decide) (by decide) k1 rfl dX9_parts_6 rfl ?_
  obtain ⟨k5, ht⟩ := ht
  refine x_callV (pc2 := 12) (As := [.int (hI h a1 2), .int (hI h a1 3)]) (rest := []) (b := a0) mv_X9_has ml_X9_53 k5 rfl rfl (Nat.le_of_ble_eq_true rfl) hd1 dX9_parts_9 rfl (ht.mono (fun r2 h3 p4 ht => ?_))
  obtain ⟨v6, rfl, ht⟩ := ht
  show Ex G d mX9_parts 12 [(0, .ref a0), (1, .ref a1)] [.int v6] h3 Q
  refine x_aload_n (pc2 := 13) 0 (n := 0) (x := a0) rfl dX9_parts_12 rfl ?_
  refine x_aload_n (pc2 := 14) 1 (n := 1) (x := a1) rfl dX9_parts_13 rfl ?_
  refine y_getI (pc2 := 17) (κ := 1) (k := 4) fl_X9_57 (by decide) (by decide) (k1.up p4) rfl dX9_parts_14 rfl ?_
  refine x_aload_n (pc2 := 18) 1 (n := 1) (x := a1) rfl dX9_parts_17 rfl ?_
  refine y_getI (pc2 := 21) (κ := 1) (k := 5) fl_X9_58 (by decide) (by decide) (k1.up p4) rfl dX9_parts_18 rfl ?_
  refine x_callV (pc2 := 24) (As := [.int (hI h3 a1 4), .int (hI h3 a1 5)]) (rest := [.int v6]) (b := a0) mv_X9_has ml_X9_53 (k5.up p4) rfl rfl (Nat.le_of_ble_eq_true rfl) hd1 dX9_parts_21 rfl (ht.mono (fun r7 h8 p9 ht => ?_))
  obtain ⟨v10, rfl, ht⟩ := ht
  show Ex G d mX9_parts 24 [(0, .ref a0), (1, .ref a1)] [.int v10, .int v6] h8 Q
  refine x_icmp_eq (pc2 := 27) 31 dX9_parts_24 (by decide) rfl (fun c11 => ?_) (fun c11 => ?_)
  · have ht := ht.1 c11
    refine x_iconst (pc2 := 32) (v := 0) (by decide) dX9_parts_31 rfl ?_
    exact x_retZ rfl (Or.inl rfl) dX9_parts_32 ht
  · have ht := ht.2 c11
    refine x_iconst (pc2 := 28) (v := 1) (by decide) dX9_parts_27 rfl ?_
    refine x_goto 32 dX9_parts_28 (by decide) ?_
    exact x_retZ rfl (Or.inr rfl) dX9_parts_32 ht
theorem e_X9_parts {G : GG} {d : Nat} {h : HP} {Q : Option Value → HP → Prop} {a0 : Nat} {a1 : Nat} (hd1 : 1 ≤ d) (ht : T_X9_parts G d h Q a0 a1) : Cal G d mX9_parts [.ref a0, .ref a1] h Q := cal_of rfl (Nat.le_of_ble_eq_true rfl) (t_X9_parts hd1 ht)
def T_X9_tollFor (G : GG) (d : Nat) (h : HP) (Q : Option Value → HP → Prop) (a0 : Nat) (x1 : Int32) : Prop :=
  Kd G h a0 9 ∧ (((hI h a0 5) = x1 → Q (some (.int 0)) h) ∧ (¬ (hI h a0 5) = x1 → ((¬ (((hI h a0 11) >>> (x1 &&& 31)) &&& 1) = 1 → Q (some (.int (hI h a0 10))) h) ∧ ((((hI h a0 11) >>> (x1 &&& 31)) &&& 1) = 1 → Q (some (.int 0)) h))))
set_option maxRecDepth 20000 in
theorem t_X9_tollFor {G : GG} {d : Nat} {h : HP} {Q : Option Value → HP → Prop} {a0 : Nat} {x1 : Int32} (ht : T_X9_tollFor G d h Q a0 x1) : Ex G d mX9_tollFor 0 [(0, .ref a0), (1, .int x1)] [] h Q := by
  unfold T_X9_tollFor at ht
  refine x_aload_n (pc2 := 1) 0 (n := 0) (x := a0) rfl dX9_tollFor_0 rfl ?_
  obtain ⟨k1, ht⟩ := ht
  refine y_getI (pc2 := 4) (κ := 9) (k := 5) fl_X9_9 (by decide) (by decide) k1 rfl dX9_tollFor_1 rfl ?_
  refine x_iload_n (pc2 := 5) 1 (n := 1) (x := x1) rfl dX9_tollFor_4 rfl ?_
  refine x_icmp_eq (pc2 := 8) 20 dX9_tollFor_5 (by decide) rfl (fun c2 => ?_) (fun c2 => ?_)
  · have ht := ht.1 c2
    refine x_iconst (pc2 := 21) (v := 0) (by decide) dX9_tollFor_20 rfl ?_
    refine x_goto 28 dX9_tollFor_21 (by decide) ?_
    exact x_ret (ty := .int) rfl rfl dX9_tollFor_28 ht
  · have ht := ht.2 c2
    refine x_aload_n (pc2 := 9) 0 (n := 0) (x := a0) rfl dX9_tollFor_8 rfl ?_
    refine y_getI (pc2 := 12) (κ := 9) (k := 11) fl_X9_46 (by decide) (by decide) k1 rfl dX9_tollFor_9 rfl ?_
    refine x_iload_n (pc2 := 13) 1 (n := 1) (x := x1) rfl dX9_tollFor_12 rfl ?_
    refine x_ishr (pc2 := 14) dX9_tollFor_13 rfl ?_
    refine x_iconst (pc2 := 15) (v := 1) (by decide) dX9_tollFor_14 rfl ?_
    refine x_iand (pc2 := 16) dX9_tollFor_15 rfl ?_
    refine x_iconst (pc2 := 17) (v := 1) (by decide) dX9_tollFor_16 rfl ?_
    refine y_icmp_ne (pc2 := 20) 24 dX9_tollFor_17 (by decide) rfl (fun c3 => ?_) (fun c3 => ?_)
    · have ht := ht.1 c3
      refine x_aload_n (pc2 := 25) 0 (n := 0) (x := a0) rfl dX9_tollFor_24 rfl ?_
      refine y_getI (pc2 := 28) (κ := 9) (k := 10) fl_X9_43 (by decide) (by decide) k1 rfl dX9_tollFor_25 rfl ?_
      exact x_ret (ty := .int) rfl rfl dX9_tollFor_28 ht
    · have ht := ht.2 c3
      refine x_iconst (pc2 := 21) (v := 0) (by decide) dX9_tollFor_20 rfl ?_
      refine x_goto 28 dX9_tollFor_21 (by decide) ?_
      exact x_ret (ty := .int) rfl rfl dX9_tollFor_28 ht
theorem e_X9_tollFor {G : GG} {d : Nat} {h : HP} {Q : Option Value → HP → Prop} {a0 : Nat} {x1 : Int32} (ht : T_X9_tollFor G d h Q a0 x1) : Cal G d mX9_tollFor [.ref a0, .int x1] h Q := cal_of rfl (Nat.le_of_ble_eq_true rfl) (t_X9_tollFor ht)
