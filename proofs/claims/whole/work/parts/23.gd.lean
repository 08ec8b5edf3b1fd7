def T_X6_init (G : GG) (d : Nat) (h : HP) (Q : Option Value → HP → Prop) (a0 : Nat) : Prop :=
  Kd G h a0 6 ∧ ∀ q2 h3, q2 = hZ (sI (sI h a0 0 20) a0 1 20) → h3 = nw (sI (sI h a0 0 20) a0 1 20) 14 ((1600 : Int32).toNatClampNeg) → ∀ q7 h8, q7 = hZ (sR h3 a0 5 (some q2)) → h8 = nw (sR h3 a0 5 (some q2)) 14 ((144 : Int32).toNatClampNeg) → ∀ q12 h13, q12 = hZ (sR h8 a0 6 (some q7)) → h13 = nw (sR h8 a0 6 (some q7)) 20 ((31 : Int32).toNatClampNeg) → ∀ q17 h18, q17 = hZ (sR h13 a0 7 (some q12)) → h18 = nw (sR h13 a0 7 (some q12)) 17 ((6 : Int32).toNatClampNeg) → ∃ q22, hR (sR h18 a0 8 (some q17)) a0 5 = some q22 ∧ Cal G (d - 1) mJ7_fill_53178 [.ref q22, .int 1] (sR h18 a0 8 (some q17)) (fun r24 h25 => r24 = none ∧ Ex G d mX6_init 62 [(0, .ref a0), (1, .int 0)] [] h25 Q)
set_option maxRecDepth 20000 in
theorem t_X6_init {G : GG} {d : Nat} {h : HP} {Q : Option Value → HP → Prop} {a0 : Nat} (hd1 : 1 ≤ d) (ht : T_X6_init G d h Q a0) : Ex G d mX6_init 0 [(0, .ref a0)] [] h Q := by
  unfold T_X6_init at ht
  refine x_aload_n (pc2 := 1) 0 (n := 0) (x := a0) rfl dX6_init_0 rfl ?_
  refine x_objInit (pc2 := 4) ml_X6_3 hd1 (Nat.le_of_ble_eq_true rfl) dX6_init_1 rfl ?_
  refine x_aload_n (pc2 := 5) 0 (n := 0) (x := a0) rfl dX6_init_4 rfl ?_
  refine x_bipush (pc2 := 7) (v := 20) (by decide) dX6_init_5 rfl ?_
  obtain ⟨k1, ht⟩ := ht
  refine x_putI (pc2 := 10) (κ := 6) (k := 0) fl_X6_9 (by decide) (by decide) (Or.inl rfl) rfl k1 dX6_init_7 rfl ?_
  refine x_aload_n (pc2 := 11) 0 (n := 0) (x := a0) rfl dX6_init_10 rfl ?_
  refine x_bipush (pc2 := 13) (v := 20) (by decide) dX6_init_11 rfl ?_
  refine x_putI (pc2 := 16) (κ := 6) (k := 1) fl_X6_15 (by decide) (by decide) (Or.inl rfl) rfl k1.sI dX6_init_13 rfl ?_
  refine x_aload_n (pc2 := 17) 0 (n := 0) (x := a0) rfl dX6_init_16 rfl ?_
  refine x_sipush (pc2 := 20) (v := 1600) (by decide) dX6_init_17 rfl ?_
  refine y_newa (pc2 := 22) (κ := 14) (at0 := .int) ac_int rfl (by decide) (by decide) (by decide) (by decide) dX6_init_20 rfl (fun q2 h3 e4 e5 p6 => ?_)
  replace ht := ht q2 h3 e4 e5
  refine x_putR (pc2 := 25) (v := (some q2)) (κ := 6) (k := 5) fl_X6_18 (by decide) (by decide) (Or.inr ⟨rfl, rfl⟩) (isRt_a _) (k1.sI.sI.up p6) dX6_init_22 rfl ?_
  refine x_aload_n (pc2 := 26) 0 (n := 0) (x := a0) rfl dX6_init_25 rfl ?_
  refine x_sipush (pc2 := 29) (v := 144) (by decide) dX6_init_26 rfl ?_
  refine y_newa (pc2 := 31) (κ := 14) (at0 := .int) ac_int rfl (by decide) (by decide) (by decide) (by decide) dX6_init_29 rfl (fun q7 h8 e9 e10 p11 => ?_)
  replace ht := ht q7 h8 e9 e10
  refine x_putR (pc2 := 34) (v := (some q7)) (κ := 6) (k := 6) fl_X6_22 (by decide) (by decide) (Or.inr ⟨rfl, rfl⟩) (isRt_a _) ((k1.sI.sI.up p6).sR.up p11) dX6_init_31 rfl ?_
  refine x_aload_n (pc2 := 35) 0 (n := 0) (x := a0) rfl dX6_init_34 rfl ?_
  refine x_bipush (pc2 := 37) (v := 31) (by decide) dX6_init_35 rfl ?_
  refine y_newq (pc2 := 40) (κ := 20) cl_X6_25 (by decide) (by decide) (by decide) (by decide) (by decide) dX6_init_37 rfl (fun q12 h13 e14 e15 p16 => ?_)
  replace ht := ht q12 h13 e14 e15
  refine x_putR (pc2 := 43) (v := (some q12)) (κ := 6) (k := 7) fl_X6_27 (by decide) (by decide) (Or.inr ⟨rfl, rfl⟩) (isRt_a _) (((k1.sI.sI.up p6).sR.up p11).sR.up p16) dX6_init_40 rfl ?_
  refine x_aload_n (pc2 := 44) 0 (n := 0) (x := a0) rfl dX6_init_43 rfl ?_
  refine x_bipush (pc2 := 46) (v := 6) (by decide) dX6_init_44 rfl ?_
  refine y_newq (pc2 := 49) (κ := 17) cl_X6_31 (by decide) (by decide) (by decide) (by decide) (by decide) dX6_init_46 rfl (fun q17 h18 e19 e20 p21 => ?_)
  replace ht := ht q17 h18 e19 e20
  refine x_putR (pc2 := 52) (v := (some q17)) (κ := 6) (k := 8) fl_X6_33 (by decide) (by decide) (Or.inr ⟨rfl, rfl⟩) (isRt_a _) ((((k1.sI.sI.up p6).sR.up p11).sR.up p16).sR.up p21) dX6_init_49 rfl ?_
  refine x_aload_n (pc2 := 53) 0 (n := 0) (x := a0) rfl dX6_init_52 rfl ?_
  obtain ⟨q22, e23, ht⟩ := ht
  refine y_getR (pc2 := 56) (κ := 6) (k := 5) fl_X6_18 (by decide) (by decide) ((((k1.sI.sI.up p6).sR.up p11).sR.up p16).sR.up p21).sR rfl e23 dX6_init_53 rfl ?_
  refine x_iconst (pc2 := 57) (v := 1) (by decide) dX6_init_56 rfl ?_
  refine x_callS (pc2 := 60) (As := [.ref q22, .int 1]) (rest := []) ms_J7_fill_53178 ml_X6_37 rfl rfl (Nat.le_of_ble_eq_true rfl) hd1 dX6_init_57 rfl (ht.mono (fun r24 h25 p26 ht' => ?_))
  clear ht
  obtain ⟨rfl, ht⟩ := ht'
  show Ex G d mX6_init 60 [(0, .ref a0)] [] h25 Q
  refine x_iconst (pc2 := 61) (v := 0) (by decide) dX6_init_60 rfl ?_
  refine x_istore_n (pc2 := 62) [1, 0] (n := 1) (x := 0) (lv2 := [(0, .ref a0), (1, .int 0)]) (by decide) rfl dX6_init_61 rfl ?_
  exact ht
theorem e_X6_init {G : GG} {d : Nat} {h : HP} {Q : Option Value → HP → Prop} {a0 : Nat} (hd1 : 1 ≤ d) (ht : T_X6_init G d h Q a0) : Cal G d mX6_init [.ref a0] h Q := cal_of rfl (Nat.le_of_ble_eq_true rfl) (t_X6_init hd1 ht)
def T_X6_init_62 (G : GG) (d : Nat) (h : HP) (Q : Option Value → HP → Prop) (a0 : Nat) (x1 : Int32) : Prop :=
  ((31 ≤ x1 → Ex G d mX6_init 89 [(0, .ref a0), (1, .int 0)] [] h Q) ∧ (¬ 31 ≤ x1 → Kd G h a0 6 ∧ ∃ q3, hR h a0 7 = some q3 ∧ ∀ q5 h6, q5 = hZ h → h6 = nw h 9 12 → Cal G (d - 1) mX9_init [.ref q5] h6 (fun r10 h11 => r10 = none ∧ Kd G h11 q3 20 ∧ vp_in x1 (hN h11 q3) ∧ Kd G h11 q5 9 ∧ Ex G d mX6_init 62 [(0, .ref a0), (1, .int (x1 + 1))] [] (sR h11 q3 x1.toNatClampNeg (some q5)) Q)))
set_option maxRecDepth 20000 in
theorem t_X6_init_62 {G : GG} {d : Nat} {h : HP} {Q : Option Value → HP → Prop} {a0 : Nat} {x1 : Int32} (hd1 : 1 ≤ d) (ht : T_X6_init_62 G d h Q a0 x1) : Ex G d mX6_init 62 [(0, .ref a0), (1, .int x1)] [] h Q := by
  unfold T_X6_init_62 at ht
  refine x_iload_n (pc2 := 63) 1 (n := 1) (x := x1) rfl dX6_init_62 rfl ?_
  refine x_bipush (pc2 := 65) (v := 31) (by decide) dX6_init_63 rfl ?_
  refine x_icmp_ge (pc2 := 68) 87 dX6_init_65 (by decide) rfl (fun c1 => ?_) (fun c1 => ?_)
  · replace ht := ht.1 c1
    refine x_iconst (pc2 := 88) (v := 0) (by decide) dX6_init_87 rfl ?_
    refine x_istore_n (pc2 := 89) [1, 0] (n := 1) (x := 0) (lv2 := [(0, .ref a0), (1, .int 0)]) (by decide) rfl dX6_init_88 rfl ?_
    exact ht
  · replace ht := ht.2 c1
    refine x_aload_n (pc2 := 69) 0 (n := 0) (x := a0) rfl dX6_init_68 rfl ?_
    obtain ⟨k2, ht⟩ := ht
    obtain ⟨q3, e4, ht⟩ := ht
    refine y_getR (pc2 := 72) (κ := 6) (k := 7) fl_X6_27 (by decide) (by decide) k2 rfl e4 dX6_init_69 rfl ?_
    refine x_iload_n (pc2 := 73) 1 (n := 1) (x := x1) rfl dX6_init_72 rfl ?_
    refine y_new (pc2 := 76) (κ := 9) cl_X6_25 (by decide) dX6_init_73 rfl (fun q5 h6 e7 e8 p9 => ?_)
    replace ht := ht q5 h6 e7 e8
    refine x_dup (pc2 := 77) rfl dX6_init_76 rfl ?_
    refine x_callIN (pc2 := 80) (As := []) (rest := [.ref q5, .int x1, .ref q3]) (b := q5) mi_X9_init nl_X6_43 rfl rfl (Nat.le_of_ble_eq_true rfl) hd1 dX6_init_77 rfl (ht.mono (fun r10 h11 p12 ht' => ?_))
    clear ht
    obtain ⟨rfl, ht⟩ := ht'
    show Ex G d mX6_init 80 [(0, .ref a0), (1, .int x1)] [.ref q5, .int x1, .ref q3] h11 Q
    obtain ⟨k13, ht⟩ := ht
    obtain ⟨b14, ht⟩ := ht
    obtain ⟨k15, ht⟩ := ht
    refine x_aast (pc2 := 81) (κ := 20) (by decide) k13 b14 k15 dX6_init_80 rfl ?_
    refine x_iinc (pc2 := 84) 1 [1, 0] (i := 1) (x := x1) (v := (x1 + 1)) (lv2 := [(0, .ref a0), (1, .int (x1 + 1))]) rfl (iinc_eq (by decide) _) (by decide) rfl dX6_init_81 rfl ?_
    refine x_goto 62 dX6_init_84 (by decide) ?_
    exact ht
def T_X6_init_89 (G : GG) (d : Nat) (h : HP) (Q : Option Value → HP → Prop) (a0 : Nat) (x1 : Int32) : Prop :=
  ((6 ≤ x1 → Q none h) ∧ (¬ 6 ≤ x1 → Kd G h a0 6 ∧ ∃ q3, hR h a0 8 = some q3 ∧ ∀ q5 h6, q5 = hZ h → h6 = nw h 1 6 → Cal G (d - 1) mX1_init [.ref q5] h6 (fun r10 h11 => r10 = none ∧ Kd G h11 q3 17 ∧ vp_in x1 (hN h11 q3) ∧ Kd G h11 q5 1 ∧ Ex G d mX6_init 89 [(0, .ref a0), (1, .int (x1 + 1))] [] (sR h11 q3 x1.toNatClampNeg (some q5)) Q)))
set_option maxRecDepth 20000 in
theorem t_X6_init_89 {G : GG} {d : Nat} {h : HP} {Q : Option Value → HP → Prop} {a0 : Nat} {x1 : Int32} (hd1 : 1 ≤ d) (ht : T_X6_init_89 G d h Q a0 x1) : Ex G d mX6_init 89 [(0, .ref a0), (1, .int x1)] [] h Q := by
  unfold T_X6_init_89 at ht
  refine x_iload_n (pc2 := 90) 1 (n := 1) (x := x1) rfl dX6_init_89 rfl ?_
  refine x_bipush (pc2 := 92) (v := 6) (by decide) dX6_init_90 rfl ?_
  refine x_icmp_ge (pc2 := 95) 114 dX6_init_92 (by decide) rfl (fun c1 => ?_) (fun c1 => ?_)
  · replace ht := ht.1 c1
    exact x_retV rfl dX6_init_114 ht
  · replace ht := ht.2 c1
    refine x_aload_n (pc2 := 96) 0 (n := 0) (x := a0) rfl dX6_init_95 rfl ?_
    obtain ⟨k2, ht⟩ := ht
    obtain ⟨q3, e4, ht⟩ := ht
    refine y_getR (pc2 := 99) (κ := 6) (k := 8) fl_X6_33 (by decide) (by decide) k2 rfl e4 dX6_init_96 rfl ?_
    refine x_iload_n (pc2 := 100) 1 (n := 1) (x := x1) rfl dX6_init_99 rfl ?_
    refine y_new (pc2 := 103) (κ := 1) cl_X6_31 (by decide) dX6_init_100 rfl (fun q5 h6 e7 e8 p9 => ?_)
    replace ht := ht q5 h6 e7 e8
    refine x_dup (pc2 := 104) rfl dX6_init_103 rfl ?_
    refine x_callIN (pc2 := 107) (As := []) (rest := [.ref q5, .int x1, .ref q3]) (b := q5) mi_X1_init nl_X6_44 rfl rfl (Nat.le_of_ble_eq_true rfl) hd1 dX6_init_104 rfl (ht.mono (fun r10 h11 p12 ht' => ?_))
    clear ht
    obtain ⟨rfl, ht⟩ := ht'
    show Ex G d mX6_init 107 [(0, .ref a0), (1, .int x1)] [.ref q5, .int x1, .ref q3] h11 Q
    obtain ⟨k13, ht⟩ := ht
    obtain ⟨b14, ht⟩ := ht
    obtain ⟨k15, ht⟩ := ht
    refine x_aast (pc2 := 108) (κ := 17) (by decide) k13 b14 k15 dX6_init_107 rfl ?_
    refine x_iinc (pc2 := 111) 1 [1, 0] (i := 1) (x := x1) (v := (x1 + 1)) (lv2 := [(0, .ref a0), (1, .int (x1 + 1))]) rfl (iinc_eq (by decide) _) (by decide) rfl dX6_init_108 rfl ?_
    refine x_goto 89 dX6_init_111 (by decide) ?_
    exact ht
def T_X6_copyFrom (G : GG) (d : Nat) (h : HP) (Q : Option Value → HP → Prop) (a0 : Nat) (a1 : Nat) : Prop :=
  Kd G h a1 6 ∧ Kd G h a0 6 ∧ ∀ h3, h3 = (sI (sI (sI h a0 0 (hI h a1 0)) a0 1 (hI (sI h a0 0 (hI h a1 0)) a1 1)) a0 2 (hI (sI (sI h a0 0 (hI h a1 0)) a0 1 (hI (sI h a0 0 (hI h a1 0)) a1 1)) a1 2)) → Cal G (d - 1) mX6_keepFeelings [.ref a0, .ref a1] (sI h3 a0 3 (hI h3 a1 3)) (fun r6 h7 => r6 = none ∧ ∃ q9, hR h7 a1 5 = some q9 ∧ ∃ q11, hR h7 a0 5 = some q11 ∧ Kd G h7 q9 14 ∧ Kd G h7 q11 14 ∧ (¬ 0 < (0 : Int32) ∧ ¬ 0 < (0 : Int32) ∧ ¬ (1600 : Int32) < 0 ∧ (0 : Int32).toNatClampNeg + (1600 : Int32).toNatClampNeg ≤ hN h7 q9 ∧ (0 : Int32).toNatClampNeg + (1600 : Int32).toNatClampNeg ≤ hN h7 q11) ∧ ∀ h16, h16 = (cpI h7 q9 (0 : Int32).toNatClampNeg q11 (0 : Int32).toNatClampNeg (1600 : Int32).toNatClampNeg) → Ex G d mX6_copyFrom 55 [(0, .ref a0), (1, .ref a1), (2, .int 0)] [] h16 Q)
set_option maxRecDepth 20000 in
theorem t_X6_copyFrom {G : GG} {d : Nat} {h : HP} {Q : Option Value → HP → Prop} {a0 : Nat} {a1 : Nat} (hd1 : 1 ≤ d) (ht : T_X6_copyFrom G d h Q a0 a1) : Ex G d mX6_copyFrom 0 [(0, .ref a0), (1, .ref a1)] [] h Q := by
  unfold T_X6_copyFrom at ht
  refine x_aload_n (pc2 := 1) 0 (n := 0) (x := a0) rfl dX6_copyFrom_0 rfl ?_
  refine x_aload_n (pc2 := 2) 1 (n := 1) (x := a1) rfl dX6_copyFrom_1 rfl ?_
  obtain ⟨k1, ht⟩ := ht
  refine y_getI (pc2 := 5) (κ := 6) (k := 0) fl_X6_9 (by decide) (by decide) k1 rfl dX6_copyFrom_2 rfl ?_
  obtain ⟨k2, ht⟩ := ht
  refine x_putI (pc2 := 8) (κ := 6) (k := 0) fl_X6_9 (by decide) (by decide) (Or.inl rfl) rfl k2 dX6_copyFrom_5 rfl ?_
  refine x_aload_n (pc2 := 9) 0 (n := 0) (x := a0) rfl dX6_copyFrom_8 rfl ?_
  refine x_aload_n (pc2 := 10) 1 (n := 1) (x := a1) rfl dX6_copyFrom_9 rfl ?_
  refine y_getI (pc2 := 13) (κ := 6) (k := 1) fl_X6_15 (by decide) (by decide) k1.sI rfl dX6_copyFrom_10 rfl ?_
  refine x_putI (pc2 := 16) (κ := 6) (k := 1) fl_X6_15 (by decide) (by decide) (Or.inl rfl) rfl k2.sI dX6_copyFrom_13 rfl ?_
  refine x_aload_n (pc2 := 17) 0 (n := 0) (x := a0) rfl dX6_copyFrom_16 rfl ?_
  refine x_aload_n (pc2 := 18) 1 (n := 1) (x := a1) rfl dX6_copyFrom_17 rfl ?_
  refine y_getI (pc2 := 21) (κ := 6) (k := 2) fl_X6_45 (by decide) (by decide) k1.sI.sI rfl dX6_copyFrom_18 rfl ?_
  refine x_putI (pc2 := 24) (κ := 6) (k := 2) fl_X6_45 (by decide) (by decide) (Or.inl rfl) rfl k2.sI.sI dX6_copyFrom_21 rfl ?_
  refine nm_I (fun h3 e4 p5 => ?_)
  replace ht := ht h3 e4
  refine x_aload_n (pc2 := 25) 0 (n := 0) (x := a0) rfl dX6_copyFrom_24 rfl ?_
  refine x_aload_n (pc2 := 26) 1 (n := 1) (x := a1) rfl dX6_copyFrom_25 rfl ?_
  refine y_getI (pc2 := 29) (κ := 6) (k := 3) fl_X6_48 (by decide) (by decide) (k1.sI.sI.up p5) rfl dX6_copyFrom_26 rfl ?_
  refine x_putI (pc2 := 32) (κ := 6) (k := 3) fl_X6_48 (by decide) (by decide) (Or.inl rfl) rfl (k2.sI.sI.up p5) dX6_copyFrom_29 rfl ?_
  refine x_aload_n (pc2 := 33) 0 (n := 0) (x := a0) rfl dX6_copyFrom_32 rfl ?_
  refine x_aload_n (pc2 := 34) 1 (n := 1) (x := a1) rfl dX6_copyFrom_33 rfl ?_
  refine x_callV (pc2 := 37) (As := [.ref a1]) (rest := []) (b := a0) mv_X6_keepFeelings ml_X6_51 (k2.sI.sI.up p5).sI rfl rfl (Nat.le_of_ble_eq_true rfl) hd1 dX6_copyFrom_34 rfl (ht.mono (fun r6 h7 p8 ht' => ?_))
  clear ht
  obtain ⟨rfl, ht⟩ := ht'
  show Ex G d mX6_copyFrom 37 [(0, .ref a0), (1, .ref a1)] [] h7 Q
  refine x_aload_n (pc2 := 38) 1 (n := 1) (x := a1) rfl dX6_copyFrom_37 rfl ?_
  obtain ⟨q9, e10, ht⟩ := ht
  refine y_getR (pc2 := 41) (κ := 6) (k := 5) fl_X6_18 (by decide) (by decide) ((k1.sI.sI.up p5).sI.up p8) rfl e10 dX6_copyFrom_38 rfl ?_
  refine x_iconst (pc2 := 42) (v := 0) (by decide) dX6_copyFrom_41 rfl ?_
  refine x_aload_n (pc2 := 43) 0 (n := 0) (x := a0) rfl dX6_copyFrom_42 rfl ?_
  obtain ⟨q11, e12, ht⟩ := ht
  refine y_getR (pc2 := 46) (κ := 6) (k := 5) fl_X6_18 (by decide) (by decide) ((k2.sI.sI.up p5).sI.up p8) rfl e12 dX6_copyFrom_43 rfl ?_
  refine x_iconst (pc2 := 47) (v := 0) (by decide) dX6_copyFrom_46 rfl ?_
  refine x_sipush (pc2 := 50) (v := 1600) (by decide) dX6_copyFrom_47 rfl ?_
  obtain ⟨k13, ht⟩ := ht
  obtain ⟨k14, ht⟩ := ht
  obtain ⟨b15, ht⟩ := ht
  refine x_copy (pc2 := 53) k13 k14 b15 ml_X6_55 hd1 (Nat.le_of_ble_eq_true rfl) dX6_copyFrom_50 rfl ?_
  refine nm_C (fun h16 e17 p18 => ?_)
  replace ht := ht h16 e17
  refine x_iconst (pc2 := 54) (v := 0) (by decide) dX6_copyFrom_53 rfl ?_
  refine x_istore_n (pc2 := 55) [1, 2, 0] (n := 2) (x := 0) (lv2 := [(0, .ref a0), (1, .ref a1), (2, .int 0)]) (by decide) rfl dX6_copyFrom_54 rfl ?_
  exact ht
theorem e_X6_copyFrom {G : GG} {d : Nat} {h : HP} {Q : Option Value → HP → Prop} {a0 : Nat} {a1 : Nat} (hd1 : 1 ≤ d) (ht : T_X6_copyFrom G d h Q a0 a1) : Cal G d mX6_copyFrom [.ref a0, .ref a1] h Q := cal_of rfl (Nat.le_of_ble_eq_true rfl) (t_X6_copyFrom hd1 ht)
def T_X6_copyFrom_55 (G : GG) (d : Nat) (h : HP) (Q : Option Value → HP → Prop) (a0 : Nat) (a1 : Nat) (x2 : Int32) : Prop :=
  ((31 ≤ x2 → Ex G d mX6_copyFrom 84 [(0, .ref a0), (1, .ref a1), (2, .int 0)] [] h Q) ∧ (¬ 31 ≤ x2 → Kd G h a0 6 ∧ ∃ q3, hR h a0 7 = some q3 ∧ Kd G h q3 20 ∧ vp_in x2 (hN h q3) ∧ ∃ q7, hR h q3 x2.toNatClampNeg = some q7 ∧ Kd G h a1 6 ∧ ∃ q10, hR h a1 7 = some q10 ∧ Kd G h q10 20 ∧ vp_in x2 (hN h q10) ∧ ∃ q14, hR h q10 x2.toNatClampNeg = some q14 ∧ Kd G h q7 9 ∧ Cal G (d - 1) mX9_copyFrom [.ref q7, .ref q14] h (fun r16 h17 => r16 = none ∧ Ex G d mX6_copyFrom 55 [(0, .ref a0), (1, .ref a1), (2, .int (x2 + 1))] [] h17 Q)))
set_option maxRecDepth 20000 in
theorem t_X6_copyFrom_55 {G : GG} {d : Nat} {h : HP} {Q : Option Value → HP → Prop} {a0 : Nat} {a1 : Nat} {x2 : Int32} (hd1 : 1 ≤ d) (ht : T_X6_copyFrom_55 G d h Q a0 a1 x2) : Ex G d mX6_copyFrom 55 [(0, .ref a0), (1, .ref a1), (2, .int x2)] [] h Q := by
  unfold T_X6_copyFrom_55 at ht
  refine x_iload_n (pc2 := 56) 2 (n := 2) (x := x2) rfl dX6_copyFrom_55 rfl ?_
  refine x_bipush (pc2 := 58) (v := 31) (by decide) dX6_copyFrom_56 rfl ?_
  refine x_icmp_ge (pc2 := 61) 82 dX6_copyFrom_58 (by decide) rfl (fun c1 => ?_) (fun c1 => ?_)
  · replace ht := ht.1 c1
    refine x_iconst (pc2 := 83) (v := 0) (by decide) dX6_copyFrom_82 rfl ?_
    refine x_istore_n (pc2 := 84) [1, 2, 0] (n := 2) (x := 0) (lv2 := [(0, .ref a0), (1, .ref a1), (2, .int 0)]) (by decide) rfl dX6_copyFrom_83 rfl ?_
    exact ht
  · replace ht := ht.2 c1
    refine x_aload_n (pc2 := 62) 0 (n := 0) (x := a0) rfl dX6_copyFrom_61 rfl ?_
    obtain ⟨k2, ht⟩ := ht
    obtain ⟨q3, e4, ht⟩ := ht
    refine y_getR (pc2 := 65) (κ := 6) (k := 7) fl_X6_27 (by decide) (by decide) k2 rfl e4 dX6_copyFrom_62 rfl ?_
    refine x_iload_n (pc2 := 66) 2 (n := 2) (x := x2) rfl dX6_copyFrom_65 rfl ?_
    obtain ⟨k5, ht⟩ := ht
    obtain ⟨b6, ht⟩ := ht
    obtain ⟨q7, e8, ht⟩ := ht
    refine y_aaldR (pc2 := 67) (κ := 20) (by decide) k5 b6 e8 dX6_copyFrom_66 rfl ?_
    refine x_aload_n (pc2 := 68) 1 (n := 1) (x := a1) rfl dX6_copyFrom_67 rfl ?_
    obtain ⟨k9, ht⟩ := ht
    obtain ⟨q10, e11, ht⟩ := ht
    refine y_getR (pc2 := 71) (κ := 6) (k := 7) fl_X6_27 (by decide) (by decide) k9 rfl e11 dX6_copyFrom_68 rfl ?_
    refine x_iload_n (pc2 := 72) 2 (n := 2) (x := x2) rfl dX6_copyFrom_71 rfl ?_
    obtain ⟨k12, ht⟩ := ht
    obtain ⟨b13, ht⟩ := ht
    obtain ⟨q14, e15, ht⟩ := ht
    refine y_aaldR (pc2 := 73) (κ := 20) (by decide) k12 b13 e15 dX6_copyFrom_72 rfl ?_
    obtain ⟨k19, ht⟩ := ht
    refine x_callV (pc2 := 76) (As := [.ref q14]) (rest := []) (b := q7) mv_X9_copyFrom ml_X6_61 k19 rfl rfl (Nat.le_of_ble_eq_true rfl) hd1 dX6_copyFrom_73 rfl (ht.mono (fun r16 h17 p18 ht' => ?_))
    clear ht
    obtain ⟨rfl, ht⟩ := ht'
    show Ex G d mX6_copyFrom 76 [(0, .ref a0), (1, .ref a1), (2, .int x2)] [] h17 Q
    refine x_iinc (pc2 := 79) 2 [1, 2, 0] (i := 2) (x := x2) (v := (x2 + 1)) (lv2 := [(0, .ref a0), (1, .ref a1), (2, .int (x2 + 1))]) rfl (iinc_eq (by decide) _) (by decide) rfl dX6_copyFrom_76 rfl ?_
    refine x_goto 55 dX6_copyFrom_79 (by decide) ?_
    exact ht
def T_X6_copyFrom_84 (G : GG) (d : Nat) (h : HP) (Q : Option Value → HP → Prop) (a0 : Nat) (a1 : Nat) (x2 : Int32) : Prop :=
  ((6 ≤ x2 → Q none h) ∧ (¬ 6 ≤ x2 → Kd G h a0 6 ∧ ∃ q3, hR h a0 8 = some q3 ∧ Kd G h q3 17 ∧ vp_in x2 (hN h q3) ∧ ∃ q7, hR h q3 x2.toNatClampNeg = some q7 ∧ Kd G h a1 6 ∧ ∃ q10, hR h a1 8 = some q10 ∧ Kd G h q10 17 ∧ vp_in x2 (hN h q10) ∧ ∃ q14, hR h q10 x2.toNatClampNeg = some q14 ∧ Kd G h q7 1 ∧ Cal G (d - 1) mX1_copyFrom [.ref q7, .ref q14] h (fun r16 h17 => r16 = none ∧ Ex G d mX6_copyFrom 84 [(0, .ref a0), (1, .ref a1), (2, .int (x2 + 1))] [] h17 Q)))
set_option maxRecDepth 20000 in
theorem t_X6_copyFrom_84 {G : GG} {d : Nat} {h : HP} {Q : Option Value → HP → Prop} {a0 : Nat} {a1 : Nat} {x2 : Int32} (hd1 : 1 ≤ d) (ht : T_X6_copyFrom_84 G d h Q a0 a1 x2) : Ex G d mX6_copyFrom 84 [(0, .ref a0), (1, .ref a1), (2, .int x2)] [] h Q := by
  unfold T_X6_copyFrom_84 at ht
  refine x_iload_n (pc2 := 85) 2 (n := 2) (x := x2) rfl dX6_copyFrom_84 rfl ?_
  refine x_bipush (pc2 := 87) (v := 6) (by decide) dX6_copyFrom_85 rfl ?_
  refine x_icmp_ge (pc2 := 90) 111 dX6_copyFrom_87 (by decide) rfl (fun c1 => ?_) (fun c1 => ?_)
  · replace ht := ht.1 c1
    exact x_retV rfl dX6_copyFrom_111 ht
  · replace ht := ht.2 c1
    refine x_aload_n (pc2 := 91) 0 (n := 0) (x := a0) rfl dX6_copyFrom_90 rfl ?_
    obtain ⟨k2, ht⟩ := ht
    obtain ⟨q3, e4, ht⟩ := ht
    refine y_getR (pc2 := 94) (κ := 6) (k := 8) fl_X6_33 (by decide) (by decide) k2 rfl e4 dX6_copyFrom_91 rfl ?_
    refine x_iload_n (pc2 := 95) 2 (n := 2) (x := x2) rfl dX6_copyFrom_94 rfl ?_
    obtain ⟨k5, ht⟩ := ht
    obtain ⟨b6, ht⟩ := ht
    obtain ⟨q7, e8, ht⟩ := ht
    refine y_aaldR (pc2 := 96) (κ := 17) (by decide) k5 b6 e8 dX6_copyFrom_95 rfl ?_
    refine x_aload_n (pc2 := 97) 1 (n := 1) (x := a1) rfl dX6_copyFrom_96 rfl ?_
    obtain ⟨k9, ht⟩ := ht
    obtain ⟨q10, e11, ht⟩ := ht
    refine y_getR (pc2 := 100) (κ := 6) (k := 8) fl_X6_33 (by decide) (by decide) k9 rfl e11 dX6_copyFrom_97 rfl ?_
    refine x_iload_n (pc2 := 101) 2 (n := 2) (x := x2) rfl dX6_copyFrom_100 rfl ?_
    obtain ⟨k12, ht⟩ := ht
    obtain ⟨b13, ht⟩ := ht
    obtain ⟨q14, e15, ht⟩ := ht
    refine y_aaldR (pc2 := 102) (κ := 17) (by decide) k12 b13 e15 dX6_copyFrom_101 rfl ?_
    obtain ⟨k19, ht⟩ := ht
    refine x_callV (pc2 := 105) (As := [.ref q14]) (rest := []) (b := q7) mv_X1_copyFrom ml_X6_65 k19 rfl rfl (Nat.le_of_ble_eq_true rfl) hd1 dX6_copyFrom_102 rfl (ht.mono (fun r16 h17 p18 ht' => ?_))
    clear ht
    obtain ⟨rfl, ht⟩ := ht'
    show Ex G d mX6_copyFrom 105 [(0, .ref a0), (1, .ref a1), (2, .int x2)] [] h17 Q
    refine x_iinc (pc2 := 108) 2 [1, 2, 0] (i := 2) (x := x2) (v := (x2 + 1)) (lv2 := [(0, .ref a0), (1, .ref a1), (2, .int (x2 + 1))]) rfl (iinc_eq (by decide) _) (by decide) rfl dX6_copyFrom_105 rfl ?_
    refine x_goto 84 dX6_copyFrom_108 (by decide) ?_
    exact ht
def T_X6_keepFeelings (G : GG) (d : Nat) (h : HP) (Q : Option Value → HP → Prop) (a0 : Nat) (a1 : Nat) : Prop :=
  Kd G h a1 6 ∧ Kd G h a0 6 ∧ ∃ q3, hR (sI h a0 4 (hI h a1 4)) a1 6 = some q3 ∧ ∃ q5, hR (sI h a0 4 (hI h a1 4)) a0 6 = some q5 ∧ Kd G (sI h a0 4 (hI h a1 4)) q5 14 ∧ Kd G (sI h a0 4 (hI h a1 4)) q3 14 ∧ (¬ 0 < (0 : Int32) ∧ ¬ 0 < (0 : Int32) ∧ ¬ (Int32.ofNat (hN (sI h a0 4 (hI h a1 4)) q5)) < 0 ∧ (0 : Int32).toNatClampNeg + (Int32.ofNat (hN (sI h a0 4 (hI h a1 4)) q5)).toNatClampNeg ≤ hN (sI h a0 4 (hI h a1 4)) q3 ∧ (0 : Int32).toNatClampNeg + (Int32.ofNat (hN (sI h a0 4 (hI h a1 4)) q5)).toNatClampNeg ≤ hN (sI h a0 4 (hI h a1 4)) q5) ∧ ∀ h10, h10 = (cpI (sI h a0 4 (hI h a1 4)) q3 (0 : Int32).toNatClampNeg q5 (0 : Int32).toNatClampNeg (Int32.ofNat (hN (sI h a0 4 (hI h a1 4)) q5)).toNatClampNeg) → Q none h10
set_option maxRecDepth 20000 in
theorem t_X6_keepFeelings {G : GG} {d : Nat} {h : HP} {Q : Option Value → HP → Prop} {a0 : Nat} {a1 : Nat} (hd1 : 1 ≤ d) (ht : T_X6_keepFeelings G d h Q a0 a1) : Ex G d mX6_keepFeelings 0 [(0, .ref a0), (1, .ref a1)] [] h Q := by
  unfold T_X6_keepFeelings at ht
  refine x_aload_n (pc2 := 1) 0 (n := 0) (x := a0) rfl dX6_keepFeelings_0 rfl ?_
  refine x_aload_n (pc2 := 2) 1 (n := 1) (x := a1) rfl dX6_keepFeelings_1 rfl ?_
  obtain ⟨k1, ht⟩ := ht
  refine y_getI (pc2 := 5) (κ := 6) (k := 4) fl_X6_68 (by decide) (by decide) k1 rfl dX6_keepFeelings_2 rfl ?_
  obtain ⟨k2, ht⟩ := ht
  refine x_putI (pc2 := 8) (κ := 6) (k := 4) fl_X6_68 (by decide) (by decide) (Or.inl rfl) rfl k2 dX6_keepFeelings_5 rfl ?_
  refine x_aload_n (pc2 := 9) 1 (n := 1) (x := a1) rfl dX6_keepFeelings_8 rfl ?_
  obtain ⟨q3, e4, ht⟩ := ht
  refine y_getR (pc2 := 12) (κ := 6) (k := 6) fl_X6_22 (by decide) (by decide) k1.sI rfl e4 dX6_keepFeelings_9 rfl ?_
  refine x_iconst (pc2 := 13) (v := 0) (by decide) dX6_keepFeelings_12 rfl ?_
  refine x_aload_n (pc2 := 14) 0 (n := 0) (x := a0) rfl dX6_keepFeelings_13 rfl ?_
  obtain ⟨q5, e6, ht⟩ := ht
  refine y_getR (pc2 := 17) (κ := 6) (k := 6) fl_X6_22 (by decide) (by decide) k2.sI rfl e6 dX6_keepFeelings_14 rfl ?_
  refine x_iconst (pc2 := 18) (v := 0) (by decide) dX6_keepFeelings_17 rfl ?_
  refine x_aload_n (pc2 := 19) 0 (n := 0) (x := a0) rfl dX6_keepFeelings_18 rfl ?_
  refine y_getR (pc2 := 22) (κ := 6) (k := 6) fl_X6_22 (by decide) (by decide) k2.sI rfl e6 dX6_keepFeelings_19 rfl ?_
  obtain ⟨k7, ht⟩ := ht
  refine x_alen (pc2 := 23) (κ := 14) (by decide) k7 dX6_keepFeelings_22 rfl ?_
  obtain ⟨k8, ht⟩ := ht
  obtain ⟨b9, ht⟩ := ht
  refine x_copy (pc2 := 26) k8 k7 b9 ml_X6_55 hd1 (Nat.le_of_ble_eq_true rfl) dX6_keepFeelings_23 rfl ?_
  refine nm_C (fun h10 e11 p12 => ?_)
  replace ht := ht h10 e11
  exact x_retV rfl dX6_keepFeelings_26 ht
theorem e_X6_keepFeelings {G : GG} {d : Nat} {h : HP} {Q : Option Value → HP → Prop} {a0 : Nat} {a1 : Nat} (hd1 : 1 ≤ d) (ht : T_X6_keepFeelings G d h Q a0 a1) : Cal G d mX6_keepFeelings [.ref a0, .ref a1] h Q := cal_of rfl (Nat.le_of_ble_eq_true rfl) (t_X6_keepFeelings hd1 ht)
def T_X6_wipe (G : GG) (d : Nat) (h : HP) (Q : Option Value → HP → Prop) (a0 : Nat) : Prop :=
  Kd G h a0 6 ∧ ∃ q2, hR (sI (sI (sI (sI h a0 0 20) a0 1 20) a0 2 0) a0 3 0) a0 5 = some q2 ∧ Cal G (d - 1) mJ7_fill_53178 [.ref q2, .int 1] (sI (sI (sI (sI h a0 0 20) a0 1 20) a0 2 0) a0 3 0) (fun r4 h5 => r4 = none ∧ Ex G d mX6_wipe 32 [(0, .ref a0), (1, .int 0)] [] h5 Q)
set_option maxRecDepth 20000 in
theorem t_X6_wipe {G : GG} {d : Nat} {h : HP} {Q : Option Value → HP → Prop} {a0 : Nat} (hd1 : 1 ≤ d) (ht : T_X6_wipe G d h Q a0) : Ex G d mX6_wipe 0 [(0, .ref a0)] [] h Q := by
  unfold T_X6_wipe at ht
  refine x_aload_n (pc2 := 1) 0 (n := 0) (x := a0) rfl dX6_wipe_0 rfl ?_
  refine x_bipush (pc2 := 3) (v := 20) (by decide) dX6_wipe_1 rfl ?_
  obtain ⟨k1, ht⟩ := ht
  refine x_putI (pc2 := 6) (κ := 6) (k := 0) fl_X6_9 (by decide) (by decide) (Or.inl rfl) rfl k1 dX6_wipe_3 rfl ?_
  refine x_aload_n (pc2 := 7) 0 (n := 0) (x := a0) rfl dX6_wipe_6 rfl ?_
  refine x_bipush (pc2 := 9) (v := 20) (by decide) dX6_wipe_7 rfl ?_
  refine x_putI (pc2 := 12) (κ := 6) (k := 1) fl_X6_15 (by decide) (by decide) (Or.inl rfl) rfl k1.sI dX6_wipe_9 rfl ?_
  refine x_aload_n (pc2 := 13) 0 (n := 0) (x := a0) rfl dX6_wipe_12 rfl ?_
  refine x_iconst (pc2 := 14) (v := 0) (by decide) dX6_wipe_13 rfl ?_
  refine x_putI (pc2 := 17) (κ := 6) (k := 2) fl_X6_45 (by decide) (by decide) (Or.inl rfl) rfl k1.sI.sI dX6_wipe_14 rfl ?_
  refine x_aload_n (pc2 := 18) 0 (n := 0) (x := a0) rfl dX6_wipe_17 rfl ?_
  refine x_iconst (pc2 := 19) (v := 0) (by decide) dX6_wipe_18 rfl ?_
  refine x_putI (pc2 := 22) (κ := 6) (k := 3) fl_X6_48 (by decide) (by decide) (Or.inl rfl) rfl k1.sI.sI.sI dX6_wipe_19 rfl ?_
  refine x_aload_n (pc2 := 23) 0 (n := 0) (x := a0) rfl dX6_wipe_22 rfl ?_
  obtain ⟨q2, e3, ht⟩ := ht
  refine y_getR (pc2 := 26) (κ := 6) (k := 5) fl_X6_18 (by decide) (by decide) k1.sI.sI.sI.sI rfl e3 dX6_wipe_23 rfl ?_
  refine x_iconst (pc2 := 27) (v := 1) (by decide) dX6_wipe_26 rfl ?_
  refine x_callS (pc2 := 30) (As := [.ref q2, .int 1]) (rest := []) ms_J7_fill_53178 ml_X6_37 rfl rfl (Nat.le_of_ble_eq_true rfl) hd1 dX6_wipe_27 rfl (ht.mono (fun r4 h5 p6 ht' => ?_))
  clear ht
  obtain ⟨rfl, ht⟩ := ht'
  show Ex G d mX6_wipe 30 [(0, .ref a0)] [] h5 Q
  refine x_iconst (pc2 := 31) (v := 0) (by decide) dX6_wipe_30 rfl ?_
  refine x_istore_n (pc2 := 32) [1, 0] (n := 1) (x := 0) (lv2 := [(0, .ref a0), (1, .int 0)]) (by decide) rfl dX6_wipe_31 rfl ?_
  exact ht
theorem e_X6_wipe {G : GG} {d : Nat} {h : HP} {Q : Option Value → HP → Prop} {a0 : Nat} (hd1 : 1 ≤ d) (ht : T_X6_wipe G d h Q a0) : Cal G d mX6_wipe [.ref a0] h Q := cal_of rfl (Nat.le_of_ble_eq_true rfl) (t_X6_wipe hd1 ht)
def T_X6_wipe_32 (G : GG) (d : Nat) (h : HP) (Q : Option Value → HP → Prop) (a0 : Nat) (x1 : Int32) : Prop :=
  ((31 ≤ x1 → Ex G d mX6_wipe 56 [(0, .ref a0), (1, .int 0)] [] h Q) ∧ (¬ 31 ≤ x1 → Kd G h a0 6 ∧ ∃ q3, hR h a0 7 = some q3 ∧ Kd G h q3 20 ∧ vp_in x1 (hN h q3) ∧ ∃ q7, hR h q3 x1.toNatClampNeg = some q7 ∧ Kd G h q7 9 ∧ Ex G d mX6_wipe 32 [(0, .ref a0), (1, .int (x1 + 1))] [] (sI h q7 0 0) Q))
set_option maxRecDepth 20000 in
theorem t_X6_wipe_32 {G : GG} {d : Nat} {h : HP} {Q : Option Value → HP → Prop} {a0 : Nat} {x1 : Int32} (ht : T_X6_wipe_32 G d h Q a0 x1) : Ex G d mX6_wipe 32 [(0, .ref a0), (1, .int x1)] [] h Q := by
  unfold T_X6_wipe_32 at ht
  refine x_iload_n (pc2 := 33) 1 (n := 1) (x := x1) rfl dX6_wipe_32 rfl ?_
  refine x_bipush (pc2 := 35) (v := 31) (by decide) dX6_wipe_33 rfl ?_
  refine x_icmp_ge (pc2 := 38) 54 dX6_wipe_35 (by decide) rfl (fun c1 => ?_) (fun c1 => ?_)
  · replace ht := ht.1 c1
    refine x_iconst (pc2 := 55) (v := 0) (by decide) dX6_wipe_54 rfl ?_
    refine x_istore_n (pc2 := 56) [1, 0] (n := 1) (x := 0) (lv2 := [(0, .ref a0), (1, .int 0)]) (by decide) rfl dX6_wipe_55 rfl ?_
    exact ht
  · replace ht := ht.2 c1
    refine x_aload_n (pc2 := 39) 0 (n := 0) (x := a0) rfl dX6_wipe_38 rfl ?_
    obtain ⟨k2, ht⟩ := ht
    obtain ⟨q3, e4, ht⟩ := ht
    refine y_getR (pc2 := 42) (κ := 6) (k := 7) fl_X6_27 (by decide) (by decide) k2 rfl e4 dX6_wipe_39 rfl ?_
    refine x_iload_n (pc2 := 43) 1 (n := 1) (x := x1) rfl dX6_wipe_42 rfl ?_
    obtain ⟨k5, ht⟩ := ht
    obtain ⟨b6, ht⟩ := ht
    obtain ⟨q7, e8, ht⟩ := ht
    refine y_aaldR (pc2 := 44) (κ := 20) (by decide) k5 b6 e8 dX6_wipe_43 rfl ?_
    refine x_iconst (pc2 := 45) (v := 0) (by decide) dX6_wipe_44 rfl ?_
    obtain ⟨k9, ht⟩ := ht
    refine x_putZ (pc2 := 48) (κ := 9) (k := 0) (Or.inl rfl) fl_X6_71 (by decide) (by decide) (Or.inl rfl) rfl k9 dX6_wipe_45 rfl ?_
    refine x_iinc (pc2 := 51) 1 [1, 0] (i := 1) (x := x1) (v := (x1 + 1)) (lv2 := [(0, .ref a0), (1, .int (x1 + 1))]) rfl (iinc_eq (by decide) _) (by decide) rfl dX6_wipe_48 rfl ?_
    refine x_goto 32 dX6_wipe_51 (by decide) ?_
    exact ht
def T_X6_wipe_56 (G : GG) (d : Nat) (h : HP) (Q : Option Value → HP → Prop) (a0 : Nat) (x1 : Int32) : Prop :=
  ((6 ≤ x1 → Q none h) ∧ (¬ 6 ≤ x1 → Kd G h a0 6 ∧ ∃ q3, hR h a0 8 = some q3 ∧ Kd G h q3 17 ∧ vp_in x1 (hN h q3) ∧ ∃ q7, hR h q3 x1.toNatClampNeg = some q7 ∧ Kd G h q7 1 ∧ Ex G d mX6_wipe 56 [(0, .ref a0), (1, .int (x1 + 1))] [] (sI h q7 0 0) Q))
set_option maxRecDepth 20000 in
theorem t_X6_wipe_56 {G : GG} {d : Nat} {h : HP} {Q : Option Value → HP → Prop} {a0 : Nat} {x1 : Int32} (ht : T_X6_wipe_56 G d h Q a0 x1) : Ex G d mX6_wipe 56 [(0, .ref a0), (1, .int x1)] [] h Q := by
  unfold T_X6_wipe_56 at ht
  refine x_iload_n (pc2 := 57) 1 (n := 1) (x := x1) rfl dX6_wipe_56 rfl ?_
  refine x_bipush (pc2 := 59) (v := 6) (by decide) dX6_wipe_57 rfl ?_
  refine x_icmp_ge (pc2 := 62) 78 dX6_wipe_59 (by decide) rfl (fun c1 => ?_) (fun c1 => ?_)
  · replace ht := ht.1 c1
    exact x_retV rfl dX6_wipe_78 ht
  · replace ht := ht.2 c1
    refine x_aload_n (pc2 := 63) 0 (n := 0) (x := a0) rfl dX6_wipe_62 rfl ?_
    obtain ⟨k2, ht⟩ := ht
    obtain ⟨q3, e4, ht⟩ := ht
    refine y_getR (pc2 := 66) (κ := 6) (k := 8) fl_X6_33 (by decide) (by decide) k2 rfl e4 dX6_wipe_63 rfl ?_
    refine x_iload_n (pc2 := 67) 1 (n := 1) (x := x1) rfl dX6_wipe_66 rfl ?_
    obtain ⟨k5, ht⟩ := ht
    obtain ⟨b6, ht⟩ := ht
    obtain ⟨q7, e8, ht⟩ := ht
    refine y_aaldR (pc2 := 68) (κ := 17) (by decide) k5 b6 e8 dX6_wipe_67 rfl ?_
    refine x_iconst (pc2 := 69) (v := 0) (by decide) dX6_wipe_68 rfl ?_
    obtain ⟨k9, ht⟩ := ht
    refine x_putZ (pc2 := 72) (κ := 1) (k := 0) (Or.inl rfl) fl_X6_75 (by decide) (by decide) (Or.inl rfl) rfl k9 dX6_wipe_69 rfl ?_
    refine x_iinc (pc2 := 75) 1 [1, 0] (i := 1) (x := x1) (v := (x1 + 1)) (lv2 := [(0, .ref a0), (1, .int (x1 + 1))]) rfl (iinc_eq (by decide) _) (by decide) rfl dX6_wipe_72 rfl ?_
    refine x_goto 56 dX6_wipe_75 (by decide) ?_
    exact ht
def T_X6_hasCell (G : GG) (d : Nat) (h : HP) (Q : Option Value → HP → Prop) (a0 : Nat) (x1 : Int32) (x2 : Int32) : Prop :=
  ((x1 < 0 → Q (some (.int 0)) h) ∧ (¬ x1 < 0 → Kd G h a0 6 ∧ (((hI h a0 0) ≤ x1 → Q (some (.int 0)) h) ∧ (¬ (hI h a0 0) ≤ x1 → ((x2 < 0 → Q (some (.int 0)) h) ∧ (¬ x2 < 0 → (((hI h a0 1) ≤ x2 → Q (some (.int 0)) h) ∧ (¬ (hI h a0 1) ≤ x2 → Q (some (.int 1)) h))))))))
set_option maxRecDepth 20000 in
theorem t_X6_hasCell {G : GG} {d : Nat} {h : HP} {Q : Option Value → HP → Prop} {a0 : Nat} {x1 : Int32} {x2 : Int32} (ht : T_X6_hasCell G d h Q a0 x1 x2) : Ex G d mX6_hasCell 0 [(0, .ref a0), (1, .int x1), (2, .int x2)] [] h Q := by
  unfold T_X6_hasCell at ht
  refine x_iload_n (pc2 := 1) 1 (n := 1) (x := x1) rfl dX6_hasCell_0 rfl ?_
  refine x_if_lt (pc2 := 4) 28 dX6_hasCell_1 (by decide) rfl (fun c1 => ?_) (fun c1 => ?_)
  · replace ht := ht.1 c1
    refine x_iconst (pc2 := 29) (v := 0) (by decide) dX6_hasCell_28 rfl ?_
    exact x_retZ rfl (Or.inl rfl) dX6_hasCell_29 ht
  · replace ht := ht.2 c1
    refine x_iload_n (pc2 := 5) 1 (n := 1) (x := x1) rfl dX6_hasCell_4 rfl ?_
    refine x_aload_n (pc2 := 6) 0 (n := 0) (x := a0) rfl dX6_hasCell_5 rfl ?_
    obtain ⟨k2, ht⟩ := ht
    refine y_getI (pc2 := 9) (κ := 6) (k := 0) fl_X6_9 (by decide) (by decide) k2 rfl dX6_hasCell_6 rfl ?_
    refine x_icmp_ge (pc2 := 12) 28 dX6_hasCell_9 (by decide) rfl (fun c3 => ?_) (fun c3 => ?_)
    · replace ht := ht.1 c3
      refine x_iconst (pc2 := 29) (v := 0) (by decide) dX6_hasCell_28 rfl ?_
      exact x_retZ rfl (Or.inl rfl) dX6_hasCell_29 ht
    · replace ht := ht.2 c3
      refine x_iload_n (pc2 := 13) 2 (n := 2) (x := x2) rfl dX6_hasCell_12 rfl ?_
      refine x_if_lt (pc2 := 16) 28 dX6_hasCell_13 (by decide) rfl (fun c4 => ?_) (fun c4 => ?_)
      · replace ht := ht.1 c4
        refine x_iconst (pc2 := 29) (v := 0) (by decide) dX6_hasCell_28 rfl ?_
        exact x_retZ rfl (Or.inl rfl) dX6_hasCell_29 ht
      · replace ht := ht.2 c4
        refine x_iload_n (pc2 := 17) 2 (n := 2) (x := x2) rfl dX6_hasCell_16 rfl ?_
        refine x_aload_n (pc2 := 18) 0 (n := 0) (x := a0) rfl dX6_hasCell_17 rfl ?_
        refine y_getI (pc2 := 21) (κ := 6) (k := 1) fl_X6_15 (by decide) (by decide) k2 rfl dX6_hasCell_18 rfl ?_
        refine x_icmp_ge (pc2 := 24) 28 dX6_hasCell_21 (by decide) rfl (fun c5 => ?_) (fun c5 => ?_)
        · replace ht := ht.1 c5
          refine x_iconst (pc2 := 29) (v := 0) (by decide) dX6_hasCell_28 rfl ?_
          exact x_retZ rfl (Or.inl rfl) dX6_hasCell_29 ht
        · replace ht := ht.2 c5
          refine x_iconst (pc2 := 25) (v := 1) (by decide) dX6_hasCell_24 rfl ?_
          refine x_goto 29 dX6_hasCell_25 (by decide) ?_
          exact x_retZ rfl (Or.inr rfl) dX6_hasCell_29 ht
theorem e_X6_hasCell {G : GG} {d : Nat} {h : HP} {Q : Option Value → HP → Prop} {a0 : Nat} {x1 : Int32} {x2 : Int32} (ht : T_X6_hasCell G d h Q a0 x1 x2) : Cal G d mX6_hasCell [.ref a0, .int x1, .int x2] h Q := cal_of rfl (Nat.le_of_ble_eq_true rfl) (t_X6_hasCell ht)
def T_X6_hasEnds (G : GG) (d : Nat) (h : HP) (Q : Option Value → HP → Prop) (a0 : Nat) (a1 : Nat) : Prop :=
  Kd G h a1 1 ∧ Kd G h a0 6 ∧ Cal G (d - 1) mX6_hasCell [.ref a0, .int (hI h a1 2), .int (hI h a1 3)] h (fun r2 h3 => ∃ v6, r2 = some (.int v6) ∧ ((v6 = 0 → Q (some (.int 0)) h3) ∧ (¬ v6 = 0 → Cal G (d - 1) mX6_hasCell [.ref a0, .int (hI h3 a1 4), .int (hI h3 a1 5)] h3 (fun r8 h9 => ∃ v11, r8 = some (.int v11) ∧ ((v11 = 0 → Q (some (.int 0)) h9) ∧ (¬ v11 = 0 → Q (some (.int 1)) h9))))))
set_option maxRecDepth 20000 in
theorem t_X6_hasEnds {G : GG} {d : Nat} {h : HP} {Q : Option Value → HP → Prop} {a0 : Nat} {a1 : Nat} (hd1 : 1 ≤ d) (ht : T_X6_hasEnds G d h Q a0 a1) : Ex G d mX6_hasEnds 0 [(0, .ref a0), (1, .ref a1)] [] h Q := by
  unfold T_X6_hasEnds at ht
  refine x_aload_n (pc2 := 1) 0 (n := 0) (x := a0) rfl dX6_hasEnds_0 rfl ?_
  refine x_aload_n (pc2 := 2) 1 (n := 1) (x := a1) rfl dX6_hasEnds_1 rfl ?_
  obtain ⟨k1, ht⟩ := ht
  refine y_getI (pc2 := 5) (κ := 1) (k := 2) fl_X6_78 (by decide) (by decide) k1 rfl dX6_hasEnds_2 rfl ?_
  refine x_aload_n (pc2 := 6) 1 (n := 1) (x := a1) rfl dX6_hasEnds_5 rfl ?_
  refine y_getI (pc2 := 9) (κ := 1) (k := 3) fl_X6_81 (by decide) (by decide) k1 rfl dX6_hasEnds_6 rfl ?_
  obtain ⟨k5, ht⟩ := ht
  refine x_callV (pc2 := 12) (As := [.int (hI h a1 2), .int (hI h a1 3)]) (rest := []) (b := a0) mv_X6_hasCell ml_X6_84 k5 rfl rfl (Nat.le_of_ble_eq_true rfl) hd1 dX6_hasEnds_9 rfl (ht.mono (fun r2 h3 p4 ht' => ?_))
  clear ht
  obtain ⟨v6, rfl, ht⟩ := ht'
  show Ex G d mX6_hasEnds 12 [(0, .ref a0), (1, .ref a1)] [.int v6] h3 Q
  refine x_if_eq (pc2 := 15) 34 dX6_hasEnds_12 (by decide) rfl (fun c7 => ?_) (fun c7 => ?_)
  · replace ht := ht.1 c7
    refine x_iconst (pc2 := 35) (v := 0) (by decide) dX6_hasEnds_34 rfl ?_
    exact x_retZ rfl (Or.inl rfl) dX6_hasEnds_35 ht
  · replace ht := ht.2 c7
    refine x_aload_n (pc2 := 16) 0 (n := 0) (x := a0) rfl dX6_hasEnds_15 rfl ?_
    refine x_aload_n (pc2 := 17) 1 (n := 1) (x := a1) rfl dX6_hasEnds_16 rfl ?_
    refine y_getI (pc2 := 20) (κ := 1) (k := 4) fl_X6_88 (by decide) (by decide) (k1.up p4) rfl dX6_hasEnds_17 rfl ?_
    refine x_aload_n (pc2 := 21) 1 (n := 1) (x := a1) rfl dX6_hasEnds_20 rfl ?_
    refine y_getI (pc2 := 24) (κ := 1) (k := 5) fl_X6_91 (by decide) (by decide) (k1.up p4) rfl dX6_hasEnds_21 rfl ?_
    refine x_callV (pc2 := 27) (As := [.int (hI h3 a1 4), .int (hI h3 a1 5)]) (rest := []) (b := a0) mv_X6_hasCell ml_X6_84 (k5.up p4) rfl rfl (Nat.le_of_ble_eq_true rfl) hd1 dX6_hasEnds_24 rfl (ht.mono (fun r8 h9 p10 ht' => ?_))
    clear ht
    obtain ⟨v11, rfl, ht⟩ := ht'
    show Ex G d mX6_hasEnds 27 [(0, .ref a0), (1, .ref a1)] [.int v11] h9 Q
    refine x_if_eq (pc2 := 30) 34 dX6_hasEnds_27 (by decide) rfl (fun c12 => ?_) (fun c12 => ?_)
    · replace ht := ht.1 c12
      refine x_iconst (pc2 := 35) (v := 0) (by decide) dX6_hasEnds_34 rfl ?_
      exact x_retZ rfl (Or.inl rfl) dX6_hasEnds_35 ht
    · replace ht := ht.2 c12
      refine x_iconst (pc2 := 31) (v := 1) (by decide) dX6_hasEnds_30 rfl ?_
      refine x_goto 35 dX6_hasEnds_31 (by decide) ?_
      exact x_retZ rfl (Or.inr rfl) dX6_hasEnds_35 ht
theorem e_X6_hasEnds {G : GG} {d : Nat} {h : HP} {Q : Option Value → HP → Prop} {a0 : Nat} {a1 : Nat} (hd1 : 1 ≤ d) (ht : T_X6_hasEnds G d h Q a0 a1) : Cal G d mX6_hasEnds [.ref a0, .ref a1] h Q := cal_of rfl (Nat.le_of_ble_eq_true rfl) (t_X6_hasEnds hd1 ht)
def T_X6_holds (G : GG) (d : Nat) (h : HP) (Q : Option Value → HP → Prop) (a0 : Nat) (a1 : Nat) : Prop :=
  Kd G h a1 3 ∧ (((hI h a1 1) < 0 → Q (some (.int 0)) h) ∧ (¬ (hI h a1 1) < 0 → (((hI h a1 2) < 0 → Q (some (.int 0)) h) ∧ (¬ (hI h a1 2) < 0 → (((hI h a1 3) ≤ (hI h a1 1) → Q (some (.int 0)) h) ∧ (¬ (hI h a1 3) ≤ (hI h a1 1) → (((hI h a1 4) ≤ (hI h a1 2) → Q (some (.int 0)) h) ∧ (¬ (hI h a1 4) ≤ (hI h a1 2) → Kd G h a0 6 ∧ (((hI h a0 0) < (hI h a1 3) → Q (some (.int 0)) h) ∧ (¬ (hI h a0 0) < (hI h a1 3) → (((hI h a0 1) < (hI h a1 4) → Q (some (.int 0)) h) ∧ (¬ (hI h a0 1) < (hI h a1 4) → Q (some (.int 1)) h))))))))))))
set_option maxRecDepth 20000 in
theorem t_X6_holds {G : GG} {d : Nat} {h : HP} {Q : Option Value → HP → Prop} {a0 : Nat} {a1 : Nat} (ht : T_X6_holds G d h Q a0 a1) : Ex G d mX6_holds 0 [(0, .ref a0), (1, .ref a1)] [] h Q := by
  unfold T_X6_holds at ht
  refine x_aload_n (pc2 := 1) 1 (n := 1) (x := a1) rfl dX6_holds_0 rfl ?_
  obtain ⟨k1, ht⟩ := ht
  refine y_getI (pc2 := 4) (κ := 3) (k := 1) fl_X6_94 (by decide) (by decide) k1 rfl dX6_holds_1 rfl ?_
  refine x_if_lt (pc2 := 7) 62 dX6_holds_4 (by decide) rfl (fun c2 => ?_) (fun c2 => ?_)
  · replace ht := ht.1 c2
    refine x_iconst (pc2 := 63) (v := 0) (by decide) dX6_holds_62 rfl ?_
    exact x_retZ rfl (Or.inl rfl) dX6_holds_63 ht
  · replace ht := ht.2 c2
    refine x_aload_n (pc2 := 8) 1 (n := 1) (x := a1) rfl dX6_holds_7 rfl ?_
    refine y_getI (pc2 := 11) (κ := 3) (k := 2) fl_X6_97 (by decide) (by decide) k1 rfl dX6_holds_8 rfl ?_
    refine x_if_lt (pc2 := 14) 62 dX6_holds_11 (by decide) rfl (fun c3 => ?_) (fun c3 => ?_)
    · replace ht := ht.1 c3
      refine x_iconst (pc2 := 63) (v := 0) (by decide) dX6_holds_62 rfl ?_
      exact x_retZ rfl (Or.inl rfl) dX6_holds_63 ht
    · replace ht := ht.2 c3
      refine x_aload_n (pc2 := 15) 1 (n := 1) (x := a1) rfl dX6_holds_14 rfl ?_
      refine y_getI (pc2 := 18) (κ := 3) (k := 1) fl_X6_94 (by decide) (by decide) k1 rfl dX6_holds_15 rfl ?_
      refine x_aload_n (pc2 := 19) 1 (n := 1) (x := a1) rfl dX6_holds_18 rfl ?_
      refine y_getI (pc2 := 22) (κ := 3) (k := 3) fl_X6_98 (by decide) (by decide) k1 rfl dX6_holds_19 rfl ?_
      refine x_icmp_ge (pc2 := 25) 62 dX6_holds_22 (by decide) rfl (fun c4 => ?_) (fun c4 => ?_)
      · replace ht := ht.1 c4
        refine x_iconst (pc2 := 63) (v := 0) (by decide) dX6_holds_62 rfl ?_
        exact x_retZ rfl (Or.inl rfl) dX6_holds_63 ht
      · replace ht := ht.2 c4
        refine x_aload_n (pc2 := 26) 1 (n := 1) (x := a1) rfl dX6_holds_25 rfl ?_
        refine y_getI (pc2 := 29) (κ := 3) (k := 2) fl_X6_97 (by decide) (by decide) k1 rfl dX6_holds_26 rfl ?_
        refine x_aload_n (pc2 := 30) 1 (n := 1) (x := a1) rfl dX6_holds_29 rfl ?_
        refine y_getI (pc2 := 33) (κ := 3) (k := 4) fl_X6_99 (by decide) (by decide) k1 rfl dX6_holds_30 rfl ?_
        refine x_icmp_ge (pc2 := 36) 62 dX6_holds_33 (by decide) rfl (fun c5 => ?_) (fun c5 => ?_)
        · replace ht := ht.1 c5
          refine x_iconst (pc2 := 63) (v := 0) (by decide) dX6_holds_62 rfl ?_
          exact x_retZ rfl (Or.inl rfl) dX6_holds_63 ht
        · replace ht := ht.2 c5
          refine x_aload_n (pc2 := 37) 1 (n := 1) (x := a1) rfl dX6_holds_36 rfl ?_
          refine y_getI (pc2 := 40) (κ := 3) (k := 3) fl_X6_98 (by decide) (by decide) k1 rfl dX6_holds_37 rfl ?_
          refine x_aload_n (pc2 := 41) 0 (n := 0) (x := a0) rfl dX6_holds_40 rfl ?_
          obtain ⟨k6, ht⟩ := ht
          refine y_getI (pc2 := 44) (κ := 6) (k := 0) fl_X6_9 (by decide) (by decide) k6 rfl dX6_holds_41 rfl ?_
          refine x_icmp_gt (pc2 := 47) 62 dX6_holds_44 (by decide) rfl (fun c7 => ?_) (fun c7 => ?_)
          · replace ht := ht.1 c7
            refine x_iconst (pc2 := 63) (v := 0) (by decide) dX6_holds_62 rfl ?_
            exact x_retZ rfl (Or.inl rfl) dX6_holds_63 ht
          · replace ht := ht.2 c7
            refine x_aload_n (pc2 := 48) 1 (n := 1) (x := a1) rfl dX6_holds_47 rfl ?_
            refine y_getI (pc2 := 51) (κ := 3) (k := 4) fl_X6_99 (by decide) (by decide) k1 rfl dX6_holds_48 rfl ?_
            refine x_aload_n (pc2 := 52) 0 (n := 0) (x := a0) rfl dX6_holds_51 rfl ?_
            refine y_getI (pc2 := 55) (κ := 6) (k := 1) fl_X6_15 (by decide) (by decide) k6 rfl dX6_holds_52 rfl ?_
            refine x_icmp_gt (pc2 := 58) 62 dX6_holds_55 (by decide) rfl (fun c8 => ?_) (fun c8 => ?_)
            · replace ht := ht.1 c8
              refine x_iconst (pc2 := 63) (v := 0) (by decide) dX6_holds_62 rfl ?_
              exact x_retZ rfl (Or.inl rfl) dX6_holds_63 ht
            · replace ht := ht.2 c8
              refine x_iconst (pc2 := 59) (v := 1) (by decide) dX6_holds_58 rfl ?_
              refine x_goto 63 dX6_holds_59 (by decide) ?_
              exact x_retZ rfl (Or.inr rfl) dX6_holds_63 ht
theorem e_X6_holds {G : GG} {d : Nat} {h : HP} {Q : Option Value → HP → Prop} {a0 : Nat} {a1 : Nat} (ht : T_X6_holds G d h Q a0 a1) : Cal G d mX6_holds [.ref a0, .ref a1] h Q := cal_of rfl (Nat.le_of_ble_eq_true rfl) (t_X6_holds ht)
def T_X6_isThere (G : GG) (d : Nat) (h : HP) (Q : Option Value → HP → Prop) (a0 : Nat) (x1 : Int32) : Prop :=
  ((x1 < 0 → Q (some (.int 0)) h) ∧ (¬ x1 < 0 → ((30 ≤ x1 → Q (some (.int 0)) h) ∧ (¬ 30 ≤ x1 → Kd G h a0 6 ∧ ∃ q4, hR h a0 7 = some q4 ∧ Kd G h q4 20 ∧ vp_in x1 (hN h q4) ∧ ∃ q8, hR h q4 x1.toNatClampNeg = some q8 ∧ Kd G h q8 9 ∧ (((hI h q8 0) = 0 → Q (some (.int 0)) h) ∧ (¬ (hI h q8 0) = 0 → Q (some (.int 1)) h))))))
set_option maxRecDepth 20000 in
theorem t_X6_isThere {G : GG} {d : Nat} {h : HP} {Q : Option Value → HP → Prop} {a0 : Nat} {x1 : Int32} (ht : T_X6_isThere G d h Q a0 x1) : Ex G d mX6_isThere 0 [(0, .ref a0), (1, .int x1)] [] h Q := by
  unfold T_X6_isThere at ht
  refine x_iload_n (pc2 := 1) 1 (n := 1) (x := x1) rfl dX6_isThere_0 rfl ?_
  refine x_if_lt (pc2 := 4) 26 dX6_isThere_1 (by decide) rfl (fun c1 => ?_) (fun c1 => ?_)
  · replace ht := ht.1 c1
    refine x_iconst (pc2 := 27) (v := 0) (by decide) dX6_isThere_26 rfl ?_
    exact x_retZ rfl (Or.inl rfl) dX6_isThere_27 ht
  · replace ht := ht.2 c1
    refine x_iload_n (pc2 := 5) 1 (n := 1) (x := x1) rfl dX6_isThere_4 rfl ?_
    refine x_bipush (pc2 := 7) (v := 30) (by decide) dX6_isThere_5 rfl ?_
    refine x_icmp_ge (pc2 := 10) 26 dX6_isThere_7 (by decide) rfl (fun c2 => ?_) (fun c2 => ?_)
    · replace ht := ht.1 c2
      refine x_iconst (pc2 := 27) (v := 0) (by decide) dX6_isThere_26 rfl ?_
      exact x_retZ rfl (Or.inl rfl) dX6_isThere_27 ht
    · replace ht := ht.2 c2
      refine x_aload_n (pc2 := 11) 0 (n := 0) (x := a0) rfl dX6_isThere_10 rfl ?_
      obtain ⟨k3, ht⟩ := ht
      obtain ⟨q4, e5, ht⟩ := ht
      refine y_getR (pc2 := 14) (κ := 6) (k := 7) fl_X6_27 (by decide) (by decide) k3 rfl e5 dX6_isThere_11 rfl ?_
      refine x_iload_n (pc2 := 15) 1 (n := 1) (x := x1) rfl dX6_isThere_14 rfl ?_
      obtain ⟨k6, ht⟩ := ht
      obtain ⟨b7, ht⟩ := ht
      obtain ⟨q8, e9, ht⟩ := ht
      refine y_aaldR (pc2 := 16) (κ := 20) (by decide) k6 b7 e9 dX6_isThere_15 rfl ?_
      obtain ⟨k10, ht⟩ := ht
      refine y_getI (pc2 := 19) (κ := 9) (k := 0) fl_X6_71 (by decide) (by decide) k10 rfl dX6_isThere_16 rfl ?_
      refine x_if_eq (pc2 := 22) 26 dX6_isThere_19 (by decide) rfl (fun c11 => ?_) (fun c11 => ?_)
      · replace ht := ht.1 c11
        refine x_iconst (pc2 := 27) (v := 0) (by decide) dX6_isThere_26 rfl ?_
        exact x_retZ rfl (Or.inl rfl) dX6_isThere_27 ht
      · replace ht := ht.2 c11
        refine x_iconst (pc2 := 23) (v := 1) (by decide) dX6_isThere_22 rfl ?_
        refine x_goto 27 dX6_isThere_23 (by decide) ?_
        exact x_retZ rfl (Or.inr rfl) dX6_isThere_27 ht
theorem e_X6_isThere {G : GG} {d : Nat} {h : HP} {Q : Option Value → HP → Prop} {a0 : Nat} {x1 : Int32} (ht : T_X6_isThere G d h Q a0 x1) : Cal G d mX6_isThere [.ref a0, .int x1] h Q := cal_of rfl (Nat.le_of_ble_eq_true rfl) (t_X6_isThere ht)
def T_X6_isWall (G : GG) (d : Nat) (h : HP) (Q : Option Value → HP → Prop) (a0 : Nat) (x1 : Int32) : Prop :=
  ((x1 < 6 → Q (some (.int 0)) h) ∧ (¬ x1 < 6 → Kd G h a0 6 ∧ Cal G (d - 1) mX6_isThere [.ref a0, .int x1] h (fun r2 h3 => ∃ v6, r2 = some (.int v6) ∧ ((v6 = 0 → Q (some (.int 0)) h3) ∧ (¬ v6 = 0 → Q (some (.int 1)) h3)))))
set_option maxRecDepth 20000 in
theorem t_X6_isWall {G : GG} {d : Nat} {h : HP} {Q : Option Value → HP → Prop} {a0 : Nat} {x1 : Int32} (hd1 : 1 ≤ d) (ht : T_X6_isWall G d h Q a0 x1) : Ex G d mX6_isWall 0 [(0, .ref a0), (1, .int x1)] [] h Q := by
  unfold T_X6_isWall at ht
  refine x_iload_n (pc2 := 1) 1 (n := 1) (x := x1) rfl dX6_isWall_0 rfl ?_
  refine x_bipush (pc2 := 3) (v := 6) (by decide) dX6_isWall_1 rfl ?_
  refine x_icmp_lt (pc2 := 6) 18 dX6_isWall_3 (by decide) rfl (fun c1 => ?_) (fun c1 => ?_)
  · replace ht := ht.1 c1
    refine x_iconst (pc2 := 19) (v := 0) (by decide) dX6_isWall_18 rfl ?_
    exact x_retZ rfl (Or.inl rfl) dX6_isWall_19 ht
  · replace ht := ht.2 c1
    refine x_aload_n (pc2 := 7) 0 (n := 0) (x := a0) rfl dX6_isWall_6 rfl ?_
    refine x_iload_n (pc2 := 8) 1 (n := 1) (x := x1) rfl dX6_isWall_7 rfl ?_
    obtain ⟨k5, ht⟩ := ht
    refine x_callV (pc2 := 11) (As := [.int x1]) (rest := []) (b := a0) mv_X6_isThere ml_X6_100 k5 rfl rfl (Nat.le_of_ble_eq_true rfl) hd1 dX6_isWall_8 rfl (ht.mono (fun r2 h3 p4 ht' => ?_))
    clear ht
    obtain ⟨v6, rfl, ht⟩ := ht'
    show Ex G d mX6_isWall 11 [(0, .ref a0), (1, .int x1)] [.int v6] h3 Q
    refine x_if_eq (pc2 := 14) 18 dX6_isWall_11 (by decide) rfl (fun c7 => ?_) (fun c7 => ?_)
    · replace ht := ht.1 c7
      refine x_iconst (pc2 := 19) (v := 0) (by decide) dX6_isWall_18 rfl ?_
      exact x_retZ rfl (Or.inl rfl) dX6_isWall_19 ht
    · replace ht := ht.2 c7
      refine x_iconst (pc2 := 15) (v := 1) (by decide) dX6_isWall_14 rfl ?_
      refine x_goto 19 dX6_isWall_15 (by decide) ?_
      exact x_retZ rfl (Or.inr rfl) dX6_isWall_19 ht
theorem e_X6_isWall {G : GG} {d : Nat} {h : HP} {Q : Option Value → HP → Prop} {a0 : Nat} {x1 : Int32} (hd1 : 1 ≤ d) (ht : T_X6_isWall G d h Q a0 x1) : Cal G d mX6_isWall [.ref a0, .int x1] h Q := cal_of rfl (Nat.le_of_ble_eq_true rfl) (t_X6_isWall hd1 ht)
def T_X6_isOutermost (G : GG) (d : Nat) (h : HP) (Q : Option Value → HP → Prop) (a0 : Nat) (x1 : Int32) : Prop :=
  ((x1 < 0 → Q (some (.int 0)) h) ∧ (¬ x1 < 0 → ((31 ≤ x1 → Q (some (.int 0)) h) ∧ (¬ 31 ≤ x1 → Kd G h a0 6 ∧ ∃ q4, hR h a0 7 = some q4 ∧ Kd G h q4 20 ∧ vp_in x1 (hN h q4) ∧ ∃ q8, hR h q4 x1.toNatClampNeg = some q8 ∧ Kd G h q8 9 ∧ (((hI h q8 0) = 0 → Q (some (.int 0)) h) ∧ (¬ (hI h q8 0) = 0 → vp_in x1 (hN h q4) ∧ ∃ q13, hR h q4 x1.toNatClampNeg = some q13 ∧ Kd G h q13 9 ∧ ((¬ (hI h q13 6) = (-1) → Q (some (.int 0)) h) ∧ ((hI h q13 6) = (-1) → Q (some (.int 1)) h))))))))
set_option maxRecDepth 20000 in
theorem t_X6_isOutermost {G : GG} {d : Nat} {h : HP} {Q : Option Value → HP → Prop} {a0 : Nat} {x1 : Int32} (ht : T_X6_isOutermost G d h Q a0 x1) : Ex G d mX6_isOutermost 0 [(0, .ref a0), (1, .int x1)] [] h Q := by
  unfold T_X6_isOutermost at ht
  refine x_iload_n (pc2 := 1) 1 (n := 1) (x := x1) rfl dX6_isOutermost_0 rfl ?_
  refine x_if_lt (pc2 := 4) 39 dX6_isOutermost_1 (by decide) rfl (fun c1 => ?_) (fun c1 => ?_)
  · replace ht := ht.1 c1
    refine x_iconst (pc2 := 40) (v := 0) (by decide) dX6_isOutermost_39 rfl ?_
    exact x_retZ rfl (Or.inl rfl) dX6_isOutermost_40 ht
  · replace ht := ht.2 c1
    refine x_iload_n (pc2 := 5) 1 (n := 1) (x := x1) rfl dX6_isOutermost_4 rfl ?_
    refine x_bipush (pc2 := 7) (v := 31) (by decide) dX6_isOutermost_5 rfl ?_
    refine x_icmp_ge (pc2 := 10) 39 dX6_isOutermost_7 (by decide) rfl (fun c2 => ?_) (fun c2 => ?_)
    · replace ht := ht.1 c2
      refine x_iconst (pc2 := 40) (v := 0) (by decide) dX6_isOutermost_39 rfl ?_
      exact x_retZ rfl (Or.inl rfl) dX6_isOutermost_40 ht
    · replace ht := ht.2 c2
      refine x_aload_n (pc2 := 11) 0 (n := 0) (x := a0) rfl dX6_isOutermost_10 rfl ?_
      obtain ⟨k3, ht⟩ := ht
      obtain ⟨q4, e5, ht⟩ := ht
      refine y_getR (pc2 := 14) (κ := 6) (k := 7) fl_X6_27 (by decide) (by decide) k3 rfl e5 dX6_isOutermost_11 rfl ?_
      refine x_iload_n (pc2 := 15) 1 (n := 1) (x := x1) rfl dX6_isOutermost_14 rfl ?_
      obtain ⟨k6, ht⟩ := ht
      obtain ⟨b7, ht⟩ := ht
      obtain ⟨q8, e9, ht⟩ := ht
      refine y_aaldR (pc2 := 16) (κ := 20) (by decide) k6 b7 e9 dX6_isOutermost_15 rfl ?_
      obtain ⟨k10, ht⟩ := ht
      refine y_getI (pc2 := 19) (κ := 9) (k := 0) fl_X6_71 (by decide) (by decide) k10 rfl dX6_isOutermost_16 rfl ?_
      refine x_if_eq (pc2 := 22) 39 dX6_isOutermost_19 (by decide) rfl (fun c11 => ?_) (fun c11 => ?_)
      · replace ht := ht.1 c11
        refine x_iconst (pc2 := 40) (v := 0) (by decide) dX6_isOutermost_39 rfl ?_
        exact x_retZ rfl (Or.inl rfl) dX6_isOutermost_40 ht
      · replace ht := ht.2 c11
        refine x_aload_n (pc2 := 23) 0 (n := 0) (x := a0) rfl dX6_isOutermost_22 rfl ?_
        refine y_getR (pc2 := 26) (κ := 6) (k := 7) fl_X6_27 (by decide) (by decide) k3 rfl e5 dX6_isOutermost_23 rfl ?_
        refine x_iload_n (pc2 := 27) 1 (n := 1) (x := x1) rfl dX6_isOutermost_26 rfl ?_
        obtain ⟨b12, ht⟩ := ht
        obtain ⟨q13, e14, ht⟩ := ht
        refine y_aaldR (pc2 := 28) (κ := 20) (by decide) k6 b12 e14 dX6_isOutermost_27 rfl ?_
        obtain ⟨k15, ht⟩ := ht
        refine y_getI (pc2 := 31) (κ := 9) (k := 6) fl_X6_104 (by decide) (by decide) k15 rfl dX6_isOutermost_28 rfl ?_
        refine x_iconst (pc2 := 32) (v := (-1)) (by decide) dX6_isOutermost_31 rfl ?_
        refine y_icmp_ne (pc2 := 35) 39 dX6_isOutermost_32 (by decide) rfl (fun c16 => ?_) (fun c16 => ?_)
        · replace ht := ht.1 c16
          refine x_iconst (pc2 := 40) (v := 0) (by decide) dX6_isOutermost_39 rfl ?_
          exact x_retZ rfl (Or.inl rfl) dX6_isOutermost_40 ht
        · replace ht := ht.2 c16
          refine x_iconst (pc2 := 36) (v := 1) (by decide) dX6_isOutermost_35 rfl ?_
          refine x_goto 40 dX6_isOutermost_36 (by decide) ?_
          exact x_retZ rfl (Or.inr rfl) dX6_isOutermost_40 ht
theorem e_X6_isOutermost {G : GG} {d : Nat} {h : HP} {Q : Option Value → HP → Prop} {a0 : Nat} {x1 : Int32} (ht : T_X6_isOutermost G d h Q a0 x1) : Cal G d mX6_isOutermost [.ref a0, .int x1] h Q := cal_of rfl (Nat.le_of_ble_eq_true rfl) (t_X6_isOutermost ht)
def T_X6_wallCount (G : GG) (d : Nat) (h : HP) (Q : Option Value → HP → Prop) (a0 : Nat) : Prop :=
  Ex G d mX6_wallCount 5 [(0, .ref a0), (1, .int 0), (2, .int 6)] [] h Q
set_option maxRecDepth 20000 in
theorem t_X6_wallCount {G : GG} {d : Nat} {h : HP} {Q : Option Value → HP → Prop} {a0 : Nat} (ht : T_X6_wallCount G d h Q a0) : Ex G d mX6_wallCount 0 [(0, .ref a0)] [] h Q := by
  unfold T_X6_wallCount at ht
  refine x_iconst (pc2 := 1) (v := 0) (by decide) dX6_wallCount_0 rfl ?_
  refine x_istore_n (pc2 := 2) [1, 0] (n := 1) (x := 0) (lv2 := [(0, .ref a0), (1, .int 0)]) (by decide) rfl dX6_wallCount_1 rfl ?_
  refine x_bipush (pc2 := 4) (v := 6) (by decide) dX6_wallCount_2 rfl ?_
  refine x_istore_n (pc2 := 5) [1, 2, 0] (n := 2) (x := 6) (lv2 := [(0, .ref a0), (1, .int 0), (2, .int 6)]) (by decide) rfl dX6_wallCount_4 rfl ?_
  exact ht
theorem e_X6_wallCount {G : GG} {d : Nat} {h : HP} {Q : Option Value → HP → Prop} {a0 : Nat} (ht : T_X6_wallCount G d h Q a0) : Cal G d mX6_wallCount [.ref a0] h Q := cal_of rfl (Nat.le_of_ble_eq_true rfl) (t_X6_wallCount ht)
def T_X6_wallCount_5 (G : GG) (d : Nat) (h : HP) (Q : Option Value → HP → Prop) (a0 : Nat) (x1 : Int32) (x2 : Int32) : Prop :=
  ((30 ≤ x2 → Q (some (.int x1)) h) ∧ (¬ 30 ≤ x2 → Kd G h a0 6 ∧ ∃ q3, hR h a0 7 = some q3 ∧ Kd G h q3 20 ∧ vp_in x2 (hN h q3) ∧ ∃ q7, hR h q3 x2.toNatClampNeg = some q7 ∧ Kd G h q7 9 ∧ (((hI h q7 0) = 0 → Ex G d mX6_wallCount 5 [(0, .ref a0), (1, .int x1), (2, .int (x2 + 1))] [] h Q) ∧ (¬ (hI h q7 0) = 0 → Ex G d mX6_wallCount 5 [(0, .ref a0), (1, .int (x1 + 1)), (2, .int (x2 + 1))] [] h Q))))
set_option maxRecDepth 20000 in
theorem t_X6_wallCount_5 {G : GG} {d : Nat} {h : HP} {Q : Option Value → HP → Prop} {a0 : Nat} {x1 : Int32} {x2 : Int32} (ht : T_X6_wallCount_5 G d h Q a0 x1 x2) : Ex G d mX6_wallCount 5 [(0, .ref a0), (1, .int x1), (2, .int x2)] [] h Q := by
  unfold T_X6_wallCount_5 at ht
  refine x_iload_n (pc2 := 6) 2 (n := 2) (x := x2) rfl dX6_wallCount_5 rfl ?_
  refine x_bipush (pc2 := 8) (v := 30) (by decide) dX6_wallCount_6 rfl ?_
  refine x_icmp_ge (pc2 := 11) 32 dX6_wallCount_8 (by decide) rfl (fun c1 => ?_) (fun c1 => ?_)
  · replace ht := ht.1 c1
    refine x_iload_n (pc2 := 33) 1 (n := 1) (x := x1) rfl dX6_wallCount_32 rfl ?_
    exact x_ret (ty := .int) rfl rfl dX6_wallCount_33 ht
  · replace ht := ht.2 c1
    refine x_aload_n (pc2 := 12) 0 (n := 0) (x := a0) rfl dX6_wallCount_11 rfl ?_
    obtain ⟨k2, ht⟩ := ht
    obtain ⟨q3, e4, ht⟩ := ht
    refine y_getR (pc2 := 15) (κ := 6) (k := 7) fl_X6_27 (by decide) (by decide) k2 rfl e4 dX6_wallCount_12 rfl ?_
    refine x_iload_n (pc2 := 16) 2 (n := 2) (x := x2) rfl dX6_wallCount_15 rfl ?_
    obtain ⟨k5, ht⟩ := ht
    obtain ⟨b6, ht⟩ := ht
    obtain ⟨q7, e8, ht⟩ := ht
    refine y_aaldR (pc2 := 17) (κ := 20) (by decide) k5 b6 e8 dX6_wallCount_16 rfl ?_
    obtain ⟨k9, ht⟩ := ht
    refine y_getI (pc2 := 20) (κ := 9) (k := 0) fl_X6_71 (by decide) (by decide) k9 rfl dX6_wallCount_17 rfl ?_
    refine x_if_eq (pc2 := 23) 26 dX6_wallCount_20 (by decide) rfl (fun c10 => ?_) (fun c10 => ?_)
    · replace ht := ht.1 c10
      refine x_iinc (pc2 := 29) 2 [1, 2, 0] (i := 2) (x := x2) (v := (x2 + 1)) (lv2 := [(0, .ref a0), (1, .int x1), (2, .int (x2 + 1))]) rfl (iinc_eq (by decide) _) (by decide) rfl dX6_wallCount_26 rfl ?_
      refine x_goto 5 dX6_wallCount_29 (by decide) ?_
      exact ht
    · replace ht := ht.2 c10
      refine x_iinc (pc2 := 26) 1 [1, 0, 2] (i := 1) (x := x1) (v := (x1 + 1)) (lv2 := [(0, .ref a0), (1, .int (x1 + 1)), (2, .int x2)]) rfl (iinc_eq (by decide) _) (by decide) rfl dX6_wallCount_23 rfl ?_
      refine x_iinc (pc2 := 29) 2 [1, 2, 0] (i := 2) (x := x2) (v := (x2 + 1)) (lv2 := [(0, .ref a0), (1, .int (x1 + 1)), (2, .int (x2 + 1))]) rfl (iinc_eq (by decide) _) (by decide) rfl dX6_wallCount_26 rfl ?_
      refine x_goto 5 dX6_wallCount_29 (by decide) ?_
      exact ht
def T_X6_wallsOf (G : GG) (d : Nat) (h : HP) (Q : Option Value → HP → Prop) (a0 : Nat) (x1 : Int32) : Prop :=
  Ex G d mX6_wallsOf 5 [(0, .ref a0), (1, .int x1), (2, .int 0), (3, .int 6)] [] h Q
set_option maxRecDepth 20000 in
theorem t_X6_wallsOf {G : GG} {d : Nat} {h : HP} {Q : Option Value → HP → Prop} {a0 : Nat} {x1 : Int32} (ht : T_X6_wallsOf G d h Q a0 x1) : Ex G d mX6_wallsOf 0 [(0, .ref a0), (1, .int x1)] [] h Q := by
  unfold T_X6_wallsOf at ht
  refine x_iconst (pc2 := 1) (v := 0) (by decide) dX6_wallsOf_0 rfl ?_
  refine x_istore_n (pc2 := 2) [1, 2, 0] (n := 2) (x := 0) (lv2 := [(0, .ref a0), (1, .int x1), (2, .int 0)]) (by decide) rfl dX6_wallsOf_1 rfl ?_
  refine x_bipush (pc2 := 4) (v := 6) (by decide) dX6_wallsOf_2 rfl ?_
  refine x_istore_n (pc2 := 5) [1, 2, 3, 0] (n := 3) (x := 6) (lv2 := [(0, .ref a0), (1, .int x1), (2, .int 0), (3, .int 6)]) (by decide) rfl dX6_wallsOf_4 rfl ?_
  exact ht
theorem e_X6_wallsOf {G : GG} {d : Nat} {h : HP} {Q : Option Value → HP → Prop} {a0 : Nat} {x1 : Int32} (ht : T_X6_wallsOf G d h Q a0 x1) : Cal G d mX6_wallsOf [.ref a0, .int x1] h Q := cal_of rfl (Nat.le_of_ble_eq_true rfl) (t_X6_wallsOf ht)
def T_X6_wallsOf_5 (G : GG) (d : Nat) (h : HP) (Q : Option Value → HP → Prop) (a0 : Nat) (x1 : Int32) (x2 : Int32) (x3 : Int32) : Prop :=
  ((30 ≤ x3 → Q (some (.int x2)) h) ∧ (¬ 30 ≤ x3 → Kd G h a0 6 ∧ ∃ q3, hR h a0 7 = some q3 ∧ Kd G h q3 20 ∧ vp_in x3 (hN h q3) ∧ ∃ q7, hR h q3 x3.toNatClampNeg = some q7 ∧ Kd G h q7 9 ∧ (((hI h q7 0) = 0 → Ex G d mX6_wallsOf 5 [(0, .ref a0), (1, .int x1), (2, .int x2), (3, .int (x3 + 1))] [] h Q) ∧ (¬ (hI h q7 0) = 0 → vp_in x3 (hN h q3) ∧ ∃ q12, hR h q3 x3.toNatClampNeg = some q12 ∧ Kd G h q12 9 ∧ ((¬ (hI h q12 5) = x1 → Ex G d mX6_wallsOf 5 [(0, .ref a0), (1, .int x1), (2, .int x2), (3, .int (x3 + 1))] [] h Q) ∧ ((hI h q12 5) = x1 → Ex G d mX6_wallsOf 5 [(0, .ref a0), (1, .int x1), (2, .int (x2 + 1)), (3, .int (x3 + 1))] [] h Q))))))
set_option maxRecDepth 20000 in
theorem t_X6_wallsOf_5 {G : GG} {d : Nat} {h : HP} {Q : Option Value → HP → Prop} {a0 : Nat} {x1 : Int32} {x2 : Int32} {x3 : Int32} (ht : T_X6_wallsOf_5 G d h Q a0 x1 x2 x3) : Ex G d mX6_wallsOf 5 [(0, .ref a0), (1, .int x1), (2, .int x2), (3, .int x3)] [] h Q := by
  unfold T_X6_wallsOf_5 at ht
  refine x_iload_n (pc2 := 6) 3 (n := 3) (x := x3) rfl dX6_wallsOf_5 rfl ?_
  refine x_bipush (pc2 := 8) (v := 30) (by decide) dX6_wallsOf_6 rfl ?_
  refine x_icmp_ge (pc2 := 11) 45 dX6_wallsOf_8 (by decide) rfl (fun c1 => ?_) (fun c1 => ?_)
  · replace ht := ht.1 c1
    refine x_iload_n (pc2 := 46) 2 (n := 2) (x := x2) rfl dX6_wallsOf_45 rfl ?_
    exact x_ret (ty := .int) rfl rfl dX6_wallsOf_46 ht
  · replace ht := ht.2 c1
    refine x_aload_n (pc2 := 12) 0 (n := 0) (x := a0) rfl dX6_wallsOf_11 rfl ?_
    obtain ⟨k2, ht⟩ := ht
    obtain ⟨q3, e4, ht⟩ := ht
    refine y_getR (pc2 := 15) (κ := 6) (k := 7) fl_X6_27 (by decide) (by decide) k2 rfl e4 dX6_wallsOf_12 rfl ?_
    refine x_iload_n (pc2 := 16) 3 (n := 3) (x := x3) rfl dX6_wallsOf_15 rfl ?_
    obtain ⟨k5, ht⟩ := ht
    obtain ⟨b6, ht⟩ := ht
    obtain ⟨q7, e8, ht⟩ := ht
    refine y_aaldR (pc2 := 17) (κ := 20) (by decide) k5 b6 e8 dX6_wallsOf_16 rfl ?_
    obtain ⟨k9, ht⟩ := ht
    refine y_getI (pc2 := 20) (κ := 9) (k := 0) fl_X6_71 (by decide) (by decide) k9 rfl dX6_wallsOf_17 rfl ?_
    refine x_if_eq (pc2 := 23) 39 dX6_wallsOf_20 (by decide) rfl (fun c10 => ?_) (fun c10 => ?_)
    · replace ht := ht.1 c10
      refine x_iinc (pc2 := 42) 3 [1, 2, 3, 0] (i := 3) (x := x3) (v := (x3 + 1)) (lv2 := [(0, .ref a0), (1, .int x1), (2, .int x2), (3, .int (x3 + 1))]) rfl (iinc_eq (by decide) _) (by decide) rfl dX6_wallsOf_39 rfl ?_
      refine x_goto 5 dX6_wallsOf_42 (by decide) ?_
      exact ht
    · replace ht := ht.2 c10
      refine x_aload_n (pc2 := 24) 0 (n := 0) (x := a0) rfl dX6_wallsOf_23 rfl ?_
      refine y_getR (pc2 := 27) (κ := 6) (k := 7) fl_X6_27 (by decide) (by decide) k2 rfl e4 dX6_wallsOf_24 rfl ?_
      refine x_iload_n (pc2 := 28) 3 (n := 3) (x := x3) rfl dX6_wallsOf_27 rfl ?_
      obtain ⟨b11, ht⟩ := ht
      obtain ⟨q12, e13, ht⟩ := ht
      refine y_aaldR (pc2 := 29) (κ := 20) (by decide) k5 b11 e13 dX6_wallsOf_28 rfl ?_
      obtain ⟨k14, ht⟩ := ht
      refine y_getI (pc2 := 32) (κ := 9) (k := 5) fl_X6_107 (by decide) (by decide) k14 rfl dX6_wallsOf_29 rfl ?_
      refine x_iload_n (pc2 := 33) 1 (n := 1) (x := x1) rfl dX6_wallsOf_32 rfl ?_
      refine y_icmp_ne (pc2 := 36) 39 dX6_wallsOf_33 (by decide) rfl (fun c15 => ?_) (fun c15 => ?_)
      · replace ht := ht.1 c15
        refine x_iinc (pc2 := 42) 3 [1, 2, 3, 0] (i := 3) (x := x3) (v := (x3 + 1)) (lv2 := [(0, .ref a0), (1, .int x1), (2, .int x2), (3, .int (x3 + 1))]) rfl (iinc_eq (by decide) _) (by decide) rfl dX6_wallsOf_39 rfl ?_
        refine x_goto 5 dX6_wallsOf_42 (by decide) ?_
        exact ht
      · replace ht := ht.2 c15
        refine x_iinc (pc2 := 39) 2 [1, 2, 0, 3] (i := 2) (x := x2) (v := (x2 + 1)) (lv2 := [(0, .ref a0), (1, .int x1), (2, .int (x2 + 1)), (3, .int x3)]) rfl (iinc_eq (by decide) _) (by decide) rfl dX6_wallsOf_36 rfl ?_
        refine x_iinc (pc2 := 42) 3 [1, 2, 3, 0] (i := 3) (x := x3) (v := (x3 + 1)) (lv2 := [(0, .ref a0), (1, .int x1), (2, .int (x2 + 1)), (3, .int (x3 + 1))]) rfl (iinc_eq (by decide) _) (by decide) rfl dX6_wallsOf_39 rfl ?_
        refine x_goto 5 dX6_wallsOf_42 (by decide) ?_
        exact ht
def T_X6_wallless (G : GG) (d : Nat) (h : HP) (Q : Option Value → HP → Prop) (a0 : Nat) : Prop :=
  Ex G d mX6_wallless 4 [(0, .ref a0), (1, .int 0), (2, .int 0)] [] h Q
set_option maxRecDepth 20000 in
theorem t_X6_wallless {G : GG} {d : Nat} {h : HP} {Q : Option Value → HP → Prop} {a0 : Nat} (ht : T_X6_wallless G d h Q a0) : Ex G d mX6_wallless 0 [(0, .ref a0)] [] h Q := by
  unfold T_X6_wallless at ht
  refine x_iconst (pc2 := 1) (v := 0) (by decide) dX6_wallless_0 rfl ?_
  refine x_istore_n (pc2 := 2) [1, 0] (n := 1) (x := 0) (lv2 := [(0, .ref a0), (1, .int 0)]) (by decide) rfl dX6_wallless_1 rfl ?_
  refine x_iconst (pc2 := 3) (v := 0) (by decide) dX6_wallless_2 rfl ?_
  refine x_istore_n (pc2 := 4) [1, 2, 0] (n := 2) (x := 0) (lv2 := [(0, .ref a0), (1, .int 0), (2, .int 0)]) (by decide) rfl dX6_wallless_3 rfl ?_
  exact ht
theorem e_X6_wallless {G : GG} {d : Nat} {h : HP} {Q : Option Value → HP → Prop} {a0 : Nat} (ht : T_X6_wallless G d h Q a0) : Cal G d mX6_wallless [.ref a0] h Q := cal_of rfl (Nat.le_of_ble_eq_true rfl) (t_X6_wallless ht)
def T_X6_wallless_4 (G : GG) (d : Nat) (h : HP) (Q : Option Value → HP → Prop) (a0 : Nat) (x1 : Int32) (x2 : Int32) : Prop :=
  ((12 ≤ x2 → Q (some (.int x1)) h) ∧ (¬ 12 ≤ x2 → Kd G h a0 6 ∧ Cal G (d - 1) mX6_wallsOf [.ref a0, .int x2] h (fun r2 h3 => ∃ v6, r2 = some (.int v6) ∧ ((¬ v6 = 0 → Ex G d mX6_wallless 4 [(0, .ref a0), (1, .int x1), (2, .int (x2 + 1))] [] h3 Q) ∧ (v6 = 0 → Ex G d mX6_wallless 4 [(0, .ref a0), (1, .int (x1 + 1)), (2, .int (x2 + 1))] [] h3 Q)))))
set_option maxRecDepth 20000 in
theorem t_X6_wallless_4 {G : GG} {d : Nat} {h : HP} {Q : Option Value → HP → Prop} {a0 : Nat} {x1 : Int32} {x2 : Int32} (hd1 : 1 ≤ d) (ht : T_X6_wallless_4 G d h Q a0 x1 x2) : Ex G d mX6_wallless 4 [(0, .ref a0), (1, .int x1), (2, .int x2)] [] h Q := by
  unfold T_X6_wallless_4 at ht
  refine x_iload_n (pc2 := 5) 2 (n := 2) (x := x2) rfl dX6_wallless_4 rfl ?_
  refine x_bipush (pc2 := 7) (v := 12) (by decide) dX6_wallless_5 rfl ?_
  refine x_icmp_ge (pc2 := 10) 27 dX6_wallless_7 (by decide) rfl (fun c1 => ?_) (fun c1 => ?_)
  · replace ht := ht.1 c1
    refine x_iload_n (pc2 := 28) 1 (n := 1) (x := x1) rfl dX6_wallless_27 rfl ?_
    exact x_ret (ty := .int) rfl rfl dX6_wallless_28 ht
  · replace ht := ht.2 c1
    refine x_aload_n (pc2 := 11) 0 (n := 0) (x := a0) rfl dX6_wallless_10 rfl ?_
    refine x_iload_n (pc2 := 12) 2 (n := 2) (x := x2) rfl dX6_wallless_11 rfl ?_
    obtain ⟨k5, ht⟩ := ht
    refine x_callV (pc2 := 15) (As := [.int x2]) (rest := []) (b := a0) mv_X6_wallsOf ml_X6_110 k5 rfl rfl (Nat.le_of_ble_eq_true rfl) hd1 dX6_wallless_12 rfl (ht.mono (fun r2 h3 p4 ht' => ?_))
    clear ht
    obtain ⟨v6, rfl, ht⟩ := ht'
    show Ex G d mX6_wallless 15 [(0, .ref a0), (1, .int x1), (2, .int x2)] [.int v6] h3 Q
    refine y_if_ne (pc2 := 18) 21 dX6_wallless_15 (by decide) rfl (fun c7 => ?_) (fun c7 => ?_)
    · replace ht := ht.1 c7
      refine x_iinc (pc2 := 24) 2 [1, 2, 0] (i := 2) (x := x2) (v := (x2 + 1)) (lv2 := [(0, .ref a0), (1, .int x1), (2, .int (x2 + 1))]) rfl (iinc_eq (by decide) _) (by decide) rfl dX6_wallless_21 rfl ?_
      refine x_goto 4 dX6_wallless_24 (by decide) ?_
      exact ht
    · replace ht := ht.2 c7
      refine x_iinc (pc2 := 21) 1 [1, 0, 2] (i := 1) (x := x1) (v := (x1 + 1)) (lv2 := [(0, .ref a0), (1, .int (x1 + 1)), (2, .int x2)]) rfl (iinc_eq (by decide) _) (by decide) rfl dX6_wallless_18 rfl ?_
      refine x_iinc (pc2 := 24) 2 [1, 2, 0] (i := 2) (x := x2) (v := (x2 + 1)) (lv2 := [(0, .ref a0), (1, .int (x1 + 1)), (2, .int (x2 + 1))]) rfl (iinc_eq (by decide) _) (by decide) rfl dX6_wallless_21 rfl ?_
      refine x_goto 4 dX6_wallless_24 (by decide) ?_
      exact ht
def T_X6_nestCount (G : GG) (d : Nat) (h : HP) (Q : Option Value → HP → Prop) (a0 : Nat) : Prop :=
  Ex G d mX6_nestCount 4 [(0, .ref a0), (1, .int 0), (2, .int 0)] [] h Q
set_option maxRecDepth 20000 in
theorem t_X6_nestCount {G : GG} {d : Nat} {h : HP} {Q : Option Value → HP → Prop} {a0 : Nat} (ht : T_X6_nestCount G d h Q a0) : Ex G d mX6_nestCount 0 [(0, .ref a0)] [] h Q := by
  unfold T_X6_nestCount at ht
  refine x_iconst (pc2 := 1) (v := 0) (by decide) dX6_nestCount_0 rfl ?_
  refine x_istore_n (pc2 := 2) [1, 0] (n := 1) (x := 0) (lv2 := [(0, .ref a0), (1, .int 0)]) (by decide) rfl dX6_nestCount_1 rfl ?_
  refine x_iconst (pc2 := 3) (v := 0) (by decide) dX6_nestCount_2 rfl ?_
  refine x_istore_n (pc2 := 4) [1, 2, 0] (n := 2) (x := 0) (lv2 := [(0, .ref a0), (1, .int 0), (2, .int 0)]) (by decide) rfl dX6_nestCount_3 rfl ?_
  exact ht
theorem e_X6_nestCount {G : GG} {d : Nat} {h : HP} {Q : Option Value → HP → Prop} {a0 : Nat} (ht : T_X6_nestCount G d h Q a0) : Cal G d mX6_nestCount [.ref a0] h Q := cal_of rfl (Nat.le_of_ble_eq_true rfl) (t_X6_nestCount ht)
def T_X6_nestCount_4 (G : GG) (d : Nat) (h : HP) (Q : Option Value → HP → Prop) (a0 : Nat) (x1 : Int32) (x2 : Int32) : Prop :=
  ((30 ≤ x2 → Q (some (.int x1)) h) ∧ (¬ 30 ≤ x2 → Kd G h a0 6 ∧ Cal G (d - 1) mX6_isOutermost [.ref a0, .int x2] h (fun r2 h3 => ∃ v6, r2 = some (.int v6) ∧ ((v6 = 0 → Ex G d mX6_nestCount 4 [(0, .ref a0), (1, .int x1), (2, .int (x2 + 1))] [] h3 Q) ∧ (¬ v6 = 0 → Ex G d mX6_nestCount 4 [(0, .ref a0), (1, .int (x1 + 1)), (2, .int (x2 + 1))] [] h3 Q)))))
set_option maxRecDepth 20000 in
theorem t_X6_nestCount_4 {G : GG} {d : Nat} {h : HP} {Q : Option Value → HP → Prop} {a0 : Nat} {x1 : Int32} {x2 : Int32} (hd1 : 1 ≤ d) (ht : T_X6_nestCount_4 G d h Q a0 x1 x2) : Ex G d mX6_nestCount 4 [(0, .ref a0), (1, .int x1), (2, .int x2)] [] h Q := by
  unfold T_X6_nestCount_4 at ht
  refine x_iload_n (pc2 := 5) 2 (n := 2) (x := x2) rfl dX6_nestCount_4 rfl ?_
  refine x_bipush (pc2 := 7) (v := 30) (by decide) dX6_nestCount_5 rfl ?_
  refine x_icmp_ge (pc2 := 10) 27 dX6_nestCount_7 (by decide) rfl (fun c1 => ?_) (fun c1 => ?_)
  · replace ht := ht.1 c1
    refine x_iload_n (pc2 := 28) 1 (n := 1) (x := x1) rfl dX6_nestCount_27 rfl ?_
    exact x_ret (ty := .int) rfl rfl dX6_nestCount_28 ht
  · replace ht := ht.2 c1
    refine x_aload_n (pc2 := 11) 0 (n := 0) (x := a0) rfl dX6_nestCount_10 rfl ?_
    refine x_iload_n (pc2 := 12) 2 (n := 2) (x := x2) rfl dX6_nestCount_11 rfl ?_
    obtain ⟨k5, ht⟩ := ht
    refine x_callV (pc2 := 15) (As := [.int x2]) (rest := []) (b := a0) mv_X6_isOutermost ml_X6_114 k5 rfl rfl (Nat.le_of_ble_eq_true rfl) hd1 dX6_nestCount_12 rfl (ht.mono (fun r2 h3 p4 ht' => ?_))
    clear ht
    obtain ⟨v6, rfl, ht⟩ := ht'
    show Ex G d mX6_nestCount 15 [(0, .ref a0), (1, .int x1), (2, .int x2)] [.int v6] h3 Q
    refine x_if_eq (pc2 := 18) 21 dX6_nestCount_15 (by decide) rfl (fun c7 => ?_) (fun c7 => ?_)
    · replace ht := ht.1 c7
      refine x_iinc (pc2 := 24) 2 [1, 2, 0] (i := 2) (x := x2) (v := (x2 + 1)) (lv2 := [(0, .ref a0), (1, .int x1), (2, .int (x2 + 1))]) rfl (iinc_eq (by decide) _) (by decide) rfl dX6_nestCount_21 rfl ?_
      refine x_goto 4 dX6_nestCount_24 (by decide) ?_
      exact ht
    · replace ht := ht.2 c7
      refine x_iinc (pc2 := 21) 1 [1, 0, 2] (i := 1) (x := x1) (v := (x1 + 1)) (lv2 := [(0, .ref a0), (1, .int (x1 + 1)), (2, .int x2)]) rfl (iinc_eq (by decide) _) (by decide) rfl dX6_nestCount_18 rfl ?_
      refine x_iinc (pc2 := 24) 2 [1, 2, 0] (i := 2) (x := x2) (v := (x2 + 1)) (lv2 := [(0, .ref a0), (1, .int (x1 + 1)), (2, .int (x2 + 1))]) rfl (iinc_eq (by decide) _) (by decide) rfl dX6_nestCount_21 rfl ?_
      refine x_goto 4 dX6_nestCount_24 (by decide) ?_
      exact ht
def T_X6_freeCells (G : GG) (d : Nat) (h : HP) (Q : Option Value → HP → Prop) (a0 : Nat) : Prop :=
  Kd G h a0 6 ∧ Ex G d mX6_freeCells 12 [(0, .ref a0), (1, .int ((hI h a0 0) * (hI h a0 1))), (2, .int 0)] [] h Q
set_option maxRecDepth 20000 in
theorem t_X6_freeCells {G : GG} {d : Nat} {h : HP} {Q : Option Value → HP → Prop} {a0 : Nat} (ht : T_X6_freeCells G d h Q a0) : Ex G d mX6_freeCells 0 [(0, .ref a0)] [] h Q := by
  unfold T_X6_freeCells at ht
  refine x_aload_n (pc2 := 1) 0 (n := 0) (x := a0) rfl dX6_freeCells_0 rfl ?_
  obtain ⟨k1, ht⟩ := ht
  refine y_getI (pc2 := 4) (κ := 6) (k := 0) fl_X6_9 (by decide) (by decide) k1 rfl dX6_freeCells_1 rfl ?_
  refine x_aload_n (pc2 := 5) 0 (n := 0) (x := a0) rfl dX6_freeCells_4 rfl ?_
  refine y_getI (pc2 := 8) (κ := 6) (k := 1) fl_X6_15 (by decide) (by decide) k1 rfl dX6_freeCells_5 rfl ?_
  refine x_imul (pc2 := 9) dX6_freeCells_8 rfl ?_
  refine x_istore_n (pc2 := 10) [1, 0] (n := 1) (x := ((hI h a0 0) * (hI h a0 1))) (lv2 := [(0, .ref a0), (1, .int ((hI h a0 0) * (hI h a0 1)))]) (by decide) rfl dX6_freeCells_9 rfl ?_
  refine x_iconst (pc2 := 11) (v := 0) (by decide) dX6_freeCells_10 rfl ?_
  refine x_istore_n (pc2 := 12) [1, 2, 0] (n := 2) (x := 0) (lv2 := [(0, .ref a0), (1, .int ((hI h a0 0) * (hI h a0 1))), (2, .int 0)]) (by decide) rfl dX6_freeCells_11 rfl ?_
  exact ht
theorem e_X6_freeCells {G : GG} {d : Nat} {h : HP} {Q : Option Value → HP → Prop} {a0 : Nat} (ht : T_X6_freeCells G d h Q a0) : Cal G d mX6_freeCells [.ref a0] h Q := cal_of rfl (Nat.le_of_ble_eq_true rfl) (t_X6_freeCells ht)
def T_X6_freeCells_12 (G : GG) (d : Nat) (h : HP) (Q : Option Value → HP → Prop) (a0 : Nat) (x1 : Int32) (x2 : Int32) : Prop :=
  ((30 ≤ x2 → Q (some (.int x1)) h) ∧ (¬ 30 ≤ x2 → Kd G h a0 6 ∧ Cal G (d - 1) mX6_isOutermost [.ref a0, .int x2] h (fun r2 h3 => ∃ v6, r2 = some (.int v6) ∧ ((v6 = 0 → Ex G d mX6_freeCells 12 [(0, .ref a0), (1, .int x1), (2, .int (x2 + 1))] [] h3 Q) ∧ (¬ v6 = 0 → ∃ q8, hR h3 a0 7 = some q8 ∧ Kd G h3 q8 20 ∧ vp_in x2 (hN h3 q8) ∧ ∃ q12, hR h3 q8 x2.toNatClampNeg = some q12 ∧ Kd G h3 q12 9 ∧ Cal G (d - 1) mX9_area [.ref q12] h3 (fun r14 h15 => ∃ v18, r14 = some (.int v18) ∧ Ex G d mX6_freeCells 12 [(0, .ref a0), (1, .int (x1 - v18)), (2, .int (x2 + 1))] [] h15 Q))))))
set_option maxRecDepth 20000 in
theorem t_X6_freeCells_12 {G : GG} {d : Nat} {h : HP} {Q : Option Value → HP → Prop} {a0 : Nat} {x1 : Int32} {x2 : Int32} (hd1 : 1 ≤ d) (ht : T_X6_freeCells_12 G d h Q a0 x1 x2) : Ex G d mX6_freeCells 12 [(0, .ref a0), (1, .int x1), (2, .int x2)] [] h Q := by
  unfold T_X6_freeCells_12 at ht
  refine x_iload_n (pc2 := 13) 2 (n := 2) (x := x2) rfl dX6_freeCells_12 rfl ?_
  refine x_bipush (pc2 := 15) (v := 30) (by decide) dX6_freeCells_13 rfl ?_
  refine x_icmp_ge (pc2 := 18) 44 dX6_freeCells_15 (by decide) rfl (fun c1 => ?_) (fun c1 => ?_)
  · replace ht := ht.1 c1
    refine x_iload_n (pc2 := 45) 1 (n := 1) (x := x1) rfl dX6_freeCells_44 rfl ?_
    exact x_ret (ty := .int) rfl rfl dX6_freeCells_45 ht
  · replace ht := ht.2 c1
    refine x_aload_n (pc2 := 19) 0 (n := 0) (x := a0) rfl dX6_freeCells_18 rfl ?_
    refine x_iload_n (pc2 := 20) 2 (n := 2) (x := x2) rfl dX6_freeCells_19 rfl ?_
    obtain ⟨k5, ht⟩ := ht
    refine x_callV (pc2 := 23) (As := [.int x2]) (rest := []) (b := a0) mv_X6_isOutermost ml_X6_114 k5 rfl rfl (Nat.le_of_ble_eq_true rfl) hd1 dX6_freeCells_20 rfl (ht.mono (fun r2 h3 p4 ht' => ?_))
    clear ht
    obtain ⟨v6, rfl, ht⟩ := ht'
    show Ex G d mX6_freeCells 23 [(0, .ref a0), (1, .int x1), (2, .int x2)] [.int v6] h3 Q
    refine x_if_eq (pc2 := 26) 38 dX6_freeCells_23 (by decide) rfl (fun c7 => ?_) (fun c7 => ?_)
    · replace ht := ht.1 c7
      refine x_iinc (pc2 := 41) 2 [1, 2, 0] (i := 2) (x := x2) (v := (x2 + 1)) (lv2 := [(0, .ref a0), (1, .int x1), (2, .int (x2 + 1))]) rfl (iinc_eq (by decide) _) (by decide) rfl dX6_freeCells_38 rfl ?_
      refine x_goto 12 dX6_freeCells_41 (by decide) ?_
      exact ht
    · replace ht := ht.2 c7
      refine x_iload_n (pc2 := 27) 1 (n := 1) (x := x1) rfl dX6_freeCells_26 rfl ?_
      refine x_aload_n (pc2 := 28) 0 (n := 0) (x := a0) rfl dX6_freeCells_27 rfl ?_
      obtain ⟨q8, e9, ht⟩ := ht
      refine y_getR (pc2 := 31) (κ := 6) (k := 7) fl_X6_27 (by decide) (by decide) (k5.up p4) rfl e9 dX6_freeCells_28 rfl ?_
      refine x_iload_n (pc2 := 32) 2 (n := 2) (x := x2) rfl dX6_freeCells_31 rfl ?_
      obtain ⟨k10, ht⟩ := ht
      obtain ⟨b11, ht⟩ := ht
      obtain ⟨q12, e13, ht⟩ := ht
      refine y_aaldR (pc2 := 33) (κ := 20) (by decide) k10 b11 e13 dX6_freeCells_32 rfl ?_
      obtain ⟨k17, ht⟩ := ht
      refine x_callV (pc2 := 36) (As := []) (rest := [.int x1]) (b := q12) mv_X9_area ml_X6_117 k17 rfl rfl (Nat.le_of_ble_eq_true rfl) hd1 dX6_freeCells_33 rfl (ht.mono (fun r14 h15 p16 ht' => ?_))
      clear ht
      obtain ⟨v18, rfl, ht⟩ := ht'
      show Ex G d mX6_freeCells 36 [(0, .ref a0), (1, .int x1), (2, .int x2)] [.int v18, .int x1] h15 Q
      refine x_isub (pc2 := 37) dX6_freeCells_36 rfl ?_
      refine x_istore_n (pc2 := 38) [1, 0, 2] (n := 1) (x := (x1 - v18)) (lv2 := [(0, .ref a0), (1, .int (x1 - v18)), (2, .int x2)]) (by decide) rfl dX6_freeCells_37 rfl ?_
      refine x_iinc (pc2 := 41) 2 [1, 2, 0] (i := 2) (x := x2) (v := (x2 + 1)) (lv2 := [(0, .ref a0), (1, .int (x1 - v18)), (2, .int (x2 + 1))]) rfl (iinc_eq (by decide) _) (by decide) rfl dX6_freeCells_38 rfl ?_
      refine x_goto 12 dX6_freeCells_41 (by decide) ?_
      exact ht
def T_X6_deepest (G : GG) (d : Nat) (h : HP) (Q : Option Value → HP → Prop) (a0 : Nat) : Prop :=
  Ex G d mX6_deepest 5 [(0, .ref a0), (1, .int 0), (2, .int 6)] [] h Q
set_option maxRecDepth 20000 in
theorem t_X6_deepest {G : GG} {d : Nat} {h : HP} {Q : Option Value → HP → Prop} {a0 : Nat} (ht : T_X6_deepest G d h Q a0) : Ex G d mX6_deepest 0 [(0, .ref a0)] [] h Q := by
  unfold T_X6_deepest at ht
  refine x_iconst (pc2 := 1) (v := 0) (by decide) dX6_deepest_0 rfl ?_
  refine x_istore_n (pc2 := 2) [1, 0] (n := 1) (x := 0) (lv2 := [(0, .ref a0), (1, .int 0)]) (by decide) rfl dX6_deepest_1 rfl ?_
  refine x_bipush (pc2 := 4) (v := 6) (by decide) dX6_deepest_2 rfl ?_
  refine x_istore_n (pc2 := 5) [1, 2, 0] (n := 2) (x := 6) (lv2 := [(0, .ref a0), (1, .int 0), (2, .int 6)]) (by decide) rfl dX6_deepest_4 rfl ?_
  exact ht
theorem e_X6_deepest {G : GG} {d : Nat} {h : HP} {Q : Option Value → HP → Prop} {a0 : Nat} (ht : T_X6_deepest G d h Q a0) : Cal G d mX6_deepest [.ref a0] h Q := cal_of rfl (Nat.le_of_ble_eq_true rfl) (t_X6_deepest ht)
def T_X6_deepest_5 (G : GG) (d : Nat) (h : HP) (Q : Option Value → HP → Prop) (a0 : Nat) (x1 : Int32) (x2 : Int32) : Prop :=
  ((30 ≤ x2 → Q (some (.int x1)) h) ∧ (¬ 30 ≤ x2 → Kd G h a0 6 ∧ ∃ q3, hR h a0 7 = some q3 ∧ Kd G h q3 20 ∧ vp_in x2 (hN h q3) ∧ ∃ q7, hR h q3 x2.toNatClampNeg = some q7 ∧ Kd G h q7 9 ∧ (((hI h q7 0) = 0 → Ex G d mX6_deepest 5 [(0, .ref a0), (1, .int x1), (2, .int (x2 + 1))] [] h Q) ∧ (¬ (hI h q7 0) = 0 → vp_in x2 (hN h q3) ∧ ∃ q12, hR h q3 x2.toNatClampNeg = some q12 ∧ Kd G h q12 9 ∧ Ex G d mX6_deepest 5 [(0, .ref a0), (1, .int (mxI x1 (hI h q12 7))), (2, .int (x2 + 1))] [] h Q))))
set_option maxRecDepth 20000 in
theorem t_X6_deepest_5 {G : GG} {d : Nat} {h : HP} {Q : Option Value → HP → Prop} {a0 : Nat} {x1 : Int32} {x2 : Int32} (hd1 : 1 ≤ d) (ht : T_X6_deepest_5 G d h Q a0 x1 x2) : Ex G d mX6_deepest 5 [(0, .ref a0), (1, .int x1), (2, .int x2)] [] h Q := by
  unfold T_X6_deepest_5 at ht
  refine x_iload_n (pc2 := 6) 2 (n := 2) (x := x2) rfl dX6_deepest_5 rfl ?_
  refine x_bipush (pc2 := 8) (v := 30) (by decide) dX6_deepest_6 rfl ?_
  refine x_icmp_ge (pc2 := 11) 43 dX6_deepest_8 (by decide) rfl (fun c1 => ?_) (fun c1 => ?_)
  · replace ht := ht.1 c1
    refine x_iload_n (pc2 := 44) 1 (n := 1) (x := x1) rfl dX6_deepest_43 rfl ?_
    exact x_ret (ty := .int) rfl rfl dX6_deepest_44 ht
  · replace ht := ht.2 c1
    refine x_aload_n (pc2 := 12) 0 (n := 0) (x := a0) rfl dX6_deepest_11 rfl ?_
    obtain ⟨k2, ht⟩ := ht
    obtain ⟨q3, e4, ht⟩ := ht
    refine y_getR (pc2 := 15) (κ := 6) (k := 7) fl_X6_27 (by decide) (by decide) k2 rfl e4 dX6_deepest_12 rfl ?_
    refine x_iload_n (pc2 := 16) 2 (n := 2) (x := x2) rfl dX6_deepest_15 rfl ?_
    obtain ⟨k5, ht⟩ := ht
    obtain ⟨b6, ht⟩ := ht
    obtain ⟨q7, e8, ht⟩ := ht
    refine y_aaldR (pc2 := 17) (κ := 20) (by decide) k5 b6 e8 dX6_deepest_16 rfl ?_
    obtain ⟨k9, ht⟩ := ht
    refine y_getI (pc2 := 20) (κ := 9) (k := 0) fl_X6_71 (by decide) (by decide) k9 rfl dX6_deepest_17 rfl ?_
    refine x_if_eq (pc2 := 23) 37 dX6_deepest_20 (by decide) rfl (fun c10 => ?_) (fun c10 => ?_)
    · replace ht := ht.1 c10
      refine x_iinc (pc2 := 40) 2 [1, 2, 0] (i := 2) (x := x2) (v := (x2 + 1)) (lv2 := [(0, .ref a0), (1, .int x1), (2, .int (x2 + 1))]) rfl (iinc_eq (by decide) _) (by decide) rfl dX6_deepest_37 rfl ?_
      refine x_goto 5 dX6_deepest_40 (by decide) ?_
      exact ht
    · replace ht := ht.2 c10
      refine x_iload_n (pc2 := 24) 1 (n := 1) (x := x1) rfl dX6_deepest_23 rfl ?_
      refine x_aload_n (pc2 := 25) 0 (n := 0) (x := a0) rfl dX6_deepest_24 rfl ?_
      refine y_getR (pc2 := 28) (κ := 6) (k := 7) fl_X6_27 (by decide) (by decide) k2 rfl e4 dX6_deepest_25 rfl ?_
      refine x_iload_n (pc2 := 29) 2 (n := 2) (x := x2) rfl dX6_deepest_28 rfl ?_
      obtain ⟨b11, ht⟩ := ht
      obtain ⟨q12, e13, ht⟩ := ht
      refine y_aaldR (pc2 := 30) (κ := 20) (by decide) k5 b11 e13 dX6_deepest_29 rfl ?_
      obtain ⟨k14, ht⟩ := ht
      refine y_getI (pc2 := 33) (κ := 9) (k := 7) fl_X6_121 (by decide) (by decide) k14 rfl dX6_deepest_30 rfl ?_
      refine x_mmax (pc2 := 36) ml_X6_124 hd1 (Nat.le_of_ble_eq_true rfl) dX6_deepest_33 rfl ?_
      refine x_istore_n (pc2 := 37) [1, 0, 2] (n := 1) (x := (mxI x1 (hI h q12 7))) (lv2 := [(0, .ref a0), (1, .int (mxI x1 (hI h q12 7))), (2, .int x2)]) (by decide) rfl dX6_deepest_36 rfl ?_
      refine x_iinc (pc2 := 40) 2 [1, 2, 0] (i := 2) (x := x2) (v := (x2 + 1)) (lv2 := [(0, .ref a0), (1, .int (mxI x1 (hI h q12 7))), (2, .int (x2 + 1))]) rfl (iinc_eq (by decide) _) (by decide) rfl dX6_deepest_37 rfl ?_
      refine x_goto 5 dX6_deepest_40 (by decide) ?_
      exact ht
def T_X6_freeNumber (G : GG) (d : Nat) (h : HP) (Q : Option Value → HP → Prop) (a0 : Nat) : Prop :=
  Ex G d mX6_freeNumber 3 [(0, .ref a0), (1, .int 6)] [] h Q
set_option maxRecDepth 20000 in
theorem t_X6_freeNumber {G : GG} {d : Nat} {h : HP} {Q : Option Value → HP → Prop} {a0 : Nat} (ht : T_X6_freeNumber G d h Q a0) : Ex G d mX6_freeNumber 0 [(0, .ref a0)] [] h Q := by
  unfold T_X6_freeNumber at ht
  refine x_bipush (pc2 := 2) (v := 6) (by decide) dX6_freeNumber_0 rfl ?_
  refine x_istore_n (pc2 := 3) [1, 0] (n := 1) (x := 6) (lv2 := [(0, .ref a0), (1, .int 6)]) (by decide) rfl dX6_freeNumber_2 rfl ?_
  exact ht
theorem e_X6_freeNumber {G : GG} {d : Nat} {h : HP} {Q : Option Value → HP → Prop} {a0 : Nat} (ht : T_X6_freeNumber G d h Q a0) : Cal G d mX6_freeNumber [.ref a0] h Q := cal_of rfl (Nat.le_of_ble_eq_true rfl) (t_X6_freeNumber ht)
def T_X6_freeNumber_3 (G : GG) (d : Nat) (h : HP) (Q : Option Value → HP → Prop) (a0 : Nat) (x1 : Int32) : Prop :=
  ((30 ≤ x1 → Q (some (.int (-1))) h) ∧ (¬ 30 ≤ x1 → Kd G h a0 6 ∧ ∃ q3, hR h a0 7 = some q3 ∧ Kd G h q3 20 ∧ vp_in x1 (hN h q3) ∧ ∃ q7, hR h q3 x1.toNatClampNeg = some q7 ∧ Kd G h q7 9 ∧ ((¬ (hI h q7 0) = 0 → Ex G d mX6_freeNumber 3 [(0, .ref a0), (1, .int (x1 + 1))] [] h Q) ∧ ((hI h q7 0) = 0 → Q (some (.int x1)) h))))
set_option maxRecDepth 20000 in
theorem t_X6_freeNumber_3 {G : GG} {d : Nat} {h : HP} {Q : Option Value → HP → Prop} {a0 : Nat} {x1 : Int32} (ht : T_X6_freeNumber_3 G d h Q a0 x1) : Ex G d mX6_freeNumber 3 [(0, .ref a0), (1, .int x1)] [] h Q := by
  unfold T_X6_freeNumber_3 at ht
  refine x_iload_n (pc2 := 4) 1 (n := 1) (x := x1) rfl dX6_freeNumber_3 rfl ?_
  refine x_bipush (pc2 := 6) (v := 30) (by decide) dX6_freeNumber_4 rfl ?_
  refine x_icmp_ge (pc2 := 9) 29 dX6_freeNumber_6 (by decide) rfl (fun c1 => ?_) (fun c1 => ?_)
  · replace ht := ht.1 c1
    refine x_iconst (pc2 := 30) (v := (-1)) (by decide) dX6_freeNumber_29 rfl ?_
    exact x_ret (ty := .int) rfl rfl dX6_freeNumber_30 ht
  · replace ht := ht.2 c1
    refine x_aload_n (pc2 := 10) 0 (n := 0) (x := a0) rfl dX6_freeNumber_9 rfl ?_
    obtain ⟨k2, ht⟩ := ht
    obtain ⟨q3, e4, ht⟩ := ht
    refine y_getR (pc2 := 13) (κ := 6) (k := 7) fl_X6_27 (by decide) (by decide) k2 rfl e4 dX6_freeNumber_10 rfl ?_
    refine x_iload_n (pc2 := 14) 1 (n := 1) (x := x1) rfl dX6_freeNumber_13 rfl ?_
    obtain ⟨k5, ht⟩ := ht
    obtain ⟨b6, ht⟩ := ht
    obtain ⟨q7, e8, ht⟩ := ht
    refine y_aaldR (pc2 := 15) (κ := 20) (by decide) k5 b6 e8 dX6_freeNumber_14 rfl ?_
    obtain ⟨k9, ht⟩ := ht
    refine y_getI (pc2 := 18) (κ := 9) (k := 0) fl_X6_71 (by decide) (by decide) k9 rfl dX6_freeNumber_15 rfl ?_
    refine y_if_ne (pc2 := 21) 23 dX6_freeNumber_18 (by decide) rfl (fun c10 => ?_) (fun c10 => ?_)
    · replace ht := ht.1 c10
      refine x_iinc (pc2 := 26) 1 [1, 0] (i := 1) (x := x1) (v := (x1 + 1)) (lv2 := [(0, .ref a0), (1, .int (x1 + 1))]) rfl (iinc_eq (by decide) _) (by decide) rfl dX6_freeNumber_23 rfl ?_
      refine x_goto 3 dX6_freeNumber_26 (by decide) ?_
      exact ht
    · replace ht := ht.2 c10
      refine x_iload_n (pc2 := 22) 1 (n := 1) (x := x1) rfl dX6_freeNumber_21 rfl ?_
      exact x_ret (ty := .int) rfl rfl dX6_freeNumber_22 ht
def T_X6_outermostAt (G : GG) (d : Nat) (h : HP) (Q : Option Value → HP → Prop) (a0 : Nat) (x1 : Int32) : Prop :=
  Kd G h a0 6 ∧ Cal G (d - 1) mX6_nestCount [.ref a0] h (fun r1 h2 => ∃ v5, r1 = some (.int v5) ∧ ((v5 ≤ 0 → Ex G d mX6_outermostAt 20 [(0, .ref a0), (1, .int x1), (2, .int v5), (3, .int 0), (4, .int 0)] [] h2 Q) ∧ (¬ v5 ≤ 0 → ¬ v5 = 0 ∧ Ex G d mX6_outermostAt 20 [(0, .ref a0), (1, .int x1), (2, .int v5), (3, .int (irm x1 v5)), (4, .int 0)] [] h2 Q)))
set_option maxRecDepth 20000 in
theorem t_X6_outermostAt {G : GG} {d : Nat} {h : HP} {Q : Option Value → HP → Prop} {a0 : Nat} {x1 : Int32} (hd1 : 1 ≤ d) (ht : T_X6_outermostAt G d h Q a0 x1) : Ex G d mX6_outermostAt 0 [(0, .ref a0), (1, .int x1)] [] h Q := by
  unfold T_X6_outermostAt at ht
  refine x_aload_n (pc2 := 1) 0 (n := 0) (x := a0) rfl dX6_outermostAt_0 rfl ?_
  obtain ⟨k4, ht⟩ := ht
  refine x_callV (pc2 := 4) (As := []) (rest := []) (b := a0) mv_X6_nestCount ml_X6_130 k4 rfl rfl (Nat.le_of_ble_eq_true rfl) hd1 dX6_outermostAt_1 rfl (ht.mono (fun r1 h2 p3 ht' => ?_))
  clear ht
  obtain ⟨v5, rfl, ht⟩ := ht'
  show Ex G d mX6_outermostAt 4 [(0, .ref a0), (1, .int x1)] [.int v5] h2 Q
  refine x_istore_n (pc2 := 5) [1, 2, 0] (n := 2) (x := v5) (lv2 := [(0, .ref a0), (1, .int x1), (2, .int v5)]) (by decide) rfl dX6_outermostAt_4 rfl ?_
  refine x_iload_n (pc2 := 6) 2 (n := 2) (x := v5) rfl dX6_outermostAt_5 rfl ?_
  refine x_if_le (pc2 := 9) 15 dX6_outermostAt_6 (by decide) rfl (fun c6 => ?_) (fun c6 => ?_)
  · replace ht := ht.1 c6
    refine x_iconst (pc2 := 16) (v := 0) (by decide) dX6_outermostAt_15 rfl ?_
    refine x_istore_n (pc2 := 17) [1, 2, 3, 0] (n := 3) (x := 0) (lv2 := [(0, .ref a0), (1, .int x1), (2, .int v5), (3, .int 0)]) (by decide) rfl dX6_outermostAt_16 rfl ?_
    refine x_iconst (pc2 := 18) (v := 0) (by decide) dX6_outermostAt_17 rfl ?_
    refine x_istore (pc2 := 20) [1, 2, 3, 4, 0] (n := 4) (x := 0) (lv2 := [(0, .ref a0), (1, .int x1), (2, .int v5), (3, .int 0), (4, .int 0)]) (by decide) rfl dX6_outermostAt_18 rfl ?_
    exact ht
  · replace ht := ht.2 c6
    refine x_iload_n (pc2 := 10) 1 (n := 1) (x := x1) rfl dX6_outermostAt_9 rfl ?_
    refine x_iload_n (pc2 := 11) 2 (n := 2) (x := v5) rfl dX6_outermostAt_10 rfl ?_
    obtain ⟨n7, ht⟩ := ht
    refine y_irem (pc2 := 12) n7 dX6_outermostAt_11 rfl ?_
    refine x_goto 16 dX6_outermostAt_12 (by decide) ?_
    refine x_istore_n (pc2 := 17) [1, 2, 3, 0] (n := 3) (x := (irm x1 v5)) (lv2 := [(0, .ref a0), (1, .int x1), (2, .int v5), (3, .int (irm x1 v5))]) (by decide) rfl dX6_outermostAt_16 rfl ?_
    refine x_iconst (pc2 := 18) (v := 0) (by decide) dX6_outermostAt_17 rfl ?_
    refine x_istore (pc2 := 20) [1, 2, 3, 4, 0] (n := 4) (x := 0) (lv2 := [(0, .ref a0), (1, .int x1), (2, .int v5), (3, .int (irm x1 v5)), (4, .int 0)]) (by decide) rfl dX6_outermostAt_18 rfl ?_
    exact ht
theorem e_X6_outermostAt {G : GG} {d : Nat} {h : HP} {Q : Option Value → HP → Prop} {a0 : Nat} {x1 : Int32} (hd1 : 1 ≤ d) (ht : T_X6_outermostAt G d h Q a0 x1) : Cal G d mX6_outermostAt [.ref a0, .int x1] h Q := cal_of rfl (Nat.le_of_ble_eq_true rfl) (t_X6_outermostAt hd1 ht)
def T_X6_outermostAt_20 (G : GG) (d : Nat) (h : HP) (Q : Option Value → HP → Prop) (a0 : Nat) (x1 : Int32) (x2 : Int32) (x3 : Int32) (x4 : Int32) : Prop :=
  ((30 ≤ x4 → Q (some (.int (-1))) h) ∧ (¬ 30 ≤ x4 → Kd G h a0 6 ∧ Cal G (d - 1) mX6_isOutermost [.ref a0, .int x4] h (fun r2 h3 => ∃ v6, r2 = some (.int v6) ∧ ((v6 = 0 → Ex G d mX6_outermostAt 20 [(0, .ref a0), (1, .int x1), (2, .int x2), (3, .int x3), (4, .int (x4 + 1))] [] h3 Q) ∧ (¬ v6 = 0 → ((¬ x3 = 0 → Ex G d mX6_outermostAt 20 [(0, .ref a0), (1, .int x1), (2, .int x2), (3, .int (x3 + (-1))), (4, .int (x4 + 1))] [] h3 Q) ∧ (x3 = 0 → Q (some (.int x4)) h3)))))))
set_option maxRecDepth 20000 in
theorem t_X6_outermostAt_20 {G : GG} {d : Nat} {h : HP} {Q : Option Value → HP → Prop} {a0 : Nat} {x1 : Int32} {x2 : Int32} {x3 : Int32} {x4 : Int32} (hd1 : 1 ≤ d) (ht : T_X6_outermostAt_20 G d h Q a0 x1 x2 x3 x4) : Ex G d mX6_outermostAt 20 [(0, .ref a0), (1, .int x1), (2, .int x2), (3, .int x3), (4, .int x4)] [] h Q := by
  unfold T_X6_outermostAt_20 at ht
  refine x_iload (pc2 := 22) 4 (n := 4) (x := x4) rfl dX6_outermostAt_20 rfl ?_
  refine x_bipush (pc2 := 24) (v := 30) (by decide) dX6_outermostAt_22 rfl ?_
  refine x_icmp_ge (pc2 := 27) 52 dX6_outermostAt_24 (by decide) rfl (fun c1 => ?_) (fun c1 => ?_)
  · replace ht := ht.1 c1
    refine x_iconst (pc2 := 53) (v := (-1)) (by decide) dX6_outermostAt_52 rfl ?_
    exact x_ret (ty := .int) rfl rfl dX6_outermostAt_53 ht
  · replace ht := ht.2 c1
    refine x_aload_n (pc2 := 28) 0 (n := 0) (x := a0) rfl dX6_outermostAt_27 rfl ?_
    refine x_iload (pc2 := 30) 4 (n := 4) (x := x4) rfl dX6_outermostAt_28 rfl ?_
    obtain ⟨k5, ht⟩ := ht
    refine x_callV (pc2 := 33) (As := [.int x4]) (rest := []) (b := a0) mv_X6_isOutermost ml_X6_114 k5 rfl rfl (Nat.le_of_ble_eq_true rfl) hd1 dX6_outermostAt_30 rfl (ht.mono (fun r2 h3 p4 ht' => ?_))
    clear ht
    obtain ⟨v6, rfl, ht⟩ := ht'
    show Ex G d mX6_outermostAt 33 [(0, .ref a0), (1, .int x1), (2, .int x2), (3, .int x3), (4, .int x4)] [.int v6] h3 Q
    refine x_if_eq (pc2 := 36) 46 dX6_outermostAt_33 (by decide) rfl (fun c7 => ?_) (fun c7 => ?_)
    · replace ht := ht.1 c7
      refine x_iinc (pc2 := 49) 4 [1, 2, 3, 4, 0] (i := 4) (x := x4) (v := (x4 + 1)) (lv2 := [(0, .ref a0), (1, .int x1), (2, .int x2), (3, .int x3), (4, .int (x4 + 1))]) rfl (iinc_eq (by decide) _) (by decide) rfl dX6_outermostAt_46 rfl ?_
      refine x_goto 20 dX6_outermostAt_49 (by decide) ?_
      exact ht
    · replace ht := ht.2 c7
      refine x_iload_n (pc2 := 37) 3 (n := 3) (x := x3) rfl dX6_outermostAt_36 rfl ?_
      refine y_if_ne (pc2 := 40) 43 dX6_outermostAt_37 (by decide) rfl (fun c8 => ?_) (fun c8 => ?_)
      · replace ht := ht.1 c8
        refine x_iinc (pc2 := 46) 3 [1, 2, 3, 0, 4] (i := 3) (x := x3) (v := (x3 + (-1))) (lv2 := [(0, .ref a0), (1, .int x1), (2, .int x2), (3, .int (x3 + (-1))), (4, .int x4)]) rfl (iinc_eq (by decide) _) (by decide) rfl dX6_outermostAt_43 rfl ?_
        refine x_iinc (pc2 := 49) 4 [1, 2, 3, 4, 0] (i := 4) (x := x4) (v := (x4 + 1)) (lv2 := [(0, .ref a0), (1, .int x1), (2, .int x2), (3, .int (x3 + (-1))), (4, .int (x4 + 1))]) rfl (iinc_eq (by decide) _) (by decide) rfl dX6_outermostAt_46 rfl ?_
        refine x_goto 20 dX6_outermostAt_49 (by decide) ?_
        exact ht
      · replace ht := ht.2 c8
        refine x_iload (pc2 := 42) 4 (n := 4) (x := x4) rfl dX6_outermostAt_40 rfl ?_
        exact x_ret (ty := .int) rfl rfl dX6_outermostAt_42 ht
def T_X6_innermostAt (G : GG) (d : Nat) (h : HP) (Q : Option Value → HP → Prop) (a0 : Nat) (x1 : Int32) (x2 : Int32) : Prop :=
  Ex G d mX6_innermostAt 5 [(0, .ref a0), (1, .int x1), (2, .int x2), (3, .int (-1)), (4, .int 0)] [] h Q
set_option maxRecDepth 20000 in
theorem t_X6_innermostAt {G : GG} {d : Nat} {h : HP} {Q : Option Value → HP → Prop} {a0 : Nat} {x1 : Int32} {x2 : Int32} (ht : T_X6_innermostAt G d h Q a0 x1 x2) : Ex G d mX6_innermostAt 0 [(0, .ref a0), (1, .int x1), (2, .int x2)] [] h Q := by
  unfold T_X6_innermostAt at ht
  refine x_iconst (pc2 := 1) (v := (-1)) (by decide) dX6_innermostAt_0 rfl ?_
  refine x_istore_n (pc2 := 2) [1, 2, 3, 0] (n := 3) (x := (-1)) (lv2 := [(0, .ref a0), (1, .int x1), (2, .int x2), (3, .int (-1))]) (by decide) rfl dX6_innermostAt_1 rfl ?_
  refine x_iconst (pc2 := 3) (v := 0) (by decide) dX6_innermostAt_2 rfl ?_
  refine x_istore (pc2 := 5) [1, 2, 3, 4, 0] (n := 4) (x := 0) (lv2 := [(0, .ref a0), (1, .int x1), (2, .int x2), (3, .int (-1)), (4, .int 0)]) (by decide) rfl dX6_innermostAt_3 rfl ?_
  exact ht
theorem e_X6_innermostAt {G : GG} {d : Nat} {h : HP} {Q : Option Value → HP → Prop} {a0 : Nat} {x1 : Int32} {x2 : Int32} (ht : T_X6_innermostAt G d h Q a0 x1 x2) : Cal G d mX6_innermostAt [.ref a0, .int x1, .int x2] h Q := cal_of rfl (Nat.le_of_ble_eq_true rfl) (t_X6_innermostAt ht)
def T_X6_innermostAt_5 (G : GG) (d : Nat) (h : HP) (Q : Option Value → HP → Prop) (a0 : Nat) (x1 : Int32) (x2 : Int32) (x3 : Int32) (x4 : Int32) : Prop :=
  ((30 ≤ x4 → Q (some (.int x3)) h) ∧ (¬ 30 ≤ x4 → Kd G h a0 6 ∧ ∃ q3, hR h a0 7 = some q3 ∧ Kd G h q3 20 ∧ vp_in x4 (hN h q3) ∧ ∃ q7, hR h q3 x4.toNatClampNeg = some q7 ∧ Kd G h q7 9 ∧ (((hI h q7 0) = 0 → Ex G d mX6_innermostAt 5 [(0, .ref a0), (1, .int x1), (2, .int x2), (3, .int x3), (4, .int (x4 + 1))] [] h Q) ∧ (¬ (hI h q7 0) = 0 → vp_in x4 (hN h q3) ∧ ∃ q12, hR h q3 x4.toNatClampNeg = some q12 ∧ Kd G h q12 9 ∧ Cal G (d - 1) mX9_has [.ref q12, .int x1, .int x2] h (fun r14 h15 => ∃ v18, r14 = some (.int v18) ∧ ((v18 = 0 → Ex G d mX6_innermostAt 5 [(0, .ref a0), (1, .int x1), (2, .int x2), (3, .int x3), (4, .int (x4 + 1))] [] h15 Q) ∧ (¬ v18 = 0 → ((x3 = (-1) → Ex G d mX6_innermostAt 5 [(0, .ref a0), (1, .int x1), (2, .int x2), (3, .int x4), (4, .int (x4 + 1))] [] h15 Q) ∧ (¬ x3 = (-1) → ∃ q21, hR h15 a0 7 = some q21 ∧ Kd G h15 q21 20 ∧ vp_in x4 (hN h15 q21) ∧ ∃ q25, hR h15 q21 x4.toNatClampNeg = some q25 ∧ Kd G h15 q25 9 ∧ Cal G (d - 1) mX9_area [.ref q25] h15 (fun r27 h28 => ∃ v31, r27 = some (.int v31) ∧ ∃ q32, hR h28 a0 7 = some q32 ∧ Kd G h28 q32 20 ∧ vp_in x3 (hN h28 q32) ∧ ∃ q36, hR h28 q32 x3.toNatClampNeg = some q36 ∧ Kd G h28 q36 9 ∧ Cal G (d - 1) mX9_area [.ref q36] h28 (fun r38 h39 => ∃ v42, r38 = some (.int v42) ∧ ((v42 ≤ v31 → Ex G d mX6_innermostAt 5 [(0, .ref a0), (1, .int x1), (2, .int x2), (3, .int x3), (4, .int (x4 + 1))] [] h39 Q) ∧ (¬ v42 ≤ v31 → Ex G d mX6_innermostAt 5 [(0, .ref a0), (1, .int x1), (2, .int x2), (3, .int x4), (4, .int (x4 + 1))] [] h39 Q)))))))))))))
set_option maxRecDepth 20000 in
theorem t_X6_innermostAt_5 {G : GG} {d : Nat} {h : HP} {Q : Option Value → HP → Prop} {a0 : Nat} {x1 : Int32} {x2 : Int32} {x3 : Int32} {x4 : Int32} (hd1 : 1 ≤ d) (ht : T_X6_innermostAt_5 G d h Q a0 x1 x2 x3 x4) : Ex G d mX6_innermostAt 5 [(0, .ref a0), (1, .int x1), (2, .int x2), (3, .int x3), (4, .int x4)] [] h Q := by
  unfold T_X6_innermostAt_5 at ht
  refine x_iload (pc2 := 7) 4 (n := 4) (x := x4) rfl dX6_innermostAt_5 rfl ?_
  refine x_bipush (pc2 := 9) (v := 30) (by decide) dX6_innermostAt_7 rfl ?_
  refine x_icmp_ge (pc2 := 12) 76 dX6_innermostAt_9 (by decide) rfl (fun c1 => ?_) (fun c1 => ?_)
  · replace ht := ht.1 c1
    refine x_iload_n (pc2 := 77) 3 (n := 3) (x := x3) rfl dX6_innermostAt_76 rfl ?_
    exact x_ret (ty := .int) rfl rfl dX6_innermostAt_77 ht
  · replace ht := ht.2 c1
    refine x_aload_n (pc2 := 13) 0 (n := 0) (x := a0) rfl dX6_innermostAt_12 rfl ?_
    obtain ⟨k2, ht⟩ := ht
    obtain ⟨q3, e4, ht⟩ := ht
    refine y_getR (pc2 := 16) (κ := 6) (k := 7) fl_X6_27 (by decide) (by decide) k2 rfl e4 dX6_innermostAt_13 rfl ?_
    refine x_iload (pc2 := 18) 4 (n := 4) (x := x4) rfl dX6_innermostAt_16 rfl ?_
    obtain ⟨k5, ht⟩ := ht
    obtain ⟨b6, ht⟩ := ht
    obtain ⟨q7, e8, ht⟩ := ht
    refine y_aaldR (pc2 := 19) (κ := 20) (by decide) k5 b6 e8 dX6_innermostAt_18 rfl ?_
    obtain ⟨k9, ht⟩ := ht
    refine y_getI (pc2 := 22) (κ := 9) (k := 0) fl_X6_71 (by decide) (by decide) k9 rfl dX6_innermostAt_19 rfl ?_
    refine x_if_eq (pc2 := 25) 70 dX6_innermostAt_22 (by decide) rfl (fun c10 => ?_) (fun c10 => ?_)
    · replace ht := ht.1 c10
      refine x_iinc (pc2 := 73) 4 [1, 2, 3, 4, 0] (i := 4) (x := x4) (v := (x4 + 1)) (lv2 := [(0, .ref a0), (1, .int x1), (2, .int x2), (3, .int x3), (4, .int (x4 + 1))]) rfl (iinc_eq (by decide) _) (by decide) rfl dX6_innermostAt_70 rfl ?_
      refine x_goto 5 dX6_innermostAt_73 (by decide) ?_
      exact ht
    · replace ht := ht.2 c10
      refine x_aload_n (pc2 := 26) 0 (n := 0) (x := a0) rfl dX6_innermostAt_25 rfl ?_
      refine y_getR (pc2 := 29) (κ := 6) (k := 7) fl_X6_27 (by decide) (by decide) k2 rfl e4 dX6_innermostAt_26 rfl ?_
      refine x_iload (pc2 := 31) 4 (n := 4) (x := x4) rfl dX6_innermostAt_29 rfl ?_
      obtain ⟨b11, ht⟩ := ht
      obtain ⟨q12, e13, ht⟩ := ht
      refine y_aaldR (pc2 := 32) (κ := 20) (by decide) k5 b11 e13 dX6_innermostAt_31 rfl ?_
      refine x_iload_n (pc2 := 33) 1 (n := 1) (x := x1) rfl dX6_innermostAt_32 rfl ?_
      refine x_iload_n (pc2 := 34) 2 (n := 2) (x := x2) rfl dX6_innermostAt_33 rfl ?_
      obtain ⟨k17, ht⟩ := ht
      refine x_callV (pc2 := 37) (As := [.int x1, .int x2]) (rest := []) (b := q12) mv_X9_has ml_X6_133 k17 rfl rfl (Nat.le_of_ble_eq_true rfl) hd1 dX6_innermostAt_34 rfl (ht.mono (fun r14 h15 p16 ht' => ?_))
      clear ht
      obtain ⟨v18, rfl, ht⟩ := ht'
      show Ex G d mX6_innermostAt 37 [(0, .ref a0), (1, .int x1), (2, .int x2), (3, .int x3), (4, .int x4)] [.int v18] h15 Q
      refine x_if_eq (pc2 := 40) 70 dX6_innermostAt_37 (by decide) rfl (fun c19 => ?_) (fun c19 => ?_)
      · replace ht := ht.1 c19
        refine x_iinc (pc2 := 73) 4 [1, 2, 3, 4, 0] (i := 4) (x := x4) (v := (x4 + 1)) (lv2 := [(0, .ref a0), (1, .int x1), (2, .int x2), (3, .int x3), (4, .int (x4 + 1))]) rfl (iinc_eq (by decide) _) (by decide) rfl dX6_innermostAt_70 rfl ?_
        refine x_goto 5 dX6_innermostAt_73 (by decide) ?_
        exact ht
      · replace ht := ht.2 c19
        refine x_iload_n (pc2 := 41) 3 (n := 3) (x := x3) rfl dX6_innermostAt_40 rfl ?_
        refine x_iconst (pc2 := 42) (v := (-1)) (by decide) dX6_innermostAt_41 rfl ?_
        refine x_icmp_eq (pc2 := 45) 67 dX6_innermostAt_42 (by decide) rfl (fun c20 => ?_) (fun c20 => ?_)
        · replace ht := ht.1 c20
          refine x_iload (pc2 := 69) 4 (n := 4) (x := x4) rfl dX6_innermostAt_67 rfl ?_
          refine x_istore_n (pc2 := 70) [1, 2, 3, 0, 4] (n := 3) (x := x4) (lv2 := [(0, .ref a0), (1, .int x1), (2, .int x2), (3, .int x4), (4, .int x4)]) (by decide) rfl dX6_innermostAt_69 rfl ?_
          refine x_iinc (pc2 := 73) 4 [1, 2, 3, 4, 0] (i := 4) (x := x4) (v := (x4 + 1)) (lv2 := [(0, .ref a0), (1, .int x1), (2, .int x2), (3, .int x4), (4, .int (x4 + 1))]) rfl (iinc_eq (by decide) _) (by decide) rfl dX6_innermostAt_70 rfl ?_
          refine x_goto 5 dX6_innermostAt_73 (by decide) ?_
          exact ht
        · replace ht := ht.2 c20
          refine x_aload_n (pc2 := 46) 0 (n := 0) (x := a0) rfl dX6_innermostAt_45 rfl ?_
          obtain ⟨q21, e22, ht⟩ := ht
          refine y_getR (pc2 := 49) (κ := 6) (k := 7) fl_X6_27 (by decide) (by decide) (k2.up p16) rfl e22 dX6_innermostAt_46 rfl ?_
          refine x_iload (pc2 := 51) 4 (n := 4) (x := x4) rfl dX6_innermostAt_49 rfl ?_
          obtain ⟨k23, ht⟩ := ht
          obtain ⟨b24, ht⟩ := ht
          obtain ⟨q25, e26, ht⟩ := ht
          refine y_aaldR (pc2 := 52) (κ := 20) (by decide) k23 b24 e26 dX6_innermostAt_51 rfl ?_
          obtain ⟨k30, ht⟩ := ht
          refine x_callV (pc2 := 55) (As := []) (rest := []) (b := q25) mv_X9_area ml_X6_117 k30 rfl rfl (Nat.le_of_ble_eq_true rfl) hd1 dX6_innermostAt_52 rfl (ht.mono (fun r27 h28 p29 ht' => ?_))
          clear ht
          obtain ⟨v31, rfl, ht⟩ := ht'
          show Ex G d mX6_innermostAt 55 [(0, .ref a0), (1, .int x1), (2, .int x2), (3, .int x3), (4, .int x4)] [.int v31] h28 Q
          refine x_aload_n (pc2 := 56) 0 (n := 0) (x := a0) rfl dX6_innermostAt_55 rfl ?_
          obtain ⟨q32, e33, ht⟩ := ht
          refine y_getR (pc2 := 59) (κ := 6) (k := 7) fl_X6_27 (by decide) (by decide) ((k2.up p16).up p29) rfl e33 dX6_innermostAt_56 rfl ?_
          refine x_iload_n (pc2 := 60) 3 (n := 3) (x := x3) rfl dX6_innermostAt_59 rfl ?_
          obtain ⟨k34, ht⟩ := ht
          obtain ⟨b35, ht⟩ := ht
          obtain ⟨q36, e37, ht⟩ := ht
          refine y_aaldR (pc2 := 61) (κ := 20) (by decide) k34 b35 e37 dX6_innermostAt_60 rfl ?_
          obtain ⟨k41, ht⟩ := ht
          refine x_callV (pc2 := 64) (As := []) (rest := [.int v31]) (b := q36) mv_X9_area ml_X6_117 k41 rfl rfl (Nat.le_of_ble_eq_true rfl) hd1 dX6_innermostAt_61 rfl (ht.mono (fun r38 h39 p40 ht' => ?_))
          clear ht
          obtain ⟨v42, rfl, ht⟩ := ht'
          show Ex G d mX6_innermostAt 64 [(0, .ref a0), (1, .int x1), (2, .int x2), (3, .int x3), (4, .int x4)] [.int v42, .int v31] h39 Q
          refine x_icmp_ge (pc2 := 67) 70 dX6_innermostAt_64 (by decide) rfl (fun c43 => ?_) (fun c43 => ?_)
          · replace ht := ht.1 c43
            refine x_iinc (pc2 := 73) 4 [1, 2, 3, 4, 0] (i := 4) (x := x4) (v := (x4 + 1)) (lv2 := [(0, .ref a0), (1, .int x1), (2, .int x2), (3, .int x3), (4, .int (x4 + 1))]) rfl (iinc_eq (by decide) _) (by decide) rfl dX6_innermostAt_70 rfl ?_
            refine x_goto 5 dX6_innermostAt_73 (by decide) ?_
            exact ht
          · replace ht := ht.2 c43
            refine x_iload (pc2 := 69) 4 (n := 4) (x := x4) rfl dX6_innermostAt_67 rfl ?_
            refine x_istore_n (pc2 := 70) [1, 2, 3, 0, 4] (n := 3) (x := x4) (lv2 := [(0, .ref a0), (1, .int x1), (2, .int x2), (3, .int x4), (4, .int x4)]) (by decide) rfl dX6_innermostAt_69 rfl ?_
            refine x_iinc (pc2 := 73) 4 [1, 2, 3, 4, 0] (i := 4) (x := x4) (v := (x4 + 1)) (lv2 := [(0, .ref a0), (1, .int x1), (2, .int x2), (3, .int x4), (4, .int (x4 + 1))]) rfl (iinc_eq (by decide) _) (by decide) rfl dX6_innermostAt_70 rfl ?_
            refine x_goto 5 dX6_innermostAt_73 (by decide) ?_
            exact ht
def T_X6_liesIn (G : GG) (d : Nat) (h : HP) (Q : Option Value → HP → Prop) (a0 : Nat) (x1 : Int32) (x2 : Int32) : Prop :=
  Kd G h a0 6 ∧ ∃ q2, hR h a0 7 = some q2 ∧ Kd G h q2 20 ∧ vp_in x1 (hN h q2) ∧ ∃ q6, hR h q2 x1.toNatClampNeg = some q6 ∧ Kd G h q6 9 ∧ Ex G d mX6_liesIn 13 [(0, .ref a0), (1, .int x1), (2, .int x2), (3, .int (hI h q6 6)), (4, .int 0)] [] h Q
set_option maxRecDepth 20000 in
theorem t_X6_liesIn {G : GG} {d : Nat} {h : HP} {Q : Option Value → HP → Prop} {a0 : Nat} {x1 : Int32} {x2 : Int32} (ht : T_X6_liesIn G d h Q a0 x1 x2) : Ex G d mX6_liesIn 0 [(0, .ref a0), (1, .int x1), (2, .int x2)] [] h Q := by
  unfold T_X6_liesIn at ht
  refine x_aload_n (pc2 := 1) 0 (n := 0) (x := a0) rfl dX6_liesIn_0 rfl ?_
  obtain ⟨k1, ht⟩ := ht
  obtain ⟨q2, e3, ht⟩ := ht
  refine y_getR (pc2 := 4) (κ := 6) (k := 7) fl_X6_27 (by decide) (by decide) k1 rfl e3 dX6_liesIn_1 rfl ?_
  refine x_iload_n (pc2 := 5) 1 (n := 1) (x := x1) rfl dX6_liesIn_4 rfl ?_
  obtain ⟨k4, ht⟩ := ht
  obtain ⟨b5, ht⟩ := ht
  obtain ⟨q6, e7, ht⟩ := ht
  refine y_aaldR (pc2 := 6) (κ := 20) (by decide) k4 b5 e7 dX6_liesIn_5 rfl ?_
  obtain ⟨k8, ht⟩ := ht
  refine y_getI (pc2 := 9) (κ := 9) (k := 6) fl_X6_104 (by decide) (by decide) k8 rfl dX6_liesIn_6 rfl ?_
  refine x_istore_n (pc2 := 10) [1, 2, 3, 0] (n := 3) (x := (hI h q6 6)) (lv2 := [(0, .ref a0), (1, .int x1), (2, .int x2), (3, .int (hI h q6 6))]) (by decide) rfl dX6_liesIn_9 rfl ?_
  refine x_iconst (pc2 := 11) (v := 0) (by decide) dX6_liesIn_10 rfl ?_
  refine x_istore (pc2 := 13) [1, 2, 3, 4, 0] (n := 4) (x := 0) (lv2 := [(0, .ref a0), (1, .int x1), (2, .int x2), (3, .int (hI h q6 6)), (4, .int 0)]) (by decide) rfl dX6_liesIn_11 rfl ?_
  exact ht
theorem e_X6_liesIn {G : GG} {d : Nat} {h : HP} {Q : Option Value → HP → Prop} {a0 : Nat} {x1 : Int32} {x2 : Int32} (ht : T_X6_liesIn G d h Q a0 x1 x2) : Cal G d mX6_liesIn [.ref a0, .int x1, .int x2] h Q := cal_of rfl (Nat.le_of_ble_eq_true rfl) (t_X6_liesIn ht)
def T_X6_liesIn_13 (G : GG) (d : Nat) (h : HP) (Q : Option Value → HP → Prop) (a0 : Nat) (x1 : Int32) (x2 : Int32) (x3 : Int32) (x4 : Int32) : Prop :=
  ((31 ≤ x4 → Q (some (.int 0)) h) ∧ (¬ 31 ≤ x4 → ((x3 = (-1) → Q (some (.int 0)) h) ∧ (¬ x3 = (-1) → ((¬ x3 = x2 → Kd G h a0 6 ∧ ∃ q5, hR h a0 7 = some q5 ∧ Kd G h q5 20 ∧ vp_in x3 (hN h q5) ∧ ∃ q9, hR h q5 x3.toNatClampNeg = some q9 ∧ Kd G h q9 9 ∧ Ex G d mX6_liesIn 13 [(0, .ref a0), (1, .int x1), (2, .int x2), (3, .int (hI h q9 6)), (4, .int (x4 + 1))] [] h Q) ∧ (x3 = x2 → Q (some (.int 1)) h))))))
set_option maxRecDepth 20000 in
theorem t_X6_liesIn_13 {G : GG} {d : Nat} {h : HP} {Q : Option Value → HP → Prop} {a0 : Nat} {x1 : Int32} {x2 : Int32} {x3 : Int32} {x4 : Int32} (ht : T_X6_liesIn_13 G d h Q a0 x1 x2 x3 x4) : Ex G d mX6_liesIn 13 [(0, .ref a0), (1, .int x1), (2, .int x2), (3, .int x3), (4, .int x4)] [] h Q := by
  unfold T_X6_liesIn_13 at ht
  refine x_iload (pc2 := 15) 4 (n := 4) (x := x4) rfl dX6_liesIn_13 rfl ?_
  refine x_bipush (pc2 := 17) (v := 31) (by decide) dX6_liesIn_15 rfl ?_
  refine x_icmp_ge (pc2 := 20) 48 dX6_liesIn_17 (by decide) rfl (fun c1 => ?_) (fun c1 => ?_)
  · replace ht := ht.1 c1
    refine x_iconst (pc2 := 49) (v := 0) (by decide) dX6_liesIn_48 rfl ?_
    exact x_retZ rfl (Or.inl rfl) dX6_liesIn_49 ht
  · replace ht := ht.2 c1
    refine x_iload_n (pc2 := 21) 3 (n := 3) (x := x3) rfl dX6_liesIn_20 rfl ?_
    refine x_iconst (pc2 := 22) (v := (-1)) (by decide) dX6_liesIn_21 rfl ?_
    refine x_icmp_eq (pc2 := 25) 48 dX6_liesIn_22 (by decide) rfl (fun c2 => ?_) (fun c2 => ?_)
    · replace ht := ht.1 c2
      refine x_iconst (pc2 := 49) (v := 0) (by decide) dX6_liesIn_48 rfl ?_
      exact x_retZ rfl (Or.inl rfl) dX6_liesIn_49 ht
    · replace ht := ht.2 c2
      refine x_iload_n (pc2 := 26) 3 (n := 3) (x := x3) rfl dX6_liesIn_25 rfl ?_
      refine x_iload_n (pc2 := 27) 2 (n := 2) (x := x2) rfl dX6_liesIn_26 rfl ?_
      refine y_icmp_ne (pc2 := 30) 32 dX6_liesIn_27 (by decide) rfl (fun c3 => ?_) (fun c3 => ?_)
      · replace ht := ht.1 c3
        refine x_aload_n (pc2 := 33) 0 (n := 0) (x := a0) rfl dX6_liesIn_32 rfl ?_
        obtain ⟨k4, ht⟩ := ht
        obtain ⟨q5, e6, ht⟩ := ht
        refine y_getR (pc2 := 36) (κ := 6) (k := 7) fl_X6_27 (by decide) (by decide) k4 rfl e6 dX6_liesIn_33 rfl ?_
        refine x_iload_n (pc2 := 37) 3 (n := 3) (x := x3) rfl dX6_liesIn_36 rfl ?_
        obtain ⟨k7, ht⟩ := ht
        obtain ⟨b8, ht⟩ := ht
        obtain ⟨q9, e10, ht⟩ := ht
        refine y_aaldR (pc2 := 38) (κ := 20) (by decide) k7 b8 e10 dX6_liesIn_37 rfl ?_
        obtain ⟨k11, ht⟩ := ht
        refine y_getI (pc2 := 41) (κ := 9) (k := 6) fl_X6_104 (by decide) (by decide) k11 rfl dX6_liesIn_38 rfl ?_
        refine x_istore_n (pc2 := 42) [1, 2, 3, 0, 4] (n := 3) (x := (hI h q9 6)) (lv2 := [(0, .ref a0), (1, .int x1), (2, .int x2), (3, .int (hI h q9 6)), (4, .int x4)]) (by decide) rfl dX6_liesIn_41 rfl ?_
        refine x_iinc (pc2 := 45) 4 [1, 2, 3, 4, 0] (i := 4) (x := x4) (v := (x4 + 1)) (lv2 := [(0, .ref a0), (1, .int x1), (2, .int x2), (3, .int (hI h q9 6)), (4, .int (x4 + 1))]) rfl (iinc_eq (by decide) _) (by decide) rfl dX6_liesIn_42 rfl ?_
        refine x_goto 13 dX6_liesIn_45 (by decide) ?_
        exact ht
      · replace ht := ht.2 c3
        refine x_iconst (pc2 := 31) (v := 1) (by decide) dX6_liesIn_30 rfl ?_
        exact x_retZ rfl (Or.inr rfl) dX6_liesIn_31 ht
def T_X6_coversOf (G : GG) (d : Nat) (h : HP) (Q : Option Value → HP → Prop) (a0 : Nat) (x1 : Int32) : Prop :=
  ((¬ x1 = (-1) → Kd G h a0 6 ∧ ∃ q3, hR h a0 7 = some q3 ∧ Kd G h q3 20 ∧ vp_in x1 (hN h q3) ∧ ∃ q7, hR h q3 x1.toNatClampNeg = some q7 ∧ Kd G h q7 9 ∧ Ex G d mX6_coversOf 24 [(0, .ref a0), (1, .int x1), (2, .int 0), (3, .int (hI h q7 6)), (4, .int 0)] [] h Q) ∧ (x1 = (-1) → Ex G d mX6_coversOf 24 [(0, .ref a0), (1, .int x1), (2, .int 0), (3, .int (-1)), (4, .int 0)] [] h Q))
set_option maxRecDepth 20000 in
theorem t_X6_coversOf {G : GG} {d : Nat} {h : HP} {Q : Option Value → HP → Prop} {a0 : Nat} {x1 : Int32} (ht : T_X6_coversOf G d h Q a0 x1) : Ex G d mX6_coversOf 0 [(0, .ref a0), (1, .int x1)] [] h Q := by
  unfold T_X6_coversOf at ht
  refine x_iconst (pc2 := 1) (v := 0) (by decide) dX6_coversOf_0 rfl ?_
  refine x_istore_n (pc2 := 2) [1, 2, 0] (n := 2) (x := 0) (lv2 := [(0, .ref a0), (1, .int x1), (2, .int 0)]) (by decide) rfl dX6_coversOf_1 rfl ?_
  refine x_iload_n (pc2 := 3) 1 (n := 1) (x := x1) rfl dX6_coversOf_2 rfl ?_
  refine x_iconst (pc2 := 4) (v := (-1)) (by decide) dX6_coversOf_3 rfl ?_
  refine y_icmp_ne (pc2 := 7) 11 dX6_coversOf_4 (by decide) rfl (fun c1 => ?_) (fun c1 => ?_)
  · replace ht := ht.1 c1
    refine x_aload_n (pc2 := 12) 0 (n := 0) (x := a0) rfl dX6_coversOf_11 rfl ?_
    obtain ⟨k2, ht⟩ := ht
    obtain ⟨q3, e4, ht⟩ := ht
    refine y_getR (pc2 := 15) (κ := 6) (k := 7) fl_X6_27 (by decide) (by decide) k2 rfl e4 dX6_coversOf_12 rfl ?_
    refine x_iload_n (pc2 := 16) 1 (n := 1) (x := x1) rfl dX6_coversOf_15 rfl ?_
    obtain ⟨k5, ht⟩ := ht
    obtain ⟨b6, ht⟩ := ht
    obtain ⟨q7, e8, ht⟩ := ht
    refine y_aaldR (pc2 := 17) (κ := 20) (by decide) k5 b6 e8 dX6_coversOf_16 rfl ?_
    obtain ⟨k9, ht⟩ := ht
    refine y_getI (pc2 := 20) (κ := 9) (k := 6) fl_X6_104 (by decide) (by decide) k9 rfl dX6_coversOf_17 rfl ?_
    refine x_istore_n (pc2 := 21) [1, 2, 3, 0] (n := 3) (x := (hI h q7 6)) (lv2 := [(0, .ref a0), (1, .int x1), (2, .int 0), (3, .int (hI h q7 6))]) (by decide) rfl dX6_coversOf_20 rfl ?_
    refine x_iconst (pc2 := 22) (v := 0) (by decide) dX6_coversOf_21 rfl ?_
    refine x_istore (pc2 := 24) [1, 2, 3, 4, 0] (n := 4) (x := 0) (lv2 := [(0, .ref a0), (1, .int x1), (2, .int 0), (3, .int (hI h q7 6)), (4, .int 0)]) (by decide) rfl dX6_coversOf_22 rfl ?_
    exact ht
  · replace ht := ht.2 c1
    refine x_iconst (pc2 := 8) (v := (-1)) (by decide) dX6_coversOf_7 rfl ?_
    refine x_goto 20 dX6_coversOf_8 (by decide) ?_
    refine x_istore_n (pc2 := 21) [1, 2, 3, 0] (n := 3) (x := (-1)) (lv2 := [(0, .ref a0), (1, .int x1), (2, .int 0), (3, .int (-1))]) (by decide) rfl dX6_coversOf_20 rfl ?_
    refine x_iconst (pc2 := 22) (v := 0) (by decide) dX6_coversOf_21 rfl ?_
    refine x_istore (pc2 := 24) [1, 2, 3, 4, 0] (n := 4) (x := 0) (lv2 := [(0, .ref a0), (1, .int x1), (2, .int 0), (3, .int (-1)), (4, .int 0)]) (by decide) rfl dX6_coversOf_22 rfl ?_
    exact ht
theorem e_X6_coversOf {G : GG} {d : Nat} {h : HP} {Q : Option Value → HP → Prop} {a0 : Nat} {x1 : Int32} (ht : T_X6_coversOf G d h Q a0 x1) : Cal G d mX6_coversOf [.ref a0, .int x1] h Q := cal_of rfl (Nat.le_of_ble_eq_true rfl) (t_X6_coversOf ht)
def T_X6_coversOf_24 (G : GG) (d : Nat) (h : HP) (Q : Option Value → HP → Prop) (a0 : Nat) (x1 : Int32) (x2 : Int32) (x3 : Int32) (x4 : Int32) : Prop :=
  ((31 ≤ x4 → Q (some (.int x2)) h) ∧ (¬ 31 ≤ x4 → ((x3 = (-1) → Q (some (.int x2)) h) ∧ (¬ x3 = (-1) → Kd G h a0 6 ∧ ∃ q4, hR h a0 7 = some q4 ∧ Kd G h q4 20 ∧ vp_in x3 (hN h q4) ∧ ∃ q8, hR h q4 x3.toNatClampNeg = some q8 ∧ Kd G h q8 9 ∧ Ex G d mX6_coversOf 24 [(0, .ref a0), (1, .int x1), (2, .int (x2 + 1)), (3, .int (hI h q8 6)), (4, .int (x4 + 1))] [] h Q))))
set_option maxRecDepth 20000 in
theorem t_X6_coversOf_24 {G : GG} {d : Nat} {h : HP} {Q : Option Value → HP → Prop} {a0 : Nat} {x1 : Int32} {x2 : Int32} {x3 : Int32} {x4 : Int32} (ht : T_X6_coversOf_24 G d h Q a0 x1 x2 x3 x4) : Ex G d mX6_coversOf 24 [(0, .ref a0), (1, .int x1), (2, .int x2), (3, .int x3), (4, .int x4)] [] h Q := by
  unfold T_X6_coversOf_24 at ht
  refine x_iload (pc2 := 26) 4 (n := 4) (x := x4) rfl dX6_coversOf_24 rfl ?_
  refine x_bipush (pc2 := 28) (v := 31) (by decide) dX6_coversOf_26 rfl ?_
  refine x_icmp_ge (pc2 := 31) 55 dX6_coversOf_28 (by decide) rfl (fun c1 => ?_) (fun c1 => ?_)
  · replace ht := ht.1 c1
    refine x_iload_n (pc2 := 56) 2 (n := 2) (x := x2) rfl dX6_coversOf_55 rfl ?_
    exact x_ret (ty := .int) rfl rfl dX6_coversOf_56 ht
  · replace ht := ht.2 c1
    refine x_iload_n (pc2 := 32) 3 (n := 3) (x := x3) rfl dX6_coversOf_31 rfl ?_
    refine x_iconst (pc2 := 33) (v := (-1)) (by decide) dX6_coversOf_32 rfl ?_
    refine x_icmp_eq (pc2 := 36) 55 dX6_coversOf_33 (by decide) rfl (fun c2 => ?_) (fun c2 => ?_)
    · replace ht := ht.1 c2
      refine x_iload_n (pc2 := 56) 2 (n := 2) (x := x2) rfl dX6_coversOf_55 rfl ?_
      exact x_ret (ty := .int) rfl rfl dX6_coversOf_56 ht
    · replace ht := ht.2 c2
      refine x_iinc (pc2 := 39) 2 [1, 2, 0, 3, 4] (i := 2) (x := x2) (v := (x2 + 1)) (lv2 := [(0, .ref a0), (1, .int x1), (2, .int (x2 + 1)), (3, .int x3), (4, .int x4)]) rfl (iinc_eq (by decide) _) (by decide) rfl dX6_coversOf_36 rfl ?_
      refine x_aload_n (pc2 := 40) 0 (n := 0) (x := a0) rfl dX6_coversOf_39 rfl ?_
      obtain ⟨k3, ht⟩ := ht
      obtain ⟨q4, e5, ht⟩ := ht
      refine y_getR (pc2 := 43) (κ := 6) (k := 7) fl_X6_27 (by decide) (by decide) k3 rfl e5 dX6_coversOf_40 rfl ?_
      refine x_iload_n (pc2 := 44) 3 (n := 3) (x := x3) rfl dX6_coversOf_43 rfl ?_
      obtain ⟨k6, ht⟩ := ht
      obtain ⟨b7, ht⟩ := ht
      obtain ⟨q8, e9, ht⟩ := ht
      refine y_aaldR (pc2 := 45) (κ := 20) (by decide) k6 b7 e9 dX6_coversOf_44 rfl ?_
      obtain ⟨k10, ht⟩ := ht
      refine y_getI (pc2 := 48) (κ := 9) (k := 6) fl_X6_104 (by decide) (by decide) k10 rfl dX6_coversOf_45 rfl ?_
      refine x_istore_n (pc2 := 49) [1, 2, 3, 0, 4] (n := 3) (x := (hI h q8 6)) (lv2 := [(0, .ref a0), (1, .int x1), (2, .int (x2 + 1)), (3, .int (hI h q8 6)), (4, .int x4)]) (by decide) rfl dX6_coversOf_48 rfl ?_
      refine x_iinc (pc2 := 52) 4 [1, 2, 3, 4, 0] (i := 4) (x := x4) (v := (x4 + 1)) (lv2 := [(0, .ref a0), (1, .int x1), (2, .int (x2 + 1)), (3, .int (hI h q8 6)), (4, .int (x4 + 1))]) rfl (iinc_eq (by decide) _) (by decide) rfl dX6_coversOf_49 rfl ?_
      refine x_goto 24 dX6_coversOf_52 (by decide) ?_
      exact ht
def T_X6_innermostOfAll (G : GG) (d : Nat) (h : HP) (Q : Option Value → HP → Prop) (a0 : Nat) : Prop :=
  Ex G d mX6_innermostOfAll 6 [(0, .ref a0), (1, .int (-1)), (2, .int (-1)), (3, .int 0)] [] h Q
set_option maxRecDepth 20000 in
theorem t_X6_innermostOfAll {G : GG} {d : Nat} {h : HP} {Q : Option Value → HP → Prop} {a0 : Nat} (ht : T_X6_innermostOfAll G d h Q a0) : Ex G d mX6_innermostOfAll 0 [(0, .ref a0)] [] h Q := by
  unfold T_X6_innermostOfAll at ht
  refine x_iconst (pc2 := 1) (v := (-1)) (by decide) dX6_innermostOfAll_0 rfl ?_
  refine x_istore_n (pc2 := 2) [1, 0] (n := 1) (x := (-1)) (lv2 := [(0, .ref a0), (1, .int (-1))]) (by decide) rfl dX6_innermostOfAll_1 rfl ?_
  refine x_iconst (pc2 := 3) (v := (-1)) (by decide) dX6_innermostOfAll_2 rfl ?_
  refine x_istore_n (pc2 := 4) [1, 2, 0] (n := 2) (x := (-1)) (lv2 := [(0, .ref a0), (1, .int (-1)), (2, .int (-1))]) (by decide) rfl dX6_innermostOfAll_3 rfl ?_
  refine x_iconst (pc2 := 5) (v := 0) (by decide) dX6_innermostOfAll_4 rfl ?_
  refine x_istore_n (pc2 := 6) [1, 2, 3, 0] (n := 3) (x := 0) (lv2 := [(0, .ref a0), (1, .int (-1)), (2, .int (-1)), (3, .int 0)]) (by decide) rfl dX6_innermostOfAll_5 rfl ?_
  exact ht
theorem e_X6_innermostOfAll {G : GG} {d : Nat} {h : HP} {Q : Option Value → HP → Prop} {a0 : Nat} (ht : T_X6_innermostOfAll G d h Q a0) : Cal G d mX6_innermostOfAll [.ref a0] h Q := cal_of rfl (Nat.le_of_ble_eq_true rfl) (t_X6_innermostOfAll ht)
def T_X6_innermostOfAll_6 (G : GG) (d : Nat) (h : HP) (Q : Option Value → HP → Prop) (a0 : Nat) (x1 : Int32) (x2 : Int32) (x3 : Int32) : Prop :=
  ((30 ≤ x3 → Q (some (.int x1)) h) ∧ (¬ 30 ≤ x3 → Kd G h a0 6 ∧ ∃ q3, hR h a0 7 = some q3 ∧ Kd G h q3 20 ∧ vp_in x3 (hN h q3) ∧ ∃ q7, hR h q3 x3.toNatClampNeg = some q7 ∧ Kd G h q7 9 ∧ (((hI h q7 0) = 0 → Ex G d mX6_innermostOfAll 6 [(0, .ref a0), (1, .int x1), (2, .int x2), (3, .int (x3 + 1))] [] h Q) ∧ (¬ (hI h q7 0) = 0 → Cal G (d - 1) mX6_coversOf [.ref a0, .int x3] h (fun r11 h12 => ∃ v14, r11 = some (.int v14) ∧ ((v14 ≤ x2 → Ex G d mX6_innermostOfAll 6 [(0, .ref a0), (1, .int x1), (2, .int x2), (3, .int (x3 + 1))] [] h12 Q) ∧ (¬ v14 ≤ x2 → Cal G (d - 1) mX6_coversOf [.ref a0, .int x3] h12 (fun r16 h17 => ∃ v19, r16 = some (.int v19) ∧ Ex G d mX6_innermostOfAll 6 [(0, .ref a0), (1, .int x3), (2, .int v19), (3, .int (x3 + 1))] [] h17 Q))))))))
set_option maxRecDepth 20000 in
theorem t_X6_innermostOfAll_6 {G : GG} {d : Nat} {h : HP} {Q : Option Value → HP → Prop} {a0 : Nat} {x1 : Int32} {x2 : Int32} {x3 : Int32} (hd1 : 1 ≤ d) (ht : T_X6_innermostOfAll_6 G d h Q a0 x1 x2 x3) : Ex G d mX6_innermostOfAll 6 [(0, .ref a0), (1, .int x1), (2, .int x2), (3, .int x3)] [] h Q := by
  unfold T_X6_innermostOfAll_6 at ht
  refine x_iload_n (pc2 := 7) 3 (n := 3) (x := x3) rfl dX6_innermostOfAll_6 rfl ?_
  refine x_bipush (pc2 := 9) (v := 30) (by decide) dX6_innermostOfAll_7 rfl ?_
  refine x_icmp_ge (pc2 := 12) 47 dX6_innermostOfAll_9 (by decide) rfl (fun c1 => ?_) (fun c1 => ?_)
  · replace ht := ht.1 c1
    refine x_iload_n (pc2 := 48) 1 (n := 1) (x := x1) rfl dX6_innermostOfAll_47 rfl ?_
    exact x_ret (ty := .int) rfl rfl dX6_innermostOfAll_48 ht
  · replace ht := ht.2 c1
    refine x_aload_n (pc2 := 13) 0 (n := 0) (x := a0) rfl dX6_innermostOfAll_12 rfl ?_
    obtain ⟨k2, ht⟩ := ht
    obtain ⟨q3, e4, ht⟩ := ht
    refine y_getR (pc2 := 16) (κ := 6) (k := 7) fl_X6_27 (by decide) (by decide) k2 rfl e4 dX6_innermostOfAll_13 rfl ?_
    refine x_iload_n (pc2 := 17) 3 (n := 3) (x := x3) rfl dX6_innermostOfAll_16 rfl ?_
    obtain ⟨k5, ht⟩ := ht
    obtain ⟨b6, ht⟩ := ht
    obtain ⟨q7, e8, ht⟩ := ht
    refine y_aaldR (pc2 := 18) (κ := 20) (by decide) k5 b6 e8 dX6_innermostOfAll_17 rfl ?_
    obtain ⟨k9, ht⟩ := ht
    refine y_getI (pc2 := 21) (κ := 9) (k := 0) fl_X6_71 (by decide) (by decide) k9 rfl dX6_innermostOfAll_18 rfl ?_
    refine x_if_eq (pc2 := 24) 41 dX6_innermostOfAll_21 (by decide) rfl (fun c10 => ?_) (fun c10 => ?_)
    · replace ht := ht.1 c10
      refine x_iinc (pc2 := 44) 3 [1, 2, 3, 0] (i := 3) (x := x3) (v := (x3 + 1)) (lv2 := [(0, .ref a0), (1, .int x1), (2, .int x2), (3, .int (x3 + 1))]) rfl (iinc_eq (by decide) _) (by decide) rfl dX6_innermostOfAll_41 rfl ?_
      refine x_goto 6 dX6_innermostOfAll_44 (by decide) ?_
      exact ht
    · replace ht := ht.2 c10
      refine x_aload_n (pc2 := 25) 0 (n := 0) (x := a0) rfl dX6_innermostOfAll_24 rfl ?_
      refine x_iload_n (pc2 := 26) 3 (n := 3) (x := x3) rfl dX6_innermostOfAll_25 rfl ?_
      refine x_callV (pc2 := 29) (As := [.int x3]) (rest := []) (b := a0) mv_X6_coversOf ml_X6_136 k2 rfl rfl (Nat.le_of_ble_eq_true rfl) hd1 dX6_innermostOfAll_26 rfl (ht.mono (fun r11 h12 p13 ht' => ?_))
      clear ht
      obtain ⟨v14, rfl, ht⟩ := ht'
      show Ex G d mX6_innermostOfAll 29 [(0, .ref a0), (1, .int x1), (2, .int x2), (3, .int x3)] [.int v14] h12 Q
      refine x_iload_n (pc2 := 30) 2 (n := 2) (x := x2) rfl dX6_innermostOfAll_29 rfl ?_
      refine x_icmp_le (pc2 := 33) 41 dX6_innermostOfAll_30 (by decide) rfl (fun c15 => ?_) (fun c15 => ?_)
      · replace ht := ht.1 c15
        refine x_iinc (pc2 := 44) 3 [1, 2, 3, 0] (i := 3) (x := x3) (v := (x3 + 1)) (lv2 := [(0, .ref a0), (1, .int x1), (2, .int x2), (3, .int (x3 + 1))]) rfl (iinc_eq (by decide) _) (by decide) rfl dX6_innermostOfAll_41 rfl ?_
        refine x_goto 6 dX6_innermostOfAll_44 (by decide) ?_
        exact ht
      · replace ht := ht.2 c15
        refine x_iload_n (pc2 := 34) 3 (n := 3) (x := x3) rfl dX6_innermostOfAll_33 rfl ?_
        refine x_istore_n (pc2 := 35) [1, 0, 2, 3] (n := 1) (x := x3) (lv2 := [(0, .ref a0), (1, .int x3), (2, .int x2), (3, .int x3)]) (by decide) rfl dX6_innermostOfAll_34 rfl ?_
        refine x_aload_n (pc2 := 36) 0 (n := 0) (x := a0) rfl dX6_innermostOfAll_35 rfl ?_
        refine x_iload_n (pc2 := 37) 3 (n := 3) (x := x3) rfl dX6_innermostOfAll_36 rfl ?_
        refine x_callV (pc2 := 40) (As := [.int x3]) (rest := []) (b := a0) mv_X6_coversOf ml_X6_136 (k2.up p13) rfl rfl (Nat.le_of_ble_eq_true rfl) hd1 dX6_innermostOfAll_37 rfl (ht.mono (fun r16 h17 p18 ht' => ?_))
        clear ht
        obtain ⟨v19, rfl, ht⟩ := ht'
        show Ex G d mX6_innermostOfAll 40 [(0, .ref a0), (1, .int x3), (2, .int x2), (3, .int x3)] [.int v19] h17 Q
        refine x_istore_n (pc2 := 41) [1, 2, 0, 3] (n := 2) (x := v19) (lv2 := [(0, .ref a0), (1, .int x3), (2, .int v19), (3, .int x3)]) (by decide) rfl dX6_innermostOfAll_40 rfl ?_
        refine x_iinc (pc2 := 44) 3 [1, 2, 3, 0] (i := 3) (x := x3) (v := (x3 + 1)) (lv2 := [(0, .ref a0), (1, .int x3), (2, .int v19), (3, .int (x3 + 1))]) rfl (iinc_eq (by decide) _) (by decide) rfl dX6_innermostOfAll_41 rfl ?_
        refine x_goto 6 dX6_innermostOfAll_44 (by decide) ?_
        exact ht
def T_X6_deepRound (G : GG) (d : Nat) (h : HP) (Q : Option Value → HP → Prop) (a0 : Nat) (x1 : Int32) : Prop :=
  ((6 ≤ x1 → Kd G h a0 6 ∧ ∃ q3, hR h a0 7 = some q3 ∧ Kd G h q3 20 ∧ vp_in x1 (hN h q3) ∧ ∃ q7, hR h q3 x1.toNatClampNeg = some q7 ∧ Kd G h q7 9 ∧ Q (some (.int (1 + (hI h q7 7)))) h) ∧ (¬ 6 ≤ x1 → Q (some (.int 0)) h))
set_option maxRecDepth 20000 in
theorem t_X6_deepRound {G : GG} {d : Nat} {h : HP} {Q : Option Value → HP → Prop} {a0 : Nat} {x1 : Int32} (ht : T_X6_deepRound G d h Q a0 x1) : Ex G d mX6_deepRound 0 [(0, .ref a0), (1, .int x1)] [] h Q := by
  unfold T_X6_deepRound at ht
  refine x_iload_n (pc2 := 1) 1 (n := 1) (x := x1) rfl dX6_deepRound_0 rfl ?_
  refine x_bipush (pc2 := 3) (v := 6) (by decide) dX6_deepRound_1 rfl ?_
  refine x_icmp_ge (pc2 := 6) 10 dX6_deepRound_3 (by decide) rfl (fun c1 => ?_) (fun c1 => ?_)
  · replace ht := ht.1 c1
    refine x_iconst (pc2 := 11) (v := 1) (by decide) dX6_deepRound_10 rfl ?_
    refine x_aload_n (pc2 := 12) 0 (n := 0) (x := a0) rfl dX6_deepRound_11 rfl ?_
    obtain ⟨k2, ht⟩ := ht
    obtain ⟨q3, e4, ht⟩ := ht
    refine y_getR (pc2 := 15) (κ := 6) (k := 7) fl_X6_27 (by decide) (by decide) k2 rfl e4 dX6_deepRound_12 rfl ?_
    refine x_iload_n (pc2 := 16) 1 (n := 1) (x := x1) rfl dX6_deepRound_15 rfl ?_
    obtain ⟨k5, ht⟩ := ht
    obtain ⟨b6, ht⟩ := ht
    obtain ⟨q7, e8, ht⟩ := ht
    refine y_aaldR (pc2 := 17) (κ := 20) (by decide) k5 b6 e8 dX6_deepRound_16 rfl ?_
    obtain ⟨k9, ht⟩ := ht
    refine y_getI (pc2 := 20) (κ := 9) (k := 7) fl_X6_121 (by decide) (by decide) k9 rfl dX6_deepRound_17 rfl ?_
    refine x_iadd (pc2 := 21) dX6_deepRound_20 rfl ?_
    exact x_ret (ty := .int) rfl rfl dX6_deepRound_21 ht
  · replace ht := ht.2 c1
    refine x_iconst (pc2 := 7) (v := 0) (by decide) dX6_deepRound_6 rfl ?_
    refine x_goto 21 dX6_deepRound_7 (by decide) ?_
    exact x_ret (ty := .int) rfl rfl dX6_deepRound_21 ht
theorem e_X6_deepRound {G : GG} {d : Nat} {h : HP} {Q : Option Value → HP → Prop} {a0 : Nat} {x1 : Int32} (ht : T_X6_deepRound G d h Q a0 x1) : Cal G d mX6_deepRound [.ref a0, .int x1] h Q := cal_of rfl (Nat.le_of_ble_eq_true rfl) (t_X6_deepRound ht)
def T_X6_likeTo (G : GG) (d : Nat) (h : HP) (Q : Option Value → HP → Prop) (a0 : Nat) (x1 : Int32) (o2 : Option Nat) : Prop :=
  ((o2 = none → Q (some (.int 0)) h) ∧ (∀ q2, o2 = some q2 → Kd G h q2 9 ∧ ((¬ (hI h q2 5) = (-1) → Kd G h a0 6 ∧ ∃ q6, hR h a0 6 = some q6 ∧ Kd G h q6 14 ∧ vp_in ((x1 * 12) + (hI h q2 5)) (hN h q6) ∧ Q (some (.int (hI h q6 ((x1 * 12) + (hI h q2 5)).toNatClampNeg))) h) ∧ ((hI h q2 5) = (-1) → Q (some (.int 0)) h))))
set_option maxRecDepth 20000 in
theorem t_X6_likeTo {G : GG} {d : Nat} {h : HP} {Q : Option Value → HP → Prop} {a0 : Nat} {x1 : Int32} {o2 : Option Nat} (ht : T_X6_likeTo G d h Q a0 x1 o2) : Ex G d mX6_likeTo 0 [(0, .ref a0), (1, .int x1), (2, va_rf o2)] [] h Q := by
  unfold T_X6_likeTo at ht
  refine x_aloadq_n (pc2 := 1) 2 (n := 2) (x := o2) rfl dX6_likeTo_0 rfl ?_
  refine x_ifnull (pc2 := 4) (x := o2) 12 dX6_likeTo_1 (by decide) rfl (fun e1 => ?_) (fun q2 e1 => ?_)
  · replace ht := ht.1 e1
    subst e1
    show Ex G d mX6_likeTo 12 [(0, .ref a0), (1, .int x1), (2, va_rf none)] [] h Q
    refine x_iconst (pc2 := 13) (v := 0) (by decide) dX6_likeTo_12 rfl ?_
    refine x_goto 30 dX6_likeTo_13 (by decide) ?_
    exact x_ret (ty := .int) rfl rfl dX6_likeTo_30 ht
  · replace ht := ht.2 q2 e1
    subst e1
    show Ex G d mX6_likeTo 4 [(0, .ref a0), (1, .int x1), (2, .ref q2)] [] h Q
    refine x_aload_n (pc2 := 5) 2 (n := 2) (x := q2) rfl dX6_likeTo_4 rfl ?_
    obtain ⟨k3, ht⟩ := ht
    refine y_getI (pc2 := 8) (κ := 9) (k := 5) fl_X6_107 (by decide) (by decide) k3 rfl dX6_likeTo_5 rfl ?_
    refine x_iconst (pc2 := 9) (v := (-1)) (by decide) dX6_likeTo_8 rfl ?_
    refine y_icmp_ne (pc2 := 12) 16 dX6_likeTo_9 (by decide) rfl (fun c4 => ?_) (fun c4 => ?_)
    · replace ht := ht.1 c4
      refine x_aload_n (pc2 := 17) 0 (n := 0) (x := a0) rfl dX6_likeTo_16 rfl ?_
      obtain ⟨k5, ht⟩ := ht
      obtain ⟨q6, e7, ht⟩ := ht
      refine y_getR (pc2 := 20) (κ := 6) (k := 6) fl_X6_22 (by decide) (by decide) k5 rfl e7 dX6_likeTo_17 rfl ?_
      refine x_iload_n (pc2 := 21) 1 (n := 1) (x := x1) rfl dX6_likeTo_20 rfl ?_
      refine x_bipush (pc2 := 23) (v := 12) (by decide) dX6_likeTo_21 rfl ?_
      refine x_imul (pc2 := 24) dX6_likeTo_23 rfl ?_
      refine x_aload_n (pc2 := 25) 2 (n := 2) (x := q2) rfl dX6_likeTo_24 rfl ?_
      refine y_getI (pc2 := 28) (κ := 9) (k := 5) fl_X6_107 (by decide) (by decide) k3 rfl dX6_likeTo_25 rfl ?_
      refine x_iadd (pc2 := 29) dX6_likeTo_28 rfl ?_
      obtain ⟨k8, ht⟩ := ht
      obtain ⟨b9, ht⟩ := ht
      refine x_iald (pc2 := 30) k8 b9 dX6_likeTo_29 rfl ?_
      exact x_ret (ty := .int) rfl rfl dX6_likeTo_30 ht
    · replace ht := ht.2 c4
      refine x_iconst (pc2 := 13) (v := 0) (by decide) dX6_likeTo_12 rfl ?_
      refine x_goto 30 dX6_likeTo_13 (by decide) ?_
      exact x_ret (ty := .int) rfl rfl dX6_likeTo_30 ht
theorem e_X6_likeTo {G : GG} {d : Nat} {h : HP} {Q : Option Value → HP → Prop} {a0 : Nat} {x1 : Int32} {o2 : Option Nat} (ht : T_X6_likeTo G d h Q a0 x1 o2) : Cal G d mX6_likeTo [.ref a0, .int x1, va_rf o2] h Q := by
  cases o2 <;> exact cal_of rfl (Nat.le_of_ble_eq_true rfl) (t_X6_likeTo ht)
def T_X6_raise (G : GG) (d : Nat) (h : HP) (Q : Option Value → HP → Prop) (a0 : Nat) (x1 : Int32) (a2 : Nat) : Prop :=
  Kd G h a2 3 ∧ Kd G h a0 6 ∧ Cal G (d - 1) mX6_deepRound [.ref a0, .int (hI h a2 5)] h (fun r2 h3 => ∃ v6, r2 = some (.int v6) ∧ Cal G (d - 1) mX6_deepRound [.ref a0, .int (hI h3 a2 6)] h3 (fun r7 h8 => ∃ v10, r7 = some (.int v10) ∧ ∃ q11, hR h8 a0 7 = some q11 ∧ Kd G h8 q11 20 ∧ vp_in x1 (hN h8 q11) ∧ ∃ q15, hR h8 q11 x1.toNatClampNeg = some q15 ∧ Kd G h8 q15 9 ∧ Cal G (d - 1) mX9_rise [.ref q15, .int (hI h8 a2 1), .int (hI h8 a2 2), .int (hI h8 a2 3), .int (hI h8 a2 4), .int (hI h8 a2 0)] h8 (fun r17 h18 => r17 = none ∧ ∃ q21, hR (sI h18 q15 7 (v6 + v10)) a0 7 = some q21 ∧ Kd G (sI h18 q15 7 (v6 + v10)) q21 20 ∧ vp_in (hI (sI h18 q15 7 (v6 + v10)) a2 5) (hN (sI h18 q15 7 (v6 + v10)) q21) ∧ ∃ q25, hR (sI h18 q15 7 (v6 + v10)) q21 (hI (sI h18 q15 7 (v6 + v10)) a2 5).toNatClampNeg = some q25 ∧ Kd G (sI h18 q15 7 (v6 + v10)) q25 9 ∧ (((hI (sI (sI h18 q15 7 (v6 + v10)) q25 6 x1) a2 6) = (-1) → Q none (sI (sI h18 q15 7 (v6 + v10)) q25 6 x1)) ∧ (¬ (hI (sI (sI h18 q15 7 (v6 + v10)) q25 6 x1) a2 6) = (-1) → vp_in (hI (sI (sI h18 q15 7 (v6 + v10)) q25 6 x1) a2 6) (hN (sI (sI h18 q15 7 (v6 + v10)) q25 6 x1) q21) ∧ ∃ q30, hR (sI (sI h18 q15 7 (v6 + v10)) q25 6 x1) q21 (hI (sI (sI h18 q15 7 (v6 + v10)) q25 6 x1) a2 6).toNatClampNeg = some q30 ∧ Kd G (sI (sI h18 q15 7 (v6 + v10)) q25 6 x1) q30 9 ∧ Q none (sI (sI (sI h18 q15 7 (v6 + v10)) q25 6 x1) q30 6 x1))))))
set_option maxRecDepth 20000 in
theorem t_X6_raise {G : GG} {d : Nat} {h : HP} {Q : Option Value → HP → Prop} {a0 : Nat} {x1 : Int32} {a2 : Nat} (hd1 : 1 ≤ d) (ht : T_X6_raise G d h Q a0 x1 a2) : Ex G d mX6_raise 0 [(0, .ref a0), (1, .int x1), (2, .ref a2)] [] h Q := by
  unfold T_X6_raise at ht
  refine x_aload_n (pc2 := 1) 0 (n := 0) (x := a0) rfl dX6_raise_0 rfl ?_
  refine x_aload_n (pc2 := 2) 2 (n := 2) (x := a2) rfl dX6_raise_1 rfl ?_
  obtain ⟨k1, ht⟩ := ht
  refine y_getI (pc2 := 5) (κ := 3) (k := 5) fl_X6_139 (by decide) (by decide) k1 rfl dX6_raise_2 rfl ?_
  obtain ⟨k5, ht⟩ := ht
  refine x_callV (pc2 := 8) (As := [.int (hI h a2 5)]) (rest := []) (b := a0) mv_X6_deepRound ml_X6_142 k5 rfl rfl (Nat.le_of_ble_eq_true rfl) hd1 dX6_raise_5 rfl (ht.mono (fun r2 h3 p4 ht' => ?_))
  clear ht
  obtain ⟨v6, rfl, ht⟩ := ht'
  show Ex G d mX6_raise 8 [(0, .ref a0), (1, .int x1), (2, .ref a2)] [.int v6] h3 Q
  refine x_aload_n (pc2 := 9) 0 (n := 0) (x := a0) rfl dX6_raise_8 rfl ?_
  refine x_aload_n (pc2 := 10) 2 (n := 2) (x := a2) rfl dX6_raise_9 rfl ?_
  refine y_getI (pc2 := 13) (κ := 3) (k := 6) fl_X6_145 (by decide) (by decide) (k1.up p4) rfl dX6_raise_10 rfl ?_
  refine x_callV (pc2 := 16) (As := [.int (hI h3 a2 6)]) (rest := [.int v6]) (b := a0) mv_X6_deepRound ml_X6_142 (k5.up p4) rfl rfl (Nat.le_of_ble_eq_true rfl) hd1 dX6_raise_13 rfl (ht.mono (fun r7 h8 p9 ht' => ?_))
  clear ht
  obtain ⟨v10, rfl, ht⟩ := ht'
  show Ex G d mX6_raise 16 [(0, .ref a0), (1, .int x1), (2, .ref a2)] [.int v10, .int v6] h8 Q
  refine x_iadd (pc2 := 17) dX6_raise_16 rfl ?_
  refine x_istore_n (pc2 := 18) [1, 2, 3, 0] (n := 3) (x := (v6 + v10)) (lv2 := [(0, .ref a0), (1, .int x1), (2, .ref a2), (3, .int (v6 + v10))]) (by decide) rfl dX6_raise_17 rfl ?_
  refine x_aload_n (pc2 := 19) 0 (n := 0) (x := a0) rfl dX6_raise_18 rfl ?_
  obtain ⟨q11, e12, ht⟩ := ht
  refine y_getR (pc2 := 22) (κ := 6) (k := 7) fl_X6_27 (by decide) (by decide) ((k5.up p4).up p9) rfl e12 dX6_raise_19 rfl ?_
  refine x_iload_n (pc2 := 23) 1 (n := 1) (x := x1) rfl dX6_raise_22 rfl ?_
  obtain ⟨k13, ht⟩ := ht
  obtain ⟨b14, ht⟩ := ht
  obtain ⟨q15, e16, ht⟩ := ht
  refine y_aaldR (pc2 := 24) (κ := 20) (by decide) k13 b14 e16 dX6_raise_23 rfl ?_
  refine x_astore (pc2 := 26) [1, 2, 3, 4, 0] (n := 4) (x := q15) (lv2 := [(0, .ref a0), (1, .int x1), (2, .ref a2), (3, .int (v6 + v10)), (4, .ref q15)]) (by decide) rfl dX6_raise_24 rfl ?_
  refine x_aload (pc2 := 28) 4 (n := 4) (x := q15) rfl dX6_raise_26 rfl ?_
  refine x_aload_n (pc2 := 29) 2 (n := 2) (x := a2) rfl dX6_raise_28 rfl ?_
  refine y_getI (pc2 := 32) (κ := 3) (k := 1) fl_X6_94 (by decide) (by decide) ((k1.up p4).up p9) rfl dX6_raise_29 rfl ?_
  refine x_aload_n (pc2 := 33) 2 (n := 2) (x := a2) rfl dX6_raise_32 rfl ?_
  refine y_getI (pc2 := 36) (κ := 3) (k := 2) fl_X6_97 (by decide) (by decide) ((k1.up p4).up p9) rfl dX6_raise_33 rfl ?_
  refine x_aload_n (pc2 := 37) 2 (n := 2) (x := a2) rfl dX6_raise_36 rfl ?_
  refine y_getI (pc2 := 40) (κ := 3) (k := 3) fl_X6_98 (by decide) (by decide) ((k1.up p4).up p9) rfl dX6_raise_37 rfl ?_
  refine x_aload_n (pc2 := 41) 2 (n := 2) (x := a2) rfl dX6_raise_40 rfl ?_
  refine y_getI (pc2 := 44) (κ := 3) (k := 4) fl_X6_99 (by decide) (by decide) ((k1.up p4).up p9) rfl dX6_raise_41 rfl ?_
  refine x_aload_n (pc2 := 45) 2 (n := 2) (x := a2) rfl dX6_raise_44 rfl ?_
  refine y_getI (pc2 := 48) (κ := 3) (k := 0) fl_X6_148 (by decide) (by decide) ((k1.up p4).up p9) rfl dX6_raise_45 rfl ?_
  obtain ⟨k20, ht⟩ := ht
  refine x_callV (pc2 := 51) (As := [.int (hI h8 a2 1), .int (hI h8 a2 2), .int (hI h8 a2 3), .int (hI h8 a2 4), .int (hI h8 a2 0)]) (rest := []) (b := q15) mv_X9_rise ml_X6_151 k20 rfl rfl (Nat.le_of_ble_eq_true rfl) hd1 dX6_raise_48 rfl (ht.mono (fun r17 h18 p19 ht' => ?_))
  clear ht
  obtain ⟨rfl, ht⟩ := ht'
  show Ex G d mX6_raise 51 [(0, .ref a0), (1, .int x1), (2, .ref a2), (3, .int (v6 + v10)), (4, .ref q15)] [] h18 Q
  refine x_aload (pc2 := 53) 4 (n := 4) (x := q15) rfl dX6_raise_51 rfl ?_
  refine x_iload_n (pc2 := 54) 3 (n := 3) (x := (v6 + v10)) rfl dX6_raise_53 rfl ?_
  refine x_putI (pc2 := 57) (κ := 9) (k := 7) fl_X6_121 (by decide) (by decide) (Or.inl rfl) rfl (k20.up p19) dX6_raise_54 rfl ?_
  refine x_aload_n (pc2 := 58) 0 (n := 0) (x := a0) rfl dX6_raise_57 rfl ?_
  obtain ⟨q21, e22, ht⟩ := ht
  refine y_getR (pc2 := 61) (κ := 6) (k := 7) fl_X6_27 (by decide) (by decide) (((k5.up p4).up p9).up p19).sI rfl e22 dX6_raise_58 rfl ?_
  refine x_aload_n (pc2 := 62) 2 (n := 2) (x := a2) rfl dX6_raise_61 rfl ?_
  refine y_getI (pc2 := 65) (κ := 3) (k := 5) fl_X6_139 (by decide) (by decide) (((k1.up p4).up p9).up p19).sI rfl dX6_raise_62 rfl ?_
  obtain ⟨k23, ht⟩ := ht
  obtain ⟨b24, ht⟩ := ht
  obtain ⟨q25, e26, ht⟩ := ht
  refine y_aaldR (pc2 := 66) (κ := 20) (by decide) k23 b24 e26 dX6_raise_65 rfl ?_
  refine x_iload_n (pc2 := 67) 1 (n := 1) (x := x1) rfl dX6_raise_66 rfl ?_
  obtain ⟨k27, ht⟩ := ht
  refine x_putI (pc2 := 70) (κ := 9) (k := 6) fl_X6_104 (by decide) (by decide) (Or.inl rfl) rfl k27 dX6_raise_67 rfl ?_
  refine x_aload_n (pc2 := 71) 2 (n := 2) (x := a2) rfl dX6_raise_70 rfl ?_
  refine y_getI (pc2 := 74) (κ := 3) (k := 6) fl_X6_145 (by decide) (by decide) (((k1.up p4).up p9).up p19).sI.sI rfl dX6_raise_71 rfl ?_
  refine x_iconst (pc2 := 75) (v := (-1)) (by decide) dX6_raise_74 rfl ?_
  refine x_icmp_eq (pc2 := 78) 91 dX6_raise_75 (by decide) rfl (fun c28 => ?_) (fun c28 => ?_)
  · replace ht := ht.1 c28
    exact x_retV rfl dX6_raise_91 ht
  · replace ht := ht.2 c28
    refine x_aload_n (pc2 := 79) 0 (n := 0) (x := a0) rfl dX6_raise_78 rfl ?_
    refine y_getR (pc2 := 82) (κ := 6) (k := 7) fl_X6_27 (by decide) (by decide) (((k5.up p4).up p9).up p19).sI.sI rfl ((hR_sI _ _ _ _ _ _).trans e22) dX6_raise_79 rfl ?_
    refine x_aload_n (pc2 := 83) 2 (n := 2) (x := a2) rfl dX6_raise_82 rfl ?_
    refine y_getI (pc2 := 86) (κ := 3) (k := 6) fl_X6_145 (by decide) (by decide) (((k1.up p4).up p9).up p19).sI.sI rfl dX6_raise_83 rfl ?_
    obtain ⟨b29, ht⟩ := ht
    obtain ⟨q30, e31, ht⟩ := ht
    refine y_aaldR (pc2 := 87) (κ := 20) (by decide) k23.sI b29 e31 dX6_raise_86 rfl ?_
    refine x_iload_n (pc2 := 88) 1 (n := 1) (x := x1) rfl dX6_raise_87 rfl ?_
    obtain ⟨k32, ht⟩ := ht
    refine x_putI (pc2 := 91) (κ := 9) (k := 6) fl_X6_104 (by decide) (by decide) (Or.inl rfl) rfl k32 dX6_raise_88 rfl ?_
    exact x_retV rfl dX6_raise_91 ht
theorem e_X6_raise {G : GG} {d : Nat} {h : HP} {Q : Option Value → HP → Prop} {a0 : Nat} {x1 : Int32} {a2 : Nat} (hd1 : 1 ≤ d) (ht : T_X6_raise G d h Q a0 x1 a2) : Cal G d mX6_raise [.ref a0, .int x1, .ref a2] h Q := cal_of rfl (Nat.le_of_ble_eq_true rfl) (t_X6_raise hd1 ht)
def T_X6_suppose (G : GG) (d : Nat) (h : HP) (Q : Option Value → HP → Prop) (a0 : Nat) (a1 : Nat) : Prop :=
  Kd G h a0 6 ∧ Cal G (d - 1) mX6_raise [.ref a0, .int 30, .ref a1] h (fun r1 h2 => r1 = none ∧ ∃ q5, hR h2 a0 7 = some q5 ∧ Kd G h2 q5 20 ∧ vp_in 30 (hN h2 q5) ∧ ∃ q9, hR h2 q5 30 = some q9 ∧ Kd G h2 q9 9 ∧ Q none (sI h2 q9 6 (-1)))
set_option maxRecDepth 20000 in
theorem t_X6_suppose {G : GG} {d : Nat} {h : HP} {Q : Option Value → HP → Prop} {a0 : Nat} {a1 : Nat} (hd1 : 1 ≤ d) (ht : T_X6_suppose G d h Q a0 a1) : Ex G d mX6_suppose 0 [(0, .ref a0), (1, .ref a1)] [] h Q := by
  unfold T_X6_suppose at ht
  refine x_aload_n (pc2 := 1) 0 (n := 0) (x := a0) rfl dX6_suppose_0 rfl ?_
  refine x_bipush (pc2 := 3) (v := 30) (by decide) dX6_suppose_1 rfl ?_
  refine x_aload_n (pc2 := 4) 1 (n := 1) (x := a1) rfl dX6_suppose_3 rfl ?_
  obtain ⟨k4, ht⟩ := ht
  refine x_callV (pc2 := 7) (As := [.int 30, .ref a1]) (rest := []) (b := a0) mv_X6_raise ml_X6_155 k4 rfl rfl (Nat.le_of_ble_eq_true rfl) hd1 dX6_suppose_4 rfl (ht.mono (fun r1 h2 p3 ht' => ?_))
  clear ht
  obtain ⟨rfl, ht⟩ := ht'
  show Ex G d mX6_suppose 7 [(0, .ref a0), (1, .ref a1)] [] h2 Q
  refine x_aload_n (pc2 := 8) 0 (n := 0) (x := a0) rfl dX6_suppose_7 rfl ?_
  obtain ⟨q5, e6, ht⟩ := ht
  refine y_getR (pc2 := 11) (κ := 6) (k := 7) fl_X6_27 (by decide) (by decide) (k4.up p3) rfl e6 dX6_suppose_8 rfl ?_
  refine x_bipush (pc2 := 13) (v := 30) (by decide) dX6_suppose_11 rfl ?_
  obtain ⟨k7, ht⟩ := ht
  obtain ⟨b8, ht⟩ := ht
  obtain ⟨q9, e10, ht⟩ := ht
  refine z_aaldR (pc2 := 14) (k := 30) (by decide) (κ := 20) (by decide) k7 b8 e10 dX6_suppose_13 rfl ?_
  refine x_iconst (pc2 := 15) (v := (-1)) (by decide) dX6_suppose_14 rfl ?_
  obtain ⟨k11, ht⟩ := ht
  refine x_putI (pc2 := 18) (κ := 9) (k := 6) fl_X6_104 (by decide) (by decide) (Or.inl rfl) rfl k11 dX6_suppose_15 rfl ?_
  exact x_retV rfl dX6_suppose_18 ht
theorem e_X6_suppose {G : GG} {d : Nat} {h : HP} {Q : Option Value → HP → Prop} {a0 : Nat} {a1 : Nat} (hd1 : 1 ≤ d) (ht : T_X6_suppose G d h Q a0 a1) : Cal G d mX6_suppose [.ref a0, .ref a1] h Q := cal_of rfl (Nat.le_of_ble_eq_true rfl) (t_X6_suppose hd1 ht)
def T_X6_forget (G : GG) (d : Nat) (h : HP) (Q : Option Value → HP → Prop) (a0 : Nat) (x1 : Int32) : Prop :=
  Kd G h a0 6 ∧ ∃ q2, hR h a0 7 = some q2 ∧ Kd G h q2 20 ∧ vp_in 30 (hN h q2) ∧ ∃ q6, hR h q2 30 = some q6 ∧ Kd G h q6 9 ∧ vp_in x1 (hN (sI h q6 0 0) q2) ∧ ∃ q10, hR (sI h q6 0 0) q2 x1.toNatClampNeg = some q10 ∧ Kd G (sI h q6 0 0) q10 9 ∧ Q none (sI (sI h q6 0 0) q10 6 (-1))
set_option maxRecDepth 20000 in
theorem t_X6_forget {G : GG} {d : Nat} {h : HP} {Q : Option Value → HP → Prop} {a0 : Nat} {x1 : Int32} (ht : T_X6_forget G d h Q a0 x1) : Ex G d mX6_forget 0 [(0, .ref a0), (1, .int x1)] [] h Q := by
  unfold T_X6_forget at ht
  refine x_aload_n (pc2 := 1) 0 (n := 0) (x := a0) rfl dX6_forget_0 rfl ?_
  obtain ⟨k1, ht⟩ := ht
  obtain ⟨q2, e3, ht⟩ := ht
  refine y_getR (pc2 := 4) (κ := 6) (k := 7) fl_X6_27 (by decide) (by decide) k1 rfl e3 dX6_forget_1 rfl ?_
  refine x_bipush (pc2 := 6) (v := 30) (by decide) dX6_forget_4 rfl ?_
  obtain ⟨k4, ht⟩ := ht
  obtain ⟨b5, ht⟩ := ht
  obtain ⟨q6, e7, ht⟩ := ht
  refine z_aaldR (pc2 := 7) (k := 30) (by decide) (κ := 20) (by decide) k4 b5 e7 dX6_forget_6 rfl ?_
  refine x_iconst (pc2 := 8) (v := 0) (by decide) dX6_forget_7 rfl ?_
  obtain ⟨k8, ht⟩ := ht
  refine x_putZ (pc2 := 11) (κ := 9) (k := 0) (Or.inl rfl) fl_X6_71 (by decide) (by decide) (Or.inl rfl) rfl k8 dX6_forget_8 rfl ?_
  refine x_aload_n (pc2 := 12) 0 (n := 0) (x := a0) rfl dX6_forget_11 rfl ?_
  refine y_getR (pc2 := 15) (κ := 6) (k := 7) fl_X6_27 (by decide) (by decide) k1.sI rfl ((hR_sI _ _ _ _ _ _).trans e3) dX6_forget_12 rfl ?_
  refine x_iload_n (pc2 := 16) 1 (n := 1) (x := x1) rfl dX6_forget_15 rfl ?_
  obtain ⟨b9, ht⟩ := ht
  obtain ⟨q10, e11, ht⟩ := ht
  refine y_aaldR (pc2 := 17) (κ := 20) (by decide) k4.sI b9 e11 dX6_forget_16 rfl ?_
  refine x_iconst (pc2 := 18) (v := (-1)) (by decide) dX6_forget_17 rfl ?_
  obtain ⟨k12, ht⟩ := ht
  refine x_putI (pc2 := 21) (κ := 9) (k := 6) fl_X6_104 (by decide) (by decide) (Or.inl rfl) rfl k12 dX6_forget_18 rfl ?_
  exact x_retV rfl dX6_forget_21 ht
theorem e_X6_forget {G : GG} {d : Nat} {h : HP} {Q : Option Value → HP → Prop} {a0 : Nat} {x1 : Int32} (ht : T_X6_forget G d h Q a0 x1) : Cal G d mX6_forget [.ref a0, .int x1] h Q := cal_of rfl (Nat.le_of_ble_eq_true rfl) (t_X6_forget ht)
def T_X6_remove (G : GG) (d : Nat) (h : HP) (Q : Option Value → HP → Prop) (a0 : Nat) (x1 : Int32) : Prop :=
  Kd G h a0 6 ∧ ∃ q2, hR h a0 7 = some q2 ∧ Kd G h q2 20 ∧ vp_in x1 (hN h q2) ∧ ∃ q6, hR h q2 x1.toNatClampNeg = some q6 ∧ Kd G h q6 9 ∧ Ex G d mX6_remove 12 [(0, .ref a0), (1, .int x1), (2, .int (hI h q6 6)), (3, .int 0)] [] h Q
set_option maxRecDepth 20000 in
theorem t_X6_remove {G : GG} {d : Nat} {h : HP} {Q : Option Value → HP → Prop} {a0 : Nat} {x1 : Int32} (ht : T_X6_remove G d h Q a0 x1) : Ex G d mX6_remove 0 [(0, .ref a0), (1, .int x1)] [] h Q := by
  unfold T_X6_remove at ht
  refine x_aload_n (pc2 := 1) 0 (n := 0) (x := a0) rfl dX6_remove_0 rfl ?_
  obtain ⟨k1, ht⟩ := ht
  obtain ⟨q2, e3, ht⟩ := ht
  refine y_getR (pc2 := 4) (κ := 6) (k := 7) fl_X6_27 (by decide) (by decide) k1 rfl e3 dX6_remove_1 rfl ?_
  refine x_iload_n (pc2 := 5) 1 (n := 1) (x := x1) rfl dX6_remove_4 rfl ?_
  obtain ⟨k4, ht⟩ := ht
  obtain ⟨b5, ht⟩ := ht
  obtain ⟨q6, e7, ht⟩ := ht
  refine y_aaldR (pc2 := 6) (κ := 20) (by decide) k4 b5 e7 dX6_remove_5 rfl ?_
  obtain ⟨k8, ht⟩ := ht
  refine y_getI (pc2 := 9) (κ := 9) (k := 6) fl_X6_104 (by decide) (by decide) k8 rfl dX6_remove_6 rfl ?_
  refine x_istore_n (pc2 := 10) [1, 2, 0] (n := 2) (x := (hI h q6 6)) (lv2 := [(0, .ref a0), (1, .int x1), (2, .int (hI h q6 6))]) (by decide) rfl dX6_remove_9 rfl ?_
  refine x_iconst (pc2 := 11) (v := 0) (by decide) dX6_remove_10 rfl ?_
  refine x_istore_n (pc2 := 12) [1, 2, 3, 0] (n := 3) (x := 0) (lv2 := [(0, .ref a0), (1, .int x1), (2, .int (hI h q6 6)), (3, .int 0)]) (by decide) rfl dX6_remove_11 rfl ?_
  exact ht
theorem e_X6_remove {G : GG} {d : Nat} {h : HP} {Q : Option Value → HP → Prop} {a0 : Nat} {x1 : Int32} (ht : T_X6_remove G d h Q a0 x1) : Cal G d mX6_remove [.ref a0, .int x1] h Q := cal_of rfl (Nat.le_of_ble_eq_true rfl) (t_X6_remove ht)
def T_X6_remove_12 (G : GG) (d : Nat) (h : HP) (Q : Option Value → HP → Prop) (a0 : Nat) (x1 : Int32) (x2 : Int32) (x3 : Int32) : Prop :=
  ((30 ≤ x3 → Kd G h a0 6 ∧ ∃ q3, hR h a0 7 = some q3 ∧ Kd G h q3 20 ∧ vp_in x1 (hN h q3) ∧ ∃ q7, hR h q3 x1.toNatClampNeg = some q7 ∧ Kd G h q7 9 ∧ Ex G d mX6_remove 74 [(0, .ref a0), (1, .int x1), (2, .int x2), (3, .int x2), (4, .int 0)] [] (sI h q7 0 0) Q) ∧ (¬ 30 ≤ x3 → Kd G h a0 6 ∧ ∃ q11, hR h a0 7 = some q11 ∧ Kd G h q11 20 ∧ vp_in x3 (hN h q11) ∧ ∃ q15, hR h q11 x3.toNatClampNeg = some q15 ∧ Kd G h q15 9 ∧ (((hI h q15 0) = 0 → Ex G d mX6_remove 12 [(0, .ref a0), (1, .int x1), (2, .int x2), (3, .int (x3 + 1))] [] h Q) ∧ (¬ (hI h q15 0) = 0 → vp_in x3 (hN h q11) ∧ ∃ q20, hR h q11 x3.toNatClampNeg = some q20 ∧ Kd G h q20 9 ∧ ((¬ (hI h q20 6) = x1 → Ex G d mX6_remove 12 [(0, .ref a0), (1, .int x1), (2, .int x2), (3, .int (x3 + 1))] [] h Q) ∧ ((hI h q20 6) = x1 → vp_in x3 (hN h q11) ∧ ∃ q25, hR h q11 x3.toNatClampNeg = some q25 ∧ Kd G h q25 9 ∧ Ex G d mX6_remove 12 [(0, .ref a0), (1, .int x1), (2, .int x2), (3, .int (x3 + 1))] [] (sI h q25 6 x2) Q))))))
set_option maxRecDepth 20000 in
theorem t_X6_remove_12 {G : GG} {d : Nat} {h : HP} {Q : Option Value → HP → Prop} {a0 : Nat} {x1 : Int32} {x2 : Int32} {x3 : Int32} (ht : T_X6_remove_12 G d h Q a0 x1 x2 x3) : Ex G d mX6_remove 12 [(0, .ref a0), (1, .int x1), (2, .int x2), (3, .int x3)] [] h Q := by
  unfold T_X6_remove_12 at ht
  refine x_iload_n (pc2 := 13) 3 (n := 3) (x := x3) rfl dX6_remove_12 rfl ?_
  refine x_bipush (pc2 := 15) (v := 30) (by decide) dX6_remove_13 rfl ?_
  refine x_icmp_ge (pc2 := 18) 59 dX6_remove_15 (by decide) rfl (fun c1 => ?_) (fun c1 => ?_)
  · replace ht := ht.1 c1
    refine x_aload_n (pc2 := 60) 0 (n := 0) (x := a0) rfl dX6_remove_59 rfl ?_
    obtain ⟨k2, ht⟩ := ht
    obtain ⟨q3, e4, ht⟩ := ht
    refine y_getR (pc2 := 63) (κ := 6) (k := 7) fl_X6_27 (by decide) (by decide) k2 rfl e4 dX6_remove_60 rfl ?_
    refine x_iload_n (pc2 := 64) 1 (n := 1) (x := x1) rfl dX6_remove_63 rfl ?_
    obtain ⟨k5, ht⟩ := ht
    obtain ⟨b6, ht⟩ := ht
    obtain ⟨q7, e8, ht⟩ := ht
    refine y_aaldR (pc2 := 65) (κ := 20) (by decide) k5 b6 e8 dX6_remove_64 rfl ?_
    refine x_iconst (pc2 := 66) (v := 0) (by decide) dX6_remove_65 rfl ?_
    obtain ⟨k9, ht⟩ := ht
    refine x_putZ (pc2 := 69) (κ := 9) (k := 0) (Or.inl rfl) fl_X6_71 (by decide) (by decide) (Or.inl rfl) rfl k9 dX6_remove_66 rfl ?_
    refine x_iload_n (pc2 := 70) 2 (n := 2) (x := x2) rfl dX6_remove_69 rfl ?_
    refine x_istore_n (pc2 := 71) [1, 2, 3, 0] (n := 3) (x := x2) (lv2 := [(0, .ref a0), (1, .int x1), (2, .int x2), (3, .int x2)]) (by decide) rfl dX6_remove_70 rfl ?_
    refine x_iconst (pc2 := 72) (v := 0) (by decide) dX6_remove_71 rfl ?_
    refine x_istore (pc2 := 74) [1, 2, 3, 4, 0] (n := 4) (x := 0) (lv2 := [(0, .ref a0), (1, .int x1), (2, .int x2), (3, .int x2), (4, .int 0)]) (by decide) rfl dX6_remove_72 rfl ?_
    exact ht
  · replace ht := ht.2 c1
    refine x_aload_n (pc2 := 19) 0 (n := 0) (x := a0) rfl dX6_remove_18 rfl ?_
    obtain ⟨k10, ht⟩ := ht
    obtain ⟨q11, e12, ht⟩ := ht
    refine y_getR (pc2 := 22) (κ := 6) (k := 7) fl_X6_27 (by decide) (by decide) k10 rfl e12 dX6_remove_19 rfl ?_
    refine x_iload_n (pc2 := 23) 3 (n := 3) (x := x3) rfl dX6_remove_22 rfl ?_
    obtain ⟨k13, ht⟩ := ht
    obtain ⟨b14, ht⟩ := ht
    obtain ⟨q15, e16, ht⟩ := ht
    refine y_aaldR (pc2 := 24) (κ := 20) (by decide) k13 b14 e16 dX6_remove_23 rfl ?_
    obtain ⟨k17, ht⟩ := ht
    refine y_getI (pc2 := 27) (κ := 9) (k := 0) fl_X6_71 (by decide) (by decide) k17 rfl dX6_remove_24 rfl ?_
    refine x_if_eq (pc2 := 30) 53 dX6_remove_27 (by decide) rfl (fun c18 => ?_) (fun c18 => ?_)
    · replace ht := ht.1 c18
      refine x_iinc (pc2 := 56) 3 [1, 2, 3, 0] (i := 3) (x := x3) (v := (x3 + 1)) (lv2 := [(0, .ref a0), (1, .int x1), (2, .int x2), (3, .int (x3 + 1))]) rfl (iinc_eq (by decide) _) (by decide) rfl dX6_remove_53 rfl ?_
      refine x_goto 12 dX6_remove_56 (by decide) ?_
      exact ht
    · replace ht := ht.2 c18
      refine x_aload_n (pc2 := 31) 0 (n := 0) (x := a0) rfl dX6_remove_30 rfl ?_
      refine y_getR (pc2 := 34) (κ := 6) (k := 7) fl_X6_27 (by decide) (by decide) k10 rfl e12 dX6_remove_31 rfl ?_
      refine x_iload_n (pc2 := 35) 3 (n := 3) (x := x3) rfl dX6_remove_34 rfl ?_
      obtain ⟨b19, ht⟩ := ht
      obtain ⟨q20, e21, ht⟩ := ht
      refine y_aaldR (pc2 := 36) (κ := 20) (by decide) k13 b19 e21 dX6_remove_35 rfl ?_
      obtain ⟨k22, ht⟩ := ht
      refine y_getI (pc2 := 39) (κ := 9) (k := 6) fl_X6_104 (by decide) (by decide) k22 rfl dX6_remove_36 rfl ?_
      refine x_iload_n (pc2 := 40) 1 (n := 1) (x := x1) rfl dX6_remove_39 rfl ?_
      refine y_icmp_ne (pc2 := 43) 53 dX6_remove_40 (by decide) rfl (fun c23 => ?_) (fun c23 => ?_)
      · replace ht := ht.1 c23
        refine x_iinc (pc2 := 56) 3 [1, 2, 3, 0] (i := 3) (x := x3) (v := (x3 + 1)) (lv2 := [(0, .ref a0), (1, .int x1), (2, .int x2), (3, .int (x3 + 1))]) rfl (iinc_eq (by decide) _) (by decide) rfl dX6_remove_53 rfl ?_
        refine x_goto 12 dX6_remove_56 (by decide) ?_
        exact ht
      · replace ht := ht.2 c23
        refine x_aload_n (pc2 := 44) 0 (n := 0) (x := a0) rfl dX6_remove_43 rfl ?_
        refine y_getR (pc2 := 47) (κ := 6) (k := 7) fl_X6_27 (by decide) (by decide) k10 rfl e12 dX6_remove_44 rfl ?_
        refine x_iload_n (pc2 := 48) 3 (n := 3) (x := x3) rfl dX6_remove_47 rfl ?_
        obtain ⟨b24, ht⟩ := ht
        obtain ⟨q25, e26, ht⟩ := ht
        refine y_aaldR (pc2 := 49) (κ := 20) (by decide) k13 b24 e26 dX6_remove_48 rfl ?_
        refine x_iload_n (pc2 := 50) 2 (n := 2) (x := x2) rfl dX6_remove_49 rfl ?_
        obtain ⟨k27, ht⟩ := ht
        refine x_putI (pc2 := 53) (κ := 9) (k := 6) fl_X6_104 (by decide) (by decide) (Or.inl rfl) rfl k27 dX6_remove_50 rfl ?_
        refine x_iinc (pc2 := 56) 3 [1, 2, 3, 0] (i := 3) (x := x3) (v := (x3 + 1)) (lv2 := [(0, .ref a0), (1, .int x1), (2, .int x2), (3, .int (x3 + 1))]) rfl (iinc_eq (by decide) _) (by decide) rfl dX6_remove_53 rfl ?_
        refine x_goto 12 dX6_remove_56 (by decide) ?_
        exact ht
def T_X6_remove_74 (G : GG) (d : Nat) (h : HP) (Q : Option Value → HP → Prop) (a0 : Nat) (x1 : Int32) (x2 : Int32) (x3 : Int32) (x4 : Int32) : Prop :=
  ((31 ≤ x4 → Q none h) ∧ (¬ 31 ≤ x4 → ((x3 = (-1) → Q none h) ∧ (¬ x3 = (-1) → Kd G h a0 6 ∧ ∃ q4, hR h a0 7 = some q4 ∧ Kd G h q4 20 ∧ vp_in x3 (hN h q4) ∧ ∃ q8, hR h q4 x3.toNatClampNeg = some q8 ∧ Kd G h q8 9 ∧ vp_in x3 (hN (sI h q8 7 ((hI h q8 7) - 1)) q4) ∧ ∃ q12, hR (sI h q8 7 ((hI h q8 7) - 1)) q4 x3.toNatClampNeg = some q12 ∧ Kd G (sI h q8 7 ((hI h q8 7) - 1)) q12 9 ∧ Ex G d mX6_remove 74 [(0, .ref a0), (1, .int x1), (2, .int x2), (3, .int (hI (sI h q8 7 ((hI h q8 7) - 1)) q12 6)), (4, .int (x4 + 1))] [] (sI h q8 7 ((hI h q8 7) - 1)) Q))))
set_option maxRecDepth 20000 in
theorem t_X6_remove_74 {G : GG} {d : Nat} {h : HP} {Q : Option Value → HP → Prop} {a0 : Nat} {x1 : Int32} {x2 : Int32} {x3 : Int32} {x4 : Int32} (ht : T_X6_remove_74 G d h Q a0 x1 x2 x3 x4) : Ex G d mX6_remove 74 [(0, .ref a0), (1, .int x1), (2, .int x2), (3, .int x3), (4, .int x4)] [] h Q := by
  unfold T_X6_remove_74 at ht
  refine x_iload (pc2 := 76) 4 (n := 4) (x := x4) rfl dX6_remove_74 rfl ?_
  refine x_bipush (pc2 := 78) (v := 31) (by decide) dX6_remove_76 rfl ?_
  refine x_icmp_ge (pc2 := 81) 117 dX6_remove_78 (by decide) rfl (fun c1 => ?_) (fun c1 => ?_)
  · replace ht := ht.1 c1
    exact x_retV rfl dX6_remove_117 ht
  · replace ht := ht.2 c1
    refine x_iload_n (pc2 := 82) 3 (n := 3) (x := x3) rfl dX6_remove_81 rfl ?_
    refine x_iconst (pc2 := 83) (v := (-1)) (by decide) dX6_remove_82 rfl ?_
    refine x_icmp_eq (pc2 := 86) 117 dX6_remove_83 (by decide) rfl (fun c2 => ?_) (fun c2 => ?_)
    · replace ht := ht.1 c2
      exact x_retV rfl dX6_remove_117 ht
    · replace ht := ht.2 c2
      refine x_aload_n (pc2 := 87) 0 (n := 0) (x := a0) rfl dX6_remove_86 rfl ?_
      obtain ⟨k3, ht⟩ := ht
      obtain ⟨q4, e5, ht⟩ := ht
      refine y_getR (pc2 := 90) (κ := 6) (k := 7) fl_X6_27 (by decide) (by decide) k3 rfl e5 dX6_remove_87 rfl ?_
      refine x_iload_n (pc2 := 91) 3 (n := 3) (x := x3) rfl dX6_remove_90 rfl ?_
      obtain ⟨k6, ht⟩ := ht
      obtain ⟨b7, ht⟩ := ht
      obtain ⟨q8, e9, ht⟩ := ht
      refine y_aaldR (pc2 := 92) (κ := 20) (by decide) k6 b7 e9 dX6_remove_91 rfl ?_
      refine x_dup (pc2 := 93) rfl dX6_remove_92 rfl ?_
      obtain ⟨k10, ht⟩ := ht
      refine y_getI (pc2 := 96) (κ := 9) (k := 7) fl_X6_121 (by decide) (by decide) k10 rfl dX6_remove_93 rfl ?_
      refine x_iconst (pc2 := 97) (v := 1) (by decide) dX6_remove_96 rfl ?_
      refine x_isub (pc2 := 98) dX6_remove_97 rfl ?_
      refine x_putI (pc2 := 101) (κ := 9) (k := 7) fl_X6_121 (by decide) (by decide) (Or.inl rfl) rfl k10 dX6_remove_98 rfl ?_
      refine x_aload_n (pc2 := 102) 0 (n := 0) (x := a0) rfl dX6_remove_101 rfl ?_
      refine y_getR (pc2 := 105) (κ := 6) (k := 7) fl_X6_27 (by decide) (by decide) k3.sI rfl ((hR_sI _ _ _ _ _ _).trans e5) dX6_remove_102 rfl ?_
      refine x_iload_n (pc2 := 106) 3 (n := 3) (x := x3) rfl dX6_remove_105 rfl ?_
      obtain ⟨b11, ht⟩ := ht
      obtain ⟨q12, e13, ht⟩ := ht
      refine y_aaldR (pc2 := 107) (κ := 20) (by decide) k6.sI b11 e13 dX6_remove_106 rfl ?_
      obtain ⟨k14, ht⟩ := ht
      refine y_getI (pc2 := 110) (κ := 9) (k := 6) fl_X6_104 (by decide) (by decide) k14 rfl dX6_remove_107 rfl ?_
      refine x_istore_n (pc2 := 111) [1, 2, 3, 0, 4] (n := 3) (x := (hI (sI h q8 7 ((hI h q8 7) - 1)) q12 6)) (lv2 := [(0, .ref a0), (1, .int x1), (2, .int x2), (3, .int (hI (sI h q8 7 ((hI h q8 7) - 1)) q12 6)), (4, .int x4)]) (by decide) rfl dX6_remove_110 rfl ?_
      refine x_iinc (pc2 := 114) 4 [1, 2, 3, 4, 0] (i := 4) (x := x4) (v := (x4 + 1)) (lv2 := [(0, .ref a0), (1, .int x1), (2, .int x2), (3, .int (hI (sI h q8 7 ((hI h q8 7) - 1)) q12 6)), (4, .int (x4 + 1))]) rfl (iinc_eq (by decide) _) (by decide) rfl dX6_remove_111 rfl ?_
      refine x_goto 74 dX6_remove_114 (by decide) ?_
      exact ht
def T_X6_draw (G : GG) (d : Nat) (h : HP) (Q : Option Value → HP → Prop) (a0 : Nat) : Prop :=
  Kd G h a0 6 ∧ Q (some (.int ((hI (sI h a0 4 ((((((hI h a0 4).toInt64) * 1103515245) + 12345) &&& 2147483647).toInt32)) a0 4) / 65536))) (sI h a0 4 ((((((hI h a0 4).toInt64) * 1103515245) + 12345) &&& 2147483647).toInt32))
set_option maxRecDepth 20000 in
theorem t_X6_draw {G : GG} {d : Nat} {h : HP} {Q : Option Value → HP → Prop} {a0 : Nat} (ht : T_X6_draw G d h Q a0) : Ex G d mX6_draw 0 [(0, .ref a0)] [] h Q := by
  unfold T_X6_draw at ht
  refine x_aload_n (pc2 := 1) 0 (n := 0) (x := a0) rfl dX6_draw_0 rfl ?_
  refine x_aload_n (pc2 := 2) 0 (n := 0) (x := a0) rfl dX6_draw_1 rfl ?_
  obtain ⟨k1, ht⟩ := ht
  refine y_getI (pc2 := 5) (κ := 6) (k := 4) fl_X6_68 (by decide) (by decide) k1 rfl dX6_draw_2 rfl ?_
  refine x_i2l (pc2 := 6) dX6_draw_5 rfl ?_
  refine x_ldc2 (pc2 := 9) (v := 1103515245) ct_X6_159 dX6_draw_6 rfl ?_
  refine x_lmul (pc2 := 10) dX6_draw_9 rfl ?_
  refine x_ldc2 (pc2 := 13) (v := 12345) ct_X6_161 dX6_draw_10 rfl ?_
  refine x_ladd (pc2 := 14) dX6_draw_13 rfl ?_
  refine x_ldc2 (pc2 := 17) (v := 2147483647) ct_X6_163 dX6_draw_14 rfl ?_
  refine x_land (pc2 := 18) dX6_draw_17 rfl ?_
  refine x_l2i (pc2 := 19) dX6_draw_18 rfl ?_
  refine x_putI (pc2 := 22) (κ := 6) (k := 4) fl_X6_68 (by decide) (by decide) (Or.inl rfl) rfl k1 dX6_draw_19 rfl ?_
  refine x_aload_n (pc2 := 23) 0 (n := 0) (x := a0) rfl dX6_draw_22 rfl ?_
  refine y_getI (pc2 := 26) (κ := 6) (k := 4) fl_X6_68 (by decide) (by decide) k1.sI rfl dX6_draw_23 rfl ?_
  refine x_ldc (pc2 := 28) (v := 65536) ct_X6_165 dX6_draw_26 rfl ?_
  refine x_idiv (pc2 := 29) (by decide) dX6_draw_28 rfl ?_
  exact x_ret (ty := .int) rfl rfl dX6_draw_29 ht
theorem e_X6_draw {G : GG} {d : Nat} {h : HP} {Q : Option Value → HP → Prop} {a0 : Nat} (ht : T_X6_draw G d h Q a0) : Cal G d mX6_draw [.ref a0] h Q := cal_of rfl (Nat.le_of_ble_eq_true rfl) (t_X6_draw ht)
