def T_X10_init (G : GG) (d : Nat) (h : HP) (Q : Option Value → HP → Prop) (a0 : Nat) : Prop :=
  ∀ q1 h2, q1 = hZ h → h2 = nw h 14 ((1600 : Int32).toNatClampNeg) → Kd G h2 a0 10 ∧ ∀ q7 h8, q7 = hZ (sR h2 a0 0 (some q1)) → h8 = nw (sR h2 a0 0 (some q1)) 14 ((1600 : Int32).toNatClampNeg) → ∀ q12 h13, q12 = hZ (sR h8 a0 3 (some q7)) → h13 = nw (sR h8 a0 3 (some q7)) 14 ((1600 : Int32).toNatClampNeg) → ∀ q17 h18, q17 = hZ (sR h13 a0 4 (some q12)) → h18 = nw (sR h13 a0 4 (some q12)) 14 ((1600 : Int32).toNatClampNeg) → ∀ q22 h23, q22 = hZ (sR h18 a0 5 (some q17)) → h23 = nw (sR h18 a0 5 (some q17)) 14 ((1600 : Int32).toNatClampNeg) → ∀ q27 h28, q27 = hZ (sR h23 a0 6 (some q22)) → h28 = nw (sR h23 a0 6 (some q22)) 14 ((160 : Int32).toNatClampNeg) → ∀ q32 h33, q32 = hZ (sR h28 a0 7 (some q27)) → h33 = nw (sR h28 a0 7 (some q27)) 14 ((160 : Int32).toNatClampNeg) → Q none (sR h33 a0 8 (some q32))
set_option maxRecDepth 20000 in
theorem t_X10_init {G : GG} {d : Nat} {h : HP} {Q : Option Value → HP → Prop} {a0 : Nat} (hd1 : 1 ≤ d) (ht : T_X10_init G d h Q a0) : Ex G d mX10_init 0 [(0, .ref a0)] [] h Q := by
  unfold T_X10_init at ht
  refine x_aload_n (pc2 := 1) 0 (n := 0) (x := a0) rfl dX10_init_0 rfl ?_
  refine x_objInit (pc2 := 4) ml_X10_3 hd1 (Nat.le_of_ble_eq_true rfl) dX10_init_1 rfl ?_
  refine x_aload_n (pc2 := 5) 0 (n := 0) (x := a0) rfl dX10_init_4 rfl ?_
  refine x_sipush (pc2 := 8) (v := 1600) (by decide) dX10_init_5 rfl ?_
  refine y_newa (pc2 := 10) (κ := 14) (at0 := .int) ac_int rfl (by decide) (by decide) (by decide) (by decide) dX10_init_8 rfl (fun q1 h2 e3 e4 p5 => ?_)
  replace ht := ht q1 h2 e3 e4
  obtain ⟨k6, ht⟩ := ht
  refine x_putR (pc2 := 13) (v := (some q1)) (κ := 10) (k := 0) fl_X10_9 (by decide) (by decide) (Or.inr ⟨rfl, rfl⟩) (isRt_a _) k6 dX10_init_10 rfl ?_
  refine x_aload_n (pc2 := 14) 0 (n := 0) (x := a0) rfl dX10_init_13 rfl ?_
  refine x_sipush (pc2 := 17) (v := 1600) (by decide) dX10_init_14 rfl ?_
  refine y_newa (pc2 := 19) (κ := 14) (at0 := .int) ac_int rfl (by decide) (by decide) (by decide) (by decide) dX10_init_17 rfl (fun q7 h8 e9 e10 p11 => ?_)
  replace ht := ht q7 h8 e9 e10
  refine x_putR (pc2 := 22) (v := (some q7)) (κ := 10) (k := 3) fl_X10_15 (by decide) (by decide) (Or.inr ⟨rfl, rfl⟩) (isRt_a _) (k6.sR.up p11) dX10_init_19 rfl ?_
  refine x_aload_n (pc2 := 23) 0 (n := 0) (x := a0) rfl dX10_init_22 rfl ?_
  refine x_sipush (pc2 := 26) (v := 1600) (by decide) dX10_init_23 rfl ?_
  refine y_newa (pc2 := 28) (κ := 14) (at0 := .int) ac_int rfl (by decide) (by decide) (by decide) (by decide) dX10_init_26 rfl (fun q12 h13 e14 e15 p16 => ?_)
  replace ht := ht q12 h13 e14 e15
  refine x_putR (pc2 := 31) (v := (some q12)) (κ := 10) (k := 4) fl_X10_18 (by decide) (by decide) (Or.inr ⟨rfl, rfl⟩) (isRt_a _) ((k6.sR.up p11).sR.up p16) dX10_init_28 rfl ?_
  refine x_aload_n (pc2 := 32) 0 (n := 0) (x := a0) rfl dX10_init_31 rfl ?_
  refine x_sipush (pc2 := 35) (v := 1600) (by decide) dX10_init_32 rfl ?_
  refine y_newa (pc2 := 37) (κ := 14) (at0 := .int) ac_int rfl (by decide) (by decide) (by decide) (by decide) dX10_init_35 rfl (fun q17 h18 e19 e20 p21 => ?_)
  replace ht := ht q17 h18 e19 e20
  refine x_putR (pc2 := 40) (v := (some q17)) (κ := 10) (k := 5) fl_X10_21 (by decide) (by decide) (Or.inr ⟨rfl, rfl⟩) (isRt_a _) (((k6.sR.up p11).sR.up p16).sR.up p21) dX10_init_37 rfl ?_
  refine x_aload_n (pc2 := 41) 0 (n := 0) (x := a0) rfl dX10_init_40 rfl ?_
  refine x_sipush (pc2 := 44) (v := 1600) (by decide) dX10_init_41 rfl ?_
  refine y_newa (pc2 := 46) (κ := 14) (at0 := .int) ac_int rfl (by decide) (by decide) (by decide) (by decide) dX10_init_44 rfl (fun q22 h23 e24 e25 p26 => ?_)
  replace ht := ht q22 h23 e24 e25
  refine x_putR (pc2 := 49) (v := (some q22)) (κ := 10) (k := 6) fl_X10_24 (by decide) (by decide) (Or.inr ⟨rfl, rfl⟩) (isRt_a _) ((((k6.sR.up p11).sR.up p16).sR.up p21).sR.up p26) dX10_init_46 rfl ?_
  refine x_aload_n (pc2 := 50) 0 (n := 0) (x := a0) rfl dX10_init_49 rfl ?_
  refine x_sipush (pc2 := 53) (v := 160) (by decide) dX10_init_50 rfl ?_
  refine y_newa (pc2 := 55) (κ := 14) (at0 := .int) ac_int rfl (by decide) (by decide) (by decide) (by decide) dX10_init_53 rfl (fun q27 h28 e29 e30 p31 => ?_)
  replace ht := ht q27 h28 e29 e30
  refine x_putR (pc2 := 58) (v := (some q27)) (κ := 10) (k := 7) fl_X10_27 (by decide) (by decide) (Or.inr ⟨rfl, rfl⟩) (isRt_a _) (((((k6.sR.up p11).sR.up p16).sR.up p21).sR.up p26).sR.up p31) dX10_init_55 rfl ?_
  refine x_aload_n (pc2 := 59) 0 (n := 0) (x := a0) rfl dX10_init_58 rfl ?_
  refine x_sipush (pc2 := 62) (v := 160) (by decide) dX10_init_59 rfl ?_
  refine y_newa (pc2 := 64) (κ := 14) (at0 := .int) ac_int rfl (by decide) (by decide) (by decide) (by decide) dX10_init_62 rfl (fun q32 h33 e34 e35 p36 => ?_)
  replace ht := ht q32 h33 e34 e35
  refine x_putR (pc2 := 67) (v := (some q32)) (κ := 10) (k := 8) fl_X10_30 (by decide) (by decide) (Or.inr ⟨rfl, rfl⟩) (isRt_a _) ((((((k6.sR.up p11).sR.up p16).sR.up p21).sR.up p26).sR.up p31).sR.up p36) dX10_init_64 rfl ?_
  exact x_retV rfl dX10_init_67 ht
theorem e_X10_init {G : GG} {d : Nat} {h : HP} {Q : Option Value → HP → Prop} {a0 : Nat} (hd1 : 1 ≤ d) (ht : T_X10_init G d h Q a0) : Cal G d mX10_init [.ref a0] h Q := cal_of rfl (Nat.le_of_ble_eq_true rfl) (t_X10_init hd1 ht)
def T_X10_survey (G : GG) (d : Nat) (h : HP) (Q : Option Value → HP → Prop) (a0 : Nat) (a1 : Nat) (x2 : Int32) : Prop :=
  Kd G h a0 10 ∧ Cal G (d - 1) mX10_paintWalls [.ref a0] (sI (sR h a0 9 (some a1)) a0 10 x2) (fun r2 h3 => r2 = none ∧ ∃ q5, hR h3 a0 6 = some q5 ∧ Cal G (d - 1) mJ7_fill_53178 [.ref q5, .int 0] h3 (fun r7 h8 => r7 = none ∧ Ex G d mX10_survey 24 [(0, .ref a0), (1, .ref a1), (2, .int x2), (3, .int 0)] [] h8 Q))
set_option maxRecDepth 20000 in
theorem t_X10_survey {G : GG} {d : Nat} {h : HP} {Q : Option Value → HP → Prop} {a0 : Nat} {a1 : Nat} {x2 : Int32} (hd1 : 1 ≤ d) (ht : T_X10_survey G d h Q a0 a1 x2) : Ex G d mX10_survey 0 [(0, .ref a0), (1, .ref a1), (2, .int x2)] [] h Q := by
  unfold T_X10_survey at ht
  refine x_aload_n (pc2 := 1) 0 (n := 0) (x := a0) rfl dX10_survey_0 rfl ?_
  refine x_aload_n (pc2 := 2) 1 (n := 1) (x := a1) rfl dX10_survey_1 rfl ?_
  obtain ⟨k1, ht⟩ := ht
  refine x_putR (pc2 := 5) (v := (some a1)) (κ := 10) (k := 9) fl_X10_33 (by decide) (by decide) (Or.inl rfl) (isRt_o _) k1 dX10_survey_2 rfl ?_
  refine x_aload_n (pc2 := 6) 0 (n := 0) (x := a0) rfl dX10_survey_5 rfl ?_
  refine x_iload_n (pc2 := 7) 2 (n := 2) (x := x2) rfl dX10_survey_6 rfl ?_
  refine x_putI (pc2 := 10) (κ := 10) (k := 10) fl_X10_37 (by decide) (by decide) (Or.inl rfl) rfl k1.sR dX10_survey_7 rfl ?_
  refine x_aload_n (pc2 := 11) 0 (n := 0) (x := a0) rfl dX10_survey_10 rfl ?_
  refine x_callV (pc2 := 14) (As := []) (rest := []) (b := a0) mv_X10_paintWalls ml_X10_41 k1.sR.sI rfl rfl (Nat.le_of_ble_eq_true rfl) hd1 dX10_survey_11 rfl (ht.mono (fun r2 h3 p4 ht' => ?_))
  clear ht
  obtain ⟨rfl, ht⟩ := ht'
  show Ex G d mX10_survey 14 [(0, .ref a0), (1, .ref a1), (2, .int x2)] [] h3 Q
  refine x_aload_n (pc2 := 15) 0 (n := 0) (x := a0) rfl dX10_survey_14 rfl ?_
  obtain ⟨q5, e6, ht⟩ := ht
  refine y_getR (pc2 := 18) (κ := 10) (k := 6) fl_X10_24 (by decide) (by decide) (k1.sR.sI.up p4) rfl e6 dX10_survey_15 rfl ?_
  refine x_iconst (pc2 := 19) (v := 0) (by decide) dX10_survey_18 rfl ?_
  refine x_callS (pc2 := 22) (As := [.ref q5, .int 0]) (rest := []) ms_J7_fill_53178 ml_X10_44 rfl rfl (Nat.le_of_ble_eq_true rfl) hd1 dX10_survey_19 rfl (ht.mono (fun r7 h8 p9 ht' => ?_))
  clear ht
  obtain ⟨rfl, ht⟩ := ht'
  show Ex G d mX10_survey 22 [(0, .ref a0), (1, .ref a1), (2, .int x2)] [] h8 Q
  refine x_iconst (pc2 := 23) (v := 0) (by decide) dX10_survey_22 rfl ?_
  refine x_istore_n (pc2 := 24) [1, 2, 3, 0] (n := 3) (x := 0) (lv2 := [(0, .ref a0), (1, .ref a1), (2, .int x2), (3, .int 0)]) (by decide) rfl dX10_survey_23 rfl ?_
  exact ht
theorem e_X10_survey {G : GG} {d : Nat} {h : HP} {Q : Option Value → HP → Prop} {a0 : Nat} {a1 : Nat} {x2 : Int32} (hd1 : 1 ≤ d) (ht : T_X10_survey G d h Q a0 a1 x2) : Cal G d mX10_survey [.ref a0, .ref a1, .int x2] h Q := cal_of rfl (Nat.le_of_ble_eq_true rfl) (t_X10_survey hd1 ht)
def T_X10_survey_24 (G : GG) (d : Nat) (h : HP) (Q : Option Value → HP → Prop) (a0 : Nat) (a1 : Nat) (x2 : Int32) (x3 : Int32) : Prop :=
  Kd G h a1 6 ∧ (((hI h a1 1) ≤ x3 → Q none h) ∧ (¬ (hI h a1 1) ≤ x3 → Ex G d mX10_survey 35 [(0, .ref a0), (1, .ref a1), (2, .int x2), (3, .int x3), (4, .int 0)] [] h Q))
set_option maxRecDepth 20000 in
theorem t_X10_survey_24 {G : GG} {d : Nat} {h : HP} {Q : Option Value → HP → Prop} {a0 : Nat} {a1 : Nat} {x2 : Int32} {x3 : Int32} (ht : T_X10_survey_24 G d h Q a0 a1 x2 x3) : Ex G d mX10_survey 24 [(0, .ref a0), (1, .ref a1), (2, .int x2), (3, .int x3)] [] h Q := by
  unfold T_X10_survey_24 at ht
  refine x_iload_n (pc2 := 25) 3 (n := 3) (x := x3) rfl dX10_survey_24 rfl ?_
  refine x_aload_n (pc2 := 26) 1 (n := 1) (x := a1) rfl dX10_survey_25 rfl ?_
  obtain ⟨k1, ht⟩ := ht
  refine y_getI (pc2 := 29) (κ := 6) (k := 1) fl_X10_50 (by decide) (by decide) k1 rfl dX10_survey_26 rfl ?_
  refine x_icmp_ge (pc2 := 32) 93 dX10_survey_29 (by decide) rfl (fun c2 => ?_) (fun c2 => ?_)
  · replace ht := ht.1 c2
    exact x_retV rfl dX10_survey_93 ht
  · replace ht := ht.2 c2
    refine x_iconst (pc2 := 33) (v := 0) (by decide) dX10_survey_32 rfl ?_
    refine x_istore (pc2 := 35) [1, 2, 3, 4, 0] (n := 4) (x := 0) (lv2 := [(0, .ref a0), (1, .ref a1), (2, .int x2), (3, .int x3), (4, .int 0)]) (by decide) rfl dX10_survey_33 rfl ?_
    exact ht
def T_X10_survey_35 (G : GG) (d : Nat) (h : HP) (Q : Option Value → HP → Prop) (a0 : Nat) (a1 : Nat) (x2 : Int32) (x3 : Int32) (x4 : Int32) : Prop :=
  Kd G h a1 6 ∧ (((hI h a1 0) ≤ x4 → Ex G d mX10_survey 24 [(0, .ref a0), (1, .ref a1), (2, .int x2), (3, .int (x3 + 1))] [] h Q) ∧ (¬ (hI h a1 0) ≤ x4 → (((hI h a1 0) ≤ (x4 + 1) → Ex G d mX10_survey 63 [(0, .ref a0), (1, .ref a1), (2, .int x2), (3, .int x3), (4, .int x4)] [] h Q) ∧ (¬ (hI h a1 0) ≤ (x4 + 1) → Kd G h a0 10 ∧ Cal G (d - 1) mX10_join [.ref a0, .int x4, .int x3, .int 1] h (fun r4 h5 => r4 = none ∧ Ex G d mX10_survey 63 [(0, .ref a0), (1, .ref a1), (2, .int x2), (3, .int x3), (4, .int x4)] [] h5 Q)))))
set_option maxRecDepth 20000 in
theorem t_X10_survey_35 {G : GG} {d : Nat} {h : HP} {Q : Option Value → HP → Prop} {a0 : Nat} {a1 : Nat} {x2 : Int32} {x3 : Int32} {x4 : Int32} (hd1 : 1 ≤ d) (ht : T_X10_survey_35 G d h Q a0 a1 x2 x3 x4) : Ex G d mX10_survey 35 [(0, .ref a0), (1, .ref a1), (2, .int x2), (3, .int x3), (4, .int x4)] [] h Q := by
  unfold T_X10_survey_35 at ht
  refine x_iload (pc2 := 37) 4 (n := 4) (x := x4) rfl dX10_survey_35 rfl ?_
  refine x_aload_n (pc2 := 38) 1 (n := 1) (x := a1) rfl dX10_survey_37 rfl ?_
  obtain ⟨k1, ht⟩ := ht
  refine y_getI (pc2 := 41) (κ := 6) (k := 0) fl_X10_55 (by decide) (by decide) k1 rfl dX10_survey_38 rfl ?_
  refine x_icmp_ge (pc2 := 44) 87 dX10_survey_41 (by decide) rfl (fun c2 => ?_) (fun c2 => ?_)
  · replace ht := ht.1 c2
    refine x_iinc (pc2 := 90) 3 [1, 2, 3, 0, 4] (i := 3) (x := x3) (v := (x3 + 1)) (lv2 := [(0, .ref a0), (1, .ref a1), (2, .int x2), (3, .int (x3 + 1)), (4, .int x4)]) rfl (iinc_eq (by decide) _) (by decide) rfl dX10_survey_87 rfl ?_
    refine x_goto 24 dX10_survey_90 (by decide) ?_
    refine x_sub [0, 1, 2, 3] (lv2 := [(0, .ref a0), (1, .ref a1), (2, .int x2), (3, .int (x3 + 1))]) rfl ?_
    exact ht
  · replace ht := ht.2 c2
    refine x_iload (pc2 := 46) 4 (n := 4) (x := x4) rfl dX10_survey_44 rfl ?_
    refine x_iconst (pc2 := 47) (v := 1) (by decide) dX10_survey_46 rfl ?_
    refine x_iadd (pc2 := 48) dX10_survey_47 rfl ?_
    refine x_aload_n (pc2 := 49) 1 (n := 1) (x := a1) rfl dX10_survey_48 rfl ?_
    refine y_getI (pc2 := 52) (κ := 6) (k := 0) fl_X10_55 (by decide) (by decide) k1 rfl dX10_survey_49 rfl ?_
    refine x_icmp_ge (pc2 := 55) 63 dX10_survey_52 (by decide) rfl (fun c3 => ?_) (fun c3 => ?_)
    · replace ht := ht.1 c3
      exact ht
    · replace ht := ht.2 c3
      refine x_aload_n (pc2 := 56) 0 (n := 0) (x := a0) rfl dX10_survey_55 rfl ?_
      refine x_iload (pc2 := 58) 4 (n := 4) (x := x4) rfl dX10_survey_56 rfl ?_
      refine x_iload_n (pc2 := 59) 3 (n := 3) (x := x3) rfl dX10_survey_58 rfl ?_
      refine x_iconst (pc2 := 60) (v := 1) (by decide) dX10_survey_59 rfl ?_
      obtain ⟨k7, ht⟩ := ht
      refine x_callV (pc2 := 63) (As := [.int x4, .int x3, .int 1]) (rest := []) (b := a0) mv_X10_join ml_X10_58 k7 rfl rfl (Nat.le_of_ble_eq_true rfl) hd1 dX10_survey_60 rfl (ht.mono (fun r4 h5 p6 ht' => ?_))
      clear ht
      obtain ⟨rfl, ht⟩ := ht'
      show Ex G d mX10_survey 63 [(0, .ref a0), (1, .ref a1), (2, .int x2), (3, .int x3), (4, .int x4)] [] h5 Q
      exact ht
def T_X10_survey_63 (G : GG) (d : Nat) (h : HP) (Q : Option Value → HP → Prop) (a0 : Nat) (a1 : Nat) (x2 : Int32) (x3 : Int32) (x4 : Int32) : Prop :=
  Kd G h a1 6 ∧ (((hI h a1 1) ≤ (x3 + 1) → Ex G d mX10_survey 35 [(0, .ref a0), (1, .ref a1), (2, .int x2), (3, .int x3), (4, .int (x4 + 1))] [] h Q) ∧ (¬ (hI h a1 1) ≤ (x3 + 1) → Kd G h a0 10 ∧ Cal G (d - 1) mX10_join [.ref a0, .int x4, .int x3, .int 2] h (fun r3 h4 => r3 = none ∧ Ex G d mX10_survey 35 [(0, .ref a0), (1, .ref a1), (2, .int x2), (3, .int x3), (4, .int (x4 + 1))] [] h4 Q)))
set_option maxRecDepth 20000 in
theorem t_X10_survey_63 {G : GG} {d : Nat} {h : HP} {Q : Option Value → HP → Prop} {a0 : Nat} {a1 : Nat} {x2 : Int32} {x3 : Int32} {x4 : Int32} (hd1 : 1 ≤ d) (ht : T_X10_survey_63 G d h Q a0 a1 x2 x3 x4) : Ex G d mX10_survey 63 [(0, .ref a0), (1, .ref a1), (2, .int x2), (3, .int x3), (4, .int x4)] [] h Q := by
  unfold T_X10_survey_63 at ht
  refine x_iload_n (pc2 := 64) 3 (n := 3) (x := x3) rfl dX10_survey_63 rfl ?_
  refine x_iconst (pc2 := 65) (v := 1) (by decide) dX10_survey_64 rfl ?_
  refine x_iadd (pc2 := 66) dX10_survey_65 rfl ?_
  refine x_aload_n (pc2 := 67) 1 (n := 1) (x := a1) rfl dX10_survey_66 rfl ?_
  obtain ⟨k1, ht⟩ := ht
  refine y_getI (pc2 := 70) (κ := 6) (k := 1) fl_X10_50 (by decide) (by decide) k1 rfl dX10_survey_67 rfl ?_
  refine x_icmp_ge (pc2 := 73) 81 dX10_survey_70 (by decide) rfl (fun c2 => ?_) (fun c2 => ?_)
  · replace ht := ht.1 c2
    refine x_iinc (pc2 := 84) 4 [1, 2, 3, 4, 0] (i := 4) (x := x4) (v := (x4 + 1)) (lv2 := [(0, .ref a0), (1, .ref a1), (2, .int x2), (3, .int x3), (4, .int (x4 + 1))]) rfl (iinc_eq (by decide) _) (by decide) rfl dX10_survey_81 rfl ?_
    refine x_goto 35 dX10_survey_84 (by decide) ?_
    exact ht
  · replace ht := ht.2 c2
    refine x_aload_n (pc2 := 74) 0 (n := 0) (x := a0) rfl dX10_survey_73 rfl ?_
    refine x_iload (pc2 := 76) 4 (n := 4) (x := x4) rfl dX10_survey_74 rfl ?_
    refine x_iload_n (pc2 := 77) 3 (n := 3) (x := x3) rfl dX10_survey_76 rfl ?_
    refine x_iconst (pc2 := 78) (v := 2) (by decide) dX10_survey_77 rfl ?_
    obtain ⟨k6, ht⟩ := ht
    refine x_callV (pc2 := 81) (As := [.int x4, .int x3, .int 2]) (rest := []) (b := a0) mv_X10_join ml_X10_58 k6 rfl rfl (Nat.le_of_ble_eq_true rfl) hd1 dX10_survey_78 rfl (ht.mono (fun r3 h4 p5 ht' => ?_))
    clear ht
    obtain ⟨rfl, ht⟩ := ht'
    show Ex G d mX10_survey 81 [(0, .ref a0), (1, .ref a1), (2, .int x2), (3, .int x3), (4, .int x4)] [] h4 Q
    refine x_iinc (pc2 := 84) 4 [1, 2, 3, 4, 0] (i := 4) (x := x4) (v := (x4 + 1)) (lv2 := [(0, .ref a0), (1, .ref a1), (2, .int x2), (3, .int x3), (4, .int (x4 + 1))]) rfl (iinc_eq (by decide) _) (by decide) rfl dX10_survey_81 rfl ?_
    refine x_goto 35 dX10_survey_84 (by decide) ?_
    exact ht
def T_X10_paintWalls (G : GG) (d : Nat) (h : HP) (Q : Option Value → HP → Prop) (a0 : Nat) : Prop :=
  Kd G h a0 10 ∧ ∃ q2, hR h a0 5 = some q2 ∧ Cal G (d - 1) mJ7_fill_53178 [.ref q2, .int (-1)] h (fun r4 h5 => r4 = none ∧ Ex G d mX10_paintWalls 11 [(0, .ref a0), (1, .int 6)] [] h5 Q)
set_option maxRecDepth 20000 in
theorem t_X10_paintWalls {G : GG} {d : Nat} {h : HP} {Q : Option Value → HP → Prop} {a0 : Nat} (hd1 : 1 ≤ d) (ht : T_X10_paintWalls G d h Q a0) : Ex G d mX10_paintWalls 0 [(0, .ref a0)] [] h Q := by
  unfold T_X10_paintWalls at ht
  refine x_aload_n (pc2 := 1) 0 (n := 0) (x := a0) rfl dX10_paintWalls_0 rfl ?_
  obtain ⟨k1, ht⟩ := ht
  obtain ⟨q2, e3, ht⟩ := ht
  refine y_getR (pc2 := 4) (κ := 10) (k := 5) fl_X10_21 (by decide) (by decide) k1 rfl e3 dX10_paintWalls_1 rfl ?_
  refine x_iconst (pc2 := 5) (v := (-1)) (by decide) dX10_paintWalls_4 rfl ?_
  refine x_callS (pc2 := 8) (As := [.ref q2, .int (-1)]) (rest := []) ms_J7_fill_53178 ml_X10_44 rfl rfl (Nat.le_of_ble_eq_true rfl) hd1 dX10_paintWalls_5 rfl (ht.mono (fun r4 h5 p6 ht' => ?_))
  clear ht
  obtain ⟨rfl, ht⟩ := ht'
  show Ex G d mX10_paintWalls 8 [(0, .ref a0)] [] h5 Q
  refine x_bipush (pc2 := 10) (v := 6) (by decide) dX10_paintWalls_8 rfl ?_
  refine x_istore_n (pc2 := 11) [1, 0] (n := 1) (x := 6) (lv2 := [(0, .ref a0), (1, .int 6)]) (by decide) rfl dX10_paintWalls_10 rfl ?_
  exact ht
theorem e_X10_paintWalls {G : GG} {d : Nat} {h : HP} {Q : Option Value → HP → Prop} {a0 : Nat} (hd1 : 1 ≤ d) (ht : T_X10_paintWalls G d h Q a0) : Cal G d mX10_paintWalls [.ref a0] h Q := cal_of rfl (Nat.le_of_ble_eq_true rfl) (t_X10_paintWalls hd1 ht)
def T_X10_paintWalls_11 (G : GG) (d : Nat) (h : HP) (Q : Option Value → HP → Prop) (a0 : Nat) (x1 : Int32) : Prop :=
  ((30 ≤ x1 → Q none h) ∧ (¬ 30 ≤ x1 → Kd G h a0 10 ∧ ∃ q3, hR h a0 9 = some q3 ∧ Kd G h q3 6 ∧ ∃ q6, hR h q3 7 = some q6 ∧ Kd G h q6 20 ∧ vp_in x1 (hN h q6) ∧ ∃ q10, hR h q6 x1.toNatClampNeg = some q10 ∧ Kd G h q10 9 ∧ (((hI h q10 0) = 0 → Ex G d mX10_paintWalls 11 [(0, .ref a0), (1, .int (x1 + 1))] [] h Q) ∧ (¬ (hI h q10 0) = 0 → Cal G (d - 1) mX10_paint [.ref a0, .int x1] h (fun r14 h15 => r14 = none ∧ Ex G d mX10_paintWalls 11 [(0, .ref a0), (1, .int (x1 + 1))] [] h15 Q)))))
set_option maxRecDepth 20000 in
theorem t_X10_paintWalls_11 {G : GG} {d : Nat} {h : HP} {Q : Option Value → HP → Prop} {a0 : Nat} {x1 : Int32} (hd1 : 1 ≤ d) (ht : T_X10_paintWalls_11 G d h Q a0 x1) : Ex G d mX10_paintWalls 11 [(0, .ref a0), (1, .int x1)] [] h Q := by
  unfold T_X10_paintWalls_11 at ht
  refine x_iload_n (pc2 := 12) 1 (n := 1) (x := x1) rfl dX10_paintWalls_11 rfl ?_
  refine x_bipush (pc2 := 14) (v := 30) (by decide) dX10_paintWalls_12 rfl ?_
  refine x_icmp_ge (pc2 := 17) 43 dX10_paintWalls_14 (by decide) rfl (fun c1 => ?_) (fun c1 => ?_)
  · replace ht := ht.1 c1
    exact x_retV rfl dX10_paintWalls_43 ht
  · replace ht := ht.2 c1
    refine x_aload_n (pc2 := 18) 0 (n := 0) (x := a0) rfl dX10_paintWalls_17 rfl ?_
    obtain ⟨k2, ht⟩ := ht
    obtain ⟨q3, e4, ht⟩ := ht
    refine y_getR (pc2 := 21) (κ := 10) (k := 9) fl_X10_33 (by decide) (by decide) k2 rfl e4 dX10_paintWalls_18 rfl ?_
    obtain ⟨k5, ht⟩ := ht
    obtain ⟨q6, e7, ht⟩ := ht
    refine y_getR (pc2 := 24) (κ := 6) (k := 7) fl_X10_62 (by decide) (by decide) k5 rfl e7 dX10_paintWalls_21 rfl ?_
    refine x_iload_n (pc2 := 25) 1 (n := 1) (x := x1) rfl dX10_paintWalls_24 rfl ?_
    obtain ⟨k8, ht⟩ := ht
    obtain ⟨b9, ht⟩ := ht
    obtain ⟨q10, e11, ht⟩ := ht
    refine y_aaldR (pc2 := 26) (κ := 20) (by decide) k8 b9 e11 dX10_paintWalls_25 rfl ?_
    obtain ⟨k12, ht⟩ := ht
    refine y_getI (pc2 := 29) (κ := 9) (k := 0) fl_X10_66 (by decide) (by decide) k12 rfl dX10_paintWalls_26 rfl ?_
    refine x_if_eq (pc2 := 32) 37 dX10_paintWalls_29 (by decide) rfl (fun c13 => ?_) (fun c13 => ?_)
    · replace ht := ht.1 c13
      refine x_iinc (pc2 := 40) 1 [1, 0] (i := 1) (x := x1) (v := (x1 + 1)) (lv2 := [(0, .ref a0), (1, .int (x1 + 1))]) rfl (iinc_eq (by decide) _) (by decide) rfl dX10_paintWalls_37 rfl ?_
      refine x_goto 11 dX10_paintWalls_40 (by decide) ?_
      exact ht
    · replace ht := ht.2 c13
      refine x_aload_n (pc2 := 33) 0 (n := 0) (x := a0) rfl dX10_paintWalls_32 rfl ?_
      refine x_iload_n (pc2 := 34) 1 (n := 1) (x := x1) rfl dX10_paintWalls_33 rfl ?_
      refine x_callV (pc2 := 37) (As := [.int x1]) (rest := []) (b := a0) mv_X10_paint ml_X10_72 k2 rfl rfl (Nat.le_of_ble_eq_true rfl) hd1 dX10_paintWalls_34 rfl (ht.mono (fun r14 h15 p16 ht' => ?_))
      clear ht
      obtain ⟨rfl, ht⟩ := ht'
      show Ex G d mX10_paintWalls 37 [(0, .ref a0), (1, .int x1)] [] h15 Q
      refine x_iinc (pc2 := 40) 1 [1, 0] (i := 1) (x := x1) (v := (x1 + 1)) (lv2 := [(0, .ref a0), (1, .int (x1 + 1))]) rfl (iinc_eq (by decide) _) (by decide) rfl dX10_paintWalls_37 rfl ?_
      refine x_goto 11 dX10_paintWalls_40 (by decide) ?_
      exact ht
def T_X10_paint (G : GG) (d : Nat) (h : HP) (Q : Option Value → HP → Prop) (a0 : Nat) (x1 : Int32) : Prop :=
  Kd G h a0 10 ∧ ∃ q2, hR h a0 9 = some q2 ∧ Kd G h q2 6 ∧ ∃ q5, hR h q2 7 = some q5 ∧ Kd G h q5 20 ∧ vp_in x1 (hN h q5) ∧ ∃ q9, hR h q5 x1.toNatClampNeg = some q9 ∧ Kd G h q9 9 ∧ Cal G (d - 1) mX9_area [.ref q9] h (fun r11 h12 => ∃ v15, r11 = some (.int v15) ∧ Ex G d mX10_paint 21 [(0, .ref a0), (1, .int x1), (2, .ref q9), (3, .int v15), (4, .int (hI h12 q9 2))] [] h12 Q)
set_option maxRecDepth 20000 in
theorem t_X10_paint {G : GG} {d : Nat} {h : HP} {Q : Option Value → HP → Prop} {a0 : Nat} {x1 : Int32} (hd1 : 1 ≤ d) (ht : T_X10_paint G d h Q a0 x1) : Ex G d mX10_paint 0 [(0, .ref a0), (1, .int x1)] [] h Q := by
  unfold T_X10_paint at ht
  refine x_aload_n (pc2 := 1) 0 (n := 0) (x := a0) rfl dX10_paint_0 rfl ?_
  obtain ⟨k1, ht⟩ := ht
  obtain ⟨q2, e3, ht⟩ := ht
  refine y_getR (pc2 := 4) (κ := 10) (k := 9) fl_X10_33 (by decide) (by decide) k1 rfl e3 dX10_paint_1 rfl ?_
  obtain ⟨k4, ht⟩ := ht
  obtain ⟨q5, e6, ht⟩ := ht
  refine y_getR (pc2 := 7) (κ := 6) (k := 7) fl_X10_62 (by decide) (by decide) k4 rfl e6 dX10_paint_4 rfl ?_
  refine x_iload_n (pc2 := 8) 1 (n := 1) (x := x1) rfl dX10_paint_7 rfl ?_
  obtain ⟨k7, ht⟩ := ht
  obtain ⟨b8, ht⟩ := ht
  obtain ⟨q9, e10, ht⟩ := ht
  refine y_aaldR (pc2 := 9) (κ := 20) (by decide) k7 b8 e10 dX10_paint_8 rfl ?_
  refine x_astore_n (pc2 := 10) [1, 2, 0] (n := 2) (x := q9) (lv2 := [(0, .ref a0), (1, .int x1), (2, .ref q9)]) (by decide) rfl dX10_paint_9 rfl ?_
  refine x_aload_n (pc2 := 11) 2 (n := 2) (x := q9) rfl dX10_paint_10 rfl ?_
  obtain ⟨k14, ht⟩ := ht
  refine x_callV (pc2 := 14) (As := []) (rest := []) (b := q9) mv_X9_area ml_X10_76 k14 rfl rfl (Nat.le_of_ble_eq_true rfl) hd1 dX10_paint_11 rfl (ht.mono (fun r11 h12 p13 ht' => ?_))
  clear ht
  obtain ⟨v15, rfl, ht⟩ := ht'
  show Ex G d mX10_paint 14 [(0, .ref a0), (1, .int x1), (2, .ref q9)] [.int v15] h12 Q
  refine x_istore_n (pc2 := 15) [1, 2, 3, 0] (n := 3) (x := v15) (lv2 := [(0, .ref a0), (1, .int x1), (2, .ref q9), (3, .int v15)]) (by decide) rfl dX10_paint_14 rfl ?_
  refine x_aload_n (pc2 := 16) 2 (n := 2) (x := q9) rfl dX10_paint_15 rfl ?_
  refine y_getI (pc2 := 19) (κ := 9) (k := 2) fl_X10_80 (by decide) (by decide) (k14.up p13) rfl dX10_paint_16 rfl ?_
  refine x_istore (pc2 := 21) [1, 2, 3, 4, 0] (n := 4) (x := (hI h12 q9 2)) (lv2 := [(0, .ref a0), (1, .int x1), (2, .ref q9), (3, .int v15), (4, .int (hI h12 q9 2))]) (by decide) rfl dX10_paint_19 rfl ?_
  exact ht
theorem e_X10_paint {G : GG} {d : Nat} {h : HP} {Q : Option Value → HP → Prop} {a0 : Nat} {x1 : Int32} (hd1 : 1 ≤ d) (ht : T_X10_paint G d h Q a0 x1) : Cal G d mX10_paint [.ref a0, .int x1] h Q := cal_of rfl (Nat.le_of_ble_eq_true rfl) (t_X10_paint hd1 ht)
def T_X10_paint_21 (G : GG) (d : Nat) (h : HP) (Q : Option Value → HP → Prop) (a0 : Nat) (x1 : Int32) (a2 : Nat) (x3 : Int32) (x4 : Int32) : Prop :=
  Kd G h a2 9 ∧ (((hI h a2 4) ≤ x4 → Q none h) ∧ (¬ (hI h a2 4) ≤ x4 → Ex G d mX10_paint 36 [(0, .ref a0), (1, .int x1), (2, .ref a2), (3, .int x3), (4, .int x4), (5, .int (hI h a2 1))] [] h Q))
set_option maxRecDepth 20000 in
theorem t_X10_paint_21 {G : GG} {d : Nat} {h : HP} {Q : Option Value → HP → Prop} {a0 : Nat} {x1 : Int32} {a2 : Nat} {x3 : Int32} {x4 : Int32} (ht : T_X10_paint_21 G d h Q a0 x1 a2 x3 x4) : Ex G d mX10_paint 21 [(0, .ref a0), (1, .int x1), (2, .ref a2), (3, .int x3), (4, .int x4)] [] h Q := by
  unfold T_X10_paint_21 at ht
  refine x_iload (pc2 := 23) 4 (n := 4) (x := x4) rfl dX10_paint_21 rfl ?_
  refine x_aload_n (pc2 := 24) 2 (n := 2) (x := a2) rfl dX10_paint_23 rfl ?_
  obtain ⟨k1, ht⟩ := ht
  refine y_getI (pc2 := 27) (κ := 9) (k := 4) fl_X10_83 (by decide) (by decide) k1 rfl dX10_paint_24 rfl ?_
  refine x_icmp_ge (pc2 := 30) 107 dX10_paint_27 (by decide) rfl (fun c2 => ?_) (fun c2 => ?_)
  · replace ht := ht.1 c2
    exact x_retV rfl dX10_paint_107 ht
  · replace ht := ht.2 c2
    refine x_aload_n (pc2 := 31) 2 (n := 2) (x := a2) rfl dX10_paint_30 rfl ?_
    refine y_getI (pc2 := 34) (κ := 9) (k := 1) fl_X10_86 (by decide) (by decide) k1 rfl dX10_paint_31 rfl ?_
    refine x_istore (pc2 := 36) [1, 2, 3, 4, 5, 0] (n := 5) (x := (hI h a2 1)) (lv2 := [(0, .ref a0), (1, .int x1), (2, .ref a2), (3, .int x3), (4, .int x4), (5, .int (hI h a2 1))]) (by decide) rfl dX10_paint_34 rfl ?_
    exact ht
def T_X10_paint_36 (G : GG) (d : Nat) (h : HP) (Q : Option Value → HP → Prop) (a0 : Nat) (x1 : Int32) (a2 : Nat) (x3 : Int32) (x4 : Int32) (x5 : Int32) : Prop :=
  Kd G h a2 9 ∧ (((hI h a2 3) ≤ x5 → Ex G d mX10_paint 21 [(0, .ref a0), (1, .int x1), (2, .ref a2), (3, .int x3), (4, .int (x4 + 1))] [] h Q) ∧ (¬ (hI h a2 3) ≤ x5 → Kd G h a0 10 ∧ ∃ q4, hR h a0 5 = some q4 ∧ Kd G h q4 14 ∧ vp_in ((x4 * 40) + x5) (hN h q4) ∧ (((hI h q4 ((x4 * 40) + x5).toNatClampNeg) = (-1) → vp_in ((x4 * 40) + x5) (hN h q4) ∧ Ex G d mX10_paint 36 [(0, .ref a0), (1, .int x1), (2, .ref a2), (3, .int x3), (4, .int x4), (5, .int (x5 + 1))] [] (sI h q4 ((x4 * 40) + x5).toNatClampNeg x1) Q) ∧ (¬ (hI h q4 ((x4 * 40) + x5).toNatClampNeg) = (-1) → ∃ q10, hR h a0 9 = some q10 ∧ Kd G h q10 6 ∧ ∃ q13, hR h q10 7 = some q13 ∧ Kd G h q13 20 ∧ vp_in (hI h q4 ((x4 * 40) + x5).toNatClampNeg) (hN h q13) ∧ ∃ q17, hR h q13 (hI h q4 ((x4 * 40) + x5).toNatClampNeg).toNatClampNeg = some q17 ∧ Kd G h q17 9 ∧ Cal G (d - 1) mX9_area [.ref q17] h (fun r19 h20 => ∃ v23, r19 = some (.int v23) ∧ ((v23 ≤ x3 → Ex G d mX10_paint 36 [(0, .ref a0), (1, .int x1), (2, .ref a2), (3, .int x3), (4, .int x4), (5, .int (x5 + 1))] [] h20 Q) ∧ (¬ v23 ≤ x3 → ∃ q25, hR h20 a0 5 = some q25 ∧ Kd G h20 q25 14 ∧ vp_in ((x4 * 40) + x5) (hN h20 q25) ∧ Ex G d mX10_paint 36 [(0, .ref a0), (1, .int x1), (2, .ref a2), (3, .int x3), (4, .int x4), (5, .int (x5 + 1))] [] (sI h20 q25 ((x4 * 40) + x5).toNatClampNeg x1) Q)))))))
set_option maxRecDepth 20000 in
theorem t_X10_paint_36 {G : GG} {d : Nat} {h : HP} {Q : Option Value → HP → Prop} {a0 : Nat} {x1 : Int32} {a2 : Nat} {x3 : Int32} {x4 : Int32} {x5 : Int32} (hd1 : 1 ≤ d) (ht : T_X10_paint_36 G d h Q a0 x1 a2 x3 x4 x5) : Ex G d mX10_paint 36 [(0, .ref a0), (1, .int x1), (2, .ref a2), (3, .int x3), (4, .int x4), (5, .int x5)] [] h Q := by
  unfold T_X10_paint_36 at ht
  refine x_iload (pc2 := 38) 5 (n := 5) (x := x5) rfl dX10_paint_36 rfl ?_
  refine x_aload_n (pc2 := 39) 2 (n := 2) (x := a2) rfl dX10_paint_38 rfl ?_
  obtain ⟨k1, ht⟩ := ht
  refine y_getI (pc2 := 42) (κ := 9) (k := 3) fl_X10_89 (by decide) (by decide) k1 rfl dX10_paint_39 rfl ?_
  refine x_icmp_ge (pc2 := 45) 101 dX10_paint_42 (by decide) rfl (fun c2 => ?_) (fun c2 => ?_)
  · replace ht := ht.1 c2
    refine x_iinc (pc2 := 104) 4 [1, 2, 3, 4, 0, 5] (i := 4) (x := x4) (v := (x4 + 1)) (lv2 := [(0, .ref a0), (1, .int x1), (2, .ref a2), (3, .int x3), (4, .int (x4 + 1)), (5, .int x5)]) rfl (iinc_eq (by decide) _) (by decide) rfl dX10_paint_101 rfl ?_
    refine x_goto 21 dX10_paint_104 (by decide) ?_
    refine x_sub [0, 1, 2, 3, 4] (lv2 := [(0, .ref a0), (1, .int x1), (2, .ref a2), (3, .int x3), (4, .int (x4 + 1))]) rfl ?_
    exact ht
  · replace ht := ht.2 c2
    refine x_iload (pc2 := 47) 4 (n := 4) (x := x4) rfl dX10_paint_45 rfl ?_
    refine x_bipush (pc2 := 49) (v := 40) (by decide) dX10_paint_47 rfl ?_
    refine x_imul (pc2 := 50) dX10_paint_49 rfl ?_
    refine x_iload (pc2 := 52) 5 (n := 5) (x := x5) rfl dX10_paint_50 rfl ?_
    refine x_iadd (pc2 := 53) dX10_paint_52 rfl ?_
    refine x_istore (pc2 := 55) [1, 2, 3, 4, 5, 6, 0] (n := 6) (x := ((x4 * 40) + x5)) (lv2 := [(0, .ref a0), (1, .int x1), (2, .ref a2), (3, .int x3), (4, .int x4), (5, .int x5), (6, .int ((x4 * 40) + x5))]) (by decide) rfl dX10_paint_53 rfl ?_
    refine x_aload_n (pc2 := 56) 0 (n := 0) (x := a0) rfl dX10_paint_55 rfl ?_
    obtain ⟨k3, ht⟩ := ht
    obtain ⟨q4, e5, ht⟩ := ht
    refine y_getR (pc2 := 59) (κ := 10) (k := 5) fl_X10_21 (by decide) (by decide) k3 rfl e5 dX10_paint_56 rfl ?_
    refine x_iload (pc2 := 61) 6 (n := 6) (x := ((x4 * 40) + x5)) rfl dX10_paint_59 rfl ?_
    obtain ⟨k6, ht⟩ := ht
    obtain ⟨b7, ht⟩ := ht
    refine x_iald (pc2 := 62) k6 b7 dX10_paint_61 rfl ?_
    refine x_istore (pc2 := 64) [1, 2, 3, 4, 5, 6, 7, 0] (n := 7) (x := (hI h q4 ((x4 * 40) + x5).toNatClampNeg)) (lv2 := [(0, .ref a0), (1, .int x1), (2, .ref a2), (3, .int x3), (4, .int x4), (5, .int x5), (6, .int ((x4 * 40) + x5)), (7, .int (hI h q4 ((x4 * 40) + x5).toNatClampNeg))]) (by decide) rfl dX10_paint_62 rfl ?_
    refine x_iload (pc2 := 66) 7 (n := 7) (x := (hI h q4 ((x4 * 40) + x5).toNatClampNeg)) rfl dX10_paint_64 rfl ?_
    refine x_iconst (pc2 := 67) (v := (-1)) (by decide) dX10_paint_66 rfl ?_
    refine x_icmp_eq (pc2 := 70) 87 dX10_paint_67 (by decide) rfl (fun c8 => ?_) (fun c8 => ?_)
    · replace ht := ht.1 c8
      refine x_aload_n (pc2 := 88) 0 (n := 0) (x := a0) rfl dX10_paint_87 rfl ?_
      refine y_getR (pc2 := 91) (κ := 10) (k := 5) fl_X10_21 (by decide) (by decide) k3 rfl e5 dX10_paint_88 rfl ?_
      refine x_iload (pc2 := 93) 6 (n := 6) (x := ((x4 * 40) + x5)) rfl dX10_paint_91 rfl ?_
      refine x_iload_n (pc2 := 94) 1 (n := 1) (x := x1) rfl dX10_paint_93 rfl ?_
      obtain ⟨b9, ht⟩ := ht
      refine x_iast (pc2 := 95) k6 b9 dX10_paint_94 rfl ?_
      refine x_iinc (pc2 := 98) 5 [1, 2, 3, 4, 5, 0, 6, 7] (i := 5) (x := x5) (v := (x5 + 1)) (lv2 := [(0, .ref a0), (1, .int x1), (2, .ref a2), (3, .int x3), (4, .int x4), (5, .int (x5 + 1)), (6, .int ((x4 * 40) + x5)), (7, .int (hI h q4 ((x4 * 40) + x5).toNatClampNeg))]) rfl (iinc_eq (by decide) _) (by decide) rfl dX10_paint_95 rfl ?_
      refine x_goto 36 dX10_paint_98 (by decide) ?_
      refine x_sub [0, 1, 2, 3, 4, 5] (lv2 := [(0, .ref a0), (1, .int x1), (2, .ref a2), (3, .int x3), (4, .int x4), (5, .int (x5 + 1))]) rfl ?_
      exact ht
    · replace ht := ht.2 c8
      refine x_iload_n (pc2 := 71) 3 (n := 3) (x := x3) rfl dX10_paint_70 rfl ?_
      refine x_aload_n (pc2 := 72) 0 (n := 0) (x := a0) rfl dX10_paint_71 rfl ?_
      obtain ⟨q10, e11, ht⟩ := ht
      refine y_getR (pc2 := 75) (κ := 10) (k := 9) fl_X10_33 (by decide) (by decide) k3 rfl e11 dX10_paint_72 rfl ?_
      obtain ⟨k12, ht⟩ := ht
      obtain ⟨q13, e14, ht⟩ := ht
      refine y_getR (pc2 := 78) (κ := 6) (k := 7) fl_X10_62 (by decide) (by decide) k12 rfl e14 dX10_paint_75 rfl ?_
      refine x_iload (pc2 := 80) 7 (n := 7) (x := (hI h q4 ((x4 * 40) + x5).toNatClampNeg)) rfl dX10_paint_78 rfl ?_
      obtain ⟨k15, ht⟩ := ht
      obtain ⟨b16, ht⟩ := ht
      obtain ⟨q17, e18, ht⟩ := ht
      refine y_aaldR (pc2 := 81) (κ := 20) (by decide) k15 b16 e18 dX10_paint_80 rfl ?_
      obtain ⟨k22, ht⟩ := ht
      refine x_callV (pc2 := 84) (As := []) (rest := [.int x3]) (b := q17) mv_X9_area ml_X10_76 k22 rfl rfl (Nat.le_of_ble_eq_true rfl) hd1 dX10_paint_81 rfl (ht.mono (fun r19 h20 p21 ht' => ?_))
      clear ht
      obtain ⟨v23, rfl, ht⟩ := ht'
      show Ex G d mX10_paint 84 [(0, .ref a0), (1, .int x1), (2, .ref a2), (3, .int x3), (4, .int x4), (5, .int x5), (6, .int ((x4 * 40) + x5)), (7, .int (hI h q4 ((x4 * 40) + x5).toNatClampNeg))] [.int v23, .int x3] h20 Q
      refine x_icmp_ge (pc2 := 87) 95 dX10_paint_84 (by decide) rfl (fun c24 => ?_) (fun c24 => ?_)
      · replace ht := ht.1 c24
        refine x_iinc (pc2 := 98) 5 [1, 2, 3, 4, 5, 0, 6, 7] (i := 5) (x := x5) (v := (x5 + 1)) (lv2 := [(0, .ref a0), (1, .int x1), (2, .ref a2), (3, .int x3), (4, .int x4), (5, .int (x5 + 1)), (6, .int ((x4 * 40) + x5)), (7, .int (hI h q4 ((x4 * 40) + x5).toNatClampNeg))]) rfl (iinc_eq (by decide) _) (by decide) rfl dX10_paint_95 rfl ?_
        refine x_goto 36 dX10_paint_98 (by decide) ?_
        refine x_sub [0, 1, 2, 3, 4, 5] (lv2 := [(0, .ref a0), (1, .int x1), (2, .ref a2), (3, .int x3), (4, .int x4), (5, .int (x5 + 1))]) rfl ?_
        exact ht
      · replace ht := ht.2 c24
        refine x_aload_n (pc2 := 88) 0 (n := 0) (x := a0) rfl dX10_paint_87 rfl ?_
        obtain ⟨q25, e26, ht⟩ := ht
        refine y_getR (pc2 := 91) (κ := 10) (k := 5) fl_X10_21 (by decide) (by decide) (k3.up p21) rfl e26 dX10_paint_88 rfl ?_
        refine x_iload (pc2 := 93) 6 (n := 6) (x := ((x4 * 40) + x5)) rfl dX10_paint_91 rfl ?_
        refine x_iload_n (pc2 := 94) 1 (n := 1) (x := x1) rfl dX10_paint_93 rfl ?_
        obtain ⟨k27, ht⟩ := ht
        obtain ⟨b28, ht⟩ := ht
        refine x_iast (pc2 := 95) k27 b28 dX10_paint_94 rfl ?_
        refine x_iinc (pc2 := 98) 5 [1, 2, 3, 4, 5, 0, 6, 7] (i := 5) (x := x5) (v := (x5 + 1)) (lv2 := [(0, .ref a0), (1, .int x1), (2, .ref a2), (3, .int x3), (4, .int x4), (5, .int (x5 + 1)), (6, .int ((x4 * 40) + x5)), (7, .int (hI h q4 ((x4 * 40) + x5).toNatClampNeg))]) rfl (iinc_eq (by decide) _) (by decide) rfl dX10_paint_95 rfl ?_
        refine x_goto 36 dX10_paint_98 (by decide) ?_
        refine x_sub [0, 1, 2, 3, 4, 5] (lv2 := [(0, .ref a0), (1, .int x1), (2, .ref a2), (3, .int x3), (4, .int x4), (5, .int (x5 + 1))]) rfl ?_
        exact ht
def T_X10_join (G : GG) (d : Nat) (h : HP) (Q : Option Value → HP → Prop) (a0 : Nat) (x1 : Int32) (x2 : Int32) (x3 : Int32) : Prop :=
  vp_in x3 4 ∧ Kd G h a0 10 ∧ ∃ q3, hR h a0 9 = some q3 ∧ Kd G h q3 6 ∧ ∃ q6, hR h q3 5 = some q6 ∧ Kd G h q6 14 ∧ vp_in ((x2 * 40) + x1) (hN h q6) ∧ vp_in (((x2 * 40) + x1) + (bsd x3.toNatClampNeg)) (hN h q6) ∧ ((¬ (((hI h q6 ((x2 * 40) + x1).toNatClampNeg) ||| (hI h q6 (((x2 * 40) + x1) + (bsd x3.toNatClampNeg)).toNatClampNeg)) &&& 128) = 0 → Q none h) ∧ ((((hI h q6 ((x2 * 40) + x1).toNatClampNeg) ||| (hI h q6 (((x2 * 40) + x1) + (bsd x3.toNatClampNeg)).toNatClampNeg)) &&& 128) = 0 → Cal G (d - 1) mX10_passes [.ref a0, .int x1, .int x2, .int x3] h (fun r12 h13 => ∃ v15, r12 = some (.int v15) ∧ ((v15 = 0 → Q none h13) ∧ (¬ v15 = 0 → ∃ q17, hR h13 a0 6 = some q17 ∧ Kd G h13 q17 14 ∧ vp_in ((x2 * 40) + x1) (hN h13 q17) ∧ vp_in ((x2 * 40) + x1) (hN h13 q17) ∧ ∀ h22, h22 = (sI h13 q17 ((x2 * 40) + x1).toNatClampNeg ((hI h13 q17 ((x2 * 40) + x1).toNatClampNeg) ||| (1 <<< (x3 &&& 31)))) → vp_in (((x2 * 40) + x1) + (bsd x3.toNatClampNeg)) (hN h22 q17) ∧ vp_in (((x2 * 40) + x1) + (bsd x3.toNatClampNeg)) (hN h22 q17) ∧ ∀ h27, h27 = (sI h22 q17 (((x2 * 40) + x1) + (bsd x3.toNatClampNeg)).toNatClampNeg ((hI h22 q17 (((x2 * 40) + x1) + (bsd x3.toNatClampNeg)).toNatClampNeg) ||| (1 <<< ((irm (x3 + 2) 4) &&& 31)))) → Q none h27)))))
set_option maxRecDepth 20000 in
theorem t_X10_join {G : GG} {d : Nat} {h : HP} {Q : Option Value → HP → Prop} {a0 : Nat} {x1 : Int32} {x2 : Int32} {x3 : Int32} (hd1 : 1 ≤ d) (ht : T_X10_join G d h Q a0 x1 x2 x3) : Ex G d mX10_join 0 [(0, .ref a0), (1, .int x1), (2, .int x2), (3, .int x3)] [] h Q := by
  unfold T_X10_join at ht
  refine x_iload_n (pc2 := 1) 2 (n := 2) (x := x2) rfl dX10_join_0 rfl ?_
  refine x_bipush (pc2 := 3) (v := 40) (by decide) dX10_join_1 rfl ?_
  refine x_imul (pc2 := 4) dX10_join_3 rfl ?_
  refine x_iload_n (pc2 := 5) 1 (n := 1) (x := x1) rfl dX10_join_4 rfl ?_
  refine x_iadd (pc2 := 6) dX10_join_5 rfl ?_
  refine x_istore (pc2 := 8) [1, 2, 3, 4, 0] (n := 4) (x := ((x2 * 40) + x1)) (lv2 := [(0, .ref a0), (1, .int x1), (2, .int x2), (3, .int x3), (4, .int ((x2 * 40) + x1))]) (by decide) rfl dX10_join_6 rfl ?_
  refine x_iload (pc2 := 10) 4 (n := 4) (x := ((x2 * 40) + x1)) rfl dX10_join_8 rfl ?_
  refine x_getBeside (pc2 := 13) bs_X10_92 dX10_join_10 rfl ?_
  refine x_iload_n (pc2 := 14) 3 (n := 3) (x := x3) rfl dX10_join_13 rfl ?_
  obtain ⟨b1, ht⟩ := ht
  refine x_beside (pc2 := 15) b1 dX10_join_14 rfl ?_
  refine x_iadd (pc2 := 16) dX10_join_15 rfl ?_
  refine x_istore (pc2 := 18) [1, 2, 3, 4, 5, 0] (n := 5) (x := (((x2 * 40) + x1) + (bsd x3.toNatClampNeg))) (lv2 := [(0, .ref a0), (1, .int x1), (2, .int x2), (3, .int x3), (4, .int ((x2 * 40) + x1)), (5, .int (((x2 * 40) + x1) + (bsd x3.toNatClampNeg)))]) (by decide) rfl dX10_join_16 rfl ?_
  refine x_aload_n (pc2 := 19) 0 (n := 0) (x := a0) rfl dX10_join_18 rfl ?_
  obtain ⟨k2, ht⟩ := ht
  obtain ⟨q3, e4, ht⟩ := ht
  refine y_getR (pc2 := 22) (κ := 10) (k := 9) fl_X10_33 (by decide) (by decide) k2 rfl e4 dX10_join_19 rfl ?_
  obtain ⟨k5, ht⟩ := ht
  obtain ⟨q6, e7, ht⟩ := ht
  refine y_getR (pc2 := 25) (κ := 6) (k := 5) fl_X10_95 (by decide) (by decide) k5 rfl e7 dX10_join_22 rfl ?_
  refine x_iload (pc2 := 27) 4 (n := 4) (x := ((x2 * 40) + x1)) rfl dX10_join_25 rfl ?_
  obtain ⟨k8, ht⟩ := ht
  obtain ⟨b9, ht⟩ := ht
  refine x_iald (pc2 := 28) k8 b9 dX10_join_27 rfl ?_
  refine x_aload_n (pc2 := 29) 0 (n := 0) (x := a0) rfl dX10_join_28 rfl ?_
  refine y_getR (pc2 := 32) (κ := 10) (k := 9) fl_X10_33 (by decide) (by decide) k2 rfl e4 dX10_join_29 rfl ?_
  refine y_getR (pc2 := 35) (κ := 6) (k := 5) fl_X10_95 (by decide) (by decide) k5 rfl e7 dX10_join_32 rfl ?_
  refine x_iload (pc2 := 37) 5 (n := 5) (x := (((x2 * 40) + x1) + (bsd x3.toNatClampNeg))) rfl dX10_join_35 rfl ?_
  obtain ⟨b10, ht⟩ := ht
  refine x_iald (pc2 := 38) k8 b10 dX10_join_37 rfl ?_
  refine x_ior (pc2 := 39) dX10_join_38 rfl ?_
  refine x_sipush (pc2 := 42) (v := 128) (by decide) dX10_join_39 rfl ?_
  refine x_iand (pc2 := 43) dX10_join_42 rfl ?_
  refine y_if_ne (pc2 := 46) 86 dX10_join_43 (by decide) rfl (fun c11 => ?_) (fun c11 => ?_)
  · replace ht := ht.1 c11
    exact x_retV rfl dX10_join_86 ht
  · replace ht := ht.2 c11
    refine x_aload_n (pc2 := 47) 0 (n := 0) (x := a0) rfl dX10_join_46 rfl ?_
    refine x_iload_n (pc2 := 48) 1 (n := 1) (x := x1) rfl dX10_join_47 rfl ?_
    refine x_iload_n (pc2 := 49) 2 (n := 2) (x := x2) rfl dX10_join_48 rfl ?_
    refine x_iload_n (pc2 := 50) 3 (n := 3) (x := x3) rfl dX10_join_49 rfl ?_
    refine x_callV (pc2 := 53) (As := [.int x1, .int x2, .int x3]) (rest := []) (b := a0) mv_X10_passes ml_X10_98 k2 rfl rfl (Nat.le_of_ble_eq_true rfl) hd1 dX10_join_50 rfl (ht.mono (fun r12 h13 p14 ht' => ?_))
    clear ht
    obtain ⟨v15, rfl, ht⟩ := ht'
    show Ex G d mX10_join 53 [(0, .ref a0), (1, .int x1), (2, .int x2), (3, .int x3), (4, .int ((x2 * 40) + x1)), (5, .int (((x2 * 40) + x1) + (bsd x3.toNatClampNeg)))] [.int v15] h13 Q
    refine x_if_eq (pc2 := 56) 86 dX10_join_53 (by decide) rfl (fun c16 => ?_) (fun c16 => ?_)
    · replace ht := ht.1 c16
      exact x_retV rfl dX10_join_86 ht
    · replace ht := ht.2 c16
      refine x_aload_n (pc2 := 57) 0 (n := 0) (x := a0) rfl dX10_join_56 rfl ?_
      obtain ⟨q17, e18, ht⟩ := ht
      refine y_getR (pc2 := 60) (κ := 10) (k := 6) fl_X10_24 (by decide) (by decide) (k2.up p14) rfl e18 dX10_join_57 rfl ?_
      refine x_iload (pc2 := 62) 4 (n := 4) (x := ((x2 * 40) + x1)) rfl dX10_join_60 rfl ?_
      refine x_dup2 (pc2 := 63) rfl rfl dX10_join_62 rfl ?_
      obtain ⟨k19, ht⟩ := ht
      obtain ⟨b20, ht⟩ := ht
      refine x_iald (pc2 := 64) k19 b20 dX10_join_63 rfl ?_
      refine x_iconst (pc2 := 65) (v := 1) (by decide) dX10_join_64 rfl ?_
      refine x_iload_n (pc2 := 66) 3 (n := 3) (x := x3) rfl dX10_join_65 rfl ?_
      refine x_ishl (pc2 := 67) dX10_join_66 rfl ?_
      refine x_ior (pc2 := 68) dX10_join_67 rfl ?_
      obtain ⟨b21, ht⟩ := ht
      refine x_iast (pc2 := 69) k19 b21 dX10_join_68 rfl ?_
      refine nm_I (fun h22 e23 p24 => ?_)
      replace ht := ht h22 e23
      refine x_aload_n (pc2 := 70) 0 (n := 0) (x := a0) rfl dX10_join_69 rfl ?_
      refine y_getR (pc2 := 73) (κ := 10) (k := 6) fl_X10_24 (by decide) (by decide) ((k2.up p14).up p24) rfl (by rw [e23]; exact ((hR_sI _ _ _ _ _ _).trans e18)) dX10_join_70 rfl ?_
      refine x_iload (pc2 := 75) 5 (n := 5) (x := (((x2 * 40) + x1) + (bsd x3.toNatClampNeg))) rfl dX10_join_73 rfl ?_
      refine x_dup2 (pc2 := 76) rfl rfl dX10_join_75 rfl ?_
      obtain ⟨b25, ht⟩ := ht
      refine x_iald (pc2 := 77) (k19.up p24) b25 dX10_join_76 rfl ?_
      refine x_iconst (pc2 := 78) (v := 1) (by decide) dX10_join_77 rfl ?_
      refine x_iload_n (pc2 := 79) 3 (n := 3) (x := x3) rfl dX10_join_78 rfl ?_
      refine x_iconst (pc2 := 80) (v := 2) (by decide) dX10_join_79 rfl ?_
      refine x_iadd (pc2 := 81) dX10_join_80 rfl ?_
      refine x_iconst (pc2 := 82) (v := 4) (by decide) dX10_join_81 rfl ?_
      refine y_irem (pc2 := 83) (by decide) dX10_join_82 rfl ?_
      refine x_ishl (pc2 := 84) dX10_join_83 rfl ?_
      refine x_ior (pc2 := 85) dX10_join_84 rfl ?_
      obtain ⟨b26, ht⟩ := ht
      refine x_iast (pc2 := 86) (k19.up p24) b26 dX10_join_85 rfl ?_
      refine nm_I (fun h27 e28 p29 => ?_)
      replace ht := ht h27 e28
      exact x_retV rfl dX10_join_86 ht
theorem e_X10_join {G : GG} {d : Nat} {h : HP} {Q : Option Value → HP → Prop} {a0 : Nat} {x1 : Int32} {x2 : Int32} {x3 : Int32} (hd1 : 1 ≤ d) (ht : T_X10_join G d h Q a0 x1 x2 x3) : Cal G d mX10_join [.ref a0, .int x1, .int x2, .int x3] h Q := cal_of rfl (Nat.le_of_ble_eq_true rfl) (t_X10_join hd1 ht)
def T_X10_passes (G : GG) (d : Nat) (h : HP) (Q : Option Value → HP → Prop) (a0 : Nat) (x1 : Int32) (x2 : Int32) (x3 : Int32) : Prop :=
  Kd G h a0 10 ∧ ∃ q2, hR h a0 5 = some q2 ∧ Kd G h q2 14 ∧ vp_in ((x2 * 40) + x1) (hN h q2) ∧ vp_in x3 4 ∧ vp_in (((x2 * 40) + x1) + (bsd x3.toNatClampNeg)) (hN h q2) ∧ ((¬ (hI h q2 ((x2 * 40) + x1).toNatClampNeg) = (hI h q2 (((x2 * 40) + x1) + (bsd x3.toNatClampNeg)).toNatClampNeg) → (((hI h q2 ((x2 * 40) + x1).toNatClampNeg) = (-1) → Ex G d mX10_passes 84 [(0, .ref a0), (1, .int x1), (2, .int x2), (3, .int x3), (4, .int (hI h q2 ((x2 * 40) + x1).toNatClampNeg)), (5, .int (hI h q2 (((x2 * 40) + x1) + (bsd x3.toNatClampNeg)).toNatClampNeg)), (6, .int 0)] [.int (hI h q2 (((x2 * 40) + x1) + (bsd x3.toNatClampNeg)).toNatClampNeg)] h Q) ∧ (¬ (hI h q2 ((x2 * 40) + x1).toNatClampNeg) = (-1) → ∃ q11, hR h a0 9 = some q11 ∧ Kd G h q11 6 ∧ ∃ q14, hR h q11 7 = some q14 ∧ Kd G h q14 20 ∧ vp_in (hI h q2 ((x2 * 40) + x1).toNatClampNeg) (hN h q14) ∧ ∃ q18, hR h q14 (hI h q2 ((x2 * 40) + x1).toNatClampNeg).toNatClampNeg = some q18 ∧ Kd G h q18 9 ∧ ((¬ (hI h q18 6) = (hI h q2 (((x2 * 40) + x1) + (bsd x3.toNatClampNeg)).toNatClampNeg) → Ex G d mX10_passes 84 [(0, .ref a0), (1, .int x1), (2, .int x2), (3, .int x3), (4, .int (hI h q2 ((x2 * 40) + x1).toNatClampNeg)), (5, .int (hI h q2 (((x2 * 40) + x1) + (bsd x3.toNatClampNeg)).toNatClampNeg)), (6, .int 0)] [.int (hI h q2 (((x2 * 40) + x1) + (bsd x3.toNatClampNeg)).toNatClampNeg)] h Q) ∧ ((hI h q18 6) = (hI h q2 (((x2 * 40) + x1) + (bsd x3.toNatClampNeg)).toNatClampNeg) → Ex G d mX10_passes 84 [(0, .ref a0), (1, .int x1), (2, .int x2), (3, .int x3), (4, .int (hI h q2 ((x2 * 40) + x1).toNatClampNeg)), (5, .int (hI h q2 (((x2 * 40) + x1) + (bsd x3.toNatClampNeg)).toNatClampNeg)), (6, .int 1)] [.int (hI h q2 ((x2 * 40) + x1).toNatClampNeg)] h Q))))) ∧ ((hI h q2 ((x2 * 40) + x1).toNatClampNeg) = (hI h q2 (((x2 * 40) + x1) + (bsd x3.toNatClampNeg)).toNatClampNeg) → Q (some (.int 1)) h))
set_option maxRecDepth 20000 in
theorem t_X10_passes {G : GG} {d : Nat} {h : HP} {Q : Option Value → HP → Prop} {a0 : Nat} {x1 : Int32} {x2 : Int32} {x3 : Int32} (ht : T_X10_passes G d h Q a0 x1 x2 x3) : Ex G d mX10_passes 0 [(0, .ref a0), (1, .int x1), (2, .int x2), (3, .int x3)] [] h Q := by
  unfold T_X10_passes at ht
  refine x_aload_n (pc2 := 1) 0 (n := 0) (x := a0) rfl dX10_passes_0 rfl ?_
  obtain ⟨k1, ht⟩ := ht
  obtain ⟨q2, e3, ht⟩ := ht
  refine y_getR (pc2 := 4) (κ := 10) (k := 5) fl_X10_21 (by decide) (by decide) k1 rfl e3 dX10_passes_1 rfl ?_
  refine x_iload_n (pc2 := 5) 2 (n := 2) (x := x2) rfl dX10_passes_4 rfl ?_
  refine x_bipush (pc2 := 7) (v := 40) (by decide) dX10_passes_5 rfl ?_
  refine x_imul (pc2 := 8) dX10_passes_7 rfl ?_
  refine x_iload_n (pc2 := 9) 1 (n := 1) (x := x1) rfl dX10_passes_8 rfl ?_
  refine x_iadd (pc2 := 10) dX10_passes_9 rfl ?_
  obtain ⟨k4, ht⟩ := ht
  obtain ⟨b5, ht⟩ := ht
  refine x_iald (pc2 := 11) k4 b5 dX10_passes_10 rfl ?_
  refine x_istore (pc2 := 13) [1, 2, 3, 4, 0] (n := 4) (x := (hI h q2 ((x2 * 40) + x1).toNatClampNeg)) (lv2 := [(0, .ref a0), (1, .int x1), (2, .int x2), (3, .int x3), (4, .int (hI h q2 ((x2 * 40) + x1).toNatClampNeg))]) (by decide) rfl dX10_passes_11 rfl ?_
  refine x_aload_n (pc2 := 14) 0 (n := 0) (x := a0) rfl dX10_passes_13 rfl ?_
  refine y_getR (pc2 := 17) (κ := 10) (k := 5) fl_X10_21 (by decide) (by decide) k1 rfl e3 dX10_passes_14 rfl ?_
  refine x_iload_n (pc2 := 18) 2 (n := 2) (x := x2) rfl dX10_passes_17 rfl ?_
  refine x_bipush (pc2 := 20) (v := 40) (by decide) dX10_passes_18 rfl ?_
  refine x_imul (pc2 := 21) dX10_passes_20 rfl ?_
  refine x_iload_n (pc2 := 22) 1 (n := 1) (x := x1) rfl dX10_passes_21 rfl ?_
  refine x_iadd (pc2 := 23) dX10_passes_22 rfl ?_
  refine x_getBeside (pc2 := 26) bs_X10_92 dX10_passes_23 rfl ?_
  refine x_iload_n (pc2 := 27) 3 (n := 3) (x := x3) rfl dX10_passes_26 rfl ?_
  obtain ⟨b6, ht⟩ := ht
  refine x_beside (pc2 := 28) b6 dX10_passes_27 rfl ?_
  refine x_iadd (pc2 := 29) dX10_passes_28 rfl ?_
  obtain ⟨b7, ht⟩ := ht
  refine x_iald (pc2 := 30) k4 b7 dX10_passes_29 rfl ?_
  refine x_istore (pc2 := 32) [1, 2, 3, 4, 5, 0] (n := 5) (x := (hI h q2 (((x2 * 40) + x1) + (bsd x3.toNatClampNeg)).toNatClampNeg)) (lv2 := [(0, .ref a0), (1, .int x1), (2, .int x2), (3, .int x3), (4, .int (hI h q2 ((x2 * 40) + x1).toNatClampNeg)), (5, .int (hI h q2 (((x2 * 40) + x1) + (bsd x3.toNatClampNeg)).toNatClampNeg))]) (by decide) rfl dX10_passes_30 rfl ?_
  refine x_iload (pc2 := 34) 4 (n := 4) (x := (hI h q2 ((x2 * 40) + x1).toNatClampNeg)) rfl dX10_passes_32 rfl ?_
  refine x_iload (pc2 := 36) 5 (n := 5) (x := (hI h q2 (((x2 * 40) + x1) + (bsd x3.toNatClampNeg)).toNatClampNeg)) rfl dX10_passes_34 rfl ?_
  refine y_icmp_ne (pc2 := 39) 41 dX10_passes_36 (by decide) rfl (fun c8 => ?_) (fun c8 => ?_)
  · replace ht := ht.1 c8
    refine x_iload (pc2 := 43) 4 (n := 4) (x := (hI h q2 ((x2 * 40) + x1).toNatClampNeg)) rfl dX10_passes_41 rfl ?_
    refine x_iconst (pc2 := 44) (v := (-1)) (by decide) dX10_passes_43 rfl ?_
    refine x_icmp_eq (pc2 := 47) 69 dX10_passes_44 (by decide) rfl (fun c9 => ?_) (fun c9 => ?_)
    · replace ht := ht.1 c9
      refine x_iconst (pc2 := 70) (v := 0) (by decide) dX10_passes_69 rfl ?_
      refine x_istore (pc2 := 72) [1, 2, 3, 4, 5, 6, 0] (n := 6) (x := 0) (lv2 := [(0, .ref a0), (1, .int x1), (2, .int x2), (3, .int x3), (4, .int (hI h q2 ((x2 * 40) + x1).toNatClampNeg)), (5, .int (hI h q2 (((x2 * 40) + x1) + (bsd x3.toNatClampNeg)).toNatClampNeg)), (6, .int 0)]) (by decide) rfl dX10_passes_70 rfl ?_
      refine x_iload (pc2 := 74) 6 (n := 6) (x := 0) rfl dX10_passes_72 rfl ?_
      refine x_if_eq (pc2 := 77) 82 dX10_passes_74 (by decide) rfl (fun _ => ?_) (fun c10 => absurd c10 (by decide))
      refine x_iload (pc2 := 84) 5 (n := 5) (x := (hI h q2 (((x2 * 40) + x1) + (bsd x3.toNatClampNeg)).toNatClampNeg)) rfl dX10_passes_82 rfl ?_
      exact ht
    · replace ht := ht.2 c9
      refine x_aload_n (pc2 := 48) 0 (n := 0) (x := a0) rfl dX10_passes_47 rfl ?_
      obtain ⟨q11, e12, ht⟩ := ht
      refine y_getR (pc2 := 51) (κ := 10) (k := 9) fl_X10_33 (by decide) (by decide) k1 rfl e12 dX10_passes_48 rfl ?_
      obtain ⟨k13, ht⟩ := ht
      obtain ⟨q14, e15, ht⟩ := ht
      refine y_getR (pc2 := 54) (κ := 6) (k := 7) fl_X10_62 (by decide) (by decide) k13 rfl e15 dX10_passes_51 rfl ?_
      refine x_iload (pc2 := 56) 4 (n := 4) (x := (hI h q2 ((x2 * 40) + x1).toNatClampNeg)) rfl dX10_passes_54 rfl ?_
      obtain ⟨k16, ht⟩ := ht
      obtain ⟨b17, ht⟩ := ht
      obtain ⟨q18, e19, ht⟩ := ht
      refine y_aaldR (pc2 := 57) (κ := 20) (by decide) k16 b17 e19 dX10_passes_56 rfl ?_
      obtain ⟨k20, ht⟩ := ht
      refine y_getI (pc2 := 60) (κ := 9) (k := 6) fl_X10_102 (by decide) (by decide) k20 rfl dX10_passes_57 rfl ?_
      refine x_iload (pc2 := 62) 5 (n := 5) (x := (hI h q2 (((x2 * 40) + x1) + (bsd x3.toNatClampNeg)).toNatClampNeg)) rfl dX10_passes_60 rfl ?_
      refine y_icmp_ne (pc2 := 65) 69 dX10_passes_62 (by decide) rfl (fun c21 => ?_) (fun c21 => ?_)
      · replace ht := ht.1 c21
        refine x_iconst (pc2 := 70) (v := 0) (by decide) dX10_passes_69 rfl ?_
        refine x_istore (pc2 := 72) [1, 2, 3, 4, 5, 6, 0] (n := 6) (x := 0) (lv2 := [(0, .ref a0), (1, .int x1), (2, .int x2), (3, .int x3), (4, .int (hI h q2 ((x2 * 40) + x1).toNatClampNeg)), (5, .int (hI h q2 (((x2 * 40) + x1) + (bsd x3.toNatClampNeg)).toNatClampNeg)), (6, .int 0)]) (by decide) rfl dX10_passes_70 rfl ?_
        refine x_iload (pc2 := 74) 6 (n := 6) (x := 0) rfl dX10_passes_72 rfl ?_
        refine x_if_eq (pc2 := 77) 82 dX10_passes_74 (by decide) rfl (fun _ => ?_) (fun c22 => absurd c22 (by decide))
        refine x_iload (pc2 := 84) 5 (n := 5) (x := (hI h q2 (((x2 * 40) + x1) + (bsd x3.toNatClampNeg)).toNatClampNeg)) rfl dX10_passes_82 rfl ?_
        exact ht
      · replace ht := ht.2 c21
        refine x_iconst (pc2 := 66) (v := 1) (by decide) dX10_passes_65 rfl ?_
        refine x_goto 70 dX10_passes_66 (by decide) ?_
        refine x_istore (pc2 := 72) [1, 2, 3, 4, 5, 6, 0] (n := 6) (x := 1) (lv2 := [(0, .ref a0), (1, .int x1), (2, .int x2), (3, .int x3), (4, .int (hI h q2 ((x2 * 40) + x1).toNatClampNeg)), (5, .int (hI h q2 (((x2 * 40) + x1) + (bsd x3.toNatClampNeg)).toNatClampNeg)), (6, .int 1)]) (by decide) rfl dX10_passes_70 rfl ?_
        refine x_iload (pc2 := 74) 6 (n := 6) (x := 1) rfl dX10_passes_72 rfl ?_
        refine x_if_eq (pc2 := 77) 82 dX10_passes_74 (by decide) rfl (fun c23 => absurd c23 (by decide)) (fun _ => ?_)
        refine x_iload (pc2 := 79) 4 (n := 4) (x := (hI h q2 ((x2 * 40) + x1).toNatClampNeg)) rfl dX10_passes_77 rfl ?_
        refine x_goto 84 dX10_passes_79 (by decide) ?_
        exact ht
  · replace ht := ht.2 c8
    refine x_iconst (pc2 := 40) (v := 1) (by decide) dX10_passes_39 rfl ?_
    exact x_retZ rfl (Or.inr rfl) dX10_passes_40 ht
theorem e_X10_passes {G : GG} {d : Nat} {h : HP} {Q : Option Value → HP → Prop} {a0 : Nat} {x1 : Int32} {x2 : Int32} {x3 : Int32} (ht : T_X10_passes G d h Q a0 x1 x2 x3) : Cal G d mX10_passes [.ref a0, .int x1, .int x2, .int x3] h Q := cal_of rfl (Nat.le_of_ble_eq_true rfl) (t_X10_passes ht)
def T_X10_passes_84 (G : GG) (d : Nat) (h : HP) (Q : Option Value → HP → Prop) (a0 : Nat) (x1 : Int32) (x2 : Int32) (x3 : Int32) (x4 : Int32) (x5 : Int32) (x6 : Int32) (sx0 : Int32) : Prop :=
  ((¬ sx0 = (-1) → Kd G h a0 10 ∧ ∃ q3, hR h a0 9 = some q3 ∧ Kd G h q3 6 ∧ ∃ q6, hR h q3 7 = some q6 ∧ Kd G h q6 20 ∧ vp_in sx0 (hN h q6) ∧ ∃ q10, hR h q6 sx0.toNatClampNeg = some q10 ∧ ((x6 = 0 → Ex G d mX10_passes 120 [(0, .ref a0), (1, .int x1), (2, .int x2), (3, .int x3), (4, .int x4), (5, .int x5), (6, .int x6), (7, .int sx0), (8, .ref q10)] [.int (irm (x3 + 2) 4)] h Q) ∧ (¬ x6 = 0 → Ex G d mX10_passes 120 [(0, .ref a0), (1, .int x1), (2, .int x2), (3, .int x3), (4, .int x4), (5, .int x5), (6, .int x6), (7, .int sx0), (8, .ref q10)] [.int x3] h Q))) ∧ (sx0 = (-1) → Q (some (.int 0)) h))
set_option maxRecDepth 20000 in
theorem t_X10_passes_84 {G : GG} {d : Nat} {h : HP} {Q : Option Value → HP → Prop} {a0 : Nat} {x1 : Int32} {x2 : Int32} {x3 : Int32} {x4 : Int32} {x5 : Int32} {x6 : Int32} {sx0 : Int32} (ht : T_X10_passes_84 G d h Q a0 x1 x2 x3 x4 x5 x6 sx0) : Ex G d mX10_passes 84 [(0, .ref a0), (1, .int x1), (2, .int x2), (3, .int x3), (4, .int x4), (5, .int x5), (6, .int x6)] [.int sx0] h Q := by
  unfold T_X10_passes_84 at ht
  refine x_istore (pc2 := 86) [1, 2, 3, 4, 5, 6, 7, 0] (n := 7) (x := sx0) (lv2 := [(0, .ref a0), (1, .int x1), (2, .int x2), (3, .int x3), (4, .int x4), (5, .int x5), (6, .int x6), (7, .int sx0)]) (by decide) rfl dX10_passes_84 rfl ?_
  refine x_iload (pc2 := 88) 7 (n := 7) (x := sx0) rfl dX10_passes_86 rfl ?_
  refine x_iconst (pc2 := 89) (v := (-1)) (by decide) dX10_passes_88 rfl ?_
  refine y_icmp_ne (pc2 := 92) 94 dX10_passes_89 (by decide) rfl (fun c1 => ?_) (fun c1 => ?_)
  · replace ht := ht.1 c1
    refine x_aload_n (pc2 := 95) 0 (n := 0) (x := a0) rfl dX10_passes_94 rfl ?_
    obtain ⟨k2, ht⟩ := ht
    obtain ⟨q3, e4, ht⟩ := ht
    refine y_getR (pc2 := 98) (κ := 10) (k := 9) fl_X10_33 (by decide) (by decide) k2 rfl e4 dX10_passes_95 rfl ?_
    obtain ⟨k5, ht⟩ := ht
    obtain ⟨q6, e7, ht⟩ := ht
    refine y_getR (pc2 := 101) (κ := 6) (k := 7) fl_X10_62 (by decide) (by decide) k5 rfl e7 dX10_passes_98 rfl ?_
    refine x_iload (pc2 := 103) 7 (n := 7) (x := sx0) rfl dX10_passes_101 rfl ?_
    obtain ⟨k8, ht⟩ := ht
    obtain ⟨b9, ht⟩ := ht
    obtain ⟨q10, e11, ht⟩ := ht
    refine y_aaldR (pc2 := 104) (κ := 20) (by decide) k8 b9 e11 dX10_passes_103 rfl ?_
    refine x_astore (pc2 := 106) [1, 2, 3, 4, 5, 6, 7, 8, 0] (n := 8) (x := q10) (lv2 := [(0, .ref a0), (1, .int x1), (2, .int x2), (3, .int x3), (4, .int x4), (5, .int x5), (6, .int x6), (7, .int sx0), (8, .ref q10)]) (by decide) rfl dX10_passes_104 rfl ?_
    refine x_iload (pc2 := 108) 6 (n := 6) (x := x6) rfl dX10_passes_106 rfl ?_
    refine x_if_eq (pc2 := 111) 115 dX10_passes_108 (by decide) rfl (fun c12 => ?_) (fun c12 => ?_)
    · replace ht := ht.1 c12
      refine x_iload_n (pc2 := 116) 3 (n := 3) (x := x3) rfl dX10_passes_115 rfl ?_
      refine x_iconst (pc2 := 117) (v := 2) (by decide) dX10_passes_116 rfl ?_
      refine x_iadd (pc2 := 118) dX10_passes_117 rfl ?_
      refine x_iconst (pc2 := 119) (v := 4) (by decide) dX10_passes_118 rfl ?_
      refine y_irem (pc2 := 120) (by decide) dX10_passes_119 rfl ?_
      exact ht
    · replace ht := ht.2 c12
      refine x_iload_n (pc2 := 112) 3 (n := 3) (x := x3) rfl dX10_passes_111 rfl ?_
      refine x_goto 120 dX10_passes_112 (by decide) ?_
      exact ht
  · replace ht := ht.2 c1
    refine x_iconst (pc2 := 93) (v := 0) (by decide) dX10_passes_92 rfl ?_
    exact x_retZ rfl (Or.inl rfl) dX10_passes_93 ht
def T_X10_passes_120 (G : GG) (d : Nat) (h : HP) (Q : Option Value → HP → Prop) (a0 : Nat) (x1 : Int32) (x2 : Int32) (x3 : Int32) (x4 : Int32) (x5 : Int32) (x6 : Int32) (x7 : Int32) (a8 : Nat) (sx0 : Int32) : Prop :=
  ((¬ (irm x3 2) = 0 → Kd G h a8 9 ∧ Ex G d mX10_passes 145 [(0, .ref a0), (1, .int x1), (2, .int x2), (3, .int x3), (4, .int x4), (5, .int x5), (6, .int x6), (7, .int x7), (8, .ref a8), (9, .int sx0)] [.int (x2 - (hI h a8 2))] h Q) ∧ ((irm x3 2) = 0 → Kd G h a8 9 ∧ Ex G d mX10_passes 145 [(0, .ref a0), (1, .int x1), (2, .int x2), (3, .int x3), (4, .int x4), (5, .int x5), (6, .int x6), (7, .int x7), (8, .ref a8), (9, .int sx0)] [.int (x1 - (hI h a8 1))] h Q))
set_option maxRecDepth 20000 in
theorem t_X10_passes_120 {G : GG} {d : Nat} {h : HP} {Q : Option Value → HP → Prop} {a0 : Nat} {x1 : Int32} {x2 : Int32} {x3 : Int32} {x4 : Int32} {x5 : Int32} {x6 : Int32} {x7 : Int32} {a8 : Nat} {sx0 : Int32} (ht : T_X10_passes_120 G d h Q a0 x1 x2 x3 x4 x5 x6 x7 a8 sx0) : Ex G d mX10_passes 120 [(0, .ref a0), (1, .int x1), (2, .int x2), (3, .int x3), (4, .int x4), (5, .int x5), (6, .int x6), (7, .int x7), (8, .ref a8)] [.int sx0] h Q := by
  unfold T_X10_passes_120 at ht
  refine x_istore (pc2 := 122) [1, 2, 3, 4, 5, 6, 7, 8, 9, 0] (n := 9) (x := sx0) (lv2 := [(0, .ref a0), (1, .int x1), (2, .int x2), (3, .int x3), (4, .int x4), (5, .int x5), (6, .int x6), (7, .int x7), (8, .ref a8), (9, .int sx0)]) (by decide) rfl dX10_passes_120 rfl ?_
  refine x_iload_n (pc2 := 123) 3 (n := 3) (x := x3) rfl dX10_passes_122 rfl ?_
  refine x_iconst (pc2 := 124) (v := 2) (by decide) dX10_passes_123 rfl ?_
  refine y_irem (pc2 := 125) (by decide) dX10_passes_124 rfl ?_
  refine y_if_ne (pc2 := 128) 138 dX10_passes_125 (by decide) rfl (fun c1 => ?_) (fun c1 => ?_)
  · replace ht := ht.1 c1
    refine x_iload_n (pc2 := 139) 2 (n := 2) (x := x2) rfl dX10_passes_138 rfl ?_
    refine x_aload (pc2 := 141) 8 (n := 8) (x := a8) rfl dX10_passes_139 rfl ?_
    obtain ⟨k2, ht⟩ := ht
    refine y_getI (pc2 := 144) (κ := 9) (k := 2) fl_X10_80 (by decide) (by decide) k2 rfl dX10_passes_141 rfl ?_
    refine x_isub (pc2 := 145) dX10_passes_144 rfl ?_
    exact ht
  · replace ht := ht.2 c1
    refine x_iload_n (pc2 := 129) 1 (n := 1) (x := x1) rfl dX10_passes_128 rfl ?_
    refine x_aload (pc2 := 131) 8 (n := 8) (x := a8) rfl dX10_passes_129 rfl ?_
    obtain ⟨k3, ht⟩ := ht
    refine y_getI (pc2 := 134) (κ := 9) (k := 1) fl_X10_86 (by decide) (by decide) k3 rfl dX10_passes_131 rfl ?_
    refine x_isub (pc2 := 135) dX10_passes_134 rfl ?_
    refine x_goto 145 dX10_passes_135 (by decide) ?_
    exact ht
def T_X10_passes_145 (G : GG) (d : Nat) (h : HP) (Q : Option Value → HP → Prop) (a0 : Nat) (x1 : Int32) (x2 : Int32) (x3 : Int32) (x4 : Int32) (x5 : Int32) (x6 : Int32) (x7 : Int32) (a8 : Nat) (x9 : Int32) (sx0 : Int32) : Prop :=
  Kd G h a0 10 ∧ ((x7 = (hI h a0 10) → Q (some (.int 1)) h) ∧ (¬ x7 = (hI h a0 10) → Kd G h a8 9 ∧ ((¬ (hI h a8 8) = x9 → Q (some (.int 0)) h) ∧ ((hI h a8 8) = x9 → ((¬ (hI h a8 9) = sx0 → Q (some (.int 0)) h) ∧ ((hI h a8 9) = sx0 → Q (some (.int 1)) h))))))
set_option maxRecDepth 20000 in
theorem t_X10_passes_145 {G : GG} {d : Nat} {h : HP} {Q : Option Value → HP → Prop} {a0 : Nat} {x1 : Int32} {x2 : Int32} {x3 : Int32} {x4 : Int32} {x5 : Int32} {x6 : Int32} {x7 : Int32} {a8 : Nat} {x9 : Int32} {sx0 : Int32} (ht : T_X10_passes_145 G d h Q a0 x1 x2 x3 x4 x5 x6 x7 a8 x9 sx0) : Ex G d mX10_passes 145 [(0, .ref a0), (1, .int x1), (2, .int x2), (3, .int x3), (4, .int x4), (5, .int x5), (6, .int x6), (7, .int x7), (8, .ref a8), (9, .int x9)] [.int sx0] h Q := by
  unfold T_X10_passes_145 at ht
  refine x_istore (pc2 := 147) [1, 2, 3, 4, 5, 6, 7, 8, 9, 10, 0] (n := 10) (x := sx0) (lv2 := [(0, .ref a0), (1, .int x1), (2, .int x2), (3, .int x3), (4, .int x4), (5, .int x5), (6, .int x6), (7, .int x7), (8, .ref a8), (9, .int x9), (10, .int sx0)]) (by decide) rfl dX10_passes_145 rfl ?_
  refine x_iload (pc2 := 149) 7 (n := 7) (x := x7) rfl dX10_passes_147 rfl ?_
  refine x_aload_n (pc2 := 150) 0 (n := 0) (x := a0) rfl dX10_passes_149 rfl ?_
  obtain ⟨k1, ht⟩ := ht
  refine y_getI (pc2 := 153) (κ := 10) (k := 10) fl_X10_37 (by decide) (by decide) k1 rfl dX10_passes_150 rfl ?_
  refine x_icmp_eq (pc2 := 156) 176 dX10_passes_153 (by decide) rfl (fun c2 => ?_) (fun c2 => ?_)
  · replace ht := ht.1 c2
    refine x_iconst (pc2 := 177) (v := 1) (by decide) dX10_passes_176 rfl ?_
    refine x_goto 181 dX10_passes_177 (by decide) ?_
    exact x_retZ rfl (Or.inr rfl) dX10_passes_181 ht
  · replace ht := ht.2 c2
    refine x_aload (pc2 := 158) 8 (n := 8) (x := a8) rfl dX10_passes_156 rfl ?_
    obtain ⟨k3, ht⟩ := ht
    refine y_getI (pc2 := 161) (κ := 9) (k := 8) fl_X10_105 (by decide) (by decide) k3 rfl dX10_passes_158 rfl ?_
    refine x_iload (pc2 := 163) 9 (n := 9) (x := x9) rfl dX10_passes_161 rfl ?_
    refine y_icmp_ne (pc2 := 166) 180 dX10_passes_163 (by decide) rfl (fun c4 => ?_) (fun c4 => ?_)
    · replace ht := ht.1 c4
      refine x_iconst (pc2 := 181) (v := 0) (by decide) dX10_passes_180 rfl ?_
      exact x_retZ rfl (Or.inl rfl) dX10_passes_181 ht
    · replace ht := ht.2 c4
      refine x_aload (pc2 := 168) 8 (n := 8) (x := a8) rfl dX10_passes_166 rfl ?_
      refine y_getI (pc2 := 171) (κ := 9) (k := 9) fl_X10_108 (by decide) (by decide) k3 rfl dX10_passes_168 rfl ?_
      refine x_iload (pc2 := 173) 10 (n := 10) (x := sx0) rfl dX10_passes_171 rfl ?_
      refine y_icmp_ne (pc2 := 176) 180 dX10_passes_173 (by decide) rfl (fun c5 => ?_) (fun c5 => ?_)
      · replace ht := ht.1 c5
        refine x_iconst (pc2 := 181) (v := 0) (by decide) dX10_passes_180 rfl ?_
        exact x_retZ rfl (Or.inl rfl) dX10_passes_181 ht
      · replace ht := ht.2 c5
        refine x_iconst (pc2 := 177) (v := 1) (by decide) dX10_passes_176 rfl ?_
        refine x_goto 181 dX10_passes_177 (by decide) ?_
        exact x_retZ rfl (Or.inr rfl) dX10_passes_181 ht
def T_X10_walk (G : GG) (d : Nat) (h : HP) (Q : Option Value → HP → Prop) (a0 : Nat) (x1 : Int32) (x2 : Int32) (a3 : Nat) : Prop :=
  Cal G (d - 1) mJ7_fill_53178 [.ref a3, .int (-1)] h (fun r1 h2 => r1 = none ∧ Kd G h2 a0 10 ∧ ∃ q5, hR h2 a0 9 = some q5 ∧ Kd G h2 q5 6 ∧ ∃ q8, hR h2 q5 5 = some q8 ∧ Kd G h2 q8 14 ∧ vp_in x1 (hN h2 q8) ∧ ((((hI h2 q8 x1.toNatClampNeg) &&& 128) = 0 → Kd G h2 a3 14 ∧ vp_in x1 (hN h2 a3) ∧ ∃ q15, hR (sI h2 a3 x1.toNatClampNeg 0) a0 4 = some q15 ∧ Kd G (sI h2 a3 x1.toNatClampNeg 0) q15 14 ∧ vp_in 0 (hN (sI h2 a3 x1.toNatClampNeg 0) q15) ∧ Ex G d mX10_walk 40 [(0, .ref a0), (1, .int x1), (2, .int x2), (3, .ref a3), (4, .int 1), (5, .int 0)] [] (sI (sI h2 a3 x1.toNatClampNeg 0) q15 0 x1) Q) ∧ (¬ ((hI h2 q8 x1.toNatClampNeg) &&& 128) = 0 → Q (some (.int (-1))) h2)))
set_option maxRecDepth 20000 in
theorem t_X10_walk {G : GG} {d : Nat} {h : HP} {Q : Option Value → HP → Prop} {a0 : Nat} {x1 : Int32} {x2 : Int32} {a3 : Nat} (hd1 : 1 ≤ d) (ht : T_X10_walk G d h Q a0 x1 x2 a3) : Ex G d mX10_walk 0 [(0, .ref a0), (1, .int x1), (2, .int x2), (3, .ref a3)] [] h Q := by
  unfold T_X10_walk at ht
  refine x_aload_n (pc2 := 1) 3 (n := 3) (x := a3) rfl dX10_walk_0 rfl ?_
  refine x_iconst (pc2 := 2) (v := (-1)) (by decide) dX10_walk_1 rfl ?_
  refine x_callS (pc2 := 5) (As := [.ref a3, .int (-1)]) (rest := []) ms_J7_fill_53178 ml_X10_44 rfl rfl (Nat.le_of_ble_eq_true rfl) hd1 dX10_walk_2 rfl (ht.mono (fun r1 h2 p3 ht' => ?_))
  clear ht
  obtain ⟨rfl, ht⟩ := ht'
  show Ex G d mX10_walk 5 [(0, .ref a0), (1, .int x1), (2, .int x2), (3, .ref a3)] [] h2 Q
  refine x_aload_n (pc2 := 6) 0 (n := 0) (x := a0) rfl dX10_walk_5 rfl ?_
  obtain ⟨k4, ht⟩ := ht
  obtain ⟨q5, e6, ht⟩ := ht
  refine y_getR (pc2 := 9) (κ := 10) (k := 9) fl_X10_33 (by decide) (by decide) k4 rfl e6 dX10_walk_6 rfl ?_
  obtain ⟨k7, ht⟩ := ht
  obtain ⟨q8, e9, ht⟩ := ht
  refine y_getR (pc2 := 12) (κ := 6) (k := 5) fl_X10_95 (by decide) (by decide) k7 rfl e9 dX10_walk_9 rfl ?_
  refine x_iload_n (pc2 := 13) 1 (n := 1) (x := x1) rfl dX10_walk_12 rfl ?_
  obtain ⟨k10, ht⟩ := ht
  obtain ⟨b11, ht⟩ := ht
  refine x_iald (pc2 := 14) k10 b11 dX10_walk_13 rfl ?_
  refine x_sipush (pc2 := 17) (v := 128) (by decide) dX10_walk_14 rfl ?_
  refine x_iand (pc2 := 18) dX10_walk_17 rfl ?_
  refine x_if_eq (pc2 := 21) 23 dX10_walk_18 (by decide) rfl (fun c12 => ?_) (fun c12 => ?_)
  · replace ht := ht.1 c12
    refine x_aload_n (pc2 := 24) 3 (n := 3) (x := a3) rfl dX10_walk_23 rfl ?_
    refine x_iload_n (pc2 := 25) 1 (n := 1) (x := x1) rfl dX10_walk_24 rfl ?_
    refine x_iconst (pc2 := 26) (v := 0) (by decide) dX10_walk_25 rfl ?_
    obtain ⟨k13, ht⟩ := ht
    obtain ⟨b14, ht⟩ := ht
    refine x_iast (pc2 := 27) k13 b14 dX10_walk_26 rfl ?_
    refine x_aload_n (pc2 := 28) 0 (n := 0) (x := a0) rfl dX10_walk_27 rfl ?_
    obtain ⟨q15, e16, ht⟩ := ht
    refine y_getR (pc2 := 31) (κ := 10) (k := 4) fl_X10_18 (by decide) (by decide) k4.sI rfl e16 dX10_walk_28 rfl ?_
    refine x_iconst (pc2 := 32) (v := 0) (by decide) dX10_walk_31 rfl ?_
    refine x_iload_n (pc2 := 33) 1 (n := 1) (x := x1) rfl dX10_walk_32 rfl ?_
    obtain ⟨k17, ht⟩ := ht
    obtain ⟨b18, ht⟩ := ht
    refine z_iast (pc2 := 34) (k := 0) (by decide) k17 b18 dX10_walk_33 rfl ?_
    refine x_iconst (pc2 := 35) (v := 1) (by decide) dX10_walk_34 rfl ?_
    refine x_istore (pc2 := 37) [1, 2, 3, 4, 0] (n := 4) (x := 1) (lv2 := [(0, .ref a0), (1, .int x1), (2, .int x2), (3, .ref a3), (4, .int 1)]) (by decide) rfl dX10_walk_35 rfl ?_
    refine x_iconst (pc2 := 38) (v := 0) (by decide) dX10_walk_37 rfl ?_
    refine x_istore (pc2 := 40) [1, 2, 3, 4, 5, 0] (n := 5) (x := 0) (lv2 := [(0, .ref a0), (1, .int x1), (2, .int x2), (3, .ref a3), (4, .int 1), (5, .int 0)]) (by decide) rfl dX10_walk_38 rfl ?_
    exact ht
  · replace ht := ht.2 c12
    refine x_iconst (pc2 := 22) (v := (-1)) (by decide) dX10_walk_21 rfl ?_
    exact x_ret (ty := .int) rfl rfl dX10_walk_22 ht
theorem e_X10_walk {G : GG} {d : Nat} {h : HP} {Q : Option Value → HP → Prop} {a0 : Nat} {x1 : Int32} {x2 : Int32} {a3 : Nat} (hd1 : 1 ≤ d) (ht : T_X10_walk G d h Q a0 x1 x2 a3) : Cal G d mX10_walk [.ref a0, .int x1, .int x2, .ref a3] h Q := cal_of rfl (Nat.le_of_ble_eq_true rfl) (t_X10_walk hd1 ht)
def T_X10_walk_40 (G : GG) (d : Nat) (h : HP) (Q : Option Value → HP → Prop) (a0 : Nat) (x1 : Int32) (x2 : Int32) (a3 : Nat) (x4 : Int32) (x5 : Int32) : Prop :=
  ((x4 ≤ x5 → Ex G d mX10_walk 175 [(0, .ref a0), (1, .int x1), (2, .int x2), (3, .ref a3), (4, .int x4), (5, .int x5)] [] h Q) ∧ (¬ x4 ≤ x5 → ((1600 ≤ x5 → Ex G d mX10_walk 175 [(0, .ref a0), (1, .int x1), (2, .int x2), (3, .ref a3), (4, .int x4), (5, .int x5)] [] h Q) ∧ (¬ 1600 ≤ x5 → ((x2 = (-1) → Kd G h a0 10 ∧ ∃ q5, hR h a0 4 = some q5 ∧ Kd G h q5 14 ∧ vp_in x5 (hN h q5) ∧ Ex G d mX10_walk 82 [(0, .ref a0), (1, .int x1), (2, .int x2), (3, .ref a3), (4, .int x4), (5, .int x5), (6, .int (hI h q5 x5.toNatClampNeg)), (7, .int 0)] [] h Q) ∧ (¬ x2 = (-1) → Kd G h a3 14 ∧ vp_in x2 (hN h a3) ∧ (((hI h a3 x2.toNatClampNeg) = (-1) → Kd G h a0 10 ∧ ∃ q13, hR h a0 4 = some q13 ∧ Kd G h q13 14 ∧ vp_in x5 (hN h q13) ∧ Ex G d mX10_walk 82 [(0, .ref a0), (1, .int x1), (2, .int x2), (3, .ref a3), (4, .int x4), (5, .int x5), (6, .int (hI h q13 x5.toNatClampNeg)), (7, .int 0)] [] h Q) ∧ (¬ (hI h a3 x2.toNatClampNeg) = (-1) → Ex G d mX10_walk 175 [(0, .ref a0), (1, .int x1), (2, .int x2), (3, .ref a3), (4, .int x4), (5, .int x5)] [] h Q))))))))
set_option maxRecDepth 20000 in
theorem t_X10_walk_40 {G : GG} {d : Nat} {h : HP} {Q : Option Value → HP → Prop} {a0 : Nat} {x1 : Int32} {x2 : Int32} {a3 : Nat} {x4 : Int32} {x5 : Int32} (ht : T_X10_walk_40 G d h Q a0 x1 x2 a3 x4 x5) : Ex G d mX10_walk 40 [(0, .ref a0), (1, .int x1), (2, .int x2), (3, .ref a3), (4, .int x4), (5, .int x5)] [] h Q := by
  unfold T_X10_walk_40 at ht
  refine x_iload (pc2 := 42) 5 (n := 5) (x := x5) rfl dX10_walk_40 rfl ?_
  refine x_iload (pc2 := 44) 4 (n := 4) (x := x4) rfl dX10_walk_42 rfl ?_
  refine x_icmp_ge (pc2 := 47) 175 dX10_walk_44 (by decide) rfl (fun c1 => ?_) (fun c1 => ?_)
  · replace ht := ht.1 c1
    exact ht
  · replace ht := ht.2 c1
    refine x_iload (pc2 := 49) 5 (n := 5) (x := x5) rfl dX10_walk_47 rfl ?_
    refine x_sipush (pc2 := 52) (v := 1600) (by decide) dX10_walk_49 rfl ?_
    refine x_icmp_ge (pc2 := 55) 175 dX10_walk_52 (by decide) rfl (fun c2 => ?_) (fun c2 => ?_)
    · replace ht := ht.1 c2
      exact ht
    · replace ht := ht.2 c2
      refine x_iload_n (pc2 := 56) 2 (n := 2) (x := x2) rfl dX10_walk_55 rfl ?_
      refine x_iconst (pc2 := 57) (v := (-1)) (by decide) dX10_walk_56 rfl ?_
      refine x_icmp_eq (pc2 := 60) 70 dX10_walk_57 (by decide) rfl (fun c3 => ?_) (fun c3 => ?_)
      · replace ht := ht.1 c3
        refine x_aload_n (pc2 := 71) 0 (n := 0) (x := a0) rfl dX10_walk_70 rfl ?_
        obtain ⟨k4, ht⟩ := ht
        obtain ⟨q5, e6, ht⟩ := ht
        refine y_getR (pc2 := 74) (κ := 10) (k := 4) fl_X10_18 (by decide) (by decide) k4 rfl e6 dX10_walk_71 rfl ?_
        refine x_iload (pc2 := 76) 5 (n := 5) (x := x5) rfl dX10_walk_74 rfl ?_
        obtain ⟨k7, ht⟩ := ht
        obtain ⟨b8, ht⟩ := ht
        refine x_iald (pc2 := 77) k7 b8 dX10_walk_76 rfl ?_
        refine x_istore (pc2 := 79) [1, 2, 3, 4, 5, 6, 0] (n := 6) (x := (hI h q5 x5.toNatClampNeg)) (lv2 := [(0, .ref a0), (1, .int x1), (2, .int x2), (3, .ref a3), (4, .int x4), (5, .int x5), (6, .int (hI h q5 x5.toNatClampNeg))]) (by decide) rfl dX10_walk_77 rfl ?_
        refine x_iconst (pc2 := 80) (v := 0) (by decide) dX10_walk_79 rfl ?_
        refine x_istore (pc2 := 82) [1, 2, 3, 4, 5, 6, 7, 0] (n := 7) (x := 0) (lv2 := [(0, .ref a0), (1, .int x1), (2, .int x2), (3, .ref a3), (4, .int x4), (5, .int x5), (6, .int (hI h q5 x5.toNatClampNeg)), (7, .int 0)]) (by decide) rfl dX10_walk_80 rfl ?_
        exact ht
      · replace ht := ht.2 c3
        refine x_aload_n (pc2 := 61) 3 (n := 3) (x := a3) rfl dX10_walk_60 rfl ?_
        refine x_iload_n (pc2 := 62) 2 (n := 2) (x := x2) rfl dX10_walk_61 rfl ?_
        obtain ⟨k9, ht⟩ := ht
        obtain ⟨b10, ht⟩ := ht
        refine x_iald (pc2 := 63) k9 b10 dX10_walk_62 rfl ?_
        refine x_iconst (pc2 := 64) (v := (-1)) (by decide) dX10_walk_63 rfl ?_
        refine x_icmp_eq (pc2 := 67) 70 dX10_walk_64 (by decide) rfl (fun c11 => ?_) (fun c11 => ?_)
        · replace ht := ht.1 c11
          refine x_aload_n (pc2 := 71) 0 (n := 0) (x := a0) rfl dX10_walk_70 rfl ?_
          obtain ⟨k12, ht⟩ := ht
          obtain ⟨q13, e14, ht⟩ := ht
          refine y_getR (pc2 := 74) (κ := 10) (k := 4) fl_X10_18 (by decide) (by decide) k12 rfl e14 dX10_walk_71 rfl ?_
          refine x_iload (pc2 := 76) 5 (n := 5) (x := x5) rfl dX10_walk_74 rfl ?_
          obtain ⟨k15, ht⟩ := ht
          obtain ⟨b16, ht⟩ := ht
          refine x_iald (pc2 := 77) k15 b16 dX10_walk_76 rfl ?_
          refine x_istore (pc2 := 79) [1, 2, 3, 4, 5, 6, 0] (n := 6) (x := (hI h q13 x5.toNatClampNeg)) (lv2 := [(0, .ref a0), (1, .int x1), (2, .int x2), (3, .ref a3), (4, .int x4), (5, .int x5), (6, .int (hI h q13 x5.toNatClampNeg))]) (by decide) rfl dX10_walk_77 rfl ?_
          refine x_iconst (pc2 := 80) (v := 0) (by decide) dX10_walk_79 rfl ?_
          refine x_istore (pc2 := 82) [1, 2, 3, 4, 5, 6, 7, 0] (n := 7) (x := 0) (lv2 := [(0, .ref a0), (1, .int x1), (2, .int x2), (3, .ref a3), (4, .int x4), (5, .int x5), (6, .int (hI h q13 x5.toNatClampNeg)), (7, .int 0)]) (by decide) rfl dX10_walk_80 rfl ?_
          exact ht
        · replace ht := ht.2 c11
          refine x_goto 175 dX10_walk_67 (by decide) ?_
          exact ht
def T_X10_walk_82 (G : GG) (d : Nat) (h : HP) (Q : Option Value → HP → Prop) (a0 : Nat) (x1 : Int32) (x2 : Int32) (a3 : Nat) (x4 : Int32) (x5 : Int32) (x6 : Int32) (x7 : Int32) : Prop :=
  ((4 ≤ x7 → Ex G d mX10_walk 40 [(0, .ref a0), (1, .int x1), (2, .int x2), (3, .ref a3), (4, .int x4), (5, .int (x5 + 1))] [] h Q) ∧ (¬ 4 ≤ x7 → Kd G h a0 10 ∧ ∃ q3, hR h a0 6 = some q3 ∧ Kd G h q3 14 ∧ vp_in x6 (hN h q3) ∧ ((¬ (((hI h q3 x6.toNatClampNeg) >>> (x7 &&& 31)) &&& 1) = 1 → Ex G d mX10_walk 82 [(0, .ref a0), (1, .int x1), (2, .int x2), (3, .ref a3), (4, .int x4), (5, .int x5), (6, .int x6), (7, .int (x7 + 1))] [] h Q) ∧ ((((hI h q3 x6.toNatClampNeg) >>> (x7 &&& 31)) &&& 1) = 1 → vp_in x7 4 ∧ Kd G h a3 14 ∧ vp_in (x6 + (bsd x7.toNatClampNeg)) (hN h a3) ∧ ((¬ (hI h a3 (x6 + (bsd x7.toNatClampNeg)).toNatClampNeg) = (-1) → Ex G d mX10_walk 82 [(0, .ref a0), (1, .int x1), (2, .int x2), (3, .ref a3), (4, .int x4), (5, .int x5), (6, .int x6), (7, .int (x7 + 1))] [] h Q) ∧ ((hI h a3 (x6 + (bsd x7.toNatClampNeg)).toNatClampNeg) = (-1) → ((1600 ≤ x4 → Ex G d mX10_walk 82 [(0, .ref a0), (1, .int x1), (2, .int x2), (3, .ref a3), (4, .int x4), (5, .int x5), (6, .int x6), (7, .int (x7 + 1))] [] h Q) ∧ (¬ 1600 ≤ x4 → vp_in x7 4 ∧ vp_in x6 (hN h a3) ∧ vp_in (x6 + (bsd x7.toNatClampNeg)) (hN h a3) ∧ ∃ q16, hR (sI h a3 (x6 + (bsd x7.toNatClampNeg)).toNatClampNeg ((hI h a3 x6.toNatClampNeg) + 1)) a0 4 = some q16 ∧ vp_in x7 4 ∧ Kd G (sI h a3 (x6 + (bsd x7.toNatClampNeg)).toNatClampNeg ((hI h a3 x6.toNatClampNeg) + 1)) q16 14 ∧ vp_in x4 (hN (sI h a3 (x6 + (bsd x7.toNatClampNeg)).toNatClampNeg ((hI h a3 x6.toNatClampNeg) + 1)) q16) ∧ ∀ h21, h21 = (sI (sI h a3 (x6 + (bsd x7.toNatClampNeg)).toNatClampNeg ((hI h a3 x6.toNatClampNeg) + 1)) q16 x4.toNatClampNeg (x6 + (bsd x7.toNatClampNeg))) → Ex G d mX10_walk 82 [(0, .ref a0), (1, .int x1), (2, .int x2), (3, .ref a3), (4, .int (x4 + 1)), (5, .int x5), (6, .int x6), (7, .int (x7 + 1))] [] h21 Q))))))))
set_option maxRecDepth 20000 in
theorem t_X10_walk_82 {G : GG} {d : Nat} {h : HP} {Q : Option Value → HP → Prop} {a0 : Nat} {x1 : Int32} {x2 : Int32} {a3 : Nat} {x4 : Int32} {x5 : Int32} {x6 : Int32} {x7 : Int32} (ht : T_X10_walk_82 G d h Q a0 x1 x2 a3 x4 x5 x6 x7) : Ex G d mX10_walk 82 [(0, .ref a0), (1, .int x1), (2, .int x2), (3, .ref a3), (4, .int x4), (5, .int x5), (6, .int x6), (7, .int x7)] [] h Q := by
  unfold T_X10_walk_82 at ht
  refine x_iload (pc2 := 84) 7 (n := 7) (x := x7) rfl dX10_walk_82 rfl ?_
  refine x_iconst (pc2 := 85) (v := 4) (by decide) dX10_walk_84 rfl ?_
  refine x_icmp_ge (pc2 := 88) 169 dX10_walk_85 (by decide) rfl (fun c1 => ?_) (fun c1 => ?_)
  · replace ht := ht.1 c1
    refine x_iinc (pc2 := 172) 5 [1, 2, 3, 4, 5, 0, 6, 7] (i := 5) (x := x5) (v := (x5 + 1)) (lv2 := [(0, .ref a0), (1, .int x1), (2, .int x2), (3, .ref a3), (4, .int x4), (5, .int (x5 + 1)), (6, .int x6), (7, .int x7)]) rfl (iinc_eq (by decide) _) (by decide) rfl dX10_walk_169 rfl ?_
    refine x_goto 40 dX10_walk_172 (by decide) ?_
    refine x_sub [0, 1, 2, 3, 4, 5] (lv2 := [(0, .ref a0), (1, .int x1), (2, .int x2), (3, .ref a3), (4, .int x4), (5, .int (x5 + 1))]) rfl ?_
    exact ht
  · replace ht := ht.2 c1
    refine x_aload_n (pc2 := 89) 0 (n := 0) (x := a0) rfl dX10_walk_88 rfl ?_
    obtain ⟨k2, ht⟩ := ht
    obtain ⟨q3, e4, ht⟩ := ht
    refine y_getR (pc2 := 92) (κ := 10) (k := 6) fl_X10_24 (by decide) (by decide) k2 rfl e4 dX10_walk_89 rfl ?_
    refine x_iload (pc2 := 94) 6 (n := 6) (x := x6) rfl dX10_walk_92 rfl ?_
    obtain ⟨k5, ht⟩ := ht
    obtain ⟨b6, ht⟩ := ht
    refine x_iald (pc2 := 95) k5 b6 dX10_walk_94 rfl ?_
    refine x_iload (pc2 := 97) 7 (n := 7) (x := x7) rfl dX10_walk_95 rfl ?_
    refine x_ishr (pc2 := 98) dX10_walk_97 rfl ?_
    refine x_iconst (pc2 := 99) (v := 1) (by decide) dX10_walk_98 rfl ?_
    refine x_iand (pc2 := 100) dX10_walk_99 rfl ?_
    refine x_iconst (pc2 := 101) (v := 1) (by decide) dX10_walk_100 rfl ?_
    refine y_icmp_ne (pc2 := 104) 163 dX10_walk_101 (by decide) rfl (fun c7 => ?_) (fun c7 => ?_)
    · replace ht := ht.1 c7
      refine x_iinc (pc2 := 166) 7 [1, 2, 3, 4, 5, 6, 7, 0] (i := 7) (x := x7) (v := (x7 + 1)) (lv2 := [(0, .ref a0), (1, .int x1), (2, .int x2), (3, .ref a3), (4, .int x4), (5, .int x5), (6, .int x6), (7, .int (x7 + 1))]) rfl (iinc_eq (by decide) _) (by decide) rfl dX10_walk_163 rfl ?_
      refine x_goto 82 dX10_walk_166 (by decide) ?_
      exact ht
    · replace ht := ht.2 c7
      refine x_aload_n (pc2 := 105) 3 (n := 3) (x := a3) rfl dX10_walk_104 rfl ?_
      refine x_iload (pc2 := 107) 6 (n := 6) (x := x6) rfl dX10_walk_105 rfl ?_
      refine x_getBeside (pc2 := 110) bs_X10_92 dX10_walk_107 rfl ?_
      refine x_iload (pc2 := 112) 7 (n := 7) (x := x7) rfl dX10_walk_110 rfl ?_
      obtain ⟨b8, ht⟩ := ht
      refine x_beside (pc2 := 113) b8 dX10_walk_112 rfl ?_
      refine x_iadd (pc2 := 114) dX10_walk_113 rfl ?_
      obtain ⟨k9, ht⟩ := ht
      obtain ⟨b10, ht⟩ := ht
      refine x_iald (pc2 := 115) k9 b10 dX10_walk_114 rfl ?_
      refine x_iconst (pc2 := 116) (v := (-1)) (by decide) dX10_walk_115 rfl ?_
      refine y_icmp_ne (pc2 := 119) 163 dX10_walk_116 (by decide) rfl (fun c11 => ?_) (fun c11 => ?_)
      · replace ht := ht.1 c11
        refine x_iinc (pc2 := 166) 7 [1, 2, 3, 4, 5, 6, 7, 0] (i := 7) (x := x7) (v := (x7 + 1)) (lv2 := [(0, .ref a0), (1, .int x1), (2, .int x2), (3, .ref a3), (4, .int x4), (5, .int x5), (6, .int x6), (7, .int (x7 + 1))]) rfl (iinc_eq (by decide) _) (by decide) rfl dX10_walk_163 rfl ?_
        refine x_goto 82 dX10_walk_166 (by decide) ?_
        exact ht
      · replace ht := ht.2 c11
        refine x_iload (pc2 := 121) 4 (n := 4) (x := x4) rfl dX10_walk_119 rfl ?_
        refine x_sipush (pc2 := 124) (v := 1600) (by decide) dX10_walk_121 rfl ?_
        refine x_icmp_ge (pc2 := 127) 163 dX10_walk_124 (by decide) rfl (fun c12 => ?_) (fun c12 => ?_)
        · replace ht := ht.1 c12
          refine x_iinc (pc2 := 166) 7 [1, 2, 3, 4, 5, 6, 7, 0] (i := 7) (x := x7) (v := (x7 + 1)) (lv2 := [(0, .ref a0), (1, .int x1), (2, .int x2), (3, .ref a3), (4, .int x4), (5, .int x5), (6, .int x6), (7, .int (x7 + 1))]) rfl (iinc_eq (by decide) _) (by decide) rfl dX10_walk_163 rfl ?_
          refine x_goto 82 dX10_walk_166 (by decide) ?_
          exact ht
        · replace ht := ht.2 c12
          refine x_aload_n (pc2 := 128) 3 (n := 3) (x := a3) rfl dX10_walk_127 rfl ?_
          refine x_iload (pc2 := 130) 6 (n := 6) (x := x6) rfl dX10_walk_128 rfl ?_
          refine x_getBeside (pc2 := 133) bs_X10_92 dX10_walk_130 rfl ?_
          refine x_iload (pc2 := 135) 7 (n := 7) (x := x7) rfl dX10_walk_133 rfl ?_
          obtain ⟨b13, ht⟩ := ht
          refine x_beside (pc2 := 136) b13 dX10_walk_135 rfl ?_
          refine x_iadd (pc2 := 137) dX10_walk_136 rfl ?_
          refine x_aload_n (pc2 := 138) 3 (n := 3) (x := a3) rfl dX10_walk_137 rfl ?_
          refine x_iload (pc2 := 140) 6 (n := 6) (x := x6) rfl dX10_walk_138 rfl ?_
          obtain ⟨b14, ht⟩ := ht
          refine x_iald (pc2 := 141) k9 b14 dX10_walk_140 rfl ?_
          refine x_iconst (pc2 := 142) (v := 1) (by decide) dX10_walk_141 rfl ?_
          refine x_iadd (pc2 := 143) dX10_walk_142 rfl ?_
          obtain ⟨b15, ht⟩ := ht
          refine x_iast (pc2 := 144) k9 b15 dX10_walk_143 rfl ?_
          refine x_aload_n (pc2 := 145) 0 (n := 0) (x := a0) rfl dX10_walk_144 rfl ?_
          obtain ⟨q16, e17, ht⟩ := ht
          refine y_getR (pc2 := 148) (κ := 10) (k := 4) fl_X10_18 (by decide) (by decide) k2.sI rfl e17 dX10_walk_145 rfl ?_
          refine x_iload (pc2 := 150) 4 (n := 4) (x := x4) rfl dX10_walk_148 rfl ?_
          refine x_iload (pc2 := 152) 6 (n := 6) (x := x6) rfl dX10_walk_150 rfl ?_
          refine x_getBeside (pc2 := 155) bs_X10_92 dX10_walk_152 rfl ?_
          refine x_iload (pc2 := 157) 7 (n := 7) (x := x7) rfl dX10_walk_155 rfl ?_
          obtain ⟨b18, ht⟩ := ht
          refine x_beside (pc2 := 158) b18 dX10_walk_157 rfl ?_
          refine x_iadd (pc2 := 159) dX10_walk_158 rfl ?_
          obtain ⟨k19, ht⟩ := ht
          obtain ⟨b20, ht⟩ := ht
          refine x_iast (pc2 := 160) k19 b20 dX10_walk_159 rfl ?_
          refine nm_I (fun h21 e22 p23 => ?_)
          replace ht := ht h21 e22
          refine x_iinc (pc2 := 163) 4 [1, 2, 3, 4, 0, 5, 6, 7] (i := 4) (x := x4) (v := (x4 + 1)) (lv2 := [(0, .ref a0), (1, .int x1), (2, .int x2), (3, .ref a3), (4, .int (x4 + 1)), (5, .int x5), (6, .int x6), (7, .int x7)]) rfl (iinc_eq (by decide) _) (by decide) rfl dX10_walk_160 rfl ?_
          refine x_iinc (pc2 := 166) 7 [1, 2, 3, 4, 5, 6, 7, 0] (i := 7) (x := x7) (v := (x7 + 1)) (lv2 := [(0, .ref a0), (1, .int x1), (2, .int x2), (3, .ref a3), (4, .int (x4 + 1)), (5, .int x5), (6, .int x6), (7, .int (x7 + 1))]) rfl (iinc_eq (by decide) _) (by decide) rfl dX10_walk_163 rfl ?_
          refine x_goto 82 dX10_walk_166 (by decide) ?_
          exact ht
def T_X10_walk_175 (G : GG) (d : Nat) (h : HP) (Q : Option Value → HP → Prop) (a0 : Nat) (x1 : Int32) (x2 : Int32) (a3 : Nat) (x4 : Int32) (x5 : Int32) : Prop :=
  ((¬ x2 = (-1) → Kd G h a3 14 ∧ vp_in x2 (hN h a3) ∧ Q (some (.int (hI h a3 x2.toNatClampNeg))) h) ∧ (x2 = (-1) → Q (some (.int (-1))) h))
set_option maxRecDepth 20000 in
theorem t_X10_walk_175 {G : GG} {d : Nat} {h : HP} {Q : Option Value → HP → Prop} {a0 : Nat} {x1 : Int32} {x2 : Int32} {a3 : Nat} {x4 : Int32} {x5 : Int32} (ht : T_X10_walk_175 G d h Q a0 x1 x2 a3 x4 x5) : Ex G d mX10_walk 175 [(0, .ref a0), (1, .int x1), (2, .int x2), (3, .ref a3), (4, .int x4), (5, .int x5)] [] h Q := by
  unfold T_X10_walk_175 at ht
  refine x_iload_n (pc2 := 176) 2 (n := 2) (x := x2) rfl dX10_walk_175 rfl ?_
  refine x_iconst (pc2 := 177) (v := (-1)) (by decide) dX10_walk_176 rfl ?_
  refine y_icmp_ne (pc2 := 180) 184 dX10_walk_177 (by decide) rfl (fun c1 => ?_) (fun c1 => ?_)
  · replace ht := ht.1 c1
    refine x_aload_n (pc2 := 185) 3 (n := 3) (x := a3) rfl dX10_walk_184 rfl ?_
    refine x_iload_n (pc2 := 186) 2 (n := 2) (x := x2) rfl dX10_walk_185 rfl ?_
    obtain ⟨k2, ht⟩ := ht
    obtain ⟨b3, ht⟩ := ht
    refine x_iald (pc2 := 187) k2 b3 dX10_walk_186 rfl ?_
    exact x_ret (ty := .int) rfl rfl dX10_walk_187 ht
  · replace ht := ht.2 c1
    refine x_iconst (pc2 := 181) (v := (-1)) (by decide) dX10_walk_180 rfl ?_
    refine x_goto 187 dX10_walk_181 (by decide) ?_
    exact x_ret (ty := .int) rfl rfl dX10_walk_187 ht
def T_X10_settle (G : GG) (d : Nat) (h : HP) (Q : Option Value → HP → Prop) (a0 : Nat) (x1 : Int32) (x2 : Int32) (x3 : Int32) (x4 : Int32) (x5 : Int32) : Prop :=
  Kd G h a0 10 ∧ Ex G d mX10_settle 14 [(0, .ref a0), (1, .int x1), (2, .int x2), (3, .int x3), (4, .int x4), (5, .int x5), (6, .int 6)] [] (sI (sI h a0 1 0) a0 2 0) Q
set_option maxRecDepth 20000 in
theorem t_X10_settle {G : GG} {d : Nat} {h : HP} {Q : Option Value → HP → Prop} {a0 : Nat} {x1 : Int32} {x2 : Int32} {x3 : Int32} {x4 : Int32} {x5 : Int32} (ht : T_X10_settle G d h Q a0 x1 x2 x3 x4 x5) : Ex G d mX10_settle 0 [(0, .ref a0), (1, .int x1), (2, .int x2), (3, .int x3), (4, .int x4), (5, .int x5)] [] h Q := by
  unfold T_X10_settle at ht
  refine x_aload_n (pc2 := 1) 0 (n := 0) (x := a0) rfl dX10_settle_0 rfl ?_
  refine x_iconst (pc2 := 2) (v := 0) (by decide) dX10_settle_1 rfl ?_
  obtain ⟨k1, ht⟩ := ht
  refine x_putI (pc2 := 5) (κ := 10) (k := 1) fl_X10_111 (by decide) (by decide) (Or.inl rfl) rfl k1 dX10_settle_2 rfl ?_
  refine x_aload_n (pc2 := 6) 0 (n := 0) (x := a0) rfl dX10_settle_5 rfl ?_
  refine x_iconst (pc2 := 7) (v := 0) (by decide) dX10_settle_6 rfl ?_
  refine x_putI (pc2 := 10) (κ := 10) (k := 2) fl_X10_114 (by decide) (by decide) (Or.inl rfl) rfl k1.sI dX10_settle_7 rfl ?_
  refine x_bipush (pc2 := 12) (v := 6) (by decide) dX10_settle_10 rfl ?_
  refine x_istore (pc2 := 14) [1, 2, 3, 4, 5, 6, 0] (n := 6) (x := 6) (lv2 := [(0, .ref a0), (1, .int x1), (2, .int x2), (3, .int x3), (4, .int x4), (5, .int x5), (6, .int 6)]) (by decide) rfl dX10_settle_12 rfl ?_
  exact ht
theorem e_X10_settle {G : GG} {d : Nat} {h : HP} {Q : Option Value → HP → Prop} {a0 : Nat} {x1 : Int32} {x2 : Int32} {x3 : Int32} {x4 : Int32} {x5 : Int32} (ht : T_X10_settle G d h Q a0 x1 x2 x3 x4 x5) : Cal G d mX10_settle [.ref a0, .int x1, .int x2, .int x3, .int x4, .int x5] h Q := cal_of rfl (Nat.le_of_ble_eq_true rfl) (t_X10_settle ht)
def T_X10_settle_14 (G : GG) (d : Nat) (h : HP) (Q : Option Value → HP → Prop) (a0 : Nat) (x1 : Int32) (x2 : Int32) (x3 : Int32) (x4 : Int32) (x5 : Int32) (x6 : Int32) : Prop :=
  ((30 ≤ x6 → Q none h) ∧ (¬ 30 ≤ x6 → Kd G h a0 10 ∧ ∃ q3, hR h a0 9 = some q3 ∧ Kd G h q3 6 ∧ ∃ q6, hR h q3 7 = some q6 ∧ Kd G h q6 20 ∧ vp_in x6 (hN h q6) ∧ ∃ q10, hR h q6 x6.toNatClampNeg = some q10 ∧ Kd G h q10 9 ∧ (((hI h q10 0) = 0 → Ex G d mX10_settle 14 [(0, .ref a0), (1, .int x1), (2, .int x2), (3, .int x3), (4, .int x4), (5, .int x5), (6, .int (x6 + 1))] [] h Q) ∧ (¬ (hI h q10 0) = 0 → Cal G (d - 1) mX9_has [.ref q10, .int x2, .int x3] h (fun r14 h15 => ∃ v17, r14 = some (.int v17) ∧ Cal G (d - 1) mX9_has [.ref q10, .int x4, .int x5] h15 (fun r18 h19 => ∃ v21, r18 = some (.int v21) ∧ ((v17 = v21 → Ex G d mX10_settle 14 [(0, .ref a0), (1, .int x1), (2, .int x2), (3, .int x3), (4, .int x4), (5, .int x5), (6, .int (x6 + 1))] [] h19 Q) ∧ (¬ v17 = v21 → Cal G (d - 1) mX9_tollFor [.ref q10, .int x1] h19 (fun r23 h24 => ∃ v26, r23 = some (.int v26) ∧ ((v26 ≤ 0 → Ex G d mX10_settle 14 [(0, .ref a0), (1, .int x1), (2, .int x2), (3, .int x3), (4, .int x4), (5, .int x5), (6, .int (x6 + 1))] [] (sI h24 a0 1 ((hI h24 a0 1) + v26)) Q) ∧ (¬ v26 ≤ 0 → ∀ h28, h28 = (sI (sI h24 a0 1 ((hI h24 a0 1) + v26)) a0 2 ((hI (sI h24 a0 1 ((hI h24 a0 1) + v26)) a0 2) ||| (1 <<< ((hI (sI h24 a0 1 ((hI h24 a0 1) + v26)) q10 5) &&& 31)))) → Ex G d mX10_settle 14 [(0, .ref a0), (1, .int x1), (2, .int x2), (3, .int x3), (4, .int x4), (5, .int x5), (6, .int (x6 + 1))] [] h28 Q)))))))))))
set_option maxRecDepth 20000 in
theorem t_X10_settle_14 {G : GG} {d : Nat} {h : HP} {Q : Option Value → HP → Prop} {a0 : Nat} {x1 : Int32} {x2 : Int32} {x3 : Int32} {x4 : Int32} {x5 : Int32} {x6 : Int32} (hd1 : 1 ≤ d) (ht : T_X10_settle_14 G d h Q a0 x1 x2 x3 x4 x5 x6) : Ex G d mX10_settle 14 [(0, .ref a0), (1, .int x1), (2, .int x2), (3, .int x3), (4, .int x4), (5, .int x5), (6, .int x6)] [] h Q := by
  unfold T_X10_settle_14 at ht
  refine x_iload (pc2 := 16) 6 (n := 6) (x := x6) rfl dX10_settle_14 rfl ?_
  refine x_bipush (pc2 := 18) (v := 30) (by decide) dX10_settle_16 rfl ?_
  refine x_icmp_ge (pc2 := 21) 106 dX10_settle_18 (by decide) rfl (fun c1 => ?_) (fun c1 => ?_)
  · replace ht := ht.1 c1
    exact x_retV rfl dX10_settle_106 ht
  · replace ht := ht.2 c1
    refine x_aload_n (pc2 := 22) 0 (n := 0) (x := a0) rfl dX10_settle_21 rfl ?_
    obtain ⟨k2, ht⟩ := ht
    obtain ⟨q3, e4, ht⟩ := ht
    refine y_getR (pc2 := 25) (κ := 10) (k := 9) fl_X10_33 (by decide) (by decide) k2 rfl e4 dX10_settle_22 rfl ?_
    obtain ⟨k5, ht⟩ := ht
    obtain ⟨q6, e7, ht⟩ := ht
    refine y_getR (pc2 := 28) (κ := 6) (k := 7) fl_X10_62 (by decide) (by decide) k5 rfl e7 dX10_settle_25 rfl ?_
    refine x_iload (pc2 := 30) 6 (n := 6) (x := x6) rfl dX10_settle_28 rfl ?_
    obtain ⟨k8, ht⟩ := ht
    obtain ⟨b9, ht⟩ := ht
    obtain ⟨q10, e11, ht⟩ := ht
    refine y_aaldR (pc2 := 31) (κ := 20) (by decide) k8 b9 e11 dX10_settle_30 rfl ?_
    refine x_astore (pc2 := 33) [1, 2, 3, 4, 5, 6, 7, 0] (n := 7) (x := q10) (lv2 := [(0, .ref a0), (1, .int x1), (2, .int x2), (3, .int x3), (4, .int x4), (5, .int x5), (6, .int x6), (7, .ref q10)]) (by decide) rfl dX10_settle_31 rfl ?_
    refine x_aload (pc2 := 35) 7 (n := 7) (x := q10) rfl dX10_settle_33 rfl ?_
    obtain ⟨k12, ht⟩ := ht
    refine y_getI (pc2 := 38) (κ := 9) (k := 0) fl_X10_66 (by decide) (by decide) k12 rfl dX10_settle_35 rfl ?_
    refine x_if_eq (pc2 := 41) 100 dX10_settle_38 (by decide) rfl (fun c13 => ?_) (fun c13 => ?_)
    · replace ht := ht.1 c13
      refine x_iinc (pc2 := 103) 6 [1, 2, 3, 4, 5, 6, 0, 7] (i := 6) (x := x6) (v := (x6 + 1)) (lv2 := [(0, .ref a0), (1, .int x1), (2, .int x2), (3, .int x3), (4, .int x4), (5, .int x5), (6, .int (x6 + 1)), (7, .ref q10)]) rfl (iinc_eq (by decide) _) (by decide) rfl dX10_settle_100 rfl ?_
      refine x_goto 14 dX10_settle_103 (by decide) ?_
      refine x_sub [0, 1, 2, 3, 4, 5, 6] (lv2 := [(0, .ref a0), (1, .int x1), (2, .int x2), (3, .int x3), (4, .int x4), (5, .int x5), (6, .int (x6 + 1))]) rfl ?_
      exact ht
    · replace ht := ht.2 c13
      refine x_aload (pc2 := 43) 7 (n := 7) (x := q10) rfl dX10_settle_41 rfl ?_
      refine x_iload_n (pc2 := 44) 2 (n := 2) (x := x2) rfl dX10_settle_43 rfl ?_
      refine x_iload_n (pc2 := 45) 3 (n := 3) (x := x3) rfl dX10_settle_44 rfl ?_
      refine x_callV (pc2 := 48) (As := [.int x2, .int x3]) (rest := []) (b := q10) mv_X9_has ml_X10_117 k12 rfl rfl (Nat.le_of_ble_eq_true rfl) hd1 dX10_settle_45 rfl (ht.mono (fun r14 h15 p16 ht' => ?_))
      clear ht
      obtain ⟨v17, rfl, ht⟩ := ht'
      show Ex G d mX10_settle 48 [(0, .ref a0), (1, .int x1), (2, .int x2), (3, .int x3), (4, .int x4), (5, .int x5), (6, .int x6), (7, .ref q10)] [.int v17] h15 Q
      refine x_aload (pc2 := 50) 7 (n := 7) (x := q10) rfl dX10_settle_48 rfl ?_
      refine x_iload (pc2 := 52) 4 (n := 4) (x := x4) rfl dX10_settle_50 rfl ?_
      refine x_iload (pc2 := 54) 5 (n := 5) (x := x5) rfl dX10_settle_52 rfl ?_
      refine x_callV (pc2 := 57) (As := [.int x4, .int x5]) (rest := [.int v17]) (b := q10) mv_X9_has ml_X10_117 (k12.up p16) rfl rfl (Nat.le_of_ble_eq_true rfl) hd1 dX10_settle_54 rfl (ht.mono (fun r18 h19 p20 ht' => ?_))
      clear ht
      obtain ⟨v21, rfl, ht⟩ := ht'
      show Ex G d mX10_settle 57 [(0, .ref a0), (1, .int x1), (2, .int x2), (3, .int x3), (4, .int x4), (5, .int x5), (6, .int x6), (7, .ref q10)] [.int v21, .int v17] h19 Q
      refine x_icmp_eq (pc2 := 60) 100 dX10_settle_57 (by decide) rfl (fun c22 => ?_) (fun c22 => ?_)
      · replace ht := ht.1 c22
        refine x_iinc (pc2 := 103) 6 [1, 2, 3, 4, 5, 6, 0, 7] (i := 6) (x := x6) (v := (x6 + 1)) (lv2 := [(0, .ref a0), (1, .int x1), (2, .int x2), (3, .int x3), (4, .int x4), (5, .int x5), (6, .int (x6 + 1)), (7, .ref q10)]) rfl (iinc_eq (by decide) _) (by decide) rfl dX10_settle_100 rfl ?_
        refine x_goto 14 dX10_settle_103 (by decide) ?_
        refine x_sub [0, 1, 2, 3, 4, 5, 6] (lv2 := [(0, .ref a0), (1, .int x1), (2, .int x2), (3, .int x3), (4, .int x4), (5, .int x5), (6, .int (x6 + 1))]) rfl ?_
        exact ht
      · replace ht := ht.2 c22
        refine x_aload (pc2 := 62) 7 (n := 7) (x := q10) rfl dX10_settle_60 rfl ?_
        refine x_iload_n (pc2 := 63) 1 (n := 1) (x := x1) rfl dX10_settle_62 rfl ?_
        refine x_callV (pc2 := 66) (As := [.int x1]) (rest := []) (b := q10) mv_X9_tollFor ml_X10_121 ((k12.up p16).up p20) rfl rfl (Nat.le_of_ble_eq_true rfl) hd1 dX10_settle_63 rfl (ht.mono (fun r23 h24 p25 ht' => ?_))
        clear ht
        obtain ⟨v26, rfl, ht⟩ := ht'
        show Ex G d mX10_settle 66 [(0, .ref a0), (1, .int x1), (2, .int x2), (3, .int x3), (4, .int x4), (5, .int x5), (6, .int x6), (7, .ref q10)] [.int v26] h24 Q
        refine x_istore (pc2 := 68) [1, 2, 3, 4, 5, 6, 7, 8, 0] (n := 8) (x := v26) (lv2 := [(0, .ref a0), (1, .int x1), (2, .int x2), (3, .int x3), (4, .int x4), (5, .int x5), (6, .int x6), (7, .ref q10), (8, .int v26)]) (by decide) rfl dX10_settle_66 rfl ?_
        refine x_aload_n (pc2 := 69) 0 (n := 0) (x := a0) rfl dX10_settle_68 rfl ?_
        refine x_dup (pc2 := 70) rfl dX10_settle_69 rfl ?_
        refine y_getI (pc2 := 73) (κ := 10) (k := 1) fl_X10_111 (by decide) (by decide) (((k2.up p16).up p20).up p25) rfl dX10_settle_70 rfl ?_
        refine x_iload (pc2 := 75) 8 (n := 8) (x := v26) rfl dX10_settle_73 rfl ?_
        refine x_iadd (pc2 := 76) dX10_settle_75 rfl ?_
        refine x_putI (pc2 := 79) (κ := 10) (k := 1) fl_X10_111 (by decide) (by decide) (Or.inl rfl) rfl (((k2.up p16).up p20).up p25) dX10_settle_76 rfl ?_
        refine x_iload (pc2 := 81) 8 (n := 8) (x := v26) rfl dX10_settle_79 rfl ?_
        refine x_if_le (pc2 := 84) 100 dX10_settle_81 (by decide) rfl (fun c27 => ?_) (fun c27 => ?_)
        · replace ht := ht.1 c27
          refine x_iinc (pc2 := 103) 6 [1, 2, 3, 4, 5, 6, 0, 7, 8] (i := 6) (x := x6) (v := (x6 + 1)) (lv2 := [(0, .ref a0), (1, .int x1), (2, .int x2), (3, .int x3), (4, .int x4), (5, .int x5), (6, .int (x6 + 1)), (7, .ref q10), (8, .int v26)]) rfl (iinc_eq (by decide) _) (by decide) rfl dX10_settle_100 rfl ?_
          refine x_goto 14 dX10_settle_103 (by decide) ?_
          refine x_sub [0, 1, 2, 3, 4, 5, 6] (lv2 := [(0, .ref a0), (1, .int x1), (2, .int x2), (3, .int x3), (4, .int x4), (5, .int x5), (6, .int (x6 + 1))]) rfl ?_
          exact ht
        · replace ht := ht.2 c27
          refine x_aload_n (pc2 := 85) 0 (n := 0) (x := a0) rfl dX10_settle_84 rfl ?_
          refine x_dup (pc2 := 86) rfl dX10_settle_85 rfl ?_
          refine y_getI (pc2 := 89) (κ := 10) (k := 2) fl_X10_114 (by decide) (by decide) (((k2.up p16).up p20).up p25).sI rfl dX10_settle_86 rfl ?_
          refine x_iconst (pc2 := 90) (v := 1) (by decide) dX10_settle_89 rfl ?_
          refine x_aload (pc2 := 92) 7 (n := 7) (x := q10) rfl dX10_settle_90 rfl ?_
          refine y_getI (pc2 := 95) (κ := 9) (k := 5) fl_X10_125 (by decide) (by decide) (((k12.up p16).up p20).up p25).sI rfl dX10_settle_92 rfl ?_
          refine x_ishl (pc2 := 96) dX10_settle_95 rfl ?_
          refine x_ior (pc2 := 97) dX10_settle_96 rfl ?_
          refine x_putI (pc2 := 100) (κ := 10) (k := 2) fl_X10_114 (by decide) (by decide) (Or.inl rfl) rfl (((k2.up p16).up p20).up p25).sI dX10_settle_97 rfl ?_
          refine nm_I (fun h28 e29 p30 => ?_)
          replace ht := ht h28 e29
          refine x_iinc (pc2 := 103) 6 [1, 2, 3, 4, 5, 6, 0, 7, 8] (i := 6) (x := x6) (v := (x6 + 1)) (lv2 := [(0, .ref a0), (1, .int x1), (2, .int x2), (3, .int x3), (4, .int x4), (5, .int x5), (6, .int (x6 + 1)), (7, .ref q10), (8, .int v26)]) rfl (iinc_eq (by decide) _) (by decide) rfl dX10_settle_100 rfl ?_
          refine x_goto 14 dX10_settle_103 (by decide) ?_
          refine x_sub [0, 1, 2, 3, 4, 5, 6] (lv2 := [(0, .ref a0), (1, .int x1), (2, .int x2), (3, .int x3), (4, .int x4), (5, .int x5), (6, .int (x6 + 1))]) rfl ?_
          exact ht
def T_X10_clearGates (G : GG) (d : Nat) (h : HP) (Q : Option Value → HP → Prop) (a0 : Nat) : Prop :=
  Kd G h a0 10 ∧ ∃ q2, hR h a0 7 = some q2 ∧ Cal G (d - 1) mJ7_fill_53178 [.ref q2, .int 0] h (fun r4 h5 => r4 = none ∧ ∃ q7, hR h5 a0 8 = some q7 ∧ Cal G (d - 1) mJ7_fill_53178 [.ref q7, .int 0] h5 (fun r9 h10 => r9 = none ∧ Q none h10))
set_option maxRecDepth 20000 in
theorem t_X10_clearGates {G : GG} {d : Nat} {h : HP} {Q : Option Value → HP → Prop} {a0 : Nat} (hd1 : 1 ≤ d) (ht : T_X10_clearGates G d h Q a0) : Ex G d mX10_clearGates 0 [(0, .ref a0)] [] h Q := by
  unfold T_X10_clearGates at ht
  refine x_aload_n (pc2 := 1) 0 (n := 0) (x := a0) rfl dX10_clearGates_0 rfl ?_
  obtain ⟨k1, ht⟩ := ht
  obtain ⟨q2, e3, ht⟩ := ht
  refine y_getR (pc2 := 4) (κ := 10) (k := 7) fl_X10_27 (by decide) (by decide) k1 rfl e3 dX10_clearGates_1 rfl ?_
  refine x_iconst (pc2 := 5) (v := 0) (by decide) dX10_clearGates_4 rfl ?_
  refine x_callS (pc2 := 8) (As := [.ref q2, .int 0]) (rest := []) ms_J7_fill_53178 ml_X10_44 rfl rfl (Nat.le_of_ble_eq_true rfl) hd1 dX10_clearGates_5 rfl (ht.mono (fun r4 h5 p6 ht' => ?_))
  clear ht
  obtain ⟨rfl, ht⟩ := ht'
  show Ex G d mX10_clearGates 8 [(0, .ref a0)] [] h5 Q
  refine x_aload_n (pc2 := 9) 0 (n := 0) (x := a0) rfl dX10_clearGates_8 rfl ?_
  obtain ⟨q7, e8, ht⟩ := ht
  refine y_getR (pc2 := 12) (κ := 10) (k := 8) fl_X10_30 (by decide) (by decide) (k1.up p6) rfl e8 dX10_clearGates_9 rfl ?_
  refine x_iconst (pc2 := 13) (v := 0) (by decide) dX10_clearGates_12 rfl ?_
  refine x_callS (pc2 := 16) (As := [.ref q7, .int 0]) (rest := []) ms_J7_fill_53178 ml_X10_44 rfl rfl (Nat.le_of_ble_eq_true rfl) hd1 dX10_clearGates_13 rfl (ht.mono (fun r9 h10 p11 ht' => ?_))
  clear ht
  obtain ⟨rfl, ht⟩ := ht'
  show Ex G d mX10_clearGates 16 [(0, .ref a0)] [] h10 Q
  exact x_retV rfl dX10_clearGates_16 ht
theorem e_X10_clearGates {G : GG} {d : Nat} {h : HP} {Q : Option Value → HP → Prop} {a0 : Nat} (hd1 : 1 ≤ d) (ht : T_X10_clearGates G d h Q a0) : Cal G d mX10_clearGates [.ref a0] h Q := cal_of rfl (Nat.le_of_ble_eq_true rfl) (t_X10_clearGates hd1 ht)
def T_X10_tryGates (G : GG) (d : Nat) (h : HP) (Q : Option Value → HP → Prop) (a0 : Nat) (a1 : Nat) (a2 : Nat) : Prop :=
  Kd G h a2 1 ∧ Cal G (d - 1) mX1_from [.ref a2] h (fun r1 h2 => ∃ v5, r1 = some (.int v5) ∧ Kd G h2 a0 10 ∧ ∃ q7, hR h2 a0 0 = some q7 ∧ Cal G (d - 1) mX10_walk [.ref a0, .int v5, .int (-1), .ref q7] h2 (fun r9 h10 => ∃ v12, r9 = some (.int v12) ∧ Cal G (d - 1) mX1_to [.ref a2] h10 (fun r13 h14 => ∃ v16, r13 = some (.int v16) ∧ ∃ q17, hR h14 a0 3 = some q17 ∧ Cal G (d - 1) mX10_walk [.ref a0, .int v16, .int (-1), .ref q17] h14 (fun r19 h20 => ∃ v22, r19 = some (.int v22) ∧ Cal G (d - 1) mX10_settle [.ref a0, .int (hI h20 a2 1), .int (hI h20 a2 2), .int (hI h20 a2 3), .int (hI h20 a2 4), .int (hI h20 a2 5)] h20 (fun r23 h24 => r23 = none ∧ Kd G h24 a1 9 ∧ Cal G (d - 1) mX9_has [.ref a1, .int (hI h24 a2 2), .int (hI h24 a2 3)] h24 (fun r26 h27 => ∃ v30, r26 = some (.int v30) ∧ Ex G d mX10_tryGates 68 [(0, .ref a0), (1, .ref a1), (2, .ref a2), (3, .int v30), (4, .int 0)] [] h27 Q))))))
set_option maxRecDepth 20000 in
theorem t_X10_tryGates {G : GG} {d : Nat} {h : HP} {Q : Option Value → HP → Prop} {a0 : Nat} {a1 : Nat} {a2 : Nat} (hd1 : 1 ≤ d) (ht : T_X10_tryGates G d h Q a0 a1 a2) : Ex G d mX10_tryGates 0 [(0, .ref a0), (1, .ref a1), (2, .ref a2)] [] h Q := by
  unfold T_X10_tryGates at ht
  refine x_aload_n (pc2 := 1) 0 (n := 0) (x := a0) rfl dX10_tryGates_0 rfl ?_
  refine x_aload_n (pc2 := 2) 2 (n := 2) (x := a2) rfl dX10_tryGates_1 rfl ?_
  obtain ⟨k4, ht⟩ := ht
  refine x_callV (pc2 := 5) (As := []) (rest := [.ref a0]) (b := a2) mv_X1_from ml_X10_128 k4 rfl rfl (Nat.le_of_ble_eq_true rfl) hd1 dX10_tryGates_2 rfl (ht.mono (fun r1 h2 p3 ht' => ?_))
  clear ht
  obtain ⟨v5, rfl, ht⟩ := ht'
  show Ex G d mX10_tryGates 5 [(0, .ref a0), (1, .ref a1), (2, .ref a2)] [.int v5, .ref a0] h2 Q
  refine x_iconst (pc2 := 6) (v := (-1)) (by decide) dX10_tryGates_5 rfl ?_
  refine x_aload_n (pc2 := 7) 0 (n := 0) (x := a0) rfl dX10_tryGates_6 rfl ?_
  obtain ⟨k6, ht⟩ := ht
  obtain ⟨q7, e8, ht⟩ := ht
  refine y_getR (pc2 := 10) (κ := 10) (k := 0) fl_X10_9 (by decide) (by decide) k6 rfl e8 dX10_tryGates_7 rfl ?_
  refine x_callV (pc2 := 13) (As := [.int v5, .int (-1), .ref q7]) (rest := []) (b := a0) mv_X10_walk ml_X10_133 k6 rfl rfl (Nat.le_of_ble_eq_true rfl) hd1 dX10_tryGates_10 rfl (ht.mono (fun r9 h10 p11 ht' => ?_))
  clear ht
  obtain ⟨v12, rfl, ht⟩ := ht'
  show Ex G d mX10_tryGates 13 [(0, .ref a0), (1, .ref a1), (2, .ref a2)] [.int v12] h10 Q
  refine x_pop (pc2 := 14) rfl dX10_tryGates_13 rfl ?_
  refine x_aload_n (pc2 := 15) 0 (n := 0) (x := a0) rfl dX10_tryGates_14 rfl ?_
  refine x_aload_n (pc2 := 16) 2 (n := 2) (x := a2) rfl dX10_tryGates_15 rfl ?_
  refine x_callV (pc2 := 19) (As := []) (rest := [.ref a0]) (b := a2) mv_X1_to ml_X10_137 ((k4.up p3).up p11) rfl rfl (Nat.le_of_ble_eq_true rfl) hd1 dX10_tryGates_16 rfl (ht.mono (fun r13 h14 p15 ht' => ?_))
  clear ht
  obtain ⟨v16, rfl, ht⟩ := ht'
  show Ex G d mX10_tryGates 19 [(0, .ref a0), (1, .ref a1), (2, .ref a2)] [.int v16, .ref a0] h14 Q
  refine x_iconst (pc2 := 20) (v := (-1)) (by decide) dX10_tryGates_19 rfl ?_
  refine x_aload_n (pc2 := 21) 0 (n := 0) (x := a0) rfl dX10_tryGates_20 rfl ?_
  obtain ⟨q17, e18, ht⟩ := ht
  refine y_getR (pc2 := 24) (κ := 10) (k := 3) fl_X10_15 (by decide) (by decide) ((k6.up p11).up p15) rfl e18 dX10_tryGates_21 rfl ?_
  refine x_callV (pc2 := 27) (As := [.int v16, .int (-1), .ref q17]) (rest := []) (b := a0) mv_X10_walk ml_X10_133 ((k6.up p11).up p15) rfl rfl (Nat.le_of_ble_eq_true rfl) hd1 dX10_tryGates_24 rfl (ht.mono (fun r19 h20 p21 ht' => ?_))
  clear ht
  obtain ⟨v22, rfl, ht⟩ := ht'
  show Ex G d mX10_tryGates 27 [(0, .ref a0), (1, .ref a1), (2, .ref a2)] [.int v22] h20 Q
  refine x_pop (pc2 := 28) rfl dX10_tryGates_27 rfl ?_
  refine x_aload_n (pc2 := 29) 0 (n := 0) (x := a0) rfl dX10_tryGates_28 rfl ?_
  refine x_aload_n (pc2 := 30) 2 (n := 2) (x := a2) rfl dX10_tryGates_29 rfl ?_
  refine y_getI (pc2 := 33) (κ := 1) (k := 1) fl_X10_140 (by decide) (by decide) ((((k4.up p3).up p11).up p15).up p21) rfl dX10_tryGates_30 rfl ?_
  refine x_aload_n (pc2 := 34) 2 (n := 2) (x := a2) rfl dX10_tryGates_33 rfl ?_
  refine y_getI (pc2 := 37) (κ := 1) (k := 2) fl_X10_143 (by decide) (by decide) ((((k4.up p3).up p11).up p15).up p21) rfl dX10_tryGates_34 rfl ?_
  refine x_aload_n (pc2 := 38) 2 (n := 2) (x := a2) rfl dX10_tryGates_37 rfl ?_
  refine y_getI (pc2 := 41) (κ := 1) (k := 3) fl_X10_144 (by decide) (by decide) ((((k4.up p3).up p11).up p15).up p21) rfl dX10_tryGates_38 rfl ?_
  refine x_aload_n (pc2 := 42) 2 (n := 2) (x := a2) rfl dX10_tryGates_41 rfl ?_
  refine y_getI (pc2 := 45) (κ := 1) (k := 4) fl_X10_145 (by decide) (by decide) ((((k4.up p3).up p11).up p15).up p21) rfl dX10_tryGates_42 rfl ?_
  refine x_aload_n (pc2 := 46) 2 (n := 2) (x := a2) rfl dX10_tryGates_45 rfl ?_
  refine y_getI (pc2 := 49) (κ := 1) (k := 5) fl_X10_146 (by decide) (by decide) ((((k4.up p3).up p11).up p15).up p21) rfl dX10_tryGates_46 rfl ?_
  refine x_callV (pc2 := 52) (As := [.int (hI h20 a2 1), .int (hI h20 a2 2), .int (hI h20 a2 3), .int (hI h20 a2 4), .int (hI h20 a2 5)]) (rest := []) (b := a0) mv_X10_settle ml_X10_147 (((k6.up p11).up p15).up p21) rfl rfl (Nat.le_of_ble_eq_true rfl) hd1 dX10_tryGates_49 rfl (ht.mono (fun r23 h24 p25 ht' => ?_))
  clear ht
  obtain ⟨rfl, ht⟩ := ht'
  show Ex G d mX10_tryGates 52 [(0, .ref a0), (1, .ref a1), (2, .ref a2)] [] h24 Q
  refine x_aload_n (pc2 := 53) 1 (n := 1) (x := a1) rfl dX10_tryGates_52 rfl ?_
  refine x_aload_n (pc2 := 54) 2 (n := 2) (x := a2) rfl dX10_tryGates_53 rfl ?_
  refine y_getI (pc2 := 57) (κ := 1) (k := 2) fl_X10_143 (by decide) (by decide) (((((k4.up p3).up p11).up p15).up p21).up p25) rfl dX10_tryGates_54 rfl ?_
  refine x_aload_n (pc2 := 58) 2 (n := 2) (x := a2) rfl dX10_tryGates_57 rfl ?_
  refine y_getI (pc2 := 61) (κ := 1) (k := 3) fl_X10_144 (by decide) (by decide) (((((k4.up p3).up p11).up p15).up p21).up p25) rfl dX10_tryGates_58 rfl ?_
  obtain ⟨k29, ht⟩ := ht
  refine x_callV (pc2 := 64) (As := [.int (hI h24 a2 2), .int (hI h24 a2 3)]) (rest := []) (b := a1) mv_X9_has ml_X10_117 k29 rfl rfl (Nat.le_of_ble_eq_true rfl) hd1 dX10_tryGates_61 rfl (ht.mono (fun r26 h27 p28 ht' => ?_))
  clear ht
  obtain ⟨v30, rfl, ht⟩ := ht'
  show Ex G d mX10_tryGates 64 [(0, .ref a0), (1, .ref a1), (2, .ref a2)] [.int v30] h27 Q
  refine x_istore_n (pc2 := 65) [1, 2, 3, 0] (n := 3) (x := v30) (lv2 := [(0, .ref a0), (1, .ref a1), (2, .ref a2), (3, .int v30)]) (by decide) rfl dX10_tryGates_64 rfl ?_
  refine x_iconst (pc2 := 66) (v := 0) (by decide) dX10_tryGates_65 rfl ?_
  refine x_istore (pc2 := 68) [1, 2, 3, 4, 0] (n := 4) (x := 0) (lv2 := [(0, .ref a0), (1, .ref a1), (2, .ref a2), (3, .int v30), (4, .int 0)]) (by decide) rfl dX10_tryGates_66 rfl ?_
  exact ht
theorem e_X10_tryGates {G : GG} {d : Nat} {h : HP} {Q : Option Value → HP → Prop} {a0 : Nat} {a1 : Nat} {a2 : Nat} (hd1 : 1 ≤ d) (ht : T_X10_tryGates G d h Q a0 a1 a2) : Cal G d mX10_tryGates [.ref a0, .ref a1, .ref a2] h Q := cal_of rfl (Nat.le_of_ble_eq_true rfl) (t_X10_tryGates hd1 ht)
def T_X10_tryGates_68 (G : GG) (d : Nat) (h : HP) (Q : Option Value → HP → Prop) (a0 : Nat) (a1 : Nat) (a2 : Nat) (x3 : Int32) (x4 : Int32) : Prop :=
  ((4 ≤ x4 → Q none h) ∧ (¬ 4 ≤ x4 → Ex G d mX10_tryGates 77 [(0, .ref a0), (1, .ref a1), (2, .ref a2), (3, .int x3), (4, .int x4), (5, .int 0)] [] h Q))
set_option maxRecDepth 20000 in
theorem t_X10_tryGates_68 {G : GG} {d : Nat} {h : HP} {Q : Option Value → HP → Prop} {a0 : Nat} {a1 : Nat} {a2 : Nat} {x3 : Int32} {x4 : Int32} (ht : T_X10_tryGates_68 G d h Q a0 a1 a2 x3 x4) : Ex G d mX10_tryGates 68 [(0, .ref a0), (1, .ref a1), (2, .ref a2), (3, .int x3), (4, .int x4)] [] h Q := by
  unfold T_X10_tryGates_68 at ht
  refine x_iload (pc2 := 70) 4 (n := 4) (x := x4) rfl dX10_tryGates_68 rfl ?_
  refine x_iconst (pc2 := 71) (v := 4) (by decide) dX10_tryGates_70 rfl ?_
  refine x_icmp_ge (pc2 := 74) 110 dX10_tryGates_71 (by decide) rfl (fun c1 => ?_) (fun c1 => ?_)
  · replace ht := ht.1 c1
    exact x_retV rfl dX10_tryGates_110 ht
  · replace ht := ht.2 c1
    refine x_iconst (pc2 := 75) (v := 0) (by decide) dX10_tryGates_74 rfl ?_
    refine x_istore (pc2 := 77) [1, 2, 3, 4, 5, 0] (n := 5) (x := 0) (lv2 := [(0, .ref a0), (1, .ref a1), (2, .ref a2), (3, .int x3), (4, .int x4), (5, .int 0)]) (by decide) rfl dX10_tryGates_75 rfl ?_
    exact ht
def T_X10_tryGates_77 (G : GG) (d : Nat) (h : HP) (Q : Option Value → HP → Prop) (a0 : Nat) (a1 : Nat) (a2 : Nat) (x3 : Int32) (x4 : Int32) (x5 : Int32) : Prop :=
  Kd G h a1 9 ∧ Cal G (d - 1) mX9_lengthOf [.ref a1, .int x4] h (fun r1 h2 => ∃ v5, r1 = some (.int v5) ∧ ((v5 ≤ x5 → Ex G d mX10_tryGates 68 [(0, .ref a0), (1, .ref a1), (2, .ref a2), (3, .int x3), (4, .int (x4 + 1))] [] h2 Q) ∧ (¬ v5 ≤ x5 → Kd G h2 a0 10 ∧ Cal G (d - 1) mX10_addGate [.ref a0, .ref a1, .int x4, .int x5, .int x3] h2 (fun r7 h8 => r7 = none ∧ Ex G d mX10_tryGates 77 [(0, .ref a0), (1, .ref a1), (2, .ref a2), (3, .int x3), (4, .int x4), (5, .int (x5 + 1))] [] h8 Q))))
set_option maxRecDepth 20000 in
theorem t_X10_tryGates_77 {G : GG} {d : Nat} {h : HP} {Q : Option Value → HP → Prop} {a0 : Nat} {a1 : Nat} {a2 : Nat} {x3 : Int32} {x4 : Int32} {x5 : Int32} (hd1 : 1 ≤ d) (ht : T_X10_tryGates_77 G d h Q a0 a1 a2 x3 x4 x5) : Ex G d mX10_tryGates 77 [(0, .ref a0), (1, .ref a1), (2, .ref a2), (3, .int x3), (4, .int x4), (5, .int x5)] [] h Q := by
  unfold T_X10_tryGates_77 at ht
  refine x_iload (pc2 := 79) 5 (n := 5) (x := x5) rfl dX10_tryGates_77 rfl ?_
  refine x_aload_n (pc2 := 80) 1 (n := 1) (x := a1) rfl dX10_tryGates_79 rfl ?_
  refine x_iload (pc2 := 82) 4 (n := 4) (x := x4) rfl dX10_tryGates_80 rfl ?_
  obtain ⟨k4, ht⟩ := ht
  refine x_callV (pc2 := 85) (As := [.int x4]) (rest := [.int x5]) (b := a1) mv_X9_lengthOf ml_X10_151 k4 rfl rfl (Nat.le_of_ble_eq_true rfl) hd1 dX10_tryGates_82 rfl (ht.mono (fun r1 h2 p3 ht' => ?_))
  clear ht
  obtain ⟨v5, rfl, ht⟩ := ht'
  show Ex G d mX10_tryGates 85 [(0, .ref a0), (1, .ref a1), (2, .ref a2), (3, .int x3), (4, .int x4), (5, .int x5)] [.int v5, .int x5] h2 Q
  refine x_icmp_ge (pc2 := 88) 104 dX10_tryGates_85 (by decide) rfl (fun c6 => ?_) (fun c6 => ?_)
  · replace ht := ht.1 c6
    refine x_iinc (pc2 := 107) 4 [1, 2, 3, 4, 0, 5] (i := 4) (x := x4) (v := (x4 + 1)) (lv2 := [(0, .ref a0), (1, .ref a1), (2, .ref a2), (3, .int x3), (4, .int (x4 + 1)), (5, .int x5)]) rfl (iinc_eq (by decide) _) (by decide) rfl dX10_tryGates_104 rfl ?_
    refine x_goto 68 dX10_tryGates_107 (by decide) ?_
    refine x_sub [0, 1, 2, 3, 4] (lv2 := [(0, .ref a0), (1, .ref a1), (2, .ref a2), (3, .int x3), (4, .int (x4 + 1))]) rfl ?_
    exact ht
  · replace ht := ht.2 c6
    refine x_aload_n (pc2 := 89) 0 (n := 0) (x := a0) rfl dX10_tryGates_88 rfl ?_
    refine x_aload_n (pc2 := 90) 1 (n := 1) (x := a1) rfl dX10_tryGates_89 rfl ?_
    refine x_iload (pc2 := 92) 4 (n := 4) (x := x4) rfl dX10_tryGates_90 rfl ?_
    refine x_iload (pc2 := 94) 5 (n := 5) (x := x5) rfl dX10_tryGates_92 rfl ?_
    refine x_iload_n (pc2 := 95) 3 (n := 3) (x := x3) rfl dX10_tryGates_94 rfl ?_
    obtain ⟨k10, ht⟩ := ht
    refine x_callV (pc2 := 98) (As := [.ref a1, .int x4, .int x5, .int x3]) (rest := []) (b := a0) mv_X10_addGate ml_X10_154 k10 rfl rfl (Nat.le_of_ble_eq_true rfl) hd1 dX10_tryGates_95 rfl (ht.mono (fun r7 h8 p9 ht' => ?_))
    clear ht
    obtain ⟨rfl, ht⟩ := ht'
    show Ex G d mX10_tryGates 98 [(0, .ref a0), (1, .ref a1), (2, .ref a2), (3, .int x3), (4, .int x4), (5, .int x5)] [] h8 Q
    refine x_iinc (pc2 := 101) 5 [1, 2, 3, 4, 5, 0] (i := 5) (x := x5) (v := (x5 + 1)) (lv2 := [(0, .ref a0), (1, .ref a1), (2, .ref a2), (3, .int x3), (4, .int x4), (5, .int (x5 + 1))]) rfl (iinc_eq (by decide) _) (by decide) rfl dX10_tryGates_98 rfl ?_
    refine x_goto 77 dX10_tryGates_101 (by decide) ?_
    exact ht
def T_X10_addGate (G : GG) (d : Nat) (h : HP) (Q : Option Value → HP → Prop) (a0 : Nat) (a1 : Nat) (x2 : Int32) (x3 : Int32) (x4 : Int32) : Prop :=
  ((¬ x2 = 1 → ((¬ x2 = 3 → Kd G h a1 9 ∧ Ex G d mX10_addGate 32 [(0, .ref a0), (1, .ref a1), (2, .int x2), (3, .int x3), (4, .int x4)] [.int ((hI h a1 1) + x3)] h Q) ∧ (x2 = 3 → Kd G h a1 9 ∧ Ex G d mX10_addGate 32 [(0, .ref a0), (1, .ref a1), (2, .int x2), (3, .int x3), (4, .int x4)] [.int (hI h a1 1)] h Q))) ∧ (x2 = 1 → Kd G h a1 9 ∧ Ex G d mX10_addGate 32 [(0, .ref a0), (1, .ref a1), (2, .int x2), (3, .int x3), (4, .int x4)] [.int ((hI h a1 3) - 1)] h Q))
set_option maxRecDepth 20000 in
theorem t_X10_addGate {G : GG} {d : Nat} {h : HP} {Q : Option Value → HP → Prop} {a0 : Nat} {a1 : Nat} {x2 : Int32} {x3 : Int32} {x4 : Int32} (ht : T_X10_addGate G d h Q a0 a1 x2 x3 x4) : Ex G d mX10_addGate 0 [(0, .ref a0), (1, .ref a1), (2, .int x2), (3, .int x3), (4, .int x4)] [] h Q := by
  unfold T_X10_addGate at ht
  refine x_iload_n (pc2 := 1) 2 (n := 2) (x := x2) rfl dX10_addGate_0 rfl ?_
  refine x_iconst (pc2 := 2) (v := 1) (by decide) dX10_addGate_1 rfl ?_
  refine y_icmp_ne (pc2 := 5) 14 dX10_addGate_2 (by decide) rfl (fun c1 => ?_) (fun c1 => ?_)
  · replace ht := ht.1 c1
    refine x_iload_n (pc2 := 15) 2 (n := 2) (x := x2) rfl dX10_addGate_14 rfl ?_
    refine x_iconst (pc2 := 16) (v := 3) (by decide) dX10_addGate_15 rfl ?_
    refine y_icmp_ne (pc2 := 19) 26 dX10_addGate_16 (by decide) rfl (fun c2 => ?_) (fun c2 => ?_)
    · replace ht := ht.1 c2
      refine x_aload_n (pc2 := 27) 1 (n := 1) (x := a1) rfl dX10_addGate_26 rfl ?_
      obtain ⟨k3, ht⟩ := ht
      refine y_getI (pc2 := 30) (κ := 9) (k := 1) fl_X10_86 (by decide) (by decide) k3 rfl dX10_addGate_27 rfl ?_
      refine x_iload_n (pc2 := 31) 3 (n := 3) (x := x3) rfl dX10_addGate_30 rfl ?_
      refine x_iadd (pc2 := 32) dX10_addGate_31 rfl ?_
      exact ht
    · replace ht := ht.2 c2
      refine x_aload_n (pc2 := 20) 1 (n := 1) (x := a1) rfl dX10_addGate_19 rfl ?_
      obtain ⟨k4, ht⟩ := ht
      refine y_getI (pc2 := 23) (κ := 9) (k := 1) fl_X10_86 (by decide) (by decide) k4 rfl dX10_addGate_20 rfl ?_
      refine x_goto 32 dX10_addGate_23 (by decide) ?_
      exact ht
  · replace ht := ht.2 c1
    refine x_aload_n (pc2 := 6) 1 (n := 1) (x := a1) rfl dX10_addGate_5 rfl ?_
    obtain ⟨k5, ht⟩ := ht
    refine y_getI (pc2 := 9) (κ := 9) (k := 3) fl_X10_89 (by decide) (by decide) k5 rfl dX10_addGate_6 rfl ?_
    refine x_iconst (pc2 := 10) (v := 1) (by decide) dX10_addGate_9 rfl ?_
    refine x_isub (pc2 := 11) dX10_addGate_10 rfl ?_
    refine x_goto 32 dX10_addGate_11 (by decide) ?_
    exact ht
theorem e_X10_addGate {G : GG} {d : Nat} {h : HP} {Q : Option Value → HP → Prop} {a0 : Nat} {a1 : Nat} {x2 : Int32} {x3 : Int32} {x4 : Int32} (ht : T_X10_addGate G d h Q a0 a1 x2 x3 x4) : Cal G d mX10_addGate [.ref a0, .ref a1, .int x2, .int x3, .int x4] h Q := cal_of rfl (Nat.le_of_ble_eq_true rfl) (t_X10_addGate ht)
def T_X10_addGate_32 (G : GG) (d : Nat) (h : HP) (Q : Option Value → HP → Prop) (a0 : Nat) (a1 : Nat) (x2 : Int32) (x3 : Int32) (x4 : Int32) (sx0 : Int32) : Prop :=
  ((¬ x2 = 0 → ((¬ x2 = 2 → Kd G h a1 9 ∧ Ex G d mX10_addGate 65 [(0, .ref a0), (1, .ref a1), (2, .int x2), (3, .int x3), (4, .int x4), (5, .int sx0)] [.int ((hI h a1 2) + x3)] h Q) ∧ (x2 = 2 → Kd G h a1 9 ∧ Ex G d mX10_addGate 65 [(0, .ref a0), (1, .ref a1), (2, .int x2), (3, .int x3), (4, .int x4), (5, .int sx0)] [.int ((hI h a1 4) - 1)] h Q))) ∧ (x2 = 0 → Kd G h a1 9 ∧ Ex G d mX10_addGate 65 [(0, .ref a0), (1, .ref a1), (2, .int x2), (3, .int x3), (4, .int x4), (5, .int sx0)] [.int (hI h a1 2)] h Q))
set_option maxRecDepth 20000 in
theorem t_X10_addGate_32 {G : GG} {d : Nat} {h : HP} {Q : Option Value → HP → Prop} {a0 : Nat} {a1 : Nat} {x2 : Int32} {x3 : Int32} {x4 : Int32} {sx0 : Int32} (ht : T_X10_addGate_32 G d h Q a0 a1 x2 x3 x4 sx0) : Ex G d mX10_addGate 32 [(0, .ref a0), (1, .ref a1), (2, .int x2), (3, .int x3), (4, .int x4)] [.int sx0] h Q := by
  unfold T_X10_addGate_32 at ht
  refine x_istore (pc2 := 34) [1, 2, 3, 4, 5, 0] (n := 5) (x := sx0) (lv2 := [(0, .ref a0), (1, .ref a1), (2, .int x2), (3, .int x3), (4, .int x4), (5, .int sx0)]) (by decide) rfl dX10_addGate_32 rfl ?_
  refine x_iload_n (pc2 := 35) 2 (n := 2) (x := x2) rfl dX10_addGate_34 rfl ?_
  refine y_if_ne (pc2 := 38) 45 dX10_addGate_35 (by decide) rfl (fun c1 => ?_) (fun c1 => ?_)
  · replace ht := ht.1 c1
    refine x_iload_n (pc2 := 46) 2 (n := 2) (x := x2) rfl dX10_addGate_45 rfl ?_
    refine x_iconst (pc2 := 47) (v := 2) (by decide) dX10_addGate_46 rfl ?_
    refine y_icmp_ne (pc2 := 50) 59 dX10_addGate_47 (by decide) rfl (fun c2 => ?_) (fun c2 => ?_)
    · replace ht := ht.1 c2
      refine x_aload_n (pc2 := 60) 1 (n := 1) (x := a1) rfl dX10_addGate_59 rfl ?_
      obtain ⟨k3, ht⟩ := ht
      refine y_getI (pc2 := 63) (κ := 9) (k := 2) fl_X10_80 (by decide) (by decide) k3 rfl dX10_addGate_60 rfl ?_
      refine x_iload_n (pc2 := 64) 3 (n := 3) (x := x3) rfl dX10_addGate_63 rfl ?_
      refine x_iadd (pc2 := 65) dX10_addGate_64 rfl ?_
      exact ht
    · replace ht := ht.2 c2
      refine x_aload_n (pc2 := 51) 1 (n := 1) (x := a1) rfl dX10_addGate_50 rfl ?_
      obtain ⟨k4, ht⟩ := ht
      refine y_getI (pc2 := 54) (κ := 9) (k := 4) fl_X10_83 (by decide) (by decide) k4 rfl dX10_addGate_51 rfl ?_
      refine x_iconst (pc2 := 55) (v := 1) (by decide) dX10_addGate_54 rfl ?_
      refine x_isub (pc2 := 56) dX10_addGate_55 rfl ?_
      refine x_goto 65 dX10_addGate_56 (by decide) ?_
      exact ht
  · replace ht := ht.2 c1
    refine x_aload_n (pc2 := 39) 1 (n := 1) (x := a1) rfl dX10_addGate_38 rfl ?_
    obtain ⟨k5, ht⟩ := ht
    refine y_getI (pc2 := 42) (κ := 9) (k := 2) fl_X10_80 (by decide) (by decide) k5 rfl dX10_addGate_39 rfl ?_
    refine x_goto 65 dX10_addGate_42 (by decide) ?_
    exact ht
def T_X10_addGate_65 (G : GG) (d : Nat) (h : HP) (Q : Option Value → HP → Prop) (a0 : Nat) (a1 : Nat) (x2 : Int32) (x3 : Int32) (x4 : Int32) (x5 : Int32) (sx0 : Int32) : Prop :=
  ((¬ x2 = 1 → ((¬ x2 = 3 → Ex G d mX10_addGate 93 [(0, .ref a0), (1, .ref a1), (2, .int x2), (3, .int x3), (4, .int x4), (5, .int x5), (6, .int sx0)] [.int x5] h Q) ∧ (x2 = 3 → Ex G d mX10_addGate 93 [(0, .ref a0), (1, .ref a1), (2, .int x2), (3, .int x3), (4, .int x4), (5, .int x5), (6, .int sx0)] [.int (x5 - 1)] h Q))) ∧ (x2 = 1 → Ex G d mX10_addGate 93 [(0, .ref a0), (1, .ref a1), (2, .int x2), (3, .int x3), (4, .int x4), (5, .int x5), (6, .int sx0)] [.int (x5 + 1)] h Q))
set_option maxRecDepth 20000 in
theorem t_X10_addGate_65 {G : GG} {d : Nat} {h : HP} {Q : Option Value → HP → Prop} {a0 : Nat} {a1 : Nat} {x2 : Int32} {x3 : Int32} {x4 : Int32} {x5 : Int32} {sx0 : Int32} (ht : T_X10_addGate_65 G d h Q a0 a1 x2 x3 x4 x5 sx0) : Ex G d mX10_addGate 65 [(0, .ref a0), (1, .ref a1), (2, .int x2), (3, .int x3), (4, .int x4), (5, .int x5)] [.int sx0] h Q := by
  unfold T_X10_addGate_65 at ht
  refine x_istore (pc2 := 67) [1, 2, 3, 4, 5, 6, 0] (n := 6) (x := sx0) (lv2 := [(0, .ref a0), (1, .ref a1), (2, .int x2), (3, .int x3), (4, .int x4), (5, .int x5), (6, .int sx0)]) (by decide) rfl dX10_addGate_65 rfl ?_
  refine x_iload_n (pc2 := 68) 2 (n := 2) (x := x2) rfl dX10_addGate_67 rfl ?_
  refine x_iconst (pc2 := 69) (v := 1) (by decide) dX10_addGate_68 rfl ?_
  refine y_icmp_ne (pc2 := 72) 79 dX10_addGate_69 (by decide) rfl (fun c1 => ?_) (fun c1 => ?_)
  · replace ht := ht.1 c1
    refine x_iload_n (pc2 := 80) 2 (n := 2) (x := x2) rfl dX10_addGate_79 rfl ?_
    refine x_iconst (pc2 := 81) (v := 3) (by decide) dX10_addGate_80 rfl ?_
    refine y_icmp_ne (pc2 := 84) 91 dX10_addGate_81 (by decide) rfl (fun c2 => ?_) (fun c2 => ?_)
    · replace ht := ht.1 c2
      refine x_iload (pc2 := 93) 5 (n := 5) (x := x5) rfl dX10_addGate_91 rfl ?_
      exact ht
    · replace ht := ht.2 c2
      refine x_iload (pc2 := 86) 5 (n := 5) (x := x5) rfl dX10_addGate_84 rfl ?_
      refine x_iconst (pc2 := 87) (v := 1) (by decide) dX10_addGate_86 rfl ?_
      refine x_isub (pc2 := 88) dX10_addGate_87 rfl ?_
      refine x_goto 93 dX10_addGate_88 (by decide) ?_
      exact ht
  · replace ht := ht.2 c1
    refine x_iload (pc2 := 74) 5 (n := 5) (x := x5) rfl dX10_addGate_72 rfl ?_
    refine x_iconst (pc2 := 75) (v := 1) (by decide) dX10_addGate_74 rfl ?_
    refine x_iadd (pc2 := 76) dX10_addGate_75 rfl ?_
    refine x_goto 93 dX10_addGate_76 (by decide) ?_
    exact ht
def T_X10_addGate_93 (G : GG) (d : Nat) (h : HP) (Q : Option Value → HP → Prop) (a0 : Nat) (a1 : Nat) (x2 : Int32) (x3 : Int32) (x4 : Int32) (x5 : Int32) (x6 : Int32) (sx0 : Int32) : Prop :=
  ((¬ x2 = 0 → ((¬ x2 = 2 → Ex G d mX10_addGate 120 [(0, .ref a0), (1, .ref a1), (2, .int x2), (3, .int x3), (4, .int x4), (5, .int x5), (6, .int x6), (7, .int sx0)] [.int x6] h Q) ∧ (x2 = 2 → Ex G d mX10_addGate 120 [(0, .ref a0), (1, .ref a1), (2, .int x2), (3, .int x3), (4, .int x4), (5, .int x5), (6, .int x6), (7, .int sx0)] [.int (x6 + 1)] h Q))) ∧ (x2 = 0 → Ex G d mX10_addGate 120 [(0, .ref a0), (1, .ref a1), (2, .int x2), (3, .int x3), (4, .int x4), (5, .int x5), (6, .int x6), (7, .int sx0)] [.int (x6 - 1)] h Q))
set_option maxRecDepth 20000 in
theorem t_X10_addGate_93 {G : GG} {d : Nat} {h : HP} {Q : Option Value → HP → Prop} {a0 : Nat} {a1 : Nat} {x2 : Int32} {x3 : Int32} {x4 : Int32} {x5 : Int32} {x6 : Int32} {sx0 : Int32} (ht : T_X10_addGate_93 G d h Q a0 a1 x2 x3 x4 x5 x6 sx0) : Ex G d mX10_addGate 93 [(0, .ref a0), (1, .ref a1), (2, .int x2), (3, .int x3), (4, .int x4), (5, .int x5), (6, .int x6)] [.int sx0] h Q := by
  unfold T_X10_addGate_93 at ht
  refine x_istore (pc2 := 95) [1, 2, 3, 4, 5, 6, 7, 0] (n := 7) (x := sx0) (lv2 := [(0, .ref a0), (1, .ref a1), (2, .int x2), (3, .int x3), (4, .int x4), (5, .int x5), (6, .int x6), (7, .int sx0)]) (by decide) rfl dX10_addGate_93 rfl ?_
  refine x_iload_n (pc2 := 96) 2 (n := 2) (x := x2) rfl dX10_addGate_95 rfl ?_
  refine y_if_ne (pc2 := 99) 106 dX10_addGate_96 (by decide) rfl (fun c1 => ?_) (fun c1 => ?_)
  · replace ht := ht.1 c1
    refine x_iload_n (pc2 := 107) 2 (n := 2) (x := x2) rfl dX10_addGate_106 rfl ?_
    refine x_iconst (pc2 := 108) (v := 2) (by decide) dX10_addGate_107 rfl ?_
    refine y_icmp_ne (pc2 := 111) 118 dX10_addGate_108 (by decide) rfl (fun c2 => ?_) (fun c2 => ?_)
    · replace ht := ht.1 c2
      refine x_iload (pc2 := 120) 6 (n := 6) (x := x6) rfl dX10_addGate_118 rfl ?_
      exact ht
    · replace ht := ht.2 c2
      refine x_iload (pc2 := 113) 6 (n := 6) (x := x6) rfl dX10_addGate_111 rfl ?_
      refine x_iconst (pc2 := 114) (v := 1) (by decide) dX10_addGate_113 rfl ?_
      refine x_iadd (pc2 := 115) dX10_addGate_114 rfl ?_
      refine x_goto 120 dX10_addGate_115 (by decide) ?_
      exact ht
  · replace ht := ht.2 c1
    refine x_iload (pc2 := 101) 6 (n := 6) (x := x6) rfl dX10_addGate_99 rfl ?_
    refine x_iconst (pc2 := 102) (v := 1) (by decide) dX10_addGate_101 rfl ?_
    refine x_isub (pc2 := 103) dX10_addGate_102 rfl ?_
    refine x_goto 120 dX10_addGate_103 (by decide) ?_
    exact ht
def T_X10_addGate_120 (G : GG) (d : Nat) (h : HP) (Q : Option Value → HP → Prop) (a0 : Nat) (a1 : Nat) (x2 : Int32) (x3 : Int32) (x4 : Int32) (x5 : Int32) (x6 : Int32) (x7 : Int32) (sx0 : Int32) : Prop :=
  Kd G h a0 10 ∧ ∃ q2, hR h a0 9 = some q2 ∧ Kd G h q2 6 ∧ Cal G (d - 1) mX6_hasCell [.ref q2, .int x7, .int sx0] h (fun r4 h5 => ∃ v8, r4 = some (.int v8) ∧ ((v8 = 0 → Ex G d mX10_addGate 200 [(0, .ref a0), (1, .ref a1), (2, .int x2), (3, .int x3), (4, .int x4), (5, .int x5), (6, .int x6), (7, .int x7), (8, .int sx0), (9, .int (-1)), (10, .int (-1))] [] h5 Q) ∧ (¬ v8 = 0 → ∃ q10, hR h5 a0 0 = some q10 ∧ ((x4 = 0 → Ex G d mX10_addGate 178 [(0, .ref a0), (1, .ref a1), (2, .int x2), (3, .int x3), (4, .int x4), (5, .int x5), (6, .int x6), (7, .int x7), (8, .int sx0), (9, .int (-1)), (10, .int (-1)), (11, .int ((x6 * 40) + x5)), (12, .int ((sx0 * 40) + x7))] [.int ((sx0 * 40) + x7), .ref q10] h5 Q) ∧ (¬ x4 = 0 → Ex G d mX10_addGate 178 [(0, .ref a0), (1, .ref a1), (2, .int x2), (3, .int x3), (4, .int x4), (5, .int x5), (6, .int x6), (7, .int x7), (8, .int sx0), (9, .int (-1)), (10, .int (-1)), (11, .int ((x6 * 40) + x5)), (12, .int ((sx0 * 40) + x7))] [.int ((x6 * 40) + x5), .ref q10] h5 Q)))))
set_option maxRecDepth 20000 in
theorem t_X10_addGate_120 {G : GG} {d : Nat} {h : HP} {Q : Option Value → HP → Prop} {a0 : Nat} {a1 : Nat} {x2 : Int32} {x3 : Int32} {x4 : Int32} {x5 : Int32} {x6 : Int32} {x7 : Int32} {sx0 : Int32} (hd1 : 1 ≤ d) (ht : T_X10_addGate_120 G d h Q a0 a1 x2 x3 x4 x5 x6 x7 sx0) : Ex G d mX10_addGate 120 [(0, .ref a0), (1, .ref a1), (2, .int x2), (3, .int x3), (4, .int x4), (5, .int x5), (6, .int x6), (7, .int x7)] [.int sx0] h Q := by
  unfold T_X10_addGate_120 at ht
  refine x_istore (pc2 := 122) [1, 2, 3, 4, 5, 6, 7, 8, 0] (n := 8) (x := sx0) (lv2 := [(0, .ref a0), (1, .ref a1), (2, .int x2), (3, .int x3), (4, .int x4), (5, .int x5), (6, .int x6), (7, .int x7), (8, .int sx0)]) (by decide) rfl dX10_addGate_120 rfl ?_
  refine x_iconst (pc2 := 123) (v := (-1)) (by decide) dX10_addGate_122 rfl ?_
  refine x_istore (pc2 := 125) [1, 2, 3, 4, 5, 6, 7, 8, 9, 0] (n := 9) (x := (-1)) (lv2 := [(0, .ref a0), (1, .ref a1), (2, .int x2), (3, .int x3), (4, .int x4), (5, .int x5), (6, .int x6), (7, .int x7), (8, .int sx0), (9, .int (-1))]) (by decide) rfl dX10_addGate_123 rfl ?_
  refine x_iconst (pc2 := 126) (v := (-1)) (by decide) dX10_addGate_125 rfl ?_
  refine x_istore (pc2 := 128) [1, 2, 3, 4, 5, 6, 7, 8, 9, 10, 0] (n := 10) (x := (-1)) (lv2 := [(0, .ref a0), (1, .ref a1), (2, .int x2), (3, .int x3), (4, .int x4), (5, .int x5), (6, .int x6), (7, .int x7), (8, .int sx0), (9, .int (-1)), (10, .int (-1))]) (by decide) rfl dX10_addGate_126 rfl ?_
  refine x_aload_n (pc2 := 129) 0 (n := 0) (x := a0) rfl dX10_addGate_128 rfl ?_
  obtain ⟨k1, ht⟩ := ht
  obtain ⟨q2, e3, ht⟩ := ht
  refine y_getR (pc2 := 132) (κ := 10) (k := 9) fl_X10_33 (by decide) (by decide) k1 rfl e3 dX10_addGate_129 rfl ?_
  refine x_iload (pc2 := 134) 7 (n := 7) (x := x7) rfl dX10_addGate_132 rfl ?_
  refine x_iload (pc2 := 136) 8 (n := 8) (x := sx0) rfl dX10_addGate_134 rfl ?_
  obtain ⟨k7, ht⟩ := ht
  refine x_callV (pc2 := 139) (As := [.int x7, .int sx0]) (rest := []) (b := q2) mv_X6_hasCell ml_X10_158 k7 rfl rfl (Nat.le_of_ble_eq_true rfl) hd1 dX10_addGate_136 rfl (ht.mono (fun r4 h5 p6 ht' => ?_))
  clear ht
  obtain ⟨v8, rfl, ht⟩ := ht'
  show Ex G d mX10_addGate 139 [(0, .ref a0), (1, .ref a1), (2, .int x2), (3, .int x3), (4, .int x4), (5, .int x5), (6, .int x6), (7, .int x7), (8, .int sx0), (9, .int (-1)), (10, .int (-1))] [.int v8] h5 Q
  refine x_if_eq (pc2 := 142) 200 dX10_addGate_139 (by decide) rfl (fun c9 => ?_) (fun c9 => ?_)
  · replace ht := ht.1 c9
    exact ht
  · replace ht := ht.2 c9
    refine x_iload (pc2 := 144) 6 (n := 6) (x := x6) rfl dX10_addGate_142 rfl ?_
    refine x_bipush (pc2 := 146) (v := 40) (by decide) dX10_addGate_144 rfl ?_
    refine x_imul (pc2 := 147) dX10_addGate_146 rfl ?_
    refine x_iload (pc2 := 149) 5 (n := 5) (x := x5) rfl dX10_addGate_147 rfl ?_
    refine x_iadd (pc2 := 150) dX10_addGate_149 rfl ?_
    refine x_istore (pc2 := 152) [1, 2, 3, 4, 5, 6, 7, 8, 9, 10, 11, 0] (n := 11) (x := ((x6 * 40) + x5)) (lv2 := [(0, .ref a0), (1, .ref a1), (2, .int x2), (3, .int x3), (4, .int x4), (5, .int x5), (6, .int x6), (7, .int x7), (8, .int sx0), (9, .int (-1)), (10, .int (-1)), (11, .int ((x6 * 40) + x5))]) (by decide) rfl dX10_addGate_150 rfl ?_
    refine x_iload (pc2 := 154) 8 (n := 8) (x := sx0) rfl dX10_addGate_152 rfl ?_
    refine x_bipush (pc2 := 156) (v := 40) (by decide) dX10_addGate_154 rfl ?_
    refine x_imul (pc2 := 157) dX10_addGate_156 rfl ?_
    refine x_iload (pc2 := 159) 7 (n := 7) (x := x7) rfl dX10_addGate_157 rfl ?_
    refine x_iadd (pc2 := 160) dX10_addGate_159 rfl ?_
    refine x_istore (pc2 := 162) [1, 2, 3, 4, 5, 6, 7, 8, 9, 10, 11, 12, 0] (n := 12) (x := ((sx0 * 40) + x7)) (lv2 := [(0, .ref a0), (1, .ref a1), (2, .int x2), (3, .int x3), (4, .int x4), (5, .int x5), (6, .int x6), (7, .int x7), (8, .int sx0), (9, .int (-1)), (10, .int (-1)), (11, .int ((x6 * 40) + x5)), (12, .int ((sx0 * 40) + x7))]) (by decide) rfl dX10_addGate_160 rfl ?_
    refine x_aload_n (pc2 := 163) 0 (n := 0) (x := a0) rfl dX10_addGate_162 rfl ?_
    obtain ⟨q10, e11, ht⟩ := ht
    refine y_getR (pc2 := 166) (κ := 10) (k := 0) fl_X10_9 (by decide) (by decide) (k1.up p6) rfl e11 dX10_addGate_163 rfl ?_
    refine x_iload (pc2 := 168) 4 (n := 4) (x := x4) rfl dX10_addGate_166 rfl ?_
    refine x_if_eq (pc2 := 171) 176 dX10_addGate_168 (by decide) rfl (fun c12 => ?_) (fun c12 => ?_)
    · replace ht := ht.1 c12
      refine x_iload (pc2 := 178) 12 (n := 12) (x := ((sx0 * 40) + x7)) rfl dX10_addGate_176 rfl ?_
      exact ht
    · replace ht := ht.2 c12
      refine x_iload (pc2 := 173) 11 (n := 11) (x := ((x6 * 40) + x5)) rfl dX10_addGate_171 rfl ?_
      refine x_goto 178 dX10_addGate_173 (by decide) ?_
      exact ht
def T_X10_addGate_178 (G : GG) (d : Nat) (h : HP) (Q : Option Value → HP → Prop) (a0 : Nat) (a1 : Nat) (x2 : Int32) (x3 : Int32) (x4 : Int32) (x5 : Int32) (x6 : Int32) (x7 : Int32) (x8 : Int32) (x9 : Int32) (x10 : Int32) (x11 : Int32) (x12 : Int32) (sa0 : Nat) (sx1 : Int32) : Prop :=
  Kd G h sa0 14 ∧ vp_in sx1 (hN h sa0) ∧ Kd G h a0 10 ∧ ∃ q4, hR h a0 3 = some q4 ∧ ((x4 = 0 → Kd G h q4 14 ∧ vp_in x11 (hN h q4) ∧ Ex G d mX10_addGate 200 [(0, .ref a0), (1, .ref a1), (2, .int x2), (3, .int x3), (4, .int x4), (5, .int x5), (6, .int x6), (7, .int x7), (8, .int x8), (9, .int (hI h sa0 sx1.toNatClampNeg)), (10, .int (hI h q4 x11.toNatClampNeg))] [] h Q) ∧ (¬ x4 = 0 → Kd G h q4 14 ∧ vp_in x12 (hN h q4) ∧ Ex G d mX10_addGate 200 [(0, .ref a0), (1, .ref a1), (2, .int x2), (3, .int x3), (4, .int x4), (5, .int x5), (6, .int x6), (7, .int x7), (8, .int x8), (9, .int (hI h sa0 sx1.toNatClampNeg)), (10, .int (hI h q4 x12.toNatClampNeg))] [] h Q))
set_option maxRecDepth 20000 in
theorem t_X10_addGate_178 {G : GG} {d : Nat} {h : HP} {Q : Option Value → HP → Prop} {a0 : Nat} {a1 : Nat} {x2 : Int32} {x3 : Int32} {x4 : Int32} {x5 : Int32} {x6 : Int32} {x7 : Int32} {x8 : Int32} {x9 : Int32} {x10 : Int32} {x11 : Int32} {x12 : Int32} {sa0 : Nat} {sx1 : Int32} (ht : T_X10_addGate_178 G d h Q a0 a1 x2 x3 x4 x5 x6 x7 x8 x9 x10 x11 x12 sa0 sx1) : Ex G d mX10_addGate 178 [(0, .ref a0), (1, .ref a1), (2, .int x2), (3, .int x3), (4, .int x4), (5, .int x5), (6, .int x6), (7, .int x7), (8, .int x8), (9, .int x9), (10, .int x10), (11, .int x11), (12, .int x12)] [.int sx1, .ref sa0] h Q := by
  unfold T_X10_addGate_178 at ht
  obtain ⟨k1, ht⟩ := ht
  obtain ⟨b2, ht⟩ := ht
  refine x_iald (pc2 := 179) k1 b2 dX10_addGate_178 rfl ?_
  refine x_istore (pc2 := 181) [1, 2, 3, 4, 5, 6, 7, 8, 9, 0, 10, 11, 12] (n := 9) (x := (hI h sa0 sx1.toNatClampNeg)) (lv2 := [(0, .ref a0), (1, .ref a1), (2, .int x2), (3, .int x3), (4, .int x4), (5, .int x5), (6, .int x6), (7, .int x7), (8, .int x8), (9, .int (hI h sa0 sx1.toNatClampNeg)), (10, .int x10), (11, .int x11), (12, .int x12)]) (by decide) rfl dX10_addGate_179 rfl ?_
  refine x_aload_n (pc2 := 182) 0 (n := 0) (x := a0) rfl dX10_addGate_181 rfl ?_
  obtain ⟨k3, ht⟩ := ht
  obtain ⟨q4, e5, ht⟩ := ht
  refine y_getR (pc2 := 185) (κ := 10) (k := 3) fl_X10_15 (by decide) (by decide) k3 rfl e5 dX10_addGate_182 rfl ?_
  refine x_iload (pc2 := 187) 4 (n := 4) (x := x4) rfl dX10_addGate_185 rfl ?_
  refine x_if_eq (pc2 := 190) 195 dX10_addGate_187 (by decide) rfl (fun c6 => ?_) (fun c6 => ?_)
  · replace ht := ht.1 c6
    refine x_iload (pc2 := 197) 11 (n := 11) (x := x11) rfl dX10_addGate_195 rfl ?_
    obtain ⟨k7, ht⟩ := ht
    obtain ⟨b8, ht⟩ := ht
    refine x_iald (pc2 := 198) k7 b8 dX10_addGate_197 rfl ?_
    refine x_istore (pc2 := 200) [1, 2, 3, 4, 5, 6, 7, 8, 9, 10, 0, 11, 12] (n := 10) (x := (hI h q4 x11.toNatClampNeg)) (lv2 := [(0, .ref a0), (1, .ref a1), (2, .int x2), (3, .int x3), (4, .int x4), (5, .int x5), (6, .int x6), (7, .int x7), (8, .int x8), (9, .int (hI h sa0 sx1.toNatClampNeg)), (10, .int (hI h q4 x11.toNatClampNeg)), (11, .int x11), (12, .int x12)]) (by decide) rfl dX10_addGate_198 rfl ?_
    refine x_sub [0, 1, 2, 3, 4, 5, 6, 7, 8, 9, 10] (lv2 := [(0, .ref a0), (1, .ref a1), (2, .int x2), (3, .int x3), (4, .int x4), (5, .int x5), (6, .int x6), (7, .int x7), (8, .int x8), (9, .int (hI h sa0 sx1.toNatClampNeg)), (10, .int (hI h q4 x11.toNatClampNeg))]) rfl ?_
    exact ht
  · replace ht := ht.2 c6
    refine x_iload (pc2 := 192) 12 (n := 12) (x := x12) rfl dX10_addGate_190 rfl ?_
    refine x_goto 197 dX10_addGate_192 (by decide) ?_
    obtain ⟨k9, ht⟩ := ht
    obtain ⟨b10, ht⟩ := ht
    refine x_iald (pc2 := 198) k9 b10 dX10_addGate_197 rfl ?_
    refine x_istore (pc2 := 200) [1, 2, 3, 4, 5, 6, 7, 8, 9, 10, 0, 11, 12] (n := 10) (x := (hI h q4 x12.toNatClampNeg)) (lv2 := [(0, .ref a0), (1, .ref a1), (2, .int x2), (3, .int x3), (4, .int x4), (5, .int x5), (6, .int x6), (7, .int x7), (8, .int x8), (9, .int (hI h sa0 sx1.toNatClampNeg)), (10, .int (hI h q4 x12.toNatClampNeg)), (11, .int x11), (12, .int x12)]) (by decide) rfl dX10_addGate_198 rfl ?_
    refine x_sub [0, 1, 2, 3, 4, 5, 6, 7, 8, 9, 10] (lv2 := [(0, .ref a0), (1, .ref a1), (2, .int x2), (3, .int x3), (4, .int x4), (5, .int x5), (6, .int x6), (7, .int x7), (8, .int x8), (9, .int (hI h sa0 sx1.toNatClampNeg)), (10, .int (hI h q4 x12.toNatClampNeg))]) rfl ?_
    exact ht
def T_X10_addGate_200 (G : GG) (d : Nat) (h : HP) (Q : Option Value → HP → Prop) (a0 : Nat) (a1 : Nat) (x2 : Int32) (x3 : Int32) (x4 : Int32) (x5 : Int32) (x6 : Int32) (x7 : Int32) (x8 : Int32) (x9 : Int32) (x10 : Int32) : Prop :=
  ((x9 = (-1) → Ex G d mX10_addGate 217 [(0, .ref a0), (1, .ref a1), (2, .int x2), (3, .int x3), (4, .int x4), (5, .int x5), (6, .int x6), (7, .int x7), (8, .int x8), (9, .int x9), (10, .int x10)] [.int 1] h Q) ∧ (¬ x9 = (-1) → ((¬ x10 = (-1) → Ex G d mX10_addGate 217 [(0, .ref a0), (1, .ref a1), (2, .int x2), (3, .int x3), (4, .int x4), (5, .int x5), (6, .int x6), (7, .int x7), (8, .int x8), (9, .int x9), (10, .int x10)] [.int 0] h Q) ∧ (x10 = (-1) → Ex G d mX10_addGate 217 [(0, .ref a0), (1, .ref a1), (2, .int x2), (3, .int x3), (4, .int x4), (5, .int x5), (6, .int x6), (7, .int x7), (8, .int x8), (9, .int x9), (10, .int x10)] [.int 1] h Q))))
set_option maxRecDepth 20000 in
theorem t_X10_addGate_200 {G : GG} {d : Nat} {h : HP} {Q : Option Value → HP → Prop} {a0 : Nat} {a1 : Nat} {x2 : Int32} {x3 : Int32} {x4 : Int32} {x5 : Int32} {x6 : Int32} {x7 : Int32} {x8 : Int32} {x9 : Int32} {x10 : Int32} (ht : T_X10_addGate_200 G d h Q a0 a1 x2 x3 x4 x5 x6 x7 x8 x9 x10) : Ex G d mX10_addGate 200 [(0, .ref a0), (1, .ref a1), (2, .int x2), (3, .int x3), (4, .int x4), (5, .int x5), (6, .int x6), (7, .int x7), (8, .int x8), (9, .int x9), (10, .int x10)] [] h Q := by
  unfold T_X10_addGate_200 at ht
  refine x_iload (pc2 := 202) 9 (n := 9) (x := x9) rfl dX10_addGate_200 rfl ?_
  refine x_iconst (pc2 := 203) (v := (-1)) (by decide) dX10_addGate_202 rfl ?_
  refine x_icmp_eq (pc2 := 206) 212 dX10_addGate_203 (by decide) rfl (fun c1 => ?_) (fun c1 => ?_)
  · replace ht := ht.1 c1
    refine x_iconst (pc2 := 213) (v := 1) (by decide) dX10_addGate_212 rfl ?_
    refine x_goto 217 dX10_addGate_213 (by decide) ?_
    exact ht
  · replace ht := ht.2 c1
    refine x_iload (pc2 := 208) 10 (n := 10) (x := x10) rfl dX10_addGate_206 rfl ?_
    refine x_iconst (pc2 := 209) (v := (-1)) (by decide) dX10_addGate_208 rfl ?_
    refine y_icmp_ne (pc2 := 212) 216 dX10_addGate_209 (by decide) rfl (fun c2 => ?_) (fun c2 => ?_)
    · replace ht := ht.1 c2
      refine x_iconst (pc2 := 217) (v := 0) (by decide) dX10_addGate_216 rfl ?_
      exact ht
    · replace ht := ht.2 c2
      refine x_iconst (pc2 := 213) (v := 1) (by decide) dX10_addGate_212 rfl ?_
      refine x_goto 217 dX10_addGate_213 (by decide) ?_
      exact ht
def T_X10_addGate_217 (G : GG) (d : Nat) (h : HP) (Q : Option Value → HP → Prop) (a0 : Nat) (a1 : Nat) (x2 : Int32) (x3 : Int32) (x4 : Int32) (x5 : Int32) (x6 : Int32) (x7 : Int32) (x8 : Int32) (x9 : Int32) (x10 : Int32) (sx0 : Int32) : Prop :=
  Kd G h a0 10 ∧ ∃ q2, hR h a0 7 = some q2 ∧ Kd G h q2 14 ∧ vp_in ((x2 * 40) + x3) (hN h q2) ∧ ((sx0 = 0 → Ex G d mX10_addGate 246 [(0, .ref a0), (1, .ref a1), (2, .int x2), (3, .int x3), (4, .int x4), (5, .int x5), (6, .int x6), (7, .int x7), (8, .int x8), (9, .int x9), (10, .int x10), (11, .int sx0)] [.int (hI h a0 1), .int (hI h q2 ((x2 * 40) + x3).toNatClampNeg), .int ((x2 * 40) + x3), .ref q2] h Q) ∧ (¬ sx0 = 0 → Ex G d mX10_addGate 246 [(0, .ref a0), (1, .ref a1), (2, .int x2), (3, .int x3), (4, .int x4), (5, .int x5), (6, .int x6), (7, .int x7), (8, .int x8), (9, .int x9), (10, .int x10), (11, .int sx0)] [.int 999, .int (hI h q2 ((x2 * 40) + x3).toNatClampNeg), .int ((x2 * 40) + x3), .ref q2] h Q))
set_option maxRecDepth 20000 in
theorem t_X10_addGate_217 {G : GG} {d : Nat} {h : HP} {Q : Option Value → HP → Prop} {a0 : Nat} {a1 : Nat} {x2 : Int32} {x3 : Int32} {x4 : Int32} {x5 : Int32} {x6 : Int32} {x7 : Int32} {x8 : Int32} {x9 : Int32} {x10 : Int32} {sx0 : Int32} (ht : T_X10_addGate_217 G d h Q a0 a1 x2 x3 x4 x5 x6 x7 x8 x9 x10 sx0) : Ex G d mX10_addGate 217 [(0, .ref a0), (1, .ref a1), (2, .int x2), (3, .int x3), (4, .int x4), (5, .int x5), (6, .int x6), (7, .int x7), (8, .int x8), (9, .int x9), (10, .int x10)] [.int sx0] h Q := by
  unfold T_X10_addGate_217 at ht
  refine x_istore (pc2 := 219) [1, 2, 3, 4, 5, 6, 7, 8, 9, 10, 11, 0] (n := 11) (x := sx0) (lv2 := [(0, .ref a0), (1, .ref a1), (2, .int x2), (3, .int x3), (4, .int x4), (5, .int x5), (6, .int x6), (7, .int x7), (8, .int x8), (9, .int x9), (10, .int x10), (11, .int sx0)]) (by decide) rfl dX10_addGate_217 rfl ?_
  refine x_aload_n (pc2 := 220) 0 (n := 0) (x := a0) rfl dX10_addGate_219 rfl ?_
  obtain ⟨k1, ht⟩ := ht
  obtain ⟨q2, e3, ht⟩ := ht
  refine y_getR (pc2 := 223) (κ := 10) (k := 7) fl_X10_27 (by decide) (by decide) k1 rfl e3 dX10_addGate_220 rfl ?_
  refine x_iload_n (pc2 := 224) 2 (n := 2) (x := x2) rfl dX10_addGate_223 rfl ?_
  refine x_bipush (pc2 := 226) (v := 40) (by decide) dX10_addGate_224 rfl ?_
  refine x_imul (pc2 := 227) dX10_addGate_226 rfl ?_
  refine x_iload_n (pc2 := 228) 3 (n := 3) (x := x3) rfl dX10_addGate_227 rfl ?_
  refine x_iadd (pc2 := 229) dX10_addGate_228 rfl ?_
  refine x_dup2 (pc2 := 230) rfl rfl dX10_addGate_229 rfl ?_
  obtain ⟨k4, ht⟩ := ht
  obtain ⟨b5, ht⟩ := ht
  refine x_iald (pc2 := 231) k4 b5 dX10_addGate_230 rfl ?_
  refine x_iload (pc2 := 233) 11 (n := 11) (x := sx0) rfl dX10_addGate_231 rfl ?_
  refine x_if_eq (pc2 := 236) 242 dX10_addGate_233 (by decide) rfl (fun c6 => ?_) (fun c6 => ?_)
  · replace ht := ht.1 c6
    refine x_aload_n (pc2 := 243) 0 (n := 0) (x := a0) rfl dX10_addGate_242 rfl ?_
    refine y_getI (pc2 := 246) (κ := 10) (k := 1) fl_X10_111 (by decide) (by decide) k1 rfl dX10_addGate_243 rfl ?_
    exact ht
  · replace ht := ht.2 c6
    refine x_sipush (pc2 := 239) (v := 999) (by decide) dX10_addGate_236 rfl ?_
    refine x_goto 246 dX10_addGate_239 (by decide) ?_
    exact ht
def T_X10_addGate_246 (G : GG) (d : Nat) (h : HP) (Q : Option Value → HP → Prop) (a0 : Nat) (a1 : Nat) (x2 : Int32) (x3 : Int32) (x4 : Int32) (x5 : Int32) (x6 : Int32) (x7 : Int32) (x8 : Int32) (x9 : Int32) (x10 : Int32) (x11 : Int32) (sa0 : Nat) (sx1 : Int32) (sx2 : Int32) (sx3 : Int32) : Prop :=
  Kd G h sa0 14 ∧ vp_in sx1 (hN h sa0) ∧ Kd G (sI h sa0 sx1.toNatClampNeg (sx2 + sx3)) a0 10 ∧ ∃ q4, hR (sI h sa0 sx1.toNatClampNeg (sx2 + sx3)) a0 8 = some q4 ∧ Kd G (sI h sa0 sx1.toNatClampNeg (sx2 + sx3)) q4 14 ∧ vp_in ((x2 * 40) + x3) (hN (sI h sa0 sx1.toNatClampNeg (sx2 + sx3)) q4) ∧ ((x11 = 0 → vp_in ((x2 * 40) + x3) (hN (sI h sa0 sx1.toNatClampNeg (sx2 + sx3)) q4) ∧ ∀ h10, h10 = (sI (sI h sa0 sx1.toNatClampNeg (sx2 + sx3)) q4 ((x2 * 40) + x3).toNatClampNeg ((hI (sI h sa0 sx1.toNatClampNeg (sx2 + sx3)) q4 ((x2 * 40) + x3).toNatClampNeg) + ((x9 + 1) + x10))) → Q none h10) ∧ (¬ x11 = 0 → vp_in ((x2 * 40) + x3) (hN (sI h sa0 sx1.toNatClampNeg (sx2 + sx3)) q4) ∧ ∀ h14, h14 = (sI (sI h sa0 sx1.toNatClampNeg (sx2 + sx3)) q4 ((x2 * 40) + x3).toNatClampNeg ((hI (sI h sa0 sx1.toNatClampNeg (sx2 + sx3)) q4 ((x2 * 40) + x3).toNatClampNeg) + 9999)) → Q none h14))
set_option maxRecDepth 20000 in
theorem t_X10_addGate_246 {G : GG} {d : Nat} {h : HP} {Q : Option Value → HP → Prop} {a0 : Nat} {a1 : Nat} {x2 : Int32} {x3 : Int32} {x4 : Int32} {x5 : Int32} {x6 : Int32} {x7 : Int32} {x8 : Int32} {x9 : Int32} {x10 : Int32} {x11 : Int32} {sa0 : Nat} {sx1 : Int32} {sx2 : Int32} {sx3 : Int32} (ht : T_X10_addGate_246 G d h Q a0 a1 x2 x3 x4 x5 x6 x7 x8 x9 x10 x11 sa0 sx1 sx2 sx3) : Ex G d mX10_addGate 246 [(0, .ref a0), (1, .ref a1), (2, .int x2), (3, .int x3), (4, .int x4), (5, .int x5), (6, .int x6), (7, .int x7), (8, .int x8), (9, .int x9), (10, .int x10), (11, .int x11)] [.int sx3, .int sx2, .int sx1, .ref sa0] h Q := by
  unfold T_X10_addGate_246 at ht
  refine x_iadd (pc2 := 247) dX10_addGate_246 rfl ?_
  obtain ⟨k1, ht⟩ := ht
  obtain ⟨b2, ht⟩ := ht
  refine x_iast (pc2 := 248) k1 b2 dX10_addGate_247 rfl ?_
  refine x_aload_n (pc2 := 249) 0 (n := 0) (x := a0) rfl dX10_addGate_248 rfl ?_
  obtain ⟨k3, ht⟩ := ht
  obtain ⟨q4, e5, ht⟩ := ht
  refine y_getR (pc2 := 252) (κ := 10) (k := 8) fl_X10_30 (by decide) (by decide) k3 rfl e5 dX10_addGate_249 rfl ?_
  refine x_iload_n (pc2 := 253) 2 (n := 2) (x := x2) rfl dX10_addGate_252 rfl ?_
  refine x_bipush (pc2 := 255) (v := 40) (by decide) dX10_addGate_253 rfl ?_
  refine x_imul (pc2 := 256) dX10_addGate_255 rfl ?_
  refine x_iload_n (pc2 := 257) 3 (n := 3) (x := x3) rfl dX10_addGate_256 rfl ?_
  refine x_iadd (pc2 := 258) dX10_addGate_257 rfl ?_
  refine x_dup2 (pc2 := 259) rfl rfl dX10_addGate_258 rfl ?_
  obtain ⟨k6, ht⟩ := ht
  obtain ⟨b7, ht⟩ := ht
  refine x_iald (pc2 := 260) k6 b7 dX10_addGate_259 rfl ?_
  refine x_iload (pc2 := 262) 11 (n := 11) (x := x11) rfl dX10_addGate_260 rfl ?_
  refine x_if_eq (pc2 := 265) 271 dX10_addGate_262 (by decide) rfl (fun c8 => ?_) (fun c8 => ?_)
  · replace ht := ht.1 c8
    refine x_iload (pc2 := 273) 9 (n := 9) (x := x9) rfl dX10_addGate_271 rfl ?_
    refine x_iconst (pc2 := 274) (v := 1) (by decide) dX10_addGate_273 rfl ?_
    refine x_iadd (pc2 := 275) dX10_addGate_274 rfl ?_
    refine x_iload (pc2 := 277) 10 (n := 10) (x := x10) rfl dX10_addGate_275 rfl ?_
    refine x_iadd (pc2 := 278) dX10_addGate_277 rfl ?_
    refine x_iadd (pc2 := 279) dX10_addGate_278 rfl ?_
    obtain ⟨b9, ht⟩ := ht
    refine x_iast (pc2 := 280) k6 b9 dX10_addGate_279 rfl ?_
    refine nm_I (fun h10 e11 p12 => ?_)
    replace ht := ht h10 e11
    exact x_retV rfl dX10_addGate_280 ht
  · replace ht := ht.2 c8
    refine x_sipush (pc2 := 268) (v := 9999) (by decide) dX10_addGate_265 rfl ?_
    refine x_goto 278 dX10_addGate_268 (by decide) ?_
    refine x_iadd (pc2 := 279) dX10_addGate_278 rfl ?_
    obtain ⟨b13, ht⟩ := ht
    refine x_iast (pc2 := 280) k6 b13 dX10_addGate_279 rfl ?_
    refine nm_I (fun h14 e15 p16 => ?_)
    replace ht := ht h14 e15
    exact x_retV rfl dX10_addGate_280 ht
def T_X10_bestGate (G : GG) (d : Nat) (h : HP) (Q : Option Value → HP → Prop) (a0 : Nat) (a1 : Nat) : Prop :=
  Ex G d mX10_bestGate 4 [(0, .ref a0), (1, .ref a1), (2, .int 0), (3, .int 0)] [] h Q
set_option maxRecDepth 20000 in
theorem t_X10_bestGate {G : GG} {d : Nat} {h : HP} {Q : Option Value → HP → Prop} {a0 : Nat} {a1 : Nat} (ht : T_X10_bestGate G d h Q a0 a1) : Ex G d mX10_bestGate 0 [(0, .ref a0), (1, .ref a1)] [] h Q := by
  unfold T_X10_bestGate at ht
  refine x_iconst (pc2 := 1) (v := 0) (by decide) dX10_bestGate_0 rfl ?_
  refine x_istore_n (pc2 := 2) [1, 2, 0] (n := 2) (x := 0) (lv2 := [(0, .ref a0), (1, .ref a1), (2, .int 0)]) (by decide) rfl dX10_bestGate_1 rfl ?_
  refine x_iconst (pc2 := 3) (v := 0) (by decide) dX10_bestGate_2 rfl ?_
  refine x_istore_n (pc2 := 4) [1, 2, 3, 0] (n := 3) (x := 0) (lv2 := [(0, .ref a0), (1, .ref a1), (2, .int 0), (3, .int 0)]) (by decide) rfl dX10_bestGate_3 rfl ?_
  exact ht
theorem e_X10_bestGate {G : GG} {d : Nat} {h : HP} {Q : Option Value → HP → Prop} {a0 : Nat} {a1 : Nat} (ht : T_X10_bestGate G d h Q a0 a1) : Cal G d mX10_bestGate [.ref a0, .ref a1] h Q := cal_of rfl (Nat.le_of_ble_eq_true rfl) (t_X10_bestGate ht)
def T_X10_bestGate_4 (G : GG) (d : Nat) (h : HP) (Q : Option Value → HP → Prop) (a0 : Nat) (a1 : Nat) (x2 : Int32) (x3 : Int32) : Prop :=
  ((4 ≤ x3 → Q (some (.int x2)) h) ∧ (¬ 4 ≤ x3 → Ex G d mX10_bestGate 12 [(0, .ref a0), (1, .ref a1), (2, .int x2), (3, .int x3), (4, .int 0)] [] h Q))
set_option maxRecDepth 20000 in
theorem t_X10_bestGate_4 {G : GG} {d : Nat} {h : HP} {Q : Option Value → HP → Prop} {a0 : Nat} {a1 : Nat} {x2 : Int32} {x3 : Int32} (ht : T_X10_bestGate_4 G d h Q a0 a1 x2 x3) : Ex G d mX10_bestGate 4 [(0, .ref a0), (1, .ref a1), (2, .int x2), (3, .int x3)] [] h Q := by
  unfold T_X10_bestGate_4 at ht
  refine x_iload_n (pc2 := 5) 3 (n := 3) (x := x3) rfl dX10_bestGate_4 rfl ?_
  refine x_iconst (pc2 := 6) (v := 4) (by decide) dX10_bestGate_5 rfl ?_
  refine x_icmp_ge (pc2 := 9) 94 dX10_bestGate_6 (by decide) rfl (fun c1 => ?_) (fun c1 => ?_)
  · replace ht := ht.1 c1
    refine x_iload_n (pc2 := 95) 2 (n := 2) (x := x2) rfl dX10_bestGate_94 rfl ?_
    exact x_ret (ty := .int) rfl rfl dX10_bestGate_95 ht
  · replace ht := ht.2 c1
    refine x_iconst (pc2 := 10) (v := 0) (by decide) dX10_bestGate_9 rfl ?_
    refine x_istore (pc2 := 12) [1, 2, 3, 4, 0] (n := 4) (x := 0) (lv2 := [(0, .ref a0), (1, .ref a1), (2, .int x2), (3, .int x3), (4, .int 0)]) (by decide) rfl dX10_bestGate_10 rfl ?_
    exact ht
def T_X10_bestGate_12 (G : GG) (d : Nat) (h : HP) (Q : Option Value → HP → Prop) (a0 : Nat) (a1 : Nat) (x2 : Int32) (x3 : Int32) (x4 : Int32) : Prop :=
  Kd G h a1 9 ∧ Cal G (d - 1) mX9_lengthOf [.ref a1, .int x3] h (fun r1 h2 => ∃ v5, r1 = some (.int v5) ∧ ((v5 ≤ x4 → Ex G d mX10_bestGate 4 [(0, .ref a0), (1, .ref a1), (2, .int x2), (3, .int (x3 + 1))] [] h2 Q) ∧ (¬ v5 ≤ x4 → Kd G h2 a0 10 ∧ ∃ q8, hR h2 a0 7 = some q8 ∧ Kd G h2 q8 14 ∧ vp_in ((x3 * 40) + x4) (hN h2 q8) ∧ vp_in x2 (hN h2 q8) ∧ (((hI h2 q8 ((x3 * 40) + x4).toNatClampNeg) < (hI h2 q8 x2.toNatClampNeg) → Ex G d mX10_bestGate 12 [(0, .ref a0), (1, .ref a1), (2, .int ((x3 * 40) + x4)), (3, .int x3), (4, .int (x4 + 1))] [] h2 Q) ∧ (¬ (hI h2 q8 ((x3 * 40) + x4).toNatClampNeg) < (hI h2 q8 x2.toNatClampNeg) → vp_in ((x3 * 40) + x4) (hN h2 q8) ∧ vp_in x2 (hN h2 q8) ∧ ((¬ (hI h2 q8 ((x3 * 40) + x4).toNatClampNeg) = (hI h2 q8 x2.toNatClampNeg) → Ex G d mX10_bestGate 12 [(0, .ref a0), (1, .ref a1), (2, .int x2), (3, .int x3), (4, .int (x4 + 1))] [] h2 Q) ∧ ((hI h2 q8 ((x3 * 40) + x4).toNatClampNeg) = (hI h2 q8 x2.toNatClampNeg) → ∃ q17, hR h2 a0 8 = some q17 ∧ Kd G h2 q17 14 ∧ vp_in ((x3 * 40) + x4) (hN h2 q17) ∧ vp_in x2 (hN h2 q17) ∧ (((hI h2 q17 x2.toNatClampNeg) ≤ (hI h2 q17 ((x3 * 40) + x4).toNatClampNeg) → Ex G d mX10_bestGate 12 [(0, .ref a0), (1, .ref a1), (2, .int x2), (3, .int x3), (4, .int (x4 + 1))] [] h2 Q) ∧ (¬ (hI h2 q17 x2.toNatClampNeg) ≤ (hI h2 q17 ((x3 * 40) + x4).toNatClampNeg) → Ex G d mX10_bestGate 12 [(0, .ref a0), (1, .ref a1), (2, .int ((x3 * 40) + x4)), (3, .int x3), (4, .int (x4 + 1))] [] h2 Q)))))))))
set_option maxRecDepth 20000 in
theorem t_X10_bestGate_12 {G : GG} {d : Nat} {h : HP} {Q : Option Value → HP → Prop} {a0 : Nat} {a1 : Nat} {x2 : Int32} {x3 : Int32} {x4 : Int32} (hd1 : 1 ≤ d) (ht : T_X10_bestGate_12 G d h Q a0 a1 x2 x3 x4) : Ex G d mX10_bestGate 12 [(0, .ref a0), (1, .ref a1), (2, .int x2), (3, .int x3), (4, .int x4)] [] h Q := by
  unfold T_X10_bestGate_12 at ht
  refine x_iload (pc2 := 14) 4 (n := 4) (x := x4) rfl dX10_bestGate_12 rfl ?_
  refine x_aload_n (pc2 := 15) 1 (n := 1) (x := a1) rfl dX10_bestGate_14 rfl ?_
  refine x_iload_n (pc2 := 16) 3 (n := 3) (x := x3) rfl dX10_bestGate_15 rfl ?_
  obtain ⟨k4, ht⟩ := ht
  refine x_callV (pc2 := 19) (As := [.int x3]) (rest := [.int x4]) (b := a1) mv_X9_lengthOf ml_X10_151 k4 rfl rfl (Nat.le_of_ble_eq_true rfl) hd1 dX10_bestGate_16 rfl (ht.mono (fun r1 h2 p3 ht' => ?_))
  clear ht
  obtain ⟨v5, rfl, ht⟩ := ht'
  show Ex G d mX10_bestGate 19 [(0, .ref a0), (1, .ref a1), (2, .int x2), (3, .int x3), (4, .int x4)] [.int v5, .int x4] h2 Q
  refine x_icmp_ge (pc2 := 22) 88 dX10_bestGate_19 (by decide) rfl (fun c6 => ?_) (fun c6 => ?_)
  · replace ht := ht.1 c6
    refine x_iinc (pc2 := 91) 3 [1, 2, 3, 0, 4] (i := 3) (x := x3) (v := (x3 + 1)) (lv2 := [(0, .ref a0), (1, .ref a1), (2, .int x2), (3, .int (x3 + 1)), (4, .int x4)]) rfl (iinc_eq (by decide) _) (by decide) rfl dX10_bestGate_88 rfl ?_
    refine x_goto 4 dX10_bestGate_91 (by decide) ?_
    refine x_sub [0, 1, 2, 3] (lv2 := [(0, .ref a0), (1, .ref a1), (2, .int x2), (3, .int (x3 + 1))]) rfl ?_
    exact ht
  · replace ht := ht.2 c6
    refine x_iload_n (pc2 := 23) 3 (n := 3) (x := x3) rfl dX10_bestGate_22 rfl ?_
    refine x_bipush (pc2 := 25) (v := 40) (by decide) dX10_bestGate_23 rfl ?_
    refine x_imul (pc2 := 26) dX10_bestGate_25 rfl ?_
    refine x_iload (pc2 := 28) 4 (n := 4) (x := x4) rfl dX10_bestGate_26 rfl ?_
    refine x_iadd (pc2 := 29) dX10_bestGate_28 rfl ?_
    refine x_istore (pc2 := 31) [1, 2, 3, 4, 5, 0] (n := 5) (x := ((x3 * 40) + x4)) (lv2 := [(0, .ref a0), (1, .ref a1), (2, .int x2), (3, .int x3), (4, .int x4), (5, .int ((x3 * 40) + x4))]) (by decide) rfl dX10_bestGate_29 rfl ?_
    refine x_aload_n (pc2 := 32) 0 (n := 0) (x := a0) rfl dX10_bestGate_31 rfl ?_
    obtain ⟨k7, ht⟩ := ht
    obtain ⟨q8, e9, ht⟩ := ht
    refine y_getR (pc2 := 35) (κ := 10) (k := 7) fl_X10_27 (by decide) (by decide) k7 rfl e9 dX10_bestGate_32 rfl ?_
    refine x_iload (pc2 := 37) 5 (n := 5) (x := ((x3 * 40) + x4)) rfl dX10_bestGate_35 rfl ?_
    obtain ⟨k10, ht⟩ := ht
    obtain ⟨b11, ht⟩ := ht
    refine x_iald (pc2 := 38) k10 b11 dX10_bestGate_37 rfl ?_
    refine x_aload_n (pc2 := 39) 0 (n := 0) (x := a0) rfl dX10_bestGate_38 rfl ?_
    refine y_getR (pc2 := 42) (κ := 10) (k := 7) fl_X10_27 (by decide) (by decide) k7 rfl e9 dX10_bestGate_39 rfl ?_
    refine x_iload_n (pc2 := 43) 2 (n := 2) (x := x2) rfl dX10_bestGate_42 rfl ?_
    obtain ⟨b12, ht⟩ := ht
    refine x_iald (pc2 := 44) k10 b12 dX10_bestGate_43 rfl ?_
    refine x_icmp_lt (pc2 := 47) 79 dX10_bestGate_44 (by decide) rfl (fun c13 => ?_) (fun c13 => ?_)
    · replace ht := ht.1 c13
      refine x_iload (pc2 := 81) 5 (n := 5) (x := ((x3 * 40) + x4)) rfl dX10_bestGate_79 rfl ?_
      refine x_istore_n (pc2 := 82) [1, 2, 0, 3, 4, 5] (n := 2) (x := ((x3 * 40) + x4)) (lv2 := [(0, .ref a0), (1, .ref a1), (2, .int ((x3 * 40) + x4)), (3, .int x3), (4, .int x4), (5, .int ((x3 * 40) + x4))]) (by decide) rfl dX10_bestGate_81 rfl ?_
      refine x_iinc (pc2 := 85) 4 [1, 2, 3, 4, 0, 5] (i := 4) (x := x4) (v := (x4 + 1)) (lv2 := [(0, .ref a0), (1, .ref a1), (2, .int ((x3 * 40) + x4)), (3, .int x3), (4, .int (x4 + 1)), (5, .int ((x3 * 40) + x4))]) rfl (iinc_eq (by decide) _) (by decide) rfl dX10_bestGate_82 rfl ?_
      refine x_goto 12 dX10_bestGate_85 (by decide) ?_
      refine x_sub [0, 1, 2, 3, 4] (lv2 := [(0, .ref a0), (1, .ref a1), (2, .int ((x3 * 40) + x4)), (3, .int x3), (4, .int (x4 + 1))]) rfl ?_
      exact ht
    · replace ht := ht.2 c13
      refine x_aload_n (pc2 := 48) 0 (n := 0) (x := a0) rfl dX10_bestGate_47 rfl ?_
      refine y_getR (pc2 := 51) (κ := 10) (k := 7) fl_X10_27 (by decide) (by decide) k7 rfl e9 dX10_bestGate_48 rfl ?_
      refine x_iload (pc2 := 53) 5 (n := 5) (x := ((x3 * 40) + x4)) rfl dX10_bestGate_51 rfl ?_
      obtain ⟨b14, ht⟩ := ht
      refine x_iald (pc2 := 54) k10 b14 dX10_bestGate_53 rfl ?_
      refine x_aload_n (pc2 := 55) 0 (n := 0) (x := a0) rfl dX10_bestGate_54 rfl ?_
      refine y_getR (pc2 := 58) (κ := 10) (k := 7) fl_X10_27 (by decide) (by decide) k7 rfl e9 dX10_bestGate_55 rfl ?_
      refine x_iload_n (pc2 := 59) 2 (n := 2) (x := x2) rfl dX10_bestGate_58 rfl ?_
      obtain ⟨b15, ht⟩ := ht
      refine x_iald (pc2 := 60) k10 b15 dX10_bestGate_59 rfl ?_
      refine y_icmp_ne (pc2 := 63) 82 dX10_bestGate_60 (by decide) rfl (fun c16 => ?_) (fun c16 => ?_)
      · replace ht := ht.1 c16
        refine x_iinc (pc2 := 85) 4 [1, 2, 3, 4, 0, 5] (i := 4) (x := x4) (v := (x4 + 1)) (lv2 := [(0, .ref a0), (1, .ref a1), (2, .int x2), (3, .int x3), (4, .int (x4 + 1)), (5, .int ((x3 * 40) + x4))]) rfl (iinc_eq (by decide) _) (by decide) rfl dX10_bestGate_82 rfl ?_
        refine x_goto 12 dX10_bestGate_85 (by decide) ?_
        refine x_sub [0, 1, 2, 3, 4] (lv2 := [(0, .ref a0), (1, .ref a1), (2, .int x2), (3, .int x3), (4, .int (x4 + 1))]) rfl ?_
        exact ht
      · replace ht := ht.2 c16
        refine x_aload_n (pc2 := 64) 0 (n := 0) (x := a0) rfl dX10_bestGate_63 rfl ?_
        obtain ⟨q17, e18, ht⟩ := ht
        refine y_getR (pc2 := 67) (κ := 10) (k := 8) fl_X10_30 (by decide) (by decide) k7 rfl e18 dX10_bestGate_64 rfl ?_
        refine x_iload (pc2 := 69) 5 (n := 5) (x := ((x3 * 40) + x4)) rfl dX10_bestGate_67 rfl ?_
        obtain ⟨k19, ht⟩ := ht
        obtain ⟨b20, ht⟩ := ht
        refine x_iald (pc2 := 70) k19 b20 dX10_bestGate_69 rfl ?_
        refine x_aload_n (pc2 := 71) 0 (n := 0) (x := a0) rfl dX10_bestGate_70 rfl ?_
        refine y_getR (pc2 := 74) (κ := 10) (k := 8) fl_X10_30 (by decide) (by decide) k7 rfl e18 dX10_bestGate_71 rfl ?_
        refine x_iload_n (pc2 := 75) 2 (n := 2) (x := x2) rfl dX10_bestGate_74 rfl ?_
        obtain ⟨b21, ht⟩ := ht
        refine x_iald (pc2 := 76) k19 b21 dX10_bestGate_75 rfl ?_
        refine x_icmp_ge (pc2 := 79) 82 dX10_bestGate_76 (by decide) rfl (fun c22 => ?_) (fun c22 => ?_)
        · replace ht := ht.1 c22
          refine x_iinc (pc2 := 85) 4 [1, 2, 3, 4, 0, 5] (i := 4) (x := x4) (v := (x4 + 1)) (lv2 := [(0, .ref a0), (1, .ref a1), (2, .int x2), (3, .int x3), (4, .int (x4 + 1)), (5, .int ((x3 * 40) + x4))]) rfl (iinc_eq (by decide) _) (by decide) rfl dX10_bestGate_82 rfl ?_
          refine x_goto 12 dX10_bestGate_85 (by decide) ?_
          refine x_sub [0, 1, 2, 3, 4] (lv2 := [(0, .ref a0), (1, .ref a1), (2, .int x2), (3, .int x3), (4, .int (x4 + 1))]) rfl ?_
          exact ht
        · replace ht := ht.2 c22
          refine x_iload (pc2 := 81) 5 (n := 5) (x := ((x3 * 40) + x4)) rfl dX10_bestGate_79 rfl ?_
          refine x_istore_n (pc2 := 82) [1, 2, 0, 3, 4, 5] (n := 2) (x := ((x3 * 40) + x4)) (lv2 := [(0, .ref a0), (1, .ref a1), (2, .int ((x3 * 40) + x4)), (3, .int x3), (4, .int x4), (5, .int ((x3 * 40) + x4))]) (by decide) rfl dX10_bestGate_81 rfl ?_
          refine x_iinc (pc2 := 85) 4 [1, 2, 3, 4, 0, 5] (i := 4) (x := x4) (v := (x4 + 1)) (lv2 := [(0, .ref a0), (1, .ref a1), (2, .int ((x3 * 40) + x4)), (3, .int x3), (4, .int (x4 + 1)), (5, .int ((x3 * 40) + x4))]) rfl (iinc_eq (by decide) _) (by decide) rfl dX10_bestGate_82 rfl ?_
          refine x_goto 12 dX10_bestGate_85 (by decide) ?_
          refine x_sub [0, 1, 2, 3, 4] (lv2 := [(0, .ref a0), (1, .ref a1), (2, .int ((x3 * 40) + x4)), (3, .int x3), (4, .int (x4 + 1))]) rfl ?_
          exact ht
