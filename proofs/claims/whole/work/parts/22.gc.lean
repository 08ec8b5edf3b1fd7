def T_X8_init (G : GG) (d : Nat) (h : HP) (Q : Option Value → HP → Prop) (a0 : Nat) : Prop :=
  ∀ q1 h2, q1 = hZ h → h2 = nw h 13 ((400 : Int32).toNatClampNeg) → Kd G h2 a0 8 ∧ ∀ q7 h8, q7 = hZ (sR h2 a0 5 (some q1)) → h8 = nw (sR h2 a0 5 (some q1)) 14 ((401 : Int32).toNatClampNeg) → ∀ q12 h13, q12 = hZ (sR h8 a0 6 (some q7)) → h13 = nw (sR h8 a0 6 (some q7)) 14 ((401 : Int32).toNatClampNeg) → ∀ q17 h18, q17 = hZ (sR h13 a0 7 (some q12)) → h18 = nw (sR h13 a0 7 (some q12)) 14 ((401 : Int32).toNatClampNeg) → Q none (sR h18 a0 8 (some q17))
set_option maxRecDepth 20000 in
theorem t_X8_init {G : GG} {d : Nat} {h : HP} {Q : Option Value → HP → Prop} {a0 : Nat} (hd1 : 1 ≤ d) (ht : T_X8_init G d h Q a0) : Ex G d mX8_init 0 [(0, .ref a0)] [] h Q := by
  unfold T_X8_init at ht
  refine x_aload_n (pc2 := 1) 0 (n := 0) (x := a0) rfl dX8_init_0 rfl ?_
  refine x_objInit (pc2 := 4) ml_X8_3 hd1 (Nat.le_of_ble_eq_true rfl) dX8_init_1 rfl ?_
  refine x_aload_n (pc2 := 5) 0 (n := 0) (x := a0) rfl dX8_init_4 rfl ?_
  refine x_sipush (pc2 := 8) (v := 400) (by decide) dX8_init_5 rfl ?_
  refine y_newa (pc2 := 10) (κ := 13) (at0 := .byte) ac_byte rfl (by decide) (by decide) (by decide) (by decide) dX8_init_8 rfl (fun q1 h2 e3 e4 p5 => ?_)
  replace ht := ht q1 h2 e3 e4
  obtain ⟨k6, ht⟩ := ht
  refine x_putR (pc2 := 13) (v := (some q1)) (κ := 8) (k := 5) fl_X8_11 (by decide) (by decide) (Or.inr ⟨rfl, rfl⟩) (isRt_a _) k6 dX8_init_10 rfl ?_
  refine x_aload_n (pc2 := 14) 0 (n := 0) (x := a0) rfl dX8_init_13 rfl ?_
  refine x_sipush (pc2 := 17) (v := 401) (by decide) dX8_init_14 rfl ?_
  refine y_newa (pc2 := 19) (κ := 14) (at0 := .int) ac_int rfl (by decide) (by decide) (by decide) (by decide) dX8_init_17 rfl (fun q7 h8 e9 e10 p11 => ?_)
  replace ht := ht q7 h8 e9 e10
  refine x_putR (pc2 := 22) (v := (some q7)) (κ := 8) (k := 6) fl_X8_15 (by decide) (by decide) (Or.inr ⟨rfl, rfl⟩) (isRt_a _) (k6.sR.up p11) dX8_init_19 rfl ?_
  refine x_aload_n (pc2 := 23) 0 (n := 0) (x := a0) rfl dX8_init_22 rfl ?_
  refine x_sipush (pc2 := 26) (v := 401) (by decide) dX8_init_23 rfl ?_
  refine y_newa (pc2 := 28) (κ := 14) (at0 := .int) ac_int rfl (by decide) (by decide) (by decide) (by decide) dX8_init_26 rfl (fun q12 h13 e14 e15 p16 => ?_)
  replace ht := ht q12 h13 e14 e15
  refine x_putR (pc2 := 31) (v := (some q12)) (κ := 8) (k := 7) fl_X8_19 (by decide) (by decide) (Or.inr ⟨rfl, rfl⟩) (isRt_a _) ((k6.sR.up p11).sR.up p16) dX8_init_28 rfl ?_
  refine x_aload_n (pc2 := 32) 0 (n := 0) (x := a0) rfl dX8_init_31 rfl ?_
  refine x_sipush (pc2 := 35) (v := 401) (by decide) dX8_init_32 rfl ?_
  refine y_newa (pc2 := 37) (κ := 14) (at0 := .int) ac_int rfl (by decide) (by decide) (by decide) (by decide) dX8_init_35 rfl (fun q17 h18 e19 e20 p21 => ?_)
  replace ht := ht q17 h18 e19 e20
  refine x_putR (pc2 := 40) (v := (some q17)) (κ := 8) (k := 8) fl_X8_22 (by decide) (by decide) (Or.inr ⟨rfl, rfl⟩) (isRt_a _) (((k6.sR.up p11).sR.up p16).sR.up p21) dX8_init_37 rfl ?_
  exact x_retV rfl dX8_init_40 ht
theorem e_X8_init {G : GG} {d : Nat} {h : HP} {Q : Option Value → HP → Prop} {a0 : Nat} (hd1 : 1 ≤ d) (ht : T_X8_init G d h Q a0) : Cal G d mX8_init [.ref a0] h Q := cal_of rfl (Nat.le_of_ble_eq_true rfl) (t_X8_init hd1 ht)
def T_X8_hasRoom (G : GG) (d : Nat) (h : HP) (Q : Option Value → HP → Prop) (a0 : Nat) : Prop :=
  Kd G h a0 8 ∧ ((400 < ((hI h a0 0) + 20) → Q (some (.int 0)) h) ∧ (¬ 400 < ((hI h a0 0) + 20) → Q (some (.int 1)) h))
set_option maxRecDepth 20000 in
theorem t_X8_hasRoom {G : GG} {d : Nat} {h : HP} {Q : Option Value → HP → Prop} {a0 : Nat} (ht : T_X8_hasRoom G d h Q a0) : Ex G d mX8_hasRoom 0 [(0, .ref a0)] [] h Q := by
  unfold T_X8_hasRoom at ht
  refine x_aload_n (pc2 := 1) 0 (n := 0) (x := a0) rfl dX8_hasRoom_0 rfl ?_
  obtain ⟨k1, ht⟩ := ht
  refine y_getI (pc2 := 4) (κ := 8) (k := 0) fl_X8_25 (by decide) (by decide) k1 rfl dX8_hasRoom_1 rfl ?_
  refine x_bipush (pc2 := 6) (v := 20) (by decide) dX8_hasRoom_4 rfl ?_
  refine x_iadd (pc2 := 7) dX8_hasRoom_6 rfl ?_
  refine x_sipush (pc2 := 10) (v := 400) (by decide) dX8_hasRoom_7 rfl ?_
  refine x_icmp_gt (pc2 := 13) 17 dX8_hasRoom_10 (by decide) rfl (fun c2 => ?_) (fun c2 => ?_)
  · replace ht := ht.1 c2
    refine x_iconst (pc2 := 18) (v := 0) (by decide) dX8_hasRoom_17 rfl ?_
    exact x_retZ rfl (Or.inl rfl) dX8_hasRoom_18 ht
  · replace ht := ht.2 c2
    refine x_iconst (pc2 := 14) (v := 1) (by decide) dX8_hasRoom_13 rfl ?_
    refine x_goto 18 dX8_hasRoom_14 (by decide) ?_
    exact x_retZ rfl (Or.inr rfl) dX8_hasRoom_18 ht
theorem e_X8_hasRoom {G : GG} {d : Nat} {h : HP} {Q : Option Value → HP → Prop} {a0 : Nat} (ht : T_X8_hasRoom G d h Q a0) : Cal G d mX8_hasRoom [.ref a0] h Q := cal_of rfl (Nat.le_of_ble_eq_true rfl) (t_X8_hasRoom ht)
def T_X8_append (G : GG) (d : Nat) (h : HP) (Q : Option Value → HP → Prop) (a0 : Nat) (x1 : Int32) : Prop :=
  Ex G d mX8_append 3 [(0, .ref a0), (1, .int x1), (2, .int 24)] [] h Q
set_option maxRecDepth 20000 in
theorem t_X8_append {G : GG} {d : Nat} {h : HP} {Q : Option Value → HP → Prop} {a0 : Nat} {x1 : Int32} (ht : T_X8_append G d h Q a0 x1) : Ex G d mX8_append 0 [(0, .ref a0), (1, .int x1)] [] h Q := by
  unfold T_X8_append at ht
  refine x_bipush (pc2 := 2) (v := 24) (by decide) dX8_append_0 rfl ?_
  refine x_istore_n (pc2 := 3) [1, 2, 0] (n := 2) (x := 24) (lv2 := [(0, .ref a0), (1, .int x1), (2, .int 24)]) (by decide) rfl dX8_append_2 rfl ?_
  exact ht
theorem e_X8_append {G : GG} {d : Nat} {h : HP} {Q : Option Value → HP → Prop} {a0 : Nat} {x1 : Int32} (ht : T_X8_append G d h Q a0 x1) : Cal G d mX8_append [.ref a0, .int x1] h Q := cal_of rfl (Nat.le_of_ble_eq_true rfl) (t_X8_append ht)
def T_X8_append_3 (G : GG) (d : Nat) (h : HP) (Q : Option Value → HP → Prop) (a0 : Nat) (x1 : Int32) (x2 : Int32) : Prop :=
  ((x2 < 0 → Q none h) ∧ (¬ x2 < 0 → Kd G h a0 8 ∧ ((400 ≤ (hI h a0 0) → Q none h) ∧ (¬ 400 ≤ (hI h a0 0) → ∃ q4, hR h a0 5 = some q4 ∧ Kd G h q4 13 ∧ vp_in (hI h a0 0) (hN h q4) ∧ ∀ h8, h8 = (sI (sI h q4 (hI h a0 0).toNatClampNeg ((x1 >>> (x2 &&& 31)).toInt8.toInt32).toInt8.toInt32) a0 0 ((hI (sI h q4 (hI h a0 0).toNatClampNeg ((x1 >>> (x2 &&& 31)).toInt8.toInt32).toInt8.toInt32) a0 0) + 1)) → Ex G d mX8_append 3 [(0, .ref a0), (1, .int x1), (2, .int (x2 + (-8)))] [] h8 Q))))
set_option maxRecDepth 20000 in
theorem t_X8_append_3 {G : GG} {d : Nat} {h : HP} {Q : Option Value → HP → Prop} {a0 : Nat} {x1 : Int32} {x2 : Int32} (ht : T_X8_append_3 G d h Q a0 x1 x2) : Ex G d mX8_append 3 [(0, .ref a0), (1, .int x1), (2, .int x2)] [] h Q := by
  unfold T_X8_append_3 at ht
  refine x_iload_n (pc2 := 4) 2 (n := 2) (x := x2) rfl dX8_append_3 rfl ?_
  refine x_if_lt (pc2 := 7) 46 dX8_append_4 (by decide) rfl (fun c1 => ?_) (fun c1 => ?_)
  · replace ht := ht.1 c1
    exact x_retV rfl dX8_append_46 ht
  · replace ht := ht.2 c1
    refine x_aload_n (pc2 := 8) 0 (n := 0) (x := a0) rfl dX8_append_7 rfl ?_
    obtain ⟨k2, ht⟩ := ht
    refine y_getI (pc2 := 11) (κ := 8) (k := 0) fl_X8_25 (by decide) (by decide) k2 rfl dX8_append_8 rfl ?_
    refine x_sipush (pc2 := 14) (v := 400) (by decide) dX8_append_11 rfl ?_
    refine x_icmp_ge (pc2 := 17) 46 dX8_append_14 (by decide) rfl (fun c3 => ?_) (fun c3 => ?_)
    · replace ht := ht.1 c3
      exact x_retV rfl dX8_append_46 ht
    · replace ht := ht.2 c3
      refine x_aload_n (pc2 := 18) 0 (n := 0) (x := a0) rfl dX8_append_17 rfl ?_
      obtain ⟨q4, e5, ht⟩ := ht
      refine y_getR (pc2 := 21) (κ := 8) (k := 5) fl_X8_11 (by decide) (by decide) k2 rfl e5 dX8_append_18 rfl ?_
      refine x_aload_n (pc2 := 22) 0 (n := 0) (x := a0) rfl dX8_append_21 rfl ?_
      refine y_getI (pc2 := 25) (κ := 8) (k := 0) fl_X8_25 (by decide) (by decide) k2 rfl dX8_append_22 rfl ?_
      refine x_iload_n (pc2 := 26) 1 (n := 1) (x := x1) rfl dX8_append_25 rfl ?_
      refine x_iload_n (pc2 := 27) 2 (n := 2) (x := x2) rfl dX8_append_26 rfl ?_
      refine x_ishr (pc2 := 28) dX8_append_27 rfl ?_
      refine x_i2b (pc2 := 29) dX8_append_28 rfl ?_
      obtain ⟨k6, ht⟩ := ht
      obtain ⟨b7, ht⟩ := ht
      refine x_bast (pc2 := 30) k6 b7 dX8_append_29 rfl ?_
      refine x_aload_n (pc2 := 31) 0 (n := 0) (x := a0) rfl dX8_append_30 rfl ?_
      refine x_dup (pc2 := 32) rfl dX8_append_31 rfl ?_
      refine y_getI (pc2 := 35) (κ := 8) (k := 0) fl_X8_25 (by decide) (by decide) k2.sI rfl dX8_append_32 rfl ?_
      refine x_iconst (pc2 := 36) (v := 1) (by decide) dX8_append_35 rfl ?_
      refine x_iadd (pc2 := 37) dX8_append_36 rfl ?_
      refine x_putI (pc2 := 40) (κ := 8) (k := 0) fl_X8_25 (by decide) (by decide) (Or.inl rfl) rfl k2.sI dX8_append_37 rfl ?_
      refine nm_I (fun h8 e9 p10 => ?_)
      replace ht := ht h8 e9
      refine x_iinc (pc2 := 43) 2 [1, 2, 0] (i := 2) (x := x2) (v := (x2 + (-8))) (lv2 := [(0, .ref a0), (1, .int x1), (2, .int (x2 + (-8)))]) rfl (iinc_eq (by decide) _) (by decide) rfl dX8_append_40 rfl ?_
      refine x_goto 3 dX8_append_43 (by decide) ?_
      exact ht
def T_X8_open (G : GG) (d : Nat) (h : HP) (Q : Option Value → HP → Prop) (a0 : Nat) : Prop :=
  Kd G h a0 8 ∧ Ex G d mX8_open 9 [(0, .ref a0), (1, .int 0), (2, .int 0)] [] (sI h a0 9 0) Q
set_option maxRecDepth 20000 in
theorem t_X8_open {G : GG} {d : Nat} {h : HP} {Q : Option Value → HP → Prop} {a0 : Nat} (ht : T_X8_open G d h Q a0) : Ex G d mX8_open 0 [(0, .ref a0)] [] h Q := by
  unfold T_X8_open at ht
  refine x_aload_n (pc2 := 1) 0 (n := 0) (x := a0) rfl dX8_open_0 rfl ?_
  refine x_iconst (pc2 := 2) (v := 0) (by decide) dX8_open_1 rfl ?_
  obtain ⟨k1, ht⟩ := ht
  refine x_putI (pc2 := 5) (κ := 8) (k := 9) fl_X8_29 (by decide) (by decide) (Or.inl rfl) rfl k1 dX8_open_2 rfl ?_
  refine x_iconst (pc2 := 6) (v := 0) (by decide) dX8_open_5 rfl ?_
  refine x_istore_n (pc2 := 7) [1, 0] (n := 1) (x := 0) (lv2 := [(0, .ref a0), (1, .int 0)]) (by decide) rfl dX8_open_6 rfl ?_
  refine x_iconst (pc2 := 8) (v := 0) (by decide) dX8_open_7 rfl ?_
  refine x_istore_n (pc2 := 9) [1, 2, 0] (n := 2) (x := 0) (lv2 := [(0, .ref a0), (1, .int 0), (2, .int 0)]) (by decide) rfl dX8_open_8 rfl ?_
  exact ht
theorem e_X8_open {G : GG} {d : Nat} {h : HP} {Q : Option Value → HP → Prop} {a0 : Nat} (ht : T_X8_open G d h Q a0) : Cal G d mX8_open [.ref a0] h Q := cal_of rfl (Nat.le_of_ble_eq_true rfl) (t_X8_open ht)
def T_X8_open_9 (G : GG) (d : Nat) (h : HP) (Q : Option Value → HP → Prop) (a0 : Nat) (x1 : Int32) (x2 : Int32) : Prop :=
  Kd G h a0 8 ∧ (((hI h a0 0) ≤ x2 → ∃ q3, hR h a0 6 = some q3 ∧ Kd G h q3 14 ∧ vp_in (hI h a0 9) (hN h q3) ∧ ∃ q7, hR (sI h q3 (hI h a0 9).toNatClampNeg 0) a0 7 = some q7 ∧ Kd G (sI h q3 (hI h a0 9).toNatClampNeg 0) q7 14 ∧ vp_in (hI (sI h q3 (hI h a0 9).toNatClampNeg 0) a0 9) (hN (sI h q3 (hI h a0 9).toNatClampNeg 0) q7) ∧ ∀ h11, h11 = (sI (sI h q3 (hI h a0 9).toNatClampNeg 0) q7 (hI (sI h q3 (hI h a0 9).toNatClampNeg 0) a0 9).toNatClampNeg (hI (sI h q3 (hI h a0 9).toNatClampNeg 0) a0 0)) → ∃ q14, hR h11 a0 8 = some q14 ∧ Kd G h11 q14 14 ∧ vp_in (hI h11 a0 9) (hN h11 q14) ∧ Cal G (d - 1) mX8_next [.ref a0] (sI (sI (sI h11 q14 (hI h11 a0 9).toNatClampNeg (-1)) a0 1 0) a0 10 (-1)) (fun r18 h19 => r18 = none ∧ Q none h19)) ∧ (¬ (hI h a0 0) ≤ x2 → ((x2 < x1 → Ex G d mX8_open 9 [(0, .ref a0), (1, .int x1), (2, .int (x2 + 1))] [] h Q) ∧ (¬ x2 < x1 → ∃ q22, hR h a0 5 = some q22 ∧ Kd G h q22 13 ∧ vp_in x2 (hN h q22) ∧ (((hI h q22 x2.toNatClampNeg) = 32 → Ex G d mX8_open 9 [(0, .ref a0), (1, .int x1), (2, .int (x2 + 1))] [] h Q) ∧ (¬ (hI h q22 x2.toNatClampNeg) = 32 → Cal G (d - 1) mX8_split [.ref a0, .int x2] h (fun r27 h28 => ∃ v30, r27 = some (.int v30) ∧ Ex G d mX8_open 9 [(0, .ref a0), (1, .int v30), (2, .int (x2 + 1))] [] (sI h28 a0 9 ((hI h28 a0 9) + 1)) Q)))))))
set_option maxRecDepth 20000 in
theorem t_X8_open_9 {G : GG} {d : Nat} {h : HP} {Q : Option Value → HP → Prop} {a0 : Nat} {x1 : Int32} {x2 : Int32} (hd1 : 1 ≤ d) (ht : T_X8_open_9 G d h Q a0 x1 x2) : Ex G d mX8_open 9 [(0, .ref a0), (1, .int x1), (2, .int x2)] [] h Q := by
  unfold T_X8_open_9 at ht
  refine x_iload_n (pc2 := 10) 2 (n := 2) (x := x2) rfl dX8_open_9 rfl ?_
  refine x_aload_n (pc2 := 11) 0 (n := 0) (x := a0) rfl dX8_open_10 rfl ?_
  obtain ⟨k1, ht⟩ := ht
  refine y_getI (pc2 := 14) (κ := 8) (k := 0) fl_X8_25 (by decide) (by decide) k1 rfl dX8_open_11 rfl ?_
  refine x_icmp_ge (pc2 := 17) 55 dX8_open_14 (by decide) rfl (fun c2 => ?_) (fun c2 => ?_)
  · replace ht := ht.1 c2
    refine x_aload_n (pc2 := 56) 0 (n := 0) (x := a0) rfl dX8_open_55 rfl ?_
    obtain ⟨q3, e4, ht⟩ := ht
    refine y_getR (pc2 := 59) (κ := 8) (k := 6) fl_X8_15 (by decide) (by decide) k1 rfl e4 dX8_open_56 rfl ?_
    refine x_aload_n (pc2 := 60) 0 (n := 0) (x := a0) rfl dX8_open_59 rfl ?_
    refine y_getI (pc2 := 63) (κ := 8) (k := 9) fl_X8_29 (by decide) (by decide) k1 rfl dX8_open_60 rfl ?_
    refine x_iconst (pc2 := 64) (v := 0) (by decide) dX8_open_63 rfl ?_
    obtain ⟨k5, ht⟩ := ht
    obtain ⟨b6, ht⟩ := ht
    refine x_iast (pc2 := 65) k5 b6 dX8_open_64 rfl ?_
    refine x_aload_n (pc2 := 66) 0 (n := 0) (x := a0) rfl dX8_open_65 rfl ?_
    obtain ⟨q7, e8, ht⟩ := ht
    refine y_getR (pc2 := 69) (κ := 8) (k := 7) fl_X8_19 (by decide) (by decide) k1.sI rfl e8 dX8_open_66 rfl ?_
    refine x_aload_n (pc2 := 70) 0 (n := 0) (x := a0) rfl dX8_open_69 rfl ?_
    refine y_getI (pc2 := 73) (κ := 8) (k := 9) fl_X8_29 (by decide) (by decide) k1.sI rfl dX8_open_70 rfl ?_
    refine x_aload_n (pc2 := 74) 0 (n := 0) (x := a0) rfl dX8_open_73 rfl ?_
    refine y_getI (pc2 := 77) (κ := 8) (k := 0) fl_X8_25 (by decide) (by decide) k1.sI rfl dX8_open_74 rfl ?_
    obtain ⟨k9, ht⟩ := ht
    obtain ⟨b10, ht⟩ := ht
    refine x_iast (pc2 := 78) k9 b10 dX8_open_77 rfl ?_
    refine nm_I (fun h11 e12 p13 => ?_)
    replace ht := ht h11 e12
    refine x_aload_n (pc2 := 79) 0 (n := 0) (x := a0) rfl dX8_open_78 rfl ?_
    obtain ⟨q14, e15, ht⟩ := ht
    refine y_getR (pc2 := 82) (κ := 8) (k := 8) fl_X8_22 (by decide) (by decide) (k1.sI.up p13) rfl e15 dX8_open_79 rfl ?_
    refine x_aload_n (pc2 := 83) 0 (n := 0) (x := a0) rfl dX8_open_82 rfl ?_
    refine y_getI (pc2 := 86) (κ := 8) (k := 9) fl_X8_29 (by decide) (by decide) (k1.sI.up p13) rfl dX8_open_83 rfl ?_
    refine x_iconst (pc2 := 87) (v := (-1)) (by decide) dX8_open_86 rfl ?_
    obtain ⟨k16, ht⟩ := ht
    obtain ⟨b17, ht⟩ := ht
    refine x_iast (pc2 := 88) k16 b17 dX8_open_87 rfl ?_
    refine x_aload_n (pc2 := 89) 0 (n := 0) (x := a0) rfl dX8_open_88 rfl ?_
    refine x_iconst (pc2 := 90) (v := 0) (by decide) dX8_open_89 rfl ?_
    refine x_putI (pc2 := 93) (κ := 8) (k := 1) fl_X8_36 (by decide) (by decide) (Or.inl rfl) rfl (k1.sI.up p13).sI dX8_open_90 rfl ?_
    refine x_aload_n (pc2 := 94) 0 (n := 0) (x := a0) rfl dX8_open_93 rfl ?_
    refine x_iconst (pc2 := 95) (v := (-1)) (by decide) dX8_open_94 rfl ?_
    refine x_putI (pc2 := 98) (κ := 8) (k := 10) fl_X8_39 (by decide) (by decide) (Or.inl rfl) rfl (k1.sI.up p13).sI.sI dX8_open_95 rfl ?_
    refine x_aload_n (pc2 := 99) 0 (n := 0) (x := a0) rfl dX8_open_98 rfl ?_
    refine x_callV (pc2 := 102) (As := []) (rest := []) (b := a0) mv_X8_next ml_X8_42 (k1.sI.up p13).sI.sI.sI rfl rfl (Nat.le_of_ble_eq_true rfl) hd1 dX8_open_99 rfl (ht.mono (fun r18 h19 p20 ht' => ?_))
    clear ht
    obtain ⟨rfl, ht⟩ := ht'
    show Ex G d mX8_open 102 [(0, .ref a0), (1, .int x1), (2, .int x2)] [] h19 Q
    exact x_retV rfl dX8_open_102 ht
  · replace ht := ht.2 c2
    refine x_iload_n (pc2 := 18) 2 (n := 2) (x := x2) rfl dX8_open_17 rfl ?_
    refine x_iload_n (pc2 := 19) 1 (n := 1) (x := x1) rfl dX8_open_18 rfl ?_
    refine x_icmp_lt (pc2 := 22) 49 dX8_open_19 (by decide) rfl (fun c21 => ?_) (fun c21 => ?_)
    · replace ht := ht.1 c21
      refine x_iinc (pc2 := 52) 2 [1, 2, 0] (i := 2) (x := x2) (v := (x2 + 1)) (lv2 := [(0, .ref a0), (1, .int x1), (2, .int (x2 + 1))]) rfl (iinc_eq (by decide) _) (by decide) rfl dX8_open_49 rfl ?_
      refine x_goto 9 dX8_open_52 (by decide) ?_
      exact ht
    · replace ht := ht.2 c21
      refine x_aload_n (pc2 := 23) 0 (n := 0) (x := a0) rfl dX8_open_22 rfl ?_
      obtain ⟨q22, e23, ht⟩ := ht
      refine y_getR (pc2 := 26) (κ := 8) (k := 5) fl_X8_11 (by decide) (by decide) k1 rfl e23 dX8_open_23 rfl ?_
      refine x_iload_n (pc2 := 27) 2 (n := 2) (x := x2) rfl dX8_open_26 rfl ?_
      obtain ⟨k24, ht⟩ := ht
      obtain ⟨b25, ht⟩ := ht
      refine x_bald (pc2 := 28) k24 b25 dX8_open_27 rfl ?_
      refine x_bipush (pc2 := 30) (v := 32) (by decide) dX8_open_28 rfl ?_
      refine x_icmp_eq (pc2 := 33) 49 dX8_open_30 (by decide) rfl (fun c26 => ?_) (fun c26 => ?_)
      · replace ht := ht.1 c26
        refine x_iinc (pc2 := 52) 2 [1, 2, 0] (i := 2) (x := x2) (v := (x2 + 1)) (lv2 := [(0, .ref a0), (1, .int x1), (2, .int (x2 + 1))]) rfl (iinc_eq (by decide) _) (by decide) rfl dX8_open_49 rfl ?_
        refine x_goto 9 dX8_open_52 (by decide) ?_
        exact ht
      · replace ht := ht.2 c26
        refine x_aload_n (pc2 := 34) 0 (n := 0) (x := a0) rfl dX8_open_33 rfl ?_
        refine x_iload_n (pc2 := 35) 2 (n := 2) (x := x2) rfl dX8_open_34 rfl ?_
        refine x_callV (pc2 := 38) (As := [.int x2]) (rest := []) (b := a0) mv_X8_split ml_X8_32 k1 rfl rfl (Nat.le_of_ble_eq_true rfl) hd1 dX8_open_35 rfl (ht.mono (fun r27 h28 p29 ht' => ?_))
        clear ht
        obtain ⟨v30, rfl, ht⟩ := ht'
        show Ex G d mX8_open 38 [(0, .ref a0), (1, .int x1), (2, .int x2)] [.int v30] h28 Q
        refine x_istore_n (pc2 := 39) [1, 0, 2] (n := 1) (x := v30) (lv2 := [(0, .ref a0), (1, .int v30), (2, .int x2)]) (by decide) rfl dX8_open_38 rfl ?_
        refine x_aload_n (pc2 := 40) 0 (n := 0) (x := a0) rfl dX8_open_39 rfl ?_
        refine x_dup (pc2 := 41) rfl dX8_open_40 rfl ?_
        refine y_getI (pc2 := 44) (κ := 8) (k := 9) fl_X8_29 (by decide) (by decide) (k1.up p29) rfl dX8_open_41 rfl ?_
        refine x_iconst (pc2 := 45) (v := 1) (by decide) dX8_open_44 rfl ?_
        refine x_iadd (pc2 := 46) dX8_open_45 rfl ?_
        refine x_putI (pc2 := 49) (κ := 8) (k := 9) fl_X8_29 (by decide) (by decide) (Or.inl rfl) rfl (k1.up p29) dX8_open_46 rfl ?_
        refine x_iinc (pc2 := 52) 2 [1, 2, 0] (i := 2) (x := x2) (v := (x2 + 1)) (lv2 := [(0, .ref a0), (1, .int v30), (2, .int (x2 + 1))]) rfl (iinc_eq (by decide) _) (by decide) rfl dX8_open_49 rfl ?_
        refine x_goto 9 dX8_open_52 (by decide) ?_
        exact ht
def T_X8_next (G : GG) (d : Nat) (h : HP) (Q : Option Value → HP → Prop) (a0 : Nat) : Prop :=
  Kd G h a0 8 ∧ (((hI h a0 9) ≤ (hI h a0 10) → Ex G d mX8_next 21 [(0, .ref a0)] [] h Q) ∧ (¬ (hI h a0 9) ≤ (hI h a0 10) → Ex G d mX8_next 21 [(0, .ref a0)] [] (sI h a0 10 ((hI h a0 10) + 1)) Q))
set_option maxRecDepth 20000 in
theorem t_X8_next {G : GG} {d : Nat} {h : HP} {Q : Option Value → HP → Prop} {a0 : Nat} (ht : T_X8_next G d h Q a0) : Ex G d mX8_next 0 [(0, .ref a0)] [] h Q := by
  unfold T_X8_next at ht
  refine x_aload_n (pc2 := 1) 0 (n := 0) (x := a0) rfl dX8_next_0 rfl ?_
  obtain ⟨k1, ht⟩ := ht
  refine y_getI (pc2 := 4) (κ := 8) (k := 10) fl_X8_39 (by decide) (by decide) k1 rfl dX8_next_1 rfl ?_
  refine x_aload_n (pc2 := 5) 0 (n := 0) (x := a0) rfl dX8_next_4 rfl ?_
  refine y_getI (pc2 := 8) (κ := 8) (k := 9) fl_X8_29 (by decide) (by decide) k1 rfl dX8_next_5 rfl ?_
  refine x_icmp_ge (pc2 := 11) 21 dX8_next_8 (by decide) rfl (fun c2 => ?_) (fun c2 => ?_)
  · replace ht := ht.1 c2
    exact ht
  · replace ht := ht.2 c2
    refine x_aload_n (pc2 := 12) 0 (n := 0) (x := a0) rfl dX8_next_11 rfl ?_
    refine x_dup (pc2 := 13) rfl dX8_next_12 rfl ?_
    refine y_getI (pc2 := 16) (κ := 8) (k := 10) fl_X8_39 (by decide) (by decide) k1 rfl dX8_next_13 rfl ?_
    refine x_iconst (pc2 := 17) (v := 1) (by decide) dX8_next_16 rfl ?_
    refine x_iadd (pc2 := 18) dX8_next_17 rfl ?_
    refine x_putI (pc2 := 21) (κ := 8) (k := 10) fl_X8_39 (by decide) (by decide) (Or.inl rfl) rfl k1 dX8_next_18 rfl ?_
    exact ht
theorem e_X8_next {G : GG} {d : Nat} {h : HP} {Q : Option Value → HP → Prop} {a0 : Nat} (ht : T_X8_next G d h Q a0) : Cal G d mX8_next [.ref a0] h Q := cal_of rfl (Nat.le_of_ble_eq_true rfl) (t_X8_next ht)
def T_X8_next_21 (G : GG) (d : Nat) (h : HP) (Q : Option Value → HP → Prop) (a0 : Nat) : Prop :=
  Kd G h a0 8 ∧ ∃ q2, hR h a0 6 = some q2 ∧ Kd G h q2 14 ∧ vp_in (hI h a0 10) (hN h q2) ∧ ∃ q6, hR (sI h a0 2 (hI h q2 (hI h a0 10).toNatClampNeg)) a0 7 = some q6 ∧ Kd G (sI h a0 2 (hI h q2 (hI h a0 10).toNatClampNeg)) q6 14 ∧ vp_in (hI (sI h a0 2 (hI h q2 (hI h a0 10).toNatClampNeg)) a0 10) (hN (sI h a0 2 (hI h q2 (hI h a0 10).toNatClampNeg)) q6) ∧ ∀ h10, h10 = (sI (sI h a0 2 (hI h q2 (hI h a0 10).toNatClampNeg)) a0 3 (hI (sI h a0 2 (hI h q2 (hI h a0 10).toNatClampNeg)) q6 (hI (sI h a0 2 (hI h q2 (hI h a0 10).toNatClampNeg)) a0 10).toNatClampNeg)) → ∃ q13, hR h10 a0 8 = some q13 ∧ Kd G h10 q13 14 ∧ vp_in (hI h10 a0 10) (hN h10 q13) ∧ Q none (sI h10 a0 4 (hI h10 q13 (hI h10 a0 10).toNatClampNeg))
set_option maxRecDepth 20000 in
theorem t_X8_next_21 {G : GG} {d : Nat} {h : HP} {Q : Option Value → HP → Prop} {a0 : Nat} (ht : T_X8_next_21 G d h Q a0) : Ex G d mX8_next 21 [(0, .ref a0)] [] h Q := by
  unfold T_X8_next_21 at ht
  refine x_aload_n (pc2 := 22) 0 (n := 0) (x := a0) rfl dX8_next_21 rfl ?_
  refine x_aload_n (pc2 := 23) 0 (n := 0) (x := a0) rfl dX8_next_22 rfl ?_
  obtain ⟨k1, ht⟩ := ht
  obtain ⟨q2, e3, ht⟩ := ht
  refine y_getR (pc2 := 26) (κ := 8) (k := 6) fl_X8_15 (by decide) (by decide) k1 rfl e3 dX8_next_23 rfl ?_
  refine x_aload_n (pc2 := 27) 0 (n := 0) (x := a0) rfl dX8_next_26 rfl ?_
  refine y_getI (pc2 := 30) (κ := 8) (k := 10) fl_X8_39 (by decide) (by decide) k1 rfl dX8_next_27 rfl ?_
  obtain ⟨k4, ht⟩ := ht
  obtain ⟨b5, ht⟩ := ht
  refine x_iald (pc2 := 31) k4 b5 dX8_next_30 rfl ?_
  refine x_putI (pc2 := 34) (κ := 8) (k := 2) fl_X8_45 (by decide) (by decide) (Or.inl rfl) rfl k1 dX8_next_31 rfl ?_
  refine x_aload_n (pc2 := 35) 0 (n := 0) (x := a0) rfl dX8_next_34 rfl ?_
  refine x_aload_n (pc2 := 36) 0 (n := 0) (x := a0) rfl dX8_next_35 rfl ?_
  obtain ⟨q6, e7, ht⟩ := ht
  refine y_getR (pc2 := 39) (κ := 8) (k := 7) fl_X8_19 (by decide) (by decide) k1.sI rfl e7 dX8_next_36 rfl ?_
  refine x_aload_n (pc2 := 40) 0 (n := 0) (x := a0) rfl dX8_next_39 rfl ?_
  refine y_getI (pc2 := 43) (κ := 8) (k := 10) fl_X8_39 (by decide) (by decide) k1.sI rfl dX8_next_40 rfl ?_
  obtain ⟨k8, ht⟩ := ht
  obtain ⟨b9, ht⟩ := ht
  refine x_iald (pc2 := 44) k8 b9 dX8_next_43 rfl ?_
  refine x_putI (pc2 := 47) (κ := 8) (k := 3) fl_X8_48 (by decide) (by decide) (Or.inl rfl) rfl k1.sI dX8_next_44 rfl ?_
  refine nm_I (fun h10 e11 p12 => ?_)
  replace ht := ht h10 e11
  refine x_aload_n (pc2 := 48) 0 (n := 0) (x := a0) rfl dX8_next_47 rfl ?_
  refine x_aload_n (pc2 := 49) 0 (n := 0) (x := a0) rfl dX8_next_48 rfl ?_
  obtain ⟨q13, e14, ht⟩ := ht
  refine y_getR (pc2 := 52) (κ := 8) (k := 8) fl_X8_22 (by decide) (by decide) (k1.sI.up p12) rfl e14 dX8_next_49 rfl ?_
  refine x_aload_n (pc2 := 53) 0 (n := 0) (x := a0) rfl dX8_next_52 rfl ?_
  refine y_getI (pc2 := 56) (κ := 8) (k := 10) fl_X8_39 (by decide) (by decide) (k1.sI.up p12) rfl dX8_next_53 rfl ?_
  obtain ⟨k15, ht⟩ := ht
  obtain ⟨b16, ht⟩ := ht
  refine x_iald (pc2 := 57) k15 b16 dX8_next_56 rfl ?_
  refine x_putI (pc2 := 60) (κ := 8) (k := 4) fl_X8_51 (by decide) (by decide) (Or.inl rfl) rfl (k1.sI.up p12) dX8_next_57 rfl ?_
  exact x_retV rfl dX8_next_60 ht
def T_X8_split (G : GG) (d : Nat) (h : HP) (Q : Option Value → HP → Prop) (a0 : Nat) (x1 : Int32) : Prop :=
  Kd G h a0 8 ∧ ∃ q2, hR h a0 5 = some q2 ∧ Kd G h q2 13 ∧ vp_in x1 (hN h q2) ∧ ∃ q6, hR h a0 7 = some q6 ∧ Kd G h q6 14 ∧ vp_in (hI h a0 9) (hN h q6) ∧ (((hI h q2 x1.toNatClampNeg) < 97 → Ex G d mX8_split 35 [(0, .ref a0), (1, .int x1), (2, .int (hI h q2 x1.toNatClampNeg))] [] (sI h q6 (hI h a0 9).toNatClampNeg x1) Q) ∧ (¬ (hI h q2 x1.toNatClampNeg) < 97 → ((122 < (hI h q2 x1.toNatClampNeg) → Ex G d mX8_split 35 [(0, .ref a0), (1, .int x1), (2, .int (hI h q2 x1.toNatClampNeg))] [] (sI h q6 (hI h a0 9).toNatClampNeg x1) Q) ∧ (¬ 122 < (hI h q2 x1.toNatClampNeg) → Cal G (d - 1) mX8_splitWord [.ref a0, .int x1] (sI h q6 (hI h a0 9).toNatClampNeg x1) (fun r12 h13 => ∃ v15, r12 = some (.int v15) ∧ Q (some (.int v15)) h13)))))
set_option maxRecDepth 20000 in
theorem t_X8_split {G : GG} {d : Nat} {h : HP} {Q : Option Value → HP → Prop} {a0 : Nat} {x1 : Int32} (hd1 : 1 ≤ d) (ht : T_X8_split G d h Q a0 x1) : Ex G d mX8_split 0 [(0, .ref a0), (1, .int x1)] [] h Q := by
  unfold T_X8_split at ht
  refine x_aload_n (pc2 := 1) 0 (n := 0) (x := a0) rfl dX8_split_0 rfl ?_
  obtain ⟨k1, ht⟩ := ht
  obtain ⟨q2, e3, ht⟩ := ht
  refine y_getR (pc2 := 4) (κ := 8) (k := 5) fl_X8_11 (by decide) (by decide) k1 rfl e3 dX8_split_1 rfl ?_
  refine x_iload_n (pc2 := 5) 1 (n := 1) (x := x1) rfl dX8_split_4 rfl ?_
  obtain ⟨k4, ht⟩ := ht
  obtain ⟨b5, ht⟩ := ht
  refine x_bald (pc2 := 6) k4 b5 dX8_split_5 rfl ?_
  refine x_istore_n (pc2 := 7) [1, 2, 0] (n := 2) (x := (hI h q2 x1.toNatClampNeg)) (lv2 := [(0, .ref a0), (1, .int x1), (2, .int (hI h q2 x1.toNatClampNeg))]) (by decide) rfl dX8_split_6 rfl ?_
  refine x_aload_n (pc2 := 8) 0 (n := 0) (x := a0) rfl dX8_split_7 rfl ?_
  obtain ⟨q6, e7, ht⟩ := ht
  refine y_getR (pc2 := 11) (κ := 8) (k := 7) fl_X8_19 (by decide) (by decide) k1 rfl e7 dX8_split_8 rfl ?_
  refine x_aload_n (pc2 := 12) 0 (n := 0) (x := a0) rfl dX8_split_11 rfl ?_
  refine y_getI (pc2 := 15) (κ := 8) (k := 9) fl_X8_29 (by decide) (by decide) k1 rfl dX8_split_12 rfl ?_
  refine x_iload_n (pc2 := 16) 1 (n := 1) (x := x1) rfl dX8_split_15 rfl ?_
  obtain ⟨k8, ht⟩ := ht
  obtain ⟨b9, ht⟩ := ht
  refine x_iast (pc2 := 17) k8 b9 dX8_split_16 rfl ?_
  refine x_iload_n (pc2 := 18) 2 (n := 2) (x := (hI h q2 x1.toNatClampNeg)) rfl dX8_split_17 rfl ?_
  refine x_bipush (pc2 := 20) (v := 97) (by decide) dX8_split_18 rfl ?_
  refine x_icmp_lt (pc2 := 23) 35 dX8_split_20 (by decide) rfl (fun c10 => ?_) (fun c10 => ?_)
  · replace ht := ht.1 c10
    exact ht
  · replace ht := ht.2 c10
    refine x_iload_n (pc2 := 24) 2 (n := 2) (x := (hI h q2 x1.toNatClampNeg)) rfl dX8_split_23 rfl ?_
    refine x_bipush (pc2 := 26) (v := 122) (by decide) dX8_split_24 rfl ?_
    refine x_icmp_gt (pc2 := 29) 35 dX8_split_26 (by decide) rfl (fun c11 => ?_) (fun c11 => ?_)
    · replace ht := ht.1 c11
      exact ht
    · replace ht := ht.2 c11
      refine x_aload_n (pc2 := 30) 0 (n := 0) (x := a0) rfl dX8_split_29 rfl ?_
      refine x_iload_n (pc2 := 31) 1 (n := 1) (x := x1) rfl dX8_split_30 rfl ?_
      refine x_callV (pc2 := 34) (As := [.int x1]) (rest := []) (b := a0) mv_X8_splitWord ml_X8_54 k1.sI rfl rfl (Nat.le_of_ble_eq_true rfl) hd1 dX8_split_31 rfl (ht.mono (fun r12 h13 p14 ht' => ?_))
      clear ht
      obtain ⟨v15, rfl, ht⟩ := ht'
      show Ex G d mX8_split 34 [(0, .ref a0), (1, .int x1), (2, .int (hI h q2 x1.toNatClampNeg))] [.int v15] h13 Q
      exact x_ret (ty := .int) rfl rfl dX8_split_34 ht
theorem e_X8_split {G : GG} {d : Nat} {h : HP} {Q : Option Value → HP → Prop} {a0 : Nat} {x1 : Int32} (hd1 : 1 ≤ d) (ht : T_X8_split G d h Q a0 x1) : Cal G d mX8_split [.ref a0, .int x1] h Q := cal_of rfl (Nat.le_of_ble_eq_true rfl) (t_X8_split hd1 ht)
def T_X8_split_35 (G : GG) (d : Nat) (h : HP) (Q : Option Value → HP → Prop) (a0 : Nat) (x1 : Int32) (x2 : Int32) : Prop :=
  ((x2 < 48 → ((x2 = 60 → Ex G d mX8_split 65 [(0, .ref a0), (1, .int x1), (2, .int x2)] [] h Q) ∧ (¬ x2 = 60 → ((¬ x2 = 62 → Ex G d mX8_split 93 [(0, .ref a0), (1, .int x1), (2, .int x2)] [.int 0] h Q) ∧ (x2 = 62 → Ex G d mX8_split 65 [(0, .ref a0), (1, .int x1), (2, .int x2)] [] h Q))))) ∧ (¬ x2 < 48 → ((57 < x2 → ((x2 = 60 → Ex G d mX8_split 65 [(0, .ref a0), (1, .int x1), (2, .int x2)] [] h Q) ∧ (¬ x2 = 60 → ((¬ x2 = 62 → Ex G d mX8_split 93 [(0, .ref a0), (1, .int x1), (2, .int x2)] [.int 0] h Q) ∧ (x2 = 62 → Ex G d mX8_split 65 [(0, .ref a0), (1, .int x1), (2, .int x2)] [] h Q))))) ∧ (¬ 57 < x2 → Kd G h a0 8 ∧ Cal G (d - 1) mX8_splitNumber [.ref a0, .int x1] h (fun r7 h8 => ∃ v11, r7 = some (.int v11) ∧ Q (some (.int v11)) h8)))))
set_option maxRecDepth 20000 in
theorem t_X8_split_35 {G : GG} {d : Nat} {h : HP} {Q : Option Value → HP → Prop} {a0 : Nat} {x1 : Int32} {x2 : Int32} (hd1 : 1 ≤ d) (ht : T_X8_split_35 G d h Q a0 x1 x2) : Ex G d mX8_split 35 [(0, .ref a0), (1, .int x1), (2, .int x2)] [] h Q := by
  unfold T_X8_split_35 at ht
  refine x_iload_n (pc2 := 36) 2 (n := 2) (x := x2) rfl dX8_split_35 rfl ?_
  refine x_bipush (pc2 := 38) (v := 48) (by decide) dX8_split_36 rfl ?_
  refine x_icmp_lt (pc2 := 41) 53 dX8_split_38 (by decide) rfl (fun c1 => ?_) (fun c1 => ?_)
  · replace ht := ht.1 c1
    refine x_iload_n (pc2 := 54) 2 (n := 2) (x := x2) rfl dX8_split_53 rfl ?_
    refine x_bipush (pc2 := 56) (v := 60) (by decide) dX8_split_54 rfl ?_
    refine x_icmp_eq (pc2 := 59) 65 dX8_split_56 (by decide) rfl (fun c2 => ?_) (fun c2 => ?_)
    · replace ht := ht.1 c2
      exact ht
    · replace ht := ht.2 c2
      refine x_iload_n (pc2 := 60) 2 (n := 2) (x := x2) rfl dX8_split_59 rfl ?_
      refine x_bipush (pc2 := 62) (v := 62) (by decide) dX8_split_60 rfl ?_
      refine y_icmp_ne (pc2 := 65) 92 dX8_split_62 (by decide) rfl (fun c3 => ?_) (fun c3 => ?_)
      · replace ht := ht.1 c3
        refine x_iconst (pc2 := 93) (v := 0) (by decide) dX8_split_92 rfl ?_
        exact ht
      · replace ht := ht.2 c3
        exact ht
  · replace ht := ht.2 c1
    refine x_iload_n (pc2 := 42) 2 (n := 2) (x := x2) rfl dX8_split_41 rfl ?_
    refine x_bipush (pc2 := 44) (v := 57) (by decide) dX8_split_42 rfl ?_
    refine x_icmp_gt (pc2 := 47) 53 dX8_split_44 (by decide) rfl (fun c4 => ?_) (fun c4 => ?_)
    · replace ht := ht.1 c4
      refine x_iload_n (pc2 := 54) 2 (n := 2) (x := x2) rfl dX8_split_53 rfl ?_
      refine x_bipush (pc2 := 56) (v := 60) (by decide) dX8_split_54 rfl ?_
      refine x_icmp_eq (pc2 := 59) 65 dX8_split_56 (by decide) rfl (fun c5 => ?_) (fun c5 => ?_)
      · replace ht := ht.1 c5
        exact ht
      · replace ht := ht.2 c5
        refine x_iload_n (pc2 := 60) 2 (n := 2) (x := x2) rfl dX8_split_59 rfl ?_
        refine x_bipush (pc2 := 62) (v := 62) (by decide) dX8_split_60 rfl ?_
        refine y_icmp_ne (pc2 := 65) 92 dX8_split_62 (by decide) rfl (fun c6 => ?_) (fun c6 => ?_)
        · replace ht := ht.1 c6
          refine x_iconst (pc2 := 93) (v := 0) (by decide) dX8_split_92 rfl ?_
          exact ht
        · replace ht := ht.2 c6
          exact ht
    · replace ht := ht.2 c4
      refine x_aload_n (pc2 := 48) 0 (n := 0) (x := a0) rfl dX8_split_47 rfl ?_
      refine x_iload_n (pc2 := 49) 1 (n := 1) (x := x1) rfl dX8_split_48 rfl ?_
      obtain ⟨k10, ht⟩ := ht
      refine x_callV (pc2 := 52) (As := [.int x1]) (rest := []) (b := a0) mv_X8_splitNumber ml_X8_57 k10 rfl rfl (Nat.le_of_ble_eq_true rfl) hd1 dX8_split_49 rfl (ht.mono (fun r7 h8 p9 ht' => ?_))
      clear ht
      obtain ⟨v11, rfl, ht⟩ := ht'
      show Ex G d mX8_split 52 [(0, .ref a0), (1, .int x1), (2, .int x2)] [.int v11] h8 Q
      exact x_ret (ty := .int) rfl rfl dX8_split_52 ht
def T_X8_split_65 (G : GG) (d : Nat) (h : HP) (Q : Option Value → HP → Prop) (a0 : Nat) (x1 : Int32) (x2 : Int32) : Prop :=
  Kd G h a0 8 ∧ (((hI h a0 0) ≤ (x1 + 1) → Ex G d mX8_split 93 [(0, .ref a0), (1, .int x1), (2, .int x2)] [.int 0] h Q) ∧ (¬ (hI h a0 0) ≤ (x1 + 1) → ∃ q3, hR h a0 5 = some q3 ∧ Kd G h q3 13 ∧ vp_in (x1 + 1) (hN h q3) ∧ ((¬ (hI h q3 (x1 + 1).toNatClampNeg) = 61 → Ex G d mX8_split 93 [(0, .ref a0), (1, .int x1), (2, .int x2)] [.int 0] h Q) ∧ ((hI h q3 (x1 + 1).toNatClampNeg) = 61 → Ex G d mX8_split 93 [(0, .ref a0), (1, .int x1), (2, .int x2)] [.int 1] h Q))))
set_option maxRecDepth 20000 in
theorem t_X8_split_65 {G : GG} {d : Nat} {h : HP} {Q : Option Value → HP → Prop} {a0 : Nat} {x1 : Int32} {x2 : Int32} (ht : T_X8_split_65 G d h Q a0 x1 x2) : Ex G d mX8_split 65 [(0, .ref a0), (1, .int x1), (2, .int x2)] [] h Q := by
  unfold T_X8_split_65 at ht
  refine x_iload_n (pc2 := 66) 1 (n := 1) (x := x1) rfl dX8_split_65 rfl ?_
  refine x_iconst (pc2 := 67) (v := 1) (by decide) dX8_split_66 rfl ?_
  refine x_iadd (pc2 := 68) dX8_split_67 rfl ?_
  refine x_aload_n (pc2 := 69) 0 (n := 0) (x := a0) rfl dX8_split_68 rfl ?_
  obtain ⟨k1, ht⟩ := ht
  refine y_getI (pc2 := 72) (κ := 8) (k := 0) fl_X8_25 (by decide) (by decide) k1 rfl dX8_split_69 rfl ?_
  refine x_icmp_ge (pc2 := 75) 92 dX8_split_72 (by decide) rfl (fun c2 => ?_) (fun c2 => ?_)
  · replace ht := ht.1 c2
    refine x_iconst (pc2 := 93) (v := 0) (by decide) dX8_split_92 rfl ?_
    exact ht
  · replace ht := ht.2 c2
    refine x_aload_n (pc2 := 76) 0 (n := 0) (x := a0) rfl dX8_split_75 rfl ?_
    obtain ⟨q3, e4, ht⟩ := ht
    refine y_getR (pc2 := 79) (κ := 8) (k := 5) fl_X8_11 (by decide) (by decide) k1 rfl e4 dX8_split_76 rfl ?_
    refine x_iload_n (pc2 := 80) 1 (n := 1) (x := x1) rfl dX8_split_79 rfl ?_
    refine x_iconst (pc2 := 81) (v := 1) (by decide) dX8_split_80 rfl ?_
    refine x_iadd (pc2 := 82) dX8_split_81 rfl ?_
    obtain ⟨k5, ht⟩ := ht
    obtain ⟨b6, ht⟩ := ht
    refine x_bald (pc2 := 83) k5 b6 dX8_split_82 rfl ?_
    refine x_bipush (pc2 := 85) (v := 61) (by decide) dX8_split_83 rfl ?_
    refine y_icmp_ne (pc2 := 88) 92 dX8_split_85 (by decide) rfl (fun c7 => ?_) (fun c7 => ?_)
    · replace ht := ht.1 c7
      refine x_iconst (pc2 := 93) (v := 0) (by decide) dX8_split_92 rfl ?_
      exact ht
    · replace ht := ht.2 c7
      refine x_iconst (pc2 := 89) (v := 1) (by decide) dX8_split_88 rfl ?_
      refine x_goto 93 dX8_split_89 (by decide) ?_
      exact ht
def T_X8_split_93 (G : GG) (d : Nat) (h : HP) (Q : Option Value → HP → Prop) (a0 : Nat) (x1 : Int32) (x2 : Int32) (sx0 : Int32) : Prop :=
  Kd G h a0 8 ∧ ∃ q2, hR h a0 6 = some q2 ∧ Kd G h q2 14 ∧ vp_in (hI h a0 9) (hN h q2) ∧ ∃ q6, hR (sI h q2 (hI h a0 9).toNatClampNeg 3) a0 8 = some q6 ∧ ((¬ sx0 = 0 → ((¬ x2 = 60 → Ex G d mX8_split 135 [(0, .ref a0), (1, .int x1), (2, .int x2), (3, .int sx0)] [.int 257, .int (hI (sI h q2 (hI h a0 9).toNatClampNeg 3) a0 9), .ref q6] (sI h q2 (hI h a0 9).toNatClampNeg 3) Q) ∧ (x2 = 60 → Ex G d mX8_split 135 [(0, .ref a0), (1, .int x1), (2, .int x2), (3, .int sx0)] [.int 256, .int (hI (sI h q2 (hI h a0 9).toNatClampNeg 3) a0 9), .ref q6] (sI h q2 (hI h a0 9).toNatClampNeg 3) Q))) ∧ (sx0 = 0 → Ex G d mX8_split 135 [(0, .ref a0), (1, .int x1), (2, .int x2), (3, .int sx0)] [.int x2, .int (hI (sI h q2 (hI h a0 9).toNatClampNeg 3) a0 9), .ref q6] (sI h q2 (hI h a0 9).toNatClampNeg 3) Q))
set_option maxRecDepth 20000 in
theorem t_X8_split_93 {G : GG} {d : Nat} {h : HP} {Q : Option Value → HP → Prop} {a0 : Nat} {x1 : Int32} {x2 : Int32} {sx0 : Int32} (ht : T_X8_split_93 G d h Q a0 x1 x2 sx0) : Ex G d mX8_split 93 [(0, .ref a0), (1, .int x1), (2, .int x2)] [.int sx0] h Q := by
  unfold T_X8_split_93 at ht
  refine x_istore_n (pc2 := 94) [1, 2, 3, 0] (n := 3) (x := sx0) (lv2 := [(0, .ref a0), (1, .int x1), (2, .int x2), (3, .int sx0)]) (by decide) rfl dX8_split_93 rfl ?_
  refine x_aload_n (pc2 := 95) 0 (n := 0) (x := a0) rfl dX8_split_94 rfl ?_
  obtain ⟨k1, ht⟩ := ht
  obtain ⟨q2, e3, ht⟩ := ht
  refine y_getR (pc2 := 98) (κ := 8) (k := 6) fl_X8_15 (by decide) (by decide) k1 rfl e3 dX8_split_95 rfl ?_
  refine x_aload_n (pc2 := 99) 0 (n := 0) (x := a0) rfl dX8_split_98 rfl ?_
  refine y_getI (pc2 := 102) (κ := 8) (k := 9) fl_X8_29 (by decide) (by decide) k1 rfl dX8_split_99 rfl ?_
  refine x_iconst (pc2 := 103) (v := 3) (by decide) dX8_split_102 rfl ?_
  obtain ⟨k4, ht⟩ := ht
  obtain ⟨b5, ht⟩ := ht
  refine x_iast (pc2 := 104) k4 b5 dX8_split_103 rfl ?_
  refine x_aload_n (pc2 := 105) 0 (n := 0) (x := a0) rfl dX8_split_104 rfl ?_
  obtain ⟨q6, e7, ht⟩ := ht
  refine y_getR (pc2 := 108) (κ := 8) (k := 8) fl_X8_22 (by decide) (by decide) k1.sI rfl e7 dX8_split_105 rfl ?_
  refine x_aload_n (pc2 := 109) 0 (n := 0) (x := a0) rfl dX8_split_108 rfl ?_
  refine y_getI (pc2 := 112) (κ := 8) (k := 9) fl_X8_29 (by decide) (by decide) k1.sI rfl dX8_split_109 rfl ?_
  refine x_iload_n (pc2 := 113) 3 (n := 3) (x := sx0) rfl dX8_split_112 rfl ?_
  refine y_if_ne (pc2 := 116) 120 dX8_split_113 (by decide) rfl (fun c8 => ?_) (fun c8 => ?_)
  · replace ht := ht.1 c8
    refine x_iload_n (pc2 := 121) 2 (n := 2) (x := x2) rfl dX8_split_120 rfl ?_
    refine x_bipush (pc2 := 123) (v := 60) (by decide) dX8_split_121 rfl ?_
    refine y_icmp_ne (pc2 := 126) 132 dX8_split_123 (by decide) rfl (fun c9 => ?_) (fun c9 => ?_)
    · replace ht := ht.1 c9
      refine x_sipush (pc2 := 135) (v := 257) (by decide) dX8_split_132 rfl ?_
      exact ht
    · replace ht := ht.2 c9
      refine x_sipush (pc2 := 129) (v := 256) (by decide) dX8_split_126 rfl ?_
      refine x_goto 135 dX8_split_129 (by decide) ?_
      exact ht
  · replace ht := ht.2 c8
    refine x_iload_n (pc2 := 117) 2 (n := 2) (x := x2) rfl dX8_split_116 rfl ?_
    refine x_goto 135 dX8_split_117 (by decide) ?_
    exact ht
def T_X8_split_135 (G : GG) (d : Nat) (h : HP) (Q : Option Value → HP → Prop) (a0 : Nat) (x1 : Int32) (x2 : Int32) (x3 : Int32) (sa0 : Nat) (sx1 : Int32) (sx2 : Int32) : Prop :=
  Kd G h sa0 14 ∧ vp_in sx1 (hN h sa0) ∧ ((x3 = 0 → Q (some (.int (x1 + 1))) (sI h sa0 sx1.toNatClampNeg sx2)) ∧ (¬ x3 = 0 → Q (some (.int (x1 + 2))) (sI h sa0 sx1.toNatClampNeg sx2)))
set_option maxRecDepth 20000 in
theorem t_X8_split_135 {G : GG} {d : Nat} {h : HP} {Q : Option Value → HP → Prop} {a0 : Nat} {x1 : Int32} {x2 : Int32} {x3 : Int32} {sa0 : Nat} {sx1 : Int32} {sx2 : Int32} (ht : T_X8_split_135 G d h Q a0 x1 x2 x3 sa0 sx1 sx2) : Ex G d mX8_split 135 [(0, .ref a0), (1, .int x1), (2, .int x2), (3, .int x3)] [.int sx2, .int sx1, .ref sa0] h Q := by
  unfold T_X8_split_135 at ht
  obtain ⟨k1, ht⟩ := ht
  obtain ⟨b2, ht⟩ := ht
  refine x_iast (pc2 := 136) k1 b2 dX8_split_135 rfl ?_
  refine x_iload_n (pc2 := 137) 3 (n := 3) (x := x3) rfl dX8_split_136 rfl ?_
  refine x_if_eq (pc2 := 140) 146 dX8_split_137 (by decide) rfl (fun c3 => ?_) (fun c3 => ?_)
  · replace ht := ht.1 c3
    refine x_iload_n (pc2 := 147) 1 (n := 1) (x := x1) rfl dX8_split_146 rfl ?_
    refine x_iconst (pc2 := 148) (v := 1) (by decide) dX8_split_147 rfl ?_
    refine x_iadd (pc2 := 149) dX8_split_148 rfl ?_
    exact x_ret (ty := .int) rfl rfl dX8_split_149 ht
  · replace ht := ht.2 c3
    refine x_iload_n (pc2 := 141) 1 (n := 1) (x := x1) rfl dX8_split_140 rfl ?_
    refine x_iconst (pc2 := 142) (v := 2) (by decide) dX8_split_141 rfl ?_
    refine x_iadd (pc2 := 143) dX8_split_142 rfl ?_
    refine x_goto 149 dX8_split_143 (by decide) ?_
    exact x_ret (ty := .int) rfl rfl dX8_split_149 ht
def T_X8_splitWord (G : GG) (d : Nat) (h : HP) (Q : Option Value → HP → Prop) (a0 : Nat) (x1 : Int32) : Prop :=
  Ex G d mX8_splitWord 2 [(0, .ref a0), (1, .int x1), (2, .int x1)] [] h Q
set_option maxRecDepth 20000 in
theorem t_X8_splitWord {G : GG} {d : Nat} {h : HP} {Q : Option Value → HP → Prop} {a0 : Nat} {x1 : Int32} (ht : T_X8_splitWord G d h Q a0 x1) : Ex G d mX8_splitWord 0 [(0, .ref a0), (1, .int x1)] [] h Q := by
  unfold T_X8_splitWord at ht
  refine x_iload_n (pc2 := 1) 1 (n := 1) (x := x1) rfl dX8_splitWord_0 rfl ?_
  refine x_istore_n (pc2 := 2) [1, 2, 0] (n := 2) (x := x1) (lv2 := [(0, .ref a0), (1, .int x1), (2, .int x1)]) (by decide) rfl dX8_splitWord_1 rfl ?_
  exact ht
theorem e_X8_splitWord {G : GG} {d : Nat} {h : HP} {Q : Option Value → HP → Prop} {a0 : Nat} {x1 : Int32} (ht : T_X8_splitWord G d h Q a0 x1) : Cal G d mX8_splitWord [.ref a0, .int x1] h Q := cal_of rfl (Nat.le_of_ble_eq_true rfl) (t_X8_splitWord ht)
def T_X8_splitWord_2 (G : GG) (d : Nat) (h : HP) (Q : Option Value → HP → Prop) (a0 : Nat) (x1 : Int32) (x2 : Int32) : Prop :=
  Kd G h a0 8 ∧ (((hI h a0 0) ≤ x2 → Ex G d mX8_splitWord 38 [(0, .ref a0), (1, .int x1), (2, .int x2)] [] h Q) ∧ (¬ (hI h a0 0) ≤ x2 → ∃ q3, hR h a0 5 = some q3 ∧ Kd G h q3 13 ∧ vp_in x2 (hN h q3) ∧ (((hI h q3 x2.toNatClampNeg) < 97 → Ex G d mX8_splitWord 38 [(0, .ref a0), (1, .int x1), (2, .int x2)] [] h Q) ∧ (¬ (hI h q3 x2.toNatClampNeg) < 97 → vp_in x2 (hN h q3) ∧ ((122 < (hI h q3 x2.toNatClampNeg) → Ex G d mX8_splitWord 38 [(0, .ref a0), (1, .int x1), (2, .int x2)] [] h Q) ∧ (¬ 122 < (hI h q3 x2.toNatClampNeg) → Ex G d mX8_splitWord 2 [(0, .ref a0), (1, .int x1), (2, .int (x2 + 1))] [] h Q))))))
set_option maxRecDepth 20000 in
theorem t_X8_splitWord_2 {G : GG} {d : Nat} {h : HP} {Q : Option Value → HP → Prop} {a0 : Nat} {x1 : Int32} {x2 : Int32} (ht : T_X8_splitWord_2 G d h Q a0 x1 x2) : Ex G d mX8_splitWord 2 [(0, .ref a0), (1, .int x1), (2, .int x2)] [] h Q := by
  unfold T_X8_splitWord_2 at ht
  refine x_iload_n (pc2 := 3) 2 (n := 2) (x := x2) rfl dX8_splitWord_2 rfl ?_
  refine x_aload_n (pc2 := 4) 0 (n := 0) (x := a0) rfl dX8_splitWord_3 rfl ?_
  obtain ⟨k1, ht⟩ := ht
  refine y_getI (pc2 := 7) (κ := 8) (k := 0) fl_X8_25 (by decide) (by decide) k1 rfl dX8_splitWord_4 rfl ?_
  refine x_icmp_ge (pc2 := 10) 38 dX8_splitWord_7 (by decide) rfl (fun c2 => ?_) (fun c2 => ?_)
  · replace ht := ht.1 c2
    exact ht
  · replace ht := ht.2 c2
    refine x_aload_n (pc2 := 11) 0 (n := 0) (x := a0) rfl dX8_splitWord_10 rfl ?_
    obtain ⟨q3, e4, ht⟩ := ht
    refine y_getR (pc2 := 14) (κ := 8) (k := 5) fl_X8_11 (by decide) (by decide) k1 rfl e4 dX8_splitWord_11 rfl ?_
    refine x_iload_n (pc2 := 15) 2 (n := 2) (x := x2) rfl dX8_splitWord_14 rfl ?_
    obtain ⟨k5, ht⟩ := ht
    obtain ⟨b6, ht⟩ := ht
    refine x_bald (pc2 := 16) k5 b6 dX8_splitWord_15 rfl ?_
    refine x_bipush (pc2 := 18) (v := 97) (by decide) dX8_splitWord_16 rfl ?_
    refine x_icmp_lt (pc2 := 21) 38 dX8_splitWord_18 (by decide) rfl (fun c7 => ?_) (fun c7 => ?_)
    · replace ht := ht.1 c7
      exact ht
    · replace ht := ht.2 c7
      refine x_aload_n (pc2 := 22) 0 (n := 0) (x := a0) rfl dX8_splitWord_21 rfl ?_
      refine y_getR (pc2 := 25) (κ := 8) (k := 5) fl_X8_11 (by decide) (by decide) k1 rfl e4 dX8_splitWord_22 rfl ?_
      refine x_iload_n (pc2 := 26) 2 (n := 2) (x := x2) rfl dX8_splitWord_25 rfl ?_
      obtain ⟨b8, ht⟩ := ht
      refine x_bald (pc2 := 27) k5 b8 dX8_splitWord_26 rfl ?_
      refine x_bipush (pc2 := 29) (v := 122) (by decide) dX8_splitWord_27 rfl ?_
      refine x_icmp_gt (pc2 := 32) 38 dX8_splitWord_29 (by decide) rfl (fun c9 => ?_) (fun c9 => ?_)
      · replace ht := ht.1 c9
        exact ht
      · replace ht := ht.2 c9
        refine x_iinc (pc2 := 35) 2 [1, 2, 0] (i := 2) (x := x2) (v := (x2 + 1)) (lv2 := [(0, .ref a0), (1, .int x1), (2, .int (x2 + 1))]) rfl (iinc_eq (by decide) _) (by decide) rfl dX8_splitWord_32 rfl ?_
        refine x_goto 2 dX8_splitWord_35 (by decide) ?_
        exact ht
def T_X8_splitWord_38 (G : GG) (d : Nat) (h : HP) (Q : Option Value → HP → Prop) (a0 : Nat) (x1 : Int32) (x2 : Int32) : Prop :=
  Kd G h a0 8 ∧ ∃ q2, hR h a0 6 = some q2 ∧ Kd G h q2 14 ∧ vp_in (hI h a0 9) (hN h q2) ∧ ∃ q6, hR (sI h q2 (hI h a0 9).toNatClampNeg 1) a0 8 = some q6 ∧ Cal G (d - 1) mX8_wordOf [.ref a0, .int x1, .int x2] (sI h q2 (hI h a0 9).toNatClampNeg 1) (fun r8 h9 => ∃ v11, r8 = some (.int v11) ∧ Kd G h9 q6 14 ∧ vp_in (hI (sI h q2 (hI h a0 9).toNatClampNeg 1) a0 9) (hN h9 q6) ∧ Q (some (.int x2)) (sI h9 q6 (hI (sI h q2 (hI h a0 9).toNatClampNeg 1) a0 9).toNatClampNeg v11))
set_option maxRecDepth 20000 in
theorem t_X8_splitWord_38 {G : GG} {d : Nat} {h : HP} {Q : Option Value → HP → Prop} {a0 : Nat} {x1 : Int32} {x2 : Int32} (hd1 : 1 ≤ d) (ht : T_X8_splitWord_38 G d h Q a0 x1 x2) : Ex G d mX8_splitWord 38 [(0, .ref a0), (1, .int x1), (2, .int x2)] [] h Q := by
  unfold T_X8_splitWord_38 at ht
  refine x_aload_n (pc2 := 39) 0 (n := 0) (x := a0) rfl dX8_splitWord_38 rfl ?_
  obtain ⟨k1, ht⟩ := ht
  obtain ⟨q2, e3, ht⟩ := ht
  refine y_getR (pc2 := 42) (κ := 8) (k := 6) fl_X8_15 (by decide) (by decide) k1 rfl e3 dX8_splitWord_39 rfl ?_
  refine x_aload_n (pc2 := 43) 0 (n := 0) (x := a0) rfl dX8_splitWord_42 rfl ?_
  refine y_getI (pc2 := 46) (κ := 8) (k := 9) fl_X8_29 (by decide) (by decide) k1 rfl dX8_splitWord_43 rfl ?_
  refine x_iconst (pc2 := 47) (v := 1) (by decide) dX8_splitWord_46 rfl ?_
  obtain ⟨k4, ht⟩ := ht
  obtain ⟨b5, ht⟩ := ht
  refine x_iast (pc2 := 48) k4 b5 dX8_splitWord_47 rfl ?_
  refine x_aload_n (pc2 := 49) 0 (n := 0) (x := a0) rfl dX8_splitWord_48 rfl ?_
  obtain ⟨q6, e7, ht⟩ := ht
  refine y_getR (pc2 := 52) (κ := 8) (k := 8) fl_X8_22 (by decide) (by decide) k1.sI rfl e7 dX8_splitWord_49 rfl ?_
  refine x_aload_n (pc2 := 53) 0 (n := 0) (x := a0) rfl dX8_splitWord_52 rfl ?_
  refine y_getI (pc2 := 56) (κ := 8) (k := 9) fl_X8_29 (by decide) (by decide) k1.sI rfl dX8_splitWord_53 rfl ?_
  refine x_aload_n (pc2 := 57) 0 (n := 0) (x := a0) rfl dX8_splitWord_56 rfl ?_
  refine x_iload_n (pc2 := 58) 1 (n := 1) (x := x1) rfl dX8_splitWord_57 rfl ?_
  refine x_iload_n (pc2 := 59) 2 (n := 2) (x := x2) rfl dX8_splitWord_58 rfl ?_
  refine x_callV (pc2 := 62) (As := [.int x1, .int x2]) (rest := [.int (hI (sI h q2 (hI h a0 9).toNatClampNeg 1) a0 9), .ref q6]) (b := a0) mv_X8_wordOf ml_X8_60 k1.sI rfl rfl (Nat.le_of_ble_eq_true rfl) hd1 dX8_splitWord_59 rfl (ht.mono (fun r8 h9 p10 ht' => ?_))
  clear ht
  obtain ⟨v11, rfl, ht⟩ := ht'
  show Ex G d mX8_splitWord 62 [(0, .ref a0), (1, .int x1), (2, .int x2)] [.int v11, .int (hI (sI h q2 (hI h a0 9).toNatClampNeg 1) a0 9), .ref q6] h9 Q
  obtain ⟨k12, ht⟩ := ht
  obtain ⟨b13, ht⟩ := ht
  refine x_iast (pc2 := 63) k12 b13 dX8_splitWord_62 rfl ?_
  refine x_iload_n (pc2 := 64) 2 (n := 2) (x := x2) rfl dX8_splitWord_63 rfl ?_
  exact x_ret (ty := .int) rfl rfl dX8_splitWord_64 ht
def T_X8_wordOf (G : GG) (d : Nat) (h : HP) (Q : Option Value → HP → Prop) (a0 : Nat) (x1 : Int32) (x2 : Int32) : Prop :=
  Ex G d mX8_wordOf 11 [(0, .ref a0), (1, .int x1), (2, .int x2), (3, .int 0), (4, .int x1), (5, .int 1), (6, .int 0)] [] h Q
set_option maxRecDepth 20000 in
theorem t_X8_wordOf {G : GG} {d : Nat} {h : HP} {Q : Option Value → HP → Prop} {a0 : Nat} {x1 : Int32} {x2 : Int32} (ht : T_X8_wordOf G d h Q a0 x1 x2) : Ex G d mX8_wordOf 0 [(0, .ref a0), (1, .int x1), (2, .int x2)] [] h Q := by
  unfold T_X8_wordOf at ht
  refine x_iconst (pc2 := 1) (v := 0) (by decide) dX8_wordOf_0 rfl ?_
  refine x_istore_n (pc2 := 2) [1, 2, 3, 0] (n := 3) (x := 0) (lv2 := [(0, .ref a0), (1, .int x1), (2, .int x2), (3, .int 0)]) (by decide) rfl dX8_wordOf_1 rfl ?_
  refine x_iload_n (pc2 := 3) 1 (n := 1) (x := x1) rfl dX8_wordOf_2 rfl ?_
  refine x_istore (pc2 := 5) [1, 2, 3, 4, 0] (n := 4) (x := x1) (lv2 := [(0, .ref a0), (1, .int x1), (2, .int x2), (3, .int 0), (4, .int x1)]) (by decide) rfl dX8_wordOf_3 rfl ?_
  refine x_iconst (pc2 := 6) (v := 1) (by decide) dX8_wordOf_5 rfl ?_
  refine x_istore (pc2 := 8) [1, 2, 3, 4, 5, 0] (n := 5) (x := 1) (lv2 := [(0, .ref a0), (1, .int x1), (2, .int x2), (3, .int 0), (4, .int x1), (5, .int 1)]) (by decide) rfl dX8_wordOf_6 rfl ?_
  refine x_iconst (pc2 := 9) (v := 0) (by decide) dX8_wordOf_8 rfl ?_
  refine x_istore (pc2 := 11) [1, 2, 3, 4, 5, 6, 0] (n := 6) (x := 0) (lv2 := [(0, .ref a0), (1, .int x1), (2, .int x2), (3, .int 0), (4, .int x1), (5, .int 1), (6, .int 0)]) (by decide) rfl dX8_wordOf_9 rfl ?_
  exact ht
theorem e_X8_wordOf {G : GG} {d : Nat} {h : HP} {Q : Option Value → HP → Prop} {a0 : Nat} {x1 : Int32} {x2 : Int32} (ht : T_X8_wordOf G d h Q a0 x1 x2) : Cal G d mX8_wordOf [.ref a0, .int x1, .int x2] h Q := cal_of rfl (Nat.le_of_ble_eq_true rfl) (t_X8_wordOf ht)
def T_X8_wordOf_11 (G : GG) (d : Nat) (h : HP) (Q : Option Value → HP → Prop) (a0 : Nat) (x1 : Int32) (x2 : Int32) (x3 : Int32) (x4 : Int32) (x5 : Int32) (x6 : Int32) : Prop :=
  ((114 ≤ x6 → Q (some (.int (-1))) h) ∧ (¬ 114 ≤ x6 → vp_in x6 114 ∧ ((¬ (wdAt x6.toNatClampNeg) = 32 → ((x5 = 0 → Ex G d mX8_wordOf 11 [(0, .ref a0), (1, .int x1), (2, .int x2), (3, .int x3), (4, .int (x4 + 1)), (5, .int 0), (6, .int (x6 + 1))] [] h Q) ∧ (¬ x5 = 0 → ((x2 ≤ x4 → Ex G d mX8_wordOf 11 [(0, .ref a0), (1, .int x1), (2, .int x2), (3, .int x3), (4, .int (x4 + 1)), (5, .int 0), (6, .int (x6 + 1))] [] h Q) ∧ (¬ x2 ≤ x4 → Kd G h a0 8 ∧ ∃ q7, hR h a0 5 = some q7 ∧ Kd G h q7 13 ∧ vp_in x4 (hN h q7) ∧ ((¬ (hI h q7 x4.toNatClampNeg) = (wdAt x6.toNatClampNeg) → Ex G d mX8_wordOf 11 [(0, .ref a0), (1, .int x1), (2, .int x2), (3, .int x3), (4, .int (x4 + 1)), (5, .int 0), (6, .int (x6 + 1))] [] h Q) ∧ ((hI h q7 x4.toNatClampNeg) = (wdAt x6.toNatClampNeg) → Ex G d mX8_wordOf 11 [(0, .ref a0), (1, .int x1), (2, .int x2), (3, .int x3), (4, .int (x4 + 1)), (5, .int 1), (6, .int (x6 + 1))] [] h Q))))))) ∧ ((wdAt x6.toNatClampNeg) = 32 → ((x5 = 0 → Ex G d mX8_wordOf 11 [(0, .ref a0), (1, .int x1), (2, .int x2), (3, .int (x3 + 1)), (4, .int x1), (5, .int 1), (6, .int (x6 + 1))] [] h Q) ∧ (¬ x5 = 0 → ((¬ x4 = x2 → Ex G d mX8_wordOf 11 [(0, .ref a0), (1, .int x1), (2, .int x2), (3, .int (x3 + 1)), (4, .int x1), (5, .int 1), (6, .int (x6 + 1))] [] h Q) ∧ (x4 = x2 → Q (some (.int x3)) h))))))))
set_option maxRecDepth 20000 in
theorem t_X8_wordOf_11 {G : GG} {d : Nat} {h : HP} {Q : Option Value → HP → Prop} {a0 : Nat} {x1 : Int32} {x2 : Int32} {x3 : Int32} {x4 : Int32} {x5 : Int32} {x6 : Int32} (hd1 : 1 ≤ d) (hd2 : 6 ≤ d) (ht : T_X8_wordOf_11 G d h Q a0 x1 x2 x3 x4 x5 x6) : Ex G d mX8_wordOf 11 [(0, .ref a0), (1, .int x1), (2, .int x2), (3, .int x3), (4, .int x4), (5, .int x5), (6, .int x6)] [] h Q := by
  unfold T_X8_wordOf_11 at ht
  refine x_iload (pc2 := 13) 6 (n := 6) (x := x6) rfl dX8_wordOf_11 rfl ?_
  refine x_ldcS (pc2 := 15) dX8_wordOf_13 rfl rfl ?_
  refine x_strLen (pc2 := 18) hd2 rfl (Nat.le_of_ble_eq_true rfl) dX8_wordOf_15 rfl ?_
  refine x_icmp_ge (pc2 := 21) 101 dX8_wordOf_18 (by decide) rfl (fun c1 => ?_) (fun c1 => ?_)
  · replace ht := ht.1 c1
    refine x_iconst (pc2 := 102) (v := (-1)) (by decide) dX8_wordOf_101 rfl ?_
    exact x_ret (ty := .int) rfl rfl dX8_wordOf_102 ht
  · replace ht := ht.2 c1
    refine x_ldcS (pc2 := 23) dX8_wordOf_21 rfl rfl ?_
    refine x_iload (pc2 := 25) 6 (n := 6) (x := x6) rfl dX8_wordOf_23 rfl ?_
    obtain ⟨b2, ht⟩ := ht
    refine x_strAt (pc2 := 28) hd2 rfl (Nat.le_of_ble_eq_true rfl) b2 dX8_wordOf_25 rfl ?_
    refine x_istore (pc2 := 30) [1, 2, 3, 4, 5, 6, 7, 0] (n := 7) (x := (wdAt x6.toNatClampNeg)) (lv2 := [(0, .ref a0), (1, .int x1), (2, .int x2), (3, .int x3), (4, .int x4), (5, .int x5), (6, .int x6), (7, .int (wdAt x6.toNatClampNeg))]) (by decide) rfl dX8_wordOf_28 rfl ?_
    refine x_iload (pc2 := 32) 7 (n := 7) (x := (wdAt x6.toNatClampNeg)) rfl dX8_wordOf_30 rfl ?_
    refine x_bipush (pc2 := 34) (v := 32) (by decide) dX8_wordOf_32 rfl ?_
    refine y_icmp_ne (pc2 := 37) 62 dX8_wordOf_34 (by decide) rfl (fun c3 => ?_) (fun c3 => ?_)
    · replace ht := ht.1 c3
      refine x_iload (pc2 := 64) 5 (n := 5) (x := x5) rfl dX8_wordOf_62 rfl ?_
      refine x_if_eq (pc2 := 67) 89 dX8_wordOf_64 (by decide) rfl (fun c4 => ?_) (fun c4 => ?_)
      · replace ht := ht.1 c4
        refine x_iconst (pc2 := 90) (v := 0) (by decide) dX8_wordOf_89 rfl ?_
        refine x_istore (pc2 := 92) [1, 2, 3, 4, 5, 0, 6, 7] (n := 5) (x := 0) (lv2 := [(0, .ref a0), (1, .int x1), (2, .int x2), (3, .int x3), (4, .int x4), (5, .int 0), (6, .int x6), (7, .int (wdAt x6.toNatClampNeg))]) (by decide) rfl dX8_wordOf_90 rfl ?_
        refine x_iinc (pc2 := 95) 4 [1, 2, 3, 4, 0, 5, 6, 7] (i := 4) (x := x4) (v := (x4 + 1)) (lv2 := [(0, .ref a0), (1, .int x1), (2, .int x2), (3, .int x3), (4, .int (x4 + 1)), (5, .int 0), (6, .int x6), (7, .int (wdAt x6.toNatClampNeg))]) rfl (iinc_eq (by decide) _) (by decide) rfl dX8_wordOf_92 rfl ?_
        refine x_iinc (pc2 := 98) 6 [1, 2, 3, 4, 5, 6, 0, 7] (i := 6) (x := x6) (v := (x6 + 1)) (lv2 := [(0, .ref a0), (1, .int x1), (2, .int x2), (3, .int x3), (4, .int (x4 + 1)), (5, .int 0), (6, .int (x6 + 1)), (7, .int (wdAt x6.toNatClampNeg))]) rfl (iinc_eq (by decide) _) (by decide) rfl dX8_wordOf_95 rfl ?_
        refine x_goto 11 dX8_wordOf_98 (by decide) ?_
        refine x_sub [0, 1, 2, 3, 4, 5, 6] (lv2 := [(0, .ref a0), (1, .int x1), (2, .int x2), (3, .int x3), (4, .int (x4 + 1)), (5, .int 0), (6, .int (x6 + 1))]) rfl ?_
        exact ht
      · replace ht := ht.2 c4
        refine x_iload (pc2 := 69) 4 (n := 4) (x := x4) rfl dX8_wordOf_67 rfl ?_
        refine x_iload_n (pc2 := 70) 2 (n := 2) (x := x2) rfl dX8_wordOf_69 rfl ?_
        refine x_icmp_ge (pc2 := 73) 89 dX8_wordOf_70 (by decide) rfl (fun c5 => ?_) (fun c5 => ?_)
        · replace ht := ht.1 c5
          refine x_iconst (pc2 := 90) (v := 0) (by decide) dX8_wordOf_89 rfl ?_
          refine x_istore (pc2 := 92) [1, 2, 3, 4, 5, 0, 6, 7] (n := 5) (x := 0) (lv2 := [(0, .ref a0), (1, .int x1), (2, .int x2), (3, .int x3), (4, .int x4), (5, .int 0), (6, .int x6), (7, .int (wdAt x6.toNatClampNeg))]) (by decide) rfl dX8_wordOf_90 rfl ?_
          refine x_iinc (pc2 := 95) 4 [1, 2, 3, 4, 0, 5, 6, 7] (i := 4) (x := x4) (v := (x4 + 1)) (lv2 := [(0, .ref a0), (1, .int x1), (2, .int x2), (3, .int x3), (4, .int (x4 + 1)), (5, .int 0), (6, .int x6), (7, .int (wdAt x6.toNatClampNeg))]) rfl (iinc_eq (by decide) _) (by decide) rfl dX8_wordOf_92 rfl ?_
          refine x_iinc (pc2 := 98) 6 [1, 2, 3, 4, 5, 6, 0, 7] (i := 6) (x := x6) (v := (x6 + 1)) (lv2 := [(0, .ref a0), (1, .int x1), (2, .int x2), (3, .int x3), (4, .int (x4 + 1)), (5, .int 0), (6, .int (x6 + 1)), (7, .int (wdAt x6.toNatClampNeg))]) rfl (iinc_eq (by decide) _) (by decide) rfl dX8_wordOf_95 rfl ?_
          refine x_goto 11 dX8_wordOf_98 (by decide) ?_
          refine x_sub [0, 1, 2, 3, 4, 5, 6] (lv2 := [(0, .ref a0), (1, .int x1), (2, .int x2), (3, .int x3), (4, .int (x4 + 1)), (5, .int 0), (6, .int (x6 + 1))]) rfl ?_
          exact ht
        · replace ht := ht.2 c5
          refine x_aload_n (pc2 := 74) 0 (n := 0) (x := a0) rfl dX8_wordOf_73 rfl ?_
          obtain ⟨k6, ht⟩ := ht
          obtain ⟨q7, e8, ht⟩ := ht
          refine y_getR (pc2 := 77) (κ := 8) (k := 5) fl_X8_11 (by decide) (by decide) k6 rfl e8 dX8_wordOf_74 rfl ?_
          refine x_iload (pc2 := 79) 4 (n := 4) (x := x4) rfl dX8_wordOf_77 rfl ?_
          obtain ⟨k9, ht⟩ := ht
          obtain ⟨b10, ht⟩ := ht
          refine x_bald (pc2 := 80) k9 b10 dX8_wordOf_79 rfl ?_
          refine x_iload (pc2 := 82) 7 (n := 7) (x := (wdAt x6.toNatClampNeg)) rfl dX8_wordOf_80 rfl ?_
          refine y_icmp_ne (pc2 := 85) 89 dX8_wordOf_82 (by decide) rfl (fun c11 => ?_) (fun c11 => ?_)
          · replace ht := ht.1 c11
            refine x_iconst (pc2 := 90) (v := 0) (by decide) dX8_wordOf_89 rfl ?_
            refine x_istore (pc2 := 92) [1, 2, 3, 4, 5, 0, 6, 7] (n := 5) (x := 0) (lv2 := [(0, .ref a0), (1, .int x1), (2, .int x2), (3, .int x3), (4, .int x4), (5, .int 0), (6, .int x6), (7, .int (wdAt x6.toNatClampNeg))]) (by decide) rfl dX8_wordOf_90 rfl ?_
            refine x_iinc (pc2 := 95) 4 [1, 2, 3, 4, 0, 5, 6, 7] (i := 4) (x := x4) (v := (x4 + 1)) (lv2 := [(0, .ref a0), (1, .int x1), (2, .int x2), (3, .int x3), (4, .int (x4 + 1)), (5, .int 0), (6, .int x6), (7, .int (wdAt x6.toNatClampNeg))]) rfl (iinc_eq (by decide) _) (by decide) rfl dX8_wordOf_92 rfl ?_
            refine x_iinc (pc2 := 98) 6 [1, 2, 3, 4, 5, 6, 0, 7] (i := 6) (x := x6) (v := (x6 + 1)) (lv2 := [(0, .ref a0), (1, .int x1), (2, .int x2), (3, .int x3), (4, .int (x4 + 1)), (5, .int 0), (6, .int (x6 + 1)), (7, .int (wdAt x6.toNatClampNeg))]) rfl (iinc_eq (by decide) _) (by decide) rfl dX8_wordOf_95 rfl ?_
            refine x_goto 11 dX8_wordOf_98 (by decide) ?_
            refine x_sub [0, 1, 2, 3, 4, 5, 6] (lv2 := [(0, .ref a0), (1, .int x1), (2, .int x2), (3, .int x3), (4, .int (x4 + 1)), (5, .int 0), (6, .int (x6 + 1))]) rfl ?_
            exact ht
          · replace ht := ht.2 c11
            refine x_iconst (pc2 := 86) (v := 1) (by decide) dX8_wordOf_85 rfl ?_
            refine x_goto 90 dX8_wordOf_86 (by decide) ?_
            refine x_istore (pc2 := 92) [1, 2, 3, 4, 5, 0, 6, 7] (n := 5) (x := 1) (lv2 := [(0, .ref a0), (1, .int x1), (2, .int x2), (3, .int x3), (4, .int x4), (5, .int 1), (6, .int x6), (7, .int (wdAt x6.toNatClampNeg))]) (by decide) rfl dX8_wordOf_90 rfl ?_
            refine x_iinc (pc2 := 95) 4 [1, 2, 3, 4, 0, 5, 6, 7] (i := 4) (x := x4) (v := (x4 + 1)) (lv2 := [(0, .ref a0), (1, .int x1), (2, .int x2), (3, .int x3), (4, .int (x4 + 1)), (5, .int 1), (6, .int x6), (7, .int (wdAt x6.toNatClampNeg))]) rfl (iinc_eq (by decide) _) (by decide) rfl dX8_wordOf_92 rfl ?_
            refine x_iinc (pc2 := 98) 6 [1, 2, 3, 4, 5, 6, 0, 7] (i := 6) (x := x6) (v := (x6 + 1)) (lv2 := [(0, .ref a0), (1, .int x1), (2, .int x2), (3, .int x3), (4, .int (x4 + 1)), (5, .int 1), (6, .int (x6 + 1)), (7, .int (wdAt x6.toNatClampNeg))]) rfl (iinc_eq (by decide) _) (by decide) rfl dX8_wordOf_95 rfl ?_
            refine x_goto 11 dX8_wordOf_98 (by decide) ?_
            refine x_sub [0, 1, 2, 3, 4, 5, 6] (lv2 := [(0, .ref a0), (1, .int x1), (2, .int x2), (3, .int x3), (4, .int (x4 + 1)), (5, .int 1), (6, .int (x6 + 1))]) rfl ?_
            exact ht
    · replace ht := ht.2 c3
      refine x_iload (pc2 := 39) 5 (n := 5) (x := x5) rfl dX8_wordOf_37 rfl ?_
      refine x_if_eq (pc2 := 42) 50 dX8_wordOf_39 (by decide) rfl (fun c12 => ?_) (fun c12 => ?_)
      · replace ht := ht.1 c12
        refine x_iinc (pc2 := 53) 3 [1, 2, 3, 0, 4, 5, 6, 7] (i := 3) (x := x3) (v := (x3 + 1)) (lv2 := [(0, .ref a0), (1, .int x1), (2, .int x2), (3, .int (x3 + 1)), (4, .int x4), (5, .int x5), (6, .int x6), (7, .int (wdAt x6.toNatClampNeg))]) rfl (iinc_eq (by decide) _) (by decide) rfl dX8_wordOf_50 rfl ?_
        refine x_iload_n (pc2 := 54) 1 (n := 1) (x := x1) rfl dX8_wordOf_53 rfl ?_
        refine x_istore (pc2 := 56) [1, 2, 3, 4, 0, 5, 6, 7] (n := 4) (x := x1) (lv2 := [(0, .ref a0), (1, .int x1), (2, .int x2), (3, .int (x3 + 1)), (4, .int x1), (5, .int x5), (6, .int x6), (7, .int (wdAt x6.toNatClampNeg))]) (by decide) rfl dX8_wordOf_54 rfl ?_
        refine x_iconst (pc2 := 57) (v := 1) (by decide) dX8_wordOf_56 rfl ?_
        refine x_istore (pc2 := 59) [1, 2, 3, 4, 5, 0, 6, 7] (n := 5) (x := 1) (lv2 := [(0, .ref a0), (1, .int x1), (2, .int x2), (3, .int (x3 + 1)), (4, .int x1), (5, .int 1), (6, .int x6), (7, .int (wdAt x6.toNatClampNeg))]) (by decide) rfl dX8_wordOf_57 rfl ?_
        refine x_goto 95 dX8_wordOf_59 (by decide) ?_
        refine x_iinc (pc2 := 98) 6 [1, 2, 3, 4, 5, 6, 0, 7] (i := 6) (x := x6) (v := (x6 + 1)) (lv2 := [(0, .ref a0), (1, .int x1), (2, .int x2), (3, .int (x3 + 1)), (4, .int x1), (5, .int 1), (6, .int (x6 + 1)), (7, .int (wdAt x6.toNatClampNeg))]) rfl (iinc_eq (by decide) _) (by decide) rfl dX8_wordOf_95 rfl ?_
        refine x_goto 11 dX8_wordOf_98 (by decide) ?_
        refine x_sub [0, 1, 2, 3, 4, 5, 6] (lv2 := [(0, .ref a0), (1, .int x1), (2, .int x2), (3, .int (x3 + 1)), (4, .int x1), (5, .int 1), (6, .int (x6 + 1))]) rfl ?_
        exact ht
      · replace ht := ht.2 c12
        refine x_iload (pc2 := 44) 4 (n := 4) (x := x4) rfl dX8_wordOf_42 rfl ?_
        refine x_iload_n (pc2 := 45) 2 (n := 2) (x := x2) rfl dX8_wordOf_44 rfl ?_
        refine y_icmp_ne (pc2 := 48) 50 dX8_wordOf_45 (by decide) rfl (fun c13 => ?_) (fun c13 => ?_)
        · replace ht := ht.1 c13
          refine x_iinc (pc2 := 53) 3 [1, 2, 3, 0, 4, 5, 6, 7] (i := 3) (x := x3) (v := (x3 + 1)) (lv2 := [(0, .ref a0), (1, .int x1), (2, .int x2), (3, .int (x3 + 1)), (4, .int x4), (5, .int x5), (6, .int x6), (7, .int (wdAt x6.toNatClampNeg))]) rfl (iinc_eq (by decide) _) (by decide) rfl dX8_wordOf_50 rfl ?_
          refine x_iload_n (pc2 := 54) 1 (n := 1) (x := x1) rfl dX8_wordOf_53 rfl ?_
          refine x_istore (pc2 := 56) [1, 2, 3, 4, 0, 5, 6, 7] (n := 4) (x := x1) (lv2 := [(0, .ref a0), (1, .int x1), (2, .int x2), (3, .int (x3 + 1)), (4, .int x1), (5, .int x5), (6, .int x6), (7, .int (wdAt x6.toNatClampNeg))]) (by decide) rfl dX8_wordOf_54 rfl ?_
          refine x_iconst (pc2 := 57) (v := 1) (by decide) dX8_wordOf_56 rfl ?_
          refine x_istore (pc2 := 59) [1, 2, 3, 4, 5, 0, 6, 7] (n := 5) (x := 1) (lv2 := [(0, .ref a0), (1, .int x1), (2, .int x2), (3, .int (x3 + 1)), (4, .int x1), (5, .int 1), (6, .int x6), (7, .int (wdAt x6.toNatClampNeg))]) (by decide) rfl dX8_wordOf_57 rfl ?_
          refine x_goto 95 dX8_wordOf_59 (by decide) ?_
          refine x_iinc (pc2 := 98) 6 [1, 2, 3, 4, 5, 6, 0, 7] (i := 6) (x := x6) (v := (x6 + 1)) (lv2 := [(0, .ref a0), (1, .int x1), (2, .int x2), (3, .int (x3 + 1)), (4, .int x1), (5, .int 1), (6, .int (x6 + 1)), (7, .int (wdAt x6.toNatClampNeg))]) rfl (iinc_eq (by decide) _) (by decide) rfl dX8_wordOf_95 rfl ?_
          refine x_goto 11 dX8_wordOf_98 (by decide) ?_
          refine x_sub [0, 1, 2, 3, 4, 5, 6] (lv2 := [(0, .ref a0), (1, .int x1), (2, .int x2), (3, .int (x3 + 1)), (4, .int x1), (5, .int 1), (6, .int (x6 + 1))]) rfl ?_
          exact ht
        · replace ht := ht.2 c13
          refine x_iload_n (pc2 := 49) 3 (n := 3) (x := x3) rfl dX8_wordOf_48 rfl ?_
          exact x_ret (ty := .int) rfl rfl dX8_wordOf_49 ht
def T_X8_splitNumber (G : GG) (d : Nat) (h : HP) (Q : Option Value → HP → Prop) (a0 : Nat) (x1 : Int32) : Prop :=
  Ex G d mX8_splitNumber 4 [(0, .ref a0), (1, .int x1), (2, .int 0), (3, .int x1)] [] h Q
set_option maxRecDepth 20000 in
theorem t_X8_splitNumber {G : GG} {d : Nat} {h : HP} {Q : Option Value → HP → Prop} {a0 : Nat} {x1 : Int32} (ht : T_X8_splitNumber G d h Q a0 x1) : Ex G d mX8_splitNumber 0 [(0, .ref a0), (1, .int x1)] [] h Q := by
  unfold T_X8_splitNumber at ht
  refine x_iconst (pc2 := 1) (v := 0) (by decide) dX8_splitNumber_0 rfl ?_
  refine x_istore_n (pc2 := 2) [1, 2, 0] (n := 2) (x := 0) (lv2 := [(0, .ref a0), (1, .int x1), (2, .int 0)]) (by decide) rfl dX8_splitNumber_1 rfl ?_
  refine x_iload_n (pc2 := 3) 1 (n := 1) (x := x1) rfl dX8_splitNumber_2 rfl ?_
  refine x_istore_n (pc2 := 4) [1, 2, 3, 0] (n := 3) (x := x1) (lv2 := [(0, .ref a0), (1, .int x1), (2, .int 0), (3, .int x1)]) (by decide) rfl dX8_splitNumber_3 rfl ?_
  exact ht
theorem e_X8_splitNumber {G : GG} {d : Nat} {h : HP} {Q : Option Value → HP → Prop} {a0 : Nat} {x1 : Int32} (ht : T_X8_splitNumber G d h Q a0 x1) : Cal G d mX8_splitNumber [.ref a0, .int x1] h Q := cal_of rfl (Nat.le_of_ble_eq_true rfl) (t_X8_splitNumber ht)
def T_X8_splitNumber_4 (G : GG) (d : Nat) (h : HP) (Q : Option Value → HP → Prop) (a0 : Nat) (x1 : Int32) (x2 : Int32) (x3 : Int32) : Prop :=
  Kd G h a0 8 ∧ (((hI h a0 0) ≤ x3 → Ex G d mX8_splitNumber 62 [(0, .ref a0), (1, .int x1), (2, .int x2), (3, .int x3)] [] h Q) ∧ (¬ (hI h a0 0) ≤ x3 → ∃ q3, hR h a0 5 = some q3 ∧ Kd G h q3 13 ∧ vp_in x3 (hN h q3) ∧ (((hI h q3 x3.toNatClampNeg) < 48 → Ex G d mX8_splitNumber 62 [(0, .ref a0), (1, .int x1), (2, .int x2), (3, .int x3)] [] h Q) ∧ (¬ (hI h q3 x3.toNatClampNeg) < 48 → vp_in x3 (hN h q3) ∧ ((57 < (hI h q3 x3.toNatClampNeg) → Ex G d mX8_splitNumber 62 [(0, .ref a0), (1, .int x1), (2, .int x2), (3, .int x3)] [] h Q) ∧ (¬ 57 < (hI h q3 x3.toNatClampNeg) → ((5 ≤ (x3 - x1) → Ex G d mX8_splitNumber 4 [(0, .ref a0), (1, .int x1), (2, .int x2), (3, .int (x3 + 1))] [] h Q) ∧ (¬ 5 ≤ (x3 - x1) → vp_in x3 (hN h q3) ∧ Ex G d mX8_splitNumber 4 [(0, .ref a0), (1, .int x1), (2, .int (((x2 * 10) + (hI h q3 x3.toNatClampNeg)) - 48)), (3, .int (x3 + 1))] [] h Q))))))))
set_option maxRecDepth 20000 in
theorem t_X8_splitNumber_4 {G : GG} {d : Nat} {h : HP} {Q : Option Value → HP → Prop} {a0 : Nat} {x1 : Int32} {x2 : Int32} {x3 : Int32} (ht : T_X8_splitNumber_4 G d h Q a0 x1 x2 x3) : Ex G d mX8_splitNumber 4 [(0, .ref a0), (1, .int x1), (2, .int x2), (3, .int x3)] [] h Q := by
  unfold T_X8_splitNumber_4 at ht
  refine x_iload_n (pc2 := 5) 3 (n := 3) (x := x3) rfl dX8_splitNumber_4 rfl ?_
  refine x_aload_n (pc2 := 6) 0 (n := 0) (x := a0) rfl dX8_splitNumber_5 rfl ?_
  obtain ⟨k1, ht⟩ := ht
  refine y_getI (pc2 := 9) (κ := 8) (k := 0) fl_X8_25 (by decide) (by decide) k1 rfl dX8_splitNumber_6 rfl ?_
  refine x_icmp_ge (pc2 := 12) 62 dX8_splitNumber_9 (by decide) rfl (fun c2 => ?_) (fun c2 => ?_)
  · replace ht := ht.1 c2
    exact ht
  · replace ht := ht.2 c2
    refine x_aload_n (pc2 := 13) 0 (n := 0) (x := a0) rfl dX8_splitNumber_12 rfl ?_
    obtain ⟨q3, e4, ht⟩ := ht
    refine y_getR (pc2 := 16) (κ := 8) (k := 5) fl_X8_11 (by decide) (by decide) k1 rfl e4 dX8_splitNumber_13 rfl ?_
    refine x_iload_n (pc2 := 17) 3 (n := 3) (x := x3) rfl dX8_splitNumber_16 rfl ?_
    obtain ⟨k5, ht⟩ := ht
    obtain ⟨b6, ht⟩ := ht
    refine x_bald (pc2 := 18) k5 b6 dX8_splitNumber_17 rfl ?_
    refine x_bipush (pc2 := 20) (v := 48) (by decide) dX8_splitNumber_18 rfl ?_
    refine x_icmp_lt (pc2 := 23) 62 dX8_splitNumber_20 (by decide) rfl (fun c7 => ?_) (fun c7 => ?_)
    · replace ht := ht.1 c7
      exact ht
    · replace ht := ht.2 c7
      refine x_aload_n (pc2 := 24) 0 (n := 0) (x := a0) rfl dX8_splitNumber_23 rfl ?_
      refine y_getR (pc2 := 27) (κ := 8) (k := 5) fl_X8_11 (by decide) (by decide) k1 rfl e4 dX8_splitNumber_24 rfl ?_
      refine x_iload_n (pc2 := 28) 3 (n := 3) (x := x3) rfl dX8_splitNumber_27 rfl ?_
      obtain ⟨b8, ht⟩ := ht
      refine x_bald (pc2 := 29) k5 b8 dX8_splitNumber_28 rfl ?_
      refine x_bipush (pc2 := 31) (v := 57) (by decide) dX8_splitNumber_29 rfl ?_
      refine x_icmp_gt (pc2 := 34) 62 dX8_splitNumber_31 (by decide) rfl (fun c9 => ?_) (fun c9 => ?_)
      · replace ht := ht.1 c9
        exact ht
      · replace ht := ht.2 c9
        refine x_iload_n (pc2 := 35) 3 (n := 3) (x := x3) rfl dX8_splitNumber_34 rfl ?_
        refine x_iload_n (pc2 := 36) 1 (n := 1) (x := x1) rfl dX8_splitNumber_35 rfl ?_
        refine x_isub (pc2 := 37) dX8_splitNumber_36 rfl ?_
        refine x_iconst (pc2 := 38) (v := 5) (by decide) dX8_splitNumber_37 rfl ?_
        refine x_icmp_ge (pc2 := 41) 56 dX8_splitNumber_38 (by decide) rfl (fun c10 => ?_) (fun c10 => ?_)
        · replace ht := ht.1 c10
          refine x_iinc (pc2 := 59) 3 [1, 2, 3, 0] (i := 3) (x := x3) (v := (x3 + 1)) (lv2 := [(0, .ref a0), (1, .int x1), (2, .int x2), (3, .int (x3 + 1))]) rfl (iinc_eq (by decide) _) (by decide) rfl dX8_splitNumber_56 rfl ?_
          refine x_goto 4 dX8_splitNumber_59 (by decide) ?_
          exact ht
        · replace ht := ht.2 c10
          refine x_iload_n (pc2 := 42) 2 (n := 2) (x := x2) rfl dX8_splitNumber_41 rfl ?_
          refine x_bipush (pc2 := 44) (v := 10) (by decide) dX8_splitNumber_42 rfl ?_
          refine x_imul (pc2 := 45) dX8_splitNumber_44 rfl ?_
          refine x_aload_n (pc2 := 46) 0 (n := 0) (x := a0) rfl dX8_splitNumber_45 rfl ?_
          refine y_getR (pc2 := 49) (κ := 8) (k := 5) fl_X8_11 (by decide) (by decide) k1 rfl e4 dX8_splitNumber_46 rfl ?_
          refine x_iload_n (pc2 := 50) 3 (n := 3) (x := x3) rfl dX8_splitNumber_49 rfl ?_
          obtain ⟨b11, ht⟩ := ht
          refine x_bald (pc2 := 51) k5 b11 dX8_splitNumber_50 rfl ?_
          refine x_iadd (pc2 := 52) dX8_splitNumber_51 rfl ?_
          refine x_bipush (pc2 := 54) (v := 48) (by decide) dX8_splitNumber_52 rfl ?_
          refine x_isub (pc2 := 55) dX8_splitNumber_54 rfl ?_
          refine x_istore_n (pc2 := 56) [1, 2, 0, 3] (n := 2) (x := (((x2 * 10) + (hI h q3 x3.toNatClampNeg)) - 48)) (lv2 := [(0, .ref a0), (1, .int x1), (2, .int (((x2 * 10) + (hI h q3 x3.toNatClampNeg)) - 48)), (3, .int x3)]) (by decide) rfl dX8_splitNumber_55 rfl ?_
          refine x_iinc (pc2 := 59) 3 [1, 2, 3, 0] (i := 3) (x := x3) (v := (x3 + 1)) (lv2 := [(0, .ref a0), (1, .int x1), (2, .int (((x2 * 10) + (hI h q3 x3.toNatClampNeg)) - 48)), (3, .int (x3 + 1))]) rfl (iinc_eq (by decide) _) (by decide) rfl dX8_splitNumber_56 rfl ?_
          refine x_goto 4 dX8_splitNumber_59 (by decide) ?_
          exact ht
def T_X8_splitNumber_62 (G : GG) (d : Nat) (h : HP) (Q : Option Value → HP → Prop) (a0 : Nat) (x1 : Int32) (x2 : Int32) (x3 : Int32) : Prop :=
  Kd G h a0 8 ∧ ∃ q2, hR h a0 6 = some q2 ∧ Kd G h q2 14 ∧ vp_in (hI h a0 9) (hN h q2) ∧ ∃ q6, hR (sI h q2 (hI h a0 9).toNatClampNeg 2) a0 8 = some q6 ∧ (((x3 - x1) ≤ 5 → Kd G (sI h q2 (hI h a0 9).toNatClampNeg 2) q6 14 ∧ vp_in (hI (sI h q2 (hI h a0 9).toNatClampNeg 2) a0 9) (hN (sI h q2 (hI h a0 9).toNatClampNeg 2) q6) ∧ ∀ h11, h11 = (sI (sI h q2 (hI h a0 9).toNatClampNeg 2) q6 (hI (sI h q2 (hI h a0 9).toNatClampNeg 2) a0 9).toNatClampNeg x2) → Q (some (.int x3)) h11) ∧ (¬ (x3 - x1) ≤ 5 → Kd G (sI h q2 (hI h a0 9).toNatClampNeg 2) q6 14 ∧ vp_in (hI (sI h q2 (hI h a0 9).toNatClampNeg 2) a0 9) (hN (sI h q2 (hI h a0 9).toNatClampNeg 2) q6) ∧ ∀ h16, h16 = (sI (sI h q2 (hI h a0 9).toNatClampNeg 2) q6 (hI (sI h q2 (hI h a0 9).toNatClampNeg 2) a0 9).toNatClampNeg (-1)) → Q (some (.int x3)) h16))
set_option maxRecDepth 20000 in
theorem t_X8_splitNumber_62 {G : GG} {d : Nat} {h : HP} {Q : Option Value → HP → Prop} {a0 : Nat} {x1 : Int32} {x2 : Int32} {x3 : Int32} (ht : T_X8_splitNumber_62 G d h Q a0 x1 x2 x3) : Ex G d mX8_splitNumber 62 [(0, .ref a0), (1, .int x1), (2, .int x2), (3, .int x3)] [] h Q := by
  unfold T_X8_splitNumber_62 at ht
  refine x_aload_n (pc2 := 63) 0 (n := 0) (x := a0) rfl dX8_splitNumber_62 rfl ?_
  obtain ⟨k1, ht⟩ := ht
  obtain ⟨q2, e3, ht⟩ := ht
  refine y_getR (pc2 := 66) (κ := 8) (k := 6) fl_X8_15 (by decide) (by decide) k1 rfl e3 dX8_splitNumber_63 rfl ?_
  refine x_aload_n (pc2 := 67) 0 (n := 0) (x := a0) rfl dX8_splitNumber_66 rfl ?_
  refine y_getI (pc2 := 70) (κ := 8) (k := 9) fl_X8_29 (by decide) (by decide) k1 rfl dX8_splitNumber_67 rfl ?_
  refine x_iconst (pc2 := 71) (v := 2) (by decide) dX8_splitNumber_70 rfl ?_
  obtain ⟨k4, ht⟩ := ht
  obtain ⟨b5, ht⟩ := ht
  refine x_iast (pc2 := 72) k4 b5 dX8_splitNumber_71 rfl ?_
  refine x_aload_n (pc2 := 73) 0 (n := 0) (x := a0) rfl dX8_splitNumber_72 rfl ?_
  obtain ⟨q6, e7, ht⟩ := ht
  refine y_getR (pc2 := 76) (κ := 8) (k := 8) fl_X8_22 (by decide) (by decide) k1.sI rfl e7 dX8_splitNumber_73 rfl ?_
  refine x_aload_n (pc2 := 77) 0 (n := 0) (x := a0) rfl dX8_splitNumber_76 rfl ?_
  refine y_getI (pc2 := 80) (κ := 8) (k := 9) fl_X8_29 (by decide) (by decide) k1.sI rfl dX8_splitNumber_77 rfl ?_
  refine x_iload_n (pc2 := 81) 3 (n := 3) (x := x3) rfl dX8_splitNumber_80 rfl ?_
  refine x_iload_n (pc2 := 82) 1 (n := 1) (x := x1) rfl dX8_splitNumber_81 rfl ?_
  refine x_isub (pc2 := 83) dX8_splitNumber_82 rfl ?_
  refine x_iconst (pc2 := 84) (v := 5) (by decide) dX8_splitNumber_83 rfl ?_
  refine x_icmp_le (pc2 := 87) 91 dX8_splitNumber_84 (by decide) rfl (fun c8 => ?_) (fun c8 => ?_)
  · replace ht := ht.1 c8
    refine x_iload_n (pc2 := 92) 2 (n := 2) (x := x2) rfl dX8_splitNumber_91 rfl ?_
    obtain ⟨k9, ht⟩ := ht
    obtain ⟨b10, ht⟩ := ht
    refine x_iast (pc2 := 93) k9 b10 dX8_splitNumber_92 rfl ?_
    refine nm_I (fun h11 e12 p13 => ?_)
    replace ht := ht h11 e12
    refine x_iload_n (pc2 := 94) 3 (n := 3) (x := x3) rfl dX8_splitNumber_93 rfl ?_
    exact x_ret (ty := .int) rfl rfl dX8_splitNumber_94 ht
  · replace ht := ht.2 c8
    refine x_iconst (pc2 := 88) (v := (-1)) (by decide) dX8_splitNumber_87 rfl ?_
    refine x_goto 92 dX8_splitNumber_88 (by decide) ?_
    obtain ⟨k14, ht⟩ := ht
    obtain ⟨b15, ht⟩ := ht
    refine x_iast (pc2 := 93) k14 b15 dX8_splitNumber_92 rfl ?_
    refine nm_I (fun h16 e17 p18 => ?_)
    replace ht := ht h16 e17
    refine x_iload_n (pc2 := 94) 3 (n := 3) (x := x3) rfl dX8_splitNumber_93 rfl ?_
    exact x_ret (ty := .int) rfl rfl dX8_splitNumber_94 ht
def T_X8_isWord (G : GG) (d : Nat) (h : HP) (Q : Option Value → HP → Prop) (a0 : Nat) (x1 : Int32) : Prop :=
  Kd G h a0 8 ∧ ((¬ (hI h a0 2) = 1 → Q (some (.int 0)) h) ∧ ((hI h a0 2) = 1 → ((¬ (hI h a0 4) = x1 → Q (some (.int 0)) h) ∧ ((hI h a0 4) = x1 → Q (some (.int 1)) h))))
set_option maxRecDepth 20000 in
theorem t_X8_isWord {G : GG} {d : Nat} {h : HP} {Q : Option Value → HP → Prop} {a0 : Nat} {x1 : Int32} (ht : T_X8_isWord G d h Q a0 x1) : Ex G d mX8_isWord 0 [(0, .ref a0), (1, .int x1)] [] h Q := by
  unfold T_X8_isWord at ht
  refine x_aload_n (pc2 := 1) 0 (n := 0) (x := a0) rfl dX8_isWord_0 rfl ?_
  obtain ⟨k1, ht⟩ := ht
  refine y_getI (pc2 := 4) (κ := 8) (k := 2) fl_X8_45 (by decide) (by decide) k1 rfl dX8_isWord_1 rfl ?_
  refine x_iconst (pc2 := 5) (v := 1) (by decide) dX8_isWord_4 rfl ?_
  refine y_icmp_ne (pc2 := 8) 20 dX8_isWord_5 (by decide) rfl (fun c2 => ?_) (fun c2 => ?_)
  · replace ht := ht.1 c2
    refine x_iconst (pc2 := 21) (v := 0) (by decide) dX8_isWord_20 rfl ?_
    exact x_retZ rfl (Or.inl rfl) dX8_isWord_21 ht
  · replace ht := ht.2 c2
    refine x_aload_n (pc2 := 9) 0 (n := 0) (x := a0) rfl dX8_isWord_8 rfl ?_
    refine y_getI (pc2 := 12) (κ := 8) (k := 4) fl_X8_51 (by decide) (by decide) k1 rfl dX8_isWord_9 rfl ?_
    refine x_iload_n (pc2 := 13) 1 (n := 1) (x := x1) rfl dX8_isWord_12 rfl ?_
    refine y_icmp_ne (pc2 := 16) 20 dX8_isWord_13 (by decide) rfl (fun c3 => ?_) (fun c3 => ?_)
    · replace ht := ht.1 c3
      refine x_iconst (pc2 := 21) (v := 0) (by decide) dX8_isWord_20 rfl ?_
      exact x_retZ rfl (Or.inl rfl) dX8_isWord_21 ht
    · replace ht := ht.2 c3
      refine x_iconst (pc2 := 17) (v := 1) (by decide) dX8_isWord_16 rfl ?_
      refine x_goto 21 dX8_isWord_17 (by decide) ?_
      exact x_retZ rfl (Or.inr rfl) dX8_isWord_21 ht
theorem e_X8_isWord {G : GG} {d : Nat} {h : HP} {Q : Option Value → HP → Prop} {a0 : Nat} {x1 : Int32} (ht : T_X8_isWord G d h Q a0 x1) : Cal G d mX8_isWord [.ref a0, .int x1] h Q := cal_of rfl (Nat.le_of_ble_eq_true rfl) (t_X8_isWord ht)
def T_X8_isSign (G : GG) (d : Nat) (h : HP) (Q : Option Value → HP → Prop) (a0 : Nat) (x1 : Int32) : Prop :=
  Kd G h a0 8 ∧ ((¬ (hI h a0 2) = 3 → Q (some (.int 0)) h) ∧ ((hI h a0 2) = 3 → ((¬ (hI h a0 4) = x1 → Q (some (.int 0)) h) ∧ ((hI h a0 4) = x1 → Q (some (.int 1)) h))))
set_option maxRecDepth 20000 in
theorem t_X8_isSign {G : GG} {d : Nat} {h : HP} {Q : Option Value → HP → Prop} {a0 : Nat} {x1 : Int32} (ht : T_X8_isSign G d h Q a0 x1) : Ex G d mX8_isSign 0 [(0, .ref a0), (1, .int x1)] [] h Q := by
  unfold T_X8_isSign at ht
  refine x_aload_n (pc2 := 1) 0 (n := 0) (x := a0) rfl dX8_isSign_0 rfl ?_
  obtain ⟨k1, ht⟩ := ht
  refine y_getI (pc2 := 4) (κ := 8) (k := 2) fl_X8_45 (by decide) (by decide) k1 rfl dX8_isSign_1 rfl ?_
  refine x_iconst (pc2 := 5) (v := 3) (by decide) dX8_isSign_4 rfl ?_
  refine y_icmp_ne (pc2 := 8) 20 dX8_isSign_5 (by decide) rfl (fun c2 => ?_) (fun c2 => ?_)
  · replace ht := ht.1 c2
    refine x_iconst (pc2 := 21) (v := 0) (by decide) dX8_isSign_20 rfl ?_
    exact x_retZ rfl (Or.inl rfl) dX8_isSign_21 ht
  · replace ht := ht.2 c2
    refine x_aload_n (pc2 := 9) 0 (n := 0) (x := a0) rfl dX8_isSign_8 rfl ?_
    refine y_getI (pc2 := 12) (κ := 8) (k := 4) fl_X8_51 (by decide) (by decide) k1 rfl dX8_isSign_9 rfl ?_
    refine x_iload_n (pc2 := 13) 1 (n := 1) (x := x1) rfl dX8_isSign_12 rfl ?_
    refine y_icmp_ne (pc2 := 16) 20 dX8_isSign_13 (by decide) rfl (fun c3 => ?_) (fun c3 => ?_)
    · replace ht := ht.1 c3
      refine x_iconst (pc2 := 21) (v := 0) (by decide) dX8_isSign_20 rfl ?_
      exact x_retZ rfl (Or.inl rfl) dX8_isSign_21 ht
    · replace ht := ht.2 c3
      refine x_iconst (pc2 := 17) (v := 1) (by decide) dX8_isSign_16 rfl ?_
      refine x_goto 21 dX8_isSign_17 (by decide) ?_
      exact x_retZ rfl (Or.inr rfl) dX8_isSign_21 ht
theorem e_X8_isSign {G : GG} {d : Nat} {h : HP} {Q : Option Value → HP → Prop} {a0 : Nat} {x1 : Int32} (ht : T_X8_isSign G d h Q a0 x1) : Cal G d mX8_isSign [.ref a0, .int x1] h Q := cal_of rfl (Nat.le_of_ble_eq_true rfl) (t_X8_isSign ht)
def T_X8_fail (G : GG) (d : Nat) (h : HP) (Q : Option Value → HP → Prop) (a0 : Nat) (x1 : Int32) : Prop :=
  Kd G h a0 8 ∧ Q (some (.int 0)) (sI h a0 1 ((1 + (8 * (hI h a0 3))) + x1))
set_option maxRecDepth 20000 in
theorem t_X8_fail {G : GG} {d : Nat} {h : HP} {Q : Option Value → HP → Prop} {a0 : Nat} {x1 : Int32} (ht : T_X8_fail G d h Q a0 x1) : Ex G d mX8_fail 0 [(0, .ref a0), (1, .int x1)] [] h Q := by
  unfold T_X8_fail at ht
  refine x_aload_n (pc2 := 1) 0 (n := 0) (x := a0) rfl dX8_fail_0 rfl ?_
  refine x_iconst (pc2 := 2) (v := 1) (by decide) dX8_fail_1 rfl ?_
  refine x_bipush (pc2 := 4) (v := 8) (by decide) dX8_fail_2 rfl ?_
  refine x_aload_n (pc2 := 5) 0 (n := 0) (x := a0) rfl dX8_fail_4 rfl ?_
  obtain ⟨k1, ht⟩ := ht
  refine y_getI (pc2 := 8) (κ := 8) (k := 3) fl_X8_48 (by decide) (by decide) k1 rfl dX8_fail_5 rfl ?_
  refine x_imul (pc2 := 9) dX8_fail_8 rfl ?_
  refine x_iadd (pc2 := 10) dX8_fail_9 rfl ?_
  refine x_iload_n (pc2 := 11) 1 (n := 1) (x := x1) rfl dX8_fail_10 rfl ?_
  refine x_iadd (pc2 := 12) dX8_fail_11 rfl ?_
  refine x_putI (pc2 := 15) (κ := 8) (k := 1) fl_X8_36 (by decide) (by decide) (Or.inl rfl) rfl k1 dX8_fail_12 rfl ?_
  refine x_iconst (pc2 := 16) (v := 0) (by decide) dX8_fail_15 rfl ?_
  exact x_retZ rfl (Or.inl rfl) dX8_fail_16 ht
theorem e_X8_fail {G : GG} {d : Nat} {h : HP} {Q : Option Value → HP → Prop} {a0 : Nat} {x1 : Int32} (ht : T_X8_fail G d h Q a0 x1) : Cal G d mX8_fail [.ref a0, .int x1] h Q := cal_of rfl (Nat.le_of_ble_eq_true rfl) (t_X8_fail ht)
def T_X8_failAt (G : GG) (d : Nat) (h : HP) (Q : Option Value → HP → Prop) (a0 : Nat) (x1 : Int32) (x2 : Int32) : Prop :=
  Kd G h a0 8 ∧ Q (some (.int 0)) (sI h a0 1 ((1 + (8 * x1)) + x2))
set_option maxRecDepth 20000 in
theorem t_X8_failAt {G : GG} {d : Nat} {h : HP} {Q : Option Value → HP → Prop} {a0 : Nat} {x1 : Int32} {x2 : Int32} (ht : T_X8_failAt G d h Q a0 x1 x2) : Ex G d mX8_failAt 0 [(0, .ref a0), (1, .int x1), (2, .int x2)] [] h Q := by
  unfold T_X8_failAt at ht
  refine x_aload_n (pc2 := 1) 0 (n := 0) (x := a0) rfl dX8_failAt_0 rfl ?_
  refine x_iconst (pc2 := 2) (v := 1) (by decide) dX8_failAt_1 rfl ?_
  refine x_bipush (pc2 := 4) (v := 8) (by decide) dX8_failAt_2 rfl ?_
  refine x_iload_n (pc2 := 5) 1 (n := 1) (x := x1) rfl dX8_failAt_4 rfl ?_
  refine x_imul (pc2 := 6) dX8_failAt_5 rfl ?_
  refine x_iadd (pc2 := 7) dX8_failAt_6 rfl ?_
  refine x_iload_n (pc2 := 8) 2 (n := 2) (x := x2) rfl dX8_failAt_7 rfl ?_
  refine x_iadd (pc2 := 9) dX8_failAt_8 rfl ?_
  obtain ⟨k1, ht⟩ := ht
  refine x_putI (pc2 := 12) (κ := 8) (k := 1) fl_X8_36 (by decide) (by decide) (Or.inl rfl) rfl k1 dX8_failAt_9 rfl ?_
  refine x_iconst (pc2 := 13) (v := 0) (by decide) dX8_failAt_12 rfl ?_
  exact x_retZ rfl (Or.inl rfl) dX8_failAt_13 ht
theorem e_X8_failAt {G : GG} {d : Nat} {h : HP} {Q : Option Value → HP → Prop} {a0 : Nat} {x1 : Int32} {x2 : Int32} (ht : T_X8_failAt G d h Q a0 x1 x2) : Cal G d mX8_failAt [.ref a0, .int x1, .int x2] h Q := cal_of rfl (Nat.le_of_ble_eq_true rfl) (t_X8_failAt ht)
def T_X8_number (G : GG) (d : Nat) (h : HP) (Q : Option Value → HP → Prop) (a0 : Nat) (x1 : Int32) (x2 : Int32) : Prop :=
  Kd G h a0 8 ∧ ((¬ (hI h a0 2) = 2 → Ex G d mX8_number 24 [(0, .ref a0), (1, .int x1), (2, .int x2)] [] h Q) ∧ ((hI h a0 2) = 2 → (((hI h a0 4) < x1 → Ex G d mX8_number 24 [(0, .ref a0), (1, .int x1), (2, .int x2)] [] h Q) ∧ (¬ (hI h a0 4) < x1 → (((hI h a0 4) ≤ x2 → Cal G (d - 1) mX8_next [.ref a0] h (fun r5 h6 => r5 = none ∧ Q (some (.int (hI h a0 4))) h6)) ∧ (¬ (hI h a0 4) ≤ x2 → Ex G d mX8_number 24 [(0, .ref a0), (1, .int x1), (2, .int x2)] [] h Q))))))
set_option maxRecDepth 20000 in
theorem t_X8_number {G : GG} {d : Nat} {h : HP} {Q : Option Value → HP → Prop} {a0 : Nat} {x1 : Int32} {x2 : Int32} (hd1 : 1 ≤ d) (ht : T_X8_number G d h Q a0 x1 x2) : Ex G d mX8_number 0 [(0, .ref a0), (1, .int x1), (2, .int x2)] [] h Q := by
  unfold T_X8_number at ht
  refine x_aload_n (pc2 := 1) 0 (n := 0) (x := a0) rfl dX8_number_0 rfl ?_
  obtain ⟨k1, ht⟩ := ht
  refine y_getI (pc2 := 4) (κ := 8) (k := 2) fl_X8_45 (by decide) (by decide) k1 rfl dX8_number_1 rfl ?_
  refine x_iconst (pc2 := 5) (v := 2) (by decide) dX8_number_4 rfl ?_
  refine y_icmp_ne (pc2 := 8) 24 dX8_number_5 (by decide) rfl (fun c2 => ?_) (fun c2 => ?_)
  · replace ht := ht.1 c2
    exact ht
  · replace ht := ht.2 c2
    refine x_aload_n (pc2 := 9) 0 (n := 0) (x := a0) rfl dX8_number_8 rfl ?_
    refine y_getI (pc2 := 12) (κ := 8) (k := 4) fl_X8_51 (by decide) (by decide) k1 rfl dX8_number_9 rfl ?_
    refine x_iload_n (pc2 := 13) 1 (n := 1) (x := x1) rfl dX8_number_12 rfl ?_
    refine x_icmp_lt (pc2 := 16) 24 dX8_number_13 (by decide) rfl (fun c3 => ?_) (fun c3 => ?_)
    · replace ht := ht.1 c3
      exact ht
    · replace ht := ht.2 c3
      refine x_aload_n (pc2 := 17) 0 (n := 0) (x := a0) rfl dX8_number_16 rfl ?_
      refine y_getI (pc2 := 20) (κ := 8) (k := 4) fl_X8_51 (by decide) (by decide) k1 rfl dX8_number_17 rfl ?_
      refine x_iload_n (pc2 := 21) 2 (n := 2) (x := x2) rfl dX8_number_20 rfl ?_
      refine x_icmp_le (pc2 := 24) 44 dX8_number_21 (by decide) rfl (fun c4 => ?_) (fun c4 => ?_)
      · replace ht := ht.1 c4
        refine x_aload_n (pc2 := 45) 0 (n := 0) (x := a0) rfl dX8_number_44 rfl ?_
        refine y_getI (pc2 := 48) (κ := 8) (k := 4) fl_X8_51 (by decide) (by decide) k1 rfl dX8_number_45 rfl ?_
        refine x_istore_n (pc2 := 49) [1, 2, 3, 0] (n := 3) (x := (hI h a0 4)) (lv2 := [(0, .ref a0), (1, .int x1), (2, .int x2), (3, .int (hI h a0 4))]) (by decide) rfl dX8_number_48 rfl ?_
        refine x_aload_n (pc2 := 50) 0 (n := 0) (x := a0) rfl dX8_number_49 rfl ?_
        refine x_callV (pc2 := 53) (As := []) (rest := []) (b := a0) mv_X8_next ml_X8_42 k1 rfl rfl (Nat.le_of_ble_eq_true rfl) hd1 dX8_number_50 rfl (ht.mono (fun r5 h6 p7 ht' => ?_))
        clear ht
        obtain ⟨rfl, ht⟩ := ht'
        show Ex G d mX8_number 53 [(0, .ref a0), (1, .int x1), (2, .int x2), (3, .int (hI h a0 4))] [] h6 Q
        refine x_iload_n (pc2 := 54) 3 (n := 3) (x := (hI h a0 4)) rfl dX8_number_53 rfl ?_
        exact x_ret (ty := .int) rfl rfl dX8_number_54 ht
      · replace ht := ht.2 c4
        exact ht
theorem e_X8_number {G : GG} {d : Nat} {h : HP} {Q : Option Value → HP → Prop} {a0 : Nat} {x1 : Int32} {x2 : Int32} (hd1 : 1 ≤ d) (ht : T_X8_number G d h Q a0 x1 x2) : Cal G d mX8_number [.ref a0, .int x1, .int x2] h Q := cal_of rfl (Nat.le_of_ble_eq_true rfl) (t_X8_number hd1 ht)
def T_X8_number_24 (G : GG) (d : Nat) (h : HP) (Q : Option Value → HP → Prop) (a0 : Nat) (x1 : Int32) (x2 : Int32) : Prop :=
  Kd G h a0 8 ∧ ((¬ (hI h a0 2) = 2 → Cal G (d - 1) mX8_fail [.ref a0, .int 0] h (fun r3 h4 => ∃ v6, r3 = some (.int v6) ∧ Q (some (.int (-1))) h4)) ∧ ((hI h a0 2) = 2 → Cal G (d - 1) mX8_fail [.ref a0, .int 1] h (fun r7 h8 => ∃ v10, r7 = some (.int v10) ∧ Q (some (.int (-1))) h8)))
set_option maxRecDepth 20000 in
theorem t_X8_number_24 {G : GG} {d : Nat} {h : HP} {Q : Option Value → HP → Prop} {a0 : Nat} {x1 : Int32} {x2 : Int32} (hd1 : 1 ≤ d) (ht : T_X8_number_24 G d h Q a0 x1 x2) : Ex G d mX8_number 24 [(0, .ref a0), (1, .int x1), (2, .int x2)] [] h Q := by
  unfold T_X8_number_24 at ht
  refine x_aload_n (pc2 := 25) 0 (n := 0) (x := a0) rfl dX8_number_24 rfl ?_
  refine x_aload_n (pc2 := 26) 0 (n := 0) (x := a0) rfl dX8_number_25 rfl ?_
  obtain ⟨k1, ht⟩ := ht
  refine y_getI (pc2 := 29) (κ := 8) (k := 2) fl_X8_45 (by decide) (by decide) k1 rfl dX8_number_26 rfl ?_
  refine x_iconst (pc2 := 30) (v := 2) (by decide) dX8_number_29 rfl ?_
  refine y_icmp_ne (pc2 := 33) 37 dX8_number_30 (by decide) rfl (fun c2 => ?_) (fun c2 => ?_)
  · replace ht := ht.1 c2
    refine x_iconst (pc2 := 38) (v := 0) (by decide) dX8_number_37 rfl ?_
    refine x_callV (pc2 := 41) (As := [.int 0]) (rest := []) (b := a0) mv_X8_fail ml_X8_75 k1 rfl rfl (Nat.le_of_ble_eq_true rfl) hd1 dX8_number_38 rfl (ht.mono (fun r3 h4 p5 ht' => ?_))
    clear ht
    obtain ⟨v6, rfl, ht⟩ := ht'
    show Ex G d mX8_number 41 [(0, .ref a0), (1, .int x1), (2, .int x2)] [.int v6] h4 Q
    refine x_pop (pc2 := 42) rfl dX8_number_41 rfl ?_
    refine x_iconst (pc2 := 43) (v := (-1)) (by decide) dX8_number_42 rfl ?_
    exact x_ret (ty := .int) rfl rfl dX8_number_43 ht
  · replace ht := ht.2 c2
    refine x_iconst (pc2 := 34) (v := 1) (by decide) dX8_number_33 rfl ?_
    refine x_goto 38 dX8_number_34 (by decide) ?_
    refine x_callV (pc2 := 41) (As := [.int 1]) (rest := []) (b := a0) mv_X8_fail ml_X8_75 k1 rfl rfl (Nat.le_of_ble_eq_true rfl) hd1 dX8_number_38 rfl (ht.mono (fun r7 h8 p9 ht' => ?_))
    clear ht
    obtain ⟨v10, rfl, ht⟩ := ht'
    show Ex G d mX8_number 41 [(0, .ref a0), (1, .int x1), (2, .int x2)] [.int v10] h8 Q
    refine x_pop (pc2 := 42) rfl dX8_number_41 rfl ?_
    refine x_iconst (pc2 := 43) (v := (-1)) (by decide) dX8_number_42 rfl ?_
    exact x_ret (ty := .int) rfl rfl dX8_number_43 ht
def T_X8_goesOn (G : GG) (d : Nat) (h : HP) (Q : Option Value → HP → Prop) (a0 : Nat) : Prop :=
  Kd G h a0 8 ∧ ((¬ (hI h a0 2) = 0 → Cal G (d - 1) mX8_isSign [.ref a0, .int 59] h (fun r3 h4 => ∃ v6, r3 = some (.int v6) ∧ ((¬ v6 = 0 → Cal G (d - 1) mX8_next [.ref a0] h4 (fun r8 h9 => r8 = none ∧ Q (some (.int 1)) h9)) ∧ (v6 = 0 → Cal G (d - 1) mX8_fail [.ref a0, .int 0] h4 (fun r11 h12 => ∃ v14, r11 = some (.int v14) ∧ ((v14 = 0 ∨ v14 = 1) ∧ Q (some (.int v14)) h12)))))) ∧ ((hI h a0 2) = 0 → Q (some (.int 0)) h))
set_option maxRecDepth 20000 in
theorem t_X8_goesOn {G : GG} {d : Nat} {h : HP} {Q : Option Value → HP → Prop} {a0 : Nat} (hd1 : 1 ≤ d) (ht : T_X8_goesOn G d h Q a0) : Ex G d mX8_goesOn 0 [(0, .ref a0)] [] h Q := by
  unfold T_X8_goesOn at ht
  refine x_aload_n (pc2 := 1) 0 (n := 0) (x := a0) rfl dX8_goesOn_0 rfl ?_
  obtain ⟨k1, ht⟩ := ht
  refine y_getI (pc2 := 4) (κ := 8) (k := 2) fl_X8_45 (by decide) (by decide) k1 rfl dX8_goesOn_1 rfl ?_
  refine y_if_ne (pc2 := 7) 9 dX8_goesOn_4 (by decide) rfl (fun c2 => ?_) (fun c2 => ?_)
  · replace ht := ht.1 c2
    refine x_aload_n (pc2 := 10) 0 (n := 0) (x := a0) rfl dX8_goesOn_9 rfl ?_
    refine x_bipush (pc2 := 12) (v := 59) (by decide) dX8_goesOn_10 rfl ?_
    refine x_callV (pc2 := 15) (As := [.int 59]) (rest := []) (b := a0) mv_X8_isSign ml_X8_79 k1 rfl rfl (Nat.le_of_ble_eq_true rfl) hd1 dX8_goesOn_12 rfl (ht.mono (fun r3 h4 p5 ht' => ?_))
    clear ht
    obtain ⟨v6, rfl, ht⟩ := ht'
    show Ex G d mX8_goesOn 15 [(0, .ref a0)] [.int v6] h4 Q
    refine y_if_ne (pc2 := 18) 24 dX8_goesOn_15 (by decide) rfl (fun c7 => ?_) (fun c7 => ?_)
    · replace ht := ht.1 c7
      refine x_aload_n (pc2 := 25) 0 (n := 0) (x := a0) rfl dX8_goesOn_24 rfl ?_
      refine x_callV (pc2 := 28) (As := []) (rest := []) (b := a0) mv_X8_next ml_X8_42 (k1.up p5) rfl rfl (Nat.le_of_ble_eq_true rfl) hd1 dX8_goesOn_25 rfl (ht.mono (fun r8 h9 p10 ht' => ?_))
      clear ht
      obtain ⟨rfl, ht⟩ := ht'
      show Ex G d mX8_goesOn 28 [(0, .ref a0)] [] h9 Q
      refine x_iconst (pc2 := 29) (v := 1) (by decide) dX8_goesOn_28 rfl ?_
      exact x_retZ rfl (Or.inr rfl) dX8_goesOn_29 ht
    · replace ht := ht.2 c7
      refine x_aload_n (pc2 := 19) 0 (n := 0) (x := a0) rfl dX8_goesOn_18 rfl ?_
      refine x_iconst (pc2 := 20) (v := 0) (by decide) dX8_goesOn_19 rfl ?_
      refine x_callV (pc2 := 23) (As := [.int 0]) (rest := []) (b := a0) mv_X8_fail ml_X8_75 (k1.up p5) rfl rfl (Nat.le_of_ble_eq_true rfl) hd1 dX8_goesOn_20 rfl (ht.mono (fun r11 h12 p13 ht' => ?_))
      clear ht
      obtain ⟨v14, rfl, ht⟩ := ht'
      show Ex G d mX8_goesOn 23 [(0, .ref a0)] [.int v14] h12 Q
      exact x_retZ rfl ht.1 dX8_goesOn_23 ht.2
  · replace ht := ht.2 c2
    refine x_iconst (pc2 := 8) (v := 0) (by decide) dX8_goesOn_7 rfl ?_
    exact x_retZ rfl (Or.inl rfl) dX8_goesOn_8 ht
theorem e_X8_goesOn {G : GG} {d : Nat} {h : HP} {Q : Option Value → HP → Prop} {a0 : Nat} (hd1 : 1 ≤ d) (ht : T_X8_goesOn G d h Q a0) : Cal G d mX8_goesOn [.ref a0] h Q := cal_of rfl (Nat.le_of_ble_eq_true rfl) (t_X8_goesOn hd1 ht)
