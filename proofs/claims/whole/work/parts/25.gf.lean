def T_X7_init (G : GG) (d : Nat) (h : HP) (Q : Option Value → HP → Prop) (a0 : Nat) : Prop :=
  ∀ q1 h2, q1 = hZ h → h2 = nw h 14 ((1681 : Int32).toNatClampNeg) → Kd G h2 a0 7 ∧ ∀ q7 h8, q7 = hZ (sR h2 a0 0 (some q1)) → h8 = nw (sR h2 a0 0 (some q1)) 14 ((1681 : Int32).toNatClampNeg) → ∀ q12 h13, q12 = hZ (sR h8 a0 1 (some q7)) → h13 = nw (sR h8 a0 1 (some q7)) 14 ((1681 : Int32).toNatClampNeg) → ∀ q17 h18, q17 = hZ (sR h13 a0 2 (some q12)) → h18 = nw (sR h13 a0 2 (some q12)) 14 ((1681 : Int32).toNatClampNeg) → ∀ q22 h23, q22 = hZ (sR h18 a0 3 (some q17)) → h23 = nw (sR h18 a0 3 (some q17)) 14 ((1681 : Int32).toNatClampNeg) → Q none (sR h23 a0 4 (some q22))
set_option maxRecDepth 20000 in
theorem t_X7_init {G : GG} {d : Nat} {h : HP} {Q : Option Value → HP → Prop} {a0 : Nat} (hd1 : 1 ≤ d) (ht : T_X7_init G d h Q a0) : Ex G d mX7_init 0 [(0, .ref a0)] [] h Q := by
  unfold T_X7_init at ht
  refine x_aload_n (pc2 := 1) 0 (n := 0) (x := a0) rfl dX7_init_0 rfl ?_
  refine x_objInit (pc2 := 4) ml_X7_3 hd1 (Nat.le_of_ble_eq_true rfl) dX7_init_1 rfl ?_
  refine x_aload_n (pc2 := 5) 0 (n := 0) (x := a0) rfl dX7_init_4 rfl ?_
  refine x_sipush (pc2 := 8) (v := 1681) (by decide) dX7_init_5 rfl ?_
  refine y_newa (pc2 := 10) (κ := 14) (at0 := .int) ac_int rfl (by decide) (by decide) (by decide) (by decide) dX7_init_8 rfl (fun q1 h2 e3 e4 p5 => ?_)
  replace ht := ht q1 h2 e3 e4
  obtain ⟨k6, ht⟩ := ht
  refine x_putR (pc2 := 13) (v := (some q1)) (κ := 7) (k := 0) fl_X7_11 (by decide) (by decide) (Or.inr ⟨rfl, rfl⟩) (isRt_a _) k6 dX7_init_10 rfl ?_
  refine x_aload_n (pc2 := 14) 0 (n := 0) (x := a0) rfl dX7_init_13 rfl ?_
  refine x_sipush (pc2 := 17) (v := 1681) (by decide) dX7_init_14 rfl ?_
  refine y_newa (pc2 := 19) (κ := 14) (at0 := .int) ac_int rfl (by decide) (by decide) (by decide) (by decide) dX7_init_17 rfl (fun q7 h8 e9 e10 p11 => ?_)
  replace ht := ht q7 h8 e9 e10
  refine x_putR (pc2 := 22) (v := (some q7)) (κ := 7) (k := 1) fl_X7_15 (by decide) (by decide) (Or.inr ⟨rfl, rfl⟩) (isRt_a _) (k6.sR.up p11) dX7_init_19 rfl ?_
  refine x_aload_n (pc2 := 23) 0 (n := 0) (x := a0) rfl dX7_init_22 rfl ?_
  refine x_sipush (pc2 := 26) (v := 1681) (by decide) dX7_init_23 rfl ?_
  refine y_newa (pc2 := 28) (κ := 14) (at0 := .int) ac_int rfl (by decide) (by decide) (by decide) (by decide) dX7_init_26 rfl (fun q12 h13 e14 e15 p16 => ?_)
  replace ht := ht q12 h13 e14 e15
  refine x_putR (pc2 := 31) (v := (some q12)) (κ := 7) (k := 2) fl_X7_18 (by decide) (by decide) (Or.inr ⟨rfl, rfl⟩) (isRt_a _) ((k6.sR.up p11).sR.up p16) dX7_init_28 rfl ?_
  refine x_aload_n (pc2 := 32) 0 (n := 0) (x := a0) rfl dX7_init_31 rfl ?_
  refine x_sipush (pc2 := 35) (v := 1681) (by decide) dX7_init_32 rfl ?_
  refine y_newa (pc2 := 37) (κ := 14) (at0 := .int) ac_int rfl (by decide) (by decide) (by decide) (by decide) dX7_init_35 rfl (fun q17 h18 e19 e20 p21 => ?_)
  replace ht := ht q17 h18 e19 e20
  refine x_putR (pc2 := 40) (v := (some q17)) (κ := 7) (k := 3) fl_X7_21 (by decide) (by decide) (Or.inr ⟨rfl, rfl⟩) (isRt_a _) (((k6.sR.up p11).sR.up p16).sR.up p21) dX7_init_37 rfl ?_
  refine x_aload_n (pc2 := 41) 0 (n := 0) (x := a0) rfl dX7_init_40 rfl ?_
  refine x_sipush (pc2 := 44) (v := 1681) (by decide) dX7_init_41 rfl ?_
  refine y_newa (pc2 := 46) (κ := 14) (at0 := .int) ac_int rfl (by decide) (by decide) (by decide) (by decide) dX7_init_44 rfl (fun q22 h23 e24 e25 p26 => ?_)
  replace ht := ht q22 h23 e24 e25
  refine x_putR (pc2 := 49) (v := (some q22)) (κ := 7) (k := 4) fl_X7_24 (by decide) (by decide) (Or.inr ⟨rfl, rfl⟩) (isRt_a _) ((((k6.sR.up p11).sR.up p16).sR.up p21).sR.up p26) dX7_init_46 rfl ?_
  exact x_retV rfl dX7_init_49 ht
theorem e_X7_init {G : GG} {d : Nat} {h : HP} {Q : Option Value → HP → Prop} {a0 : Nat} (hd1 : 1 ≤ d) (ht : T_X7_init G d h Q a0) : Cal G d mX7_init [.ref a0] h Q := cal_of rfl (Nat.le_of_ble_eq_true rfl) (t_X7_init hd1 ht)
def T_X7_rebuild (G : GG) (d : Nat) (h : HP) (Q : Option Value → HP → Prop) (a0 : Nat) (a1 : Nat) : Prop :=
  Ex G d mX7_rebuild 2 [(0, .ref a0), (1, .ref a1), (2, .int 0)] [] h Q
set_option maxRecDepth 20000 in
theorem t_X7_rebuild {G : GG} {d : Nat} {h : HP} {Q : Option Value → HP → Prop} {a0 : Nat} {a1 : Nat} (ht : T_X7_rebuild G d h Q a0 a1) : Ex G d mX7_rebuild 0 [(0, .ref a0), (1, .ref a1)] [] h Q := by
  unfold T_X7_rebuild at ht
  refine x_iconst (pc2 := 1) (v := 0) (by decide) dX7_rebuild_0 rfl ?_
  refine x_istore_n (pc2 := 2) [1, 2, 0] (n := 2) (x := 0) (lv2 := [(0, .ref a0), (1, .ref a1), (2, .int 0)]) (by decide) rfl dX7_rebuild_1 rfl ?_
  exact ht
theorem e_X7_rebuild {G : GG} {d : Nat} {h : HP} {Q : Option Value → HP → Prop} {a0 : Nat} {a1 : Nat} (ht : T_X7_rebuild G d h Q a0 a1) : Cal G d mX7_rebuild [.ref a0, .ref a1] h Q := cal_of rfl (Nat.le_of_ble_eq_true rfl) (t_X7_rebuild ht)
def T_X7_rebuild_2 (G : GG) (d : Nat) (h : HP) (Q : Option Value → HP → Prop) (a0 : Nat) (a1 : Nat) (x2 : Int32) : Prop :=
  Kd G h a1 6 ∧ (((hI h a1 1) ≤ x2 → Kd G h a0 7 ∧ Cal G (d - 1) mX7_rebuildLines [.ref a0, .ref a1] h (fun r3 h4 => r3 = none ∧ Q none h4)) ∧ (¬ (hI h a1 1) ≤ x2 → Ex G d mX7_rebuild 12 [(0, .ref a0), (1, .ref a1), (2, .int x2), (3, .int 0)] [] h Q))
set_option maxRecDepth 20000 in
theorem t_X7_rebuild_2 {G : GG} {d : Nat} {h : HP} {Q : Option Value → HP → Prop} {a0 : Nat} {a1 : Nat} {x2 : Int32} (hd1 : 1 ≤ d) (ht : T_X7_rebuild_2 G d h Q a0 a1 x2) : Ex G d mX7_rebuild 2 [(0, .ref a0), (1, .ref a1), (2, .int x2)] [] h Q := by
  unfold T_X7_rebuild_2 at ht
  refine x_iload_n (pc2 := 3) 2 (n := 2) (x := x2) rfl dX7_rebuild_2 rfl ?_
  refine x_aload_n (pc2 := 4) 1 (n := 1) (x := a1) rfl dX7_rebuild_3 rfl ?_
  obtain ⟨k1, ht⟩ := ht
  refine y_getI (pc2 := 7) (κ := 6) (k := 1) fl_X7_27 (by decide) (by decide) k1 rfl dX7_rebuild_4 rfl ?_
  refine x_icmp_ge (pc2 := 10) 117 dX7_rebuild_7 (by decide) rfl (fun c2 => ?_) (fun c2 => ?_)
  · replace ht := ht.1 c2
    refine x_aload_n (pc2 := 118) 0 (n := 0) (x := a0) rfl dX7_rebuild_117 rfl ?_
    refine x_aload_n (pc2 := 119) 1 (n := 1) (x := a1) rfl dX7_rebuild_118 rfl ?_
    obtain ⟨k6, ht⟩ := ht
    refine x_callV (pc2 := 122) (As := [.ref a1]) (rest := []) (b := a0) mv_X7_rebuildLines ml_X7_43 k6 rfl rfl (Nat.le_of_ble_eq_true rfl) hd1 dX7_rebuild_119 rfl (ht.mono (fun r3 h4 p5 ht' => ?_))
    clear ht
    obtain ⟨rfl, ht⟩ := ht'
    show Ex G d mX7_rebuild 122 [(0, .ref a0), (1, .ref a1), (2, .int x2)] [] h4 Q
    exact x_retV rfl dX7_rebuild_122 ht
  · replace ht := ht.2 c2
    refine x_iconst (pc2 := 11) (v := 0) (by decide) dX7_rebuild_10 rfl ?_
    refine x_istore_n (pc2 := 12) [1, 2, 3, 0] (n := 3) (x := 0) (lv2 := [(0, .ref a0), (1, .ref a1), (2, .int x2), (3, .int 0)]) (by decide) rfl dX7_rebuild_11 rfl ?_
    exact ht
def T_X7_rebuild_12 (G : GG) (d : Nat) (h : HP) (Q : Option Value → HP → Prop) (a0 : Nat) (a1 : Nat) (x2 : Int32) (x3 : Int32) : Prop :=
  Kd G h a1 6 ∧ (((hI h a1 0) ≤ x3 → Ex G d mX7_rebuild 2 [(0, .ref a0), (1, .ref a1), (2, .int (x2 + 1))] [] h Q) ∧ (¬ (hI h a1 0) ≤ x3 → ∃ q3, hR h a1 5 = some q3 ∧ Kd G h q3 14 ∧ vp_in ((x2 * 40) + x3) (hN h q3) ∧ Kd G h a0 7 ∧ ∃ q8, hR h a0 0 = some q8 ∧ Cal G (d - 1) mX7_grow [.ref q8, .int ((((x2 + 1) * 41) + x3) + 1), .int ((hI h q3 ((x2 * 40) + x3).toNatClampNeg) &&& 127)] h (fun r10 h11 => r10 = none ∧ ∃ q13, hR h11 a0 2 = some q13 ∧ ((((hI h q3 ((x2 * 40) + x3).toNatClampNeg) &&& 128) = 0 → Ex G d mX7_rebuild 79 [(0, .ref a0), (1, .ref a1), (2, .int x2), (3, .int x3), (4, .int (hI h q3 ((x2 * 40) + x3).toNatClampNeg)), (5, .int ((((x2 + 1) * 41) + x3) + 1))] [.int 0, .int ((((x2 + 1) * 41) + x3) + 1), .ref q13] h11 Q) ∧ (¬ ((hI h q3 ((x2 * 40) + x3).toNatClampNeg) &&& 128) = 0 → Ex G d mX7_rebuild 79 [(0, .ref a0), (1, .ref a1), (2, .int x2), (3, .int x3), (4, .int (hI h q3 ((x2 * 40) + x3).toNatClampNeg)), (5, .int ((((x2 + 1) * 41) + x3) + 1))] [.int 1, .int ((((x2 + 1) * 41) + x3) + 1), .ref q13] h11 Q)))))
set_option maxRecDepth 20000 in
theorem t_X7_rebuild_12 {G : GG} {d : Nat} {h : HP} {Q : Option Value → HP → Prop} {a0 : Nat} {a1 : Nat} {x2 : Int32} {x3 : Int32} (hd1 : 1 ≤ d) (ht : T_X7_rebuild_12 G d h Q a0 a1 x2 x3) : Ex G d mX7_rebuild 12 [(0, .ref a0), (1, .ref a1), (2, .int x2), (3, .int x3)] [] h Q := by
  unfold T_X7_rebuild_12 at ht
  refine x_iload_n (pc2 := 13) 3 (n := 3) (x := x3) rfl dX7_rebuild_12 rfl ?_
  refine x_aload_n (pc2 := 14) 1 (n := 1) (x := a1) rfl dX7_rebuild_13 rfl ?_
  obtain ⟨k1, ht⟩ := ht
  refine y_getI (pc2 := 17) (κ := 6) (k := 0) fl_X7_33 (by decide) (by decide) k1 rfl dX7_rebuild_14 rfl ?_
  refine x_icmp_ge (pc2 := 20) 111 dX7_rebuild_17 (by decide) rfl (fun c2 => ?_) (fun c2 => ?_)
  · replace ht := ht.1 c2
    refine x_iinc (pc2 := 114) 2 [1, 2, 0, 3] (i := 2) (x := x2) (v := (x2 + 1)) (lv2 := [(0, .ref a0), (1, .ref a1), (2, .int (x2 + 1)), (3, .int x3)]) rfl (iinc_eq (by decide) _) (by decide) rfl dX7_rebuild_111 rfl ?_
    refine x_goto 2 dX7_rebuild_114 (by decide) ?_
    refine x_sub [0, 1, 2] (lv2 := [(0, .ref a0), (1, .ref a1), (2, .int (x2 + 1))]) rfl ?_
    exact ht
  · replace ht := ht.2 c2
    refine x_aload_n (pc2 := 21) 1 (n := 1) (x := a1) rfl dX7_rebuild_20 rfl ?_
    obtain ⟨q3, e4, ht⟩ := ht
    refine y_getR (pc2 := 24) (κ := 6) (k := 5) fl_X7_36 (by decide) (by decide) k1 rfl e4 dX7_rebuild_21 rfl ?_
    refine x_iload_n (pc2 := 25) 2 (n := 2) (x := x2) rfl dX7_rebuild_24 rfl ?_
    refine x_bipush (pc2 := 27) (v := 40) (by decide) dX7_rebuild_25 rfl ?_
    refine x_imul (pc2 := 28) dX7_rebuild_27 rfl ?_
    refine x_iload_n (pc2 := 29) 3 (n := 3) (x := x3) rfl dX7_rebuild_28 rfl ?_
    refine x_iadd (pc2 := 30) dX7_rebuild_29 rfl ?_
    obtain ⟨k5, ht⟩ := ht
    obtain ⟨b6, ht⟩ := ht
    refine x_iald (pc2 := 31) k5 b6 dX7_rebuild_30 rfl ?_
    refine x_istore (pc2 := 33) [1, 2, 3, 4, 0] (n := 4) (x := (hI h q3 ((x2 * 40) + x3).toNatClampNeg)) (lv2 := [(0, .ref a0), (1, .ref a1), (2, .int x2), (3, .int x3), (4, .int (hI h q3 ((x2 * 40) + x3).toNatClampNeg))]) (by decide) rfl dX7_rebuild_31 rfl ?_
    refine x_iload_n (pc2 := 34) 2 (n := 2) (x := x2) rfl dX7_rebuild_33 rfl ?_
    refine x_iconst (pc2 := 35) (v := 1) (by decide) dX7_rebuild_34 rfl ?_
    refine x_iadd (pc2 := 36) dX7_rebuild_35 rfl ?_
    refine x_bipush (pc2 := 38) (v := 41) (by decide) dX7_rebuild_36 rfl ?_
    refine x_imul (pc2 := 39) dX7_rebuild_38 rfl ?_
    refine x_iload_n (pc2 := 40) 3 (n := 3) (x := x3) rfl dX7_rebuild_39 rfl ?_
    refine x_iadd (pc2 := 41) dX7_rebuild_40 rfl ?_
    refine x_iconst (pc2 := 42) (v := 1) (by decide) dX7_rebuild_41 rfl ?_
    refine x_iadd (pc2 := 43) dX7_rebuild_42 rfl ?_
    refine x_istore (pc2 := 45) [1, 2, 3, 4, 5, 0] (n := 5) (x := ((((x2 + 1) * 41) + x3) + 1)) (lv2 := [(0, .ref a0), (1, .ref a1), (2, .int x2), (3, .int x3), (4, .int (hI h q3 ((x2 * 40) + x3).toNatClampNeg)), (5, .int ((((x2 + 1) * 41) + x3) + 1))]) (by decide) rfl dX7_rebuild_43 rfl ?_
    refine x_aload_n (pc2 := 46) 0 (n := 0) (x := a0) rfl dX7_rebuild_45 rfl ?_
    obtain ⟨k7, ht⟩ := ht
    obtain ⟨q8, e9, ht⟩ := ht
    refine y_getR (pc2 := 49) (κ := 7) (k := 0) fl_X7_11 (by decide) (by decide) k7 rfl e9 dX7_rebuild_46 rfl ?_
    refine x_iload (pc2 := 51) 5 (n := 5) (x := ((((x2 + 1) * 41) + x3) + 1)) rfl dX7_rebuild_49 rfl ?_
    refine x_iload (pc2 := 53) 4 (n := 4) (x := (hI h q3 ((x2 * 40) + x3).toNatClampNeg)) rfl dX7_rebuild_51 rfl ?_
    refine x_bipush (pc2 := 55) (v := 127) (by decide) dX7_rebuild_53 rfl ?_
    refine x_iand (pc2 := 56) dX7_rebuild_55 rfl ?_
    refine x_callS (pc2 := 59) (As := [.ref q8, .int ((((x2 + 1) * 41) + x3) + 1), .int ((hI h q3 ((x2 * 40) + x3).toNatClampNeg) &&& 127)]) (rest := []) ms_X7_grow ml_X7_39 rfl rfl (Nat.le_of_ble_eq_true rfl) hd1 dX7_rebuild_56 rfl (ht.mono (fun r10 h11 p12 ht' => ?_))
    clear ht
    obtain ⟨rfl, ht⟩ := ht'
    show Ex G d mX7_rebuild 59 [(0, .ref a0), (1, .ref a1), (2, .int x2), (3, .int x3), (4, .int (hI h q3 ((x2 * 40) + x3).toNatClampNeg)), (5, .int ((((x2 + 1) * 41) + x3) + 1))] [] h11 Q
    refine x_aload_n (pc2 := 60) 0 (n := 0) (x := a0) rfl dX7_rebuild_59 rfl ?_
    obtain ⟨q13, e14, ht⟩ := ht
    refine y_getR (pc2 := 63) (κ := 7) (k := 2) fl_X7_18 (by decide) (by decide) (k7.up p12) rfl e14 dX7_rebuild_60 rfl ?_
    refine x_iload (pc2 := 65) 5 (n := 5) (x := ((((x2 + 1) * 41) + x3) + 1)) rfl dX7_rebuild_63 rfl ?_
    refine x_iload (pc2 := 67) 4 (n := 4) (x := (hI h q3 ((x2 * 40) + x3).toNatClampNeg)) rfl dX7_rebuild_65 rfl ?_
    refine x_sipush (pc2 := 70) (v := 128) (by decide) dX7_rebuild_67 rfl ?_
    refine x_iand (pc2 := 71) dX7_rebuild_70 rfl ?_
    refine x_if_eq (pc2 := 74) 78 dX7_rebuild_71 (by decide) rfl (fun c15 => ?_) (fun c15 => ?_)
    · replace ht := ht.1 c15
      refine x_iconst (pc2 := 79) (v := 0) (by decide) dX7_rebuild_78 rfl ?_
      exact ht
    · replace ht := ht.2 c15
      refine x_iconst (pc2 := 75) (v := 1) (by decide) dX7_rebuild_74 rfl ?_
      refine x_goto 79 dX7_rebuild_75 (by decide) ?_
      exact ht
def T_X7_rebuild_79 (G : GG) (d : Nat) (h : HP) (Q : Option Value → HP → Prop) (a0 : Nat) (a1 : Nat) (x2 : Int32) (x3 : Int32) (x4 : Int32) (x5 : Int32) (sa0 : Nat) (sx1 : Int32) (sx2 : Int32) : Prop :=
  Cal G (d - 1) mX7_grow [.ref sa0, .int sx1, .int sx2] h (fun r1 h2 => r1 = none ∧ Kd G h2 a0 7 ∧ ∃ q5, hR h2 a0 1 = some q5 ∧ (((x4 &&& 256) = 0 → Cal G (d - 1) mX7_grow [.ref q5, .int x5, .int 0] h2 (fun r8 h9 => r8 = none ∧ Ex G d mX7_rebuild 12 [(0, .ref a0), (1, .ref a1), (2, .int x2), (3, .int (x3 + 1))] [] h9 Q)) ∧ (¬ (x4 &&& 256) = 0 → Cal G (d - 1) mX7_grow [.ref q5, .int x5, .int 1] h2 (fun r11 h12 => r11 = none ∧ Ex G d mX7_rebuild 12 [(0, .ref a0), (1, .ref a1), (2, .int x2), (3, .int (x3 + 1))] [] h12 Q))))
set_option maxRecDepth 20000 in
theorem t_X7_rebuild_79 {G : GG} {d : Nat} {h : HP} {Q : Option Value → HP → Prop} {a0 : Nat} {a1 : Nat} {x2 : Int32} {x3 : Int32} {x4 : Int32} {x5 : Int32} {sa0 : Nat} {sx1 : Int32} {sx2 : Int32} (hd1 : 1 ≤ d) (ht : T_X7_rebuild_79 G d h Q a0 a1 x2 x3 x4 x5 sa0 sx1 sx2) : Ex G d mX7_rebuild 79 [(0, .ref a0), (1, .ref a1), (2, .int x2), (3, .int x3), (4, .int x4), (5, .int x5)] [.int sx2, .int sx1, .ref sa0] h Q := by
  unfold T_X7_rebuild_79 at ht
  refine x_callS (pc2 := 82) (As := [.ref sa0, .int sx1, .int sx2]) (rest := []) ms_X7_grow ml_X7_39 rfl rfl (Nat.le_of_ble_eq_true rfl) hd1 dX7_rebuild_79 rfl (ht.mono (fun r1 h2 p3 ht' => ?_))
  clear ht
  obtain ⟨rfl, ht⟩ := ht'
  show Ex G d mX7_rebuild 82 [(0, .ref a0), (1, .ref a1), (2, .int x2), (3, .int x3), (4, .int x4), (5, .int x5)] [] h2 Q
  refine x_aload_n (pc2 := 83) 0 (n := 0) (x := a0) rfl dX7_rebuild_82 rfl ?_
  obtain ⟨k4, ht⟩ := ht
  obtain ⟨q5, e6, ht⟩ := ht
  refine y_getR (pc2 := 86) (κ := 7) (k := 1) fl_X7_15 (by decide) (by decide) k4 rfl e6 dX7_rebuild_83 rfl ?_
  refine x_iload (pc2 := 88) 5 (n := 5) (x := x5) rfl dX7_rebuild_86 rfl ?_
  refine x_iload (pc2 := 90) 4 (n := 4) (x := x4) rfl dX7_rebuild_88 rfl ?_
  refine x_sipush (pc2 := 93) (v := 256) (by decide) dX7_rebuild_90 rfl ?_
  refine x_iand (pc2 := 94) dX7_rebuild_93 rfl ?_
  refine x_if_eq (pc2 := 97) 101 dX7_rebuild_94 (by decide) rfl (fun c7 => ?_) (fun c7 => ?_)
  · replace ht := ht.1 c7
    refine x_iconst (pc2 := 102) (v := 0) (by decide) dX7_rebuild_101 rfl ?_
    refine x_callS (pc2 := 105) (As := [.ref q5, .int x5, .int 0]) (rest := []) ms_X7_grow ml_X7_39 rfl rfl (Nat.le_of_ble_eq_true rfl) hd1 dX7_rebuild_102 rfl (ht.mono (fun r8 h9 p10 ht' => ?_))
    clear ht
    obtain ⟨rfl, ht⟩ := ht'
    show Ex G d mX7_rebuild 105 [(0, .ref a0), (1, .ref a1), (2, .int x2), (3, .int x3), (4, .int x4), (5, .int x5)] [] h9 Q
    refine x_iinc (pc2 := 108) 3 [1, 2, 3, 0, 4, 5] (i := 3) (x := x3) (v := (x3 + 1)) (lv2 := [(0, .ref a0), (1, .ref a1), (2, .int x2), (3, .int (x3 + 1)), (4, .int x4), (5, .int x5)]) rfl (iinc_eq (by decide) _) (by decide) rfl dX7_rebuild_105 rfl ?_
    refine x_goto 12 dX7_rebuild_108 (by decide) ?_
    refine x_sub [0, 1, 2, 3] (lv2 := [(0, .ref a0), (1, .ref a1), (2, .int x2), (3, .int (x3 + 1))]) rfl ?_
    exact ht
  · replace ht := ht.2 c7
    refine x_iconst (pc2 := 98) (v := 1) (by decide) dX7_rebuild_97 rfl ?_
    refine x_goto 102 dX7_rebuild_98 (by decide) ?_
    refine x_callS (pc2 := 105) (As := [.ref q5, .int x5, .int 1]) (rest := []) ms_X7_grow ml_X7_39 rfl rfl (Nat.le_of_ble_eq_true rfl) hd1 dX7_rebuild_102 rfl (ht.mono (fun r11 h12 p13 ht' => ?_))
    clear ht
    obtain ⟨rfl, ht⟩ := ht'
    show Ex G d mX7_rebuild 105 [(0, .ref a0), (1, .ref a1), (2, .int x2), (3, .int x3), (4, .int x4), (5, .int x5)] [] h12 Q
    refine x_iinc (pc2 := 108) 3 [1, 2, 3, 0, 4, 5] (i := 3) (x := x3) (v := (x3 + 1)) (lv2 := [(0, .ref a0), (1, .ref a1), (2, .int x2), (3, .int (x3 + 1)), (4, .int x4), (5, .int x5)]) rfl (iinc_eq (by decide) _) (by decide) rfl dX7_rebuild_105 rfl ?_
    refine x_goto 12 dX7_rebuild_108 (by decide) ?_
    refine x_sub [0, 1, 2, 3] (lv2 := [(0, .ref a0), (1, .ref a1), (2, .int x2), (3, .int (x3 + 1))]) rfl ?_
    exact ht
def T_X7_grow (G : GG) (d : Nat) (h : HP) (Q : Option Value → HP → Prop) (a0 : Nat) (x1 : Int32) (x2 : Int32) : Prop :=
  Kd G h a0 14 ∧ vp_in (x1 - 1) (hN h a0) ∧ vp_in (x1 - 41) (hN h a0) ∧ vp_in ((x1 - 41) - 1) (hN h a0) ∧ vp_in x1 (hN h a0) ∧ ∀ h6, h6 = (sI h a0 x1.toNatClampNeg (((x2 + (hI h a0 (x1 - 1).toNatClampNeg)) + (hI h a0 (x1 - 41).toNatClampNeg)) - (hI h a0 ((x1 - 41) - 1).toNatClampNeg))) → Q none h6
set_option maxRecDepth 20000 in
theorem t_X7_grow {G : GG} {d : Nat} {h : HP} {Q : Option Value → HP → Prop} {a0 : Nat} {x1 : Int32} {x2 : Int32} (ht : T_X7_grow G d h Q a0 x1 x2) : Ex G d mX7_grow 0 [(0, .ref a0), (1, .int x1), (2, .int x2)] [] h Q := by
  unfold T_X7_grow at ht
  refine x_aload_n (pc2 := 1) 0 (n := 0) (x := a0) rfl dX7_grow_0 rfl ?_
  refine x_iload_n (pc2 := 2) 1 (n := 1) (x := x1) rfl dX7_grow_1 rfl ?_
  refine x_iload_n (pc2 := 3) 2 (n := 2) (x := x2) rfl dX7_grow_2 rfl ?_
  refine x_aload_n (pc2 := 4) 0 (n := 0) (x := a0) rfl dX7_grow_3 rfl ?_
  refine x_iload_n (pc2 := 5) 1 (n := 1) (x := x1) rfl dX7_grow_4 rfl ?_
  refine x_iconst (pc2 := 6) (v := 1) (by decide) dX7_grow_5 rfl ?_
  refine x_isub (pc2 := 7) dX7_grow_6 rfl ?_
  obtain ⟨k1, ht⟩ := ht
  obtain ⟨b2, ht⟩ := ht
  refine x_iald (pc2 := 8) k1 b2 dX7_grow_7 rfl ?_
  refine x_iadd (pc2 := 9) dX7_grow_8 rfl ?_
  refine x_aload_n (pc2 := 10) 0 (n := 0) (x := a0) rfl dX7_grow_9 rfl ?_
  refine x_iload_n (pc2 := 11) 1 (n := 1) (x := x1) rfl dX7_grow_10 rfl ?_
  refine x_bipush (pc2 := 13) (v := 41) (by decide) dX7_grow_11 rfl ?_
  refine x_isub (pc2 := 14) dX7_grow_13 rfl ?_
  obtain ⟨b3, ht⟩ := ht
  refine x_iald (pc2 := 15) k1 b3 dX7_grow_14 rfl ?_
  refine x_iadd (pc2 := 16) dX7_grow_15 rfl ?_
  refine x_aload_n (pc2 := 17) 0 (n := 0) (x := a0) rfl dX7_grow_16 rfl ?_
  refine x_iload_n (pc2 := 18) 1 (n := 1) (x := x1) rfl dX7_grow_17 rfl ?_
  refine x_bipush (pc2 := 20) (v := 41) (by decide) dX7_grow_18 rfl ?_
  refine x_isub (pc2 := 21) dX7_grow_20 rfl ?_
  refine x_iconst (pc2 := 22) (v := 1) (by decide) dX7_grow_21 rfl ?_
  refine x_isub (pc2 := 23) dX7_grow_22 rfl ?_
  obtain ⟨b4, ht⟩ := ht
  refine x_iald (pc2 := 24) k1 b4 dX7_grow_23 rfl ?_
  refine x_isub (pc2 := 25) dX7_grow_24 rfl ?_
  obtain ⟨b5, ht⟩ := ht
  refine x_iast (pc2 := 26) k1 b5 dX7_grow_25 rfl ?_
  refine nm_I (fun h6 e7 p8 => ?_)
  replace ht := ht h6 e7
  exact x_retV rfl dX7_grow_26 ht
theorem e_X7_grow {G : GG} {d : Nat} {h : HP} {Q : Option Value → HP → Prop} {a0 : Nat} {x1 : Int32} {x2 : Int32} (ht : T_X7_grow G d h Q a0 x1 x2) : Cal G d mX7_grow [.ref a0, .int x1, .int x2] h Q := cal_of rfl (Nat.le_of_ble_eq_true rfl) (t_X7_grow ht)
def T_X7_rebuildLines (G : GG) (d : Nat) (h : HP) (Q : Option Value → HP → Prop) (a0 : Nat) (a1 : Nat) : Prop :=
  Ex G d mX7_rebuildLines 2 [(0, .ref a0), (1, .ref a1), (2, .int 0)] [] h Q
set_option maxRecDepth 20000 in
theorem t_X7_rebuildLines {G : GG} {d : Nat} {h : HP} {Q : Option Value → HP → Prop} {a0 : Nat} {a1 : Nat} (ht : T_X7_rebuildLines G d h Q a0 a1) : Ex G d mX7_rebuildLines 0 [(0, .ref a0), (1, .ref a1)] [] h Q := by
  unfold T_X7_rebuildLines at ht
  refine x_iconst (pc2 := 1) (v := 0) (by decide) dX7_rebuildLines_0 rfl ?_
  refine x_istore_n (pc2 := 2) [1, 2, 0] (n := 2) (x := 0) (lv2 := [(0, .ref a0), (1, .ref a1), (2, .int 0)]) (by decide) rfl dX7_rebuildLines_1 rfl ?_
  exact ht
theorem e_X7_rebuildLines {G : GG} {d : Nat} {h : HP} {Q : Option Value → HP → Prop} {a0 : Nat} {a1 : Nat} (ht : T_X7_rebuildLines G d h Q a0 a1) : Cal G d mX7_rebuildLines [.ref a0, .ref a1] h Q := cal_of rfl (Nat.le_of_ble_eq_true rfl) (t_X7_rebuildLines ht)
def T_X7_rebuildLines_2 (G : GG) (d : Nat) (h : HP) (Q : Option Value → HP → Prop) (a0 : Nat) (a1 : Nat) (x2 : Int32) : Prop :=
  Kd G h a1 6 ∧ (((hI h a1 1) < x2 → Ex G d mX7_rebuildLines 77 [(0, .ref a0), (1, .ref a1), (2, .int 0)] [] h Q) ∧ (¬ (hI h a1 1) < x2 → Ex G d mX7_rebuildLines 12 [(0, .ref a0), (1, .ref a1), (2, .int x2), (3, .int 0)] [] h Q))
set_option maxRecDepth 20000 in
theorem t_X7_rebuildLines_2 {G : GG} {d : Nat} {h : HP} {Q : Option Value → HP → Prop} {a0 : Nat} {a1 : Nat} {x2 : Int32} (ht : T_X7_rebuildLines_2 G d h Q a0 a1 x2) : Ex G d mX7_rebuildLines 2 [(0, .ref a0), (1, .ref a1), (2, .int x2)] [] h Q := by
  unfold T_X7_rebuildLines_2 at ht
  refine x_iload_n (pc2 := 3) 2 (n := 2) (x := x2) rfl dX7_rebuildLines_2 rfl ?_
  refine x_aload_n (pc2 := 4) 1 (n := 1) (x := a1) rfl dX7_rebuildLines_3 rfl ?_
  obtain ⟨k1, ht⟩ := ht
  refine y_getI (pc2 := 7) (κ := 6) (k := 1) fl_X7_27 (by decide) (by decide) k1 rfl dX7_rebuildLines_4 rfl ?_
  refine x_icmp_gt (pc2 := 10) 75 dX7_rebuildLines_7 (by decide) rfl (fun c2 => ?_) (fun c2 => ?_)
  · replace ht := ht.1 c2
    refine x_iconst (pc2 := 76) (v := 0) (by decide) dX7_rebuildLines_75 rfl ?_
    refine x_istore_n (pc2 := 77) [1, 2, 0] (n := 2) (x := 0) (lv2 := [(0, .ref a0), (1, .ref a1), (2, .int 0)]) (by decide) rfl dX7_rebuildLines_76 rfl ?_
    exact ht
  · replace ht := ht.2 c2
    refine x_iconst (pc2 := 11) (v := 0) (by decide) dX7_rebuildLines_10 rfl ?_
    refine x_istore_n (pc2 := 12) [1, 2, 3, 0] (n := 3) (x := 0) (lv2 := [(0, .ref a0), (1, .ref a1), (2, .int x2), (3, .int 0)]) (by decide) rfl dX7_rebuildLines_11 rfl ?_
    exact ht
def T_X7_rebuildLines_12 (G : GG) (d : Nat) (h : HP) (Q : Option Value → HP → Prop) (a0 : Nat) (a1 : Nat) (x2 : Int32) (x3 : Int32) : Prop :=
  Kd G h a1 6 ∧ (((hI h a1 0) ≤ x3 → Ex G d mX7_rebuildLines 2 [(0, .ref a0), (1, .ref a1), (2, .int (x2 + 1))] [] h Q) ∧ (¬ (hI h a1 0) ≤ x3 → Kd G h a0 7 ∧ ∃ q4, hR h a0 3 = some q4 ∧ Kd G h q4 14 ∧ vp_in ((x2 * 41) + x3) (hN h q4) ∧ Cal G (d - 1) mX7_areRivers [.ref a1, .int x3, .int x2, .int x3, .int (x2 - 1)] h (fun r8 h9 => ∃ v11, r8 = some (.int v11) ∧ ((v11 = 0 → vp_in (((x2 * 41) + x3) + 1) (hN h9 q4) ∧ ∀ h14, h14 = (sI h9 q4 (((x2 * 41) + x3) + 1).toNatClampNeg ((hI h q4 ((x2 * 41) + x3).toNatClampNeg) + 0)) → Ex G d mX7_rebuildLines 12 [(0, .ref a0), (1, .ref a1), (2, .int x2), (3, .int (x3 + 1))] [] h14 Q) ∧ (¬ v11 = 0 → vp_in (((x2 * 41) + x3) + 1) (hN h9 q4) ∧ ∀ h18, h18 = (sI h9 q4 (((x2 * 41) + x3) + 1).toNatClampNeg ((hI h q4 ((x2 * 41) + x3).toNatClampNeg) + 1)) → Ex G d mX7_rebuildLines 12 [(0, .ref a0), (1, .ref a1), (2, .int x2), (3, .int (x3 + 1))] [] h18 Q)))))
set_option maxRecDepth 20000 in
theorem t_X7_rebuildLines_12 {G : GG} {d : Nat} {h : HP} {Q : Option Value → HP → Prop} {a0 : Nat} {a1 : Nat} {x2 : Int32} {x3 : Int32} (hd1 : 1 ≤ d) (ht : T_X7_rebuildLines_12 G d h Q a0 a1 x2 x3) : Ex G d mX7_rebuildLines 12 [(0, .ref a0), (1, .ref a1), (2, .int x2), (3, .int x3)] [] h Q := by
  unfold T_X7_rebuildLines_12 at ht
  refine x_iload_n (pc2 := 13) 3 (n := 3) (x := x3) rfl dX7_rebuildLines_12 rfl ?_
  refine x_aload_n (pc2 := 14) 1 (n := 1) (x := a1) rfl dX7_rebuildLines_13 rfl ?_
  obtain ⟨k1, ht⟩ := ht
  refine y_getI (pc2 := 17) (κ := 6) (k := 0) fl_X7_33 (by decide) (by decide) k1 rfl dX7_rebuildLines_14 rfl ?_
  refine x_icmp_ge (pc2 := 20) 69 dX7_rebuildLines_17 (by decide) rfl (fun c2 => ?_) (fun c2 => ?_)
  · replace ht := ht.1 c2
    refine x_iinc (pc2 := 72) 2 [1, 2, 0, 3] (i := 2) (x := x2) (v := (x2 + 1)) (lv2 := [(0, .ref a0), (1, .ref a1), (2, .int (x2 + 1)), (3, .int x3)]) rfl (iinc_eq (by decide) _) (by decide) rfl dX7_rebuildLines_69 rfl ?_
    refine x_goto 2 dX7_rebuildLines_72 (by decide) ?_
    refine x_sub [0, 1, 2] (lv2 := [(0, .ref a0), (1, .ref a1), (2, .int (x2 + 1))]) rfl ?_
    exact ht
  · replace ht := ht.2 c2
    refine x_iload_n (pc2 := 21) 2 (n := 2) (x := x2) rfl dX7_rebuildLines_20 rfl ?_
    refine x_bipush (pc2 := 23) (v := 41) (by decide) dX7_rebuildLines_21 rfl ?_
    refine x_imul (pc2 := 24) dX7_rebuildLines_23 rfl ?_
    refine x_iload_n (pc2 := 25) 3 (n := 3) (x := x3) rfl dX7_rebuildLines_24 rfl ?_
    refine x_iadd (pc2 := 26) dX7_rebuildLines_25 rfl ?_
    refine x_istore (pc2 := 28) [1, 2, 3, 4, 0] (n := 4) (x := ((x2 * 41) + x3)) (lv2 := [(0, .ref a0), (1, .ref a1), (2, .int x2), (3, .int x3), (4, .int ((x2 * 41) + x3))]) (by decide) rfl dX7_rebuildLines_26 rfl ?_
    refine x_aload_n (pc2 := 29) 0 (n := 0) (x := a0) rfl dX7_rebuildLines_28 rfl ?_
    obtain ⟨k3, ht⟩ := ht
    obtain ⟨q4, e5, ht⟩ := ht
    refine y_getR (pc2 := 32) (κ := 7) (k := 3) fl_X7_21 (by decide) (by decide) k3 rfl e5 dX7_rebuildLines_29 rfl ?_
    refine x_iload (pc2 := 34) 4 (n := 4) (x := ((x2 * 41) + x3)) rfl dX7_rebuildLines_32 rfl ?_
    refine x_iconst (pc2 := 35) (v := 1) (by decide) dX7_rebuildLines_34 rfl ?_
    refine x_iadd (pc2 := 36) dX7_rebuildLines_35 rfl ?_
    refine x_aload_n (pc2 := 37) 0 (n := 0) (x := a0) rfl dX7_rebuildLines_36 rfl ?_
    refine y_getR (pc2 := 40) (κ := 7) (k := 3) fl_X7_21 (by decide) (by decide) k3 rfl e5 dX7_rebuildLines_37 rfl ?_
    refine x_iload (pc2 := 42) 4 (n := 4) (x := ((x2 * 41) + x3)) rfl dX7_rebuildLines_40 rfl ?_
    obtain ⟨k6, ht⟩ := ht
    obtain ⟨b7, ht⟩ := ht
    refine x_iald (pc2 := 43) k6 b7 dX7_rebuildLines_42 rfl ?_
    refine x_aload_n (pc2 := 44) 1 (n := 1) (x := a1) rfl dX7_rebuildLines_43 rfl ?_
    refine x_iload_n (pc2 := 45) 3 (n := 3) (x := x3) rfl dX7_rebuildLines_44 rfl ?_
    refine x_iload_n (pc2 := 46) 2 (n := 2) (x := x2) rfl dX7_rebuildLines_45 rfl ?_
    refine x_iload_n (pc2 := 47) 3 (n := 3) (x := x3) rfl dX7_rebuildLines_46 rfl ?_
    refine x_iload_n (pc2 := 48) 2 (n := 2) (x := x2) rfl dX7_rebuildLines_47 rfl ?_
    refine x_iconst (pc2 := 49) (v := 1) (by decide) dX7_rebuildLines_48 rfl ?_
    refine x_isub (pc2 := 50) dX7_rebuildLines_49 rfl ?_
    refine x_callS (pc2 := 53) (As := [.ref a1, .int x3, .int x2, .int x3, .int (x2 - 1)]) (rest := [.int (hI h q4 ((x2 * 41) + x3).toNatClampNeg), .int (((x2 * 41) + x3) + 1), .ref q4]) ms_X7_areRivers ml_X7_47 rfl rfl (Nat.le_of_ble_eq_true rfl) hd1 dX7_rebuildLines_50 rfl (ht.mono (fun r8 h9 p10 ht' => ?_))
    clear ht
    obtain ⟨v11, rfl, ht⟩ := ht'
    show Ex G d mX7_rebuildLines 53 [(0, .ref a0), (1, .ref a1), (2, .int x2), (3, .int x3), (4, .int ((x2 * 41) + x3))] [.int v11, .int (hI h q4 ((x2 * 41) + x3).toNatClampNeg), .int (((x2 * 41) + x3) + 1), .ref q4] h9 Q
    refine x_if_eq (pc2 := 56) 60 dX7_rebuildLines_53 (by decide) rfl (fun c12 => ?_) (fun c12 => ?_)
    · replace ht := ht.1 c12
      refine x_iconst (pc2 := 61) (v := 0) (by decide) dX7_rebuildLines_60 rfl ?_
      refine x_iadd (pc2 := 62) dX7_rebuildLines_61 rfl ?_
      obtain ⟨b13, ht⟩ := ht
      refine x_iast (pc2 := 63) (k6.up p10) b13 dX7_rebuildLines_62 rfl ?_
      refine nm_I (fun h14 e15 p16 => ?_)
      replace ht := ht h14 e15
      refine x_iinc (pc2 := 66) 3 [1, 2, 3, 0, 4] (i := 3) (x := x3) (v := (x3 + 1)) (lv2 := [(0, .ref a0), (1, .ref a1), (2, .int x2), (3, .int (x3 + 1)), (4, .int ((x2 * 41) + x3))]) rfl (iinc_eq (by decide) _) (by decide) rfl dX7_rebuildLines_63 rfl ?_
      refine x_goto 12 dX7_rebuildLines_66 (by decide) ?_
      refine x_sub [0, 1, 2, 3] (lv2 := [(0, .ref a0), (1, .ref a1), (2, .int x2), (3, .int (x3 + 1))]) rfl ?_
      exact ht
    · replace ht := ht.2 c12
      refine x_iconst (pc2 := 57) (v := 1) (by decide) dX7_rebuildLines_56 rfl ?_
      refine x_goto 61 dX7_rebuildLines_57 (by decide) ?_
      refine x_iadd (pc2 := 62) dX7_rebuildLines_61 rfl ?_
      obtain ⟨b17, ht⟩ := ht
      refine x_iast (pc2 := 63) (k6.up p10) b17 dX7_rebuildLines_62 rfl ?_
      refine nm_I (fun h18 e19 p20 => ?_)
      replace ht := ht h18 e19
      refine x_iinc (pc2 := 66) 3 [1, 2, 3, 0, 4] (i := 3) (x := x3) (v := (x3 + 1)) (lv2 := [(0, .ref a0), (1, .ref a1), (2, .int x2), (3, .int (x3 + 1)), (4, .int ((x2 * 41) + x3))]) rfl (iinc_eq (by decide) _) (by decide) rfl dX7_rebuildLines_63 rfl ?_
      refine x_goto 12 dX7_rebuildLines_66 (by decide) ?_
      refine x_sub [0, 1, 2, 3] (lv2 := [(0, .ref a0), (1, .ref a1), (2, .int x2), (3, .int (x3 + 1))]) rfl ?_
      exact ht
def T_X7_rebuildLines_77 (G : GG) (d : Nat) (h : HP) (Q : Option Value → HP → Prop) (a0 : Nat) (a1 : Nat) (x2 : Int32) : Prop :=
  Kd G h a1 6 ∧ (((hI h a1 0) < x2 → Q none h) ∧ (¬ (hI h a1 0) < x2 → Ex G d mX7_rebuildLines 87 [(0, .ref a0), (1, .ref a1), (2, .int x2), (3, .int 0)] [] h Q))
set_option maxRecDepth 20000 in
theorem t_X7_rebuildLines_77 {G : GG} {d : Nat} {h : HP} {Q : Option Value → HP → Prop} {a0 : Nat} {a1 : Nat} {x2 : Int32} (ht : T_X7_rebuildLines_77 G d h Q a0 a1 x2) : Ex G d mX7_rebuildLines 77 [(0, .ref a0), (1, .ref a1), (2, .int x2)] [] h Q := by
  unfold T_X7_rebuildLines_77 at ht
  refine x_iload_n (pc2 := 78) 2 (n := 2) (x := x2) rfl dX7_rebuildLines_77 rfl ?_
  refine x_aload_n (pc2 := 79) 1 (n := 1) (x := a1) rfl dX7_rebuildLines_78 rfl ?_
  obtain ⟨k1, ht⟩ := ht
  refine y_getI (pc2 := 82) (κ := 6) (k := 0) fl_X7_33 (by decide) (by decide) k1 rfl dX7_rebuildLines_79 rfl ?_
  refine x_icmp_gt (pc2 := 85) 150 dX7_rebuildLines_82 (by decide) rfl (fun c2 => ?_) (fun c2 => ?_)
  · replace ht := ht.1 c2
    exact x_retV rfl dX7_rebuildLines_150 ht
  · replace ht := ht.2 c2
    refine x_iconst (pc2 := 86) (v := 0) (by decide) dX7_rebuildLines_85 rfl ?_
    refine x_istore_n (pc2 := 87) [1, 2, 3, 0] (n := 3) (x := 0) (lv2 := [(0, .ref a0), (1, .ref a1), (2, .int x2), (3, .int 0)]) (by decide) rfl dX7_rebuildLines_86 rfl ?_
    exact ht
def T_X7_rebuildLines_87 (G : GG) (d : Nat) (h : HP) (Q : Option Value → HP → Prop) (a0 : Nat) (a1 : Nat) (x2 : Int32) (x3 : Int32) : Prop :=
  Kd G h a1 6 ∧ (((hI h a1 1) ≤ x3 → Ex G d mX7_rebuildLines 77 [(0, .ref a0), (1, .ref a1), (2, .int (x2 + 1))] [] h Q) ∧ (¬ (hI h a1 1) ≤ x3 → Kd G h a0 7 ∧ ∃ q4, hR h a0 4 = some q4 ∧ Kd G h q4 14 ∧ vp_in ((x2 * 41) + x3) (hN h q4) ∧ Cal G (d - 1) mX7_areRivers [.ref a1, .int x2, .int x3, .int (x2 - 1), .int x3] h (fun r8 h9 => ∃ v11, r8 = some (.int v11) ∧ ((v11 = 0 → vp_in (((x2 * 41) + x3) + 1) (hN h9 q4) ∧ ∀ h14, h14 = (sI h9 q4 (((x2 * 41) + x3) + 1).toNatClampNeg ((hI h q4 ((x2 * 41) + x3).toNatClampNeg) + 0)) → Ex G d mX7_rebuildLines 87 [(0, .ref a0), (1, .ref a1), (2, .int x2), (3, .int (x3 + 1))] [] h14 Q) ∧ (¬ v11 = 0 → vp_in (((x2 * 41) + x3) + 1) (hN h9 q4) ∧ ∀ h18, h18 = (sI h9 q4 (((x2 * 41) + x3) + 1).toNatClampNeg ((hI h q4 ((x2 * 41) + x3).toNatClampNeg) + 1)) → Ex G d mX7_rebuildLines 87 [(0, .ref a0), (1, .ref a1), (2, .int x2), (3, .int (x3 + 1))] [] h18 Q)))))
set_option maxRecDepth 20000 in
theorem t_X7_rebuildLines_87 {G : GG} {d : Nat} {h : HP} {Q : Option Value → HP → Prop} {a0 : Nat} {a1 : Nat} {x2 : Int32} {x3 : Int32} (hd1 : 1 ≤ d) (ht : T_X7_rebuildLines_87 G d h Q a0 a1 x2 x3) : Ex G d mX7_rebuildLines 87 [(0, .ref a0), (1, .ref a1), (2, .int x2), (3, .int x3)] [] h Q := by
  unfold T_X7_rebuildLines_87 at ht
  refine x_iload_n (pc2 := 88) 3 (n := 3) (x := x3) rfl dX7_rebuildLines_87 rfl ?_
  refine x_aload_n (pc2 := 89) 1 (n := 1) (x := a1) rfl dX7_rebuildLines_88 rfl ?_
  obtain ⟨k1, ht⟩ := ht
  refine y_getI (pc2 := 92) (κ := 6) (k := 1) fl_X7_27 (by decide) (by decide) k1 rfl dX7_rebuildLines_89 rfl ?_
  refine x_icmp_ge (pc2 := 95) 144 dX7_rebuildLines_92 (by decide) rfl (fun c2 => ?_) (fun c2 => ?_)
  · replace ht := ht.1 c2
    refine x_iinc (pc2 := 147) 2 [1, 2, 0, 3] (i := 2) (x := x2) (v := (x2 + 1)) (lv2 := [(0, .ref a0), (1, .ref a1), (2, .int (x2 + 1)), (3, .int x3)]) rfl (iinc_eq (by decide) _) (by decide) rfl dX7_rebuildLines_144 rfl ?_
    refine x_goto 77 dX7_rebuildLines_147 (by decide) ?_
    refine x_sub [0, 1, 2] (lv2 := [(0, .ref a0), (1, .ref a1), (2, .int (x2 + 1))]) rfl ?_
    exact ht
  · replace ht := ht.2 c2
    refine x_iload_n (pc2 := 96) 2 (n := 2) (x := x2) rfl dX7_rebuildLines_95 rfl ?_
    refine x_bipush (pc2 := 98) (v := 41) (by decide) dX7_rebuildLines_96 rfl ?_
    refine x_imul (pc2 := 99) dX7_rebuildLines_98 rfl ?_
    refine x_iload_n (pc2 := 100) 3 (n := 3) (x := x3) rfl dX7_rebuildLines_99 rfl ?_
    refine x_iadd (pc2 := 101) dX7_rebuildLines_100 rfl ?_
    refine x_istore (pc2 := 103) [1, 2, 3, 4, 0] (n := 4) (x := ((x2 * 41) + x3)) (lv2 := [(0, .ref a0), (1, .ref a1), (2, .int x2), (3, .int x3), (4, .int ((x2 * 41) + x3))]) (by decide) rfl dX7_rebuildLines_101 rfl ?_
    refine x_aload_n (pc2 := 104) 0 (n := 0) (x := a0) rfl dX7_rebuildLines_103 rfl ?_
    obtain ⟨k3, ht⟩ := ht
    obtain ⟨q4, e5, ht⟩ := ht
    refine y_getR (pc2 := 107) (κ := 7) (k := 4) fl_X7_24 (by decide) (by decide) k3 rfl e5 dX7_rebuildLines_104 rfl ?_
    refine x_iload (pc2 := 109) 4 (n := 4) (x := ((x2 * 41) + x3)) rfl dX7_rebuildLines_107 rfl ?_
    refine x_iconst (pc2 := 110) (v := 1) (by decide) dX7_rebuildLines_109 rfl ?_
    refine x_iadd (pc2 := 111) dX7_rebuildLines_110 rfl ?_
    refine x_aload_n (pc2 := 112) 0 (n := 0) (x := a0) rfl dX7_rebuildLines_111 rfl ?_
    refine y_getR (pc2 := 115) (κ := 7) (k := 4) fl_X7_24 (by decide) (by decide) k3 rfl e5 dX7_rebuildLines_112 rfl ?_
    refine x_iload (pc2 := 117) 4 (n := 4) (x := ((x2 * 41) + x3)) rfl dX7_rebuildLines_115 rfl ?_
    obtain ⟨k6, ht⟩ := ht
    obtain ⟨b7, ht⟩ := ht
    refine x_iald (pc2 := 118) k6 b7 dX7_rebuildLines_117 rfl ?_
    refine x_aload_n (pc2 := 119) 1 (n := 1) (x := a1) rfl dX7_rebuildLines_118 rfl ?_
    refine x_iload_n (pc2 := 120) 2 (n := 2) (x := x2) rfl dX7_rebuildLines_119 rfl ?_
    refine x_iload_n (pc2 := 121) 3 (n := 3) (x := x3) rfl dX7_rebuildLines_120 rfl ?_
    refine x_iload_n (pc2 := 122) 2 (n := 2) (x := x2) rfl dX7_rebuildLines_121 rfl ?_
    refine x_iconst (pc2 := 123) (v := 1) (by decide) dX7_rebuildLines_122 rfl ?_
    refine x_isub (pc2 := 124) dX7_rebuildLines_123 rfl ?_
    refine x_iload_n (pc2 := 125) 3 (n := 3) (x := x3) rfl dX7_rebuildLines_124 rfl ?_
    refine x_callS (pc2 := 128) (As := [.ref a1, .int x2, .int x3, .int (x2 - 1), .int x3]) (rest := [.int (hI h q4 ((x2 * 41) + x3).toNatClampNeg), .int (((x2 * 41) + x3) + 1), .ref q4]) ms_X7_areRivers ml_X7_47 rfl rfl (Nat.le_of_ble_eq_true rfl) hd1 dX7_rebuildLines_125 rfl (ht.mono (fun r8 h9 p10 ht' => ?_))
    clear ht
    obtain ⟨v11, rfl, ht⟩ := ht'
    show Ex G d mX7_rebuildLines 128 [(0, .ref a0), (1, .ref a1), (2, .int x2), (3, .int x3), (4, .int ((x2 * 41) + x3))] [.int v11, .int (hI h q4 ((x2 * 41) + x3).toNatClampNeg), .int (((x2 * 41) + x3) + 1), .ref q4] h9 Q
    refine x_if_eq (pc2 := 131) 135 dX7_rebuildLines_128 (by decide) rfl (fun c12 => ?_) (fun c12 => ?_)
    · replace ht := ht.1 c12
      refine x_iconst (pc2 := 136) (v := 0) (by decide) dX7_rebuildLines_135 rfl ?_
      refine x_iadd (pc2 := 137) dX7_rebuildLines_136 rfl ?_
      obtain ⟨b13, ht⟩ := ht
      refine x_iast (pc2 := 138) (k6.up p10) b13 dX7_rebuildLines_137 rfl ?_
      refine nm_I (fun h14 e15 p16 => ?_)
      replace ht := ht h14 e15
      refine x_iinc (pc2 := 141) 3 [1, 2, 3, 0, 4] (i := 3) (x := x3) (v := (x3 + 1)) (lv2 := [(0, .ref a0), (1, .ref a1), (2, .int x2), (3, .int (x3 + 1)), (4, .int ((x2 * 41) + x3))]) rfl (iinc_eq (by decide) _) (by decide) rfl dX7_rebuildLines_138 rfl ?_
      refine x_goto 87 dX7_rebuildLines_141 (by decide) ?_
      refine x_sub [0, 1, 2, 3] (lv2 := [(0, .ref a0), (1, .ref a1), (2, .int x2), (3, .int (x3 + 1))]) rfl ?_
      exact ht
    · replace ht := ht.2 c12
      refine x_iconst (pc2 := 132) (v := 1) (by decide) dX7_rebuildLines_131 rfl ?_
      refine x_goto 136 dX7_rebuildLines_132 (by decide) ?_
      refine x_iadd (pc2 := 137) dX7_rebuildLines_136 rfl ?_
      obtain ⟨b17, ht⟩ := ht
      refine x_iast (pc2 := 138) (k6.up p10) b17 dX7_rebuildLines_137 rfl ?_
      refine nm_I (fun h18 e19 p20 => ?_)
      replace ht := ht h18 e19
      refine x_iinc (pc2 := 141) 3 [1, 2, 3, 0, 4] (i := 3) (x := x3) (v := (x3 + 1)) (lv2 := [(0, .ref a0), (1, .ref a1), (2, .int x2), (3, .int (x3 + 1)), (4, .int ((x2 * 41) + x3))]) rfl (iinc_eq (by decide) _) (by decide) rfl dX7_rebuildLines_138 rfl ?_
      refine x_goto 87 dX7_rebuildLines_141 (by decide) ?_
      refine x_sub [0, 1, 2, 3] (lv2 := [(0, .ref a0), (1, .ref a1), (2, .int x2), (3, .int (x3 + 1))]) rfl ?_
      exact ht
def T_X7_areRivers (G : GG) (d : Nat) (h : HP) (Q : Option Value → HP → Prop) (a0 : Nat) (x1 : Int32) (x2 : Int32) (x3 : Int32) (x4 : Int32) : Prop :=
  Kd G h a0 6 ∧ Cal G (d - 1) mX6_hasCell [.ref a0, .int x1, .int x2] h (fun r1 h2 => ∃ v5, r1 = some (.int v5) ∧ ((v5 = 0 → Q (some (.int 0)) h2) ∧ (¬ v5 = 0 → Cal G (d - 1) mX6_hasCell [.ref a0, .int x3, .int x4] h2 (fun r7 h8 => ∃ v10, r7 = some (.int v10) ∧ ((v10 = 0 → Q (some (.int 0)) h8) ∧ (¬ v10 = 0 → ∃ q12, hR h8 a0 5 = some q12 ∧ Kd G h8 q12 14 ∧ vp_in ((x2 * 40) + x1) (hN h8 q12) ∧ vp_in ((x4 * 40) + x3) (hN h8 q12) ∧ (((((hI h8 q12 ((x2 * 40) + x1).toNatClampNeg) &&& (hI h8 q12 ((x4 * 40) + x3).toNatClampNeg)) &&& 128) = 0 → Q (some (.int 0)) h8) ∧ (¬ (((hI h8 q12 ((x2 * 40) + x1).toNatClampNeg) &&& (hI h8 q12 ((x4 * 40) + x3).toNatClampNeg)) &&& 128) = 0 → Q (some (.int 1)) h8))))))))
set_option maxRecDepth 20000 in
theorem t_X7_areRivers {G : GG} {d : Nat} {h : HP} {Q : Option Value → HP → Prop} {a0 : Nat} {x1 : Int32} {x2 : Int32} {x3 : Int32} {x4 : Int32} (hd1 : 1 ≤ d) (ht : T_X7_areRivers G d h Q a0 x1 x2 x3 x4) : Ex G d mX7_areRivers 0 [(0, .ref a0), (1, .int x1), (2, .int x2), (3, .int x3), (4, .int x4)] [] h Q := by
  unfold T_X7_areRivers at ht
  refine x_aload_n (pc2 := 1) 0 (n := 0) (x := a0) rfl dX7_areRivers_0 rfl ?_
  refine x_iload_n (pc2 := 2) 1 (n := 1) (x := x1) rfl dX7_areRivers_1 rfl ?_
  refine x_iload_n (pc2 := 3) 2 (n := 2) (x := x2) rfl dX7_areRivers_2 rfl ?_
  obtain ⟨k4, ht⟩ := ht
  refine x_callV (pc2 := 6) (As := [.int x1, .int x2]) (rest := []) (b := a0) mv_X6_hasCell ml_X7_51 k4 rfl rfl (Nat.le_of_ble_eq_true rfl) hd1 dX7_areRivers_3 rfl (ht.mono (fun r1 h2 p3 ht' => ?_))
  clear ht
  obtain ⟨v5, rfl, ht⟩ := ht'
  show Ex G d mX7_areRivers 6 [(0, .ref a0), (1, .int x1), (2, .int x2), (3, .int x3), (4, .int x4)] [.int v5] h2 Q
  refine x_if_eq (pc2 := 9) 54 dX7_areRivers_6 (by decide) rfl (fun c6 => ?_) (fun c6 => ?_)
  · replace ht := ht.1 c6
    refine x_iconst (pc2 := 55) (v := 0) (by decide) dX7_areRivers_54 rfl ?_
    exact x_retZ rfl (Or.inl rfl) dX7_areRivers_55 ht
  · replace ht := ht.2 c6
    refine x_aload_n (pc2 := 10) 0 (n := 0) (x := a0) rfl dX7_areRivers_9 rfl ?_
    refine x_iload_n (pc2 := 11) 3 (n := 3) (x := x3) rfl dX7_areRivers_10 rfl ?_
    refine x_iload (pc2 := 13) 4 (n := 4) (x := x4) rfl dX7_areRivers_11 rfl ?_
    refine x_callV (pc2 := 16) (As := [.int x3, .int x4]) (rest := []) (b := a0) mv_X6_hasCell ml_X7_51 (k4.up p3) rfl rfl (Nat.le_of_ble_eq_true rfl) hd1 dX7_areRivers_13 rfl (ht.mono (fun r7 h8 p9 ht' => ?_))
    clear ht
    obtain ⟨v10, rfl, ht⟩ := ht'
    show Ex G d mX7_areRivers 16 [(0, .ref a0), (1, .int x1), (2, .int x2), (3, .int x3), (4, .int x4)] [.int v10] h8 Q
    refine x_if_eq (pc2 := 19) 54 dX7_areRivers_16 (by decide) rfl (fun c11 => ?_) (fun c11 => ?_)
    · replace ht := ht.1 c11
      refine x_iconst (pc2 := 55) (v := 0) (by decide) dX7_areRivers_54 rfl ?_
      exact x_retZ rfl (Or.inl rfl) dX7_areRivers_55 ht
    · replace ht := ht.2 c11
      refine x_aload_n (pc2 := 20) 0 (n := 0) (x := a0) rfl dX7_areRivers_19 rfl ?_
      obtain ⟨q12, e13, ht⟩ := ht
      refine y_getR (pc2 := 23) (κ := 6) (k := 5) fl_X7_36 (by decide) (by decide) ((k4.up p3).up p9) rfl e13 dX7_areRivers_20 rfl ?_
      refine x_iload_n (pc2 := 24) 2 (n := 2) (x := x2) rfl dX7_areRivers_23 rfl ?_
      refine x_bipush (pc2 := 26) (v := 40) (by decide) dX7_areRivers_24 rfl ?_
      refine x_imul (pc2 := 27) dX7_areRivers_26 rfl ?_
      refine x_iload_n (pc2 := 28) 1 (n := 1) (x := x1) rfl dX7_areRivers_27 rfl ?_
      refine x_iadd (pc2 := 29) dX7_areRivers_28 rfl ?_
      obtain ⟨k14, ht⟩ := ht
      obtain ⟨b15, ht⟩ := ht
      refine x_iald (pc2 := 30) k14 b15 dX7_areRivers_29 rfl ?_
      refine x_aload_n (pc2 := 31) 0 (n := 0) (x := a0) rfl dX7_areRivers_30 rfl ?_
      refine y_getR (pc2 := 34) (κ := 6) (k := 5) fl_X7_36 (by decide) (by decide) ((k4.up p3).up p9) rfl e13 dX7_areRivers_31 rfl ?_
      refine x_iload (pc2 := 36) 4 (n := 4) (x := x4) rfl dX7_areRivers_34 rfl ?_
      refine x_bipush (pc2 := 38) (v := 40) (by decide) dX7_areRivers_36 rfl ?_
      refine x_imul (pc2 := 39) dX7_areRivers_38 rfl ?_
      refine x_iload_n (pc2 := 40) 3 (n := 3) (x := x3) rfl dX7_areRivers_39 rfl ?_
      refine x_iadd (pc2 := 41) dX7_areRivers_40 rfl ?_
      obtain ⟨b16, ht⟩ := ht
      refine x_iald (pc2 := 42) k14 b16 dX7_areRivers_41 rfl ?_
      refine x_iand (pc2 := 43) dX7_areRivers_42 rfl ?_
      refine x_sipush (pc2 := 46) (v := 128) (by decide) dX7_areRivers_43 rfl ?_
      refine x_iand (pc2 := 47) dX7_areRivers_46 rfl ?_
      refine x_if_eq (pc2 := 50) 54 dX7_areRivers_47 (by decide) rfl (fun c17 => ?_) (fun c17 => ?_)
      · replace ht := ht.1 c17
        refine x_iconst (pc2 := 55) (v := 0) (by decide) dX7_areRivers_54 rfl ?_
        exact x_retZ rfl (Or.inl rfl) dX7_areRivers_55 ht
      · replace ht := ht.2 c17
        refine x_iconst (pc2 := 51) (v := 1) (by decide) dX7_areRivers_50 rfl ?_
        refine x_goto 55 dX7_areRivers_51 (by decide) ?_
        exact x_retZ rfl (Or.inr rfl) dX7_areRivers_55 ht
theorem e_X7_areRivers {G : GG} {d : Nat} {h : HP} {Q : Option Value → HP → Prop} {a0 : Nat} {x1 : Int32} {x2 : Int32} {x3 : Int32} {x4 : Int32} (hd1 : 1 ≤ d) (ht : T_X7_areRivers G d h Q a0 x1 x2 x3 x4) : Cal G d mX7_areRivers [.ref a0, .int x1, .int x2, .int x3, .int x4] h Q := cal_of rfl (Nat.le_of_ble_eq_true rfl) (t_X7_areRivers hd1 ht)
def T_X7_inRectangle (G : GG) (d : Nat) (h : HP) (Q : Option Value → HP → Prop) (a0 : Nat) (a1 : Nat) (x2 : Int32) (x3 : Int32) (x4 : Int32) (x5 : Int32) : Prop :=
  Kd G h a1 14 ∧ vp_in ((x5 * 41) + x4) (hN h a1) ∧ vp_in ((x5 * 41) + x2) (hN h a1) ∧ vp_in ((x3 * 41) + x4) (hN h a1) ∧ vp_in ((x3 * 41) + x2) (hN h a1) ∧ Q (some (.int ((((hI h a1 ((x5 * 41) + x4).toNatClampNeg) - (hI h a1 ((x5 * 41) + x2).toNatClampNeg)) - (hI h a1 ((x3 * 41) + x4).toNatClampNeg)) + (hI h a1 ((x3 * 41) + x2).toNatClampNeg)))) h
set_option maxRecDepth 20000 in
theorem t_X7_inRectangle {G : GG} {d : Nat} {h : HP} {Q : Option Value → HP → Prop} {a0 : Nat} {a1 : Nat} {x2 : Int32} {x3 : Int32} {x4 : Int32} {x5 : Int32} (ht : T_X7_inRectangle G d h Q a0 a1 x2 x3 x4 x5) : Ex G d mX7_inRectangle 0 [(0, .ref a0), (1, .ref a1), (2, .int x2), (3, .int x3), (4, .int x4), (5, .int x5)] [] h Q := by
  unfold T_X7_inRectangle at ht
  refine x_aload_n (pc2 := 1) 1 (n := 1) (x := a1) rfl dX7_inRectangle_0 rfl ?_
  refine x_iload (pc2 := 3) 5 (n := 5) (x := x5) rfl dX7_inRectangle_1 rfl ?_
  refine x_bipush (pc2 := 5) (v := 41) (by decide) dX7_inRectangle_3 rfl ?_
  refine x_imul (pc2 := 6) dX7_inRectangle_5 rfl ?_
  refine x_iload (pc2 := 8) 4 (n := 4) (x := x4) rfl dX7_inRectangle_6 rfl ?_
  refine x_iadd (pc2 := 9) dX7_inRectangle_8 rfl ?_
  obtain ⟨k1, ht⟩ := ht
  obtain ⟨b2, ht⟩ := ht
  refine x_iald (pc2 := 10) k1 b2 dX7_inRectangle_9 rfl ?_
  refine x_aload_n (pc2 := 11) 1 (n := 1) (x := a1) rfl dX7_inRectangle_10 rfl ?_
  refine x_iload (pc2 := 13) 5 (n := 5) (x := x5) rfl dX7_inRectangle_11 rfl ?_
  refine x_bipush (pc2 := 15) (v := 41) (by decide) dX7_inRectangle_13 rfl ?_
  refine x_imul (pc2 := 16) dX7_inRectangle_15 rfl ?_
  refine x_iload_n (pc2 := 17) 2 (n := 2) (x := x2) rfl dX7_inRectangle_16 rfl ?_
  refine x_iadd (pc2 := 18) dX7_inRectangle_17 rfl ?_
  obtain ⟨b3, ht⟩ := ht
  refine x_iald (pc2 := 19) k1 b3 dX7_inRectangle_18 rfl ?_
  refine x_isub (pc2 := 20) dX7_inRectangle_19 rfl ?_
  refine x_aload_n (pc2 := 21) 1 (n := 1) (x := a1) rfl dX7_inRectangle_20 rfl ?_
  refine x_iload_n (pc2 := 22) 3 (n := 3) (x := x3) rfl dX7_inRectangle_21 rfl ?_
  refine x_bipush (pc2 := 24) (v := 41) (by decide) dX7_inRectangle_22 rfl ?_
  refine x_imul (pc2 := 25) dX7_inRectangle_24 rfl ?_
  refine x_iload (pc2 := 27) 4 (n := 4) (x := x4) rfl dX7_inRectangle_25 rfl ?_
  refine x_iadd (pc2 := 28) dX7_inRectangle_27 rfl ?_
  obtain ⟨b4, ht⟩ := ht
  refine x_iald (pc2 := 29) k1 b4 dX7_inRectangle_28 rfl ?_
  refine x_isub (pc2 := 30) dX7_inRectangle_29 rfl ?_
  refine x_aload_n (pc2 := 31) 1 (n := 1) (x := a1) rfl dX7_inRectangle_30 rfl ?_
  refine x_iload_n (pc2 := 32) 3 (n := 3) (x := x3) rfl dX7_inRectangle_31 rfl ?_
  refine x_bipush (pc2 := 34) (v := 41) (by decide) dX7_inRectangle_32 rfl ?_
  refine x_imul (pc2 := 35) dX7_inRectangle_34 rfl ?_
  refine x_iload_n (pc2 := 36) 2 (n := 2) (x := x2) rfl dX7_inRectangle_35 rfl ?_
  refine x_iadd (pc2 := 37) dX7_inRectangle_36 rfl ?_
  obtain ⟨b5, ht⟩ := ht
  refine x_iald (pc2 := 38) k1 b5 dX7_inRectangle_37 rfl ?_
  refine x_iadd (pc2 := 39) dX7_inRectangle_38 rfl ?_
  exact x_ret (ty := .int) rfl rfl dX7_inRectangle_39 ht
theorem e_X7_inRectangle {G : GG} {d : Nat} {h : HP} {Q : Option Value → HP → Prop} {a0 : Nat} {a1 : Nat} {x2 : Int32} {x3 : Int32} {x4 : Int32} {x5 : Int32} (ht : T_X7_inRectangle G d h Q a0 a1 x2 x3 x4 x5) : Cal G d mX7_inRectangle [.ref a0, .ref a1, .int x2, .int x3, .int x4, .int x5] h Q := cal_of rfl (Nat.le_of_ble_eq_true rfl) (t_X7_inRectangle ht)
def T_X7_inThing (G : GG) (d : Nat) (h : HP) (Q : Option Value → HP → Prop) (a0 : Nat) (a1 : Nat) (a2 : Nat) : Prop :=
  Kd G h a2 9 ∧ Kd G h a0 7 ∧ Cal G (d - 1) mX7_inRectangle [.ref a0, .ref a1, .int (hI h a2 1), .int (hI h a2 2), .int (hI h a2 3), .int (hI h a2 4)] h (fun r2 h3 => ∃ v6, r2 = some (.int v6) ∧ Q (some (.int v6)) h3)
set_option maxRecDepth 20000 in
theorem t_X7_inThing {G : GG} {d : Nat} {h : HP} {Q : Option Value → HP → Prop} {a0 : Nat} {a1 : Nat} {a2 : Nat} (hd1 : 1 ≤ d) (ht : T_X7_inThing G d h Q a0 a1 a2) : Ex G d mX7_inThing 0 [(0, .ref a0), (1, .ref a1), (2, .ref a2)] [] h Q := by
  unfold T_X7_inThing at ht
  refine x_aload_n (pc2 := 1) 0 (n := 0) (x := a0) rfl dX7_inThing_0 rfl ?_
  refine x_aload_n (pc2 := 2) 1 (n := 1) (x := a1) rfl dX7_inThing_1 rfl ?_
  refine x_aload_n (pc2 := 3) 2 (n := 2) (x := a2) rfl dX7_inThing_2 rfl ?_
  obtain ⟨k1, ht⟩ := ht
  refine y_getI (pc2 := 6) (κ := 9) (k := 1) fl_X7_55 (by decide) (by decide) k1 rfl dX7_inThing_3 rfl ?_
  refine x_aload_n (pc2 := 7) 2 (n := 2) (x := a2) rfl dX7_inThing_6 rfl ?_
  refine y_getI (pc2 := 10) (κ := 9) (k := 2) fl_X7_60 (by decide) (by decide) k1 rfl dX7_inThing_7 rfl ?_
  refine x_aload_n (pc2 := 11) 2 (n := 2) (x := a2) rfl dX7_inThing_10 rfl ?_
  refine y_getI (pc2 := 14) (κ := 9) (k := 3) fl_X7_63 (by decide) (by decide) k1 rfl dX7_inThing_11 rfl ?_
  refine x_aload_n (pc2 := 15) 2 (n := 2) (x := a2) rfl dX7_inThing_14 rfl ?_
  refine y_getI (pc2 := 18) (κ := 9) (k := 4) fl_X7_66 (by decide) (by decide) k1 rfl dX7_inThing_15 rfl ?_
  obtain ⟨k5, ht⟩ := ht
  refine x_callV (pc2 := 21) (As := [.ref a1, .int (hI h a2 1), .int (hI h a2 2), .int (hI h a2 3), .int (hI h a2 4)]) (rest := []) (b := a0) mv_X7_inRectangle ml_X7_69 k5 rfl rfl (Nat.le_of_ble_eq_true rfl) hd1 dX7_inThing_18 rfl (ht.mono (fun r2 h3 p4 ht' => ?_))
  clear ht
  obtain ⟨v6, rfl, ht⟩ := ht'
  show Ex G d mX7_inThing 21 [(0, .ref a0), (1, .ref a1), (2, .ref a2)] [.int v6] h3 Q
  exact x_ret (ty := .int) rfl rfl dX7_inThing_21 ht
theorem e_X7_inThing {G : GG} {d : Nat} {h : HP} {Q : Option Value → HP → Prop} {a0 : Nat} {a1 : Nat} {a2 : Nat} (hd1 : 1 ≤ d) (ht : T_X7_inThing G d h Q a0 a1 a2) : Cal G d mX7_inThing [.ref a0, .ref a1, .ref a2] h Q := cal_of rfl (Nat.le_of_ble_eq_true rfl) (t_X7_inThing hd1 ht)
def T_X7_onGround (G : GG) (d : Nat) (h : HP) (Q : Option Value → HP → Prop) (a0 : Nat) (a1 : Nat) (a2 : Nat) (a3 : Nat) (o4 : Option Nat) : Prop :=
  Kd G h a2 3 ∧ Kd G h a0 7 ∧ Cal G (d - 1) mX7_inRectangle [.ref a0, .ref a1, .int (hI h a2 1), .int (hI h a2 2), .int (hI h a2 3), .int (hI h a2 4)] h (fun r2 h3 => ∃ v6, r2 = some (.int v6) ∧ Cal G (d - 1) mX7_inThing [.ref a0, .ref a1, .ref a3] h3 (fun r7 h8 => ∃ v10, r7 = some (.int v10) ∧ ((o4 = none → Q (some (.int (v6 - v10))) h8) ∧ (∀ q12, o4 = some q12 → Cal G (d - 1) mX7_inThing [.ref a0, .ref a1, .ref q12] h8 (fun r13 h14 => ∃ v16, r13 = some (.int v16) ∧ Q (some (.int ((v6 - v10) - v16))) h14)))))
set_option maxRecDepth 20000 in
theorem t_X7_onGround {G : GG} {d : Nat} {h : HP} {Q : Option Value → HP → Prop} {a0 : Nat} {a1 : Nat} {a2 : Nat} {a3 : Nat} {o4 : Option Nat} (hd1 : 1 ≤ d) (ht : T_X7_onGround G d h Q a0 a1 a2 a3 o4) : Ex G d mX7_onGround 0 [(0, .ref a0), (1, .ref a1), (2, .ref a2), (3, .ref a3), (4, va_rf o4)] [] h Q := by
  unfold T_X7_onGround at ht
  refine x_aload_n (pc2 := 1) 0 (n := 0) (x := a0) rfl dX7_onGround_0 rfl ?_
  refine x_aload_n (pc2 := 2) 1 (n := 1) (x := a1) rfl dX7_onGround_1 rfl ?_
  refine x_aload_n (pc2 := 3) 2 (n := 2) (x := a2) rfl dX7_onGround_2 rfl ?_
  obtain ⟨k1, ht⟩ := ht
  refine y_getI (pc2 := 6) (κ := 3) (k := 1) fl_X7_73 (by decide) (by decide) k1 rfl dX7_onGround_3 rfl ?_
  refine x_aload_n (pc2 := 7) 2 (n := 2) (x := a2) rfl dX7_onGround_6 rfl ?_
  refine y_getI (pc2 := 10) (κ := 3) (k := 2) fl_X7_76 (by decide) (by decide) k1 rfl dX7_onGround_7 rfl ?_
  refine x_aload_n (pc2 := 11) 2 (n := 2) (x := a2) rfl dX7_onGround_10 rfl ?_
  refine y_getI (pc2 := 14) (κ := 3) (k := 3) fl_X7_77 (by decide) (by decide) k1 rfl dX7_onGround_11 rfl ?_
  refine x_aload_n (pc2 := 15) 2 (n := 2) (x := a2) rfl dX7_onGround_14 rfl ?_
  refine y_getI (pc2 := 18) (κ := 3) (k := 4) fl_X7_78 (by decide) (by decide) k1 rfl dX7_onGround_15 rfl ?_
  obtain ⟨k5, ht⟩ := ht
  refine x_callV (pc2 := 21) (As := [.ref a1, .int (hI h a2 1), .int (hI h a2 2), .int (hI h a2 3), .int (hI h a2 4)]) (rest := []) (b := a0) mv_X7_inRectangle ml_X7_69 k5 rfl rfl (Nat.le_of_ble_eq_true rfl) hd1 dX7_onGround_18 rfl (ht.mono (fun r2 h3 p4 ht' => ?_))
  clear ht
  obtain ⟨v6, rfl, ht⟩ := ht'
  show Ex G d mX7_onGround 21 [(0, .ref a0), (1, .ref a1), (2, .ref a2), (3, .ref a3), (4, va_rf o4)] [.int v6] h3 Q
  refine x_aload_n (pc2 := 22) 0 (n := 0) (x := a0) rfl dX7_onGround_21 rfl ?_
  refine x_aload_n (pc2 := 23) 1 (n := 1) (x := a1) rfl dX7_onGround_22 rfl ?_
  refine x_aload_n (pc2 := 24) 3 (n := 3) (x := a3) rfl dX7_onGround_23 rfl ?_
  refine x_callV (pc2 := 27) (As := [.ref a1, .ref a3]) (rest := [.int v6]) (b := a0) mv_X7_inThing ml_X7_79 (k5.up p4) rfl rfl (Nat.le_of_ble_eq_true rfl) hd1 dX7_onGround_24 rfl (ht.mono (fun r7 h8 p9 ht' => ?_))
  clear ht
  obtain ⟨v10, rfl, ht⟩ := ht'
  show Ex G d mX7_onGround 27 [(0, .ref a0), (1, .ref a1), (2, .ref a2), (3, .ref a3), (4, va_rf o4)] [.int v10, .int v6] h8 Q
  refine x_isub (pc2 := 28) dX7_onGround_27 rfl ?_
  refine x_istore (pc2 := 30) [1, 2, 3, 4, 5, 0] (n := 5) (x := (v6 - v10)) (lv2 := [(0, .ref a0), (1, .ref a1), (2, .ref a2), (3, .ref a3), (4, va_rf o4), (5, .int (v6 - v10))]) (by decide) (by cases o4 <;> rfl) dX7_onGround_28 rfl ?_
  refine x_aloadq (pc2 := 32) 4 (n := 4) (x := o4) rfl dX7_onGround_30 rfl ?_
  refine x_ifnonnull (pc2 := 35) (x := o4) 40 dX7_onGround_32 (by decide) rfl (fun q12 e11 => ?_) (fun e11 => ?_)
  · replace ht := ht.2 q12 e11
    subst e11
    show Ex G d mX7_onGround 40 [(0, .ref a0), (1, .ref a1), (2, .ref a2), (3, .ref a3), (4, .ref q12), (5, .int (v6 - v10))] [] h8 Q
    refine x_iload (pc2 := 42) 5 (n := 5) (x := (v6 - v10)) rfl dX7_onGround_40 rfl ?_
    refine x_aload_n (pc2 := 43) 0 (n := 0) (x := a0) rfl dX7_onGround_42 rfl ?_
    refine x_aload_n (pc2 := 44) 1 (n := 1) (x := a1) rfl dX7_onGround_43 rfl ?_
    refine x_aload (pc2 := 46) 4 (n := 4) (x := q12) rfl dX7_onGround_44 rfl ?_
    refine x_callV (pc2 := 49) (As := [.ref a1, .ref q12]) (rest := [.int (v6 - v10)]) (b := a0) mv_X7_inThing ml_X7_79 ((k5.up p4).up p9) rfl rfl (Nat.le_of_ble_eq_true rfl) hd1 dX7_onGround_46 rfl (ht.mono (fun r13 h14 p15 ht' => ?_))
    clear ht
    obtain ⟨v16, rfl, ht⟩ := ht'
    show Ex G d mX7_onGround 49 [(0, .ref a0), (1, .ref a1), (2, .ref a2), (3, .ref a3), (4, .ref q12), (5, .int (v6 - v10))] [.int v16, .int (v6 - v10)] h14 Q
    refine x_isub (pc2 := 50) dX7_onGround_49 rfl ?_
    exact x_ret (ty := .int) rfl rfl dX7_onGround_50 ht
  · replace ht := ht.1 e11
    subst e11
    show Ex G d mX7_onGround 35 [(0, .ref a0), (1, .ref a1), (2, .ref a2), (3, .ref a3), (4, va_rf none), (5, .int (v6 - v10))] [] h8 Q
    refine x_iload (pc2 := 37) 5 (n := 5) (x := (v6 - v10)) rfl dX7_onGround_35 rfl ?_
    refine x_goto 50 dX7_onGround_37 (by decide) ?_
    exact x_ret (ty := .int) rfl rfl dX7_onGround_50 ht
theorem e_X7_onGround {G : GG} {d : Nat} {h : HP} {Q : Option Value → HP → Prop} {a0 : Nat} {a1 : Nat} {a2 : Nat} {a3 : Nat} {o4 : Option Nat} (hd1 : 1 ≤ d) (ht : T_X7_onGround G d h Q a0 a1 a2 a3 o4) : Cal G d mX7_onGround [.ref a0, .ref a1, .ref a2, .ref a3, va_rf o4] h Q := by
  cases o4 <;> exact cal_of rfl (Nat.le_of_ble_eq_true rfl) (t_X7_onGround hd1 ht)
def T_X7_linesInRivers (G : GG) (d : Nat) (h : HP) (Q : Option Value → HP → Prop) (a0 : Nat) (a1 : Nat) : Prop :=
  Kd G h a0 7 ∧ ∃ q2, hR h a0 3 = some q2 ∧ Kd G h a1 3 ∧ Kd G h q2 14 ∧ vp_in (((hI h a1 2) * 41) + (hI h a1 3)) (hN h q2) ∧ vp_in (((hI h a1 2) * 41) + (hI h a1 1)) (hN h q2) ∧ ((¬ (hI h q2 (((hI h a1 2) * 41) + (hI h a1 3)).toNatClampNeg) = (hI h q2 (((hI h a1 2) * 41) + (hI h a1 1)).toNatClampNeg) → Q (some (.int 1)) h) ∧ ((hI h q2 (((hI h a1 2) * 41) + (hI h a1 3)).toNatClampNeg) = (hI h q2 (((hI h a1 2) * 41) + (hI h a1 1)).toNatClampNeg) → vp_in (((hI h a1 4) * 41) + (hI h a1 3)) (hN h q2) ∧ vp_in (((hI h a1 4) * 41) + (hI h a1 1)) (hN h q2) ∧ ((¬ (hI h q2 (((hI h a1 4) * 41) + (hI h a1 3)).toNatClampNeg) = (hI h q2 (((hI h a1 4) * 41) + (hI h a1 1)).toNatClampNeg) → Q (some (.int 1)) h) ∧ ((hI h q2 (((hI h a1 4) * 41) + (hI h a1 3)).toNatClampNeg) = (hI h q2 (((hI h a1 4) * 41) + (hI h a1 1)).toNatClampNeg) → ∃ q12, hR h a0 4 = some q12 ∧ Kd G h q12 14 ∧ vp_in (((hI h a1 1) * 41) + (hI h a1 4)) (hN h q12) ∧ vp_in (((hI h a1 1) * 41) + (hI h a1 2)) (hN h q12) ∧ ((¬ (hI h q12 (((hI h a1 1) * 41) + (hI h a1 4)).toNatClampNeg) = (hI h q12 (((hI h a1 1) * 41) + (hI h a1 2)).toNatClampNeg) → Q (some (.int 1)) h) ∧ ((hI h q12 (((hI h a1 1) * 41) + (hI h a1 4)).toNatClampNeg) = (hI h q12 (((hI h a1 1) * 41) + (hI h a1 2)).toNatClampNeg) → vp_in (((hI h a1 3) * 41) + (hI h a1 4)) (hN h q12) ∧ vp_in (((hI h a1 3) * 41) + (hI h a1 2)) (hN h q12) ∧ (((hI h q12 (((hI h a1 3) * 41) + (hI h a1 4)).toNatClampNeg) = (hI h q12 (((hI h a1 3) * 41) + (hI h a1 2)).toNatClampNeg) → Q (some (.int 0)) h) ∧ (¬ (hI h q12 (((hI h a1 3) * 41) + (hI h a1 4)).toNatClampNeg) = (hI h q12 (((hI h a1 3) * 41) + (hI h a1 2)).toNatClampNeg) → Q (some (.int 1)) h))))))))
set_option maxRecDepth 20000 in
theorem t_X7_linesInRivers {G : GG} {d : Nat} {h : HP} {Q : Option Value → HP → Prop} {a0 : Nat} {a1 : Nat} (ht : T_X7_linesInRivers G d h Q a0 a1) : Ex G d mX7_linesInRivers 0 [(0, .ref a0), (1, .ref a1)] [] h Q := by
  unfold T_X7_linesInRivers at ht
  refine x_aload_n (pc2 := 1) 0 (n := 0) (x := a0) rfl dX7_linesInRivers_0 rfl ?_
  obtain ⟨k1, ht⟩ := ht
  obtain ⟨q2, e3, ht⟩ := ht
  refine y_getR (pc2 := 4) (κ := 7) (k := 3) fl_X7_21 (by decide) (by decide) k1 rfl e3 dX7_linesInRivers_1 rfl ?_
  refine x_aload_n (pc2 := 5) 1 (n := 1) (x := a1) rfl dX7_linesInRivers_4 rfl ?_
  obtain ⟨k4, ht⟩ := ht
  refine y_getI (pc2 := 8) (κ := 3) (k := 2) fl_X7_76 (by decide) (by decide) k4 rfl dX7_linesInRivers_5 rfl ?_
  refine x_bipush (pc2 := 10) (v := 41) (by decide) dX7_linesInRivers_8 rfl ?_
  refine x_imul (pc2 := 11) dX7_linesInRivers_10 rfl ?_
  refine x_aload_n (pc2 := 12) 1 (n := 1) (x := a1) rfl dX7_linesInRivers_11 rfl ?_
  refine y_getI (pc2 := 15) (κ := 3) (k := 3) fl_X7_77 (by decide) (by decide) k4 rfl dX7_linesInRivers_12 rfl ?_
  refine x_iadd (pc2 := 16) dX7_linesInRivers_15 rfl ?_
  obtain ⟨k5, ht⟩ := ht
  obtain ⟨b6, ht⟩ := ht
  refine x_iald (pc2 := 17) k5 b6 dX7_linesInRivers_16 rfl ?_
  refine x_aload_n (pc2 := 18) 0 (n := 0) (x := a0) rfl dX7_linesInRivers_17 rfl ?_
  refine y_getR (pc2 := 21) (κ := 7) (k := 3) fl_X7_21 (by decide) (by decide) k1 rfl e3 dX7_linesInRivers_18 rfl ?_
  refine x_aload_n (pc2 := 22) 1 (n := 1) (x := a1) rfl dX7_linesInRivers_21 rfl ?_
  refine y_getI (pc2 := 25) (κ := 3) (k := 2) fl_X7_76 (by decide) (by decide) k4 rfl dX7_linesInRivers_22 rfl ?_
  refine x_bipush (pc2 := 27) (v := 41) (by decide) dX7_linesInRivers_25 rfl ?_
  refine x_imul (pc2 := 28) dX7_linesInRivers_27 rfl ?_
  refine x_aload_n (pc2 := 29) 1 (n := 1) (x := a1) rfl dX7_linesInRivers_28 rfl ?_
  refine y_getI (pc2 := 32) (κ := 3) (k := 1) fl_X7_73 (by decide) (by decide) k4 rfl dX7_linesInRivers_29 rfl ?_
  refine x_iadd (pc2 := 33) dX7_linesInRivers_32 rfl ?_
  obtain ⟨b7, ht⟩ := ht
  refine x_iald (pc2 := 34) k5 b7 dX7_linesInRivers_33 rfl ?_
  refine y_icmp_ne (pc2 := 37) 148 dX7_linesInRivers_34 (by decide) rfl (fun c8 => ?_) (fun c8 => ?_)
  · replace ht := ht.1 c8
    refine x_iconst (pc2 := 149) (v := 1) (by decide) dX7_linesInRivers_148 rfl ?_
    refine x_goto 153 dX7_linesInRivers_149 (by decide) ?_
    exact x_retZ rfl (Or.inr rfl) dX7_linesInRivers_153 ht
  · replace ht := ht.2 c8
    refine x_aload_n (pc2 := 38) 0 (n := 0) (x := a0) rfl dX7_linesInRivers_37 rfl ?_
    refine y_getR (pc2 := 41) (κ := 7) (k := 3) fl_X7_21 (by decide) (by decide) k1 rfl e3 dX7_linesInRivers_38 rfl ?_
    refine x_aload_n (pc2 := 42) 1 (n := 1) (x := a1) rfl dX7_linesInRivers_41 rfl ?_
    refine y_getI (pc2 := 45) (κ := 3) (k := 4) fl_X7_78 (by decide) (by decide) k4 rfl dX7_linesInRivers_42 rfl ?_
    refine x_bipush (pc2 := 47) (v := 41) (by decide) dX7_linesInRivers_45 rfl ?_
    refine x_imul (pc2 := 48) dX7_linesInRivers_47 rfl ?_
    refine x_aload_n (pc2 := 49) 1 (n := 1) (x := a1) rfl dX7_linesInRivers_48 rfl ?_
    refine y_getI (pc2 := 52) (κ := 3) (k := 3) fl_X7_77 (by decide) (by decide) k4 rfl dX7_linesInRivers_49 rfl ?_
    refine x_iadd (pc2 := 53) dX7_linesInRivers_52 rfl ?_
    obtain ⟨b9, ht⟩ := ht
    refine x_iald (pc2 := 54) k5 b9 dX7_linesInRivers_53 rfl ?_
    refine x_aload_n (pc2 := 55) 0 (n := 0) (x := a0) rfl dX7_linesInRivers_54 rfl ?_
    refine y_getR (pc2 := 58) (κ := 7) (k := 3) fl_X7_21 (by decide) (by decide) k1 rfl e3 dX7_linesInRivers_55 rfl ?_
    refine x_aload_n (pc2 := 59) 1 (n := 1) (x := a1) rfl dX7_linesInRivers_58 rfl ?_
    refine y_getI (pc2 := 62) (κ := 3) (k := 4) fl_X7_78 (by decide) (by decide) k4 rfl dX7_linesInRivers_59 rfl ?_
    refine x_bipush (pc2 := 64) (v := 41) (by decide) dX7_linesInRivers_62 rfl ?_
    refine x_imul (pc2 := 65) dX7_linesInRivers_64 rfl ?_
    refine x_aload_n (pc2 := 66) 1 (n := 1) (x := a1) rfl dX7_linesInRivers_65 rfl ?_
    refine y_getI (pc2 := 69) (κ := 3) (k := 1) fl_X7_73 (by decide) (by decide) k4 rfl dX7_linesInRivers_66 rfl ?_
    refine x_iadd (pc2 := 70) dX7_linesInRivers_69 rfl ?_
    obtain ⟨b10, ht⟩ := ht
    refine x_iald (pc2 := 71) k5 b10 dX7_linesInRivers_70 rfl ?_
    refine y_icmp_ne (pc2 := 74) 148 dX7_linesInRivers_71 (by decide) rfl (fun c11 => ?_) (fun c11 => ?_)
    · replace ht := ht.1 c11
      refine x_iconst (pc2 := 149) (v := 1) (by decide) dX7_linesInRivers_148 rfl ?_
      refine x_goto 153 dX7_linesInRivers_149 (by decide) ?_
      exact x_retZ rfl (Or.inr rfl) dX7_linesInRivers_153 ht
    · replace ht := ht.2 c11
      refine x_aload_n (pc2 := 75) 0 (n := 0) (x := a0) rfl dX7_linesInRivers_74 rfl ?_
      obtain ⟨q12, e13, ht⟩ := ht
      refine y_getR (pc2 := 78) (κ := 7) (k := 4) fl_X7_24 (by decide) (by decide) k1 rfl e13 dX7_linesInRivers_75 rfl ?_
      refine x_aload_n (pc2 := 79) 1 (n := 1) (x := a1) rfl dX7_linesInRivers_78 rfl ?_
      refine y_getI (pc2 := 82) (κ := 3) (k := 1) fl_X7_73 (by decide) (by decide) k4 rfl dX7_linesInRivers_79 rfl ?_
      refine x_bipush (pc2 := 84) (v := 41) (by decide) dX7_linesInRivers_82 rfl ?_
      refine x_imul (pc2 := 85) dX7_linesInRivers_84 rfl ?_
      refine x_aload_n (pc2 := 86) 1 (n := 1) (x := a1) rfl dX7_linesInRivers_85 rfl ?_
      refine y_getI (pc2 := 89) (κ := 3) (k := 4) fl_X7_78 (by decide) (by decide) k4 rfl dX7_linesInRivers_86 rfl ?_
      refine x_iadd (pc2 := 90) dX7_linesInRivers_89 rfl ?_
      obtain ⟨k14, ht⟩ := ht
      obtain ⟨b15, ht⟩ := ht
      refine x_iald (pc2 := 91) k14 b15 dX7_linesInRivers_90 rfl ?_
      refine x_aload_n (pc2 := 92) 0 (n := 0) (x := a0) rfl dX7_linesInRivers_91 rfl ?_
      refine y_getR (pc2 := 95) (κ := 7) (k := 4) fl_X7_24 (by decide) (by decide) k1 rfl e13 dX7_linesInRivers_92 rfl ?_
      refine x_aload_n (pc2 := 96) 1 (n := 1) (x := a1) rfl dX7_linesInRivers_95 rfl ?_
      refine y_getI (pc2 := 99) (κ := 3) (k := 1) fl_X7_73 (by decide) (by decide) k4 rfl dX7_linesInRivers_96 rfl ?_
      refine x_bipush (pc2 := 101) (v := 41) (by decide) dX7_linesInRivers_99 rfl ?_
      refine x_imul (pc2 := 102) dX7_linesInRivers_101 rfl ?_
      refine x_aload_n (pc2 := 103) 1 (n := 1) (x := a1) rfl dX7_linesInRivers_102 rfl ?_
      refine y_getI (pc2 := 106) (κ := 3) (k := 2) fl_X7_76 (by decide) (by decide) k4 rfl dX7_linesInRivers_103 rfl ?_
      refine x_iadd (pc2 := 107) dX7_linesInRivers_106 rfl ?_
      obtain ⟨b16, ht⟩ := ht
      refine x_iald (pc2 := 108) k14 b16 dX7_linesInRivers_107 rfl ?_
      refine y_icmp_ne (pc2 := 111) 148 dX7_linesInRivers_108 (by decide) rfl (fun c17 => ?_) (fun c17 => ?_)
      · replace ht := ht.1 c17
        refine x_iconst (pc2 := 149) (v := 1) (by decide) dX7_linesInRivers_148 rfl ?_
        refine x_goto 153 dX7_linesInRivers_149 (by decide) ?_
        exact x_retZ rfl (Or.inr rfl) dX7_linesInRivers_153 ht
      · replace ht := ht.2 c17
        refine x_aload_n (pc2 := 112) 0 (n := 0) (x := a0) rfl dX7_linesInRivers_111 rfl ?_
        refine y_getR (pc2 := 115) (κ := 7) (k := 4) fl_X7_24 (by decide) (by decide) k1 rfl e13 dX7_linesInRivers_112 rfl ?_
        refine x_aload_n (pc2 := 116) 1 (n := 1) (x := a1) rfl dX7_linesInRivers_115 rfl ?_
        refine y_getI (pc2 := 119) (κ := 3) (k := 3) fl_X7_77 (by decide) (by decide) k4 rfl dX7_linesInRivers_116 rfl ?_
        refine x_bipush (pc2 := 121) (v := 41) (by decide) dX7_linesInRivers_119 rfl ?_
        refine x_imul (pc2 := 122) dX7_linesInRivers_121 rfl ?_
        refine x_aload_n (pc2 := 123) 1 (n := 1) (x := a1) rfl dX7_linesInRivers_122 rfl ?_
        refine y_getI (pc2 := 126) (κ := 3) (k := 4) fl_X7_78 (by decide) (by decide) k4 rfl dX7_linesInRivers_123 rfl ?_
        refine x_iadd (pc2 := 127) dX7_linesInRivers_126 rfl ?_
        obtain ⟨b18, ht⟩ := ht
        refine x_iald (pc2 := 128) k14 b18 dX7_linesInRivers_127 rfl ?_
        refine x_aload_n (pc2 := 129) 0 (n := 0) (x := a0) rfl dX7_linesInRivers_128 rfl ?_
        refine y_getR (pc2 := 132) (κ := 7) (k := 4) fl_X7_24 (by decide) (by decide) k1 rfl e13 dX7_linesInRivers_129 rfl ?_
        refine x_aload_n (pc2 := 133) 1 (n := 1) (x := a1) rfl dX7_linesInRivers_132 rfl ?_
        refine y_getI (pc2 := 136) (κ := 3) (k := 3) fl_X7_77 (by decide) (by decide) k4 rfl dX7_linesInRivers_133 rfl ?_
        refine x_bipush (pc2 := 138) (v := 41) (by decide) dX7_linesInRivers_136 rfl ?_
        refine x_imul (pc2 := 139) dX7_linesInRivers_138 rfl ?_
        refine x_aload_n (pc2 := 140) 1 (n := 1) (x := a1) rfl dX7_linesInRivers_139 rfl ?_
        refine y_getI (pc2 := 143) (κ := 3) (k := 2) fl_X7_76 (by decide) (by decide) k4 rfl dX7_linesInRivers_140 rfl ?_
        refine x_iadd (pc2 := 144) dX7_linesInRivers_143 rfl ?_
        obtain ⟨b19, ht⟩ := ht
        refine x_iald (pc2 := 145) k14 b19 dX7_linesInRivers_144 rfl ?_
        refine x_icmp_eq (pc2 := 148) 152 dX7_linesInRivers_145 (by decide) rfl (fun c20 => ?_) (fun c20 => ?_)
        · replace ht := ht.1 c20
          refine x_iconst (pc2 := 153) (v := 0) (by decide) dX7_linesInRivers_152 rfl ?_
          exact x_retZ rfl (Or.inl rfl) dX7_linesInRivers_153 ht
        · replace ht := ht.2 c20
          refine x_iconst (pc2 := 149) (v := 1) (by decide) dX7_linesInRivers_148 rfl ?_
          refine x_goto 153 dX7_linesInRivers_149 (by decide) ?_
          exact x_retZ rfl (Or.inr rfl) dX7_linesInRivers_153 ht
theorem e_X7_linesInRivers {G : GG} {d : Nat} {h : HP} {Q : Option Value → HP → Prop} {a0 : Nat} {a1 : Nat} (ht : T_X7_linesInRivers G d h Q a0 a1) : Cal G d mX7_linesInRivers [.ref a0, .ref a1] h Q := cal_of rfl (Nat.le_of_ble_eq_true rfl) (t_X7_linesInRivers ht)
