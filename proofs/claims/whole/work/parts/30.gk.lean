def T_X12_less (G : GG) (d : Nat) (h : HP) (Q : Option Value → HP → Prop) (x0 : Int32) (x1 : Int32) : Prop :=
  ((x1 ≤ x0 → Q (some (.int x1)) h) ∧ (¬ x1 ≤ x0 → Q (some (.int x0)) h))
set_option maxRecDepth 20000 in
theorem t_X12_less {G : GG} {d : Nat} {h : HP} {Q : Option Value → HP → Prop} {x0 : Int32} {x1 : Int32} (ht : T_X12_less G d h Q x0 x1) : Ex G d mX12_less 0 [(0, .int x0), (1, .int x1)] [] h Q := by
  unfold T_X12_less at ht
  refine x_iload_n (pc2 := 1) 0 (n := 0) (x := x0) rfl dX12_less_0 rfl ?_
  refine x_iload_n (pc2 := 2) 1 (n := 1) (x := x1) rfl dX12_less_1 rfl ?_
  refine x_icmp_ge (pc2 := 5) 9 dX12_less_2 (by decide) rfl (fun c1 => ?_) (fun c1 => ?_)
  · replace ht := ht.1 c1
    refine x_iload_n (pc2 := 10) 1 (n := 1) (x := x1) rfl dX12_less_9 rfl ?_
    exact x_ret (ty := .int) rfl rfl dX12_less_10 ht
  · replace ht := ht.2 c1
    refine x_iload_n (pc2 := 6) 0 (n := 0) (x := x0) rfl dX12_less_5 rfl ?_
    refine x_goto 10 dX12_less_6 (by decide) ?_
    exact x_ret (ty := .int) rfl rfl dX12_less_10 ht
theorem e_X12_less {G : GG} {d : Nat} {h : HP} {Q : Option Value → HP → Prop} {x0 : Int32} {x1 : Int32} (ht : T_X12_less G d h Q x0 x1) : Cal G d mX12_less [.int x0, .int x1] h Q := cal_of rfl (Nat.le_of_ble_eq_true rfl) (t_X12_less ht)
def T_X12_more (G : GG) (d : Nat) (h : HP) (Q : Option Value → HP → Prop) (x0 : Int32) (x1 : Int32) : Prop :=
  ((x0 ≤ x1 → Q (some (.int x1)) h) ∧ (¬ x0 ≤ x1 → Q (some (.int x0)) h))
set_option maxRecDepth 20000 in
theorem t_X12_more {G : GG} {d : Nat} {h : HP} {Q : Option Value → HP → Prop} {x0 : Int32} {x1 : Int32} (ht : T_X12_more G d h Q x0 x1) : Ex G d mX12_more 0 [(0, .int x0), (1, .int x1)] [] h Q := by
  unfold T_X12_more at ht
  refine x_iload_n (pc2 := 1) 0 (n := 0) (x := x0) rfl dX12_more_0 rfl ?_
  refine x_iload_n (pc2 := 2) 1 (n := 1) (x := x1) rfl dX12_more_1 rfl ?_
  refine x_icmp_le (pc2 := 5) 9 dX12_more_2 (by decide) rfl (fun c1 => ?_) (fun c1 => ?_)
  · replace ht := ht.1 c1
    refine x_iload_n (pc2 := 10) 1 (n := 1) (x := x1) rfl dX12_more_9 rfl ?_
    exact x_ret (ty := .int) rfl rfl dX12_more_10 ht
  · replace ht := ht.2 c1
    refine x_iload_n (pc2 := 6) 0 (n := 0) (x := x0) rfl dX12_more_5 rfl ?_
    refine x_goto 10 dX12_more_6 (by decide) ?_
    exact x_ret (ty := .int) rfl rfl dX12_more_10 ht
theorem e_X12_more {G : GG} {d : Nat} {h : HP} {Q : Option Value → HP → Prop} {x0 : Int32} {x1 : Int32} (ht : T_X12_more G d h Q x0 x1) : Cal G d mX12_more [.int x0, .int x1] h Q := cal_of rfl (Nat.le_of_ble_eq_true rfl) (t_X12_more ht)
def T_X12_bases (G : GG) (d : Nat) (h : HP) (Q : Option Value → HP → Prop) (a0 : Nat) (x1 : Int32) (x2 : Int32) : Prop :=
  Kd G h a0 12 ∧ Cal G (d - 1) mX12_of [.ref a0, .int x1, .int 1] h (fun r1 h2 => ∃ v5, r1 = some (.int v5) ∧ Cal G (d - 1) mX12_of [.ref a0, .int x1, .int 2] (sI h2 a0 37 v5) (fun r6 h7 => ∃ v9, r6 = some (.int v9) ∧ Cal G (d - 1) mX12_of [.ref a0, .int x1, .int 3] (sI h7 a0 38 v9) (fun r10 h11 => ∃ v13, r10 = some (.int v13) ∧ Cal G (d - 1) mX12_of [.ref a0, .int x1, .int 4] (sI h11 a0 39 v13) (fun r14 h15 => ∃ v17, r14 = some (.int v17) ∧ ((¬ x2 = (-1) → Cal G (d - 1) mX12_of [.ref a0, .int x2, .int 1] (sI h15 a0 40 v17) (fun r19 h20 => ∃ v22, r19 = some (.int v22) ∧ Cal G (d - 1) mX12_less [.int (hI (sI h15 a0 40 v17) a0 37), .int v22] h20 (fun r23 h24 => ∃ v26, r23 = some (.int v26) ∧ Cal G (d - 1) mX12_of [.ref a0, .int x2, .int 2] (sI h24 a0 37 v26) (fun r27 h28 => ∃ v30, r27 = some (.int v30) ∧ Cal G (d - 1) mX12_less [.int (hI (sI h24 a0 37 v26) a0 38), .int v30] h28 (fun r31 h32 => ∃ v34, r31 = some (.int v34) ∧ Cal G (d - 1) mX12_of [.ref a0, .int x2, .int 3] (sI h32 a0 38 v34) (fun r35 h36 => ∃ v38, r35 = some (.int v38) ∧ Cal G (d - 1) mX12_more [.int (hI (sI h32 a0 38 v34) a0 39), .int v38] h36 (fun r39 h40 => ∃ v42, r39 = some (.int v42) ∧ Cal G (d - 1) mX12_of [.ref a0, .int x2, .int 4] (sI h40 a0 39 v42) (fun r43 h44 => ∃ v46, r43 = some (.int v46) ∧ Cal G (d - 1) mX12_more [.int (hI (sI h40 a0 39 v42) a0 40), .int v46] h44 (fun r47 h48 => ∃ v50, r47 = some (.int v50) ∧ Q none (sI h48 a0 40 v50)))))))))) ∧ (x2 = (-1) → Q none (sI h15 a0 40 v17)))))))
set_option maxRecDepth 20000 in
theorem t_X12_bases {G : GG} {d : Nat} {h : HP} {Q : Option Value → HP → Prop} {a0 : Nat} {x1 : Int32} {x2 : Int32} (hd1 : 1 ≤ d) (ht : T_X12_bases G d h Q a0 x1 x2) : Ex G d mX12_bases 0 [(0, .ref a0), (1, .int x1), (2, .int x2)] [] h Q := by
  unfold T_X12_bases at ht
  refine x_aload_n (pc2 := 1) 0 (n := 0) (x := a0) rfl dX12_bases_0 rfl ?_
  refine x_aload_n (pc2 := 2) 0 (n := 0) (x := a0) rfl dX12_bases_1 rfl ?_
  refine x_iload_n (pc2 := 3) 1 (n := 1) (x := x1) rfl dX12_bases_2 rfl ?_
  refine x_iconst (pc2 := 4) (v := 1) (by decide) dX12_bases_3 rfl ?_
  obtain ⟨k4, ht⟩ := ht
  refine x_callV (pc2 := 7) (As := [.int x1, .int 1]) (rest := [.ref a0]) (b := a0) mv_X12_of ml_X12_310 k4 rfl rfl (Nat.le_of_ble_eq_true rfl) hd1 dX12_bases_4 rfl (ht.mono (fun r1 h2 p3 ht' => ?_))
  clear ht
  obtain ⟨v5, rfl, ht⟩ := ht'
  show Ex G d mX12_bases 7 [(0, .ref a0), (1, .int x1), (2, .int x2)] [.int v5, .ref a0] h2 Q
  refine x_putI (pc2 := 10) (κ := 12) (k := 37) fl_X12_458 (by decide) (by decide) (Or.inl rfl) rfl (k4.up p3) dX12_bases_7 rfl ?_
  refine x_aload_n (pc2 := 11) 0 (n := 0) (x := a0) rfl dX12_bases_10 rfl ?_
  refine x_aload_n (pc2 := 12) 0 (n := 0) (x := a0) rfl dX12_bases_11 rfl ?_
  refine x_iload_n (pc2 := 13) 1 (n := 1) (x := x1) rfl dX12_bases_12 rfl ?_
  refine x_iconst (pc2 := 14) (v := 2) (by decide) dX12_bases_13 rfl ?_
  refine x_callV (pc2 := 17) (As := [.int x1, .int 2]) (rest := [.ref a0]) (b := a0) mv_X12_of ml_X12_310 (k4.up p3).sI rfl rfl (Nat.le_of_ble_eq_true rfl) hd1 dX12_bases_14 rfl (ht.mono (fun r6 h7 p8 ht' => ?_))
  clear ht
  obtain ⟨v9, rfl, ht⟩ := ht'
  show Ex G d mX12_bases 17 [(0, .ref a0), (1, .int x1), (2, .int x2)] [.int v9, .ref a0] h7 Q
  refine x_putI (pc2 := 20) (κ := 12) (k := 38) fl_X12_461 (by decide) (by decide) (Or.inl rfl) rfl ((k4.up p3).sI.up p8) dX12_bases_17 rfl ?_
  refine x_aload_n (pc2 := 21) 0 (n := 0) (x := a0) rfl dX12_bases_20 rfl ?_
  refine x_aload_n (pc2 := 22) 0 (n := 0) (x := a0) rfl dX12_bases_21 rfl ?_
  refine x_iload_n (pc2 := 23) 1 (n := 1) (x := x1) rfl dX12_bases_22 rfl ?_
  refine x_iconst (pc2 := 24) (v := 3) (by decide) dX12_bases_23 rfl ?_
  refine x_callV (pc2 := 27) (As := [.int x1, .int 3]) (rest := [.ref a0]) (b := a0) mv_X12_of ml_X12_310 ((k4.up p3).sI.up p8).sI rfl rfl (Nat.le_of_ble_eq_true rfl) hd1 dX12_bases_24 rfl (ht.mono (fun r10 h11 p12 ht' => ?_))
  clear ht
  obtain ⟨v13, rfl, ht⟩ := ht'
  show Ex G d mX12_bases 27 [(0, .ref a0), (1, .int x1), (2, .int x2)] [.int v13, .ref a0] h11 Q
  refine x_putI (pc2 := 30) (κ := 12) (k := 39) fl_X12_464 (by decide) (by decide) (Or.inl rfl) rfl (((k4.up p3).sI.up p8).sI.up p12) dX12_bases_27 rfl ?_
  refine x_aload_n (pc2 := 31) 0 (n := 0) (x := a0) rfl dX12_bases_30 rfl ?_
  refine x_aload_n (pc2 := 32) 0 (n := 0) (x := a0) rfl dX12_bases_31 rfl ?_
  refine x_iload_n (pc2 := 33) 1 (n := 1) (x := x1) rfl dX12_bases_32 rfl ?_
  refine x_iconst (pc2 := 34) (v := 4) (by decide) dX12_bases_33 rfl ?_
  refine x_callV (pc2 := 37) (As := [.int x1, .int 4]) (rest := [.ref a0]) (b := a0) mv_X12_of ml_X12_310 (((k4.up p3).sI.up p8).sI.up p12).sI rfl rfl (Nat.le_of_ble_eq_true rfl) hd1 dX12_bases_34 rfl (ht.mono (fun r14 h15 p16 ht' => ?_))
  clear ht
  obtain ⟨v17, rfl, ht⟩ := ht'
  show Ex G d mX12_bases 37 [(0, .ref a0), (1, .int x1), (2, .int x2)] [.int v17, .ref a0] h15 Q
  refine x_putI (pc2 := 40) (κ := 12) (k := 40) fl_X12_467 (by decide) (by decide) (Or.inl rfl) rfl ((((k4.up p3).sI.up p8).sI.up p12).sI.up p16) dX12_bases_37 rfl ?_
  refine x_iload_n (pc2 := 41) 2 (n := 2) (x := x2) rfl dX12_bases_40 rfl ?_
  refine x_iconst (pc2 := 42) (v := (-1)) (by decide) dX12_bases_41 rfl ?_
  refine y_icmp_ne (pc2 := 45) 46 dX12_bases_42 (by decide) rfl (fun c18 => ?_) (fun c18 => ?_)
  · replace ht := ht.1 c18
    refine x_aload_n (pc2 := 47) 0 (n := 0) (x := a0) rfl dX12_bases_46 rfl ?_
    refine x_aload_n (pc2 := 48) 0 (n := 0) (x := a0) rfl dX12_bases_47 rfl ?_
    refine y_getI (pc2 := 51) (κ := 12) (k := 37) fl_X12_458 (by decide) (by decide) ((((k4.up p3).sI.up p8).sI.up p12).sI.up p16).sI rfl dX12_bases_48 rfl ?_
    refine x_aload_n (pc2 := 52) 0 (n := 0) (x := a0) rfl dX12_bases_51 rfl ?_
    refine x_iload_n (pc2 := 53) 2 (n := 2) (x := x2) rfl dX12_bases_52 rfl ?_
    refine x_iconst (pc2 := 54) (v := 1) (by decide) dX12_bases_53 rfl ?_
    refine x_callV (pc2 := 57) (As := [.int x2, .int 1]) (rest := [.int (hI (sI h15 a0 40 v17) a0 37), .ref a0]) (b := a0) mv_X12_of ml_X12_310 ((((k4.up p3).sI.up p8).sI.up p12).sI.up p16).sI rfl rfl (Nat.le_of_ble_eq_true rfl) hd1 dX12_bases_54 rfl (ht.mono (fun r19 h20 p21 ht' => ?_))
    clear ht
    obtain ⟨v22, rfl, ht⟩ := ht'
    show Ex G d mX12_bases 57 [(0, .ref a0), (1, .int x1), (2, .int x2)] [.int v22, .int (hI (sI h15 a0 40 v17) a0 37), .ref a0] h20 Q
    refine x_callS (pc2 := 60) (As := [.int (hI (sI h15 a0 40 v17) a0 37), .int v22]) (rest := [.ref a0]) ms_X12_less ml_X12_470 rfl rfl (Nat.le_of_ble_eq_true rfl) hd1 dX12_bases_57 rfl (ht.mono (fun r23 h24 p25 ht' => ?_))
    clear ht
    obtain ⟨v26, rfl, ht⟩ := ht'
    show Ex G d mX12_bases 60 [(0, .ref a0), (1, .int x1), (2, .int x2)] [.int v26, .ref a0] h24 Q
    refine x_putI (pc2 := 63) (κ := 12) (k := 37) fl_X12_458 (by decide) (by decide) (Or.inl rfl) rfl ((((((k4.up p3).sI.up p8).sI.up p12).sI.up p16).sI.up p21).up p25) dX12_bases_60 rfl ?_
    refine x_aload_n (pc2 := 64) 0 (n := 0) (x := a0) rfl dX12_bases_63 rfl ?_
    refine x_aload_n (pc2 := 65) 0 (n := 0) (x := a0) rfl dX12_bases_64 rfl ?_
    refine y_getI (pc2 := 68) (κ := 12) (k := 38) fl_X12_461 (by decide) (by decide) ((((((k4.up p3).sI.up p8).sI.up p12).sI.up p16).sI.up p21).up p25).sI rfl dX12_bases_65 rfl ?_
    refine x_aload_n (pc2 := 69) 0 (n := 0) (x := a0) rfl dX12_bases_68 rfl ?_
    refine x_iload_n (pc2 := 70) 2 (n := 2) (x := x2) rfl dX12_bases_69 rfl ?_
    refine x_iconst (pc2 := 71) (v := 2) (by decide) dX12_bases_70 rfl ?_
    refine x_callV (pc2 := 74) (As := [.int x2, .int 2]) (rest := [.int (hI (sI h24 a0 37 v26) a0 38), .ref a0]) (b := a0) mv_X12_of ml_X12_310 ((((((k4.up p3).sI.up p8).sI.up p12).sI.up p16).sI.up p21).up p25).sI rfl rfl (Nat.le_of_ble_eq_true rfl) hd1 dX12_bases_71 rfl (ht.mono (fun r27 h28 p29 ht' => ?_))
    clear ht
    obtain ⟨v30, rfl, ht⟩ := ht'
    show Ex G d mX12_bases 74 [(0, .ref a0), (1, .int x1), (2, .int x2)] [.int v30, .int (hI (sI h24 a0 37 v26) a0 38), .ref a0] h28 Q
    refine x_callS (pc2 := 77) (As := [.int (hI (sI h24 a0 37 v26) a0 38), .int v30]) (rest := [.ref a0]) ms_X12_less ml_X12_470 rfl rfl (Nat.le_of_ble_eq_true rfl) hd1 dX12_bases_74 rfl (ht.mono (fun r31 h32 p33 ht' => ?_))
    clear ht
    obtain ⟨v34, rfl, ht⟩ := ht'
    show Ex G d mX12_bases 77 [(0, .ref a0), (1, .int x1), (2, .int x2)] [.int v34, .ref a0] h32 Q
    refine x_putI (pc2 := 80) (κ := 12) (k := 38) fl_X12_461 (by decide) (by decide) (Or.inl rfl) rfl ((((((((k4.up p3).sI.up p8).sI.up p12).sI.up p16).sI.up p21).up p25).sI.up p29).up p33) dX12_bases_77 rfl ?_
    refine x_aload_n (pc2 := 81) 0 (n := 0) (x := a0) rfl dX12_bases_80 rfl ?_
    refine x_aload_n (pc2 := 82) 0 (n := 0) (x := a0) rfl dX12_bases_81 rfl ?_
    refine y_getI (pc2 := 85) (κ := 12) (k := 39) fl_X12_464 (by decide) (by decide) ((((((((k4.up p3).sI.up p8).sI.up p12).sI.up p16).sI.up p21).up p25).sI.up p29).up p33).sI rfl dX12_bases_82 rfl ?_
    refine x_aload_n (pc2 := 86) 0 (n := 0) (x := a0) rfl dX12_bases_85 rfl ?_
    refine x_iload_n (pc2 := 87) 2 (n := 2) (x := x2) rfl dX12_bases_86 rfl ?_
    refine x_iconst (pc2 := 88) (v := 3) (by decide) dX12_bases_87 rfl ?_
    refine x_callV (pc2 := 91) (As := [.int x2, .int 3]) (rest := [.int (hI (sI h32 a0 38 v34) a0 39), .ref a0]) (b := a0) mv_X12_of ml_X12_310 ((((((((k4.up p3).sI.up p8).sI.up p12).sI.up p16).sI.up p21).up p25).sI.up p29).up p33).sI rfl rfl (Nat.le_of_ble_eq_true rfl) hd1 dX12_bases_88 rfl (ht.mono (fun r35 h36 p37 ht' => ?_))
    clear ht
    obtain ⟨v38, rfl, ht⟩ := ht'
    show Ex G d mX12_bases 91 [(0, .ref a0), (1, .int x1), (2, .int x2)] [.int v38, .int (hI (sI h32 a0 38 v34) a0 39), .ref a0] h36 Q
    refine x_callS (pc2 := 94) (As := [.int (hI (sI h32 a0 38 v34) a0 39), .int v38]) (rest := [.ref a0]) ms_X12_more ml_X12_473 rfl rfl (Nat.le_of_ble_eq_true rfl) hd1 dX12_bases_91 rfl (ht.mono (fun r39 h40 p41 ht' => ?_))
    clear ht
    obtain ⟨v42, rfl, ht⟩ := ht'
    show Ex G d mX12_bases 94 [(0, .ref a0), (1, .int x1), (2, .int x2)] [.int v42, .ref a0] h40 Q
    refine x_putI (pc2 := 97) (κ := 12) (k := 39) fl_X12_464 (by decide) (by decide) (Or.inl rfl) rfl ((((((((((k4.up p3).sI.up p8).sI.up p12).sI.up p16).sI.up p21).up p25).sI.up p29).up p33).sI.up p37).up p41) dX12_bases_94 rfl ?_
    refine x_aload_n (pc2 := 98) 0 (n := 0) (x := a0) rfl dX12_bases_97 rfl ?_
    refine x_aload_n (pc2 := 99) 0 (n := 0) (x := a0) rfl dX12_bases_98 rfl ?_
    refine y_getI (pc2 := 102) (κ := 12) (k := 40) fl_X12_467 (by decide) (by decide) ((((((((((k4.up p3).sI.up p8).sI.up p12).sI.up p16).sI.up p21).up p25).sI.up p29).up p33).sI.up p37).up p41).sI rfl dX12_bases_99 rfl ?_
    refine x_aload_n (pc2 := 103) 0 (n := 0) (x := a0) rfl dX12_bases_102 rfl ?_
    refine x_iload_n (pc2 := 104) 2 (n := 2) (x := x2) rfl dX12_bases_103 rfl ?_
    refine x_iconst (pc2 := 105) (v := 4) (by decide) dX12_bases_104 rfl ?_
    refine x_callV (pc2 := 108) (As := [.int x2, .int 4]) (rest := [.int (hI (sI h40 a0 39 v42) a0 40), .ref a0]) (b := a0) mv_X12_of ml_X12_310 ((((((((((k4.up p3).sI.up p8).sI.up p12).sI.up p16).sI.up p21).up p25).sI.up p29).up p33).sI.up p37).up p41).sI rfl rfl (Nat.le_of_ble_eq_true rfl) hd1 dX12_bases_105 rfl (ht.mono (fun r43 h44 p45 ht' => ?_))
    clear ht
    obtain ⟨v46, rfl, ht⟩ := ht'
    show Ex G d mX12_bases 108 [(0, .ref a0), (1, .int x1), (2, .int x2)] [.int v46, .int (hI (sI h40 a0 39 v42) a0 40), .ref a0] h44 Q
    refine x_callS (pc2 := 111) (As := [.int (hI (sI h40 a0 39 v42) a0 40), .int v46]) (rest := [.ref a0]) ms_X12_more ml_X12_473 rfl rfl (Nat.le_of_ble_eq_true rfl) hd1 dX12_bases_108 rfl (ht.mono (fun r47 h48 p49 ht' => ?_))
    clear ht
    obtain ⟨v50, rfl, ht⟩ := ht'
    show Ex G d mX12_bases 111 [(0, .ref a0), (1, .int x1), (2, .int x2)] [.int v50, .ref a0] h48 Q
    refine x_putI (pc2 := 114) (κ := 12) (k := 40) fl_X12_467 (by decide) (by decide) (Or.inl rfl) rfl ((((((((((((k4.up p3).sI.up p8).sI.up p12).sI.up p16).sI.up p21).up p25).sI.up p29).up p33).sI.up p37).up p41).sI.up p45).up p49) dX12_bases_111 rfl ?_
    exact x_retV rfl dX12_bases_114 ht
  · replace ht := ht.2 c18
    exact x_retV rfl dX12_bases_45 ht
theorem e_X12_bases {G : GG} {d : Nat} {h : HP} {Q : Option Value → HP → Prop} {a0 : Nat} {x1 : Int32} {x2 : Int32} (hd1 : 1 ≤ d) (ht : T_X12_bases G d h Q a0 x1 x2) : Cal G d mX12_bases [.ref a0, .int x1, .int x2] h Q := cal_of rfl (Nat.le_of_ble_eq_true rfl) (t_X12_bases hd1 ht)
def T_X12_margin (G : GG) (d : Nat) (h : HP) (Q : Option Value → HP → Prop) (a0 : Nat) (x1 : Int32) (x2 : Int32) (x3 : Int32) : Prop :=
  Ex G d mX12_margin 6 [(0, .ref a0), (1, .int x1), (2, .int x2), (3, .int x3), (4, .int x1), (5, .int 3)] [] h Q
set_option maxRecDepth 20000 in
theorem t_X12_margin {G : GG} {d : Nat} {h : HP} {Q : Option Value → HP → Prop} {a0 : Nat} {x1 : Int32} {x2 : Int32} {x3 : Int32} (ht : T_X12_margin G d h Q a0 x1 x2 x3) : Ex G d mX12_margin 0 [(0, .ref a0), (1, .int x1), (2, .int x2), (3, .int x3)] [] h Q := by
  unfold T_X12_margin at ht
  refine x_iload_n (pc2 := 1) 1 (n := 1) (x := x1) rfl dX12_margin_0 rfl ?_
  refine x_istore (pc2 := 3) [1, 2, 3, 4, 0] (n := 4) (x := x1) (lv2 := [(0, .ref a0), (1, .int x1), (2, .int x2), (3, .int x3), (4, .int x1)]) (by decide) rfl dX12_margin_1 rfl ?_
  refine x_iconst (pc2 := 4) (v := 3) (by decide) dX12_margin_3 rfl ?_
  refine x_istore (pc2 := 6) [1, 2, 3, 4, 5, 0] (n := 5) (x := 3) (lv2 := [(0, .ref a0), (1, .int x1), (2, .int x2), (3, .int x3), (4, .int x1), (5, .int 3)]) (by decide) rfl dX12_margin_4 rfl ?_
  exact ht
theorem e_X12_margin {G : GG} {d : Nat} {h : HP} {Q : Option Value → HP → Prop} {a0 : Nat} {x1 : Int32} {x2 : Int32} {x3 : Int32} (ht : T_X12_margin G d h Q a0 x1 x2 x3) : Cal G d mX12_margin [.ref a0, .int x1, .int x2, .int x3] h Q := cal_of rfl (Nat.le_of_ble_eq_true rfl) (t_X12_margin ht)
def T_X12_margin_6 (G : GG) (d : Nat) (h : HP) (Q : Option Value → HP → Prop) (a0 : Nat) (x1 : Int32) (x2 : Int32) (x3 : Int32) (x4 : Int32) (x5 : Int32) : Prop :=
  ((x5 ≤ x3 → ¬ x2 = 0 ∧ Q (some (.int ((irm x4 x2) + 1))) h) ∧ (¬ x5 ≤ x3 → ¬ x2 = 0 ∧ Ex G d mX12_margin 6 [(0, .ref a0), (1, .int x1), (2, .int x2), (3, .int x3), (4, .int (x4 / x2)), (5, .int (x5 + (-1)))] [] h Q))
set_option maxRecDepth 20000 in
theorem t_X12_margin_6 {G : GG} {d : Nat} {h : HP} {Q : Option Value → HP → Prop} {a0 : Nat} {x1 : Int32} {x2 : Int32} {x3 : Int32} {x4 : Int32} {x5 : Int32} (ht : T_X12_margin_6 G d h Q a0 x1 x2 x3 x4 x5) : Ex G d mX12_margin 6 [(0, .ref a0), (1, .int x1), (2, .int x2), (3, .int x3), (4, .int x4), (5, .int x5)] [] h Q := by
  unfold T_X12_margin_6 at ht
  refine x_iload (pc2 := 8) 5 (n := 5) (x := x5) rfl dX12_margin_6 rfl ?_
  refine x_iload_n (pc2 := 9) 3 (n := 3) (x := x3) rfl dX12_margin_8 rfl ?_
  refine x_icmp_le (pc2 := 12) 24 dX12_margin_9 (by decide) rfl (fun c1 => ?_) (fun c1 => ?_)
  · replace ht := ht.1 c1
    refine x_iload (pc2 := 26) 4 (n := 4) (x := x4) rfl dX12_margin_24 rfl ?_
    refine x_iload_n (pc2 := 27) 2 (n := 2) (x := x2) rfl dX12_margin_26 rfl ?_
    obtain ⟨n2, ht⟩ := ht
    refine y_irem (pc2 := 28) n2 dX12_margin_27 rfl ?_
    refine x_iconst (pc2 := 29) (v := 1) (by decide) dX12_margin_28 rfl ?_
    refine x_iadd (pc2 := 30) dX12_margin_29 rfl ?_
    exact x_ret (ty := .int) rfl rfl dX12_margin_30 ht
  · replace ht := ht.2 c1
    refine x_iload (pc2 := 14) 4 (n := 4) (x := x4) rfl dX12_margin_12 rfl ?_
    refine x_iload_n (pc2 := 15) 2 (n := 2) (x := x2) rfl dX12_margin_14 rfl ?_
    obtain ⟨n3, ht⟩ := ht
    refine x_idiv (pc2 := 16) n3 dX12_margin_15 rfl ?_
    refine x_istore (pc2 := 18) [1, 2, 3, 4, 0, 5] (n := 4) (x := (x4 / x2)) (lv2 := [(0, .ref a0), (1, .int x1), (2, .int x2), (3, .int x3), (4, .int (x4 / x2)), (5, .int x5)]) (by decide) rfl dX12_margin_16 rfl ?_
    refine x_iinc (pc2 := 21) 5 [1, 2, 3, 4, 5, 0] (i := 5) (x := x5) (v := (x5 + (-1))) (lv2 := [(0, .ref a0), (1, .int x1), (2, .int x2), (3, .int x3), (4, .int (x4 / x2)), (5, .int (x5 + (-1)))]) rfl (iinc_eq (by decide) _) (by decide) rfl dX12_margin_18 rfl ?_
    refine x_goto 6 dX12_margin_21 (by decide) ?_
    exact ht
def T_X12_thinksBy (G : GG) (d : Nat) (h : HP) (Q : Option Value → HP → Prop) (a0 : Nat) (x1 : Int32) (x2 : Int32) (x3 : Int32) (x4 : Int32) : Prop :=
  Kd G h a0 12 ∧ Cal G (d - 1) mX12_margin [.ref a0, .int x1, .int x2, .int 0] h (fun r2 h3 => ∃ v5, r2 = some (.int v5) ∧ Cal G (d - 1) mX12_margin [.ref a0, .int x1, .int x2, .int 1] h3 (fun r6 h7 => ∃ v9, r6 = some (.int v9) ∧ Cal G (d - 1) mX12_margin [.ref a0, .int x1, .int x2, .int 2] h7 (fun r10 h11 => ∃ v13, r10 = some (.int v13) ∧ Cal G (d - 1) mX12_margin [.ref a0, .int x1, .int x2, .int 3] h11 (fun r14 h15 => ∃ v17, r14 = some (.int v17) ∧ Cal G (d - 1) mX12_thinks [.ref a0, .int ((hI h a0 37) - v5), .int ((hI h3 a0 38) - v9), .int ((hI h7 a0 39) + v13), .int ((hI h11 a0 40) + v17), .int x3, .int x4] h15 (fun r18 h19 => r18 = none ∧ Q none h19)))))
set_option maxRecDepth 20000 in
theorem t_X12_thinksBy {G : GG} {d : Nat} {h : HP} {Q : Option Value → HP → Prop} {a0 : Nat} {x1 : Int32} {x2 : Int32} {x3 : Int32} {x4 : Int32} (hd1 : 1 ≤ d) (ht : T_X12_thinksBy G d h Q a0 x1 x2 x3 x4) : Ex G d mX12_thinksBy 0 [(0, .ref a0), (1, .int x1), (2, .int x2), (3, .int x3), (4, .int x4)] [] h Q := by
  unfold T_X12_thinksBy at ht
  refine x_aload_n (pc2 := 1) 0 (n := 0) (x := a0) rfl dX12_thinksBy_0 rfl ?_
  refine x_aload_n (pc2 := 2) 0 (n := 0) (x := a0) rfl dX12_thinksBy_1 rfl ?_
  obtain ⟨k1, ht⟩ := ht
  refine y_getI (pc2 := 5) (κ := 12) (k := 37) fl_X12_458 (by decide) (by decide) k1 rfl dX12_thinksBy_2 rfl ?_
  refine x_aload_n (pc2 := 6) 0 (n := 0) (x := a0) rfl dX12_thinksBy_5 rfl ?_
  refine x_iload_n (pc2 := 7) 1 (n := 1) (x := x1) rfl dX12_thinksBy_6 rfl ?_
  refine x_iload_n (pc2 := 8) 2 (n := 2) (x := x2) rfl dX12_thinksBy_7 rfl ?_
  refine x_iconst (pc2 := 9) (v := 0) (by decide) dX12_thinksBy_8 rfl ?_
  refine x_callV (pc2 := 12) (As := [.int x1, .int x2, .int 0]) (rest := [.int (hI h a0 37), .ref a0]) (b := a0) mv_X12_margin ml_X12_476 k1 rfl rfl (Nat.le_of_ble_eq_true rfl) hd1 dX12_thinksBy_9 rfl (ht.mono (fun r2 h3 p4 ht' => ?_))
  clear ht
  obtain ⟨v5, rfl, ht⟩ := ht'
  show Ex G d mX12_thinksBy 12 [(0, .ref a0), (1, .int x1), (2, .int x2), (3, .int x3), (4, .int x4)] [.int v5, .int (hI h a0 37), .ref a0] h3 Q
  refine x_isub (pc2 := 13) dX12_thinksBy_12 rfl ?_
  refine x_aload_n (pc2 := 14) 0 (n := 0) (x := a0) rfl dX12_thinksBy_13 rfl ?_
  refine y_getI (pc2 := 17) (κ := 12) (k := 38) fl_X12_461 (by decide) (by decide) (k1.up p4) rfl dX12_thinksBy_14 rfl ?_
  refine x_aload_n (pc2 := 18) 0 (n := 0) (x := a0) rfl dX12_thinksBy_17 rfl ?_
  refine x_iload_n (pc2 := 19) 1 (n := 1) (x := x1) rfl dX12_thinksBy_18 rfl ?_
  refine x_iload_n (pc2 := 20) 2 (n := 2) (x := x2) rfl dX12_thinksBy_19 rfl ?_
  refine x_iconst (pc2 := 21) (v := 1) (by decide) dX12_thinksBy_20 rfl ?_
  refine x_callV (pc2 := 24) (As := [.int x1, .int x2, .int 1]) (rest := [.int (hI h3 a0 38), .int ((hI h a0 37) - v5), .ref a0]) (b := a0) mv_X12_margin ml_X12_476 (k1.up p4) rfl rfl (Nat.le_of_ble_eq_true rfl) hd1 dX12_thinksBy_21 rfl (ht.mono (fun r6 h7 p8 ht' => ?_))
  clear ht
  obtain ⟨v9, rfl, ht⟩ := ht'
  show Ex G d mX12_thinksBy 24 [(0, .ref a0), (1, .int x1), (2, .int x2), (3, .int x3), (4, .int x4)] [.int v9, .int (hI h3 a0 38), .int ((hI h a0 37) - v5), .ref a0] h7 Q
  refine x_isub (pc2 := 25) dX12_thinksBy_24 rfl ?_
  refine x_aload_n (pc2 := 26) 0 (n := 0) (x := a0) rfl dX12_thinksBy_25 rfl ?_
  refine y_getI (pc2 := 29) (κ := 12) (k := 39) fl_X12_464 (by decide) (by decide) ((k1.up p4).up p8) rfl dX12_thinksBy_26 rfl ?_
  refine x_aload_n (pc2 := 30) 0 (n := 0) (x := a0) rfl dX12_thinksBy_29 rfl ?_
  refine x_iload_n (pc2 := 31) 1 (n := 1) (x := x1) rfl dX12_thinksBy_30 rfl ?_
  refine x_iload_n (pc2 := 32) 2 (n := 2) (x := x2) rfl dX12_thinksBy_31 rfl ?_
  refine x_iconst (pc2 := 33) (v := 2) (by decide) dX12_thinksBy_32 rfl ?_
  refine x_callV (pc2 := 36) (As := [.int x1, .int x2, .int 2]) (rest := [.int (hI h7 a0 39), .int ((hI h3 a0 38) - v9), .int ((hI h a0 37) - v5), .ref a0]) (b := a0) mv_X12_margin ml_X12_476 ((k1.up p4).up p8) rfl rfl (Nat.le_of_ble_eq_true rfl) hd1 dX12_thinksBy_33 rfl (ht.mono (fun r10 h11 p12 ht' => ?_))
  clear ht
  obtain ⟨v13, rfl, ht⟩ := ht'
  show Ex G d mX12_thinksBy 36 [(0, .ref a0), (1, .int x1), (2, .int x2), (3, .int x3), (4, .int x4)] [.int v13, .int (hI h7 a0 39), .int ((hI h3 a0 38) - v9), .int ((hI h a0 37) - v5), .ref a0] h11 Q
  refine x_iadd (pc2 := 37) dX12_thinksBy_36 rfl ?_
  refine x_aload_n (pc2 := 38) 0 (n := 0) (x := a0) rfl dX12_thinksBy_37 rfl ?_
  refine y_getI (pc2 := 41) (κ := 12) (k := 40) fl_X12_467 (by decide) (by decide) (((k1.up p4).up p8).up p12) rfl dX12_thinksBy_38 rfl ?_
  refine x_aload_n (pc2 := 42) 0 (n := 0) (x := a0) rfl dX12_thinksBy_41 rfl ?_
  refine x_iload_n (pc2 := 43) 1 (n := 1) (x := x1) rfl dX12_thinksBy_42 rfl ?_
  refine x_iload_n (pc2 := 44) 2 (n := 2) (x := x2) rfl dX12_thinksBy_43 rfl ?_
  refine x_iconst (pc2 := 45) (v := 3) (by decide) dX12_thinksBy_44 rfl ?_
  refine x_callV (pc2 := 48) (As := [.int x1, .int x2, .int 3]) (rest := [.int (hI h11 a0 40), .int ((hI h7 a0 39) + v13), .int ((hI h3 a0 38) - v9), .int ((hI h a0 37) - v5), .ref a0]) (b := a0) mv_X12_margin ml_X12_476 (((k1.up p4).up p8).up p12) rfl rfl (Nat.le_of_ble_eq_true rfl) hd1 dX12_thinksBy_45 rfl (ht.mono (fun r14 h15 p16 ht' => ?_))
  clear ht
  obtain ⟨v17, rfl, ht⟩ := ht'
  show Ex G d mX12_thinksBy 48 [(0, .ref a0), (1, .int x1), (2, .int x2), (3, .int x3), (4, .int x4)] [.int v17, .int (hI h11 a0 40), .int ((hI h7 a0 39) + v13), .int ((hI h3 a0 38) - v9), .int ((hI h a0 37) - v5), .ref a0] h15 Q
  refine x_iadd (pc2 := 49) dX12_thinksBy_48 rfl ?_
  refine x_iload_n (pc2 := 50) 3 (n := 3) (x := x3) rfl dX12_thinksBy_49 rfl ?_
  refine x_iload (pc2 := 52) 4 (n := 4) (x := x4) rfl dX12_thinksBy_50 rfl ?_
  refine x_callV (pc2 := 55) (As := [.int ((hI h a0 37) - v5), .int ((hI h3 a0 38) - v9), .int ((hI h7 a0 39) + v13), .int ((hI h11 a0 40) + v17), .int x3, .int x4]) (rest := []) (b := a0) mv_X12_thinks ml_X12_408 ((((k1.up p4).up p8).up p12).up p16) rfl rfl (Nat.le_of_ble_eq_true rfl) hd1 dX12_thinksBy_52 rfl (ht.mono (fun r18 h19 p20 ht' => ?_))
  clear ht
  obtain ⟨rfl, ht⟩ := ht'
  show Ex G d mX12_thinksBy 55 [(0, .ref a0), (1, .int x1), (2, .int x2), (3, .int x3), (4, .int x4)] [] h19 Q
  exact x_retV rfl dX12_thinksBy_55 ht
theorem e_X12_thinksBy {G : GG} {d : Nat} {h : HP} {Q : Option Value → HP → Prop} {a0 : Nat} {x1 : Int32} {x2 : Int32} {x3 : Int32} {x4 : Int32} (hd1 : 1 ≤ d) (ht : T_X12_thinksBy G d h Q a0 x1 x2 x3 x4) : Cal G d mX12_thinksBy [.ref a0, .int x1, .int x2, .int x3, .int x4] h Q := cal_of rfl (Nat.le_of_ble_eq_true rfl) (t_X12_thinksBy hd1 ht)
def T_X12_lineOf (G : GG) (d : Nat) (h : HP) (Q : Option Value → HP → Prop) (a0 : Nat) : Prop :=
  Kd G h a0 12 ∧ Q (some (.int (2 * ((((hI h a0 33) - (hI h a0 31)) + (hI h a0 34)) - (hI h a0 32))))) h
set_option maxRecDepth 20000 in
theorem t_X12_lineOf {G : GG} {d : Nat} {h : HP} {Q : Option Value → HP → Prop} {a0 : Nat} (ht : T_X12_lineOf G d h Q a0) : Ex G d mX12_lineOf 0 [(0, .ref a0)] [] h Q := by
  unfold T_X12_lineOf at ht
  refine x_iconst (pc2 := 1) (v := 2) (by decide) dX12_lineOf_0 rfl ?_
  refine x_aload_n (pc2 := 2) 0 (n := 0) (x := a0) rfl dX12_lineOf_1 rfl ?_
  obtain ⟨k1, ht⟩ := ht
  refine y_getI (pc2 := 5) (κ := 12) (k := 33) fl_X12_326 (by decide) (by decide) k1 rfl dX12_lineOf_2 rfl ?_
  refine x_aload_n (pc2 := 6) 0 (n := 0) (x := a0) rfl dX12_lineOf_5 rfl ?_
  refine y_getI (pc2 := 9) (κ := 12) (k := 31) fl_X12_320 (by decide) (by decide) k1 rfl dX12_lineOf_6 rfl ?_
  refine x_isub (pc2 := 10) dX12_lineOf_9 rfl ?_
  refine x_aload_n (pc2 := 11) 0 (n := 0) (x := a0) rfl dX12_lineOf_10 rfl ?_
  refine y_getI (pc2 := 14) (κ := 12) (k := 34) fl_X12_329 (by decide) (by decide) k1 rfl dX12_lineOf_11 rfl ?_
  refine x_iadd (pc2 := 15) dX12_lineOf_14 rfl ?_
  refine x_aload_n (pc2 := 16) 0 (n := 0) (x := a0) rfl dX12_lineOf_15 rfl ?_
  refine y_getI (pc2 := 19) (κ := 12) (k := 32) fl_X12_323 (by decide) (by decide) k1 rfl dX12_lineOf_16 rfl ?_
  refine x_isub (pc2 := 20) dX12_lineOf_19 rfl ?_
  refine x_imul (pc2 := 21) dX12_lineOf_20 rfl ?_
  exact x_ret (ty := .int) rfl rfl dX12_lineOf_21 ht
theorem e_X12_lineOf {G : GG} {d : Nat} {h : HP} {Q : Option Value → HP → Prop} {a0 : Nat} (ht : T_X12_lineOf G d h Q a0) : Cal G d mX12_lineOf [.ref a0] h Q := cal_of rfl (Nat.le_of_ble_eq_true rfl) (t_X12_lineOf ht)
def T_X12_bestBy (G : GG) (d : Nat) (h : HP) (Q : Option Value → HP → Prop) (a0 : Nat) (x1 : Int32) (x2 : Int32) (x3 : Int32) (x4 : Int32) (x5 : Int32) (x6 : Int32) : Prop :=
  Kd G h a0 12 ∧ Cal G (d - 1) mX12_bases [.ref a0, .int x4, .int x5] h (fun r1 h2 => r1 = none ∧ Ex G d mX12_bestBy 22 [(0, .ref a0), (1, .int x1), (2, .int x2), (3, .int x3), (4, .int x4), (5, .int x5), (6, .int x6), (7, .int (-1)), (8, .int 0), (9, .int 0)] [] (sI h2 a0 42 0) Q)
set_option maxRecDepth 20000 in
theorem t_X12_bestBy {G : GG} {d : Nat} {h : HP} {Q : Option Value → HP → Prop} {a0 : Nat} {x1 : Int32} {x2 : Int32} {x3 : Int32} {x4 : Int32} {x5 : Int32} {x6 : Int32} (hd1 : 1 ≤ d) (ht : T_X12_bestBy G d h Q a0 x1 x2 x3 x4 x5 x6) : Ex G d mX12_bestBy 0 [(0, .ref a0), (1, .int x1), (2, .int x2), (3, .int x3), (4, .int x4), (5, .int x5), (6, .int x6)] [] h Q := by
  unfold T_X12_bestBy at ht
  refine x_aload_n (pc2 := 1) 0 (n := 0) (x := a0) rfl dX12_bestBy_0 rfl ?_
  refine x_iload (pc2 := 3) 4 (n := 4) (x := x4) rfl dX12_bestBy_1 rfl ?_
  refine x_iload (pc2 := 5) 5 (n := 5) (x := x5) rfl dX12_bestBy_3 rfl ?_
  obtain ⟨k4, ht⟩ := ht
  refine x_callV (pc2 := 8) (As := [.int x4, .int x5]) (rest := []) (b := a0) mv_X12_bases ml_X12_480 k4 rfl rfl (Nat.le_of_ble_eq_true rfl) hd1 dX12_bestBy_5 rfl (ht.mono (fun r1 h2 p3 ht' => ?_))
  clear ht
  obtain ⟨rfl, ht⟩ := ht'
  show Ex G d mX12_bestBy 8 [(0, .ref a0), (1, .int x1), (2, .int x2), (3, .int x3), (4, .int x4), (5, .int x5), (6, .int x6)] [] h2 Q
  refine x_iconst (pc2 := 9) (v := (-1)) (by decide) dX12_bestBy_8 rfl ?_
  refine x_istore (pc2 := 11) [1, 2, 3, 4, 5, 6, 7, 0] (n := 7) (x := (-1)) (lv2 := [(0, .ref a0), (1, .int x1), (2, .int x2), (3, .int x3), (4, .int x4), (5, .int x5), (6, .int x6), (7, .int (-1))]) (by decide) rfl dX12_bestBy_9 rfl ?_
  refine x_iconst (pc2 := 12) (v := 0) (by decide) dX12_bestBy_11 rfl ?_
  refine x_istore (pc2 := 14) [1, 2, 3, 4, 5, 6, 7, 8, 0] (n := 8) (x := 0) (lv2 := [(0, .ref a0), (1, .int x1), (2, .int x2), (3, .int x3), (4, .int x4), (5, .int x5), (6, .int x6), (7, .int (-1)), (8, .int 0)]) (by decide) rfl dX12_bestBy_12 rfl ?_
  refine x_aload_n (pc2 := 15) 0 (n := 0) (x := a0) rfl dX12_bestBy_14 rfl ?_
  refine x_iconst (pc2 := 16) (v := 0) (by decide) dX12_bestBy_15 rfl ?_
  refine x_putI (pc2 := 19) (κ := 12) (k := 42) fl_X12_483 (by decide) (by decide) (Or.inl rfl) rfl (k4.up p3) dX12_bestBy_16 rfl ?_
  refine x_iconst (pc2 := 20) (v := 0) (by decide) dX12_bestBy_19 rfl ?_
  refine x_istore (pc2 := 22) [1, 2, 3, 4, 5, 6, 7, 8, 9, 0] (n := 9) (x := 0) (lv2 := [(0, .ref a0), (1, .int x1), (2, .int x2), (3, .int x3), (4, .int x4), (5, .int x5), (6, .int x6), (7, .int (-1)), (8, .int 0), (9, .int 0)]) (by decide) rfl dX12_bestBy_20 rfl ?_
  exact ht
theorem e_X12_bestBy {G : GG} {d : Nat} {h : HP} {Q : Option Value → HP → Prop} {a0 : Nat} {x1 : Int32} {x2 : Int32} {x3 : Int32} {x4 : Int32} {x5 : Int32} {x6 : Int32} (hd1 : 1 ≤ d) (ht : T_X12_bestBy G d h Q a0 x1 x2 x3 x4 x5 x6) : Cal G d mX12_bestBy [.ref a0, .int x1, .int x2, .int x3, .int x4, .int x5, .int x6] h Q := cal_of rfl (Nat.le_of_ble_eq_true rfl) (t_X12_bestBy hd1 ht)
def T_X12_bestBy_22 (G : GG) (d : Nat) (h : HP) (Q : Option Value → HP → Prop) (a0 : Nat) (x1 : Int32) (x2 : Int32) (x3 : Int32) (x4 : Int32) (x5 : Int32) (x6 : Int32) (x7 : Int32) (x8 : Int32) (x9 : Int32) : Prop :=
  (((((x6 * x6) * x6) * x6) ≤ x9 → Q (some (.int x7)) h) ∧ (¬ (((x6 * x6) * x6) * x6) ≤ x9 → Kd G h a0 12 ∧ Cal G (d - 1) mX12_thinksBy [.ref a0, .int x9, .int x6, .int x4, .int x5] h (fun r2 h3 => r2 = none ∧ Cal G (d - 1) mX12_canCome [.ref a0, .int x1, .int x3] h3 (fun r6 h7 => ∃ v9, r6 = some (.int v9) ∧ ((¬ v9 = 0 → Cal G (d - 1) mX12_wishOf [.ref a0, .int x2, .int x3] (sI h7 a0 42 ((hI h7 a0 42) + 1)) (fun r11 h12 => ∃ v14, r11 = some (.long v14) ∧ ((x7 < 0 → Ex G d mX12_bestBy 117 [(0, .ref a0), (1, .int x1), (2, .int x2), (3, .int x3), (4, .int x4), (5, .int x5), (6, .int x6), (7, .int x7), (8, .int x8), (9, .int x9), (10, .long v14)] [] h12 Q) ∧ (¬ x7 < 0 → (((lg_cmp v14 (hL h12 a0 41)) < 0 → Ex G d mX12_bestBy 22 [(0, .ref a0), (1, .int x1), (2, .int x2), (3, .int x3), (4, .int x4), (5, .int x5), (6, .int x6), (7, .int x7), (8, .int x8), (9, .int (x9 + 1))] [] h12 Q) ∧ (¬ (lg_cmp v14 (hL h12 a0 41)) < 0 → ((¬ (lg_cmp v14 (hL h12 a0 41)) = 0 → Ex G d mX12_bestBy 117 [(0, .ref a0), (1, .int x1), (2, .int x2), (3, .int x3), (4, .int x4), (5, .int x5), (6, .int x6), (7, .int x7), (8, .int x8), (9, .int x9), (10, .long v14)] [] h12 Q) ∧ ((lg_cmp v14 (hL h12 a0 41)) = 0 → Cal G (d - 1) mX12_lineOf [.ref a0] h12 (fun r18 h19 => ∃ v21, r18 = some (.int v21) ∧ ((v21 < x8 → Ex G d mX12_bestBy 117 [(0, .ref a0), (1, .int x1), (2, .int x2), (3, .int x3), (4, .int x4), (5, .int x5), (6, .int x6), (7, .int x7), (8, .int x8), (9, .int x9), (10, .long v14)] [] h19 Q) ∧ (¬ v21 < x8 → Ex G d mX12_bestBy 22 [(0, .ref a0), (1, .int x1), (2, .int x2), (3, .int x3), (4, .int x4), (5, .int x5), (6, .int x6), (7, .int x7), (8, .int x8), (9, .int (x9 + 1))] [] h19 Q))))))))))) ∧ (v9 = 0 → Ex G d mX12_bestBy 22 [(0, .ref a0), (1, .int x1), (2, .int x2), (3, .int x3), (4, .int x4), (5, .int x5), (6, .int x6), (7, .int x7), (8, .int x8), (9, .int (x9 + 1))] [] h7 Q))))))
set_option maxRecDepth 20000 in
theorem t_X12_bestBy_22 {G : GG} {d : Nat} {h : HP} {Q : Option Value → HP → Prop} {a0 : Nat} {x1 : Int32} {x2 : Int32} {x3 : Int32} {x4 : Int32} {x5 : Int32} {x6 : Int32} {x7 : Int32} {x8 : Int32} {x9 : Int32} (hd1 : 1 ≤ d) (ht : T_X12_bestBy_22 G d h Q a0 x1 x2 x3 x4 x5 x6 x7 x8 x9) : Ex G d mX12_bestBy 22 [(0, .ref a0), (1, .int x1), (2, .int x2), (3, .int x3), (4, .int x4), (5, .int x5), (6, .int x6), (7, .int x7), (8, .int x8), (9, .int x9)] [] h Q := by
  unfold T_X12_bestBy_22 at ht
  refine x_iload (pc2 := 24) 9 (n := 9) (x := x9) rfl dX12_bestBy_22 rfl ?_
  refine x_iload (pc2 := 26) 6 (n := 6) (x := x6) rfl dX12_bestBy_24 rfl ?_
  refine x_iload (pc2 := 28) 6 (n := 6) (x := x6) rfl dX12_bestBy_26 rfl ?_
  refine x_imul (pc2 := 29) dX12_bestBy_28 rfl ?_
  refine x_iload (pc2 := 31) 6 (n := 6) (x := x6) rfl dX12_bestBy_29 rfl ?_
  refine x_imul (pc2 := 32) dX12_bestBy_31 rfl ?_
  refine x_iload (pc2 := 34) 6 (n := 6) (x := x6) rfl dX12_bestBy_32 rfl ?_
  refine x_imul (pc2 := 35) dX12_bestBy_34 rfl ?_
  refine x_icmp_ge (pc2 := 38) 139 dX12_bestBy_35 (by decide) rfl (fun c1 => ?_) (fun c1 => ?_)
  · replace ht := ht.1 c1
    refine x_iload (pc2 := 141) 7 (n := 7) (x := x7) rfl dX12_bestBy_139 rfl ?_
    exact x_ret (ty := .int) rfl rfl dX12_bestBy_141 ht
  · replace ht := ht.2 c1
    refine x_aload_n (pc2 := 39) 0 (n := 0) (x := a0) rfl dX12_bestBy_38 rfl ?_
    refine x_iload (pc2 := 41) 9 (n := 9) (x := x9) rfl dX12_bestBy_39 rfl ?_
    refine x_iload (pc2 := 43) 6 (n := 6) (x := x6) rfl dX12_bestBy_41 rfl ?_
    refine x_iload (pc2 := 45) 4 (n := 4) (x := x4) rfl dX12_bestBy_43 rfl ?_
    refine x_iload (pc2 := 47) 5 (n := 5) (x := x5) rfl dX12_bestBy_45 rfl ?_
    obtain ⟨k5, ht⟩ := ht
    refine x_callV (pc2 := 50) (As := [.int x9, .int x6, .int x4, .int x5]) (rest := []) (b := a0) mv_X12_thinksBy ml_X12_486 k5 rfl rfl (Nat.le_of_ble_eq_true rfl) hd1 dX12_bestBy_47 rfl (ht.mono (fun r2 h3 p4 ht' => ?_))
    clear ht
    obtain ⟨rfl, ht⟩ := ht'
    show Ex G d mX12_bestBy 50 [(0, .ref a0), (1, .int x1), (2, .int x2), (3, .int x3), (4, .int x4), (5, .int x5), (6, .int x6), (7, .int x7), (8, .int x8), (9, .int x9)] [] h3 Q
    refine x_aload_n (pc2 := 51) 0 (n := 0) (x := a0) rfl dX12_bestBy_50 rfl ?_
    refine x_iload_n (pc2 := 52) 1 (n := 1) (x := x1) rfl dX12_bestBy_51 rfl ?_
    refine x_iload_n (pc2 := 53) 3 (n := 3) (x := x3) rfl dX12_bestBy_52 rfl ?_
    refine x_callV (pc2 := 56) (As := [.int x1, .int x3]) (rest := []) (b := a0) mv_X12_canCome ml_X12_411 (k5.up p4) rfl rfl (Nat.le_of_ble_eq_true rfl) hd1 dX12_bestBy_53 rfl (ht.mono (fun r6 h7 p8 ht' => ?_))
    clear ht
    obtain ⟨v9, rfl, ht⟩ := ht'
    show Ex G d mX12_bestBy 56 [(0, .ref a0), (1, .int x1), (2, .int x2), (3, .int x3), (4, .int x4), (5, .int x5), (6, .int x6), (7, .int x7), (8, .int x8), (9, .int x9)] [.int v9] h7 Q
    refine y_if_ne (pc2 := 59) 62 dX12_bestBy_56 (by decide) rfl (fun c10 => ?_) (fun c10 => ?_)
    · replace ht := ht.1 c10
      refine x_aload_n (pc2 := 63) 0 (n := 0) (x := a0) rfl dX12_bestBy_62 rfl ?_
      refine x_dup (pc2 := 64) rfl dX12_bestBy_63 rfl ?_
      refine y_getI (pc2 := 67) (κ := 12) (k := 42) fl_X12_483 (by decide) (by decide) ((k5.up p4).up p8) rfl dX12_bestBy_64 rfl ?_
      refine x_iconst (pc2 := 68) (v := 1) (by decide) dX12_bestBy_67 rfl ?_
      refine x_iadd (pc2 := 69) dX12_bestBy_68 rfl ?_
      refine x_putI (pc2 := 72) (κ := 12) (k := 42) fl_X12_483 (by decide) (by decide) (Or.inl rfl) rfl ((k5.up p4).up p8) dX12_bestBy_69 rfl ?_
      refine x_aload_n (pc2 := 73) 0 (n := 0) (x := a0) rfl dX12_bestBy_72 rfl ?_
      refine x_iload_n (pc2 := 74) 2 (n := 2) (x := x2) rfl dX12_bestBy_73 rfl ?_
      refine x_iload_n (pc2 := 75) 3 (n := 3) (x := x3) rfl dX12_bestBy_74 rfl ?_
      refine x_callV (pc2 := 78) (As := [.int x2, .int x3]) (rest := []) (b := a0) mv_X12_wishOf ml_X12_420 ((k5.up p4).up p8).sI rfl rfl (Nat.le_of_ble_eq_true rfl) hd1 dX12_bestBy_75 rfl (ht.mono (fun r11 h12 p13 ht' => ?_))
      clear ht
      obtain ⟨v14, rfl, ht⟩ := ht'
      show Ex G d mX12_bestBy 78 [(0, .ref a0), (1, .int x1), (2, .int x2), (3, .int x3), (4, .int x4), (5, .int x5), (6, .int x6), (7, .int x7), (8, .int x8), (9, .int x9)] [.long v14] h12 Q
      refine x_lstore (pc2 := 80) [1, 2, 3, 4, 5, 6, 7, 8, 9, 10, 0] (n := 10) (x := v14) (lv2 := [(0, .ref a0), (1, .int x1), (2, .int x2), (3, .int x3), (4, .int x4), (5, .int x5), (6, .int x6), (7, .int x7), (8, .int x8), (9, .int x9), (10, .long v14)]) (by decide) rfl dX12_bestBy_78 rfl ?_
      refine x_iload (pc2 := 82) 7 (n := 7) (x := x7) rfl dX12_bestBy_80 rfl ?_
      refine x_if_lt (pc2 := 85) 117 dX12_bestBy_82 (by decide) rfl (fun c15 => ?_) (fun c15 => ?_)
      · replace ht := ht.1 c15
        exact ht
      · replace ht := ht.2 c15
        refine x_lload (pc2 := 87) 10 (n := 10) (x := v14) rfl dX12_bestBy_85 rfl ?_
        refine x_aload_n (pc2 := 88) 0 (n := 0) (x := a0) rfl dX12_bestBy_87 rfl ?_
        refine y_getL (pc2 := 91) (κ := 12) (k := 41) fl_X12_489 (by decide) (by decide) (((k5.up p4).up p8).sI.up p13) rfl dX12_bestBy_88 rfl ?_
        refine x_lcmp (pc2 := 92) dX12_bestBy_91 rfl ?_
        refine x_if_lt (pc2 := 95) 133 dX12_bestBy_92 (by decide) rfl (fun c16 => ?_) (fun c16 => ?_)
        · replace ht := ht.1 c16
          refine x_iinc (pc2 := 136) 9 [1, 2, 3, 4, 5, 6, 7, 8, 9, 0, 10] (i := 9) (x := x9) (v := (x9 + 1)) (lv2 := [(0, .ref a0), (1, .int x1), (2, .int x2), (3, .int x3), (4, .int x4), (5, .int x5), (6, .int x6), (7, .int x7), (8, .int x8), (9, .int (x9 + 1)), (10, .long v14)]) rfl (iinc_eq (by decide) _) (by decide) rfl dX12_bestBy_133 rfl ?_
          refine x_goto 22 dX12_bestBy_136 (by decide) ?_
          refine x_sub [0, 1, 2, 3, 4, 5, 6, 7, 8, 9] (lv2 := [(0, .ref a0), (1, .int x1), (2, .int x2), (3, .int x3), (4, .int x4), (5, .int x5), (6, .int x6), (7, .int x7), (8, .int x8), (9, .int (x9 + 1))]) rfl ?_
          exact ht
        · replace ht := ht.2 c16
          refine x_lload (pc2 := 97) 10 (n := 10) (x := v14) rfl dX12_bestBy_95 rfl ?_
          refine x_aload_n (pc2 := 98) 0 (n := 0) (x := a0) rfl dX12_bestBy_97 rfl ?_
          refine y_getL (pc2 := 101) (κ := 12) (k := 41) fl_X12_489 (by decide) (by decide) (((k5.up p4).up p8).sI.up p13) rfl dX12_bestBy_98 rfl ?_
          refine x_lcmp (pc2 := 102) dX12_bestBy_101 rfl ?_
          refine y_if_ne (pc2 := 105) 117 dX12_bestBy_102 (by decide) rfl (fun c17 => ?_) (fun c17 => ?_)
          · replace ht := ht.1 c17
            exact ht
          · replace ht := ht.2 c17
            refine x_aload_n (pc2 := 106) 0 (n := 0) (x := a0) rfl dX12_bestBy_105 rfl ?_
            refine x_callV (pc2 := 109) (As := []) (rest := []) (b := a0) mv_X12_lineOf ml_X12_493 (((k5.up p4).up p8).sI.up p13) rfl rfl (Nat.le_of_ble_eq_true rfl) hd1 dX12_bestBy_106 rfl (ht.mono (fun r18 h19 p20 ht' => ?_))
            clear ht
            obtain ⟨v21, rfl, ht⟩ := ht'
            show Ex G d mX12_bestBy 109 [(0, .ref a0), (1, .int x1), (2, .int x2), (3, .int x3), (4, .int x4), (5, .int x5), (6, .int x6), (7, .int x7), (8, .int x8), (9, .int x9), (10, .long v14)] [.int v21] h19 Q
            refine x_iload (pc2 := 111) 8 (n := 8) (x := x8) rfl dX12_bestBy_109 rfl ?_
            refine x_icmp_lt (pc2 := 114) 117 dX12_bestBy_111 (by decide) rfl (fun c22 => ?_) (fun c22 => ?_)
            · replace ht := ht.1 c22
              exact ht
            · replace ht := ht.2 c22
              refine x_goto 133 dX12_bestBy_114 (by decide) ?_
              refine x_iinc (pc2 := 136) 9 [1, 2, 3, 4, 5, 6, 7, 8, 9, 0, 10] (i := 9) (x := x9) (v := (x9 + 1)) (lv2 := [(0, .ref a0), (1, .int x1), (2, .int x2), (3, .int x3), (4, .int x4), (5, .int x5), (6, .int x6), (7, .int x7), (8, .int x8), (9, .int (x9 + 1)), (10, .long v14)]) rfl (iinc_eq (by decide) _) (by decide) rfl dX12_bestBy_133 rfl ?_
              refine x_goto 22 dX12_bestBy_136 (by decide) ?_
              refine x_sub [0, 1, 2, 3, 4, 5, 6, 7, 8, 9] (lv2 := [(0, .ref a0), (1, .int x1), (2, .int x2), (3, .int x3), (4, .int x4), (5, .int x5), (6, .int x6), (7, .int x7), (8, .int x8), (9, .int (x9 + 1))]) rfl ?_
              exact ht
    · replace ht := ht.2 c10
      refine x_goto 133 dX12_bestBy_59 (by decide) ?_
      refine x_iinc (pc2 := 136) 9 [1, 2, 3, 4, 5, 6, 7, 8, 9, 0] (i := 9) (x := x9) (v := (x9 + 1)) (lv2 := [(0, .ref a0), (1, .int x1), (2, .int x2), (3, .int x3), (4, .int x4), (5, .int x5), (6, .int x6), (7, .int x7), (8, .int x8), (9, .int (x9 + 1))]) rfl (iinc_eq (by decide) _) (by decide) rfl dX12_bestBy_133 rfl ?_
      refine x_goto 22 dX12_bestBy_136 (by decide) ?_
      exact ht
def T_X12_bestBy_117 (G : GG) (d : Nat) (h : HP) (Q : Option Value → HP → Prop) (a0 : Nat) (x1 : Int32) (x2 : Int32) (x3 : Int32) (x4 : Int32) (x5 : Int32) (x6 : Int32) (x7 : Int32) (x8 : Int32) (x9 : Int32) (y10 : Int64) : Prop :=
  Kd G h a0 12 ∧ Cal G (d - 1) mX12_lineOf [.ref a0] (sL h a0 41 y10) (fun r2 h3 => ∃ v5, r2 = some (.int v5) ∧ Ex G d mX12_bestBy 22 [(0, .ref a0), (1, .int x1), (2, .int x2), (3, .int x3), (4, .int x4), (5, .int x5), (6, .int x6), (7, .int x9), (8, .int v5), (9, .int (x9 + 1))] [] h3 Q)
set_option maxRecDepth 20000 in
theorem t_X12_bestBy_117 {G : GG} {d : Nat} {h : HP} {Q : Option Value → HP → Prop} {a0 : Nat} {x1 : Int32} {x2 : Int32} {x3 : Int32} {x4 : Int32} {x5 : Int32} {x6 : Int32} {x7 : Int32} {x8 : Int32} {x9 : Int32} {y10 : Int64} (hd1 : 1 ≤ d) (ht : T_X12_bestBy_117 G d h Q a0 x1 x2 x3 x4 x5 x6 x7 x8 x9 y10) : Ex G d mX12_bestBy 117 [(0, .ref a0), (1, .int x1), (2, .int x2), (3, .int x3), (4, .int x4), (5, .int x5), (6, .int x6), (7, .int x7), (8, .int x8), (9, .int x9), (10, .long y10)] [] h Q := by
  unfold T_X12_bestBy_117 at ht
  refine x_iload (pc2 := 119) 9 (n := 9) (x := x9) rfl dX12_bestBy_117 rfl ?_
  refine x_istore (pc2 := 121) [1, 2, 3, 4, 5, 6, 7, 0, 8, 9, 10] (n := 7) (x := x9) (lv2 := [(0, .ref a0), (1, .int x1), (2, .int x2), (3, .int x3), (4, .int x4), (5, .int x5), (6, .int x6), (7, .int x9), (8, .int x8), (9, .int x9), (10, .long y10)]) (by decide) rfl dX12_bestBy_119 rfl ?_
  refine x_aload_n (pc2 := 122) 0 (n := 0) (x := a0) rfl dX12_bestBy_121 rfl ?_
  refine x_lload (pc2 := 124) 10 (n := 10) (x := y10) rfl dX12_bestBy_122 rfl ?_
  obtain ⟨k1, ht⟩ := ht
  refine x_putL (pc2 := 127) (κ := 12) (k := 41) fl_X12_489 (by decide) (by decide) (Or.inl rfl) rfl k1 dX12_bestBy_124 rfl ?_
  refine x_aload_n (pc2 := 128) 0 (n := 0) (x := a0) rfl dX12_bestBy_127 rfl ?_
  refine x_callV (pc2 := 131) (As := []) (rest := []) (b := a0) mv_X12_lineOf ml_X12_493 k1.sL rfl rfl (Nat.le_of_ble_eq_true rfl) hd1 dX12_bestBy_128 rfl (ht.mono (fun r2 h3 p4 ht' => ?_))
  clear ht
  obtain ⟨v5, rfl, ht⟩ := ht'
  show Ex G d mX12_bestBy 131 [(0, .ref a0), (1, .int x1), (2, .int x2), (3, .int x3), (4, .int x4), (5, .int x5), (6, .int x6), (7, .int x9), (8, .int x8), (9, .int x9), (10, .long y10)] [.int v5] h3 Q
  refine x_istore (pc2 := 133) [1, 2, 3, 4, 5, 6, 7, 8, 0, 9, 10] (n := 8) (x := v5) (lv2 := [(0, .ref a0), (1, .int x1), (2, .int x2), (3, .int x3), (4, .int x4), (5, .int x5), (6, .int x6), (7, .int x9), (8, .int v5), (9, .int x9), (10, .long y10)]) (by decide) rfl dX12_bestBy_131 rfl ?_
  refine x_iinc (pc2 := 136) 9 [1, 2, 3, 4, 5, 6, 7, 8, 9, 0, 10] (i := 9) (x := x9) (v := (x9 + 1)) (lv2 := [(0, .ref a0), (1, .int x1), (2, .int x2), (3, .int x3), (4, .int x4), (5, .int x5), (6, .int x6), (7, .int x9), (8, .int v5), (9, .int (x9 + 1)), (10, .long y10)]) rfl (iinc_eq (by decide) _) (by decide) rfl dX12_bestBy_133 rfl ?_
  refine x_goto 22 dX12_bestBy_136 (by decide) ?_
  refine x_sub [0, 1, 2, 3, 4, 5, 6, 7, 8, 9] (lv2 := [(0, .ref a0), (1, .int x1), (2, .int x2), (3, .int x3), (4, .int x4), (5, .int x5), (6, .int x6), (7, .int x9), (8, .int v5), (9, .int (x9 + 1))]) rfl ?_
  exact ht
def T_X12_best (G : GG) (d : Nat) (h : HP) (Q : Option Value → HP → Prop) (a0 : Nat) (x1 : Int32) (x2 : Int32) (x3 : Int32) (x4 : Int32) (x5 : Int32) (x6 : Int32) (x7 : Int32) : Prop :=
  Kd G h a0 12 ∧ Cal G (d - 1) mX12_isText [.ref a0, .int 0, .int x1] h (fun r1 h2 => ∃ v5, r1 = some (.int v5) ∧ ((v5 = 0 → Q (some (.int (-1))) h2) ∧ (¬ v5 = 0 → Cal G (d - 1) mX12_isText [.ref a0, .int 1, .int x2] h2 (fun r7 h8 => ∃ v10, r7 = some (.int v10) ∧ ((v10 = 0 → Q (some (.int (-1))) h8) ∧ (¬ v10 = 0 → Cal G (d - 1) mX12_areAsked [.ref a0, .int x3, .int x4, .int x5] h8 (fun r12 h13 => ∃ v15, r12 = some (.int v15) ∧ ((v15 = 0 → Q (some (.int (-1))) h13) ∧ (¬ v15 = 0 → Cal G (d - 1) mX12_in [.long (x6.toInt64), .long 1, .long 4] h13 (fun r17 h18 => ∃ v20, r17 = some (.int v20) ∧ ((v20 = 0 → Q (some (.int (-1))) h18) ∧ (¬ v20 = 0 → Cal G (d - 1) mX12_in [.long (x7.toInt64), .long 0, .long 4] h18 (fun r22 h23 => ∃ v25, r22 = some (.int v25) ∧ ((¬ v25 = 0 → Cal G (d - 1) mX12_bestBy [.ref a0, .int x1, .int x2, .int x3, .int x4, .int x5, .int x6] h23 (fun r27 h28 => ∃ v30, r27 = some (.int v30) ∧ ((¬ x7 = 4 → ((0 ≤ v30 → Cal G (d - 1) mX12_margin [.ref a0, .int v30, .int x6, .int x7] h28 (fun r33 h34 => ∃ v36, r33 = some (.int v36) ∧ Q (some (.int v36)) h34)) ∧ (¬ 0 ≤ v30 → Q (some (.int (-2))) h28))) ∧ (x7 = 4 → Q (some (.int (hI h28 a0 42))) h28)))) ∧ (v25 = 0 → Q (some (.int (-1))) h23)))))))))))))))
set_option maxRecDepth 20000 in
theorem t_X12_best {G : GG} {d : Nat} {h : HP} {Q : Option Value → HP → Prop} {a0 : Nat} {x1 : Int32} {x2 : Int32} {x3 : Int32} {x4 : Int32} {x5 : Int32} {x6 : Int32} {x7 : Int32} (hd1 : 1 ≤ d) (ht : T_X12_best G d h Q a0 x1 x2 x3 x4 x5 x6 x7) : Ex G d mX12_best 0 [(0, .ref a0), (1, .int x1), (2, .int x2), (3, .int x3), (4, .int x4), (5, .int x5), (6, .int x6), (7, .int x7)] [] h Q := by
  unfold T_X12_best at ht
  refine x_aload_n (pc2 := 1) 0 (n := 0) (x := a0) rfl dX12_best_0 rfl ?_
  refine x_iconst (pc2 := 2) (v := 0) (by decide) dX12_best_1 rfl ?_
  refine x_iload_n (pc2 := 3) 1 (n := 1) (x := x1) rfl dX12_best_2 rfl ?_
  obtain ⟨k4, ht⟩ := ht
  refine x_callV (pc2 := 6) (As := [.int 0, .int x1]) (rest := []) (b := a0) mv_X12_isText ml_X12_402 k4 rfl rfl (Nat.le_of_ble_eq_true rfl) hd1 dX12_best_3 rfl (ht.mono (fun r1 h2 p3 ht' => ?_))
  clear ht
  obtain ⟨v5, rfl, ht⟩ := ht'
  show Ex G d mX12_best 6 [(0, .ref a0), (1, .int x1), (2, .int x2), (3, .int x3), (4, .int x4), (5, .int x5), (6, .int x6), (7, .int x7)] [.int v5] h2 Q
  refine x_if_eq (pc2 := 9) 56 dX12_best_6 (by decide) rfl (fun c6 => ?_) (fun c6 => ?_)
  · replace ht := ht.1 c6
    refine x_iconst (pc2 := 57) (v := (-1)) (by decide) dX12_best_56 rfl ?_
    exact x_ret (ty := .int) rfl rfl dX12_best_57 ht
  · replace ht := ht.2 c6
    refine x_aload_n (pc2 := 10) 0 (n := 0) (x := a0) rfl dX12_best_9 rfl ?_
    refine x_iconst (pc2 := 11) (v := 1) (by decide) dX12_best_10 rfl ?_
    refine x_iload_n (pc2 := 12) 2 (n := 2) (x := x2) rfl dX12_best_11 rfl ?_
    refine x_callV (pc2 := 15) (As := [.int 1, .int x2]) (rest := []) (b := a0) mv_X12_isText ml_X12_402 (k4.up p3) rfl rfl (Nat.le_of_ble_eq_true rfl) hd1 dX12_best_12 rfl (ht.mono (fun r7 h8 p9 ht' => ?_))
    clear ht
    obtain ⟨v10, rfl, ht⟩ := ht'
    show Ex G d mX12_best 15 [(0, .ref a0), (1, .int x1), (2, .int x2), (3, .int x3), (4, .int x4), (5, .int x5), (6, .int x6), (7, .int x7)] [.int v10] h8 Q
    refine x_if_eq (pc2 := 18) 56 dX12_best_15 (by decide) rfl (fun c11 => ?_) (fun c11 => ?_)
    · replace ht := ht.1 c11
      refine x_iconst (pc2 := 57) (v := (-1)) (by decide) dX12_best_56 rfl ?_
      exact x_ret (ty := .int) rfl rfl dX12_best_57 ht
    · replace ht := ht.2 c11
      refine x_aload_n (pc2 := 19) 0 (n := 0) (x := a0) rfl dX12_best_18 rfl ?_
      refine x_iload_n (pc2 := 20) 3 (n := 3) (x := x3) rfl dX12_best_19 rfl ?_
      refine x_iload (pc2 := 22) 4 (n := 4) (x := x4) rfl dX12_best_20 rfl ?_
      refine x_iload (pc2 := 24) 5 (n := 5) (x := x5) rfl dX12_best_22 rfl ?_
      refine x_callV (pc2 := 27) (As := [.int x3, .int x4, .int x5]) (rest := []) (b := a0) mv_X12_areAsked ml_X12_405 ((k4.up p3).up p9) rfl rfl (Nat.le_of_ble_eq_true rfl) hd1 dX12_best_24 rfl (ht.mono (fun r12 h13 p14 ht' => ?_))
      clear ht
      obtain ⟨v15, rfl, ht⟩ := ht'
      show Ex G d mX12_best 27 [(0, .ref a0), (1, .int x1), (2, .int x2), (3, .int x3), (4, .int x4), (5, .int x5), (6, .int x6), (7, .int x7)] [.int v15] h13 Q
      refine x_if_eq (pc2 := 30) 56 dX12_best_27 (by decide) rfl (fun c16 => ?_) (fun c16 => ?_)
      · replace ht := ht.1 c16
        refine x_iconst (pc2 := 57) (v := (-1)) (by decide) dX12_best_56 rfl ?_
        exact x_ret (ty := .int) rfl rfl dX12_best_57 ht
      · replace ht := ht.2 c16
        refine x_iload (pc2 := 32) 6 (n := 6) (x := x6) rfl dX12_best_30 rfl ?_
        refine x_i2l (pc2 := 33) dX12_best_32 rfl ?_
        refine x_lconst (pc2 := 34) (v := 1) (by decide) dX12_best_33 rfl ?_
        refine x_ldc2 (pc2 := 37) (v := 4) ct_X12_496 dX12_best_34 rfl ?_
        refine x_callS (pc2 := 40) (As := [.long (x6.toInt64), .long 1, .long 4]) (rest := []) ms_X12_in ml_X12_112 rfl rfl (Nat.le_of_ble_eq_true rfl) hd1 dX12_best_37 rfl (ht.mono (fun r17 h18 p19 ht' => ?_))
        clear ht
        obtain ⟨v20, rfl, ht⟩ := ht'
        show Ex G d mX12_best 40 [(0, .ref a0), (1, .int x1), (2, .int x2), (3, .int x3), (4, .int x4), (5, .int x5), (6, .int x6), (7, .int x7)] [.int v20] h18 Q
        refine x_if_eq (pc2 := 43) 56 dX12_best_40 (by decide) rfl (fun c21 => ?_) (fun c21 => ?_)
        · replace ht := ht.1 c21
          refine x_iconst (pc2 := 57) (v := (-1)) (by decide) dX12_best_56 rfl ?_
          exact x_ret (ty := .int) rfl rfl dX12_best_57 ht
        · replace ht := ht.2 c21
          refine x_iload (pc2 := 45) 7 (n := 7) (x := x7) rfl dX12_best_43 rfl ?_
          refine x_i2l (pc2 := 46) dX12_best_45 rfl ?_
          refine x_lconst (pc2 := 47) (v := 0) (by decide) dX12_best_46 rfl ?_
          refine x_ldc2 (pc2 := 50) (v := 4) ct_X12_496 dX12_best_47 rfl ?_
          refine x_callS (pc2 := 53) (As := [.long (x7.toInt64), .long 0, .long 4]) (rest := []) ms_X12_in ml_X12_112 rfl rfl (Nat.le_of_ble_eq_true rfl) hd1 dX12_best_50 rfl (ht.mono (fun r22 h23 p24 ht' => ?_))
          clear ht
          obtain ⟨v25, rfl, ht⟩ := ht'
          show Ex G d mX12_best 53 [(0, .ref a0), (1, .int x1), (2, .int x2), (3, .int x3), (4, .int x4), (5, .int x5), (6, .int x6), (7, .int x7)] [.int v25] h23 Q
          refine y_if_ne (pc2 := 56) 58 dX12_best_53 (by decide) rfl (fun c26 => ?_) (fun c26 => ?_)
          · replace ht := ht.1 c26
            refine x_aload_n (pc2 := 59) 0 (n := 0) (x := a0) rfl dX12_best_58 rfl ?_
            refine x_iload_n (pc2 := 60) 1 (n := 1) (x := x1) rfl dX12_best_59 rfl ?_
            refine x_iload_n (pc2 := 61) 2 (n := 2) (x := x2) rfl dX12_best_60 rfl ?_
            refine x_iload_n (pc2 := 62) 3 (n := 3) (x := x3) rfl dX12_best_61 rfl ?_
            refine x_iload (pc2 := 64) 4 (n := 4) (x := x4) rfl dX12_best_62 rfl ?_
            refine x_iload (pc2 := 66) 5 (n := 5) (x := x5) rfl dX12_best_64 rfl ?_
            refine x_iload (pc2 := 68) 6 (n := 6) (x := x6) rfl dX12_best_66 rfl ?_
            refine x_callV (pc2 := 71) (As := [.int x1, .int x2, .int x3, .int x4, .int x5, .int x6]) (rest := []) (b := a0) mv_X12_bestBy ml_X12_498 (((((k4.up p3).up p9).up p14).up p19).up p24) rfl rfl (Nat.le_of_ble_eq_true rfl) hd1 dX12_best_68 rfl (ht.mono (fun r27 h28 p29 ht' => ?_))
            clear ht
            obtain ⟨v30, rfl, ht⟩ := ht'
            show Ex G d mX12_best 71 [(0, .ref a0), (1, .int x1), (2, .int x2), (3, .int x3), (4, .int x4), (5, .int x5), (6, .int x6), (7, .int x7)] [.int v30] h28 Q
            refine x_istore (pc2 := 73) [1, 2, 3, 4, 5, 6, 7, 8, 0] (n := 8) (x := v30) (lv2 := [(0, .ref a0), (1, .int x1), (2, .int x2), (3, .int x3), (4, .int x4), (5, .int x5), (6, .int x6), (7, .int x7), (8, .int v30)]) (by decide) rfl dX12_best_71 rfl ?_
            refine x_iload (pc2 := 75) 7 (n := 7) (x := x7) rfl dX12_best_73 rfl ?_
            refine x_iconst (pc2 := 76) (v := 4) (by decide) dX12_best_75 rfl ?_
            refine y_icmp_ne (pc2 := 79) 86 dX12_best_76 (by decide) rfl (fun c31 => ?_) (fun c31 => ?_)
            · replace ht := ht.1 c31
              refine x_iload (pc2 := 88) 8 (n := 8) (x := v30) rfl dX12_best_86 rfl ?_
              refine x_if_ge (pc2 := 91) 96 dX12_best_88 (by decide) rfl (fun c32 => ?_) (fun c32 => ?_)
              · replace ht := ht.1 c32
                refine x_aload_n (pc2 := 97) 0 (n := 0) (x := a0) rfl dX12_best_96 rfl ?_
                refine x_iload (pc2 := 99) 8 (n := 8) (x := v30) rfl dX12_best_97 rfl ?_
                refine x_iload (pc2 := 101) 6 (n := 6) (x := x6) rfl dX12_best_99 rfl ?_
                refine x_iload (pc2 := 103) 7 (n := 7) (x := x7) rfl dX12_best_101 rfl ?_
                refine x_callV (pc2 := 106) (As := [.int v30, .int x6, .int x7]) (rest := []) (b := a0) mv_X12_margin ml_X12_476 ((((((k4.up p3).up p9).up p14).up p19).up p24).up p29) rfl rfl (Nat.le_of_ble_eq_true rfl) hd1 dX12_best_103 rfl (ht.mono (fun r33 h34 p35 ht' => ?_))
                clear ht
                obtain ⟨v36, rfl, ht⟩ := ht'
                show Ex G d mX12_best 106 [(0, .ref a0), (1, .int x1), (2, .int x2), (3, .int x3), (4, .int x4), (5, .int x5), (6, .int x6), (7, .int x7), (8, .int v30)] [.int v36] h34 Q
                exact x_ret (ty := .int) rfl rfl dX12_best_106 ht
              · replace ht := ht.2 c32
                refine x_bipush (pc2 := 93) (v := (-2)) (by decide) dX12_best_91 rfl ?_
                refine x_goto 106 dX12_best_93 (by decide) ?_
                exact x_ret (ty := .int) rfl rfl dX12_best_106 ht
            · replace ht := ht.2 c31
              refine x_aload_n (pc2 := 80) 0 (n := 0) (x := a0) rfl dX12_best_79 rfl ?_
              refine y_getI (pc2 := 83) (κ := 12) (k := 42) fl_X12_483 (by decide) (by decide) ((((((k4.up p3).up p9).up p14).up p19).up p24).up p29) rfl dX12_best_80 rfl ?_
              refine x_goto 106 dX12_best_83 (by decide) ?_
              exact x_ret (ty := .int) rfl rfl dX12_best_106 ht
          · replace ht := ht.2 c26
            refine x_iconst (pc2 := 57) (v := (-1)) (by decide) dX12_best_56 rfl ?_
            exact x_ret (ty := .int) rfl rfl dX12_best_57 ht
theorem e_X12_best {G : GG} {d : Nat} {h : HP} {Q : Option Value → HP → Prop} {a0 : Nat} {x1 : Int32} {x2 : Int32} {x3 : Int32} {x4 : Int32} {x5 : Int32} {x6 : Int32} {x7 : Int32} (hd1 : 1 ≤ d) (ht : T_X12_best G d h Q a0 x1 x2 x3 x4 x5 x6 x7) : Cal G d mX12_best [.ref a0, .int x1, .int x2, .int x3, .int x4, .int x5, .int x6, .int x7] h Q := cal_of rfl (Nat.le_of_ble_eq_true rfl) (t_X12_best hd1 ht)
def T_X12_ahead (G : GG) (d : Nat) (h : HP) (Q : Option Value → HP → Prop) (a0 : Nat) (x1 : Int32) (x2 : Int32) (x3 : Int32) (x4 : Int32) (x5 : Int32) (x6 : Int32) (x7 : Int32) : Prop :=
  Kd G h a0 12 ∧ Cal G (d - 1) mX12_isText [.ref a0, .int 0, .int x1] h (fun r1 h2 => ∃ v5, r1 = some (.int v5) ∧ ((v5 = 0 → Q (some (.int (-1))) h2) ∧ (¬ v5 = 0 → Cal G (d - 1) mX12_isText [.ref a0, .int 1, .int x2] h2 (fun r7 h8 => ∃ v10, r7 = some (.int v10) ∧ ((v10 = 0 → Q (some (.int (-1))) h8) ∧ (¬ v10 = 0 → Cal G (d - 1) mX12_areAsked [.ref a0, .int x3, .int x5, .int (-1)] h8 (fun r12 h13 => ∃ v15, r12 = some (.int v15) ∧ ((v15 = 0 → Q (some (.int (-1))) h13) ∧ (¬ v15 = 0 → Cal G (d - 1) mX12_isFamily [.int x4] h13 (fun r17 h18 => ∃ v20, r17 = some (.int v20) ∧ ((v20 = 0 → Q (some (.int (-1))) h18) ∧ (¬ v20 = 0 → ((x4 = x3 → Q (some (.int (-1))) h18) ∧ (¬ x4 = x3 → Cal G (d - 1) mX12_in [.long (x6.toInt64), .long 1, .long 2] h18 (fun r23 h24 => ∃ v26, r23 = some (.int v26) ∧ ((v26 = 0 → Q (some (.int (-1))) h24) ∧ (¬ v26 = 0 → Cal G (d - 1) mX12_in [.long (x7.toInt64), .long 0, .long 3] h24 (fun r28 h29 => ∃ v31, r28 = some (.int v31) ∧ ((¬ v31 = 0 → Ex G d mX12_ahead 83 [(0, .ref a0), (1, .int x1), (2, .int x2), (3, .int x3), (4, .int x4), (5, .int x5), (6, .int x6), (7, .int x7), (8, .int (-1)), (9, .int 0), (10, .long 0), (12, .int 0)] [] h29 Q) ∧ (v31 = 0 → Q (some (.int (-1))) h29))))))))))))))))))))
set_option maxRecDepth 20000 in
theorem t_X12_ahead {G : GG} {d : Nat} {h : HP} {Q : Option Value → HP → Prop} {a0 : Nat} {x1 : Int32} {x2 : Int32} {x3 : Int32} {x4 : Int32} {x5 : Int32} {x6 : Int32} {x7 : Int32} (hd1 : 1 ≤ d) (ht : T_X12_ahead G d h Q a0 x1 x2 x3 x4 x5 x6 x7) : Ex G d mX12_ahead 0 [(0, .ref a0), (1, .int x1), (2, .int x2), (3, .int x3), (4, .int x4), (5, .int x5), (6, .int x6), (7, .int x7)] [] h Q := by
  unfold T_X12_ahead at ht
  refine x_aload_n (pc2 := 1) 0 (n := 0) (x := a0) rfl dX12_ahead_0 rfl ?_
  refine x_iconst (pc2 := 2) (v := 0) (by decide) dX12_ahead_1 rfl ?_
  refine x_iload_n (pc2 := 3) 1 (n := 1) (x := x1) rfl dX12_ahead_2 rfl ?_
  obtain ⟨k4, ht⟩ := ht
  refine x_callV (pc2 := 6) (As := [.int 0, .int x1]) (rest := []) (b := a0) mv_X12_isText ml_X12_402 k4 rfl rfl (Nat.le_of_ble_eq_true rfl) hd1 dX12_ahead_3 rfl (ht.mono (fun r1 h2 p3 ht' => ?_))
  clear ht
  obtain ⟨v5, rfl, ht⟩ := ht'
  show Ex G d mX12_ahead 6 [(0, .ref a0), (1, .int x1), (2, .int x2), (3, .int x3), (4, .int x4), (5, .int x5), (6, .int x6), (7, .int x7)] [.int v5] h2 Q
  refine x_if_eq (pc2 := 9) 69 dX12_ahead_6 (by decide) rfl (fun c6 => ?_) (fun c6 => ?_)
  · replace ht := ht.1 c6
    refine x_iconst (pc2 := 70) (v := (-1)) (by decide) dX12_ahead_69 rfl ?_
    exact x_ret (ty := .int) rfl rfl dX12_ahead_70 ht
  · replace ht := ht.2 c6
    refine x_aload_n (pc2 := 10) 0 (n := 0) (x := a0) rfl dX12_ahead_9 rfl ?_
    refine x_iconst (pc2 := 11) (v := 1) (by decide) dX12_ahead_10 rfl ?_
    refine x_iload_n (pc2 := 12) 2 (n := 2) (x := x2) rfl dX12_ahead_11 rfl ?_
    refine x_callV (pc2 := 15) (As := [.int 1, .int x2]) (rest := []) (b := a0) mv_X12_isText ml_X12_402 (k4.up p3) rfl rfl (Nat.le_of_ble_eq_true rfl) hd1 dX12_ahead_12 rfl (ht.mono (fun r7 h8 p9 ht' => ?_))
    clear ht
    obtain ⟨v10, rfl, ht⟩ := ht'
    show Ex G d mX12_ahead 15 [(0, .ref a0), (1, .int x1), (2, .int x2), (3, .int x3), (4, .int x4), (5, .int x5), (6, .int x6), (7, .int x7)] [.int v10] h8 Q
    refine x_if_eq (pc2 := 18) 69 dX12_ahead_15 (by decide) rfl (fun c11 => ?_) (fun c11 => ?_)
    · replace ht := ht.1 c11
      refine x_iconst (pc2 := 70) (v := (-1)) (by decide) dX12_ahead_69 rfl ?_
      exact x_ret (ty := .int) rfl rfl dX12_ahead_70 ht
    · replace ht := ht.2 c11
      refine x_aload_n (pc2 := 19) 0 (n := 0) (x := a0) rfl dX12_ahead_18 rfl ?_
      refine x_iload_n (pc2 := 20) 3 (n := 3) (x := x3) rfl dX12_ahead_19 rfl ?_
      refine x_iload (pc2 := 22) 5 (n := 5) (x := x5) rfl dX12_ahead_20 rfl ?_
      refine x_iconst (pc2 := 23) (v := (-1)) (by decide) dX12_ahead_22 rfl ?_
      refine x_callV (pc2 := 26) (As := [.int x3, .int x5, .int (-1)]) (rest := []) (b := a0) mv_X12_areAsked ml_X12_405 ((k4.up p3).up p9) rfl rfl (Nat.le_of_ble_eq_true rfl) hd1 dX12_ahead_23 rfl (ht.mono (fun r12 h13 p14 ht' => ?_))
      clear ht
      obtain ⟨v15, rfl, ht⟩ := ht'
      show Ex G d mX12_ahead 26 [(0, .ref a0), (1, .int x1), (2, .int x2), (3, .int x3), (4, .int x4), (5, .int x5), (6, .int x6), (7, .int x7)] [.int v15] h13 Q
      refine x_if_eq (pc2 := 29) 69 dX12_ahead_26 (by decide) rfl (fun c16 => ?_) (fun c16 => ?_)
      · replace ht := ht.1 c16
        refine x_iconst (pc2 := 70) (v := (-1)) (by decide) dX12_ahead_69 rfl ?_
        exact x_ret (ty := .int) rfl rfl dX12_ahead_70 ht
      · replace ht := ht.2 c16
        refine x_iload (pc2 := 31) 4 (n := 4) (x := x4) rfl dX12_ahead_29 rfl ?_
        refine x_callS (pc2 := 34) (As := [.int x4]) (rest := []) ms_X12_isFamily ml_X12_395 rfl rfl (Nat.le_of_ble_eq_true rfl) hd1 dX12_ahead_31 rfl (ht.mono (fun r17 h18 p19 ht' => ?_))
        clear ht
        obtain ⟨v20, rfl, ht⟩ := ht'
        show Ex G d mX12_ahead 34 [(0, .ref a0), (1, .int x1), (2, .int x2), (3, .int x3), (4, .int x4), (5, .int x5), (6, .int x6), (7, .int x7)] [.int v20] h18 Q
        refine x_if_eq (pc2 := 37) 69 dX12_ahead_34 (by decide) rfl (fun c21 => ?_) (fun c21 => ?_)
        · replace ht := ht.1 c21
          refine x_iconst (pc2 := 70) (v := (-1)) (by decide) dX12_ahead_69 rfl ?_
          exact x_ret (ty := .int) rfl rfl dX12_ahead_70 ht
        · replace ht := ht.2 c21
          refine x_iload (pc2 := 39) 4 (n := 4) (x := x4) rfl dX12_ahead_37 rfl ?_
          refine x_iload_n (pc2 := 40) 3 (n := 3) (x := x3) rfl dX12_ahead_39 rfl ?_
          refine x_icmp_eq (pc2 := 43) 69 dX12_ahead_40 (by decide) rfl (fun c22 => ?_) (fun c22 => ?_)
          · replace ht := ht.1 c22
            refine x_iconst (pc2 := 70) (v := (-1)) (by decide) dX12_ahead_69 rfl ?_
            exact x_ret (ty := .int) rfl rfl dX12_ahead_70 ht
          · replace ht := ht.2 c22
            refine x_iload (pc2 := 45) 6 (n := 6) (x := x6) rfl dX12_ahead_43 rfl ?_
            refine x_i2l (pc2 := 46) dX12_ahead_45 rfl ?_
            refine x_lconst (pc2 := 47) (v := 1) (by decide) dX12_ahead_46 rfl ?_
            refine x_ldc2 (pc2 := 50) (v := 2) ct_X12_345 dX12_ahead_47 rfl ?_
            refine x_callS (pc2 := 53) (As := [.long (x6.toInt64), .long 1, .long 2]) (rest := []) ms_X12_in ml_X12_112 rfl rfl (Nat.le_of_ble_eq_true rfl) hd1 dX12_ahead_50 rfl (ht.mono (fun r23 h24 p25 ht' => ?_))
            clear ht
            obtain ⟨v26, rfl, ht⟩ := ht'
            show Ex G d mX12_ahead 53 [(0, .ref a0), (1, .int x1), (2, .int x2), (3, .int x3), (4, .int x4), (5, .int x5), (6, .int x6), (7, .int x7)] [.int v26] h24 Q
            refine x_if_eq (pc2 := 56) 69 dX12_ahead_53 (by decide) rfl (fun c27 => ?_) (fun c27 => ?_)
            · replace ht := ht.1 c27
              refine x_iconst (pc2 := 70) (v := (-1)) (by decide) dX12_ahead_69 rfl ?_
              exact x_ret (ty := .int) rfl rfl dX12_ahead_70 ht
            · replace ht := ht.2 c27
              refine x_iload (pc2 := 58) 7 (n := 7) (x := x7) rfl dX12_ahead_56 rfl ?_
              refine x_i2l (pc2 := 59) dX12_ahead_58 rfl ?_
              refine x_lconst (pc2 := 60) (v := 0) (by decide) dX12_ahead_59 rfl ?_
              refine x_ldc2 (pc2 := 63) (v := 3) ct_X12_432 dX12_ahead_60 rfl ?_
              refine x_callS (pc2 := 66) (As := [.long (x7.toInt64), .long 0, .long 3]) (rest := []) ms_X12_in ml_X12_112 rfl rfl (Nat.le_of_ble_eq_true rfl) hd1 dX12_ahead_63 rfl (ht.mono (fun r28 h29 p30 ht' => ?_))
              clear ht
              obtain ⟨v31, rfl, ht⟩ := ht'
              show Ex G d mX12_ahead 66 [(0, .ref a0), (1, .int x1), (2, .int x2), (3, .int x3), (4, .int x4), (5, .int x5), (6, .int x6), (7, .int x7)] [.int v31] h29 Q
              refine y_if_ne (pc2 := 69) 71 dX12_ahead_66 (by decide) rfl (fun c32 => ?_) (fun c32 => ?_)
              · replace ht := ht.1 c32
                refine x_iconst (pc2 := 72) (v := (-1)) (by decide) dX12_ahead_71 rfl ?_
                refine x_istore (pc2 := 74) [1, 2, 3, 4, 5, 6, 7, 8, 0] (n := 8) (x := (-1)) (lv2 := [(0, .ref a0), (1, .int x1), (2, .int x2), (3, .int x3), (4, .int x4), (5, .int x5), (6, .int x6), (7, .int x7), (8, .int (-1))]) (by decide) rfl dX12_ahead_72 rfl ?_
                refine x_iconst (pc2 := 75) (v := 0) (by decide) dX12_ahead_74 rfl ?_
                refine x_istore (pc2 := 77) [1, 2, 3, 4, 5, 6, 7, 8, 9, 0] (n := 9) (x := 0) (lv2 := [(0, .ref a0), (1, .int x1), (2, .int x2), (3, .int x3), (4, .int x4), (5, .int x5), (6, .int x6), (7, .int x7), (8, .int (-1)), (9, .int 0)]) (by decide) rfl dX12_ahead_75 rfl ?_
                refine x_lconst (pc2 := 78) (v := 0) (by decide) dX12_ahead_77 rfl ?_
                refine x_lstore (pc2 := 80) [1, 2, 3, 4, 5, 6, 7, 8, 9, 10, 0] (n := 10) (x := 0) (lv2 := [(0, .ref a0), (1, .int x1), (2, .int x2), (3, .int x3), (4, .int x4), (5, .int x5), (6, .int x6), (7, .int x7), (8, .int (-1)), (9, .int 0), (10, .long 0)]) (by decide) rfl dX12_ahead_78 rfl ?_
                refine x_iconst (pc2 := 81) (v := 0) (by decide) dX12_ahead_80 rfl ?_
                refine x_istore (pc2 := 83) [1, 2, 3, 4, 5, 6, 7, 8, 9, 10, 11, 0] (n := 12) (x := 0) (lv2 := [(0, .ref a0), (1, .int x1), (2, .int x2), (3, .int x3), (4, .int x4), (5, .int x5), (6, .int x6), (7, .int x7), (8, .int (-1)), (9, .int 0), (10, .long 0), (12, .int 0)]) (by decide) rfl dX12_ahead_81 rfl ?_
                exact ht
              · replace ht := ht.2 c32
                refine x_iconst (pc2 := 70) (v := (-1)) (by decide) dX12_ahead_69 rfl ?_
                exact x_ret (ty := .int) rfl rfl dX12_ahead_70 ht
theorem e_X12_ahead {G : GG} {d : Nat} {h : HP} {Q : Option Value → HP → Prop} {a0 : Nat} {x1 : Int32} {x2 : Int32} {x3 : Int32} {x4 : Int32} {x5 : Int32} {x6 : Int32} {x7 : Int32} (hd1 : 1 ≤ d) (ht : T_X12_ahead G d h Q a0 x1 x2 x3 x4 x5 x6 x7) : Cal G d mX12_ahead [.ref a0, .int x1, .int x2, .int x3, .int x4, .int x5, .int x6, .int x7] h Q := cal_of rfl (Nat.le_of_ble_eq_true rfl) (t_X12_ahead hd1 ht)
def T_X12_ahead_83 (G : GG) (d : Nat) (h : HP) (Q : Option Value → HP → Prop) (a0 : Nat) (x1 : Int32) (x2 : Int32) (x3 : Int32) (x4 : Int32) (x5 : Int32) (x6 : Int32) (x7 : Int32) (x8 : Int32) (x9 : Int32) (y10 : Int64) (x12 : Int32) : Prop :=
  (((((x6 * x6) * x6) * x6) ≤ x12 → ((0 ≤ x8 → Kd G h a0 12 ∧ Cal G (d - 1) mX12_margin [.ref a0, .int x8, .int x6, .int x7] h (fun r3 h4 => ∃ v7, r3 = some (.int v7) ∧ Q (some (.int v7)) h4)) ∧ (¬ 0 ≤ x8 → Q (some (.int (-2))) h))) ∧ (¬ (((x6 * x6) * x6) * x6) ≤ x12 → Kd G h a0 12 ∧ Cal G (d - 1) mX12_bases [.ref a0, .int x5, .int (-1)] h (fun r8 h9 => r8 = none ∧ Cal G (d - 1) mX12_thinksBy [.ref a0, .int x12, .int x6, .int x5, .int (-1)] h9 (fun r12 h13 => r12 = none ∧ Cal G (d - 1) mX12_canCome [.ref a0, .int x1, .int x3] h13 (fun r15 h16 => ∃ v18, r15 = some (.int v18) ∧ ((¬ v18 = 0 → Cal G (d - 1) mX12_lineOf [.ref a0] h16 (fun r20 h21 => ∃ v23, r20 = some (.int v23) ∧ Cal G (d - 1) mX12_wishOf [.ref a0, .int x2, .int x3] h21 (fun r24 h25 => ∃ v27, r24 = some (.long v27) ∧ Cal G (d - 1) mX12_builds [.ref a0, .int 30, .int x3] h25 (fun r28 h29 => r28 = none ∧ Cal G (d - 1) mX12_bestBy [.ref a0, .int x1, .int x2, .int x4, .int 30, .int (-1), .int x6] h29 (fun r31 h32 => ∃ v34, r31 = some (.int v34) ∧ ((v34 < 0 → Ex G d mX12_ahead 184 [(0, .ref a0), (1, .int x1), (2, .int x2), (3, .int x3), (4, .int x4), (5, .int x5), (6, .int x6), (7, .int x7), (8, .int x8), (9, .int x9), (10, .long y10), (12, .int x12), (13, .int v23), (14, .long v27)] [] h32 Q) ∧ (¬ v34 < 0 → (((lg_cmp (hL h32 a0 41) 0) ≤ 0 → Ex G d mX12_ahead 184 [(0, .ref a0), (1, .int x1), (2, .int x2), (3, .int x3), (4, .int x4), (5, .int x5), (6, .int x6), (7, .int x7), (8, .int x8), (9, .int x9), (10, .long y10), (12, .int x12), (13, .int v23), (14, .long v27)] [] h32 Q) ∧ (¬ (lg_cmp (hL h32 a0 41) 0) ≤ 0 → Ex G d mX12_ahead 184 [(0, .ref a0), (1, .int x1), (2, .int x2), (3, .int x3), (4, .int x4), (5, .int x5), (6, .int x6), (7, .int x7), (8, .int x8), (9, .int x9), (10, .long y10), (12, .int x12), (13, .int v23), (14, .long (v27 - (hL h32 a0 41)))] [] h32 Q))))))))) ∧ (v18 = 0 → Ex G d mX12_ahead 83 [(0, .ref a0), (1, .int x1), (2, .int x2), (3, .int x3), (4, .int x4), (5, .int x5), (6, .int x6), (7, .int x7), (8, .int x8), (9, .int x9), (10, .long y10), (12, .int (x12 + 1))] [] h16 Q)))))))
set_option maxRecDepth 20000 in
theorem t_X12_ahead_83 {G : GG} {d : Nat} {h : HP} {Q : Option Value → HP → Prop} {a0 : Nat} {x1 : Int32} {x2 : Int32} {x3 : Int32} {x4 : Int32} {x5 : Int32} {x6 : Int32} {x7 : Int32} {x8 : Int32} {x9 : Int32} {y10 : Int64} {x12 : Int32} (hd1 : 1 ≤ d) (ht : T_X12_ahead_83 G d h Q a0 x1 x2 x3 x4 x5 x6 x7 x8 x9 y10 x12) : Ex G d mX12_ahead 83 [(0, .ref a0), (1, .int x1), (2, .int x2), (3, .int x3), (4, .int x4), (5, .int x5), (6, .int x6), (7, .int x7), (8, .int x8), (9, .int x9), (10, .long y10), (12, .int x12)] [] h Q := by
  unfold T_X12_ahead_83 at ht
  refine x_iload (pc2 := 85) 11 (n := 12) (x := x12) rfl dX12_ahead_83 rfl ?_
  refine x_iload (pc2 := 87) 6 (n := 6) (x := x6) rfl dX12_ahead_85 rfl ?_
  refine x_iload (pc2 := 89) 6 (n := 6) (x := x6) rfl dX12_ahead_87 rfl ?_
  refine x_imul (pc2 := 90) dX12_ahead_89 rfl ?_
  refine x_iload (pc2 := 92) 6 (n := 6) (x := x6) rfl dX12_ahead_90 rfl ?_
  refine x_imul (pc2 := 93) dX12_ahead_92 rfl ?_
  refine x_iload (pc2 := 95) 6 (n := 6) (x := x6) rfl dX12_ahead_93 rfl ?_
  refine x_imul (pc2 := 96) dX12_ahead_95 rfl ?_
  refine x_icmp_ge (pc2 := 99) 239 dX12_ahead_96 (by decide) rfl (fun c1 => ?_) (fun c1 => ?_)
  · replace ht := ht.1 c1
    refine x_iload (pc2 := 241) 8 (n := 8) (x := x8) rfl dX12_ahead_239 rfl ?_
    refine x_if_ge (pc2 := 244) 249 dX12_ahead_241 (by decide) rfl (fun c2 => ?_) (fun c2 => ?_)
    · replace ht := ht.1 c2
      refine x_aload_n (pc2 := 250) 0 (n := 0) (x := a0) rfl dX12_ahead_249 rfl ?_
      refine x_iload (pc2 := 252) 8 (n := 8) (x := x8) rfl dX12_ahead_250 rfl ?_
      refine x_iload (pc2 := 254) 6 (n := 6) (x := x6) rfl dX12_ahead_252 rfl ?_
      refine x_iload (pc2 := 256) 7 (n := 7) (x := x7) rfl dX12_ahead_254 rfl ?_
      obtain ⟨k6, ht⟩ := ht
      refine x_callV (pc2 := 259) (As := [.int x8, .int x6, .int x7]) (rest := []) (b := a0) mv_X12_margin ml_X12_476 k6 rfl rfl (Nat.le_of_ble_eq_true rfl) hd1 dX12_ahead_256 rfl (ht.mono (fun r3 h4 p5 ht' => ?_))
      clear ht
      obtain ⟨v7, rfl, ht⟩ := ht'
      show Ex G d mX12_ahead 259 [(0, .ref a0), (1, .int x1), (2, .int x2), (3, .int x3), (4, .int x4), (5, .int x5), (6, .int x6), (7, .int x7), (8, .int x8), (9, .int x9), (10, .long y10), (12, .int x12)] [.int v7] h4 Q
      exact x_ret (ty := .int) rfl rfl dX12_ahead_259 ht
    · replace ht := ht.2 c2
      refine x_bipush (pc2 := 246) (v := (-2)) (by decide) dX12_ahead_244 rfl ?_
      refine x_goto 259 dX12_ahead_246 (by decide) ?_
      exact x_ret (ty := .int) rfl rfl dX12_ahead_259 ht
  · replace ht := ht.2 c1
    refine x_aload_n (pc2 := 100) 0 (n := 0) (x := a0) rfl dX12_ahead_99 rfl ?_
    refine x_iload (pc2 := 102) 5 (n := 5) (x := x5) rfl dX12_ahead_100 rfl ?_
    refine x_iconst (pc2 := 103) (v := (-1)) (by decide) dX12_ahead_102 rfl ?_
    obtain ⟨k11, ht⟩ := ht
    refine x_callV (pc2 := 106) (As := [.int x5, .int (-1)]) (rest := []) (b := a0) mv_X12_bases ml_X12_480 k11 rfl rfl (Nat.le_of_ble_eq_true rfl) hd1 dX12_ahead_103 rfl (ht.mono (fun r8 h9 p10 ht' => ?_))
    clear ht
    obtain ⟨rfl, ht⟩ := ht'
    show Ex G d mX12_ahead 106 [(0, .ref a0), (1, .int x1), (2, .int x2), (3, .int x3), (4, .int x4), (5, .int x5), (6, .int x6), (7, .int x7), (8, .int x8), (9, .int x9), (10, .long y10), (12, .int x12)] [] h9 Q
    refine x_aload_n (pc2 := 107) 0 (n := 0) (x := a0) rfl dX12_ahead_106 rfl ?_
    refine x_iload (pc2 := 109) 11 (n := 12) (x := x12) rfl dX12_ahead_107 rfl ?_
    refine x_iload (pc2 := 111) 6 (n := 6) (x := x6) rfl dX12_ahead_109 rfl ?_
    refine x_iload (pc2 := 113) 5 (n := 5) (x := x5) rfl dX12_ahead_111 rfl ?_
    refine x_iconst (pc2 := 114) (v := (-1)) (by decide) dX12_ahead_113 rfl ?_
    refine x_callV (pc2 := 117) (As := [.int x12, .int x6, .int x5, .int (-1)]) (rest := []) (b := a0) mv_X12_thinksBy ml_X12_486 (k11.up p10) rfl rfl (Nat.le_of_ble_eq_true rfl) hd1 dX12_ahead_114 rfl (ht.mono (fun r12 h13 p14 ht' => ?_))
    clear ht
    obtain ⟨rfl, ht⟩ := ht'
    show Ex G d mX12_ahead 117 [(0, .ref a0), (1, .int x1), (2, .int x2), (3, .int x3), (4, .int x4), (5, .int x5), (6, .int x6), (7, .int x7), (8, .int x8), (9, .int x9), (10, .long y10), (12, .int x12)] [] h13 Q
    refine x_aload_n (pc2 := 118) 0 (n := 0) (x := a0) rfl dX12_ahead_117 rfl ?_
    refine x_iload_n (pc2 := 119) 1 (n := 1) (x := x1) rfl dX12_ahead_118 rfl ?_
    refine x_iload_n (pc2 := 120) 3 (n := 3) (x := x3) rfl dX12_ahead_119 rfl ?_
    refine x_callV (pc2 := 123) (As := [.int x1, .int x3]) (rest := []) (b := a0) mv_X12_canCome ml_X12_411 ((k11.up p10).up p14) rfl rfl (Nat.le_of_ble_eq_true rfl) hd1 dX12_ahead_120 rfl (ht.mono (fun r15 h16 p17 ht' => ?_))
    clear ht
    obtain ⟨v18, rfl, ht⟩ := ht'
    show Ex G d mX12_ahead 123 [(0, .ref a0), (1, .int x1), (2, .int x2), (3, .int x3), (4, .int x4), (5, .int x5), (6, .int x6), (7, .int x7), (8, .int x8), (9, .int x9), (10, .long y10), (12, .int x12)] [.int v18] h16 Q
    refine y_if_ne (pc2 := 126) 129 dX12_ahead_123 (by decide) rfl (fun c19 => ?_) (fun c19 => ?_)
    · replace ht := ht.1 c19
      refine x_aload_n (pc2 := 130) 0 (n := 0) (x := a0) rfl dX12_ahead_129 rfl ?_
      refine x_callV (pc2 := 133) (As := []) (rest := []) (b := a0) mv_X12_lineOf ml_X12_493 (((k11.up p10).up p14).up p17) rfl rfl (Nat.le_of_ble_eq_true rfl) hd1 dX12_ahead_130 rfl (ht.mono (fun r20 h21 p22 ht' => ?_))
      clear ht
      obtain ⟨v23, rfl, ht⟩ := ht'
      show Ex G d mX12_ahead 133 [(0, .ref a0), (1, .int x1), (2, .int x2), (3, .int x3), (4, .int x4), (5, .int x5), (6, .int x6), (7, .int x7), (8, .int x8), (9, .int x9), (10, .long y10), (12, .int x12)] [.int v23] h21 Q
      refine x_istore (pc2 := 135) [1, 2, 3, 4, 5, 6, 7, 8, 9, 10, 11, 12, 0] (n := 13) (x := v23) (lv2 := [(0, .ref a0), (1, .int x1), (2, .int x2), (3, .int x3), (4, .int x4), (5, .int x5), (6, .int x6), (7, .int x7), (8, .int x8), (9, .int x9), (10, .long y10), (12, .int x12), (13, .int v23)]) (by decide) rfl dX12_ahead_133 rfl ?_
      refine x_aload_n (pc2 := 136) 0 (n := 0) (x := a0) rfl dX12_ahead_135 rfl ?_
      refine x_iload_n (pc2 := 137) 2 (n := 2) (x := x2) rfl dX12_ahead_136 rfl ?_
      refine x_iload_n (pc2 := 138) 3 (n := 3) (x := x3) rfl dX12_ahead_137 rfl ?_
      refine x_callV (pc2 := 141) (As := [.int x2, .int x3]) (rest := []) (b := a0) mv_X12_wishOf ml_X12_420 ((((k11.up p10).up p14).up p17).up p22) rfl rfl (Nat.le_of_ble_eq_true rfl) hd1 dX12_ahead_138 rfl (ht.mono (fun r24 h25 p26 ht' => ?_))
      clear ht
      obtain ⟨v27, rfl, ht⟩ := ht'
      show Ex G d mX12_ahead 141 [(0, .ref a0), (1, .int x1), (2, .int x2), (3, .int x3), (4, .int x4), (5, .int x5), (6, .int x6), (7, .int x7), (8, .int x8), (9, .int x9), (10, .long y10), (12, .int x12), (13, .int v23)] [.long v27] h25 Q
      refine x_lstore (pc2 := 143) [1, 2, 3, 4, 5, 6, 7, 8, 9, 10, 11, 12, 13, 0] (n := 14) (x := v27) (lv2 := [(0, .ref a0), (1, .int x1), (2, .int x2), (3, .int x3), (4, .int x4), (5, .int x5), (6, .int x6), (7, .int x7), (8, .int x8), (9, .int x9), (10, .long y10), (12, .int x12), (13, .int v23), (14, .long v27)]) (by decide) rfl dX12_ahead_141 rfl ?_
      refine x_aload_n (pc2 := 144) 0 (n := 0) (x := a0) rfl dX12_ahead_143 rfl ?_
      refine x_bipush (pc2 := 146) (v := 30) (by decide) dX12_ahead_144 rfl ?_
      refine x_iload_n (pc2 := 147) 3 (n := 3) (x := x3) rfl dX12_ahead_146 rfl ?_
      refine x_callV (pc2 := 150) (As := [.int 30, .int x3]) (rest := []) (b := a0) mv_X12_builds ml_X12_417 (((((k11.up p10).up p14).up p17).up p22).up p26) rfl rfl (Nat.le_of_ble_eq_true rfl) hd1 dX12_ahead_147 rfl (ht.mono (fun r28 h29 p30 ht' => ?_))
      clear ht
      obtain ⟨rfl, ht⟩ := ht'
      show Ex G d mX12_ahead 150 [(0, .ref a0), (1, .int x1), (2, .int x2), (3, .int x3), (4, .int x4), (5, .int x5), (6, .int x6), (7, .int x7), (8, .int x8), (9, .int x9), (10, .long y10), (12, .int x12), (13, .int v23), (14, .long v27)] [] h29 Q
      refine x_aload_n (pc2 := 151) 0 (n := 0) (x := a0) rfl dX12_ahead_150 rfl ?_
      refine x_iload_n (pc2 := 152) 1 (n := 1) (x := x1) rfl dX12_ahead_151 rfl ?_
      refine x_iload_n (pc2 := 153) 2 (n := 2) (x := x2) rfl dX12_ahead_152 rfl ?_
      refine x_iload (pc2 := 155) 4 (n := 4) (x := x4) rfl dX12_ahead_153 rfl ?_
      refine x_bipush (pc2 := 157) (v := 30) (by decide) dX12_ahead_155 rfl ?_
      refine x_iconst (pc2 := 158) (v := (-1)) (by decide) dX12_ahead_157 rfl ?_
      refine x_iload (pc2 := 160) 6 (n := 6) (x := x6) rfl dX12_ahead_158 rfl ?_
      refine x_callV (pc2 := 163) (As := [.int x1, .int x2, .int x4, .int 30, .int (-1), .int x6]) (rest := []) (b := a0) mv_X12_bestBy ml_X12_498 ((((((k11.up p10).up p14).up p17).up p22).up p26).up p30) rfl rfl (Nat.le_of_ble_eq_true rfl) hd1 dX12_ahead_160 rfl (ht.mono (fun r31 h32 p33 ht' => ?_))
      clear ht
      obtain ⟨v34, rfl, ht⟩ := ht'
      show Ex G d mX12_ahead 163 [(0, .ref a0), (1, .int x1), (2, .int x2), (3, .int x3), (4, .int x4), (5, .int x5), (6, .int x6), (7, .int x7), (8, .int x8), (9, .int x9), (10, .long y10), (12, .int x12), (13, .int v23), (14, .long v27)] [.int v34] h32 Q
      refine x_if_lt (pc2 := 166) 184 dX12_ahead_163 (by decide) rfl (fun c35 => ?_) (fun c35 => ?_)
      · replace ht := ht.1 c35
        exact ht
      · replace ht := ht.2 c35
        refine x_aload_n (pc2 := 167) 0 (n := 0) (x := a0) rfl dX12_ahead_166 rfl ?_
        refine y_getL (pc2 := 170) (κ := 12) (k := 41) fl_X12_489 (by decide) (by decide) (((((((k11.up p10).up p14).up p17).up p22).up p26).up p30).up p33) rfl dX12_ahead_167 rfl ?_
        refine x_lconst (pc2 := 171) (v := 0) (by decide) dX12_ahead_170 rfl ?_
        refine x_lcmp (pc2 := 172) dX12_ahead_171 rfl ?_
        refine x_if_le (pc2 := 175) 184 dX12_ahead_172 (by decide) rfl (fun c36 => ?_) (fun c36 => ?_)
        · replace ht := ht.1 c36
          exact ht
        · replace ht := ht.2 c36
          refine x_lload (pc2 := 177) 13 (n := 14) (x := v27) rfl dX12_ahead_175 rfl ?_
          refine x_aload_n (pc2 := 178) 0 (n := 0) (x := a0) rfl dX12_ahead_177 rfl ?_
          refine y_getL (pc2 := 181) (κ := 12) (k := 41) fl_X12_489 (by decide) (by decide) (((((((k11.up p10).up p14).up p17).up p22).up p26).up p30).up p33) rfl dX12_ahead_178 rfl ?_
          refine x_lsub (pc2 := 182) dX12_ahead_181 rfl ?_
          refine x_lstore (pc2 := 184) [1, 2, 3, 4, 5, 6, 7, 8, 9, 10, 11, 12, 13, 0] (n := 14) (x := (v27 - (hL h32 a0 41))) (lv2 := [(0, .ref a0), (1, .int x1), (2, .int x2), (3, .int x3), (4, .int x4), (5, .int x5), (6, .int x6), (7, .int x7), (8, .int x8), (9, .int x9), (10, .long y10), (12, .int x12), (13, .int v23), (14, .long (v27 - (hL h32 a0 41)))]) (by decide) rfl dX12_ahead_182 rfl ?_
          exact ht
    · replace ht := ht.2 c19
      refine x_goto 233 dX12_ahead_126 (by decide) ?_
      refine x_iinc (pc2 := 236) 11 [1, 2, 3, 4, 5, 6, 7, 8, 9, 10, 11, 0] (i := 12) (x := x12) (v := (x12 + 1)) (lv2 := [(0, .ref a0), (1, .int x1), (2, .int x2), (3, .int x3), (4, .int x4), (5, .int x5), (6, .int x6), (7, .int x7), (8, .int x8), (9, .int x9), (10, .long y10), (12, .int (x12 + 1))]) rfl (iinc_eq (by decide) _) (by decide) rfl dX12_ahead_233 rfl ?_
      refine x_goto 83 dX12_ahead_236 (by decide) ?_
      exact ht
def T_X12_ahead_184 (G : GG) (d : Nat) (h : HP) (Q : Option Value → HP → Prop) (a0 : Nat) (x1 : Int32) (x2 : Int32) (x3 : Int32) (x4 : Int32) (x5 : Int32) (x6 : Int32) (x7 : Int32) (x8 : Int32) (x9 : Int32) (y10 : Int64) (x12 : Int32) (x13 : Int32) (y14 : Int64) : Prop :=
  Kd G h a0 12 ∧ Cal G (d - 1) mX12_pulls [.ref a0, .int 30] h (fun r1 h2 => r1 = none ∧ ((x8 < 0 → Ex G d mX12_ahead 83 [(0, .ref a0), (1, .int x1), (2, .int x2), (3, .int x3), (4, .int x4), (5, .int x5), (6, .int x6), (7, .int x7), (8, .int x12), (9, .int x13), (10, .long y14), (12, .int (x12 + 1))] [] h2 Q) ∧ (¬ x8 < 0 → (((lg_cmp y14 y10) < 0 → Ex G d mX12_ahead 83 [(0, .ref a0), (1, .int x1), (2, .int x2), (3, .int x3), (4, .int x4), (5, .int x5), (6, .int x6), (7, .int x7), (8, .int x8), (9, .int x9), (10, .long y10), (12, .int (x12 + 1))] [] h2 Q) ∧ (¬ (lg_cmp y14 y10) < 0 → ((¬ (lg_cmp y14 y10) = 0 → Ex G d mX12_ahead 83 [(0, .ref a0), (1, .int x1), (2, .int x2), (3, .int x3), (4, .int x4), (5, .int x5), (6, .int x6), (7, .int x7), (8, .int x12), (9, .int x13), (10, .long y14), (12, .int (x12 + 1))] [] h2 Q) ∧ ((lg_cmp y14 y10) = 0 → ((x13 < x9 → Ex G d mX12_ahead 83 [(0, .ref a0), (1, .int x1), (2, .int x2), (3, .int x3), (4, .int x4), (5, .int x5), (6, .int x6), (7, .int x7), (8, .int x12), (9, .int x13), (10, .long y14), (12, .int (x12 + 1))] [] h2 Q) ∧ (¬ x13 < x9 → Ex G d mX12_ahead 83 [(0, .ref a0), (1, .int x1), (2, .int x2), (3, .int x3), (4, .int x4), (5, .int x5), (6, .int x6), (7, .int x7), (8, .int x8), (9, .int x9), (10, .long y10), (12, .int (x12 + 1))] [] h2 Q)))))))))
set_option maxRecDepth 20000 in
theorem t_X12_ahead_184 {G : GG} {d : Nat} {h : HP} {Q : Option Value → HP → Prop} {a0 : Nat} {x1 : Int32} {x2 : Int32} {x3 : Int32} {x4 : Int32} {x5 : Int32} {x6 : Int32} {x7 : Int32} {x8 : Int32} {x9 : Int32} {y10 : Int64} {x12 : Int32} {x13 : Int32} {y14 : Int64} (hd1 : 1 ≤ d) (ht : T_X12_ahead_184 G d h Q a0 x1 x2 x3 x4 x5 x6 x7 x8 x9 y10 x12 x13 y14) : Ex G d mX12_ahead 184 [(0, .ref a0), (1, .int x1), (2, .int x2), (3, .int x3), (4, .int x4), (5, .int x5), (6, .int x6), (7, .int x7), (8, .int x8), (9, .int x9), (10, .long y10), (12, .int x12), (13, .int x13), (14, .long y14)] [] h Q := by
  unfold T_X12_ahead_184 at ht
  refine x_aload_n (pc2 := 185) 0 (n := 0) (x := a0) rfl dX12_ahead_184 rfl ?_
  refine x_bipush (pc2 := 187) (v := 30) (by decide) dX12_ahead_185 rfl ?_
  obtain ⟨k4, ht⟩ := ht
  refine x_callV (pc2 := 190) (As := [.int 30]) (rest := []) (b := a0) mv_X12_pulls ml_X12_426 k4 rfl rfl (Nat.le_of_ble_eq_true rfl) hd1 dX12_ahead_187 rfl (ht.mono (fun r1 h2 p3 ht' => ?_))
  clear ht
  obtain ⟨rfl, ht⟩ := ht'
  show Ex G d mX12_ahead 190 [(0, .ref a0), (1, .int x1), (2, .int x2), (3, .int x3), (4, .int x4), (5, .int x5), (6, .int x6), (7, .int x7), (8, .int x8), (9, .int x9), (10, .long y10), (12, .int x12), (13, .int x13), (14, .long y14)] [] h2 Q
  refine x_iload (pc2 := 192) 8 (n := 8) (x := x8) rfl dX12_ahead_190 rfl ?_
  refine x_if_lt (pc2 := 195) 221 dX12_ahead_192 (by decide) rfl (fun c5 => ?_) (fun c5 => ?_)
  · replace ht := ht.1 c5
    refine x_iload (pc2 := 223) 11 (n := 12) (x := x12) rfl dX12_ahead_221 rfl ?_
    refine x_istore (pc2 := 225) [1, 2, 3, 4, 5, 6, 7, 8, 0, 9, 10, 11, 12, 13] (n := 8) (x := x12) (lv2 := [(0, .ref a0), (1, .int x1), (2, .int x2), (3, .int x3), (4, .int x4), (5, .int x5), (6, .int x6), (7, .int x7), (8, .int x12), (9, .int x9), (10, .long y10), (12, .int x12), (13, .int x13), (14, .long y14)]) (by decide) rfl dX12_ahead_223 rfl ?_
    refine x_lload (pc2 := 227) 13 (n := 14) (x := y14) rfl dX12_ahead_225 rfl ?_
    refine x_lstore (pc2 := 229) [1, 2, 3, 4, 5, 6, 7, 8, 9, 10, 0, 11, 12, 13] (n := 10) (x := y14) (lv2 := [(0, .ref a0), (1, .int x1), (2, .int x2), (3, .int x3), (4, .int x4), (5, .int x5), (6, .int x6), (7, .int x7), (8, .int x12), (9, .int x9), (10, .long y14), (12, .int x12), (13, .int x13), (14, .long y14)]) (by decide) rfl dX12_ahead_227 rfl ?_
    refine x_iload (pc2 := 231) 12 (n := 13) (x := x13) rfl dX12_ahead_229 rfl ?_
    refine x_istore (pc2 := 233) [1, 2, 3, 4, 5, 6, 7, 8, 9, 0, 10, 11, 12, 13] (n := 9) (x := x13) (lv2 := [(0, .ref a0), (1, .int x1), (2, .int x2), (3, .int x3), (4, .int x4), (5, .int x5), (6, .int x6), (7, .int x7), (8, .int x12), (9, .int x13), (10, .long y14), (12, .int x12), (13, .int x13), (14, .long y14)]) (by decide) rfl dX12_ahead_231 rfl ?_
    refine x_iinc (pc2 := 236) 11 [1, 2, 3, 4, 5, 6, 7, 8, 9, 10, 11, 0, 12, 13] (i := 12) (x := x12) (v := (x12 + 1)) (lv2 := [(0, .ref a0), (1, .int x1), (2, .int x2), (3, .int x3), (4, .int x4), (5, .int x5), (6, .int x6), (7, .int x7), (8, .int x12), (9, .int x13), (10, .long y14), (12, .int (x12 + 1)), (13, .int x13), (14, .long y14)]) rfl (iinc_eq (by decide) _) (by decide) rfl dX12_ahead_233 rfl ?_
    refine x_goto 83 dX12_ahead_236 (by decide) ?_
    refine x_sub [0, 1, 2, 3, 4, 5, 6, 7, 8, 9, 10, 11] (lv2 := [(0, .ref a0), (1, .int x1), (2, .int x2), (3, .int x3), (4, .int x4), (5, .int x5), (6, .int x6), (7, .int x7), (8, .int x12), (9, .int x13), (10, .long y14), (12, .int (x12 + 1))]) rfl ?_
    exact ht
  · replace ht := ht.2 c5
    refine x_lload (pc2 := 197) 13 (n := 14) (x := y14) rfl dX12_ahead_195 rfl ?_
    refine x_lload (pc2 := 199) 10 (n := 10) (x := y10) rfl dX12_ahead_197 rfl ?_
    refine x_lcmp (pc2 := 200) dX12_ahead_199 rfl ?_
    refine x_if_lt (pc2 := 203) 233 dX12_ahead_200 (by decide) rfl (fun c6 => ?_) (fun c6 => ?_)
    · replace ht := ht.1 c6
      refine x_iinc (pc2 := 236) 11 [1, 2, 3, 4, 5, 6, 7, 8, 9, 10, 11, 0, 12, 13] (i := 12) (x := x12) (v := (x12 + 1)) (lv2 := [(0, .ref a0), (1, .int x1), (2, .int x2), (3, .int x3), (4, .int x4), (5, .int x5), (6, .int x6), (7, .int x7), (8, .int x8), (9, .int x9), (10, .long y10), (12, .int (x12 + 1)), (13, .int x13), (14, .long y14)]) rfl (iinc_eq (by decide) _) (by decide) rfl dX12_ahead_233 rfl ?_
      refine x_goto 83 dX12_ahead_236 (by decide) ?_
      refine x_sub [0, 1, 2, 3, 4, 5, 6, 7, 8, 9, 10, 11] (lv2 := [(0, .ref a0), (1, .int x1), (2, .int x2), (3, .int x3), (4, .int x4), (5, .int x5), (6, .int x6), (7, .int x7), (8, .int x8), (9, .int x9), (10, .long y10), (12, .int (x12 + 1))]) rfl ?_
      exact ht
    · replace ht := ht.2 c6
      refine x_lload (pc2 := 205) 13 (n := 14) (x := y14) rfl dX12_ahead_203 rfl ?_
      refine x_lload (pc2 := 207) 10 (n := 10) (x := y10) rfl dX12_ahead_205 rfl ?_
      refine x_lcmp (pc2 := 208) dX12_ahead_207 rfl ?_
      refine y_if_ne (pc2 := 211) 221 dX12_ahead_208 (by decide) rfl (fun c7 => ?_) (fun c7 => ?_)
      · replace ht := ht.1 c7
        refine x_iload (pc2 := 223) 11 (n := 12) (x := x12) rfl dX12_ahead_221 rfl ?_
        refine x_istore (pc2 := 225) [1, 2, 3, 4, 5, 6, 7, 8, 0, 9, 10, 11, 12, 13] (n := 8) (x := x12) (lv2 := [(0, .ref a0), (1, .int x1), (2, .int x2), (3, .int x3), (4, .int x4), (5, .int x5), (6, .int x6), (7, .int x7), (8, .int x12), (9, .int x9), (10, .long y10), (12, .int x12), (13, .int x13), (14, .long y14)]) (by decide) rfl dX12_ahead_223 rfl ?_
        refine x_lload (pc2 := 227) 13 (n := 14) (x := y14) rfl dX12_ahead_225 rfl ?_
        refine x_lstore (pc2 := 229) [1, 2, 3, 4, 5, 6, 7, 8, 9, 10, 0, 11, 12, 13] (n := 10) (x := y14) (lv2 := [(0, .ref a0), (1, .int x1), (2, .int x2), (3, .int x3), (4, .int x4), (5, .int x5), (6, .int x6), (7, .int x7), (8, .int x12), (9, .int x9), (10, .long y14), (12, .int x12), (13, .int x13), (14, .long y14)]) (by decide) rfl dX12_ahead_227 rfl ?_
        refine x_iload (pc2 := 231) 12 (n := 13) (x := x13) rfl dX12_ahead_229 rfl ?_
        refine x_istore (pc2 := 233) [1, 2, 3, 4, 5, 6, 7, 8, 9, 0, 10, 11, 12, 13] (n := 9) (x := x13) (lv2 := [(0, .ref a0), (1, .int x1), (2, .int x2), (3, .int x3), (4, .int x4), (5, .int x5), (6, .int x6), (7, .int x7), (8, .int x12), (9, .int x13), (10, .long y14), (12, .int x12), (13, .int x13), (14, .long y14)]) (by decide) rfl dX12_ahead_231 rfl ?_
        refine x_iinc (pc2 := 236) 11 [1, 2, 3, 4, 5, 6, 7, 8, 9, 10, 11, 0, 12, 13] (i := 12) (x := x12) (v := (x12 + 1)) (lv2 := [(0, .ref a0), (1, .int x1), (2, .int x2), (3, .int x3), (4, .int x4), (5, .int x5), (6, .int x6), (7, .int x7), (8, .int x12), (9, .int x13), (10, .long y14), (12, .int (x12 + 1)), (13, .int x13), (14, .long y14)]) rfl (iinc_eq (by decide) _) (by decide) rfl dX12_ahead_233 rfl ?_
        refine x_goto 83 dX12_ahead_236 (by decide) ?_
        refine x_sub [0, 1, 2, 3, 4, 5, 6, 7, 8, 9, 10, 11] (lv2 := [(0, .ref a0), (1, .int x1), (2, .int x2), (3, .int x3), (4, .int x4), (5, .int x5), (6, .int x6), (7, .int x7), (8, .int x12), (9, .int x13), (10, .long y14), (12, .int (x12 + 1))]) rfl ?_
        exact ht
      · replace ht := ht.2 c7
        refine x_iload (pc2 := 213) 12 (n := 13) (x := x13) rfl dX12_ahead_211 rfl ?_
        refine x_iload (pc2 := 215) 9 (n := 9) (x := x9) rfl dX12_ahead_213 rfl ?_
        refine x_icmp_lt (pc2 := 218) 221 dX12_ahead_215 (by decide) rfl (fun c8 => ?_) (fun c8 => ?_)
        · replace ht := ht.1 c8
          refine x_iload (pc2 := 223) 11 (n := 12) (x := x12) rfl dX12_ahead_221 rfl ?_
          refine x_istore (pc2 := 225) [1, 2, 3, 4, 5, 6, 7, 8, 0, 9, 10, 11, 12, 13] (n := 8) (x := x12) (lv2 := [(0, .ref a0), (1, .int x1), (2, .int x2), (3, .int x3), (4, .int x4), (5, .int x5), (6, .int x6), (7, .int x7), (8, .int x12), (9, .int x9), (10, .long y10), (12, .int x12), (13, .int x13), (14, .long y14)]) (by decide) rfl dX12_ahead_223 rfl ?_
          refine x_lload (pc2 := 227) 13 (n := 14) (x := y14) rfl dX12_ahead_225 rfl ?_
          refine x_lstore (pc2 := 229) [1, 2, 3, 4, 5, 6, 7, 8, 9, 10, 0, 11, 12, 13] (n := 10) (x := y14) (lv2 := [(0, .ref a0), (1, .int x1), (2, .int x2), (3, .int x3), (4, .int x4), (5, .int x5), (6, .int x6), (7, .int x7), (8, .int x12), (9, .int x9), (10, .long y14), (12, .int x12), (13, .int x13), (14, .long y14)]) (by decide) rfl dX12_ahead_227 rfl ?_
          refine x_iload (pc2 := 231) 12 (n := 13) (x := x13) rfl dX12_ahead_229 rfl ?_
          refine x_istore (pc2 := 233) [1, 2, 3, 4, 5, 6, 7, 8, 9, 0, 10, 11, 12, 13] (n := 9) (x := x13) (lv2 := [(0, .ref a0), (1, .int x1), (2, .int x2), (3, .int x3), (4, .int x4), (5, .int x5), (6, .int x6), (7, .int x7), (8, .int x12), (9, .int x13), (10, .long y14), (12, .int x12), (13, .int x13), (14, .long y14)]) (by decide) rfl dX12_ahead_231 rfl ?_
          refine x_iinc (pc2 := 236) 11 [1, 2, 3, 4, 5, 6, 7, 8, 9, 10, 11, 0, 12, 13] (i := 12) (x := x12) (v := (x12 + 1)) (lv2 := [(0, .ref a0), (1, .int x1), (2, .int x2), (3, .int x3), (4, .int x4), (5, .int x5), (6, .int x6), (7, .int x7), (8, .int x12), (9, .int x13), (10, .long y14), (12, .int (x12 + 1)), (13, .int x13), (14, .long y14)]) rfl (iinc_eq (by decide) _) (by decide) rfl dX12_ahead_233 rfl ?_
          refine x_goto 83 dX12_ahead_236 (by decide) ?_
          refine x_sub [0, 1, 2, 3, 4, 5, 6, 7, 8, 9, 10, 11] (lv2 := [(0, .ref a0), (1, .int x1), (2, .int x2), (3, .int x3), (4, .int x4), (5, .int x5), (6, .int x6), (7, .int x7), (8, .int x12), (9, .int x13), (10, .long y14), (12, .int (x12 + 1))]) rfl ?_
          exact ht
        · replace ht := ht.2 c8
          refine x_goto 233 dX12_ahead_218 (by decide) ?_
          refine x_iinc (pc2 := 236) 11 [1, 2, 3, 4, 5, 6, 7, 8, 9, 10, 11, 0, 12, 13] (i := 12) (x := x12) (v := (x12 + 1)) (lv2 := [(0, .ref a0), (1, .int x1), (2, .int x2), (3, .int x3), (4, .int x4), (5, .int x5), (6, .int x6), (7, .int x7), (8, .int x8), (9, .int x9), (10, .long y10), (12, .int (x12 + 1)), (13, .int x13), (14, .long y14)]) rfl (iinc_eq (by decide) _) (by decide) rfl dX12_ahead_233 rfl ?_
          refine x_goto 83 dX12_ahead_236 (by decide) ?_
          refine x_sub [0, 1, 2, 3, 4, 5, 6, 7, 8, 9, 10, 11] (lv2 := [(0, .ref a0), (1, .int x1), (2, .int x2), (3, .int x3), (4, .int x4), (5, .int x5), (6, .int x6), (7, .int x7), (8, .int x8), (9, .int x9), (10, .long y10), (12, .int (x12 + 1))]) rfl ?_
          exact ht
def T_X12_least (G : GG) (d : Nat) (h : HP) (Q : Option Value → HP → Prop) (a0 : Nat) (x1 : Int32) (x2 : Int32) (x3 : Int32) (x4 : Int32) (x5 : Int32) : Prop :=
  Kd G h a0 12 ∧ Cal G (d - 1) mX12_isText [.ref a0, .int 0, .int x1] h (fun r1 h2 => ∃ v5, r1 = some (.int v5) ∧ ((v5 = 0 → Q (some (.int (-1))) h2) ∧ (¬ v5 = 0 → Cal G (d - 1) mX12_areAsked [.ref a0, .int x2, .int x3, .int x4] h2 (fun r7 h8 => ∃ v10, r7 = some (.int v10) ∧ ((v10 = 0 → Q (some (.int (-1))) h8) ∧ (¬ v10 = 0 → Cal G (d - 1) mX12_in [.long (x5.toInt64), .long 1, .long 5] h8 (fun r12 h13 => ∃ v15, r12 = some (.int v15) ∧ ((¬ v15 = 0 → Cal G (d - 1) mX12_bases [.ref a0, .int x3, .int x4] h13 (fun r17 h18 => r17 = none ∧ Ex G d mX12_least 49 [(0, .ref a0), (1, .int x1), (2, .int x2), (3, .int x3), (4, .int x4), (5, .int x5), (6, .int (-2)), (7, .int 0)] [] h18 Q)) ∧ (v15 = 0 → Q (some (.int (-1))) h13)))))))))
set_option maxRecDepth 20000 in
theorem t_X12_least {G : GG} {d : Nat} {h : HP} {Q : Option Value → HP → Prop} {a0 : Nat} {x1 : Int32} {x2 : Int32} {x3 : Int32} {x4 : Int32} {x5 : Int32} (hd1 : 1 ≤ d) (ht : T_X12_least G d h Q a0 x1 x2 x3 x4 x5) : Ex G d mX12_least 0 [(0, .ref a0), (1, .int x1), (2, .int x2), (3, .int x3), (4, .int x4), (5, .int x5)] [] h Q := by
  unfold T_X12_least at ht
  refine x_aload_n (pc2 := 1) 0 (n := 0) (x := a0) rfl dX12_least_0 rfl ?_
  refine x_iconst (pc2 := 2) (v := 0) (by decide) dX12_least_1 rfl ?_
  refine x_iload_n (pc2 := 3) 1 (n := 1) (x := x1) rfl dX12_least_2 rfl ?_
  obtain ⟨k4, ht⟩ := ht
  refine x_callV (pc2 := 6) (As := [.int 0, .int x1]) (rest := []) (b := a0) mv_X12_isText ml_X12_402 k4 rfl rfl (Nat.le_of_ble_eq_true rfl) hd1 dX12_least_3 rfl (ht.mono (fun r1 h2 p3 ht' => ?_))
  clear ht
  obtain ⟨v5, rfl, ht⟩ := ht'
  show Ex G d mX12_least 6 [(0, .ref a0), (1, .int x1), (2, .int x2), (3, .int x3), (4, .int x4), (5, .int x5)] [.int v5] h2 Q
  refine x_if_eq (pc2 := 9) 33 dX12_least_6 (by decide) rfl (fun c6 => ?_) (fun c6 => ?_)
  · replace ht := ht.1 c6
    refine x_iconst (pc2 := 34) (v := (-1)) (by decide) dX12_least_33 rfl ?_
    exact x_ret (ty := .int) rfl rfl dX12_least_34 ht
  · replace ht := ht.2 c6
    refine x_aload_n (pc2 := 10) 0 (n := 0) (x := a0) rfl dX12_least_9 rfl ?_
    refine x_iload_n (pc2 := 11) 2 (n := 2) (x := x2) rfl dX12_least_10 rfl ?_
    refine x_iload_n (pc2 := 12) 3 (n := 3) (x := x3) rfl dX12_least_11 rfl ?_
    refine x_iload (pc2 := 14) 4 (n := 4) (x := x4) rfl dX12_least_12 rfl ?_
    refine x_callV (pc2 := 17) (As := [.int x2, .int x3, .int x4]) (rest := []) (b := a0) mv_X12_areAsked ml_X12_405 (k4.up p3) rfl rfl (Nat.le_of_ble_eq_true rfl) hd1 dX12_least_14 rfl (ht.mono (fun r7 h8 p9 ht' => ?_))
    clear ht
    obtain ⟨v10, rfl, ht⟩ := ht'
    show Ex G d mX12_least 17 [(0, .ref a0), (1, .int x1), (2, .int x2), (3, .int x3), (4, .int x4), (5, .int x5)] [.int v10] h8 Q
    refine x_if_eq (pc2 := 20) 33 dX12_least_17 (by decide) rfl (fun c11 => ?_) (fun c11 => ?_)
    · replace ht := ht.1 c11
      refine x_iconst (pc2 := 34) (v := (-1)) (by decide) dX12_least_33 rfl ?_
      exact x_ret (ty := .int) rfl rfl dX12_least_34 ht
    · replace ht := ht.2 c11
      refine x_iload (pc2 := 22) 5 (n := 5) (x := x5) rfl dX12_least_20 rfl ?_
      refine x_i2l (pc2 := 23) dX12_least_22 rfl ?_
      refine x_lconst (pc2 := 24) (v := 1) (by decide) dX12_least_23 rfl ?_
      refine x_ldc2 (pc2 := 27) (v := 5) ct_X12_502 dX12_least_24 rfl ?_
      refine x_callS (pc2 := 30) (As := [.long (x5.toInt64), .long 1, .long 5]) (rest := []) ms_X12_in ml_X12_112 rfl rfl (Nat.le_of_ble_eq_true rfl) hd1 dX12_least_27 rfl (ht.mono (fun r12 h13 p14 ht' => ?_))
      clear ht
      obtain ⟨v15, rfl, ht⟩ := ht'
      show Ex G d mX12_least 30 [(0, .ref a0), (1, .int x1), (2, .int x2), (3, .int x3), (4, .int x4), (5, .int x5)] [.int v15] h13 Q
      refine y_if_ne (pc2 := 33) 35 dX12_least_30 (by decide) rfl (fun c16 => ?_) (fun c16 => ?_)
      · replace ht := ht.1 c16
        refine x_aload_n (pc2 := 36) 0 (n := 0) (x := a0) rfl dX12_least_35 rfl ?_
        refine x_iload_n (pc2 := 37) 3 (n := 3) (x := x3) rfl dX12_least_36 rfl ?_
        refine x_iload (pc2 := 39) 4 (n := 4) (x := x4) rfl dX12_least_37 rfl ?_
        refine x_callV (pc2 := 42) (As := [.int x3, .int x4]) (rest := []) (b := a0) mv_X12_bases ml_X12_480 (((k4.up p3).up p9).up p14) rfl rfl (Nat.le_of_ble_eq_true rfl) hd1 dX12_least_39 rfl (ht.mono (fun r17 h18 p19 ht' => ?_))
        clear ht
        obtain ⟨rfl, ht⟩ := ht'
        show Ex G d mX12_least 42 [(0, .ref a0), (1, .int x1), (2, .int x2), (3, .int x3), (4, .int x4), (5, .int x5)] [] h18 Q
        refine x_bipush (pc2 := 44) (v := (-2)) (by decide) dX12_least_42 rfl ?_
        refine x_istore (pc2 := 46) [1, 2, 3, 4, 5, 6, 0] (n := 6) (x := (-2)) (lv2 := [(0, .ref a0), (1, .int x1), (2, .int x2), (3, .int x3), (4, .int x4), (5, .int x5), (6, .int (-2))]) (by decide) rfl dX12_least_44 rfl ?_
        refine x_iconst (pc2 := 47) (v := 0) (by decide) dX12_least_46 rfl ?_
        refine x_istore (pc2 := 49) [1, 2, 3, 4, 5, 6, 7, 0] (n := 7) (x := 0) (lv2 := [(0, .ref a0), (1, .int x1), (2, .int x2), (3, .int x3), (4, .int x4), (5, .int x5), (6, .int (-2)), (7, .int 0)]) (by decide) rfl dX12_least_47 rfl ?_
        exact ht
      · replace ht := ht.2 c16
        refine x_iconst (pc2 := 34) (v := (-1)) (by decide) dX12_least_33 rfl ?_
        exact x_ret (ty := .int) rfl rfl dX12_least_34 ht
theorem e_X12_least {G : GG} {d : Nat} {h : HP} {Q : Option Value → HP → Prop} {a0 : Nat} {x1 : Int32} {x2 : Int32} {x3 : Int32} {x4 : Int32} {x5 : Int32} (hd1 : 1 ≤ d) (ht : T_X12_least G d h Q a0 x1 x2 x3 x4 x5) : Cal G d mX12_least [.ref a0, .int x1, .int x2, .int x3, .int x4, .int x5] h Q := cal_of rfl (Nat.le_of_ble_eq_true rfl) (t_X12_least hd1 ht)
def T_X12_least_49 (G : GG) (d : Nat) (h : HP) (Q : Option Value → HP → Prop) (a0 : Nat) (x1 : Int32) (x2 : Int32) (x3 : Int32) (x4 : Int32) (x5 : Int32) (x6 : Int32) (x7 : Int32) : Prop :=
  (((((x5 * x5) * x5) * x5) ≤ x7 → Q (some (.int x6)) h) ∧ (¬ (((x5 * x5) * x5) * x5) ≤ x7 → Kd G h a0 12 ∧ Cal G (d - 1) mX12_thinksBy [.ref a0, .int x7, .int x5, .int x3, .int x4] h (fun r2 h3 => r2 = none ∧ ((x6 < 0 → Ex G d mX12_least 90 [(0, .ref a0), (1, .int x1), (2, .int x2), (3, .int x3), (4, .int x4), (5, .int x5), (6, .int x6), (7, .int x7)] [] h3 Q) ∧ (¬ x6 < 0 → Cal G (d - 1) mX12_lineOf [.ref a0] h3 (fun r7 h8 => ∃ v10, r7 = some (.int v10) ∧ ((x6 ≤ v10 → Ex G d mX12_least 49 [(0, .ref a0), (1, .int x1), (2, .int x2), (3, .int x3), (4, .int x4), (5, .int x5), (6, .int x6), (7, .int (x7 + 1))] [] h8 Q) ∧ (¬ x6 ≤ v10 → Ex G d mX12_least 90 [(0, .ref a0), (1, .int x1), (2, .int x2), (3, .int x3), (4, .int x4), (5, .int x5), (6, .int x6), (7, .int x7)] [] h8 Q))))))))
set_option maxRecDepth 20000 in
theorem t_X12_least_49 {G : GG} {d : Nat} {h : HP} {Q : Option Value → HP → Prop} {a0 : Nat} {x1 : Int32} {x2 : Int32} {x3 : Int32} {x4 : Int32} {x5 : Int32} {x6 : Int32} {x7 : Int32} (hd1 : 1 ≤ d) (ht : T_X12_least_49 G d h Q a0 x1 x2 x3 x4 x5 x6 x7) : Ex G d mX12_least 49 [(0, .ref a0), (1, .int x1), (2, .int x2), (3, .int x3), (4, .int x4), (5, .int x5), (6, .int x6), (7, .int x7)] [] h Q := by
  unfold T_X12_least_49 at ht
  refine x_iload (pc2 := 51) 7 (n := 7) (x := x7) rfl dX12_least_49 rfl ?_
  refine x_iload (pc2 := 53) 5 (n := 5) (x := x5) rfl dX12_least_51 rfl ?_
  refine x_iload (pc2 := 55) 5 (n := 5) (x := x5) rfl dX12_least_53 rfl ?_
  refine x_imul (pc2 := 56) dX12_least_55 rfl ?_
  refine x_iload (pc2 := 58) 5 (n := 5) (x := x5) rfl dX12_least_56 rfl ?_
  refine x_imul (pc2 := 59) dX12_least_58 rfl ?_
  refine x_iload (pc2 := 61) 5 (n := 5) (x := x5) rfl dX12_least_59 rfl ?_
  refine x_imul (pc2 := 62) dX12_least_61 rfl ?_
  refine x_icmp_ge (pc2 := 65) 111 dX12_least_62 (by decide) rfl (fun c1 => ?_) (fun c1 => ?_)
  · replace ht := ht.1 c1
    refine x_iload (pc2 := 113) 6 (n := 6) (x := x6) rfl dX12_least_111 rfl ?_
    exact x_ret (ty := .int) rfl rfl dX12_least_113 ht
  · replace ht := ht.2 c1
    refine x_aload_n (pc2 := 66) 0 (n := 0) (x := a0) rfl dX12_least_65 rfl ?_
    refine x_iload (pc2 := 68) 7 (n := 7) (x := x7) rfl dX12_least_66 rfl ?_
    refine x_iload (pc2 := 70) 5 (n := 5) (x := x5) rfl dX12_least_68 rfl ?_
    refine x_iload_n (pc2 := 71) 3 (n := 3) (x := x3) rfl dX12_least_70 rfl ?_
    refine x_iload (pc2 := 73) 4 (n := 4) (x := x4) rfl dX12_least_71 rfl ?_
    obtain ⟨k5, ht⟩ := ht
    refine x_callV (pc2 := 76) (As := [.int x7, .int x5, .int x3, .int x4]) (rest := []) (b := a0) mv_X12_thinksBy ml_X12_486 k5 rfl rfl (Nat.le_of_ble_eq_true rfl) hd1 dX12_least_73 rfl (ht.mono (fun r2 h3 p4 ht' => ?_))
    clear ht
    obtain ⟨rfl, ht⟩ := ht'
    show Ex G d mX12_least 76 [(0, .ref a0), (1, .int x1), (2, .int x2), (3, .int x3), (4, .int x4), (5, .int x5), (6, .int x6), (7, .int x7)] [] h3 Q
    refine x_iload (pc2 := 78) 6 (n := 6) (x := x6) rfl dX12_least_76 rfl ?_
    refine x_if_lt (pc2 := 81) 90 dX12_least_78 (by decide) rfl (fun c6 => ?_) (fun c6 => ?_)
    · replace ht := ht.1 c6
      exact ht
    · replace ht := ht.2 c6
      refine x_aload_n (pc2 := 82) 0 (n := 0) (x := a0) rfl dX12_least_81 rfl ?_
      refine x_callV (pc2 := 85) (As := []) (rest := []) (b := a0) mv_X12_lineOf ml_X12_493 (k5.up p4) rfl rfl (Nat.le_of_ble_eq_true rfl) hd1 dX12_least_82 rfl (ht.mono (fun r7 h8 p9 ht' => ?_))
      clear ht
      obtain ⟨v10, rfl, ht⟩ := ht'
      show Ex G d mX12_least 85 [(0, .ref a0), (1, .int x1), (2, .int x2), (3, .int x3), (4, .int x4), (5, .int x5), (6, .int x6), (7, .int x7)] [.int v10] h8 Q
      refine x_iload (pc2 := 87) 6 (n := 6) (x := x6) rfl dX12_least_85 rfl ?_
      refine x_icmp_ge (pc2 := 90) 105 dX12_least_87 (by decide) rfl (fun c11 => ?_) (fun c11 => ?_)
      · replace ht := ht.1 c11
        refine x_iinc (pc2 := 108) 7 [1, 2, 3, 4, 5, 6, 7, 0] (i := 7) (x := x7) (v := (x7 + 1)) (lv2 := [(0, .ref a0), (1, .int x1), (2, .int x2), (3, .int x3), (4, .int x4), (5, .int x5), (6, .int x6), (7, .int (x7 + 1))]) rfl (iinc_eq (by decide) _) (by decide) rfl dX12_least_105 rfl ?_
        refine x_goto 49 dX12_least_108 (by decide) ?_
        exact ht
      · replace ht := ht.2 c11
        exact ht
def T_X12_least_90 (G : GG) (d : Nat) (h : HP) (Q : Option Value → HP → Prop) (a0 : Nat) (x1 : Int32) (x2 : Int32) (x3 : Int32) (x4 : Int32) (x5 : Int32) (x6 : Int32) (x7 : Int32) : Prop :=
  Kd G h a0 12 ∧ Cal G (d - 1) mX12_canCome [.ref a0, .int x1, .int x2] h (fun r1 h2 => ∃ v5, r1 = some (.int v5) ∧ ((v5 = 0 → Ex G d mX12_least 49 [(0, .ref a0), (1, .int x1), (2, .int x2), (3, .int x3), (4, .int x4), (5, .int x5), (6, .int x6), (7, .int (x7 + 1))] [] h2 Q) ∧ (¬ v5 = 0 → Cal G (d - 1) mX12_lineOf [.ref a0] h2 (fun r7 h8 => ∃ v10, r7 = some (.int v10) ∧ Ex G d mX12_least 49 [(0, .ref a0), (1, .int x1), (2, .int x2), (3, .int x3), (4, .int x4), (5, .int x5), (6, .int v10), (7, .int (x7 + 1))] [] h8 Q))))
set_option maxRecDepth 20000 in
theorem t_X12_least_90 {G : GG} {d : Nat} {h : HP} {Q : Option Value → HP → Prop} {a0 : Nat} {x1 : Int32} {x2 : Int32} {x3 : Int32} {x4 : Int32} {x5 : Int32} {x6 : Int32} {x7 : Int32} (hd1 : 1 ≤ d) (ht : T_X12_least_90 G d h Q a0 x1 x2 x3 x4 x5 x6 x7) : Ex G d mX12_least 90 [(0, .ref a0), (1, .int x1), (2, .int x2), (3, .int x3), (4, .int x4), (5, .int x5), (6, .int x6), (7, .int x7)] [] h Q := by
  unfold T_X12_least_90 at ht
  refine x_aload_n (pc2 := 91) 0 (n := 0) (x := a0) rfl dX12_least_90 rfl ?_
  refine x_iload_n (pc2 := 92) 1 (n := 1) (x := x1) rfl dX12_least_91 rfl ?_
  refine x_iload_n (pc2 := 93) 2 (n := 2) (x := x2) rfl dX12_least_92 rfl ?_
  obtain ⟨k4, ht⟩ := ht
  refine x_callV (pc2 := 96) (As := [.int x1, .int x2]) (rest := []) (b := a0) mv_X12_canCome ml_X12_411 k4 rfl rfl (Nat.le_of_ble_eq_true rfl) hd1 dX12_least_93 rfl (ht.mono (fun r1 h2 p3 ht' => ?_))
  clear ht
  obtain ⟨v5, rfl, ht⟩ := ht'
  show Ex G d mX12_least 96 [(0, .ref a0), (1, .int x1), (2, .int x2), (3, .int x3), (4, .int x4), (5, .int x5), (6, .int x6), (7, .int x7)] [.int v5] h2 Q
  refine x_if_eq (pc2 := 99) 105 dX12_least_96 (by decide) rfl (fun c6 => ?_) (fun c6 => ?_)
  · replace ht := ht.1 c6
    refine x_iinc (pc2 := 108) 7 [1, 2, 3, 4, 5, 6, 7, 0] (i := 7) (x := x7) (v := (x7 + 1)) (lv2 := [(0, .ref a0), (1, .int x1), (2, .int x2), (3, .int x3), (4, .int x4), (5, .int x5), (6, .int x6), (7, .int (x7 + 1))]) rfl (iinc_eq (by decide) _) (by decide) rfl dX12_least_105 rfl ?_
    refine x_goto 49 dX12_least_108 (by decide) ?_
    exact ht
  · replace ht := ht.2 c6
    refine x_aload_n (pc2 := 100) 0 (n := 0) (x := a0) rfl dX12_least_99 rfl ?_
    refine x_callV (pc2 := 103) (As := []) (rest := []) (b := a0) mv_X12_lineOf ml_X12_493 (k4.up p3) rfl rfl (Nat.le_of_ble_eq_true rfl) hd1 dX12_least_100 rfl (ht.mono (fun r7 h8 p9 ht' => ?_))
    clear ht
    obtain ⟨v10, rfl, ht⟩ := ht'
    show Ex G d mX12_least 103 [(0, .ref a0), (1, .int x1), (2, .int x2), (3, .int x3), (4, .int x4), (5, .int x5), (6, .int x6), (7, .int x7)] [.int v10] h8 Q
    refine x_istore (pc2 := 105) [1, 2, 3, 4, 5, 6, 0, 7] (n := 6) (x := v10) (lv2 := [(0, .ref a0), (1, .int x1), (2, .int x2), (3, .int x3), (4, .int x4), (5, .int x5), (6, .int v10), (7, .int x7)]) (by decide) rfl dX12_least_103 rfl ?_
    refine x_iinc (pc2 := 108) 7 [1, 2, 3, 4, 5, 6, 7, 0] (i := 7) (x := x7) (v := (x7 + 1)) (lv2 := [(0, .ref a0), (1, .int x1), (2, .int x2), (3, .int x3), (4, .int x4), (5, .int x5), (6, .int v10), (7, .int (x7 + 1))]) rfl (iinc_eq (by decide) _) (by decide) rfl dX12_least_105 rfl ?_
    refine x_goto 49 dX12_least_108 (by decide) ?_
    exact ht
def T_X12_most (G : GG) (d : Nat) (h : HP) (Q : Option Value → HP → Prop) (a0 : Nat) (x1 : Int32) (x2 : Int32) (x3 : Int32) : Prop :=
  Kd G h a0 12 ∧ Cal G (d - 1) mX12_isText [.ref a0, .int 0, .int x1] h (fun r1 h2 => ∃ v5, r1 = some (.int v5) ∧ ((v5 = 0 → Q (some (.int (-1))) h2) ∧ (¬ v5 = 0 → Cal G (d - 1) mX12_areAsked [.ref a0, .int x2, .int x3, .int (-1)] h2 (fun r7 h8 => ∃ v10, r7 = some (.int v10) ∧ ((¬ v10 = 0 → Ex G d mX12_most 30 [(0, .ref a0), (1, .int x1), (2, .int x2), (3, .int x3), (4, .int 0), (5, .int x3), (6, .int 1)] [] h8 Q) ∧ (v10 = 0 → Q (some (.int (-1))) h8))))))
set_option maxRecDepth 20000 in
theorem t_X12_most {G : GG} {d : Nat} {h : HP} {Q : Option Value → HP → Prop} {a0 : Nat} {x1 : Int32} {x2 : Int32} {x3 : Int32} (hd1 : 1 ≤ d) (ht : T_X12_most G d h Q a0 x1 x2 x3) : Ex G d mX12_most 0 [(0, .ref a0), (1, .int x1), (2, .int x2), (3, .int x3)] [] h Q := by
  unfold T_X12_most at ht
  refine x_aload_n (pc2 := 1) 0 (n := 0) (x := a0) rfl dX12_most_0 rfl ?_
  refine x_iconst (pc2 := 2) (v := 0) (by decide) dX12_most_1 rfl ?_
  refine x_iload_n (pc2 := 3) 1 (n := 1) (x := x1) rfl dX12_most_2 rfl ?_
  obtain ⟨k4, ht⟩ := ht
  refine x_callV (pc2 := 6) (As := [.int 0, .int x1]) (rest := []) (b := a0) mv_X12_isText ml_X12_402 k4 rfl rfl (Nat.le_of_ble_eq_true rfl) hd1 dX12_most_3 rfl (ht.mono (fun r1 h2 p3 ht' => ?_))
  clear ht
  obtain ⟨v5, rfl, ht⟩ := ht'
  show Ex G d mX12_most 6 [(0, .ref a0), (1, .int x1), (2, .int x2), (3, .int x3)] [.int v5] h2 Q
  refine x_if_eq (pc2 := 9) 19 dX12_most_6 (by decide) rfl (fun c6 => ?_) (fun c6 => ?_)
  · replace ht := ht.1 c6
    refine x_iconst (pc2 := 20) (v := (-1)) (by decide) dX12_most_19 rfl ?_
    exact x_ret (ty := .int) rfl rfl dX12_most_20 ht
  · replace ht := ht.2 c6
    refine x_aload_n (pc2 := 10) 0 (n := 0) (x := a0) rfl dX12_most_9 rfl ?_
    refine x_iload_n (pc2 := 11) 2 (n := 2) (x := x2) rfl dX12_most_10 rfl ?_
    refine x_iload_n (pc2 := 12) 3 (n := 3) (x := x3) rfl dX12_most_11 rfl ?_
    refine x_iconst (pc2 := 13) (v := (-1)) (by decide) dX12_most_12 rfl ?_
    refine x_callV (pc2 := 16) (As := [.int x2, .int x3, .int (-1)]) (rest := []) (b := a0) mv_X12_areAsked ml_X12_405 (k4.up p3) rfl rfl (Nat.le_of_ble_eq_true rfl) hd1 dX12_most_13 rfl (ht.mono (fun r7 h8 p9 ht' => ?_))
    clear ht
    obtain ⟨v10, rfl, ht⟩ := ht'
    show Ex G d mX12_most 16 [(0, .ref a0), (1, .int x1), (2, .int x2), (3, .int x3)] [.int v10] h8 Q
    refine y_if_ne (pc2 := 19) 21 dX12_most_16 (by decide) rfl (fun c11 => ?_) (fun c11 => ?_)
    · replace ht := ht.1 c11
      refine x_iconst (pc2 := 22) (v := 0) (by decide) dX12_most_21 rfl ?_
      refine x_istore (pc2 := 24) [1, 2, 3, 4, 0] (n := 4) (x := 0) (lv2 := [(0, .ref a0), (1, .int x1), (2, .int x2), (3, .int x3), (4, .int 0)]) (by decide) rfl dX12_most_22 rfl ?_
      refine x_iload_n (pc2 := 25) 3 (n := 3) (x := x3) rfl dX12_most_24 rfl ?_
      refine x_istore (pc2 := 27) [1, 2, 3, 4, 5, 0] (n := 5) (x := x3) (lv2 := [(0, .ref a0), (1, .int x1), (2, .int x2), (3, .int x3), (4, .int 0), (5, .int x3)]) (by decide) rfl dX12_most_25 rfl ?_
      refine x_iconst (pc2 := 28) (v := 1) (by decide) dX12_most_27 rfl ?_
      refine x_istore (pc2 := 30) [1, 2, 3, 4, 5, 6, 0] (n := 6) (x := 1) (lv2 := [(0, .ref a0), (1, .int x1), (2, .int x2), (3, .int x3), (4, .int 0), (5, .int x3), (6, .int 1)]) (by decide) rfl dX12_most_28 rfl ?_
      exact ht
    · replace ht := ht.2 c11
      refine x_iconst (pc2 := 20) (v := (-1)) (by decide) dX12_most_19 rfl ?_
      exact x_ret (ty := .int) rfl rfl dX12_most_20 ht
theorem e_X12_most {G : GG} {d : Nat} {h : HP} {Q : Option Value → HP → Prop} {a0 : Nat} {x1 : Int32} {x2 : Int32} {x3 : Int32} (hd1 : 1 ≤ d) (ht : T_X12_most G d h Q a0 x1 x2 x3) : Cal G d mX12_most [.ref a0, .int x1, .int x2, .int x3] h Q := cal_of rfl (Nat.le_of_ble_eq_true rfl) (t_X12_most hd1 ht)
def T_X12_most_30 (G : GG) (d : Nat) (h : HP) (Q : Option Value → HP → Prop) (a0 : Nat) (x1 : Int32) (x2 : Int32) (x3 : Int32) (x4 : Int32) (x5 : Int32) (x6 : Int32) : Prop :=
  ((x6 = 0 → Ex G d mX12_most 158 [(0, .ref a0), (1, .int x1), (2, .int x2), (3, .int x3), (4, .int x4), (5, .int x5), (6, .int x6), (7, .int (x4 - 1))] [] h Q) ∧ (¬ x6 = 0 → ((24 ≤ x4 → Ex G d mX12_most 158 [(0, .ref a0), (1, .int x1), (2, .int x2), (3, .int x3), (4, .int x4), (5, .int x5), (6, .int x6), (7, .int (x4 - 1))] [] h Q) ∧ (¬ 24 ≤ x4 → Ex G d mX12_most 48 [(0, .ref a0), (1, .int x1), (2, .int x2), (3, .int x3), (4, .int x4), (5, .int x5), (6, .int 0), (7, .int 1)] [] h Q))))
set_option maxRecDepth 20000 in
theorem t_X12_most_30 {G : GG} {d : Nat} {h : HP} {Q : Option Value → HP → Prop} {a0 : Nat} {x1 : Int32} {x2 : Int32} {x3 : Int32} {x4 : Int32} {x5 : Int32} {x6 : Int32} (ht : T_X12_most_30 G d h Q a0 x1 x2 x3 x4 x5 x6) : Ex G d mX12_most 30 [(0, .ref a0), (1, .int x1), (2, .int x2), (3, .int x3), (4, .int x4), (5, .int x5), (6, .int x6)] [] h Q := by
  unfold T_X12_most_30 at ht
  refine x_iload (pc2 := 32) 6 (n := 6) (x := x6) rfl dX12_most_30 rfl ?_
  refine x_if_eq (pc2 := 35) 152 dX12_most_32 (by decide) rfl (fun c1 => ?_) (fun c1 => ?_)
  · replace ht := ht.1 c1
    refine x_iload (pc2 := 154) 4 (n := 4) (x := x4) rfl dX12_most_152 rfl ?_
    refine x_iconst (pc2 := 155) (v := 1) (by decide) dX12_most_154 rfl ?_
    refine x_isub (pc2 := 156) dX12_most_155 rfl ?_
    refine x_istore (pc2 := 158) [1, 2, 3, 4, 5, 6, 7, 0] (n := 7) (x := (x4 - 1)) (lv2 := [(0, .ref a0), (1, .int x1), (2, .int x2), (3, .int x3), (4, .int x4), (5, .int x5), (6, .int x6), (7, .int (x4 - 1))]) (by decide) rfl dX12_most_156 rfl ?_
    exact ht
  · replace ht := ht.2 c1
    refine x_iload (pc2 := 37) 4 (n := 4) (x := x4) rfl dX12_most_35 rfl ?_
    refine x_bipush (pc2 := 39) (v := 24) (by decide) dX12_most_37 rfl ?_
    refine x_icmp_ge (pc2 := 42) 152 dX12_most_39 (by decide) rfl (fun c2 => ?_) (fun c2 => ?_)
    · replace ht := ht.1 c2
      refine x_iload (pc2 := 154) 4 (n := 4) (x := x4) rfl dX12_most_152 rfl ?_
      refine x_iconst (pc2 := 155) (v := 1) (by decide) dX12_most_154 rfl ?_
      refine x_isub (pc2 := 156) dX12_most_155 rfl ?_
      refine x_istore (pc2 := 158) [1, 2, 3, 4, 5, 6, 7, 0] (n := 7) (x := (x4 - 1)) (lv2 := [(0, .ref a0), (1, .int x1), (2, .int x2), (3, .int x3), (4, .int x4), (5, .int x5), (6, .int x6), (7, .int (x4 - 1))]) (by decide) rfl dX12_most_156 rfl ?_
      exact ht
    · replace ht := ht.2 c2
      refine x_iconst (pc2 := 43) (v := 0) (by decide) dX12_most_42 rfl ?_
      refine x_istore (pc2 := 45) [1, 2, 3, 4, 5, 6, 0] (n := 6) (x := 0) (lv2 := [(0, .ref a0), (1, .int x1), (2, .int x2), (3, .int x3), (4, .int x4), (5, .int x5), (6, .int 0)]) (by decide) rfl dX12_most_43 rfl ?_
      refine x_iconst (pc2 := 46) (v := 1) (by decide) dX12_most_45 rfl ?_
      refine x_istore (pc2 := 48) [1, 2, 3, 4, 5, 6, 7, 0] (n := 7) (x := 1) (lv2 := [(0, .ref a0), (1, .int x1), (2, .int x2), (3, .int x3), (4, .int x4), (5, .int x5), (6, .int 0), (7, .int 1)]) (by decide) rfl dX12_most_46 rfl ?_
      exact ht
def T_X12_most_48 (G : GG) (d : Nat) (h : HP) (Q : Option Value → HP → Prop) (a0 : Nat) (x1 : Int32) (x2 : Int32) (x3 : Int32) (x4 : Int32) (x5 : Int32) (x6 : Int32) (x7 : Int32) : Prop :=
  ((9 < x7 → Ex G d mX12_most 121 [(0, .ref a0), (1, .int x1), (2, .int x2), (3, .int x3), (4, .int x4), (5, .int x5), (6, .int x6), (7, .int x7)] [] h Q) ∧ (¬ 9 < x7 → ((¬ x6 = 0 → Ex G d mX12_most 121 [(0, .ref a0), (1, .int x1), (2, .int x2), (3, .int x3), (4, .int x4), (5, .int x5), (6, .int x6), (7, .int x7)] [] h Q) ∧ (x6 = 0 → Kd G h a0 12 ∧ Cal G (d - 1) mX12_of [.ref a0, .int x5, .int 1] h (fun r3 h4 => ∃ v7, r3 = some (.int v7) ∧ Cal G (d - 1) mX12_of [.ref a0, .int x5, .int 2] h4 (fun r8 h9 => ∃ v11, r8 = some (.int v11) ∧ Cal G (d - 1) mX12_of [.ref a0, .int x5, .int 3] h9 (fun r12 h13 => ∃ v15, r12 = some (.int v15) ∧ Cal G (d - 1) mX12_of [.ref a0, .int x5, .int 4] h13 (fun r16 h17 => ∃ v19, r16 = some (.int v19) ∧ Cal G (d - 1) mX12_thinks [.ref a0, .int (v7 - x7), .int (v11 - x7), .int (v15 + x7), .int (v19 + x7), .int x5, .int (-1)] h17 (fun r20 h21 => r20 = none ∧ Cal G (d - 1) mX12_canCome [.ref a0, .int x1, .int x2] h21 (fun r23 h24 => ∃ v26, r23 = some (.int v26) ∧ Ex G d mX12_most 48 [(0, .ref a0), (1, .int x1), (2, .int x2), (3, .int x3), (4, .int x4), (5, .int x5), (6, .int v26), (7, .int (x7 + 1))] [] h24 Q))))))))))
set_option maxRecDepth 20000 in
theorem t_X12_most_48 {G : GG} {d : Nat} {h : HP} {Q : Option Value → HP → Prop} {a0 : Nat} {x1 : Int32} {x2 : Int32} {x3 : Int32} {x4 : Int32} {x5 : Int32} {x6 : Int32} {x7 : Int32} (hd1 : 1 ≤ d) (ht : T_X12_most_48 G d h Q a0 x1 x2 x3 x4 x5 x6 x7) : Ex G d mX12_most 48 [(0, .ref a0), (1, .int x1), (2, .int x2), (3, .int x3), (4, .int x4), (5, .int x5), (6, .int x6), (7, .int x7)] [] h Q := by
  unfold T_X12_most_48 at ht
  refine x_iload (pc2 := 50) 7 (n := 7) (x := x7) rfl dX12_most_48 rfl ?_
  refine x_bipush (pc2 := 52) (v := 9) (by decide) dX12_most_50 rfl ?_
  refine x_icmp_gt (pc2 := 55) 121 dX12_most_52 (by decide) rfl (fun c1 => ?_) (fun c1 => ?_)
  · replace ht := ht.1 c1
    exact ht
  · replace ht := ht.2 c1
    refine x_iload (pc2 := 57) 6 (n := 6) (x := x6) rfl dX12_most_55 rfl ?_
    refine y_if_ne (pc2 := 60) 121 dX12_most_57 (by decide) rfl (fun c2 => ?_) (fun c2 => ?_)
    · replace ht := ht.1 c2
      exact ht
    · replace ht := ht.2 c2
      refine x_aload_n (pc2 := 61) 0 (n := 0) (x := a0) rfl dX12_most_60 rfl ?_
      refine x_aload_n (pc2 := 62) 0 (n := 0) (x := a0) rfl dX12_most_61 rfl ?_
      refine x_iload (pc2 := 64) 5 (n := 5) (x := x5) rfl dX12_most_62 rfl ?_
      refine x_iconst (pc2 := 65) (v := 1) (by decide) dX12_most_64 rfl ?_
      obtain ⟨k6, ht⟩ := ht
      refine x_callV (pc2 := 68) (As := [.int x5, .int 1]) (rest := [.ref a0]) (b := a0) mv_X12_of ml_X12_310 k6 rfl rfl (Nat.le_of_ble_eq_true rfl) hd1 dX12_most_65 rfl (ht.mono (fun r3 h4 p5 ht' => ?_))
      clear ht
      obtain ⟨v7, rfl, ht⟩ := ht'
      show Ex G d mX12_most 68 [(0, .ref a0), (1, .int x1), (2, .int x2), (3, .int x3), (4, .int x4), (5, .int x5), (6, .int x6), (7, .int x7)] [.int v7, .ref a0] h4 Q
      refine x_iload (pc2 := 70) 7 (n := 7) (x := x7) rfl dX12_most_68 rfl ?_
      refine x_isub (pc2 := 71) dX12_most_70 rfl ?_
      refine x_aload_n (pc2 := 72) 0 (n := 0) (x := a0) rfl dX12_most_71 rfl ?_
      refine x_iload (pc2 := 74) 5 (n := 5) (x := x5) rfl dX12_most_72 rfl ?_
      refine x_iconst (pc2 := 75) (v := 2) (by decide) dX12_most_74 rfl ?_
      refine x_callV (pc2 := 78) (As := [.int x5, .int 2]) (rest := [.int (v7 - x7), .ref a0]) (b := a0) mv_X12_of ml_X12_310 (k6.up p5) rfl rfl (Nat.le_of_ble_eq_true rfl) hd1 dX12_most_75 rfl (ht.mono (fun r8 h9 p10 ht' => ?_))
      clear ht
      obtain ⟨v11, rfl, ht⟩ := ht'
      show Ex G d mX12_most 78 [(0, .ref a0), (1, .int x1), (2, .int x2), (3, .int x3), (4, .int x4), (5, .int x5), (6, .int x6), (7, .int x7)] [.int v11, .int (v7 - x7), .ref a0] h9 Q
      refine x_iload (pc2 := 80) 7 (n := 7) (x := x7) rfl dX12_most_78 rfl ?_
      refine x_isub (pc2 := 81) dX12_most_80 rfl ?_
      refine x_aload_n (pc2 := 82) 0 (n := 0) (x := a0) rfl dX12_most_81 rfl ?_
      refine x_iload (pc2 := 84) 5 (n := 5) (x := x5) rfl dX12_most_82 rfl ?_
      refine x_iconst (pc2 := 85) (v := 3) (by decide) dX12_most_84 rfl ?_
      refine x_callV (pc2 := 88) (As := [.int x5, .int 3]) (rest := [.int (v11 - x7), .int (v7 - x7), .ref a0]) (b := a0) mv_X12_of ml_X12_310 ((k6.up p5).up p10) rfl rfl (Nat.le_of_ble_eq_true rfl) hd1 dX12_most_85 rfl (ht.mono (fun r12 h13 p14 ht' => ?_))
      clear ht
      obtain ⟨v15, rfl, ht⟩ := ht'
      show Ex G d mX12_most 88 [(0, .ref a0), (1, .int x1), (2, .int x2), (3, .int x3), (4, .int x4), (5, .int x5), (6, .int x6), (7, .int x7)] [.int v15, .int (v11 - x7), .int (v7 - x7), .ref a0] h13 Q
      refine x_iload (pc2 := 90) 7 (n := 7) (x := x7) rfl dX12_most_88 rfl ?_
      refine x_iadd (pc2 := 91) dX12_most_90 rfl ?_
      refine x_aload_n (pc2 := 92) 0 (n := 0) (x := a0) rfl dX12_most_91 rfl ?_
      refine x_iload (pc2 := 94) 5 (n := 5) (x := x5) rfl dX12_most_92 rfl ?_
      refine x_iconst (pc2 := 95) (v := 4) (by decide) dX12_most_94 rfl ?_
      refine x_callV (pc2 := 98) (As := [.int x5, .int 4]) (rest := [.int (v15 + x7), .int (v11 - x7), .int (v7 - x7), .ref a0]) (b := a0) mv_X12_of ml_X12_310 (((k6.up p5).up p10).up p14) rfl rfl (Nat.le_of_ble_eq_true rfl) hd1 dX12_most_95 rfl (ht.mono (fun r16 h17 p18 ht' => ?_))
      clear ht
      obtain ⟨v19, rfl, ht⟩ := ht'
      show Ex G d mX12_most 98 [(0, .ref a0), (1, .int x1), (2, .int x2), (3, .int x3), (4, .int x4), (5, .int x5), (6, .int x6), (7, .int x7)] [.int v19, .int (v15 + x7), .int (v11 - x7), .int (v7 - x7), .ref a0] h17 Q
      refine x_iload (pc2 := 100) 7 (n := 7) (x := x7) rfl dX12_most_98 rfl ?_
      refine x_iadd (pc2 := 101) dX12_most_100 rfl ?_
      refine x_iload (pc2 := 103) 5 (n := 5) (x := x5) rfl dX12_most_101 rfl ?_
      refine x_iconst (pc2 := 104) (v := (-1)) (by decide) dX12_most_103 rfl ?_
      refine x_callV (pc2 := 107) (As := [.int (v7 - x7), .int (v11 - x7), .int (v15 + x7), .int (v19 + x7), .int x5, .int (-1)]) (rest := []) (b := a0) mv_X12_thinks ml_X12_408 ((((k6.up p5).up p10).up p14).up p18) rfl rfl (Nat.le_of_ble_eq_true rfl) hd1 dX12_most_104 rfl (ht.mono (fun r20 h21 p22 ht' => ?_))
      clear ht
      obtain ⟨rfl, ht⟩ := ht'
      show Ex G d mX12_most 107 [(0, .ref a0), (1, .int x1), (2, .int x2), (3, .int x3), (4, .int x4), (5, .int x5), (6, .int x6), (7, .int x7)] [] h21 Q
      refine x_aload_n (pc2 := 108) 0 (n := 0) (x := a0) rfl dX12_most_107 rfl ?_
      refine x_iload_n (pc2 := 109) 1 (n := 1) (x := x1) rfl dX12_most_108 rfl ?_
      refine x_iload_n (pc2 := 110) 2 (n := 2) (x := x2) rfl dX12_most_109 rfl ?_
      refine x_callV (pc2 := 113) (As := [.int x1, .int x2]) (rest := []) (b := a0) mv_X12_canCome ml_X12_411 (((((k6.up p5).up p10).up p14).up p18).up p22) rfl rfl (Nat.le_of_ble_eq_true rfl) hd1 dX12_most_110 rfl (ht.mono (fun r23 h24 p25 ht' => ?_))
      clear ht
      obtain ⟨v26, rfl, ht⟩ := ht'
      show Ex G d mX12_most 113 [(0, .ref a0), (1, .int x1), (2, .int x2), (3, .int x3), (4, .int x4), (5, .int x5), (6, .int x6), (7, .int x7)] [.int v26] h24 Q
      refine x_istore (pc2 := 115) [1, 2, 3, 4, 5, 6, 0, 7] (n := 6) (x := v26) (lv2 := [(0, .ref a0), (1, .int x1), (2, .int x2), (3, .int x3), (4, .int x4), (5, .int x5), (6, .int v26), (7, .int x7)]) (by decide) rfl dX12_most_113 rfl ?_
      refine x_iinc (pc2 := 118) 7 [1, 2, 3, 4, 5, 6, 7, 0] (i := 7) (x := x7) (v := (x7 + 1)) (lv2 := [(0, .ref a0), (1, .int x1), (2, .int x2), (3, .int x3), (4, .int x4), (5, .int x5), (6, .int v26), (7, .int (x7 + 1))]) rfl (iinc_eq (by decide) _) (by decide) rfl dX12_most_115 rfl ?_
      refine x_goto 48 dX12_most_118 (by decide) ?_
      exact ht
def T_X12_most_121 (G : GG) (d : Nat) (h : HP) (Q : Option Value → HP → Prop) (a0 : Nat) (x1 : Int32) (x2 : Int32) (x3 : Int32) (x4 : Int32) (x5 : Int32) (x6 : Int32) (x7 : Int32) : Prop :=
  ((¬ x6 = 0 → Kd G h a0 12 ∧ Cal G (d - 1) mX12_builds [.ref a0, .int (30 + x4), .int x2] h (fun r2 h3 => r2 = none ∧ Ex G d mX12_most 30 [(0, .ref a0), (1, .int x1), (2, .int x2), (3, .int x3), (4, .int (x4 + 1)), (5, .int (30 + x4)), (6, .int x6)] [] h3 Q)) ∧ (x6 = 0 → Ex G d mX12_most 30 [(0, .ref a0), (1, .int x1), (2, .int x2), (3, .int x3), (4, .int x4), (5, .int x5), (6, .int x6)] [] h Q))
set_option maxRecDepth 20000 in
theorem t_X12_most_121 {G : GG} {d : Nat} {h : HP} {Q : Option Value → HP → Prop} {a0 : Nat} {x1 : Int32} {x2 : Int32} {x3 : Int32} {x4 : Int32} {x5 : Int32} {x6 : Int32} {x7 : Int32} (hd1 : 1 ≤ d) (ht : T_X12_most_121 G d h Q a0 x1 x2 x3 x4 x5 x6 x7) : Ex G d mX12_most 121 [(0, .ref a0), (1, .int x1), (2, .int x2), (3, .int x3), (4, .int x4), (5, .int x5), (6, .int x6), (7, .int x7)] [] h Q := by
  unfold T_X12_most_121 at ht
  refine x_iload (pc2 := 123) 6 (n := 6) (x := x6) rfl dX12_most_121 rfl ?_
  refine y_if_ne (pc2 := 126) 129 dX12_most_123 (by decide) rfl (fun c1 => ?_) (fun c1 => ?_)
  · replace ht := ht.1 c1
    refine x_aload_n (pc2 := 130) 0 (n := 0) (x := a0) rfl dX12_most_129 rfl ?_
    refine x_bipush (pc2 := 132) (v := 30) (by decide) dX12_most_130 rfl ?_
    refine x_iload (pc2 := 134) 4 (n := 4) (x := x4) rfl dX12_most_132 rfl ?_
    refine x_iadd (pc2 := 135) dX12_most_134 rfl ?_
    refine x_iload_n (pc2 := 136) 2 (n := 2) (x := x2) rfl dX12_most_135 rfl ?_
    obtain ⟨k5, ht⟩ := ht
    refine x_callV (pc2 := 139) (As := [.int (30 + x4), .int x2]) (rest := []) (b := a0) mv_X12_builds ml_X12_417 k5 rfl rfl (Nat.le_of_ble_eq_true rfl) hd1 dX12_most_136 rfl (ht.mono (fun r2 h3 p4 ht' => ?_))
    clear ht
    obtain ⟨rfl, ht⟩ := ht'
    show Ex G d mX12_most 139 [(0, .ref a0), (1, .int x1), (2, .int x2), (3, .int x3), (4, .int x4), (5, .int x5), (6, .int x6), (7, .int x7)] [] h3 Q
    refine x_bipush (pc2 := 141) (v := 30) (by decide) dX12_most_139 rfl ?_
    refine x_iload (pc2 := 143) 4 (n := 4) (x := x4) rfl dX12_most_141 rfl ?_
    refine x_iadd (pc2 := 144) dX12_most_143 rfl ?_
    refine x_istore (pc2 := 146) [1, 2, 3, 4, 5, 0, 6, 7] (n := 5) (x := (30 + x4)) (lv2 := [(0, .ref a0), (1, .int x1), (2, .int x2), (3, .int x3), (4, .int x4), (5, .int (30 + x4)), (6, .int x6), (7, .int x7)]) (by decide) rfl dX12_most_144 rfl ?_
    refine x_iinc (pc2 := 149) 4 [1, 2, 3, 4, 0, 5, 6, 7] (i := 4) (x := x4) (v := (x4 + 1)) (lv2 := [(0, .ref a0), (1, .int x1), (2, .int x2), (3, .int x3), (4, .int (x4 + 1)), (5, .int (30 + x4)), (6, .int x6), (7, .int x7)]) rfl (iinc_eq (by decide) _) (by decide) rfl dX12_most_146 rfl ?_
    refine x_goto 30 dX12_most_149 (by decide) ?_
    refine x_sub [0, 1, 2, 3, 4, 5, 6] (lv2 := [(0, .ref a0), (1, .int x1), (2, .int x2), (3, .int x3), (4, .int (x4 + 1)), (5, .int (30 + x4)), (6, .int x6)]) rfl ?_
    exact ht
  · replace ht := ht.2 c1
    refine x_goto 30 dX12_most_126 (by decide) ?_
    refine x_sub [0, 1, 2, 3, 4, 5, 6] (lv2 := [(0, .ref a0), (1, .int x1), (2, .int x2), (3, .int x3), (4, .int x4), (5, .int x5), (6, .int x6)]) rfl ?_
    exact ht
def T_X12_most_158 (G : GG) (d : Nat) (h : HP) (Q : Option Value → HP → Prop) (a0 : Nat) (x1 : Int32) (x2 : Int32) (x3 : Int32) (x4 : Int32) (x5 : Int32) (x6 : Int32) (x7 : Int32) : Prop :=
  ((x7 < 0 → Q (some (.int x4)) h) ∧ (¬ x7 < 0 → Kd G h a0 12 ∧ Cal G (d - 1) mX12_pulls [.ref a0, .int (30 + x7)] h (fun r2 h3 => r2 = none ∧ Ex G d mX12_most 158 [(0, .ref a0), (1, .int x1), (2, .int x2), (3, .int x3), (4, .int x4), (5, .int x5), (6, .int x6), (7, .int (x7 + (-1)))] [] h3 Q)))
set_option maxRecDepth 20000 in
theorem t_X12_most_158 {G : GG} {d : Nat} {h : HP} {Q : Option Value → HP → Prop} {a0 : Nat} {x1 : Int32} {x2 : Int32} {x3 : Int32} {x4 : Int32} {x5 : Int32} {x6 : Int32} {x7 : Int32} (hd1 : 1 ≤ d) (ht : T_X12_most_158 G d h Q a0 x1 x2 x3 x4 x5 x6 x7) : Ex G d mX12_most 158 [(0, .ref a0), (1, .int x1), (2, .int x2), (3, .int x3), (4, .int x4), (5, .int x5), (6, .int x6), (7, .int x7)] [] h Q := by
  unfold T_X12_most_158 at ht
  refine x_iload (pc2 := 160) 7 (n := 7) (x := x7) rfl dX12_most_158 rfl ?_
  refine x_if_lt (pc2 := 163) 178 dX12_most_160 (by decide) rfl (fun c1 => ?_) (fun c1 => ?_)
  · replace ht := ht.1 c1
    refine x_iload (pc2 := 180) 4 (n := 4) (x := x4) rfl dX12_most_178 rfl ?_
    exact x_ret (ty := .int) rfl rfl dX12_most_180 ht
  · replace ht := ht.2 c1
    refine x_aload_n (pc2 := 164) 0 (n := 0) (x := a0) rfl dX12_most_163 rfl ?_
    refine x_bipush (pc2 := 166) (v := 30) (by decide) dX12_most_164 rfl ?_
    refine x_iload (pc2 := 168) 7 (n := 7) (x := x7) rfl dX12_most_166 rfl ?_
    refine x_iadd (pc2 := 169) dX12_most_168 rfl ?_
    obtain ⟨k5, ht⟩ := ht
    refine x_callV (pc2 := 172) (As := [.int (30 + x7)]) (rest := []) (b := a0) mv_X12_pulls ml_X12_426 k5 rfl rfl (Nat.le_of_ble_eq_true rfl) hd1 dX12_most_169 rfl (ht.mono (fun r2 h3 p4 ht' => ?_))
    clear ht
    obtain ⟨rfl, ht⟩ := ht'
    show Ex G d mX12_most 172 [(0, .ref a0), (1, .int x1), (2, .int x2), (3, .int x3), (4, .int x4), (5, .int x5), (6, .int x6), (7, .int x7)] [] h3 Q
    refine x_iinc (pc2 := 175) 7 [1, 2, 3, 4, 5, 6, 7, 0] (i := 7) (x := x7) (v := (x7 + (-1))) (lv2 := [(0, .ref a0), (1, .int x1), (2, .int x2), (3, .int x3), (4, .int x4), (5, .int x5), (6, .int x6), (7, .int (x7 + (-1)))]) rfl (iinc_eq (by decide) _) (by decide) rfl dX12_most_172 rfl ?_
    refine x_goto 158 dX12_most_175 (by decide) ?_
    exact ht
def T_X12_nestMany (G : GG) (d : Nat) (h : HP) (Q : Option Value → HP → Prop) (a0 : Nat) : Prop :=
  Ex G d mX12_nestMany 4 [(0, .ref a0), (1, .int 0), (2, .int 0)] [] h Q
set_option maxRecDepth 20000 in
theorem t_X12_nestMany {G : GG} {d : Nat} {h : HP} {Q : Option Value → HP → Prop} {a0 : Nat} (ht : T_X12_nestMany G d h Q a0) : Ex G d mX12_nestMany 0 [(0, .ref a0)] [] h Q := by
  unfold T_X12_nestMany at ht
  refine x_iconst (pc2 := 1) (v := 0) (by decide) dX12_nestMany_0 rfl ?_
  refine x_istore_n (pc2 := 2) [1, 0] (n := 1) (x := 0) (lv2 := [(0, .ref a0), (1, .int 0)]) (by decide) rfl dX12_nestMany_1 rfl ?_
  refine x_iconst (pc2 := 3) (v := 0) (by decide) dX12_nestMany_2 rfl ?_
  refine x_istore_n (pc2 := 4) [1, 2, 0] (n := 2) (x := 0) (lv2 := [(0, .ref a0), (1, .int 0), (2, .int 0)]) (by decide) rfl dX12_nestMany_3 rfl ?_
  exact ht
theorem e_X12_nestMany {G : GG} {d : Nat} {h : HP} {Q : Option Value → HP → Prop} {a0 : Nat} (ht : T_X12_nestMany G d h Q a0) : Cal G d mX12_nestMany [.ref a0] h Q := cal_of rfl (Nat.le_of_ble_eq_true rfl) (t_X12_nestMany ht)
def T_X12_nestMany_4 (G : GG) (d : Nat) (h : HP) (Q : Option Value → HP → Prop) (a0 : Nat) (x1 : Int32) (x2 : Int32) : Prop :=
  ((30 ≤ x2 → Q (some (.int x1)) h) ∧ (¬ 30 ≤ x2 → Kd G h a0 12 ∧ Cal G (d - 1) mX12_isThing [.ref a0, .int x2] h (fun r2 h3 => ∃ v6, r2 = some (.int v6) ∧ ((v6 = 0 → Ex G d mX12_nestMany 4 [(0, .ref a0), (1, .int (x1 + 0)), (2, .int (x2 + 1))] [] h3 Q) ∧ (¬ v6 = 0 → Cal G (d - 1) mX12_isOuter [.ref a0, .int x2] h3 (fun r8 h9 => ∃ v11, r8 = some (.int v11) ∧ ((v11 = 0 → Ex G d mX12_nestMany 4 [(0, .ref a0), (1, .int (x1 + 0)), (2, .int (x2 + 1))] [] h9 Q) ∧ (¬ v11 = 0 → Ex G d mX12_nestMany 4 [(0, .ref a0), (1, .int (x1 + 1)), (2, .int (x2 + 1))] [] h9 Q))))))))
set_option maxRecDepth 20000 in
theorem t_X12_nestMany_4 {G : GG} {d : Nat} {h : HP} {Q : Option Value → HP → Prop} {a0 : Nat} {x1 : Int32} {x2 : Int32} (hd1 : 1 ≤ d) (ht : T_X12_nestMany_4 G d h Q a0 x1 x2) : Ex G d mX12_nestMany 4 [(0, .ref a0), (1, .int x1), (2, .int x2)] [] h Q := by
  unfold T_X12_nestMany_4 at ht
  refine x_iload_n (pc2 := 5) 2 (n := 2) (x := x2) rfl dX12_nestMany_4 rfl ?_
  refine x_bipush (pc2 := 7) (v := 30) (by decide) dX12_nestMany_5 rfl ?_
  refine x_icmp_ge (pc2 := 10) 40 dX12_nestMany_7 (by decide) rfl (fun c1 => ?_) (fun c1 => ?_)
  · replace ht := ht.1 c1
    refine x_iload_n (pc2 := 41) 1 (n := 1) (x := x1) rfl dX12_nestMany_40 rfl ?_
    exact x_ret (ty := .int) rfl rfl dX12_nestMany_41 ht
  · replace ht := ht.2 c1
    refine x_iload_n (pc2 := 11) 1 (n := 1) (x := x1) rfl dX12_nestMany_10 rfl ?_
    refine x_aload_n (pc2 := 12) 0 (n := 0) (x := a0) rfl dX12_nestMany_11 rfl ?_
    refine x_iload_n (pc2 := 13) 2 (n := 2) (x := x2) rfl dX12_nestMany_12 rfl ?_
    obtain ⟨k5, ht⟩ := ht
    refine x_callV (pc2 := 16) (As := [.int x2]) (rest := [.int x1]) (b := a0) mv_X12_isThing ml_X12_314 k5 rfl rfl (Nat.le_of_ble_eq_true rfl) hd1 dX12_nestMany_13 rfl (ht.mono (fun r2 h3 p4 ht' => ?_))
    clear ht
    obtain ⟨v6, rfl, ht⟩ := ht'
    show Ex G d mX12_nestMany 16 [(0, .ref a0), (1, .int x1), (2, .int x2)] [.int v6, .int x1] h3 Q
    refine x_if_eq (pc2 := 19) 31 dX12_nestMany_16 (by decide) rfl (fun c7 => ?_) (fun c7 => ?_)
    · replace ht := ht.1 c7
      refine x_iconst (pc2 := 32) (v := 0) (by decide) dX12_nestMany_31 rfl ?_
      refine x_iadd (pc2 := 33) dX12_nestMany_32 rfl ?_
      refine x_istore_n (pc2 := 34) [1, 0, 2] (n := 1) (x := (x1 + 0)) (lv2 := [(0, .ref a0), (1, .int (x1 + 0)), (2, .int x2)]) (by decide) rfl dX12_nestMany_33 rfl ?_
      refine x_iinc (pc2 := 37) 2 [1, 2, 0] (i := 2) (x := x2) (v := (x2 + 1)) (lv2 := [(0, .ref a0), (1, .int (x1 + 0)), (2, .int (x2 + 1))]) rfl (iinc_eq (by decide) _) (by decide) rfl dX12_nestMany_34 rfl ?_
      refine x_goto 4 dX12_nestMany_37 (by decide) ?_
      exact ht
    · replace ht := ht.2 c7
      refine x_aload_n (pc2 := 20) 0 (n := 0) (x := a0) rfl dX12_nestMany_19 rfl ?_
      refine x_iload_n (pc2 := 21) 2 (n := 2) (x := x2) rfl dX12_nestMany_20 rfl ?_
      refine x_callV (pc2 := 24) (As := [.int x2]) (rest := [.int x1]) (b := a0) mv_X12_isOuter ml_X12_338 (k5.up p4) rfl rfl (Nat.le_of_ble_eq_true rfl) hd1 dX12_nestMany_21 rfl (ht.mono (fun r8 h9 p10 ht' => ?_))
      clear ht
      obtain ⟨v11, rfl, ht⟩ := ht'
      show Ex G d mX12_nestMany 24 [(0, .ref a0), (1, .int x1), (2, .int x2)] [.int v11, .int x1] h9 Q
      refine x_if_eq (pc2 := 27) 31 dX12_nestMany_24 (by decide) rfl (fun c12 => ?_) (fun c12 => ?_)
      · replace ht := ht.1 c12
        refine x_iconst (pc2 := 32) (v := 0) (by decide) dX12_nestMany_31 rfl ?_
        refine x_iadd (pc2 := 33) dX12_nestMany_32 rfl ?_
        refine x_istore_n (pc2 := 34) [1, 0, 2] (n := 1) (x := (x1 + 0)) (lv2 := [(0, .ref a0), (1, .int (x1 + 0)), (2, .int x2)]) (by decide) rfl dX12_nestMany_33 rfl ?_
        refine x_iinc (pc2 := 37) 2 [1, 2, 0] (i := 2) (x := x2) (v := (x2 + 1)) (lv2 := [(0, .ref a0), (1, .int (x1 + 0)), (2, .int (x2 + 1))]) rfl (iinc_eq (by decide) _) (by decide) rfl dX12_nestMany_34 rfl ?_
        refine x_goto 4 dX12_nestMany_37 (by decide) ?_
        exact ht
      · replace ht := ht.2 c12
        refine x_iconst (pc2 := 28) (v := 1) (by decide) dX12_nestMany_27 rfl ?_
        refine x_goto 32 dX12_nestMany_28 (by decide) ?_
        refine x_iadd (pc2 := 33) dX12_nestMany_32 rfl ?_
        refine x_istore_n (pc2 := 34) [1, 0, 2] (n := 1) (x := (x1 + 1)) (lv2 := [(0, .ref a0), (1, .int (x1 + 1)), (2, .int x2)]) (by decide) rfl dX12_nestMany_33 rfl ?_
        refine x_iinc (pc2 := 37) 2 [1, 2, 0] (i := 2) (x := x2) (v := (x2 + 1)) (lv2 := [(0, .ref a0), (1, .int (x1 + 1)), (2, .int (x2 + 1))]) rfl (iinc_eq (by decide) _) (by decide) rfl dX12_nestMany_34 rfl ?_
        refine x_goto 4 dX12_nestMany_37 (by decide) ?_
        exact ht
def T_X12_freeCells (G : GG) (d : Nat) (h : HP) (Q : Option Value → HP → Prop) (a0 : Nat) : Prop :=
  Kd G h a0 12 ∧ ∃ q2, hR h a0 29 = some q2 ∧ Kd G h q2 14 ∧ vp_in 0 (hN h q2) ∧ vp_in 1 (hN h q2) ∧ Ex G d mX12_freeCells 16 [(0, .ref a0), (1, .int ((hI h q2 0) * (hI h q2 1))), (2, .int 0)] [] h Q
set_option maxRecDepth 20000 in
theorem t_X12_freeCells {G : GG} {d : Nat} {h : HP} {Q : Option Value → HP → Prop} {a0 : Nat} (ht : T_X12_freeCells G d h Q a0) : Ex G d mX12_freeCells 0 [(0, .ref a0)] [] h Q := by
  unfold T_X12_freeCells at ht
  refine x_aload_n (pc2 := 1) 0 (n := 0) (x := a0) rfl dX12_freeCells_0 rfl ?_
  obtain ⟨k1, ht⟩ := ht
  obtain ⟨q2, e3, ht⟩ := ht
  refine y_getR (pc2 := 4) (κ := 12) (k := 29) fl_X12_48 (by decide) (by decide) k1 rfl e3 dX12_freeCells_1 rfl ?_
  refine x_iconst (pc2 := 5) (v := 0) (by decide) dX12_freeCells_4 rfl ?_
  obtain ⟨k4, ht⟩ := ht
  obtain ⟨b5, ht⟩ := ht
  refine z_iald (pc2 := 6) (k := 0) (by decide) k4 b5 dX12_freeCells_5 rfl ?_
  refine x_aload_n (pc2 := 7) 0 (n := 0) (x := a0) rfl dX12_freeCells_6 rfl ?_
  refine y_getR (pc2 := 10) (κ := 12) (k := 29) fl_X12_48 (by decide) (by decide) k1 rfl e3 dX12_freeCells_7 rfl ?_
  refine x_iconst (pc2 := 11) (v := 1) (by decide) dX12_freeCells_10 rfl ?_
  obtain ⟨b6, ht⟩ := ht
  refine z_iald (pc2 := 12) (k := 1) (by decide) k4 b6 dX12_freeCells_11 rfl ?_
  refine x_imul (pc2 := 13) dX12_freeCells_12 rfl ?_
  refine x_istore_n (pc2 := 14) [1, 0] (n := 1) (x := ((hI h q2 0) * (hI h q2 1))) (lv2 := [(0, .ref a0), (1, .int ((hI h q2 0) * (hI h q2 1)))]) (by decide) rfl dX12_freeCells_13 rfl ?_
  refine x_iconst (pc2 := 15) (v := 0) (by decide) dX12_freeCells_14 rfl ?_
  refine x_istore_n (pc2 := 16) [1, 2, 0] (n := 2) (x := 0) (lv2 := [(0, .ref a0), (1, .int ((hI h q2 0) * (hI h q2 1))), (2, .int 0)]) (by decide) rfl dX12_freeCells_15 rfl ?_
  exact ht
theorem e_X12_freeCells {G : GG} {d : Nat} {h : HP} {Q : Option Value → HP → Prop} {a0 : Nat} (ht : T_X12_freeCells G d h Q a0) : Cal G d mX12_freeCells [.ref a0] h Q := cal_of rfl (Nat.le_of_ble_eq_true rfl) (t_X12_freeCells ht)
def T_X12_freeCells_16 (G : GG) (d : Nat) (h : HP) (Q : Option Value → HP → Prop) (a0 : Nat) (x1 : Int32) (x2 : Int32) : Prop :=
  ((30 ≤ x2 → Q (some (.int x1)) h) ∧ (¬ 30 ≤ x2 → Kd G h a0 12 ∧ Cal G (d - 1) mX12_isThing [.ref a0, .int x2] h (fun r2 h3 => ∃ v6, r2 = some (.int v6) ∧ ((v6 = 0 → Ex G d mX12_freeCells 16 [(0, .ref a0), (1, .int (x1 - 0)), (2, .int (x2 + 1))] [] h3 Q) ∧ (¬ v6 = 0 → Cal G (d - 1) mX12_isOuter [.ref a0, .int x2] h3 (fun r8 h9 => ∃ v11, r8 = some (.int v11) ∧ ((v11 = 0 → Ex G d mX12_freeCells 16 [(0, .ref a0), (1, .int (x1 - 0)), (2, .int (x2 + 1))] [] h9 Q) ∧ (¬ v11 = 0 → Cal G (d - 1) mX12_cellsOf [.ref a0, .int x2] h9 (fun r13 h14 => ∃ v16, r13 = some (.int v16) ∧ Ex G d mX12_freeCells 16 [(0, .ref a0), (1, .int (x1 - v16)), (2, .int (x2 + 1))] [] h14 Q)))))))))
set_option maxRecDepth 20000 in
theorem t_X12_freeCells_16 {G : GG} {d : Nat} {h : HP} {Q : Option Value → HP → Prop} {a0 : Nat} {x1 : Int32} {x2 : Int32} (hd1 : 1 ≤ d) (ht : T_X12_freeCells_16 G d h Q a0 x1 x2) : Ex G d mX12_freeCells 16 [(0, .ref a0), (1, .int x1), (2, .int x2)] [] h Q := by
  unfold T_X12_freeCells_16 at ht
  refine x_iload_n (pc2 := 17) 2 (n := 2) (x := x2) rfl dX12_freeCells_16 rfl ?_
  refine x_bipush (pc2 := 19) (v := 30) (by decide) dX12_freeCells_17 rfl ?_
  refine x_icmp_ge (pc2 := 22) 56 dX12_freeCells_19 (by decide) rfl (fun c1 => ?_) (fun c1 => ?_)
  · replace ht := ht.1 c1
    refine x_iload_n (pc2 := 57) 1 (n := 1) (x := x1) rfl dX12_freeCells_56 rfl ?_
    exact x_ret (ty := .int) rfl rfl dX12_freeCells_57 ht
  · replace ht := ht.2 c1
    refine x_iload_n (pc2 := 23) 1 (n := 1) (x := x1) rfl dX12_freeCells_22 rfl ?_
    refine x_aload_n (pc2 := 24) 0 (n := 0) (x := a0) rfl dX12_freeCells_23 rfl ?_
    refine x_iload_n (pc2 := 25) 2 (n := 2) (x := x2) rfl dX12_freeCells_24 rfl ?_
    obtain ⟨k5, ht⟩ := ht
    refine x_callV (pc2 := 28) (As := [.int x2]) (rest := [.int x1]) (b := a0) mv_X12_isThing ml_X12_314 k5 rfl rfl (Nat.le_of_ble_eq_true rfl) hd1 dX12_freeCells_25 rfl (ht.mono (fun r2 h3 p4 ht' => ?_))
    clear ht
    obtain ⟨v6, rfl, ht⟩ := ht'
    show Ex G d mX12_freeCells 28 [(0, .ref a0), (1, .int x1), (2, .int x2)] [.int v6, .int x1] h3 Q
    refine x_if_eq (pc2 := 31) 47 dX12_freeCells_28 (by decide) rfl (fun c7 => ?_) (fun c7 => ?_)
    · replace ht := ht.1 c7
      refine x_iconst (pc2 := 48) (v := 0) (by decide) dX12_freeCells_47 rfl ?_
      refine x_isub (pc2 := 49) dX12_freeCells_48 rfl ?_
      refine x_istore_n (pc2 := 50) [1, 0, 2] (n := 1) (x := (x1 - 0)) (lv2 := [(0, .ref a0), (1, .int (x1 - 0)), (2, .int x2)]) (by decide) rfl dX12_freeCells_49 rfl ?_
      refine x_iinc (pc2 := 53) 2 [1, 2, 0] (i := 2) (x := x2) (v := (x2 + 1)) (lv2 := [(0, .ref a0), (1, .int (x1 - 0)), (2, .int (x2 + 1))]) rfl (iinc_eq (by decide) _) (by decide) rfl dX12_freeCells_50 rfl ?_
      refine x_goto 16 dX12_freeCells_53 (by decide) ?_
      exact ht
    · replace ht := ht.2 c7
      refine x_aload_n (pc2 := 32) 0 (n := 0) (x := a0) rfl dX12_freeCells_31 rfl ?_
      refine x_iload_n (pc2 := 33) 2 (n := 2) (x := x2) rfl dX12_freeCells_32 rfl ?_
      refine x_callV (pc2 := 36) (As := [.int x2]) (rest := [.int x1]) (b := a0) mv_X12_isOuter ml_X12_338 (k5.up p4) rfl rfl (Nat.le_of_ble_eq_true rfl) hd1 dX12_freeCells_33 rfl (ht.mono (fun r8 h9 p10 ht' => ?_))
      clear ht
      obtain ⟨v11, rfl, ht⟩ := ht'
      show Ex G d mX12_freeCells 36 [(0, .ref a0), (1, .int x1), (2, .int x2)] [.int v11, .int x1] h9 Q
      refine x_if_eq (pc2 := 39) 47 dX12_freeCells_36 (by decide) rfl (fun c12 => ?_) (fun c12 => ?_)
      · replace ht := ht.1 c12
        refine x_iconst (pc2 := 48) (v := 0) (by decide) dX12_freeCells_47 rfl ?_
        refine x_isub (pc2 := 49) dX12_freeCells_48 rfl ?_
        refine x_istore_n (pc2 := 50) [1, 0, 2] (n := 1) (x := (x1 - 0)) (lv2 := [(0, .ref a0), (1, .int (x1 - 0)), (2, .int x2)]) (by decide) rfl dX12_freeCells_49 rfl ?_
        refine x_iinc (pc2 := 53) 2 [1, 2, 0] (i := 2) (x := x2) (v := (x2 + 1)) (lv2 := [(0, .ref a0), (1, .int (x1 - 0)), (2, .int (x2 + 1))]) rfl (iinc_eq (by decide) _) (by decide) rfl dX12_freeCells_50 rfl ?_
        refine x_goto 16 dX12_freeCells_53 (by decide) ?_
        exact ht
      · replace ht := ht.2 c12
        refine x_aload_n (pc2 := 40) 0 (n := 0) (x := a0) rfl dX12_freeCells_39 rfl ?_
        refine x_iload_n (pc2 := 41) 2 (n := 2) (x := x2) rfl dX12_freeCells_40 rfl ?_
        refine x_callV (pc2 := 44) (As := [.int x2]) (rest := [.int x1]) (b := a0) mv_X12_cellsOf ml_X12_455 ((k5.up p4).up p10) rfl rfl (Nat.le_of_ble_eq_true rfl) hd1 dX12_freeCells_41 rfl (ht.mono (fun r13 h14 p15 ht' => ?_))
        clear ht
        obtain ⟨v16, rfl, ht⟩ := ht'
        show Ex G d mX12_freeCells 44 [(0, .ref a0), (1, .int x1), (2, .int x2)] [.int v16, .int x1] h14 Q
        refine x_goto 48 dX12_freeCells_44 (by decide) ?_
        refine x_isub (pc2 := 49) dX12_freeCells_48 rfl ?_
        refine x_istore_n (pc2 := 50) [1, 0, 2] (n := 1) (x := (x1 - v16)) (lv2 := [(0, .ref a0), (1, .int (x1 - v16)), (2, .int x2)]) (by decide) rfl dX12_freeCells_49 rfl ?_
        refine x_iinc (pc2 := 53) 2 [1, 2, 0] (i := 2) (x := x2) (v := (x2 + 1)) (lv2 := [(0, .ref a0), (1, .int (x1 - v16)), (2, .int (x2 + 1))]) rfl (iinc_eq (by decide) _) (by decide) rfl dX12_freeCells_50 rfl ?_
        refine x_goto 16 dX12_freeCells_53 (by decide) ?_
        exact ht
def T_X12_roundMany (G : GG) (d : Nat) (h : HP) (Q : Option Value → HP → Prop) (a0 : Nat) (x1 : Int32) : Prop :=
  Kd G h a0 12 ∧ Cal G (d - 1) mX12_of [.ref a0, .int x1, .int 6] h (fun r1 h2 => ∃ v5, r1 = some (.int v5) ∧ Ex G d mX12_roundMany 10 [(0, .ref a0), (1, .int x1), (2, .int 0), (3, .int v5)] [] h2 Q)
set_option maxRecDepth 20000 in
theorem t_X12_roundMany {G : GG} {d : Nat} {h : HP} {Q : Option Value → HP → Prop} {a0 : Nat} {x1 : Int32} (hd1 : 1 ≤ d) (ht : T_X12_roundMany G d h Q a0 x1) : Ex G d mX12_roundMany 0 [(0, .ref a0), (1, .int x1)] [] h Q := by
  unfold T_X12_roundMany at ht
  refine x_iconst (pc2 := 1) (v := 0) (by decide) dX12_roundMany_0 rfl ?_
  refine x_istore_n (pc2 := 2) [1, 2, 0] (n := 2) (x := 0) (lv2 := [(0, .ref a0), (1, .int x1), (2, .int 0)]) (by decide) rfl dX12_roundMany_1 rfl ?_
  refine x_aload_n (pc2 := 3) 0 (n := 0) (x := a0) rfl dX12_roundMany_2 rfl ?_
  refine x_iload_n (pc2 := 4) 1 (n := 1) (x := x1) rfl dX12_roundMany_3 rfl ?_
  refine x_bipush (pc2 := 6) (v := 6) (by decide) dX12_roundMany_4 rfl ?_
  obtain ⟨k4, ht⟩ := ht
  refine x_callV (pc2 := 9) (As := [.int x1, .int 6]) (rest := []) (b := a0) mv_X12_of ml_X12_310 k4 rfl rfl (Nat.le_of_ble_eq_true rfl) hd1 dX12_roundMany_6 rfl (ht.mono (fun r1 h2 p3 ht' => ?_))
  clear ht
  obtain ⟨v5, rfl, ht⟩ := ht'
  show Ex G d mX12_roundMany 9 [(0, .ref a0), (1, .int x1), (2, .int 0)] [.int v5] h2 Q
  refine x_istore_n (pc2 := 10) [1, 2, 3, 0] (n := 3) (x := v5) (lv2 := [(0, .ref a0), (1, .int x1), (2, .int 0), (3, .int v5)]) (by decide) rfl dX12_roundMany_9 rfl ?_
  exact ht
theorem e_X12_roundMany {G : GG} {d : Nat} {h : HP} {Q : Option Value → HP → Prop} {a0 : Nat} {x1 : Int32} (hd1 : 1 ≤ d) (ht : T_X12_roundMany G d h Q a0 x1) : Cal G d mX12_roundMany [.ref a0, .int x1] h Q := cal_of rfl (Nat.le_of_ble_eq_true rfl) (t_X12_roundMany hd1 ht)
def T_X12_roundMany_10 (G : GG) (d : Nat) (h : HP) (Q : Option Value → HP → Prop) (a0 : Nat) (x1 : Int32) (x2 : Int32) (x3 : Int32) : Prop :=
  ((x3 = (-1) → Q (some (.int x2)) h) ∧ (¬ x3 = (-1) → Kd G h a0 12 ∧ Cal G (d - 1) mX12_of [.ref a0, .int x3, .int 6] h (fun r2 h3 => ∃ v6, r2 = some (.int v6) ∧ Ex G d mX12_roundMany 10 [(0, .ref a0), (1, .int x1), (2, .int (x2 + 1)), (3, .int v6)] [] h3 Q)))
set_option maxRecDepth 20000 in
theorem t_X12_roundMany_10 {G : GG} {d : Nat} {h : HP} {Q : Option Value → HP → Prop} {a0 : Nat} {x1 : Int32} {x2 : Int32} {x3 : Int32} (hd1 : 1 ≤ d) (ht : T_X12_roundMany_10 G d h Q a0 x1 x2 x3) : Ex G d mX12_roundMany 10 [(0, .ref a0), (1, .int x1), (2, .int x2), (3, .int x3)] [] h Q := by
  unfold T_X12_roundMany_10 at ht
  refine x_iload_n (pc2 := 11) 3 (n := 3) (x := x3) rfl dX12_roundMany_10 rfl ?_
  refine x_iconst (pc2 := 12) (v := (-1)) (by decide) dX12_roundMany_11 rfl ?_
  refine x_icmp_eq (pc2 := 15) 29 dX12_roundMany_12 (by decide) rfl (fun c1 => ?_) (fun c1 => ?_)
  · replace ht := ht.1 c1
    refine x_iload_n (pc2 := 30) 2 (n := 2) (x := x2) rfl dX12_roundMany_29 rfl ?_
    exact x_ret (ty := .int) rfl rfl dX12_roundMany_30 ht
  · replace ht := ht.2 c1
    refine x_iinc (pc2 := 18) 2 [1, 2, 0, 3] (i := 2) (x := x2) (v := (x2 + 1)) (lv2 := [(0, .ref a0), (1, .int x1), (2, .int (x2 + 1)), (3, .int x3)]) rfl (iinc_eq (by decide) _) (by decide) rfl dX12_roundMany_15 rfl ?_
    refine x_aload_n (pc2 := 19) 0 (n := 0) (x := a0) rfl dX12_roundMany_18 rfl ?_
    refine x_iload_n (pc2 := 20) 3 (n := 3) (x := x3) rfl dX12_roundMany_19 rfl ?_
    refine x_bipush (pc2 := 22) (v := 6) (by decide) dX12_roundMany_20 rfl ?_
    obtain ⟨k5, ht⟩ := ht
    refine x_callV (pc2 := 25) (As := [.int x3, .int 6]) (rest := []) (b := a0) mv_X12_of ml_X12_310 k5 rfl rfl (Nat.le_of_ble_eq_true rfl) hd1 dX12_roundMany_22 rfl (ht.mono (fun r2 h3 p4 ht' => ?_))
    clear ht
    obtain ⟨v6, rfl, ht⟩ := ht'
    show Ex G d mX12_roundMany 25 [(0, .ref a0), (1, .int x1), (2, .int (x2 + 1)), (3, .int x3)] [.int v6] h3 Q
    refine x_istore_n (pc2 := 26) [1, 2, 3, 0] (n := 3) (x := v6) (lv2 := [(0, .ref a0), (1, .int x1), (2, .int (x2 + 1)), (3, .int v6)]) (by decide) rfl dX12_roundMany_25 rfl ?_
    refine x_goto 10 dX12_roundMany_26 (by decide) ?_
    exact ht
def T_X12_nests (G : GG) (d : Nat) (h : HP) (Q : Option Value → HP → Prop) (a0 : Nat) (x1 : Int32) : Prop :=
  ((¬ x1 = 0 → ((¬ x1 = 1 → ((¬ x1 = 4 → Cal G (d - 1) mX12_in [.long (x1.toInt64), .long 2, .long 3] h (fun r4 h5 => ∃ v7, r4 = some (.int v7) ∧ ((¬ v7 = 0 → Ex G d mX12_nests 79 [(0, .ref a0), (1, .int x1), (2, .int 0), (3, .int (-1)), (4, .int 0)] [] h5 Q) ∧ (v7 = 0 → Q (some (.int (-1))) h5)))) ∧ (x1 = 4 → Ex G d mX12_nests 28 [(0, .ref a0), (1, .int x1), (2, .int 0), (3, .int 0)] [] h Q))) ∧ (x1 = 1 → Kd G h a0 12 ∧ Cal G (d - 1) mX12_freeCells [.ref a0] h (fun r9 h10 => ∃ v13, r9 = some (.int v13) ∧ Q (some (.int v13)) h10)))) ∧ (x1 = 0 → Kd G h a0 12 ∧ Cal G (d - 1) mX12_nestMany [.ref a0] h (fun r14 h15 => ∃ v18, r14 = some (.int v18) ∧ Q (some (.int v18)) h15)))
set_option maxRecDepth 20000 in
theorem t_X12_nests {G : GG} {d : Nat} {h : HP} {Q : Option Value → HP → Prop} {a0 : Nat} {x1 : Int32} (hd1 : 1 ≤ d) (ht : T_X12_nests G d h Q a0 x1) : Ex G d mX12_nests 0 [(0, .ref a0), (1, .int x1)] [] h Q := by
  unfold T_X12_nests at ht
  refine x_iload_n (pc2 := 1) 1 (n := 1) (x := x1) rfl dX12_nests_0 rfl ?_
  refine y_if_ne (pc2 := 4) 9 dX12_nests_1 (by decide) rfl (fun c1 => ?_) (fun c1 => ?_)
  · replace ht := ht.1 c1
    refine x_iload_n (pc2 := 10) 1 (n := 1) (x := x1) rfl dX12_nests_9 rfl ?_
    refine x_iconst (pc2 := 11) (v := 1) (by decide) dX12_nests_10 rfl ?_
    refine y_icmp_ne (pc2 := 14) 19 dX12_nests_11 (by decide) rfl (fun c2 => ?_) (fun c2 => ?_)
    · replace ht := ht.1 c2
      refine x_iconst (pc2 := 20) (v := 0) (by decide) dX12_nests_19 rfl ?_
      refine x_istore_n (pc2 := 21) [1, 2, 0] (n := 2) (x := 0) (lv2 := [(0, .ref a0), (1, .int x1), (2, .int 0)]) (by decide) rfl dX12_nests_20 rfl ?_
      refine x_iload_n (pc2 := 22) 1 (n := 1) (x := x1) rfl dX12_nests_21 rfl ?_
      refine x_iconst (pc2 := 23) (v := 4) (by decide) dX12_nests_22 rfl ?_
      refine y_icmp_ne (pc2 := 26) 58 dX12_nests_23 (by decide) rfl (fun c3 => ?_) (fun c3 => ?_)
      · replace ht := ht.1 c3
        refine x_iload_n (pc2 := 59) 1 (n := 1) (x := x1) rfl dX12_nests_58 rfl ?_
        refine x_i2l (pc2 := 60) dX12_nests_59 rfl ?_
        refine x_ldc2 (pc2 := 63) (v := 2) ct_X12_345 dX12_nests_60 rfl ?_
        refine x_ldc2 (pc2 := 66) (v := 3) ct_X12_432 dX12_nests_63 rfl ?_
        refine x_callS (pc2 := 69) (As := [.long (x1.toInt64), .long 2, .long 3]) (rest := []) ms_X12_in ml_X12_112 rfl rfl (Nat.le_of_ble_eq_true rfl) hd1 dX12_nests_66 rfl (ht.mono (fun r4 h5 p6 ht' => ?_))
        clear ht
        obtain ⟨v7, rfl, ht⟩ := ht'
        show Ex G d mX12_nests 69 [(0, .ref a0), (1, .int x1), (2, .int 0)] [.int v7] h5 Q
        refine y_if_ne (pc2 := 72) 74 dX12_nests_69 (by decide) rfl (fun c8 => ?_) (fun c8 => ?_)
        · replace ht := ht.1 c8
          refine x_iconst (pc2 := 75) (v := (-1)) (by decide) dX12_nests_74 rfl ?_
          refine x_istore_n (pc2 := 76) [1, 2, 3, 0] (n := 3) (x := (-1)) (lv2 := [(0, .ref a0), (1, .int x1), (2, .int 0), (3, .int (-1))]) (by decide) rfl dX12_nests_75 rfl ?_
          refine x_iconst (pc2 := 77) (v := 0) (by decide) dX12_nests_76 rfl ?_
          refine x_istore (pc2 := 79) [1, 2, 3, 4, 0] (n := 4) (x := 0) (lv2 := [(0, .ref a0), (1, .int x1), (2, .int 0), (3, .int (-1)), (4, .int 0)]) (by decide) rfl dX12_nests_77 rfl ?_
          exact ht
        · replace ht := ht.2 c8
          refine x_iconst (pc2 := 73) (v := (-1)) (by decide) dX12_nests_72 rfl ?_
          exact x_ret (ty := .int) rfl rfl dX12_nests_73 ht
      · replace ht := ht.2 c3
        refine x_iconst (pc2 := 27) (v := 0) (by decide) dX12_nests_26 rfl ?_
        refine x_istore_n (pc2 := 28) [1, 2, 3, 0] (n := 3) (x := 0) (lv2 := [(0, .ref a0), (1, .int x1), (2, .int 0), (3, .int 0)]) (by decide) rfl dX12_nests_27 rfl ?_
        exact ht
    · replace ht := ht.2 c2
      refine x_aload_n (pc2 := 15) 0 (n := 0) (x := a0) rfl dX12_nests_14 rfl ?_
      obtain ⟨k12, ht⟩ := ht
      refine x_callV (pc2 := 18) (As := []) (rest := []) (b := a0) mv_X12_freeCells ml_X12_507 k12 rfl rfl (Nat.le_of_ble_eq_true rfl) hd1 dX12_nests_15 rfl (ht.mono (fun r9 h10 p11 ht' => ?_))
      clear ht
      obtain ⟨v13, rfl, ht⟩ := ht'
      show Ex G d mX12_nests 18 [(0, .ref a0), (1, .int x1)] [.int v13] h10 Q
      exact x_ret (ty := .int) rfl rfl dX12_nests_18 ht
  · replace ht := ht.2 c1
    refine x_aload_n (pc2 := 5) 0 (n := 0) (x := a0) rfl dX12_nests_4 rfl ?_
    obtain ⟨k17, ht⟩ := ht
    refine x_callV (pc2 := 8) (As := []) (rest := []) (b := a0) mv_X12_nestMany ml_X12_504 k17 rfl rfl (Nat.le_of_ble_eq_true rfl) hd1 dX12_nests_5 rfl (ht.mono (fun r14 h15 p16 ht' => ?_))
    clear ht
    obtain ⟨v18, rfl, ht⟩ := ht'
    show Ex G d mX12_nests 8 [(0, .ref a0), (1, .int x1)] [.int v18] h15 Q
    exact x_ret (ty := .int) rfl rfl dX12_nests_8 ht
theorem e_X12_nests {G : GG} {d : Nat} {h : HP} {Q : Option Value → HP → Prop} {a0 : Nat} {x1 : Int32} (hd1 : 1 ≤ d) (ht : T_X12_nests G d h Q a0 x1) : Cal G d mX12_nests [.ref a0, .int x1] h Q := cal_of rfl (Nat.le_of_ble_eq_true rfl) (t_X12_nests hd1 ht)
def T_X12_nests_28 (G : GG) (d : Nat) (h : HP) (Q : Option Value → HP → Prop) (a0 : Nat) (x1 : Int32) (x2 : Int32) (x3 : Int32) : Prop :=
  ((12 ≤ x3 → Q (some (.int x2)) h) ∧ (¬ 12 ≤ x3 → Kd G h a0 12 ∧ Cal G (d - 1) mX12_wallsOf [.ref a0, .int x3] h (fun r2 h3 => ∃ v6, r2 = some (.int v6) ∧ ((¬ v6 = 0 → Ex G d mX12_nests 28 [(0, .ref a0), (1, .int x1), (2, .int (x2 + 0)), (3, .int (x3 + 1))] [] h3 Q) ∧ (v6 = 0 → Ex G d mX12_nests 28 [(0, .ref a0), (1, .int x1), (2, .int (x2 + 1)), (3, .int (x3 + 1))] [] h3 Q)))))
set_option maxRecDepth 20000 in
theorem t_X12_nests_28 {G : GG} {d : Nat} {h : HP} {Q : Option Value → HP → Prop} {a0 : Nat} {x1 : Int32} {x2 : Int32} {x3 : Int32} (hd1 : 1 ≤ d) (ht : T_X12_nests_28 G d h Q a0 x1 x2 x3) : Ex G d mX12_nests 28 [(0, .ref a0), (1, .int x1), (2, .int x2), (3, .int x3)] [] h Q := by
  unfold T_X12_nests_28 at ht
  refine x_iload_n (pc2 := 29) 3 (n := 3) (x := x3) rfl dX12_nests_28 rfl ?_
  refine x_bipush (pc2 := 31) (v := 12) (by decide) dX12_nests_29 rfl ?_
  refine x_icmp_ge (pc2 := 34) 56 dX12_nests_31 (by decide) rfl (fun c1 => ?_) (fun c1 => ?_)
  · replace ht := ht.1 c1
    refine x_iload_n (pc2 := 57) 2 (n := 2) (x := x2) rfl dX12_nests_56 rfl ?_
    exact x_ret (ty := .int) rfl rfl dX12_nests_57 ht
  · replace ht := ht.2 c1
    refine x_iload_n (pc2 := 35) 2 (n := 2) (x := x2) rfl dX12_nests_34 rfl ?_
    refine x_aload_n (pc2 := 36) 0 (n := 0) (x := a0) rfl dX12_nests_35 rfl ?_
    refine x_iload_n (pc2 := 37) 3 (n := 3) (x := x3) rfl dX12_nests_36 rfl ?_
    obtain ⟨k5, ht⟩ := ht
    refine x_callV (pc2 := 40) (As := [.int x3]) (rest := [.int x2]) (b := a0) mv_X12_wallsOf ml_X12_357 k5 rfl rfl (Nat.le_of_ble_eq_true rfl) hd1 dX12_nests_37 rfl (ht.mono (fun r2 h3 p4 ht' => ?_))
    clear ht
    obtain ⟨v6, rfl, ht⟩ := ht'
    show Ex G d mX12_nests 40 [(0, .ref a0), (1, .int x1), (2, .int x2), (3, .int x3)] [.int v6, .int x2] h3 Q
    refine y_if_ne (pc2 := 43) 47 dX12_nests_40 (by decide) rfl (fun c7 => ?_) (fun c7 => ?_)
    · replace ht := ht.1 c7
      refine x_iconst (pc2 := 48) (v := 0) (by decide) dX12_nests_47 rfl ?_
      refine x_iadd (pc2 := 49) dX12_nests_48 rfl ?_
      refine x_istore_n (pc2 := 50) [1, 2, 0, 3] (n := 2) (x := (x2 + 0)) (lv2 := [(0, .ref a0), (1, .int x1), (2, .int (x2 + 0)), (3, .int x3)]) (by decide) rfl dX12_nests_49 rfl ?_
      refine x_iinc (pc2 := 53) 3 [1, 2, 3, 0] (i := 3) (x := x3) (v := (x3 + 1)) (lv2 := [(0, .ref a0), (1, .int x1), (2, .int (x2 + 0)), (3, .int (x3 + 1))]) rfl (iinc_eq (by decide) _) (by decide) rfl dX12_nests_50 rfl ?_
      refine x_goto 28 dX12_nests_53 (by decide) ?_
      exact ht
    · replace ht := ht.2 c7
      refine x_iconst (pc2 := 44) (v := 1) (by decide) dX12_nests_43 rfl ?_
      refine x_goto 48 dX12_nests_44 (by decide) ?_
      refine x_iadd (pc2 := 49) dX12_nests_48 rfl ?_
      refine x_istore_n (pc2 := 50) [1, 2, 0, 3] (n := 2) (x := (x2 + 1)) (lv2 := [(0, .ref a0), (1, .int x1), (2, .int (x2 + 1)), (3, .int x3)]) (by decide) rfl dX12_nests_49 rfl ?_
      refine x_iinc (pc2 := 53) 3 [1, 2, 3, 0] (i := 3) (x := x3) (v := (x3 + 1)) (lv2 := [(0, .ref a0), (1, .int x1), (2, .int (x2 + 1)), (3, .int (x3 + 1))]) rfl (iinc_eq (by decide) _) (by decide) rfl dX12_nests_50 rfl ?_
      refine x_goto 28 dX12_nests_53 (by decide) ?_
      exact ht
def T_X12_nests_79 (G : GG) (d : Nat) (h : HP) (Q : Option Value → HP → Prop) (a0 : Nat) (x1 : Int32) (x2 : Int32) (x3 : Int32) (x4 : Int32) : Prop :=
  ((30 ≤ x4 → ((x1 = 2 → Q (some (.int x3)) h) ∧ (¬ x1 = 2 → ((0 ≤ x3 → Kd G h a0 12 ∧ Cal G (d - 1) mX12_roundMany [.ref a0, .int x3] h (fun r4 h5 => ∃ v8, r4 = some (.int v8) ∧ Q (some (.int v8)) h5)) ∧ (¬ 0 ≤ x3 → Q (some (.int x3)) h))))) ∧ (¬ 30 ≤ x4 → Kd G h a0 12 ∧ Cal G (d - 1) mX12_isThing [.ref a0, .int x4] h (fun r9 h10 => ∃ v13, r9 = some (.int v13) ∧ ((v13 = 0 → Ex G d mX12_nests 79 [(0, .ref a0), (1, .int x1), (2, .int x2), (3, .int x3), (4, .int (x4 + 1))] [] h10 Q) ∧ (¬ v13 = 0 → ((x3 < 0 → Ex G d mX12_nests 79 [(0, .ref a0), (1, .int x1), (2, .int x2), (3, .int x4), (4, .int (x4 + 1))] [] h10 Q) ∧ (¬ x3 < 0 → Cal G (d - 1) mX12_roundMany [.ref a0, .int x4] h10 (fun r16 h17 => ∃ v19, r16 = some (.int v19) ∧ Cal G (d - 1) mX12_roundMany [.ref a0, .int x3] h17 (fun r20 h21 => ∃ v23, r20 = some (.int v23) ∧ ((v19 ≤ v23 → Ex G d mX12_nests 79 [(0, .ref a0), (1, .int x1), (2, .int x2), (3, .int x3), (4, .int (x4 + 1))] [] h21 Q) ∧ (¬ v19 ≤ v23 → Ex G d mX12_nests 79 [(0, .ref a0), (1, .int x1), (2, .int x2), (3, .int x4), (4, .int (x4 + 1))] [] h21 Q)))))))))))
set_option maxRecDepth 20000 in
theorem t_X12_nests_79 {G : GG} {d : Nat} {h : HP} {Q : Option Value → HP → Prop} {a0 : Nat} {x1 : Int32} {x2 : Int32} {x3 : Int32} {x4 : Int32} (hd1 : 1 ≤ d) (ht : T_X12_nests_79 G d h Q a0 x1 x2 x3 x4) : Ex G d mX12_nests 79 [(0, .ref a0), (1, .int x1), (2, .int x2), (3, .int x3), (4, .int x4)] [] h Q := by
  unfold T_X12_nests_79 at ht
  refine x_iload (pc2 := 81) 4 (n := 4) (x := x4) rfl dX12_nests_79 rfl ?_
  refine x_bipush (pc2 := 83) (v := 30) (by decide) dX12_nests_81 rfl ?_
  refine x_icmp_ge (pc2 := 86) 122 dX12_nests_83 (by decide) rfl (fun c1 => ?_) (fun c1 => ?_)
  · replace ht := ht.1 c1
    refine x_iload_n (pc2 := 123) 1 (n := 1) (x := x1) rfl dX12_nests_122 rfl ?_
    refine x_iconst (pc2 := 124) (v := 2) (by decide) dX12_nests_123 rfl ?_
    refine x_icmp_eq (pc2 := 127) 131 dX12_nests_124 (by decide) rfl (fun c2 => ?_) (fun c2 => ?_)
    · replace ht := ht.1 c2
      refine x_iload_n (pc2 := 132) 3 (n := 3) (x := x3) rfl dX12_nests_131 rfl ?_
      refine x_goto 140 dX12_nests_132 (by decide) ?_
      exact x_ret (ty := .int) rfl rfl dX12_nests_140 ht
    · replace ht := ht.2 c2
      refine x_iload_n (pc2 := 128) 3 (n := 3) (x := x3) rfl dX12_nests_127 rfl ?_
      refine x_if_ge (pc2 := 131) 135 dX12_nests_128 (by decide) rfl (fun c3 => ?_) (fun c3 => ?_)
      · replace ht := ht.1 c3
        refine x_aload_n (pc2 := 136) 0 (n := 0) (x := a0) rfl dX12_nests_135 rfl ?_
        refine x_iload_n (pc2 := 137) 3 (n := 3) (x := x3) rfl dX12_nests_136 rfl ?_
        obtain ⟨k7, ht⟩ := ht
        refine x_callV (pc2 := 140) (As := [.int x3]) (rest := []) (b := a0) mv_X12_roundMany ml_X12_510 k7 rfl rfl (Nat.le_of_ble_eq_true rfl) hd1 dX12_nests_137 rfl (ht.mono (fun r4 h5 p6 ht' => ?_))
        clear ht
        obtain ⟨v8, rfl, ht⟩ := ht'
        show Ex G d mX12_nests 140 [(0, .ref a0), (1, .int x1), (2, .int x2), (3, .int x3), (4, .int x4)] [.int v8] h5 Q
        exact x_ret (ty := .int) rfl rfl dX12_nests_140 ht
      · replace ht := ht.2 c3
        refine x_iload_n (pc2 := 132) 3 (n := 3) (x := x3) rfl dX12_nests_131 rfl ?_
        refine x_goto 140 dX12_nests_132 (by decide) ?_
        exact x_ret (ty := .int) rfl rfl dX12_nests_140 ht
  · replace ht := ht.2 c1
    refine x_aload_n (pc2 := 87) 0 (n := 0) (x := a0) rfl dX12_nests_86 rfl ?_
    refine x_iload (pc2 := 89) 4 (n := 4) (x := x4) rfl dX12_nests_87 rfl ?_
    obtain ⟨k12, ht⟩ := ht
    refine x_callV (pc2 := 92) (As := [.int x4]) (rest := []) (b := a0) mv_X12_isThing ml_X12_314 k12 rfl rfl (Nat.le_of_ble_eq_true rfl) hd1 dX12_nests_89 rfl (ht.mono (fun r9 h10 p11 ht' => ?_))
    clear ht
    obtain ⟨v13, rfl, ht⟩ := ht'
    show Ex G d mX12_nests 92 [(0, .ref a0), (1, .int x1), (2, .int x2), (3, .int x3), (4, .int x4)] [.int v13] h10 Q
    refine x_if_eq (pc2 := 95) 116 dX12_nests_92 (by decide) rfl (fun c14 => ?_) (fun c14 => ?_)
    · replace ht := ht.1 c14
      refine x_iinc (pc2 := 119) 4 [1, 2, 3, 4, 0] (i := 4) (x := x4) (v := (x4 + 1)) (lv2 := [(0, .ref a0), (1, .int x1), (2, .int x2), (3, .int x3), (4, .int (x4 + 1))]) rfl (iinc_eq (by decide) _) (by decide) rfl dX12_nests_116 rfl ?_
      refine x_goto 79 dX12_nests_119 (by decide) ?_
      exact ht
    · replace ht := ht.2 c14
      refine x_iload_n (pc2 := 96) 3 (n := 3) (x := x3) rfl dX12_nests_95 rfl ?_
      refine x_if_lt (pc2 := 99) 113 dX12_nests_96 (by decide) rfl (fun c15 => ?_) (fun c15 => ?_)
      · replace ht := ht.1 c15
        refine x_iload (pc2 := 115) 4 (n := 4) (x := x4) rfl dX12_nests_113 rfl ?_
        refine x_istore_n (pc2 := 116) [1, 2, 3, 0, 4] (n := 3) (x := x4) (lv2 := [(0, .ref a0), (1, .int x1), (2, .int x2), (3, .int x4), (4, .int x4)]) (by decide) rfl dX12_nests_115 rfl ?_
        refine x_iinc (pc2 := 119) 4 [1, 2, 3, 4, 0] (i := 4) (x := x4) (v := (x4 + 1)) (lv2 := [(0, .ref a0), (1, .int x1), (2, .int x2), (3, .int x4), (4, .int (x4 + 1))]) rfl (iinc_eq (by decide) _) (by decide) rfl dX12_nests_116 rfl ?_
        refine x_goto 79 dX12_nests_119 (by decide) ?_
        exact ht
      · replace ht := ht.2 c15
        refine x_aload_n (pc2 := 100) 0 (n := 0) (x := a0) rfl dX12_nests_99 rfl ?_
        refine x_iload (pc2 := 102) 4 (n := 4) (x := x4) rfl dX12_nests_100 rfl ?_
        refine x_callV (pc2 := 105) (As := [.int x4]) (rest := []) (b := a0) mv_X12_roundMany ml_X12_510 (k12.up p11) rfl rfl (Nat.le_of_ble_eq_true rfl) hd1 dX12_nests_102 rfl (ht.mono (fun r16 h17 p18 ht' => ?_))
        clear ht
        obtain ⟨v19, rfl, ht⟩ := ht'
        show Ex G d mX12_nests 105 [(0, .ref a0), (1, .int x1), (2, .int x2), (3, .int x3), (4, .int x4)] [.int v19] h17 Q
        refine x_aload_n (pc2 := 106) 0 (n := 0) (x := a0) rfl dX12_nests_105 rfl ?_
        refine x_iload_n (pc2 := 107) 3 (n := 3) (x := x3) rfl dX12_nests_106 rfl ?_
        refine x_callV (pc2 := 110) (As := [.int x3]) (rest := [.int v19]) (b := a0) mv_X12_roundMany ml_X12_510 ((k12.up p11).up p18) rfl rfl (Nat.le_of_ble_eq_true rfl) hd1 dX12_nests_107 rfl (ht.mono (fun r20 h21 p22 ht' => ?_))
        clear ht
        obtain ⟨v23, rfl, ht⟩ := ht'
        show Ex G d mX12_nests 110 [(0, .ref a0), (1, .int x1), (2, .int x2), (3, .int x3), (4, .int x4)] [.int v23, .int v19] h21 Q
        refine x_icmp_le (pc2 := 113) 116 dX12_nests_110 (by decide) rfl (fun c24 => ?_) (fun c24 => ?_)
        · replace ht := ht.1 c24
          refine x_iinc (pc2 := 119) 4 [1, 2, 3, 4, 0] (i := 4) (x := x4) (v := (x4 + 1)) (lv2 := [(0, .ref a0), (1, .int x1), (2, .int x2), (3, .int x3), (4, .int (x4 + 1))]) rfl (iinc_eq (by decide) _) (by decide) rfl dX12_nests_116 rfl ?_
          refine x_goto 79 dX12_nests_119 (by decide) ?_
          exact ht
        · replace ht := ht.2 c24
          refine x_iload (pc2 := 115) 4 (n := 4) (x := x4) rfl dX12_nests_113 rfl ?_
          refine x_istore_n (pc2 := 116) [1, 2, 3, 0, 4] (n := 3) (x := x4) (lv2 := [(0, .ref a0), (1, .int x1), (2, .int x2), (3, .int x4), (4, .int x4)]) (by decide) rfl dX12_nests_115 rfl ?_
          refine x_iinc (pc2 := 119) 4 [1, 2, 3, 4, 0] (i := 4) (x := x4) (v := (x4 + 1)) (lv2 := [(0, .ref a0), (1, .int x1), (2, .int x2), (3, .int x4), (4, .int (x4 + 1))]) rfl (iinc_eq (by decide) _) (by decide) rfl dX12_nests_116 rfl ?_
          refine x_goto 79 dX12_nests_119 (by decide) ?_
          exact ht
def T_X12_between (G : GG) (d : Nat) (h : HP) (Q : Option Value → HP → Prop) (a0 : Nat) (x1 : Int32) (x2 : Int32) : Prop :=
  Kd G h a0 12 ∧ Cal G (d - 1) mX12_isThing [.ref a0, .int x1] h (fun r1 h2 => ∃ v5, r1 = some (.int v5) ∧ ((v5 = 0 → Q (some (.int (-1))) h2) ∧ (¬ v5 = 0 → Cal G (d - 1) mX12_isThing [.ref a0, .int x2] h2 (fun r7 h8 => ∃ v10, r7 = some (.int v10) ∧ ((v10 = 0 → Q (some (.int (-1))) h8) ∧ (¬ v10 = 0 → ((x1 = x2 → Q (some (.int (-1))) h8) ∧ (¬ x1 = x2 → Cal G (d - 1) mX12_isOuter [.ref a0, .int x1] h8 (fun r13 h14 => ∃ v16, r13 = some (.int v16) ∧ ((v16 = 0 → Q (some (.int (-1))) h14) ∧ (¬ v16 = 0 → Cal G (d - 1) mX12_isOuter [.ref a0, .int x2] h14 (fun r18 h19 => ∃ v21, r18 = some (.int v21) ∧ ((¬ v21 = 0 → Cal G (d - 1) mX12_bases [.ref a0, .int x1, .int x2] h19 (fun r23 h24 => r23 = none ∧ (((hI h24 a0 37) < 1 → Q (some (.int (-2))) h24) ∧ (¬ (hI h24 a0 37) < 1 → (((hI h24 a0 38) < 1 → Q (some (.int (-2))) h24) ∧ (¬ (hI h24 a0 38) < 1 → ∃ q28, hR h24 a0 29 = some q28 ∧ Kd G h24 q28 14 ∧ vp_in 0 (hN h24 q28) ∧ (((hI h24 q28 0) ≤ (hI h24 a0 39) → Q (some (.int (-2))) h24) ∧ (¬ (hI h24 q28 0) ≤ (hI h24 a0 39) → vp_in 1 (hN h24 q28) ∧ (((hI h24 a0 40) < (hI h24 q28 1) → Cal G (d - 1) mX12_cellsOf [.ref a0, .int x1] h24 (fun r35 h36 => ∃ v38, r35 = some (.int v38) ∧ Cal G (d - 1) mX12_cellsOf [.ref a0, .int x2] h36 (fun r39 h40 => ∃ v42, r39 = some (.int v42) ∧ Q (some (.int ((((((hI h24 a0 39) - (hI h24 a0 37)) + 2) * (((hI h24 a0 40) - (hI h24 a0 38)) + 2)) - v38) - v42))) h40))) ∧ (¬ (hI h24 a0 40) < (hI h24 q28 1) → Q (some (.int (-2))) h24)))))))))) ∧ (v21 = 0 → Q (some (.int (-1))) h19))))))))))))))
set_option maxRecDepth 20000 in
theorem t_X12_between {G : GG} {d : Nat} {h : HP} {Q : Option Value → HP → Prop} {a0 : Nat} {x1 : Int32} {x2 : Int32} (hd1 : 1 ≤ d) (ht : T_X12_between G d h Q a0 x1 x2) : Ex G d mX12_between 0 [(0, .ref a0), (1, .int x1), (2, .int x2)] [] h Q := by
  unfold T_X12_between at ht
  refine x_aload_n (pc2 := 1) 0 (n := 0) (x := a0) rfl dX12_between_0 rfl ?_
  refine x_iload_n (pc2 := 2) 1 (n := 1) (x := x1) rfl dX12_between_1 rfl ?_
  obtain ⟨k4, ht⟩ := ht
  refine x_callV (pc2 := 5) (As := [.int x1]) (rest := []) (b := a0) mv_X12_isThing ml_X12_314 k4 rfl rfl (Nat.le_of_ble_eq_true rfl) hd1 dX12_between_2 rfl (ht.mono (fun r1 h2 p3 ht' => ?_))
  clear ht
  obtain ⟨v5, rfl, ht⟩ := ht'
  show Ex G d mX12_between 5 [(0, .ref a0), (1, .int x1), (2, .int x2)] [.int v5] h2 Q
  refine x_if_eq (pc2 := 8) 37 dX12_between_5 (by decide) rfl (fun c6 => ?_) (fun c6 => ?_)
  · replace ht := ht.1 c6
    refine x_iconst (pc2 := 38) (v := (-1)) (by decide) dX12_between_37 rfl ?_
    exact x_ret (ty := .int) rfl rfl dX12_between_38 ht
  · replace ht := ht.2 c6
    refine x_aload_n (pc2 := 9) 0 (n := 0) (x := a0) rfl dX12_between_8 rfl ?_
    refine x_iload_n (pc2 := 10) 2 (n := 2) (x := x2) rfl dX12_between_9 rfl ?_
    refine x_callV (pc2 := 13) (As := [.int x2]) (rest := []) (b := a0) mv_X12_isThing ml_X12_314 (k4.up p3) rfl rfl (Nat.le_of_ble_eq_true rfl) hd1 dX12_between_10 rfl (ht.mono (fun r7 h8 p9 ht' => ?_))
    clear ht
    obtain ⟨v10, rfl, ht⟩ := ht'
    show Ex G d mX12_between 13 [(0, .ref a0), (1, .int x1), (2, .int x2)] [.int v10] h8 Q
    refine x_if_eq (pc2 := 16) 37 dX12_between_13 (by decide) rfl (fun c11 => ?_) (fun c11 => ?_)
    · replace ht := ht.1 c11
      refine x_iconst (pc2 := 38) (v := (-1)) (by decide) dX12_between_37 rfl ?_
      exact x_ret (ty := .int) rfl rfl dX12_between_38 ht
    · replace ht := ht.2 c11
      refine x_iload_n (pc2 := 17) 1 (n := 1) (x := x1) rfl dX12_between_16 rfl ?_
      refine x_iload_n (pc2 := 18) 2 (n := 2) (x := x2) rfl dX12_between_17 rfl ?_
      refine x_icmp_eq (pc2 := 21) 37 dX12_between_18 (by decide) rfl (fun c12 => ?_) (fun c12 => ?_)
      · replace ht := ht.1 c12
        refine x_iconst (pc2 := 38) (v := (-1)) (by decide) dX12_between_37 rfl ?_
        exact x_ret (ty := .int) rfl rfl dX12_between_38 ht
      · replace ht := ht.2 c12
        refine x_aload_n (pc2 := 22) 0 (n := 0) (x := a0) rfl dX12_between_21 rfl ?_
        refine x_iload_n (pc2 := 23) 1 (n := 1) (x := x1) rfl dX12_between_22 rfl ?_
        refine x_callV (pc2 := 26) (As := [.int x1]) (rest := []) (b := a0) mv_X12_isOuter ml_X12_338 ((k4.up p3).up p9) rfl rfl (Nat.le_of_ble_eq_true rfl) hd1 dX12_between_23 rfl (ht.mono (fun r13 h14 p15 ht' => ?_))
        clear ht
        obtain ⟨v16, rfl, ht⟩ := ht'
        show Ex G d mX12_between 26 [(0, .ref a0), (1, .int x1), (2, .int x2)] [.int v16] h14 Q
        refine x_if_eq (pc2 := 29) 37 dX12_between_26 (by decide) rfl (fun c17 => ?_) (fun c17 => ?_)
        · replace ht := ht.1 c17
          refine x_iconst (pc2 := 38) (v := (-1)) (by decide) dX12_between_37 rfl ?_
          exact x_ret (ty := .int) rfl rfl dX12_between_38 ht
        · replace ht := ht.2 c17
          refine x_aload_n (pc2 := 30) 0 (n := 0) (x := a0) rfl dX12_between_29 rfl ?_
          refine x_iload_n (pc2 := 31) 2 (n := 2) (x := x2) rfl dX12_between_30 rfl ?_
          refine x_callV (pc2 := 34) (As := [.int x2]) (rest := []) (b := a0) mv_X12_isOuter ml_X12_338 (((k4.up p3).up p9).up p15) rfl rfl (Nat.le_of_ble_eq_true rfl) hd1 dX12_between_31 rfl (ht.mono (fun r18 h19 p20 ht' => ?_))
          clear ht
          obtain ⟨v21, rfl, ht⟩ := ht'
          show Ex G d mX12_between 34 [(0, .ref a0), (1, .int x1), (2, .int x2)] [.int v21] h19 Q
          refine y_if_ne (pc2 := 37) 39 dX12_between_34 (by decide) rfl (fun c22 => ?_) (fun c22 => ?_)
          · replace ht := ht.1 c22
            refine x_aload_n (pc2 := 40) 0 (n := 0) (x := a0) rfl dX12_between_39 rfl ?_
            refine x_iload_n (pc2 := 41) 1 (n := 1) (x := x1) rfl dX12_between_40 rfl ?_
            refine x_iload_n (pc2 := 42) 2 (n := 2) (x := x2) rfl dX12_between_41 rfl ?_
            refine x_callV (pc2 := 45) (As := [.int x1, .int x2]) (rest := []) (b := a0) mv_X12_bases ml_X12_480 ((((k4.up p3).up p9).up p15).up p20) rfl rfl (Nat.le_of_ble_eq_true rfl) hd1 dX12_between_42 rfl (ht.mono (fun r23 h24 p25 ht' => ?_))
            clear ht
            obtain ⟨rfl, ht⟩ := ht'
            show Ex G d mX12_between 45 [(0, .ref a0), (1, .int x1), (2, .int x2)] [] h24 Q
            refine x_aload_n (pc2 := 46) 0 (n := 0) (x := a0) rfl dX12_between_45 rfl ?_
            refine y_getI (pc2 := 49) (κ := 12) (k := 37) fl_X12_458 (by decide) (by decide) (((((k4.up p3).up p9).up p15).up p20).up p25) rfl dX12_between_46 rfl ?_
            refine x_iconst (pc2 := 50) (v := 1) (by decide) dX12_between_49 rfl ?_
            refine x_icmp_lt (pc2 := 53) 87 dX12_between_50 (by decide) rfl (fun c26 => ?_) (fun c26 => ?_)
            · replace ht := ht.1 c26
              refine x_bipush (pc2 := 89) (v := (-2)) (by decide) dX12_between_87 rfl ?_
              exact x_ret (ty := .int) rfl rfl dX12_between_89 ht
            · replace ht := ht.2 c26
              refine x_aload_n (pc2 := 54) 0 (n := 0) (x := a0) rfl dX12_between_53 rfl ?_
              refine y_getI (pc2 := 57) (κ := 12) (k := 38) fl_X12_461 (by decide) (by decide) (((((k4.up p3).up p9).up p15).up p20).up p25) rfl dX12_between_54 rfl ?_
              refine x_iconst (pc2 := 58) (v := 1) (by decide) dX12_between_57 rfl ?_
              refine x_icmp_lt (pc2 := 61) 87 dX12_between_58 (by decide) rfl (fun c27 => ?_) (fun c27 => ?_)
              · replace ht := ht.1 c27
                refine x_bipush (pc2 := 89) (v := (-2)) (by decide) dX12_between_87 rfl ?_
                exact x_ret (ty := .int) rfl rfl dX12_between_89 ht
              · replace ht := ht.2 c27
                refine x_aload_n (pc2 := 62) 0 (n := 0) (x := a0) rfl dX12_between_61 rfl ?_
                refine y_getI (pc2 := 65) (κ := 12) (k := 39) fl_X12_464 (by decide) (by decide) (((((k4.up p3).up p9).up p15).up p20).up p25) rfl dX12_between_62 rfl ?_
                refine x_aload_n (pc2 := 66) 0 (n := 0) (x := a0) rfl dX12_between_65 rfl ?_
                obtain ⟨q28, e29, ht⟩ := ht
                refine y_getR (pc2 := 69) (κ := 12) (k := 29) fl_X12_48 (by decide) (by decide) (((((k4.up p3).up p9).up p15).up p20).up p25) rfl e29 dX12_between_66 rfl ?_
                refine x_iconst (pc2 := 70) (v := 0) (by decide) dX12_between_69 rfl ?_
                obtain ⟨k30, ht⟩ := ht
                obtain ⟨b31, ht⟩ := ht
                refine z_iald (pc2 := 71) (k := 0) (by decide) k30 b31 dX12_between_70 rfl ?_
                refine x_icmp_ge (pc2 := 74) 87 dX12_between_71 (by decide) rfl (fun c32 => ?_) (fun c32 => ?_)
                · replace ht := ht.1 c32
                  refine x_bipush (pc2 := 89) (v := (-2)) (by decide) dX12_between_87 rfl ?_
                  exact x_ret (ty := .int) rfl rfl dX12_between_89 ht
                · replace ht := ht.2 c32
                  refine x_aload_n (pc2 := 75) 0 (n := 0) (x := a0) rfl dX12_between_74 rfl ?_
                  refine y_getI (pc2 := 78) (κ := 12) (k := 40) fl_X12_467 (by decide) (by decide) (((((k4.up p3).up p9).up p15).up p20).up p25) rfl dX12_between_75 rfl ?_
                  refine x_aload_n (pc2 := 79) 0 (n := 0) (x := a0) rfl dX12_between_78 rfl ?_
                  refine y_getR (pc2 := 82) (κ := 12) (k := 29) fl_X12_48 (by decide) (by decide) (((((k4.up p3).up p9).up p15).up p20).up p25) rfl e29 dX12_between_79 rfl ?_
                  refine x_iconst (pc2 := 83) (v := 1) (by decide) dX12_between_82 rfl ?_
                  obtain ⟨b33, ht⟩ := ht
                  refine z_iald (pc2 := 84) (k := 1) (by decide) k30 b33 dX12_between_83 rfl ?_
                  refine x_icmp_lt (pc2 := 87) 90 dX12_between_84 (by decide) rfl (fun c34 => ?_) (fun c34 => ?_)
                  · replace ht := ht.1 c34
                    refine x_aload_n (pc2 := 91) 0 (n := 0) (x := a0) rfl dX12_between_90 rfl ?_
                    refine y_getI (pc2 := 94) (κ := 12) (k := 39) fl_X12_464 (by decide) (by decide) (((((k4.up p3).up p9).up p15).up p20).up p25) rfl dX12_between_91 rfl ?_
                    refine x_aload_n (pc2 := 95) 0 (n := 0) (x := a0) rfl dX12_between_94 rfl ?_
                    refine y_getI (pc2 := 98) (κ := 12) (k := 37) fl_X12_458 (by decide) (by decide) (((((k4.up p3).up p9).up p15).up p20).up p25) rfl dX12_between_95 rfl ?_
                    refine x_isub (pc2 := 99) dX12_between_98 rfl ?_
                    refine x_iconst (pc2 := 100) (v := 2) (by decide) dX12_between_99 rfl ?_
                    refine x_iadd (pc2 := 101) dX12_between_100 rfl ?_
                    refine x_aload_n (pc2 := 102) 0 (n := 0) (x := a0) rfl dX12_between_101 rfl ?_
                    refine y_getI (pc2 := 105) (κ := 12) (k := 40) fl_X12_467 (by decide) (by decide) (((((k4.up p3).up p9).up p15).up p20).up p25) rfl dX12_between_102 rfl ?_
                    refine x_aload_n (pc2 := 106) 0 (n := 0) (x := a0) rfl dX12_between_105 rfl ?_
                    refine y_getI (pc2 := 109) (κ := 12) (k := 38) fl_X12_461 (by decide) (by decide) (((((k4.up p3).up p9).up p15).up p20).up p25) rfl dX12_between_106 rfl ?_
                    refine x_isub (pc2 := 110) dX12_between_109 rfl ?_
                    refine x_iconst (pc2 := 111) (v := 2) (by decide) dX12_between_110 rfl ?_
                    refine x_iadd (pc2 := 112) dX12_between_111 rfl ?_
                    refine x_imul (pc2 := 113) dX12_between_112 rfl ?_
                    refine x_aload_n (pc2 := 114) 0 (n := 0) (x := a0) rfl dX12_between_113 rfl ?_
                    refine x_iload_n (pc2 := 115) 1 (n := 1) (x := x1) rfl dX12_between_114 rfl ?_
                    refine x_callV (pc2 := 118) (As := [.int x1]) (rest := [.int ((((hI h24 a0 39) - (hI h24 a0 37)) + 2) * (((hI h24 a0 40) - (hI h24 a0 38)) + 2))]) (b := a0) mv_X12_cellsOf ml_X12_455 (((((k4.up p3).up p9).up p15).up p20).up p25) rfl rfl (Nat.le_of_ble_eq_true rfl) hd1 dX12_between_115 rfl (ht.mono (fun r35 h36 p37 ht' => ?_))
                    clear ht
                    obtain ⟨v38, rfl, ht⟩ := ht'
                    show Ex G d mX12_between 118 [(0, .ref a0), (1, .int x1), (2, .int x2)] [.int v38, .int ((((hI h24 a0 39) - (hI h24 a0 37)) + 2) * (((hI h24 a0 40) - (hI h24 a0 38)) + 2))] h36 Q
                    refine x_isub (pc2 := 119) dX12_between_118 rfl ?_
                    refine x_aload_n (pc2 := 120) 0 (n := 0) (x := a0) rfl dX12_between_119 rfl ?_
                    refine x_iload_n (pc2 := 121) 2 (n := 2) (x := x2) rfl dX12_between_120 rfl ?_
                    refine x_callV (pc2 := 124) (As := [.int x2]) (rest := [.int (((((hI h24 a0 39) - (hI h24 a0 37)) + 2) * (((hI h24 a0 40) - (hI h24 a0 38)) + 2)) - v38)]) (b := a0) mv_X12_cellsOf ml_X12_455 ((((((k4.up p3).up p9).up p15).up p20).up p25).up p37) rfl rfl (Nat.le_of_ble_eq_true rfl) hd1 dX12_between_121 rfl (ht.mono (fun r39 h40 p41 ht' => ?_))
                    clear ht
                    obtain ⟨v42, rfl, ht⟩ := ht'
                    show Ex G d mX12_between 124 [(0, .ref a0), (1, .int x1), (2, .int x2)] [.int v42, .int (((((hI h24 a0 39) - (hI h24 a0 37)) + 2) * (((hI h24 a0 40) - (hI h24 a0 38)) + 2)) - v38)] h40 Q
                    refine x_isub (pc2 := 125) dX12_between_124 rfl ?_
                    exact x_ret (ty := .int) rfl rfl dX12_between_125 ht
                  · replace ht := ht.2 c34
                    refine x_bipush (pc2 := 89) (v := (-2)) (by decide) dX12_between_87 rfl ?_
                    exact x_ret (ty := .int) rfl rfl dX12_between_89 ht
          · replace ht := ht.2 c22
            refine x_iconst (pc2 := 38) (v := (-1)) (by decide) dX12_between_37 rfl ?_
            exact x_ret (ty := .int) rfl rfl dX12_between_38 ht
theorem e_X12_between {G : GG} {d : Nat} {h : HP} {Q : Option Value → HP → Prop} {a0 : Nat} {x1 : Int32} {x2 : Int32} (hd1 : 1 ≤ d) (ht : T_X12_between G d h Q a0 x1 x2) : Cal G d mX12_between [.ref a0, .int x1, .int x2] h Q := cal_of rfl (Nat.le_of_ble_eq_true rfl) (t_X12_between hd1 ht)
def T_X12_lays (G : GG) (d : Nat) (h : HP) (Q : Option Value → HP → Prop) (a0 : Nat) : Prop :=
  Ex G d mX12_lays 2 [(0, .ref a0), (1, .int 0)] [] h Q
set_option maxRecDepth 20000 in
theorem t_X12_lays {G : GG} {d : Nat} {h : HP} {Q : Option Value → HP → Prop} {a0 : Nat} (ht : T_X12_lays G d h Q a0) : Ex G d mX12_lays 0 [(0, .ref a0)] [] h Q := by
  unfold T_X12_lays at ht
  refine x_iconst (pc2 := 1) (v := 0) (by decide) dX12_lays_0 rfl ?_
  refine x_istore_n (pc2 := 2) [1, 0] (n := 1) (x := 0) (lv2 := [(0, .ref a0), (1, .int 0)]) (by decide) rfl dX12_lays_1 rfl ?_
  exact ht
theorem e_X12_lays {G : GG} {d : Nat} {h : HP} {Q : Option Value → HP → Prop} {a0 : Nat} (ht : T_X12_lays G d h Q a0) : Cal G d mX12_lays [.ref a0] h Q := cal_of rfl (Nat.le_of_ble_eq_true rfl) (t_X12_lays ht)
def T_X12_lays_2 (G : GG) (d : Nat) (h : HP) (Q : Option Value → HP → Prop) (a0 : Nat) (x1 : Int32) : Prop :=
  ((1600 ≤ x1 → Ex G d mX12_lays 25 [(0, .ref a0), (1, .int 6)] [] h Q) ∧ (¬ 1600 ≤ x1 → Kd G h a0 12 ∧ ∃ q3, hR h a0 43 = some q3 ∧ Kd G h q3 14 ∧ vp_in x1 (hN h q3) ∧ Ex G d mX12_lays 2 [(0, .ref a0), (1, .int (x1 + 1))] [] (sI h q3 x1.toNatClampNeg (-1)) Q))
set_option maxRecDepth 20000 in
theorem t_X12_lays_2 {G : GG} {d : Nat} {h : HP} {Q : Option Value → HP → Prop} {a0 : Nat} {x1 : Int32} (ht : T_X12_lays_2 G d h Q a0 x1) : Ex G d mX12_lays 2 [(0, .ref a0), (1, .int x1)] [] h Q := by
  unfold T_X12_lays_2 at ht
  refine x_iload_n (pc2 := 3) 1 (n := 1) (x := x1) rfl dX12_lays_2 rfl ?_
  refine x_sipush (pc2 := 6) (v := 1600) (by decide) dX12_lays_3 rfl ?_
  refine x_icmp_ge (pc2 := 9) 22 dX12_lays_6 (by decide) rfl (fun c1 => ?_) (fun c1 => ?_)
  · replace ht := ht.1 c1
    refine x_bipush (pc2 := 24) (v := 6) (by decide) dX12_lays_22 rfl ?_
    refine x_istore_n (pc2 := 25) [1, 0] (n := 1) (x := 6) (lv2 := [(0, .ref a0), (1, .int 6)]) (by decide) rfl dX12_lays_24 rfl ?_
    exact ht
  · replace ht := ht.2 c1
    refine x_aload_n (pc2 := 10) 0 (n := 0) (x := a0) rfl dX12_lays_9 rfl ?_
    obtain ⟨k2, ht⟩ := ht
    obtain ⟨q3, e4, ht⟩ := ht
    refine y_getR (pc2 := 13) (κ := 12) (k := 43) fl_X12_54 (by decide) (by decide) k2 rfl e4 dX12_lays_10 rfl ?_
    refine x_iload_n (pc2 := 14) 1 (n := 1) (x := x1) rfl dX12_lays_13 rfl ?_
    refine x_iconst (pc2 := 15) (v := (-1)) (by decide) dX12_lays_14 rfl ?_
    obtain ⟨k5, ht⟩ := ht
    obtain ⟨b6, ht⟩ := ht
    refine x_iast (pc2 := 16) k5 b6 dX12_lays_15 rfl ?_
    refine x_iinc (pc2 := 19) 1 [1, 0] (i := 1) (x := x1) (v := (x1 + 1)) (lv2 := [(0, .ref a0), (1, .int (x1 + 1))]) rfl (iinc_eq (by decide) _) (by decide) rfl dX12_lays_16 rfl ?_
    refine x_goto 2 dX12_lays_19 (by decide) ?_
    exact ht
def T_X12_lays_25 (G : GG) (d : Nat) (h : HP) (Q : Option Value → HP → Prop) (a0 : Nat) (x1 : Int32) : Prop :=
  ((30 ≤ x1 → Q none h) ∧ (¬ 30 ≤ x1 → Kd G h a0 12 ∧ Cal G (d - 1) mX12_isThing [.ref a0, .int x1] h (fun r2 h3 => ∃ v6, r2 = some (.int v6) ∧ ((¬ v6 = 0 → Cal G (d - 1) mX12_of [.ref a0, .int x1, .int 2] h3 (fun r8 h9 => ∃ v11, r8 = some (.int v11) ∧ Ex G d mX12_lays 49 [(0, .ref a0), (1, .int x1), (2, .int v11)] [] h9 Q)) ∧ (v6 = 0 → Ex G d mX12_lays 25 [(0, .ref a0), (1, .int (x1 + 1))] [] h3 Q)))))
set_option maxRecDepth 20000 in
theorem t_X12_lays_25 {G : GG} {d : Nat} {h : HP} {Q : Option Value → HP → Prop} {a0 : Nat} {x1 : Int32} (hd1 : 1 ≤ d) (ht : T_X12_lays_25 G d h Q a0 x1) : Ex G d mX12_lays 25 [(0, .ref a0), (1, .int x1)] [] h Q := by
  unfold T_X12_lays_25 at ht
  refine x_iload_n (pc2 := 26) 1 (n := 1) (x := x1) rfl dX12_lays_25 rfl ?_
  refine x_bipush (pc2 := 28) (v := 30) (by decide) dX12_lays_26 rfl ?_
  refine x_icmp_ge (pc2 := 31) 136 dX12_lays_28 (by decide) rfl (fun c1 => ?_) (fun c1 => ?_)
  · replace ht := ht.1 c1
    exact x_retV rfl dX12_lays_136 ht
  · replace ht := ht.2 c1
    refine x_aload_n (pc2 := 32) 0 (n := 0) (x := a0) rfl dX12_lays_31 rfl ?_
    refine x_iload_n (pc2 := 33) 1 (n := 1) (x := x1) rfl dX12_lays_32 rfl ?_
    obtain ⟨k5, ht⟩ := ht
    refine x_callV (pc2 := 36) (As := [.int x1]) (rest := []) (b := a0) mv_X12_isThing ml_X12_314 k5 rfl rfl (Nat.le_of_ble_eq_true rfl) hd1 dX12_lays_33 rfl (ht.mono (fun r2 h3 p4 ht' => ?_))
    clear ht
    obtain ⟨v6, rfl, ht⟩ := ht'
    show Ex G d mX12_lays 36 [(0, .ref a0), (1, .int x1)] [.int v6] h3 Q
    refine y_if_ne (pc2 := 39) 42 dX12_lays_36 (by decide) rfl (fun c7 => ?_) (fun c7 => ?_)
    · replace ht := ht.1 c7
      refine x_aload_n (pc2 := 43) 0 (n := 0) (x := a0) rfl dX12_lays_42 rfl ?_
      refine x_iload_n (pc2 := 44) 1 (n := 1) (x := x1) rfl dX12_lays_43 rfl ?_
      refine x_iconst (pc2 := 45) (v := 2) (by decide) dX12_lays_44 rfl ?_
      refine x_callV (pc2 := 48) (As := [.int x1, .int 2]) (rest := []) (b := a0) mv_X12_of ml_X12_310 (k5.up p4) rfl rfl (Nat.le_of_ble_eq_true rfl) hd1 dX12_lays_45 rfl (ht.mono (fun r8 h9 p10 ht' => ?_))
      clear ht
      obtain ⟨v11, rfl, ht⟩ := ht'
      show Ex G d mX12_lays 48 [(0, .ref a0), (1, .int x1)] [.int v11] h9 Q
      refine x_istore_n (pc2 := 49) [1, 2, 0] (n := 2) (x := v11) (lv2 := [(0, .ref a0), (1, .int x1), (2, .int v11)]) (by decide) rfl dX12_lays_48 rfl ?_
      exact ht
    · replace ht := ht.2 c7
      refine x_goto 130 dX12_lays_39 (by decide) ?_
      refine x_iinc (pc2 := 133) 1 [1, 0] (i := 1) (x := x1) (v := (x1 + 1)) (lv2 := [(0, .ref a0), (1, .int (x1 + 1))]) rfl (iinc_eq (by decide) _) (by decide) rfl dX12_lays_130 rfl ?_
      refine x_goto 25 dX12_lays_133 (by decide) ?_
      exact ht
def T_X12_lays_49 (G : GG) (d : Nat) (h : HP) (Q : Option Value → HP → Prop) (a0 : Nat) (x1 : Int32) (x2 : Int32) : Prop :=
  Kd G h a0 12 ∧ Cal G (d - 1) mX12_of [.ref a0, .int x1, .int 4] h (fun r1 h2 => ∃ v5, r1 = some (.int v5) ∧ ((v5 ≤ x2 → Ex G d mX12_lays 25 [(0, .ref a0), (1, .int (x1 + 1))] [] h2 Q) ∧ (¬ v5 ≤ x2 → Cal G (d - 1) mX12_of [.ref a0, .int x1, .int 1] h2 (fun r7 h8 => ∃ v10, r7 = some (.int v10) ∧ Ex G d mX12_lays 66 [(0, .ref a0), (1, .int x1), (2, .int x2), (3, .int v10)] [] h8 Q))))
set_option maxRecDepth 20000 in
theorem t_X12_lays_49 {G : GG} {d : Nat} {h : HP} {Q : Option Value → HP → Prop} {a0 : Nat} {x1 : Int32} {x2 : Int32} (hd1 : 1 ≤ d) (ht : T_X12_lays_49 G d h Q a0 x1 x2) : Ex G d mX12_lays 49 [(0, .ref a0), (1, .int x1), (2, .int x2)] [] h Q := by
  unfold T_X12_lays_49 at ht
  refine x_iload_n (pc2 := 50) 2 (n := 2) (x := x2) rfl dX12_lays_49 rfl ?_
  refine x_aload_n (pc2 := 51) 0 (n := 0) (x := a0) rfl dX12_lays_50 rfl ?_
  refine x_iload_n (pc2 := 52) 1 (n := 1) (x := x1) rfl dX12_lays_51 rfl ?_
  refine x_iconst (pc2 := 53) (v := 4) (by decide) dX12_lays_52 rfl ?_
  obtain ⟨k4, ht⟩ := ht
  refine x_callV (pc2 := 56) (As := [.int x1, .int 4]) (rest := [.int x2]) (b := a0) mv_X12_of ml_X12_310 k4 rfl rfl (Nat.le_of_ble_eq_true rfl) hd1 dX12_lays_53 rfl (ht.mono (fun r1 h2 p3 ht' => ?_))
  clear ht
  obtain ⟨v5, rfl, ht⟩ := ht'
  show Ex G d mX12_lays 56 [(0, .ref a0), (1, .int x1), (2, .int x2)] [.int v5, .int x2] h2 Q
  refine x_icmp_ge (pc2 := 59) 130 dX12_lays_56 (by decide) rfl (fun c6 => ?_) (fun c6 => ?_)
  · replace ht := ht.1 c6
    refine x_iinc (pc2 := 133) 1 [1, 0, 2] (i := 1) (x := x1) (v := (x1 + 1)) (lv2 := [(0, .ref a0), (1, .int (x1 + 1)), (2, .int x2)]) rfl (iinc_eq (by decide) _) (by decide) rfl dX12_lays_130 rfl ?_
    refine x_goto 25 dX12_lays_133 (by decide) ?_
    refine x_sub [0, 1] (lv2 := [(0, .ref a0), (1, .int (x1 + 1))]) rfl ?_
    exact ht
  · replace ht := ht.2 c6
    refine x_aload_n (pc2 := 60) 0 (n := 0) (x := a0) rfl dX12_lays_59 rfl ?_
    refine x_iload_n (pc2 := 61) 1 (n := 1) (x := x1) rfl dX12_lays_60 rfl ?_
    refine x_iconst (pc2 := 62) (v := 1) (by decide) dX12_lays_61 rfl ?_
    refine x_callV (pc2 := 65) (As := [.int x1, .int 1]) (rest := []) (b := a0) mv_X12_of ml_X12_310 (k4.up p3) rfl rfl (Nat.le_of_ble_eq_true rfl) hd1 dX12_lays_62 rfl (ht.mono (fun r7 h8 p9 ht' => ?_))
    clear ht
    obtain ⟨v10, rfl, ht⟩ := ht'
    show Ex G d mX12_lays 65 [(0, .ref a0), (1, .int x1), (2, .int x2)] [.int v10] h8 Q
    refine x_istore_n (pc2 := 66) [1, 2, 3, 0] (n := 3) (x := v10) (lv2 := [(0, .ref a0), (1, .int x1), (2, .int x2), (3, .int v10)]) (by decide) rfl dX12_lays_65 rfl ?_
    exact ht
def T_X12_lays_66 (G : GG) (d : Nat) (h : HP) (Q : Option Value → HP → Prop) (a0 : Nat) (x1 : Int32) (x2 : Int32) (x3 : Int32) : Prop :=
  Kd G h a0 12 ∧ Cal G (d - 1) mX12_of [.ref a0, .int x1, .int 3] h (fun r1 h2 => ∃ v5, r1 = some (.int v5) ∧ ((v5 ≤ x3 → Ex G d mX12_lays 49 [(0, .ref a0), (1, .int x1), (2, .int (x2 + 1))] [] h2 Q) ∧ (¬ v5 ≤ x3 → ∃ q7, hR h2 a0 43 = some q7 ∧ Kd G h2 q7 14 ∧ vp_in ((40 * x2) + x3) (hN h2 q7) ∧ (((hI h2 q7 ((40 * x2) + x3).toNatClampNeg) = (-1) → vp_in ((40 * x2) + x3) (hN h2 q7) ∧ Ex G d mX12_lays 66 [(0, .ref a0), (1, .int x1), (2, .int x2), (3, .int (x3 + 1))] [] (sI h2 q7 ((40 * x2) + x3).toNatClampNeg x1) Q) ∧ (¬ (hI h2 q7 ((40 * x2) + x3).toNatClampNeg) = (-1) → vp_in ((40 * x2) + x3) (hN h2 q7) ∧ Cal G (d - 1) mX12_liesIn [.ref a0, .int x1, .int (hI h2 q7 ((40 * x2) + x3).toNatClampNeg)] h2 (fun r14 h15 => ∃ v17, r14 = some (.int v17) ∧ ((v17 = 0 → Ex G d mX12_lays 66 [(0, .ref a0), (1, .int x1), (2, .int x2), (3, .int (x3 + 1))] [] h15 Q) ∧ (¬ v17 = 0 → ∃ q19, hR h15 a0 43 = some q19 ∧ Kd G h15 q19 14 ∧ vp_in ((40 * x2) + x3) (hN h15 q19) ∧ Ex G d mX12_lays 66 [(0, .ref a0), (1, .int x1), (2, .int x2), (3, .int (x3 + 1))] [] (sI h15 q19 ((40 * x2) + x3).toNatClampNeg x1) Q))))))))
set_option maxRecDepth 20000 in
theorem t_X12_lays_66 {G : GG} {d : Nat} {h : HP} {Q : Option Value → HP → Prop} {a0 : Nat} {x1 : Int32} {x2 : Int32} {x3 : Int32} (hd1 : 1 ≤ d) (ht : T_X12_lays_66 G d h Q a0 x1 x2 x3) : Ex G d mX12_lays 66 [(0, .ref a0), (1, .int x1), (2, .int x2), (3, .int x3)] [] h Q := by
  unfold T_X12_lays_66 at ht
  refine x_iload_n (pc2 := 67) 3 (n := 3) (x := x3) rfl dX12_lays_66 rfl ?_
  refine x_aload_n (pc2 := 68) 0 (n := 0) (x := a0) rfl dX12_lays_67 rfl ?_
  refine x_iload_n (pc2 := 69) 1 (n := 1) (x := x1) rfl dX12_lays_68 rfl ?_
  refine x_iconst (pc2 := 70) (v := 3) (by decide) dX12_lays_69 rfl ?_
  obtain ⟨k4, ht⟩ := ht
  refine x_callV (pc2 := 73) (As := [.int x1, .int 3]) (rest := [.int x3]) (b := a0) mv_X12_of ml_X12_310 k4 rfl rfl (Nat.le_of_ble_eq_true rfl) hd1 dX12_lays_70 rfl (ht.mono (fun r1 h2 p3 ht' => ?_))
  clear ht
  obtain ⟨v5, rfl, ht⟩ := ht'
  show Ex G d mX12_lays 73 [(0, .ref a0), (1, .int x1), (2, .int x2), (3, .int x3)] [.int v5, .int x3] h2 Q
  refine x_icmp_ge (pc2 := 76) 124 dX12_lays_73 (by decide) rfl (fun c6 => ?_) (fun c6 => ?_)
  · replace ht := ht.1 c6
    refine x_iinc (pc2 := 127) 2 [1, 2, 0, 3] (i := 2) (x := x2) (v := (x2 + 1)) (lv2 := [(0, .ref a0), (1, .int x1), (2, .int (x2 + 1)), (3, .int x3)]) rfl (iinc_eq (by decide) _) (by decide) rfl dX12_lays_124 rfl ?_
    refine x_goto 49 dX12_lays_127 (by decide) ?_
    refine x_sub [0, 1, 2] (lv2 := [(0, .ref a0), (1, .int x1), (2, .int (x2 + 1))]) rfl ?_
    exact ht
  · replace ht := ht.2 c6
    refine x_bipush (pc2 := 78) (v := 40) (by decide) dX12_lays_76 rfl ?_
    refine x_iload_n (pc2 := 79) 2 (n := 2) (x := x2) rfl dX12_lays_78 rfl ?_
    refine x_imul (pc2 := 80) dX12_lays_79 rfl ?_
    refine x_iload_n (pc2 := 81) 3 (n := 3) (x := x3) rfl dX12_lays_80 rfl ?_
    refine x_iadd (pc2 := 82) dX12_lays_81 rfl ?_
    refine x_istore (pc2 := 84) [1, 2, 3, 4, 0] (n := 4) (x := ((40 * x2) + x3)) (lv2 := [(0, .ref a0), (1, .int x1), (2, .int x2), (3, .int x3), (4, .int ((40 * x2) + x3))]) (by decide) rfl dX12_lays_82 rfl ?_
    refine x_aload_n (pc2 := 85) 0 (n := 0) (x := a0) rfl dX12_lays_84 rfl ?_
    obtain ⟨q7, e8, ht⟩ := ht
    refine y_getR (pc2 := 88) (κ := 12) (k := 43) fl_X12_54 (by decide) (by decide) (k4.up p3) rfl e8 dX12_lays_85 rfl ?_
    refine x_iload (pc2 := 90) 4 (n := 4) (x := ((40 * x2) + x3)) rfl dX12_lays_88 rfl ?_
    obtain ⟨k9, ht⟩ := ht
    obtain ⟨b10, ht⟩ := ht
    refine x_iald (pc2 := 91) k9 b10 dX12_lays_90 rfl ?_
    refine x_iconst (pc2 := 92) (v := (-1)) (by decide) dX12_lays_91 rfl ?_
    refine x_icmp_eq (pc2 := 95) 110 dX12_lays_92 (by decide) rfl (fun c11 => ?_) (fun c11 => ?_)
    · replace ht := ht.1 c11
      refine x_aload_n (pc2 := 111) 0 (n := 0) (x := a0) rfl dX12_lays_110 rfl ?_
      refine y_getR (pc2 := 114) (κ := 12) (k := 43) fl_X12_54 (by decide) (by decide) (k4.up p3) rfl e8 dX12_lays_111 rfl ?_
      refine x_iload (pc2 := 116) 4 (n := 4) (x := ((40 * x2) + x3)) rfl dX12_lays_114 rfl ?_
      refine x_iload_n (pc2 := 117) 1 (n := 1) (x := x1) rfl dX12_lays_116 rfl ?_
      obtain ⟨b12, ht⟩ := ht
      refine x_iast (pc2 := 118) k9 b12 dX12_lays_117 rfl ?_
      refine x_iinc (pc2 := 121) 3 [1, 2, 3, 0, 4] (i := 3) (x := x3) (v := (x3 + 1)) (lv2 := [(0, .ref a0), (1, .int x1), (2, .int x2), (3, .int (x3 + 1)), (4, .int ((40 * x2) + x3))]) rfl (iinc_eq (by decide) _) (by decide) rfl dX12_lays_118 rfl ?_
      refine x_goto 66 dX12_lays_121 (by decide) ?_
      refine x_sub [0, 1, 2, 3] (lv2 := [(0, .ref a0), (1, .int x1), (2, .int x2), (3, .int (x3 + 1))]) rfl ?_
      exact ht
    · replace ht := ht.2 c11
      refine x_aload_n (pc2 := 96) 0 (n := 0) (x := a0) rfl dX12_lays_95 rfl ?_
      refine x_iload_n (pc2 := 97) 1 (n := 1) (x := x1) rfl dX12_lays_96 rfl ?_
      refine x_aload_n (pc2 := 98) 0 (n := 0) (x := a0) rfl dX12_lays_97 rfl ?_
      refine y_getR (pc2 := 101) (κ := 12) (k := 43) fl_X12_54 (by decide) (by decide) (k4.up p3) rfl e8 dX12_lays_98 rfl ?_
      refine x_iload (pc2 := 103) 4 (n := 4) (x := ((40 * x2) + x3)) rfl dX12_lays_101 rfl ?_
      obtain ⟨b13, ht⟩ := ht
      refine x_iald (pc2 := 104) k9 b13 dX12_lays_103 rfl ?_
      refine x_callV (pc2 := 107) (As := [.int x1, .int (hI h2 q7 ((40 * x2) + x3).toNatClampNeg)]) (rest := []) (b := a0) mv_X12_liesIn ml_X12_317 (k4.up p3) rfl rfl (Nat.le_of_ble_eq_true rfl) hd1 dX12_lays_104 rfl (ht.mono (fun r14 h15 p16 ht' => ?_))
      clear ht
      obtain ⟨v17, rfl, ht⟩ := ht'
      show Ex G d mX12_lays 107 [(0, .ref a0), (1, .int x1), (2, .int x2), (3, .int x3), (4, .int ((40 * x2) + x3))] [.int v17] h15 Q
      refine x_if_eq (pc2 := 110) 118 dX12_lays_107 (by decide) rfl (fun c18 => ?_) (fun c18 => ?_)
      · replace ht := ht.1 c18
        refine x_iinc (pc2 := 121) 3 [1, 2, 3, 0, 4] (i := 3) (x := x3) (v := (x3 + 1)) (lv2 := [(0, .ref a0), (1, .int x1), (2, .int x2), (3, .int (x3 + 1)), (4, .int ((40 * x2) + x3))]) rfl (iinc_eq (by decide) _) (by decide) rfl dX12_lays_118 rfl ?_
        refine x_goto 66 dX12_lays_121 (by decide) ?_
        refine x_sub [0, 1, 2, 3] (lv2 := [(0, .ref a0), (1, .int x1), (2, .int x2), (3, .int (x3 + 1))]) rfl ?_
        exact ht
      · replace ht := ht.2 c18
        refine x_aload_n (pc2 := 111) 0 (n := 0) (x := a0) rfl dX12_lays_110 rfl ?_
        obtain ⟨q19, e20, ht⟩ := ht
        refine y_getR (pc2 := 114) (κ := 12) (k := 43) fl_X12_54 (by decide) (by decide) ((k4.up p3).up p16) rfl e20 dX12_lays_111 rfl ?_
        refine x_iload (pc2 := 116) 4 (n := 4) (x := ((40 * x2) + x3)) rfl dX12_lays_114 rfl ?_
        refine x_iload_n (pc2 := 117) 1 (n := 1) (x := x1) rfl dX12_lays_116 rfl ?_
        obtain ⟨k21, ht⟩ := ht
        obtain ⟨b22, ht⟩ := ht
        refine x_iast (pc2 := 118) k21 b22 dX12_lays_117 rfl ?_
        refine x_iinc (pc2 := 121) 3 [1, 2, 3, 0, 4] (i := 3) (x := x3) (v := (x3 + 1)) (lv2 := [(0, .ref a0), (1, .int x1), (2, .int x2), (3, .int (x3 + 1)), (4, .int ((40 * x2) + x3))]) rfl (iinc_eq (by decide) _) (by decide) rfl dX12_lays_118 rfl ?_
        refine x_goto 66 dX12_lays_121 (by decide) ?_
        refine x_sub [0, 1, 2, 3] (lv2 := [(0, .ref a0), (1, .int x1), (2, .int x2), (3, .int (x3 + 1))]) rfl ?_
        exact ht
def T_X12_beside (G : GG) (d : Nat) (h : HP) (Q : Option Value → HP → Prop) (a0 : Nat) (x1 : Int32) (x2 : Int32) : Prop :=
  ((¬ x2 = 1 → ((¬ x2 = 3 → Ex G d mX12_beside 23 [(0, .ref a0), (1, .int x1), (2, .int x2)] [.int 0, .int (irm x1 40)] h Q) ∧ (x2 = 3 → Ex G d mX12_beside 23 [(0, .ref a0), (1, .int x1), (2, .int x2)] [.int (-1), .int (irm x1 40)] h Q))) ∧ (x2 = 1 → Ex G d mX12_beside 23 [(0, .ref a0), (1, .int x1), (2, .int x2)] [.int 1, .int (irm x1 40)] h Q))
set_option maxRecDepth 20000 in
theorem t_X12_beside {G : GG} {d : Nat} {h : HP} {Q : Option Value → HP → Prop} {a0 : Nat} {x1 : Int32} {x2 : Int32} (ht : T_X12_beside G d h Q a0 x1 x2) : Ex G d mX12_beside 0 [(0, .ref a0), (1, .int x1), (2, .int x2)] [] h Q := by
  unfold T_X12_beside at ht
  refine x_iload_n (pc2 := 1) 1 (n := 1) (x := x1) rfl dX12_beside_0 rfl ?_
  refine x_bipush (pc2 := 3) (v := 40) (by decide) dX12_beside_1 rfl ?_
  refine y_irem (pc2 := 4) (by decide) dX12_beside_3 rfl ?_
  refine x_iload_n (pc2 := 5) 2 (n := 2) (x := x2) rfl dX12_beside_4 rfl ?_
  refine x_iconst (pc2 := 6) (v := 1) (by decide) dX12_beside_5 rfl ?_
  refine y_icmp_ne (pc2 := 9) 13 dX12_beside_6 (by decide) rfl (fun c1 => ?_) (fun c1 => ?_)
  · replace ht := ht.1 c1
    refine x_iload_n (pc2 := 14) 2 (n := 2) (x := x2) rfl dX12_beside_13 rfl ?_
    refine x_iconst (pc2 := 15) (v := 3) (by decide) dX12_beside_14 rfl ?_
    refine y_icmp_ne (pc2 := 18) 22 dX12_beside_15 (by decide) rfl (fun c2 => ?_) (fun c2 => ?_)
    · replace ht := ht.1 c2
      refine x_iconst (pc2 := 23) (v := 0) (by decide) dX12_beside_22 rfl ?_
      exact ht
    · replace ht := ht.2 c2
      refine x_iconst (pc2 := 19) (v := (-1)) (by decide) dX12_beside_18 rfl ?_
      refine x_goto 23 dX12_beside_19 (by decide) ?_
      exact ht
  · replace ht := ht.2 c1
    refine x_iconst (pc2 := 10) (v := 1) (by decide) dX12_beside_9 rfl ?_
    refine x_goto 23 dX12_beside_10 (by decide) ?_
    exact ht
theorem e_X12_beside {G : GG} {d : Nat} {h : HP} {Q : Option Value → HP → Prop} {a0 : Nat} {x1 : Int32} {x2 : Int32} (ht : T_X12_beside G d h Q a0 x1 x2) : Cal G d mX12_beside [.ref a0, .int x1, .int x2] h Q := cal_of rfl (Nat.le_of_ble_eq_true rfl) (t_X12_beside ht)
def T_X12_beside_23 (G : GG) (d : Nat) (h : HP) (Q : Option Value → HP → Prop) (a0 : Nat) (x1 : Int32) (x2 : Int32) (sx0 : Int32) (sx1 : Int32) : Prop :=
  ((¬ x2 = 2 → ((¬ x2 = 0 → Ex G d mX12_beside 47 [(0, .ref a0), (1, .int x1), (2, .int x2), (3, .int (sx0 + sx1))] [.int 0, .int (x1 / 40)] h Q) ∧ (x2 = 0 → Ex G d mX12_beside 47 [(0, .ref a0), (1, .int x1), (2, .int x2), (3, .int (sx0 + sx1))] [.int (-1), .int (x1 / 40)] h Q))) ∧ (x2 = 2 → Ex G d mX12_beside 47 [(0, .ref a0), (1, .int x1), (2, .int x2), (3, .int (sx0 + sx1))] [.int 1, .int (x1 / 40)] h Q))
set_option maxRecDepth 20000 in
theorem t_X12_beside_23 {G : GG} {d : Nat} {h : HP} {Q : Option Value → HP → Prop} {a0 : Nat} {x1 : Int32} {x2 : Int32} {sx0 : Int32} {sx1 : Int32} (ht : T_X12_beside_23 G d h Q a0 x1 x2 sx0 sx1) : Ex G d mX12_beside 23 [(0, .ref a0), (1, .int x1), (2, .int x2)] [.int sx1, .int sx0] h Q := by
  unfold T_X12_beside_23 at ht
  refine x_iadd (pc2 := 24) dX12_beside_23 rfl ?_
  refine x_istore_n (pc2 := 25) [1, 2, 3, 0] (n := 3) (x := (sx0 + sx1)) (lv2 := [(0, .ref a0), (1, .int x1), (2, .int x2), (3, .int (sx0 + sx1))]) (by decide) rfl dX12_beside_24 rfl ?_
  refine x_iload_n (pc2 := 26) 1 (n := 1) (x := x1) rfl dX12_beside_25 rfl ?_
  refine x_bipush (pc2 := 28) (v := 40) (by decide) dX12_beside_26 rfl ?_
  refine x_idiv (pc2 := 29) (by decide) dX12_beside_28 rfl ?_
  refine x_iload_n (pc2 := 30) 2 (n := 2) (x := x2) rfl dX12_beside_29 rfl ?_
  refine x_iconst (pc2 := 31) (v := 2) (by decide) dX12_beside_30 rfl ?_
  refine y_icmp_ne (pc2 := 34) 38 dX12_beside_31 (by decide) rfl (fun c1 => ?_) (fun c1 => ?_)
  · replace ht := ht.1 c1
    refine x_iload_n (pc2 := 39) 2 (n := 2) (x := x2) rfl dX12_beside_38 rfl ?_
    refine y_if_ne (pc2 := 42) 46 dX12_beside_39 (by decide) rfl (fun c2 => ?_) (fun c2 => ?_)
    · replace ht := ht.1 c2
      refine x_iconst (pc2 := 47) (v := 0) (by decide) dX12_beside_46 rfl ?_
      exact ht
    · replace ht := ht.2 c2
      refine x_iconst (pc2 := 43) (v := (-1)) (by decide) dX12_beside_42 rfl ?_
      refine x_goto 47 dX12_beside_43 (by decide) ?_
      exact ht
  · replace ht := ht.2 c1
    refine x_iconst (pc2 := 35) (v := 1) (by decide) dX12_beside_34 rfl ?_
    refine x_goto 47 dX12_beside_35 (by decide) ?_
    exact ht
def T_X12_beside_47 (G : GG) (d : Nat) (h : HP) (Q : Option Value → HP → Prop) (a0 : Nat) (x1 : Int32) (x2 : Int32) (x3 : Int32) (sx0 : Int32) (sx1 : Int32) : Prop :=
  Kd G h a0 12 ∧ Cal G (d - 1) mX12_isInLand [.ref a0, .int x3, .int (sx0 + sx1)] h (fun r1 h2 => ∃ v5, r1 = some (.int v5) ∧ ((v5 = 0 → Q (some (.int (-1))) h2) ∧ (¬ v5 = 0 → Cal G (d - 1) mX12_isRiver [.ref a0, .int x3, .int (sx0 + sx1)] h2 (fun r7 h8 => ∃ v10, r7 = some (.int v10) ∧ ((¬ v10 = 0 → Q (some (.int (-1))) h8) ∧ (v10 = 0 → Q (some (.int ((40 * (sx0 + sx1)) + x3))) h8))))))
set_option maxRecDepth 20000 in
theorem t_X12_beside_47 {G : GG} {d : Nat} {h : HP} {Q : Option Value → HP → Prop} {a0 : Nat} {x1 : Int32} {x2 : Int32} {x3 : Int32} {sx0 : Int32} {sx1 : Int32} (hd1 : 1 ≤ d) (ht : T_X12_beside_47 G d h Q a0 x1 x2 x3 sx0 sx1) : Ex G d mX12_beside 47 [(0, .ref a0), (1, .int x1), (2, .int x2), (3, .int x3)] [.int sx1, .int sx0] h Q := by
  unfold T_X12_beside_47 at ht
  refine x_iadd (pc2 := 48) dX12_beside_47 rfl ?_
  refine x_istore (pc2 := 50) [1, 2, 3, 4, 0] (n := 4) (x := (sx0 + sx1)) (lv2 := [(0, .ref a0), (1, .int x1), (2, .int x2), (3, .int x3), (4, .int (sx0 + sx1))]) (by decide) rfl dX12_beside_48 rfl ?_
  refine x_aload_n (pc2 := 51) 0 (n := 0) (x := a0) rfl dX12_beside_50 rfl ?_
  refine x_iload_n (pc2 := 52) 3 (n := 3) (x := x3) rfl dX12_beside_51 rfl ?_
  refine x_iload (pc2 := 54) 4 (n := 4) (x := (sx0 + sx1)) rfl dX12_beside_52 rfl ?_
  obtain ⟨k4, ht⟩ := ht
  refine x_callV (pc2 := 57) (As := [.int x3, .int (sx0 + sx1)]) (rest := []) (b := a0) mv_X12_isInLand ml_X12_452 k4 rfl rfl (Nat.le_of_ble_eq_true rfl) hd1 dX12_beside_54 rfl (ht.mono (fun r1 h2 p3 ht' => ?_))
  clear ht
  obtain ⟨v5, rfl, ht⟩ := ht'
  show Ex G d mX12_beside 57 [(0, .ref a0), (1, .int x1), (2, .int x2), (3, .int x3), (4, .int (sx0 + sx1))] [.int v5] h2 Q
  refine x_if_eq (pc2 := 60) 80 dX12_beside_57 (by decide) rfl (fun c6 => ?_) (fun c6 => ?_)
  · replace ht := ht.1 c6
    refine x_iconst (pc2 := 81) (v := (-1)) (by decide) dX12_beside_80 rfl ?_
    exact x_ret (ty := .int) rfl rfl dX12_beside_81 ht
  · replace ht := ht.2 c6
    refine x_aload_n (pc2 := 61) 0 (n := 0) (x := a0) rfl dX12_beside_60 rfl ?_
    refine x_iload_n (pc2 := 62) 3 (n := 3) (x := x3) rfl dX12_beside_61 rfl ?_
    refine x_iload (pc2 := 64) 4 (n := 4) (x := (sx0 + sx1)) rfl dX12_beside_62 rfl ?_
    refine x_callV (pc2 := 67) (As := [.int x3, .int (sx0 + sx1)]) (rest := []) (b := a0) mv_X12_isRiver ml_X12_373 (k4.up p3) rfl rfl (Nat.le_of_ble_eq_true rfl) hd1 dX12_beside_64 rfl (ht.mono (fun r7 h8 p9 ht' => ?_))
    clear ht
    obtain ⟨v10, rfl, ht⟩ := ht'
    show Ex G d mX12_beside 67 [(0, .ref a0), (1, .int x1), (2, .int x2), (3, .int x3), (4, .int (sx0 + sx1))] [.int v10] h8 Q
    refine y_if_ne (pc2 := 70) 80 dX12_beside_67 (by decide) rfl (fun c11 => ?_) (fun c11 => ?_)
    · replace ht := ht.1 c11
      refine x_iconst (pc2 := 81) (v := (-1)) (by decide) dX12_beside_80 rfl ?_
      exact x_ret (ty := .int) rfl rfl dX12_beside_81 ht
    · replace ht := ht.2 c11
      refine x_bipush (pc2 := 72) (v := 40) (by decide) dX12_beside_70 rfl ?_
      refine x_iload (pc2 := 74) 4 (n := 4) (x := (sx0 + sx1)) rfl dX12_beside_72 rfl ?_
      refine x_imul (pc2 := 75) dX12_beside_74 rfl ?_
      refine x_iload_n (pc2 := 76) 3 (n := 3) (x := x3) rfl dX12_beside_75 rfl ?_
      refine x_iadd (pc2 := 77) dX12_beside_76 rfl ?_
      refine x_goto 81 dX12_beside_77 (by decide) ?_
      exact x_ret (ty := .int) rfl rfl dX12_beside_81 ht
def T_X12_lineBetween (G : GG) (d : Nat) (h : HP) (Q : Option Value → HP → Prop) (a0 : Nat) (x1 : Int32) (x2 : Int32) : Prop :=
  Kd G h a0 12 ∧ ∃ q2, hR h a0 43 = some q2 ∧ Kd G h q2 14 ∧ vp_in x1 (hN h q2) ∧ vp_in x2 (hN h q2) ∧ ((¬ (hI h q2 x1.toNatClampNeg) = (hI h q2 x2.toNatClampNeg) → vp_in x2 (hN h q2) ∧ (((hI h q2 x2.toNatClampNeg) = (-1) → vp_in x1 (hN h q2) ∧ Q (some (.int (hI h q2 x1.toNatClampNeg))) h) ∧ (¬ (hI h q2 x2.toNatClampNeg) = (-1) → vp_in x1 (hN h q2) ∧ (((hI h q2 x1.toNatClampNeg) = (-1) → vp_in x2 (hN h q2) ∧ Q (some (.int (hI h q2 x2.toNatClampNeg))) h) ∧ (¬ (hI h q2 x1.toNatClampNeg) = (-1) → vp_in x2 (hN h q2) ∧ vp_in x1 (hN h q2) ∧ Cal G (d - 1) mX12_liesIn [.ref a0, .int (hI h q2 x2.toNatClampNeg), .int (hI h q2 x1.toNatClampNeg)] h (fun r16 h17 => ∃ v19, r16 = some (.int v19) ∧ ((v19 = 0 → ∃ q21, hR h17 a0 43 = some q21 ∧ Kd G h17 q21 14 ∧ vp_in x1 (hN h17 q21) ∧ Q (some (.int (hI h17 q21 x1.toNatClampNeg))) h17) ∧ (¬ v19 = 0 → ∃ q25, hR h17 a0 43 = some q25 ∧ Kd G h17 q25 14 ∧ vp_in x2 (hN h17 q25) ∧ Q (some (.int (hI h17 q25 x2.toNatClampNeg))) h17)))))))) ∧ ((hI h q2 x1.toNatClampNeg) = (hI h q2 x2.toNatClampNeg) → Q (some (.int (-1))) h))
set_option maxRecDepth 20000 in
theorem t_X12_lineBetween {G : GG} {d : Nat} {h : HP} {Q : Option Value → HP → Prop} {a0 : Nat} {x1 : Int32} {x2 : Int32} (hd1 : 1 ≤ d) (ht : T_X12_lineBetween G d h Q a0 x1 x2) : Ex G d mX12_lineBetween 0 [(0, .ref a0), (1, .int x1), (2, .int x2)] [] h Q := by
  unfold T_X12_lineBetween at ht
  refine x_aload_n (pc2 := 1) 0 (n := 0) (x := a0) rfl dX12_lineBetween_0 rfl ?_
  obtain ⟨k1, ht⟩ := ht
  obtain ⟨q2, e3, ht⟩ := ht
  refine y_getR (pc2 := 4) (κ := 12) (k := 43) fl_X12_54 (by decide) (by decide) k1 rfl e3 dX12_lineBetween_1 rfl ?_
  refine x_iload_n (pc2 := 5) 1 (n := 1) (x := x1) rfl dX12_lineBetween_4 rfl ?_
  obtain ⟨k4, ht⟩ := ht
  obtain ⟨b5, ht⟩ := ht
  refine x_iald (pc2 := 6) k4 b5 dX12_lineBetween_5 rfl ?_
  refine x_aload_n (pc2 := 7) 0 (n := 0) (x := a0) rfl dX12_lineBetween_6 rfl ?_
  refine y_getR (pc2 := 10) (κ := 12) (k := 43) fl_X12_54 (by decide) (by decide) k1 rfl e3 dX12_lineBetween_7 rfl ?_
  refine x_iload_n (pc2 := 11) 2 (n := 2) (x := x2) rfl dX12_lineBetween_10 rfl ?_
  obtain ⟨b6, ht⟩ := ht
  refine x_iald (pc2 := 12) k4 b6 dX12_lineBetween_11 rfl ?_
  refine y_icmp_ne (pc2 := 15) 17 dX12_lineBetween_12 (by decide) rfl (fun c7 => ?_) (fun c7 => ?_)
  · replace ht := ht.1 c7
    refine x_aload_n (pc2 := 18) 0 (n := 0) (x := a0) rfl dX12_lineBetween_17 rfl ?_
    refine y_getR (pc2 := 21) (κ := 12) (k := 43) fl_X12_54 (by decide) (by decide) k1 rfl e3 dX12_lineBetween_18 rfl ?_
    refine x_iload_n (pc2 := 22) 2 (n := 2) (x := x2) rfl dX12_lineBetween_21 rfl ?_
    obtain ⟨b8, ht⟩ := ht
    refine x_iald (pc2 := 23) k4 b8 dX12_lineBetween_22 rfl ?_
    refine x_iconst (pc2 := 24) (v := (-1)) (by decide) dX12_lineBetween_23 rfl ?_
    refine x_icmp_eq (pc2 := 27) 65 dX12_lineBetween_24 (by decide) rfl (fun c9 => ?_) (fun c9 => ?_)
    · replace ht := ht.1 c9
      refine x_aload_n (pc2 := 66) 0 (n := 0) (x := a0) rfl dX12_lineBetween_65 rfl ?_
      refine y_getR (pc2 := 69) (κ := 12) (k := 43) fl_X12_54 (by decide) (by decide) k1 rfl e3 dX12_lineBetween_66 rfl ?_
      refine x_iload_n (pc2 := 70) 1 (n := 1) (x := x1) rfl dX12_lineBetween_69 rfl ?_
      obtain ⟨b10, ht⟩ := ht
      refine x_iald (pc2 := 71) k4 b10 dX12_lineBetween_70 rfl ?_
      exact x_ret (ty := .int) rfl rfl dX12_lineBetween_71 ht
    · replace ht := ht.2 c9
      refine x_aload_n (pc2 := 28) 0 (n := 0) (x := a0) rfl dX12_lineBetween_27 rfl ?_
      refine y_getR (pc2 := 31) (κ := 12) (k := 43) fl_X12_54 (by decide) (by decide) k1 rfl e3 dX12_lineBetween_28 rfl ?_
      refine x_iload_n (pc2 := 32) 1 (n := 1) (x := x1) rfl dX12_lineBetween_31 rfl ?_
      obtain ⟨b11, ht⟩ := ht
      refine x_iald (pc2 := 33) k4 b11 dX12_lineBetween_32 rfl ?_
      refine x_iconst (pc2 := 34) (v := (-1)) (by decide) dX12_lineBetween_33 rfl ?_
      refine x_icmp_eq (pc2 := 37) 56 dX12_lineBetween_34 (by decide) rfl (fun c12 => ?_) (fun c12 => ?_)
      · replace ht := ht.1 c12
        refine x_aload_n (pc2 := 57) 0 (n := 0) (x := a0) rfl dX12_lineBetween_56 rfl ?_
        refine y_getR (pc2 := 60) (κ := 12) (k := 43) fl_X12_54 (by decide) (by decide) k1 rfl e3 dX12_lineBetween_57 rfl ?_
        refine x_iload_n (pc2 := 61) 2 (n := 2) (x := x2) rfl dX12_lineBetween_60 rfl ?_
        obtain ⟨b13, ht⟩ := ht
        refine x_iald (pc2 := 62) k4 b13 dX12_lineBetween_61 rfl ?_
        refine x_goto 71 dX12_lineBetween_62 (by decide) ?_
        exact x_ret (ty := .int) rfl rfl dX12_lineBetween_71 ht
      · replace ht := ht.2 c12
        refine x_aload_n (pc2 := 38) 0 (n := 0) (x := a0) rfl dX12_lineBetween_37 rfl ?_
        refine x_aload_n (pc2 := 39) 0 (n := 0) (x := a0) rfl dX12_lineBetween_38 rfl ?_
        refine y_getR (pc2 := 42) (κ := 12) (k := 43) fl_X12_54 (by decide) (by decide) k1 rfl e3 dX12_lineBetween_39 rfl ?_
        refine x_iload_n (pc2 := 43) 2 (n := 2) (x := x2) rfl dX12_lineBetween_42 rfl ?_
        obtain ⟨b14, ht⟩ := ht
        refine x_iald (pc2 := 44) k4 b14 dX12_lineBetween_43 rfl ?_
        refine x_aload_n (pc2 := 45) 0 (n := 0) (x := a0) rfl dX12_lineBetween_44 rfl ?_
        refine y_getR (pc2 := 48) (κ := 12) (k := 43) fl_X12_54 (by decide) (by decide) k1 rfl e3 dX12_lineBetween_45 rfl ?_
        refine x_iload_n (pc2 := 49) 1 (n := 1) (x := x1) rfl dX12_lineBetween_48 rfl ?_
        obtain ⟨b15, ht⟩ := ht
        refine x_iald (pc2 := 50) k4 b15 dX12_lineBetween_49 rfl ?_
        refine x_callV (pc2 := 53) (As := [.int (hI h q2 x2.toNatClampNeg), .int (hI h q2 x1.toNatClampNeg)]) (rest := []) (b := a0) mv_X12_liesIn ml_X12_317 k1 rfl rfl (Nat.le_of_ble_eq_true rfl) hd1 dX12_lineBetween_50 rfl (ht.mono (fun r16 h17 p18 ht' => ?_))
        clear ht
        obtain ⟨v19, rfl, ht⟩ := ht'
        show Ex G d mX12_lineBetween 53 [(0, .ref a0), (1, .int x1), (2, .int x2)] [.int v19] h17 Q
        refine x_if_eq (pc2 := 56) 65 dX12_lineBetween_53 (by decide) rfl (fun c20 => ?_) (fun c20 => ?_)
        · replace ht := ht.1 c20
          refine x_aload_n (pc2 := 66) 0 (n := 0) (x := a0) rfl dX12_lineBetween_65 rfl ?_
          obtain ⟨q21, e22, ht⟩ := ht
          refine y_getR (pc2 := 69) (κ := 12) (k := 43) fl_X12_54 (by decide) (by decide) (k1.up p18) rfl e22 dX12_lineBetween_66 rfl ?_
          refine x_iload_n (pc2 := 70) 1 (n := 1) (x := x1) rfl dX12_lineBetween_69 rfl ?_
          obtain ⟨k23, ht⟩ := ht
          obtain ⟨b24, ht⟩ := ht
          refine x_iald (pc2 := 71) k23 b24 dX12_lineBetween_70 rfl ?_
          exact x_ret (ty := .int) rfl rfl dX12_lineBetween_71 ht
        · replace ht := ht.2 c20
          refine x_aload_n (pc2 := 57) 0 (n := 0) (x := a0) rfl dX12_lineBetween_56 rfl ?_
          obtain ⟨q25, e26, ht⟩ := ht
          refine y_getR (pc2 := 60) (κ := 12) (k := 43) fl_X12_54 (by decide) (by decide) (k1.up p18) rfl e26 dX12_lineBetween_57 rfl ?_
          refine x_iload_n (pc2 := 61) 2 (n := 2) (x := x2) rfl dX12_lineBetween_60 rfl ?_
          obtain ⟨k27, ht⟩ := ht
          obtain ⟨b28, ht⟩ := ht
          refine x_iald (pc2 := 62) k27 b28 dX12_lineBetween_61 rfl ?_
          refine x_goto 71 dX12_lineBetween_62 (by decide) ?_
          exact x_ret (ty := .int) rfl rfl dX12_lineBetween_71 ht
  · replace ht := ht.2 c7
    refine x_iconst (pc2 := 16) (v := (-1)) (by decide) dX12_lineBetween_15 rfl ?_
    exact x_ret (ty := .int) rfl rfl dX12_lineBetween_16 ht
theorem e_X12_lineBetween {G : GG} {d : Nat} {h : HP} {Q : Option Value → HP → Prop} {a0 : Nat} {x1 : Int32} {x2 : Int32} (hd1 : 1 ≤ d) (ht : T_X12_lineBetween G d h Q a0 x1 x2) : Cal G d mX12_lineBetween [.ref a0, .int x1, .int x2] h Q := cal_of rfl (Nat.le_of_ble_eq_true rfl) (t_X12_lineBetween hd1 ht)
def T_X12_tollOf (G : GG) (d : Nat) (h : HP) (Q : Option Value → HP → Prop) (a0 : Nat) (x1 : Int32) (x2 : Int32) (x3 : Int32) (x4 : Int32) : Prop :=
  Kd G h a0 12 ∧ Cal G (d - 1) mX12_lineBetween [.ref a0, .int x2, .int x3] h (fun r1 h2 => ∃ v5, r1 = some (.int v5) ∧ ((¬ v5 = (-1) → ∃ q7, hR h2 a0 43 = some q7 ∧ Kd G h2 q7 14 ∧ vp_in x2 (hN h2 q7) ∧ ((¬ (hI h2 q7 x2.toNatClampNeg) = v5 → Ex G d mX12_tollOf 44 [(0, .ref a0), (1, .int x1), (2, .int x2), (3, .int x3), (4, .int x4), (5, .int v5), (6, .int 0)] [.int x3] h2 Q) ∧ ((hI h2 q7 x2.toNatClampNeg) = v5 → Ex G d mX12_tollOf 44 [(0, .ref a0), (1, .int x1), (2, .int x2), (3, .int x3), (4, .int x4), (5, .int v5), (6, .int 1)] [.int x2] h2 Q))) ∧ (v5 = (-1) → Q (some (.int 0)) h2)))
set_option maxRecDepth 20000 in
theorem t_X12_tollOf {G : GG} {d : Nat} {h : HP} {Q : Option Value → HP → Prop} {a0 : Nat} {x1 : Int32} {x2 : Int32} {x3 : Int32} {x4 : Int32} (hd1 : 1 ≤ d) (ht : T_X12_tollOf G d h Q a0 x1 x2 x3 x4) : Ex G d mX12_tollOf 0 [(0, .ref a0), (1, .int x1), (2, .int x2), (3, .int x3), (4, .int x4)] [] h Q := by
  unfold T_X12_tollOf at ht
  refine x_aload_n (pc2 := 1) 0 (n := 0) (x := a0) rfl dX12_tollOf_0 rfl ?_
  refine x_iload_n (pc2 := 2) 2 (n := 2) (x := x2) rfl dX12_tollOf_1 rfl ?_
  refine x_iload_n (pc2 := 3) 3 (n := 3) (x := x3) rfl dX12_tollOf_2 rfl ?_
  obtain ⟨k4, ht⟩ := ht
  refine x_callV (pc2 := 6) (As := [.int x2, .int x3]) (rest := []) (b := a0) mv_X12_lineBetween ml_X12_513 k4 rfl rfl (Nat.le_of_ble_eq_true rfl) hd1 dX12_tollOf_3 rfl (ht.mono (fun r1 h2 p3 ht' => ?_))
  clear ht
  obtain ⟨v5, rfl, ht⟩ := ht'
  show Ex G d mX12_tollOf 6 [(0, .ref a0), (1, .int x1), (2, .int x2), (3, .int x3), (4, .int x4)] [.int v5] h2 Q
  refine x_istore (pc2 := 8) [1, 2, 3, 4, 5, 0] (n := 5) (x := v5) (lv2 := [(0, .ref a0), (1, .int x1), (2, .int x2), (3, .int x3), (4, .int x4), (5, .int v5)]) (by decide) rfl dX12_tollOf_6 rfl ?_
  refine x_iload (pc2 := 10) 5 (n := 5) (x := v5) rfl dX12_tollOf_8 rfl ?_
  refine x_iconst (pc2 := 11) (v := (-1)) (by decide) dX12_tollOf_10 rfl ?_
  refine y_icmp_ne (pc2 := 14) 16 dX12_tollOf_11 (by decide) rfl (fun c6 => ?_) (fun c6 => ?_)
  · replace ht := ht.1 c6
    refine x_aload_n (pc2 := 17) 0 (n := 0) (x := a0) rfl dX12_tollOf_16 rfl ?_
    obtain ⟨q7, e8, ht⟩ := ht
    refine y_getR (pc2 := 20) (κ := 12) (k := 43) fl_X12_54 (by decide) (by decide) (k4.up p3) rfl e8 dX12_tollOf_17 rfl ?_
    refine x_iload_n (pc2 := 21) 2 (n := 2) (x := x2) rfl dX12_tollOf_20 rfl ?_
    obtain ⟨k9, ht⟩ := ht
    obtain ⟨b10, ht⟩ := ht
    refine x_iald (pc2 := 22) k9 b10 dX12_tollOf_21 rfl ?_
    refine x_iload (pc2 := 24) 5 (n := 5) (x := v5) rfl dX12_tollOf_22 rfl ?_
    refine y_icmp_ne (pc2 := 27) 31 dX12_tollOf_24 (by decide) rfl (fun c11 => ?_) (fun c11 => ?_)
    · replace ht := ht.1 c11
      refine x_iconst (pc2 := 32) (v := 0) (by decide) dX12_tollOf_31 rfl ?_
      refine x_istore (pc2 := 34) [1, 2, 3, 4, 5, 6, 0] (n := 6) (x := 0) (lv2 := [(0, .ref a0), (1, .int x1), (2, .int x2), (3, .int x3), (4, .int x4), (5, .int v5), (6, .int 0)]) (by decide) rfl dX12_tollOf_32 rfl ?_
      refine x_iload (pc2 := 36) 6 (n := 6) (x := 0) rfl dX12_tollOf_34 rfl ?_
      refine x_if_eq (pc2 := 39) 43 dX12_tollOf_36 (by decide) rfl (fun _ => ?_) (fun c12 => absurd c12 (by decide))
      refine x_iload_n (pc2 := 44) 3 (n := 3) (x := x3) rfl dX12_tollOf_43 rfl ?_
      exact ht
    · replace ht := ht.2 c11
      refine x_iconst (pc2 := 28) (v := 1) (by decide) dX12_tollOf_27 rfl ?_
      refine x_goto 32 dX12_tollOf_28 (by decide) ?_
      refine x_istore (pc2 := 34) [1, 2, 3, 4, 5, 6, 0] (n := 6) (x := 1) (lv2 := [(0, .ref a0), (1, .int x1), (2, .int x2), (3, .int x3), (4, .int x4), (5, .int v5), (6, .int 1)]) (by decide) rfl dX12_tollOf_32 rfl ?_
      refine x_iload (pc2 := 36) 6 (n := 6) (x := 1) rfl dX12_tollOf_34 rfl ?_
      refine x_if_eq (pc2 := 39) 43 dX12_tollOf_36 (by decide) rfl (fun c13 => absurd c13 (by decide)) (fun _ => ?_)
      refine x_iload_n (pc2 := 40) 2 (n := 2) (x := x2) rfl dX12_tollOf_39 rfl ?_
      refine x_goto 44 dX12_tollOf_40 (by decide) ?_
      exact ht
  · replace ht := ht.2 c6
    refine x_iconst (pc2 := 15) (v := 0) (by decide) dX12_tollOf_14 rfl ?_
    exact x_ret (ty := .int) rfl rfl dX12_tollOf_15 ht
theorem e_X12_tollOf {G : GG} {d : Nat} {h : HP} {Q : Option Value → HP → Prop} {a0 : Nat} {x1 : Int32} {x2 : Int32} {x3 : Int32} {x4 : Int32} (hd1 : 1 ≤ d) (ht : T_X12_tollOf G d h Q a0 x1 x2 x3 x4) : Cal G d mX12_tollOf [.ref a0, .int x1, .int x2, .int x3, .int x4] h Q := cal_of rfl (Nat.le_of_ble_eq_true rfl) (t_X12_tollOf hd1 ht)
def T_X12_tollOf_44 (G : GG) (d : Nat) (h : HP) (Q : Option Value → HP → Prop) (a0 : Nat) (x1 : Int32) (x2 : Int32) (x3 : Int32) (x4 : Int32) (x5 : Int32) (x6 : Int32) (sx0 : Int32) : Prop :=
  ((x6 = 0 → Ex G d mX12_tollOf 62 [(0, .ref a0), (1, .int x1), (2, .int x2), (3, .int x3), (4, .int x4), (5, .int x5), (6, .int x6), (7, .int sx0)] [.int (irm (x4 + 2) 4)] h Q) ∧ (¬ x6 = 0 → Ex G d mX12_tollOf 62 [(0, .ref a0), (1, .int x1), (2, .int x2), (3, .int x3), (4, .int x4), (5, .int x5), (6, .int x6), (7, .int sx0)] [.int x4] h Q))
set_option maxRecDepth 20000 in
theorem t_X12_tollOf_44 {G : GG} {d : Nat} {h : HP} {Q : Option Value → HP → Prop} {a0 : Nat} {x1 : Int32} {x2 : Int32} {x3 : Int32} {x4 : Int32} {x5 : Int32} {x6 : Int32} {sx0 : Int32} (ht : T_X12_tollOf_44 G d h Q a0 x1 x2 x3 x4 x5 x6 sx0) : Ex G d mX12_tollOf 44 [(0, .ref a0), (1, .int x1), (2, .int x2), (3, .int x3), (4, .int x4), (5, .int x5), (6, .int x6)] [.int sx0] h Q := by
  unfold T_X12_tollOf_44 at ht
  refine x_istore (pc2 := 46) [1, 2, 3, 4, 5, 6, 7, 0] (n := 7) (x := sx0) (lv2 := [(0, .ref a0), (1, .int x1), (2, .int x2), (3, .int x3), (4, .int x4), (5, .int x5), (6, .int x6), (7, .int sx0)]) (by decide) rfl dX12_tollOf_44 rfl ?_
  refine x_iload (pc2 := 48) 6 (n := 6) (x := x6) rfl dX12_tollOf_46 rfl ?_
  refine x_if_eq (pc2 := 51) 56 dX12_tollOf_48 (by decide) rfl (fun c1 => ?_) (fun c1 => ?_)
  · replace ht := ht.1 c1
    refine x_iload (pc2 := 58) 4 (n := 4) (x := x4) rfl dX12_tollOf_56 rfl ?_
    refine x_iconst (pc2 := 59) (v := 2) (by decide) dX12_tollOf_58 rfl ?_
    refine x_iadd (pc2 := 60) dX12_tollOf_59 rfl ?_
    refine x_iconst (pc2 := 61) (v := 4) (by decide) dX12_tollOf_60 rfl ?_
    refine y_irem (pc2 := 62) (by decide) dX12_tollOf_61 rfl ?_
    exact ht
  · replace ht := ht.2 c1
    refine x_iload (pc2 := 53) 4 (n := 4) (x := x4) rfl dX12_tollOf_51 rfl ?_
    refine x_goto 62 dX12_tollOf_53 (by decide) ?_
    exact ht
def T_X12_tollOf_62 (G : GG) (d : Nat) (h : HP) (Q : Option Value → HP → Prop) (a0 : Nat) (x1 : Int32) (x2 : Int32) (x3 : Int32) (x4 : Int32) (x5 : Int32) (x6 : Int32) (x7 : Int32) (sx0 : Int32) : Prop :=
  Cal G (d - 1) mX12_isAcross [.int sx0] h (fun r1 h2 => ∃ v4, r1 = some (.int v4) ∧ ((v4 = 0 → Kd G h2 a0 12 ∧ Cal G (d - 1) mX12_of [.ref a0, .int x5, .int 2] h2 (fun r6 h7 => ∃ v10, r6 = some (.int v10) ∧ Ex G d mX12_tollOf 101 [(0, .ref a0), (1, .int x1), (2, .int x2), (3, .int x3), (4, .int x4), (5, .int x5), (6, .int x6), (7, .int x7), (8, .int sx0)] [.int ((x7 / 40) - v10)] h7 Q)) ∧ (¬ v4 = 0 → Kd G h2 a0 12 ∧ Cal G (d - 1) mX12_of [.ref a0, .int x5, .int 1] h2 (fun r11 h12 => ∃ v15, r11 = some (.int v15) ∧ Ex G d mX12_tollOf 101 [(0, .ref a0), (1, .int x1), (2, .int x2), (3, .int x3), (4, .int x4), (5, .int x5), (6, .int x6), (7, .int x7), (8, .int sx0)] [.int ((irm x7 40) - v15)] h12 Q))))
set_option maxRecDepth 20000 in
theorem t_X12_tollOf_62 {G : GG} {d : Nat} {h : HP} {Q : Option Value → HP → Prop} {a0 : Nat} {x1 : Int32} {x2 : Int32} {x3 : Int32} {x4 : Int32} {x5 : Int32} {x6 : Int32} {x7 : Int32} {sx0 : Int32} (hd1 : 1 ≤ d) (ht : T_X12_tollOf_62 G d h Q a0 x1 x2 x3 x4 x5 x6 x7 sx0) : Ex G d mX12_tollOf 62 [(0, .ref a0), (1, .int x1), (2, .int x2), (3, .int x3), (4, .int x4), (5, .int x5), (6, .int x6), (7, .int x7)] [.int sx0] h Q := by
  unfold T_X12_tollOf_62 at ht
  refine x_istore (pc2 := 64) [1, 2, 3, 4, 5, 6, 7, 8, 0] (n := 8) (x := sx0) (lv2 := [(0, .ref a0), (1, .int x1), (2, .int x2), (3, .int x3), (4, .int x4), (5, .int x5), (6, .int x6), (7, .int x7), (8, .int sx0)]) (by decide) rfl dX12_tollOf_62 rfl ?_
  refine x_iload (pc2 := 66) 8 (n := 8) (x := sx0) rfl dX12_tollOf_64 rfl ?_
  refine x_callS (pc2 := 69) (As := [.int sx0]) (rest := []) ms_X12_isAcross ml_X12_429 rfl rfl (Nat.le_of_ble_eq_true rfl) hd1 dX12_tollOf_66 rfl (ht.mono (fun r1 h2 p3 ht' => ?_))
  clear ht
  obtain ⟨v4, rfl, ht⟩ := ht'
  show Ex G d mX12_tollOf 69 [(0, .ref a0), (1, .int x1), (2, .int x2), (3, .int x3), (4, .int x4), (5, .int x5), (6, .int x6), (7, .int x7), (8, .int sx0)] [.int v4] h2 Q
  refine x_if_eq (pc2 := 72) 88 dX12_tollOf_69 (by decide) rfl (fun c5 => ?_) (fun c5 => ?_)
  · replace ht := ht.1 c5
    refine x_iload (pc2 := 90) 7 (n := 7) (x := x7) rfl dX12_tollOf_88 rfl ?_
    refine x_bipush (pc2 := 92) (v := 40) (by decide) dX12_tollOf_90 rfl ?_
    refine x_idiv (pc2 := 93) (by decide) dX12_tollOf_92 rfl ?_
    refine x_aload_n (pc2 := 94) 0 (n := 0) (x := a0) rfl dX12_tollOf_93 rfl ?_
    refine x_iload (pc2 := 96) 5 (n := 5) (x := x5) rfl dX12_tollOf_94 rfl ?_
    refine x_iconst (pc2 := 97) (v := 2) (by decide) dX12_tollOf_96 rfl ?_
    obtain ⟨k9, ht⟩ := ht
    refine x_callV (pc2 := 100) (As := [.int x5, .int 2]) (rest := [.int (x7 / 40)]) (b := a0) mv_X12_of ml_X12_310 k9 rfl rfl (Nat.le_of_ble_eq_true rfl) hd1 dX12_tollOf_97 rfl (ht.mono (fun r6 h7 p8 ht' => ?_))
    clear ht
    obtain ⟨v10, rfl, ht⟩ := ht'
    show Ex G d mX12_tollOf 100 [(0, .ref a0), (1, .int x1), (2, .int x2), (3, .int x3), (4, .int x4), (5, .int x5), (6, .int x6), (7, .int x7), (8, .int sx0)] [.int v10, .int (x7 / 40)] h7 Q
    refine x_isub (pc2 := 101) dX12_tollOf_100 rfl ?_
    exact ht
  · replace ht := ht.2 c5
    refine x_iload (pc2 := 74) 7 (n := 7) (x := x7) rfl dX12_tollOf_72 rfl ?_
    refine x_bipush (pc2 := 76) (v := 40) (by decide) dX12_tollOf_74 rfl ?_
    refine y_irem (pc2 := 77) (by decide) dX12_tollOf_76 rfl ?_
    refine x_aload_n (pc2 := 78) 0 (n := 0) (x := a0) rfl dX12_tollOf_77 rfl ?_
    refine x_iload (pc2 := 80) 5 (n := 5) (x := x5) rfl dX12_tollOf_78 rfl ?_
    refine x_iconst (pc2 := 81) (v := 1) (by decide) dX12_tollOf_80 rfl ?_
    obtain ⟨k14, ht⟩ := ht
    refine x_callV (pc2 := 84) (As := [.int x5, .int 1]) (rest := [.int (irm x7 40)]) (b := a0) mv_X12_of ml_X12_310 k14 rfl rfl (Nat.le_of_ble_eq_true rfl) hd1 dX12_tollOf_81 rfl (ht.mono (fun r11 h12 p13 ht' => ?_))
    clear ht
    obtain ⟨v15, rfl, ht⟩ := ht'
    show Ex G d mX12_tollOf 84 [(0, .ref a0), (1, .int x1), (2, .int x2), (3, .int x3), (4, .int x4), (5, .int x5), (6, .int x6), (7, .int x7), (8, .int sx0)] [.int v15, .int (irm x7 40)] h12 Q
    refine x_isub (pc2 := 85) dX12_tollOf_84 rfl ?_
    refine x_goto 101 dX12_tollOf_85 (by decide) ?_
    exact ht
def T_X12_tollOf_101 (G : GG) (d : Nat) (h : HP) (Q : Option Value → HP → Prop) (a0 : Nat) (x1 : Int32) (x2 : Int32) (x3 : Int32) (x4 : Int32) (x5 : Int32) (x6 : Int32) (x7 : Int32) (x8 : Int32) (sx0 : Int32) : Prop :=
  Kd G h a0 12 ∧ Cal G (d - 1) mX12_of [.ref a0, .int x5, .int 7] h (fun r1 h2 => ∃ v5, r1 = some (.int v5) ∧ ((¬ v5 = x8 → Q (some (.int (-1))) h2) ∧ (v5 = x8 → Cal G (d - 1) mX12_of [.ref a0, .int x5, .int 8] h2 (fun r7 h8 => ∃ v10, r7 = some (.int v10) ∧ ((v10 = sx0 → Cal G (d - 1) mX12_of [.ref a0, .int x5, .int 5] h8 (fun r12 h13 => ∃ v15, r12 = some (.int v15) ∧ ((v15 = x1 → Q (some (.int 0)) h13) ∧ (¬ v15 = x1 → Cal G (d - 1) mX12_of [.ref a0, .int x5, .int 10] h13 (fun r17 h18 => ∃ v20, r17 = some (.int v20) ∧ ((¬ ((v20 >>> (x1 &&& 31)) &&& 1) = 1 → Cal G (d - 1) mX12_of [.ref a0, .int x5, .int 9] h18 (fun r22 h23 => ∃ v25, r22 = some (.int v25) ∧ Q (some (.int v25)) h23)) ∧ (((v20 >>> (x1 &&& 31)) &&& 1) = 1 → Q (some (.int 0)) h18))))))) ∧ (¬ v10 = sx0 → Q (some (.int (-1))) h8))))))
set_option maxRecDepth 20000 in
theorem t_X12_tollOf_101 {G : GG} {d : Nat} {h : HP} {Q : Option Value → HP → Prop} {a0 : Nat} {x1 : Int32} {x2 : Int32} {x3 : Int32} {x4 : Int32} {x5 : Int32} {x6 : Int32} {x7 : Int32} {x8 : Int32} {sx0 : Int32} (hd1 : 1 ≤ d) (ht : T_X12_tollOf_101 G d h Q a0 x1 x2 x3 x4 x5 x6 x7 x8 sx0) : Ex G d mX12_tollOf 101 [(0, .ref a0), (1, .int x1), (2, .int x2), (3, .int x3), (4, .int x4), (5, .int x5), (6, .int x6), (7, .int x7), (8, .int x8)] [.int sx0] h Q := by
  unfold T_X12_tollOf_101 at ht
  refine x_istore (pc2 := 103) [1, 2, 3, 4, 5, 6, 7, 8, 9, 0] (n := 9) (x := sx0) (lv2 := [(0, .ref a0), (1, .int x1), (2, .int x2), (3, .int x3), (4, .int x4), (5, .int x5), (6, .int x6), (7, .int x7), (8, .int x8), (9, .int sx0)]) (by decide) rfl dX12_tollOf_101 rfl ?_
  refine x_aload_n (pc2 := 104) 0 (n := 0) (x := a0) rfl dX12_tollOf_103 rfl ?_
  refine x_iload (pc2 := 106) 5 (n := 5) (x := x5) rfl dX12_tollOf_104 rfl ?_
  refine x_bipush (pc2 := 108) (v := 7) (by decide) dX12_tollOf_106 rfl ?_
  obtain ⟨k4, ht⟩ := ht
  refine x_callV (pc2 := 111) (As := [.int x5, .int 7]) (rest := []) (b := a0) mv_X12_of ml_X12_310 k4 rfl rfl (Nat.le_of_ble_eq_true rfl) hd1 dX12_tollOf_108 rfl (ht.mono (fun r1 h2 p3 ht' => ?_))
  clear ht
  obtain ⟨v5, rfl, ht⟩ := ht'
  show Ex G d mX12_tollOf 111 [(0, .ref a0), (1, .int x1), (2, .int x2), (3, .int x3), (4, .int x4), (5, .int x5), (6, .int x6), (7, .int x7), (8, .int x8), (9, .int sx0)] [.int v5] h2 Q
  refine x_iload (pc2 := 113) 8 (n := 8) (x := x8) rfl dX12_tollOf_111 rfl ?_
  refine y_icmp_ne (pc2 := 116) 129 dX12_tollOf_113 (by decide) rfl (fun c6 => ?_) (fun c6 => ?_)
  · replace ht := ht.1 c6
    refine x_iconst (pc2 := 130) (v := (-1)) (by decide) dX12_tollOf_129 rfl ?_
    exact x_ret (ty := .int) rfl rfl dX12_tollOf_130 ht
  · replace ht := ht.2 c6
    refine x_aload_n (pc2 := 117) 0 (n := 0) (x := a0) rfl dX12_tollOf_116 rfl ?_
    refine x_iload (pc2 := 119) 5 (n := 5) (x := x5) rfl dX12_tollOf_117 rfl ?_
    refine x_bipush (pc2 := 121) (v := 8) (by decide) dX12_tollOf_119 rfl ?_
    refine x_callV (pc2 := 124) (As := [.int x5, .int 8]) (rest := []) (b := a0) mv_X12_of ml_X12_310 (k4.up p3) rfl rfl (Nat.le_of_ble_eq_true rfl) hd1 dX12_tollOf_121 rfl (ht.mono (fun r7 h8 p9 ht' => ?_))
    clear ht
    obtain ⟨v10, rfl, ht⟩ := ht'
    show Ex G d mX12_tollOf 124 [(0, .ref a0), (1, .int x1), (2, .int x2), (3, .int x3), (4, .int x4), (5, .int x5), (6, .int x6), (7, .int x7), (8, .int x8), (9, .int sx0)] [.int v10] h8 Q
    refine x_iload (pc2 := 126) 9 (n := 9) (x := sx0) rfl dX12_tollOf_124 rfl ?_
    refine x_icmp_eq (pc2 := 129) 131 dX12_tollOf_126 (by decide) rfl (fun c11 => ?_) (fun c11 => ?_)
    · replace ht := ht.1 c11
      refine x_aload_n (pc2 := 132) 0 (n := 0) (x := a0) rfl dX12_tollOf_131 rfl ?_
      refine x_iload (pc2 := 134) 5 (n := 5) (x := x5) rfl dX12_tollOf_132 rfl ?_
      refine x_iconst (pc2 := 135) (v := 5) (by decide) dX12_tollOf_134 rfl ?_
      refine x_callV (pc2 := 138) (As := [.int x5, .int 5]) (rest := []) (b := a0) mv_X12_of ml_X12_310 ((k4.up p3).up p9) rfl rfl (Nat.le_of_ble_eq_true rfl) hd1 dX12_tollOf_135 rfl (ht.mono (fun r12 h13 p14 ht' => ?_))
      clear ht
      obtain ⟨v15, rfl, ht⟩ := ht'
      show Ex G d mX12_tollOf 138 [(0, .ref a0), (1, .int x1), (2, .int x2), (3, .int x3), (4, .int x4), (5, .int x5), (6, .int x6), (7, .int x7), (8, .int x8), (9, .int sx0)] [.int v15] h13 Q
      refine x_iload_n (pc2 := 139) 1 (n := 1) (x := x1) rfl dX12_tollOf_138 rfl ?_
      refine x_icmp_eq (pc2 := 142) 158 dX12_tollOf_139 (by decide) rfl (fun c16 => ?_) (fun c16 => ?_)
      · replace ht := ht.1 c16
        refine x_iconst (pc2 := 159) (v := 0) (by decide) dX12_tollOf_158 rfl ?_
        refine x_goto 170 dX12_tollOf_159 (by decide) ?_
        exact x_ret (ty := .int) rfl rfl dX12_tollOf_170 ht
      · replace ht := ht.2 c16
        refine x_aload_n (pc2 := 143) 0 (n := 0) (x := a0) rfl dX12_tollOf_142 rfl ?_
        refine x_iload (pc2 := 145) 5 (n := 5) (x := x5) rfl dX12_tollOf_143 rfl ?_
        refine x_bipush (pc2 := 147) (v := 10) (by decide) dX12_tollOf_145 rfl ?_
        refine x_callV (pc2 := 150) (As := [.int x5, .int 10]) (rest := []) (b := a0) mv_X12_of ml_X12_310 (((k4.up p3).up p9).up p14) rfl rfl (Nat.le_of_ble_eq_true rfl) hd1 dX12_tollOf_147 rfl (ht.mono (fun r17 h18 p19 ht' => ?_))
        clear ht
        obtain ⟨v20, rfl, ht⟩ := ht'
        show Ex G d mX12_tollOf 150 [(0, .ref a0), (1, .int x1), (2, .int x2), (3, .int x3), (4, .int x4), (5, .int x5), (6, .int x6), (7, .int x7), (8, .int x8), (9, .int sx0)] [.int v20] h18 Q
        refine x_iload_n (pc2 := 151) 1 (n := 1) (x := x1) rfl dX12_tollOf_150 rfl ?_
        refine x_ishr (pc2 := 152) dX12_tollOf_151 rfl ?_
        refine x_iconst (pc2 := 153) (v := 1) (by decide) dX12_tollOf_152 rfl ?_
        refine x_iand (pc2 := 154) dX12_tollOf_153 rfl ?_
        refine x_iconst (pc2 := 155) (v := 1) (by decide) dX12_tollOf_154 rfl ?_
        refine y_icmp_ne (pc2 := 158) 162 dX12_tollOf_155 (by decide) rfl (fun c21 => ?_) (fun c21 => ?_)
        · replace ht := ht.1 c21
          refine x_aload_n (pc2 := 163) 0 (n := 0) (x := a0) rfl dX12_tollOf_162 rfl ?_
          refine x_iload (pc2 := 165) 5 (n := 5) (x := x5) rfl dX12_tollOf_163 rfl ?_
          refine x_bipush (pc2 := 167) (v := 9) (by decide) dX12_tollOf_165 rfl ?_
          refine x_callV (pc2 := 170) (As := [.int x5, .int 9]) (rest := []) (b := a0) mv_X12_of ml_X12_310 ((((k4.up p3).up p9).up p14).up p19) rfl rfl (Nat.le_of_ble_eq_true rfl) hd1 dX12_tollOf_167 rfl (ht.mono (fun r22 h23 p24 ht' => ?_))
          clear ht
          obtain ⟨v25, rfl, ht⟩ := ht'
          show Ex G d mX12_tollOf 170 [(0, .ref a0), (1, .int x1), (2, .int x2), (3, .int x3), (4, .int x4), (5, .int x5), (6, .int x6), (7, .int x7), (8, .int x8), (9, .int sx0)] [.int v25] h23 Q
          exact x_ret (ty := .int) rfl rfl dX12_tollOf_170 ht
        · replace ht := ht.2 c21
          refine x_iconst (pc2 := 159) (v := 0) (by decide) dX12_tollOf_158 rfl ?_
          refine x_goto 170 dX12_tollOf_159 (by decide) ?_
          exact x_ret (ty := .int) rfl rfl dX12_tollOf_170 ht
    · replace ht := ht.2 c11
      refine x_iconst (pc2 := 130) (v := (-1)) (by decide) dX12_tollOf_129 rfl ?_
      exact x_ret (ty := .int) rfl rfl dX12_tollOf_130 ht
def T_X12_walks (G : GG) (d : Nat) (h : HP) (Q : Option Value → HP → Prop) (a0 : Nat) (x1 : Int32) (x2 : Int32) : Prop :=
  Ex G d mX12_walks 2 [(0, .ref a0), (1, .int x1), (2, .int x2), (3, .int 0)] [] h Q
set_option maxRecDepth 20000 in
theorem t_X12_walks {G : GG} {d : Nat} {h : HP} {Q : Option Value → HP → Prop} {a0 : Nat} {x1 : Int32} {x2 : Int32} (ht : T_X12_walks G d h Q a0 x1 x2) : Ex G d mX12_walks 0 [(0, .ref a0), (1, .int x1), (2, .int x2)] [] h Q := by
  unfold T_X12_walks at ht
  refine x_iconst (pc2 := 1) (v := 0) (by decide) dX12_walks_0 rfl ?_
  refine x_istore_n (pc2 := 2) [1, 2, 3, 0] (n := 3) (x := 0) (lv2 := [(0, .ref a0), (1, .int x1), (2, .int x2), (3, .int 0)]) (by decide) rfl dX12_walks_1 rfl ?_
  exact ht
theorem e_X12_walks {G : GG} {d : Nat} {h : HP} {Q : Option Value → HP → Prop} {a0 : Nat} {x1 : Int32} {x2 : Int32} (ht : T_X12_walks G d h Q a0 x1 x2) : Cal G d mX12_walks [.ref a0, .int x1, .int x2] h Q := cal_of rfl (Nat.le_of_ble_eq_true rfl) (t_X12_walks ht)
def T_X12_walks_2 (G : GG) (d : Nat) (h : HP) (Q : Option Value → HP → Prop) (a0 : Nat) (x1 : Int32) (x2 : Int32) (x3 : Int32) : Prop :=
  ((1600 ≤ x3 → Kd G h a0 12 ∧ ∃ q3, hR h a0 44 = some q3 ∧ Kd G h q3 14 ∧ vp_in x2 (hN h q3) ∧ ∃ q7, hR (sI h q3 x2.toNatClampNeg 0) a0 45 = some q7 ∧ Kd G (sI h q3 x2.toNatClampNeg 0) q7 14 ∧ vp_in 0 (hN (sI h q3 x2.toNatClampNeg 0) q7) ∧ Ex G d mX12_walks 48 [(0, .ref a0), (1, .int x1), (2, .int x2), (3, .int 0), (4, .int 1)] [] (sI (sI h q3 x2.toNatClampNeg 0) q7 0 x2) Q) ∧ (¬ 1600 ≤ x3 → Kd G h a0 12 ∧ ∃ q12, hR h a0 44 = some q12 ∧ Kd G h q12 14 ∧ vp_in x3 (hN h q12) ∧ ∃ q16, hR (sI h q12 x3.toNatClampNeg (-1)) a0 46 = some q16 ∧ Kd G (sI h q12 x3.toNatClampNeg (-1)) q16 16 ∧ vp_in x3 (hN (sI h q12 x3.toNatClampNeg (-1)) q16) ∧ Ex G d mX12_walks 2 [(0, .ref a0), (1, .int x1), (2, .int x2), (3, .int (x3 + 1))] [] (sI (sI h q12 x3.toNatClampNeg (-1)) q16 x3.toNatClampNeg (0 &&& 1)) Q))
set_option maxRecDepth 20000 in
theorem t_X12_walks_2 {G : GG} {d : Nat} {h : HP} {Q : Option Value → HP → Prop} {a0 : Nat} {x1 : Int32} {x2 : Int32} {x3 : Int32} (ht : T_X12_walks_2 G d h Q a0 x1 x2 x3) : Ex G d mX12_walks 2 [(0, .ref a0), (1, .int x1), (2, .int x2), (3, .int x3)] [] h Q := by
  unfold T_X12_walks_2 at ht
  refine x_iload_n (pc2 := 3) 3 (n := 3) (x := x3) rfl dX12_walks_2 rfl ?_
  refine x_sipush (pc2 := 6) (v := 1600) (by decide) dX12_walks_3 rfl ?_
  refine x_icmp_ge (pc2 := 9) 29 dX12_walks_6 (by decide) rfl (fun c1 => ?_) (fun c1 => ?_)
  · replace ht := ht.1 c1
    refine x_aload_n (pc2 := 30) 0 (n := 0) (x := a0) rfl dX12_walks_29 rfl ?_
    obtain ⟨k2, ht⟩ := ht
    obtain ⟨q3, e4, ht⟩ := ht
    refine y_getR (pc2 := 33) (κ := 12) (k := 44) fl_X12_57 (by decide) (by decide) k2 rfl e4 dX12_walks_30 rfl ?_
    refine x_iload_n (pc2 := 34) 2 (n := 2) (x := x2) rfl dX12_walks_33 rfl ?_
    refine x_iconst (pc2 := 35) (v := 0) (by decide) dX12_walks_34 rfl ?_
    obtain ⟨k5, ht⟩ := ht
    obtain ⟨b6, ht⟩ := ht
    refine x_iast (pc2 := 36) k5 b6 dX12_walks_35 rfl ?_
    refine x_aload_n (pc2 := 37) 0 (n := 0) (x := a0) rfl dX12_walks_36 rfl ?_
    obtain ⟨q7, e8, ht⟩ := ht
    refine y_getR (pc2 := 40) (κ := 12) (k := 45) fl_X12_60 (by decide) (by decide) k2.sI rfl e8 dX12_walks_37 rfl ?_
    refine x_iconst (pc2 := 41) (v := 0) (by decide) dX12_walks_40 rfl ?_
    refine x_iload_n (pc2 := 42) 2 (n := 2) (x := x2) rfl dX12_walks_41 rfl ?_
    obtain ⟨k9, ht⟩ := ht
    obtain ⟨b10, ht⟩ := ht
    refine z_iast (pc2 := 43) (k := 0) (by decide) k9 b10 dX12_walks_42 rfl ?_
    refine x_iconst (pc2 := 44) (v := 0) (by decide) dX12_walks_43 rfl ?_
    refine x_istore_n (pc2 := 45) [1, 2, 3, 0] (n := 3) (x := 0) (lv2 := [(0, .ref a0), (1, .int x1), (2, .int x2), (3, .int 0)]) (by decide) rfl dX12_walks_44 rfl ?_
    refine x_iconst (pc2 := 46) (v := 1) (by decide) dX12_walks_45 rfl ?_
    refine x_istore (pc2 := 48) [1, 2, 3, 4, 0] (n := 4) (x := 1) (lv2 := [(0, .ref a0), (1, .int x1), (2, .int x2), (3, .int 0), (4, .int 1)]) (by decide) rfl dX12_walks_46 rfl ?_
    exact ht
  · replace ht := ht.2 c1
    refine x_aload_n (pc2 := 10) 0 (n := 0) (x := a0) rfl dX12_walks_9 rfl ?_
    obtain ⟨k11, ht⟩ := ht
    obtain ⟨q12, e13, ht⟩ := ht
    refine y_getR (pc2 := 13) (κ := 12) (k := 44) fl_X12_57 (by decide) (by decide) k11 rfl e13 dX12_walks_10 rfl ?_
    refine x_iload_n (pc2 := 14) 3 (n := 3) (x := x3) rfl dX12_walks_13 rfl ?_
    refine x_iconst (pc2 := 15) (v := (-1)) (by decide) dX12_walks_14 rfl ?_
    obtain ⟨k14, ht⟩ := ht
    obtain ⟨b15, ht⟩ := ht
    refine x_iast (pc2 := 16) k14 b15 dX12_walks_15 rfl ?_
    refine x_aload_n (pc2 := 17) 0 (n := 0) (x := a0) rfl dX12_walks_16 rfl ?_
    obtain ⟨q16, e17, ht⟩ := ht
    refine y_getR (pc2 := 20) (κ := 12) (k := 46) fl_X12_63 (by decide) (by decide) k11.sI rfl e17 dX12_walks_17 rfl ?_
    refine x_iload_n (pc2 := 21) 3 (n := 3) (x := x3) rfl dX12_walks_20 rfl ?_
    refine x_iconst (pc2 := 22) (v := 0) (by decide) dX12_walks_21 rfl ?_
    obtain ⟨k18, ht⟩ := ht
    obtain ⟨b19, ht⟩ := ht
    refine x_zast (pc2 := 23) k18 b19 dX12_walks_22 rfl ?_
    refine x_iinc (pc2 := 26) 3 [1, 2, 3, 0] (i := 3) (x := x3) (v := (x3 + 1)) (lv2 := [(0, .ref a0), (1, .int x1), (2, .int x2), (3, .int (x3 + 1))]) rfl (iinc_eq (by decide) _) (by decide) rfl dX12_walks_23 rfl ?_
    refine x_goto 2 dX12_walks_26 (by decide) ?_
    exact ht
def T_X12_walks_48 (G : GG) (d : Nat) (h : HP) (Q : Option Value → HP → Prop) (a0 : Nat) (x1 : Int32) (x2 : Int32) (x3 : Int32) (x4 : Int32) : Prop :=
  ((x4 ≤ 0 → Q none h) ∧ (¬ x4 ≤ 0 → Kd G h a0 12 ∧ ∃ q3, hR h a0 45 = some q3 ∧ Kd G h q3 14 ∧ vp_in x3 (hN h q3) ∧ ∃ q7, hR h a0 46 = some q7 ∧ Kd G h q7 16 ∧ vp_in (hI h q3 x3.toNatClampNeg) (hN h q7) ∧ Ex G d mX12_walks 83 [(0, .ref a0), (1, .int x1), (2, .int x2), (3, .int (irm (x3 + 1) 1600)), (4, .int (x4 + (-1))), (5, .int (hI h q3 x3.toNatClampNeg)), (6, .int 0)] [] (sI h q7 (hI h q3 x3.toNatClampNeg).toNatClampNeg (0 &&& 1)) Q))
set_option maxRecDepth 20000 in
theorem t_X12_walks_48 {G : GG} {d : Nat} {h : HP} {Q : Option Value → HP → Prop} {a0 : Nat} {x1 : Int32} {x2 : Int32} {x3 : Int32} {x4 : Int32} (ht : T_X12_walks_48 G d h Q a0 x1 x2 x3 x4) : Ex G d mX12_walks 48 [(0, .ref a0), (1, .int x1), (2, .int x2), (3, .int x3), (4, .int x4)] [] h Q := by
  unfold T_X12_walks_48 at ht
  refine x_iload (pc2 := 50) 4 (n := 4) (x := x4) rfl dX12_walks_48 rfl ?_
  refine x_if_le (pc2 := 53) 236 dX12_walks_50 (by decide) rfl (fun c1 => ?_) (fun c1 => ?_)
  · replace ht := ht.1 c1
    exact x_retV rfl dX12_walks_236 ht
  · replace ht := ht.2 c1
    refine x_aload_n (pc2 := 54) 0 (n := 0) (x := a0) rfl dX12_walks_53 rfl ?_
    obtain ⟨k2, ht⟩ := ht
    obtain ⟨q3, e4, ht⟩ := ht
    refine y_getR (pc2 := 57) (κ := 12) (k := 45) fl_X12_60 (by decide) (by decide) k2 rfl e4 dX12_walks_54 rfl ?_
    refine x_iload_n (pc2 := 58) 3 (n := 3) (x := x3) rfl dX12_walks_57 rfl ?_
    obtain ⟨k5, ht⟩ := ht
    obtain ⟨b6, ht⟩ := ht
    refine x_iald (pc2 := 59) k5 b6 dX12_walks_58 rfl ?_
    refine x_istore (pc2 := 61) [1, 2, 3, 4, 5, 0] (n := 5) (x := (hI h q3 x3.toNatClampNeg)) (lv2 := [(0, .ref a0), (1, .int x1), (2, .int x2), (3, .int x3), (4, .int x4), (5, .int (hI h q3 x3.toNatClampNeg))]) (by decide) rfl dX12_walks_59 rfl ?_
    refine x_iload_n (pc2 := 62) 3 (n := 3) (x := x3) rfl dX12_walks_61 rfl ?_
    refine x_iconst (pc2 := 63) (v := 1) (by decide) dX12_walks_62 rfl ?_
    refine x_iadd (pc2 := 64) dX12_walks_63 rfl ?_
    refine x_sipush (pc2 := 67) (v := 1600) (by decide) dX12_walks_64 rfl ?_
    refine y_irem (pc2 := 68) (by decide) dX12_walks_67 rfl ?_
    refine x_istore_n (pc2 := 69) [1, 2, 3, 0, 4, 5] (n := 3) (x := (irm (x3 + 1) 1600)) (lv2 := [(0, .ref a0), (1, .int x1), (2, .int x2), (3, .int (irm (x3 + 1) 1600)), (4, .int x4), (5, .int (hI h q3 x3.toNatClampNeg))]) (by decide) rfl dX12_walks_68 rfl ?_
    refine x_iinc (pc2 := 72) 4 [1, 2, 3, 4, 0, 5] (i := 4) (x := x4) (v := (x4 + (-1))) (lv2 := [(0, .ref a0), (1, .int x1), (2, .int x2), (3, .int (irm (x3 + 1) 1600)), (4, .int (x4 + (-1))), (5, .int (hI h q3 x3.toNatClampNeg))]) rfl (iinc_eq (by decide) _) (by decide) rfl dX12_walks_69 rfl ?_
    refine x_aload_n (pc2 := 73) 0 (n := 0) (x := a0) rfl dX12_walks_72 rfl ?_
    obtain ⟨q7, e8, ht⟩ := ht
    refine y_getR (pc2 := 76) (κ := 12) (k := 46) fl_X12_63 (by decide) (by decide) k2 rfl e8 dX12_walks_73 rfl ?_
    refine x_iload (pc2 := 78) 5 (n := 5) (x := (hI h q3 x3.toNatClampNeg)) rfl dX12_walks_76 rfl ?_
    refine x_iconst (pc2 := 79) (v := 0) (by decide) dX12_walks_78 rfl ?_
    obtain ⟨k9, ht⟩ := ht
    obtain ⟨b10, ht⟩ := ht
    refine x_zast (pc2 := 80) k9 b10 dX12_walks_79 rfl ?_
    refine x_iconst (pc2 := 81) (v := 0) (by decide) dX12_walks_80 rfl ?_
    refine x_istore (pc2 := 83) [1, 2, 3, 4, 5, 6, 0] (n := 6) (x := 0) (lv2 := [(0, .ref a0), (1, .int x1), (2, .int x2), (3, .int (irm (x3 + 1) 1600)), (4, .int (x4 + (-1))), (5, .int (hI h q3 x3.toNatClampNeg)), (6, .int 0)]) (by decide) rfl dX12_walks_81 rfl ?_
    exact ht
def T_X12_walks_83 (G : GG) (d : Nat) (h : HP) (Q : Option Value → HP → Prop) (a0 : Nat) (x1 : Int32) (x2 : Int32) (x3 : Int32) (x4 : Int32) (x5 : Int32) (x6 : Int32) : Prop :=
  ((4 ≤ x6 → Ex G d mX12_walks 48 [(0, .ref a0), (1, .int x1), (2, .int x2), (3, .int x3), (4, .int x4)] [] h Q) ∧ (¬ 4 ≤ x6 → Kd G h a0 12 ∧ Cal G (d - 1) mX12_beside [.ref a0, .int x5, .int x6] h (fun r2 h3 => ∃ v6, r2 = some (.int v6) ∧ ((0 ≤ v6 → Cal G (d - 1) mX12_tollOf [.ref a0, .int x1, .int x5, .int v6, .int x6] h3 (fun r8 h9 => ∃ v11, r8 = some (.int v11) ∧ ((v11 = (-1) → Ex G d mX12_walks 83 [(0, .ref a0), (1, .int x1), (2, .int x2), (3, .int x3), (4, .int x4), (5, .int x5), (6, .int (x6 + 1))] [] h9 Q) ∧ (¬ v11 = (-1) → ∃ q13, hR h9 a0 44 = some q13 ∧ Kd G h9 q13 14 ∧ vp_in v6 (hN h9 q13) ∧ (((hI h9 q13 v6.toNatClampNeg) < 0 → Ex G d mX12_walks 165 [(0, .ref a0), (1, .int x1), (2, .int x2), (3, .int x3), (4, .int x4), (5, .int x5), (6, .int x6), (7, .int v6), (8, .int v11)] [] h9 Q) ∧ (¬ (hI h9 q13 v6.toNatClampNeg) < 0 → vp_in v6 (hN h9 q13) ∧ vp_in x5 (hN h9 q13) ∧ (((((hI h9 q13 x5.toNatClampNeg) + 1) + (10000 * v11)) < (hI h9 q13 v6.toNatClampNeg) → Ex G d mX12_walks 165 [(0, .ref a0), (1, .int x1), (2, .int x2), (3, .int x3), (4, .int x4), (5, .int x5), (6, .int x6), (7, .int v6), (8, .int v11)] [] h9 Q) ∧ (¬ (((hI h9 q13 x5.toNatClampNeg) + 1) + (10000 * v11)) < (hI h9 q13 v6.toNatClampNeg) → Ex G d mX12_walks 83 [(0, .ref a0), (1, .int x1), (2, .int x2), (3, .int x3), (4, .int x4), (5, .int x5), (6, .int (x6 + 1))] [] h9 Q)))))))) ∧ (¬ 0 ≤ v6 → Ex G d mX12_walks 83 [(0, .ref a0), (1, .int x1), (2, .int x2), (3, .int x3), (4, .int x4), (5, .int x5), (6, .int (x6 + 1))] [] h3 Q)))))
set_option maxRecDepth 20000 in
theorem t_X12_walks_83 {G : GG} {d : Nat} {h : HP} {Q : Option Value → HP → Prop} {a0 : Nat} {x1 : Int32} {x2 : Int32} {x3 : Int32} {x4 : Int32} {x5 : Int32} {x6 : Int32} (hd1 : 1 ≤ d) (ht : T_X12_walks_83 G d h Q a0 x1 x2 x3 x4 x5 x6) : Ex G d mX12_walks 83 [(0, .ref a0), (1, .int x1), (2, .int x2), (3, .int x3), (4, .int x4), (5, .int x5), (6, .int x6)] [] h Q := by
  unfold T_X12_walks_83 at ht
  refine x_iload (pc2 := 85) 6 (n := 6) (x := x6) rfl dX12_walks_83 rfl ?_
  refine x_iconst (pc2 := 86) (v := 4) (by decide) dX12_walks_85 rfl ?_
  refine x_icmp_ge (pc2 := 89) 233 dX12_walks_86 (by decide) rfl (fun c1 => ?_) (fun c1 => ?_)
  · replace ht := ht.1 c1
    refine x_goto 48 dX12_walks_233 (by decide) ?_
    refine x_sub [0, 1, 2, 3, 4] (lv2 := [(0, .ref a0), (1, .int x1), (2, .int x2), (3, .int x3), (4, .int x4)]) rfl ?_
    exact ht
  · replace ht := ht.2 c1
    refine x_aload_n (pc2 := 90) 0 (n := 0) (x := a0) rfl dX12_walks_89 rfl ?_
    refine x_iload (pc2 := 92) 5 (n := 5) (x := x5) rfl dX12_walks_90 rfl ?_
    refine x_iload (pc2 := 94) 6 (n := 6) (x := x6) rfl dX12_walks_92 rfl ?_
    obtain ⟨k5, ht⟩ := ht
    refine x_callV (pc2 := 97) (As := [.int x5, .int x6]) (rest := []) (b := a0) mv_X12_beside ml_X12_516 k5 rfl rfl (Nat.le_of_ble_eq_true rfl) hd1 dX12_walks_94 rfl (ht.mono (fun r2 h3 p4 ht' => ?_))
    clear ht
    obtain ⟨v6, rfl, ht⟩ := ht'
    show Ex G d mX12_walks 97 [(0, .ref a0), (1, .int x1), (2, .int x2), (3, .int x3), (4, .int x4), (5, .int x5), (6, .int x6)] [.int v6] h3 Q
    refine x_istore (pc2 := 99) [1, 2, 3, 4, 5, 6, 7, 0] (n := 7) (x := v6) (lv2 := [(0, .ref a0), (1, .int x1), (2, .int x2), (3, .int x3), (4, .int x4), (5, .int x5), (6, .int x6), (7, .int v6)]) (by decide) rfl dX12_walks_97 rfl ?_
    refine x_iload (pc2 := 101) 7 (n := 7) (x := v6) rfl dX12_walks_99 rfl ?_
    refine x_if_ge (pc2 := 104) 107 dX12_walks_101 (by decide) rfl (fun c7 => ?_) (fun c7 => ?_)
    · replace ht := ht.1 c7
      refine x_aload_n (pc2 := 108) 0 (n := 0) (x := a0) rfl dX12_walks_107 rfl ?_
      refine x_iload_n (pc2 := 109) 1 (n := 1) (x := x1) rfl dX12_walks_108 rfl ?_
      refine x_iload (pc2 := 111) 5 (n := 5) (x := x5) rfl dX12_walks_109 rfl ?_
      refine x_iload (pc2 := 113) 7 (n := 7) (x := v6) rfl dX12_walks_111 rfl ?_
      refine x_iload (pc2 := 115) 6 (n := 6) (x := x6) rfl dX12_walks_113 rfl ?_
      refine x_callV (pc2 := 118) (As := [.int x1, .int x5, .int v6, .int x6]) (rest := []) (b := a0) mv_X12_tollOf ml_X12_519 (k5.up p4) rfl rfl (Nat.le_of_ble_eq_true rfl) hd1 dX12_walks_115 rfl (ht.mono (fun r8 h9 p10 ht' => ?_))
      clear ht
      obtain ⟨v11, rfl, ht⟩ := ht'
      show Ex G d mX12_walks 118 [(0, .ref a0), (1, .int x1), (2, .int x2), (3, .int x3), (4, .int x4), (5, .int x5), (6, .int x6), (7, .int v6)] [.int v11] h9 Q
      refine x_istore (pc2 := 120) [1, 2, 3, 4, 5, 6, 7, 8, 0] (n := 8) (x := v11) (lv2 := [(0, .ref a0), (1, .int x1), (2, .int x2), (3, .int x3), (4, .int x4), (5, .int x5), (6, .int x6), (7, .int v6), (8, .int v11)]) (by decide) rfl dX12_walks_118 rfl ?_
      refine x_iload (pc2 := 122) 8 (n := 8) (x := v11) rfl dX12_walks_120 rfl ?_
      refine x_iconst (pc2 := 123) (v := (-1)) (by decide) dX12_walks_122 rfl ?_
      refine x_icmp_eq (pc2 := 126) 227 dX12_walks_123 (by decide) rfl (fun c12 => ?_) (fun c12 => ?_)
      · replace ht := ht.1 c12
        refine x_iinc (pc2 := 230) 6 [1, 2, 3, 4, 5, 6, 0, 7, 8] (i := 6) (x := x6) (v := (x6 + 1)) (lv2 := [(0, .ref a0), (1, .int x1), (2, .int x2), (3, .int x3), (4, .int x4), (5, .int x5), (6, .int (x6 + 1)), (7, .int v6), (8, .int v11)]) rfl (iinc_eq (by decide) _) (by decide) rfl dX12_walks_227 rfl ?_
        refine x_goto 83 dX12_walks_230 (by decide) ?_
        refine x_sub [0, 1, 2, 3, 4, 5, 6] (lv2 := [(0, .ref a0), (1, .int x1), (2, .int x2), (3, .int x3), (4, .int x4), (5, .int x5), (6, .int (x6 + 1))]) rfl ?_
        exact ht
      · replace ht := ht.2 c12
        refine x_aload_n (pc2 := 127) 0 (n := 0) (x := a0) rfl dX12_walks_126 rfl ?_
        obtain ⟨q13, e14, ht⟩ := ht
        refine y_getR (pc2 := 130) (κ := 12) (k := 44) fl_X12_57 (by decide) (by decide) ((k5.up p4).up p10) rfl e14 dX12_walks_127 rfl ?_
        refine x_iload (pc2 := 132) 7 (n := 7) (x := v6) rfl dX12_walks_130 rfl ?_
        obtain ⟨k15, ht⟩ := ht
        obtain ⟨b16, ht⟩ := ht
        refine x_iald (pc2 := 133) k15 b16 dX12_walks_132 rfl ?_
        refine x_if_lt (pc2 := 136) 165 dX12_walks_133 (by decide) rfl (fun c17 => ?_) (fun c17 => ?_)
        · replace ht := ht.1 c17
          exact ht
        · replace ht := ht.2 c17
          refine x_aload_n (pc2 := 137) 0 (n := 0) (x := a0) rfl dX12_walks_136 rfl ?_
          refine y_getR (pc2 := 140) (κ := 12) (k := 44) fl_X12_57 (by decide) (by decide) ((k5.up p4).up p10) rfl e14 dX12_walks_137 rfl ?_
          refine x_iload (pc2 := 142) 7 (n := 7) (x := v6) rfl dX12_walks_140 rfl ?_
          obtain ⟨b18, ht⟩ := ht
          refine x_iald (pc2 := 143) k15 b18 dX12_walks_142 rfl ?_
          refine x_aload_n (pc2 := 144) 0 (n := 0) (x := a0) rfl dX12_walks_143 rfl ?_
          refine y_getR (pc2 := 147) (κ := 12) (k := 44) fl_X12_57 (by decide) (by decide) ((k5.up p4).up p10) rfl e14 dX12_walks_144 rfl ?_
          refine x_iload (pc2 := 149) 5 (n := 5) (x := x5) rfl dX12_walks_147 rfl ?_
          obtain ⟨b19, ht⟩ := ht
          refine x_iald (pc2 := 150) k15 b19 dX12_walks_149 rfl ?_
          refine x_iconst (pc2 := 151) (v := 1) (by decide) dX12_walks_150 rfl ?_
          refine x_iadd (pc2 := 152) dX12_walks_151 rfl ?_
          refine x_sipush (pc2 := 155) (v := 10000) (by decide) dX12_walks_152 rfl ?_
          refine x_iload (pc2 := 157) 8 (n := 8) (x := v11) rfl dX12_walks_155 rfl ?_
          refine x_imul (pc2 := 158) dX12_walks_157 rfl ?_
          refine x_iadd (pc2 := 159) dX12_walks_158 rfl ?_
          refine x_icmp_gt (pc2 := 162) 165 dX12_walks_159 (by decide) rfl (fun c20 => ?_) (fun c20 => ?_)
          · replace ht := ht.1 c20
            exact ht
          · replace ht := ht.2 c20
            refine x_goto 227 dX12_walks_162 (by decide) ?_
            refine x_iinc (pc2 := 230) 6 [1, 2, 3, 4, 5, 6, 0, 7, 8] (i := 6) (x := x6) (v := (x6 + 1)) (lv2 := [(0, .ref a0), (1, .int x1), (2, .int x2), (3, .int x3), (4, .int x4), (5, .int x5), (6, .int (x6 + 1)), (7, .int v6), (8, .int v11)]) rfl (iinc_eq (by decide) _) (by decide) rfl dX12_walks_227 rfl ?_
            refine x_goto 83 dX12_walks_230 (by decide) ?_
            refine x_sub [0, 1, 2, 3, 4, 5, 6] (lv2 := [(0, .ref a0), (1, .int x1), (2, .int x2), (3, .int x3), (4, .int x4), (5, .int x5), (6, .int (x6 + 1))]) rfl ?_
            exact ht
    · replace ht := ht.2 c7
      refine x_goto 227 dX12_walks_104 (by decide) ?_
      refine x_iinc (pc2 := 230) 6 [1, 2, 3, 4, 5, 6, 0, 7] (i := 6) (x := x6) (v := (x6 + 1)) (lv2 := [(0, .ref a0), (1, .int x1), (2, .int x2), (3, .int x3), (4, .int x4), (5, .int x5), (6, .int (x6 + 1)), (7, .int v6)]) rfl (iinc_eq (by decide) _) (by decide) rfl dX12_walks_227 rfl ?_
      refine x_goto 83 dX12_walks_230 (by decide) ?_
      refine x_sub [0, 1, 2, 3, 4, 5, 6] (lv2 := [(0, .ref a0), (1, .int x1), (2, .int x2), (3, .int x3), (4, .int x4), (5, .int x5), (6, .int (x6 + 1))]) rfl ?_
      exact ht
def T_X12_walks_165 (G : GG) (d : Nat) (h : HP) (Q : Option Value → HP → Prop) (a0 : Nat) (x1 : Int32) (x2 : Int32) (x3 : Int32) (x4 : Int32) (x5 : Int32) (x6 : Int32) (x7 : Int32) (x8 : Int32) : Prop :=
  Kd G h a0 12 ∧ ∃ q2, hR h a0 44 = some q2 ∧ Kd G h q2 14 ∧ vp_in x5 (hN h q2) ∧ vp_in x7 (hN h q2) ∧ ∃ q7, hR (sI h q2 x7.toNatClampNeg (((hI h q2 x5.toNatClampNeg) + 1) + (10000 * x8))) a0 46 = some q7 ∧ Kd G (sI h q2 x7.toNatClampNeg (((hI h q2 x5.toNatClampNeg) + 1) + (10000 * x8))) q7 16 ∧ vp_in x7 (hN (sI h q2 x7.toNatClampNeg (((hI h q2 x5.toNatClampNeg) + 1) + (10000 * x8))) q7) ∧ (((hI (sI h q2 x7.toNatClampNeg (((hI h q2 x5.toNatClampNeg) + 1) + (10000 * x8))) q7 x7.toNatClampNeg) = 0 → vp_in x7 (hN (sI h q2 x7.toNatClampNeg (((hI h q2 x5.toNatClampNeg) + 1) + (10000 * x8))) q7) ∧ ∀ h13, h13 = (sI (sI h q2 x7.toNatClampNeg (((hI h q2 x5.toNatClampNeg) + 1) + (10000 * x8))) q7 x7.toNatClampNeg (1 &&& 1)) → ∃ q16, hR h13 a0 45 = some q16 ∧ Kd G h13 q16 14 ∧ vp_in (irm (x3 + x4) 1600) (hN h13 q16) ∧ Ex G d mX12_walks 83 [(0, .ref a0), (1, .int x1), (2, .int x2), (3, .int x3), (4, .int (x4 + 1)), (5, .int x5), (6, .int (x6 + 1))] [] (sI h13 q16 (irm (x3 + x4) 1600).toNatClampNeg x7) Q) ∧ (¬ (hI (sI h q2 x7.toNatClampNeg (((hI h q2 x5.toNatClampNeg) + 1) + (10000 * x8))) q7 x7.toNatClampNeg) = 0 → Ex G d mX12_walks 83 [(0, .ref a0), (1, .int x1), (2, .int x2), (3, .int x3), (4, .int x4), (5, .int x5), (6, .int (x6 + 1))] [] (sI h q2 x7.toNatClampNeg (((hI h q2 x5.toNatClampNeg) + 1) + (10000 * x8))) Q))
set_option maxRecDepth 20000 in
theorem t_X12_walks_165 {G : GG} {d : Nat} {h : HP} {Q : Option Value → HP → Prop} {a0 : Nat} {x1 : Int32} {x2 : Int32} {x3 : Int32} {x4 : Int32} {x5 : Int32} {x6 : Int32} {x7 : Int32} {x8 : Int32} (ht : T_X12_walks_165 G d h Q a0 x1 x2 x3 x4 x5 x6 x7 x8) : Ex G d mX12_walks 165 [(0, .ref a0), (1, .int x1), (2, .int x2), (3, .int x3), (4, .int x4), (5, .int x5), (6, .int x6), (7, .int x7), (8, .int x8)] [] h Q := by
  unfold T_X12_walks_165 at ht
  refine x_aload_n (pc2 := 166) 0 (n := 0) (x := a0) rfl dX12_walks_165 rfl ?_
  obtain ⟨k1, ht⟩ := ht
  obtain ⟨q2, e3, ht⟩ := ht
  refine y_getR (pc2 := 169) (κ := 12) (k := 44) fl_X12_57 (by decide) (by decide) k1 rfl e3 dX12_walks_166 rfl ?_
  refine x_iload (pc2 := 171) 7 (n := 7) (x := x7) rfl dX12_walks_169 rfl ?_
  refine x_aload_n (pc2 := 172) 0 (n := 0) (x := a0) rfl dX12_walks_171 rfl ?_
  refine y_getR (pc2 := 175) (κ := 12) (k := 44) fl_X12_57 (by decide) (by decide) k1 rfl e3 dX12_walks_172 rfl ?_
  refine x_iload (pc2 := 177) 5 (n := 5) (x := x5) rfl dX12_walks_175 rfl ?_
  obtain ⟨k4, ht⟩ := ht
  obtain ⟨b5, ht⟩ := ht
  refine x_iald (pc2 := 178) k4 b5 dX12_walks_177 rfl ?_
  refine x_iconst (pc2 := 179) (v := 1) (by decide) dX12_walks_178 rfl ?_
  refine x_iadd (pc2 := 180) dX12_walks_179 rfl ?_
  refine x_sipush (pc2 := 183) (v := 10000) (by decide) dX12_walks_180 rfl ?_
  refine x_iload (pc2 := 185) 8 (n := 8) (x := x8) rfl dX12_walks_183 rfl ?_
  refine x_imul (pc2 := 186) dX12_walks_185 rfl ?_
  refine x_iadd (pc2 := 187) dX12_walks_186 rfl ?_
  obtain ⟨b6, ht⟩ := ht
  refine x_iast (pc2 := 188) k4 b6 dX12_walks_187 rfl ?_
  refine x_aload_n (pc2 := 189) 0 (n := 0) (x := a0) rfl dX12_walks_188 rfl ?_
  obtain ⟨q7, e8, ht⟩ := ht
  refine y_getR (pc2 := 192) (κ := 12) (k := 46) fl_X12_63 (by decide) (by decide) k1.sI rfl e8 dX12_walks_189 rfl ?_
  refine x_iload (pc2 := 194) 7 (n := 7) (x := x7) rfl dX12_walks_192 rfl ?_
  obtain ⟨k9, ht⟩ := ht
  obtain ⟨b10, ht⟩ := ht
  refine x_zald (pc2 := 195) k9 b10 dX12_walks_194 rfl ?_
  refine x_if_eq (pc2 := 198) 201 dX12_walks_195 (by decide) rfl (fun c11 => ?_) (fun c11 => ?_)
  · replace ht := ht.1 c11
    refine x_aload_n (pc2 := 202) 0 (n := 0) (x := a0) rfl dX12_walks_201 rfl ?_
    refine y_getR (pc2 := 205) (κ := 12) (k := 46) fl_X12_63 (by decide) (by decide) k1.sI rfl e8 dX12_walks_202 rfl ?_
    refine x_iload (pc2 := 207) 7 (n := 7) (x := x7) rfl dX12_walks_205 rfl ?_
    refine x_iconst (pc2 := 208) (v := 1) (by decide) dX12_walks_207 rfl ?_
    obtain ⟨b12, ht⟩ := ht
    refine x_zast (pc2 := 209) k9 b12 dX12_walks_208 rfl ?_
    refine nm_I (fun h13 e14 p15 => ?_)
    replace ht := ht h13 e14
    refine x_aload_n (pc2 := 210) 0 (n := 0) (x := a0) rfl dX12_walks_209 rfl ?_
    obtain ⟨q16, e17, ht⟩ := ht
    refine y_getR (pc2 := 213) (κ := 12) (k := 45) fl_X12_60 (by decide) (by decide) (k1.sI.up p15) rfl e17 dX12_walks_210 rfl ?_
    refine x_iload_n (pc2 := 214) 3 (n := 3) (x := x3) rfl dX12_walks_213 rfl ?_
    refine x_iload (pc2 := 216) 4 (n := 4) (x := x4) rfl dX12_walks_214 rfl ?_
    refine x_iadd (pc2 := 217) dX12_walks_216 rfl ?_
    refine x_sipush (pc2 := 220) (v := 1600) (by decide) dX12_walks_217 rfl ?_
    refine y_irem (pc2 := 221) (by decide) dX12_walks_220 rfl ?_
    refine x_iload (pc2 := 223) 7 (n := 7) (x := x7) rfl dX12_walks_221 rfl ?_
    obtain ⟨k18, ht⟩ := ht
    obtain ⟨b19, ht⟩ := ht
    refine x_iast (pc2 := 224) k18 b19 dX12_walks_223 rfl ?_
    refine x_iinc (pc2 := 227) 4 [1, 2, 3, 4, 0, 5, 6, 7, 8] (i := 4) (x := x4) (v := (x4 + 1)) (lv2 := [(0, .ref a0), (1, .int x1), (2, .int x2), (3, .int x3), (4, .int (x4 + 1)), (5, .int x5), (6, .int x6), (7, .int x7), (8, .int x8)]) rfl (iinc_eq (by decide) _) (by decide) rfl dX12_walks_224 rfl ?_
    refine x_iinc (pc2 := 230) 6 [1, 2, 3, 4, 5, 6, 0, 7, 8] (i := 6) (x := x6) (v := (x6 + 1)) (lv2 := [(0, .ref a0), (1, .int x1), (2, .int x2), (3, .int x3), (4, .int (x4 + 1)), (5, .int x5), (6, .int (x6 + 1)), (7, .int x7), (8, .int x8)]) rfl (iinc_eq (by decide) _) (by decide) rfl dX12_walks_227 rfl ?_
    refine x_goto 83 dX12_walks_230 (by decide) ?_
    refine x_sub [0, 1, 2, 3, 4, 5, 6] (lv2 := [(0, .ref a0), (1, .int x1), (2, .int x2), (3, .int x3), (4, .int (x4 + 1)), (5, .int x5), (6, .int (x6 + 1))]) rfl ?_
    exact ht
  · replace ht := ht.2 c11
    refine x_goto 227 dX12_walks_198 (by decide) ?_
    refine x_iinc (pc2 := 230) 6 [1, 2, 3, 4, 5, 6, 0, 7, 8] (i := 6) (x := x6) (v := (x6 + 1)) (lv2 := [(0, .ref a0), (1, .int x1), (2, .int x2), (3, .int x3), (4, .int x4), (5, .int x5), (6, .int (x6 + 1)), (7, .int x7), (8, .int x8)]) rfl (iinc_eq (by decide) _) (by decide) rfl dX12_walks_227 rfl ?_
    refine x_goto 83 dX12_walks_230 (by decide) ?_
    refine x_sub [0, 1, 2, 3, 4, 5, 6] (lv2 := [(0, .ref a0), (1, .int x1), (2, .int x2), (3, .int x3), (4, .int x4), (5, .int x5), (6, .int (x6 + 1))]) rfl ?_
    exact ht
def T_X12_wayOf (G : GG) (d : Nat) (h : HP) (Q : Option Value → HP → Prop) (a0 : Nat) (x1 : Int32) (x2 : Int32) (x3 : Int32) (x4 : Int32) (x5 : Int32) : Prop :=
  Kd G h a0 12 ∧ Cal G (d - 1) mX12_isInLand [.ref a0, .int x2, .int x3] h (fun r1 h2 => ∃ v5, r1 = some (.int v5) ∧ ((v5 = 0 → Q (some (.int (-1))) h2) ∧ (¬ v5 = 0 → Cal G (d - 1) mX12_isInLand [.ref a0, .int x4, .int x5] h2 (fun r7 h8 => ∃ v10, r7 = some (.int v10) ∧ ((v10 = 0 → Q (some (.int (-1))) h8) ∧ (¬ v10 = 0 → Cal G (d - 1) mX12_isRiver [.ref a0, .int x2, .int x3] h8 (fun r12 h13 => ∃ v15, r12 = some (.int v15) ∧ ((¬ v15 = 0 → Q (some (.int (-1))) h13) ∧ (v15 = 0 → Cal G (d - 1) mX12_isRiver [.ref a0, .int x4, .int x5] h13 (fun r17 h18 => ∃ v20, r17 = some (.int v20) ∧ ((v20 = 0 → Cal G (d - 1) mX12_walks [.ref a0, .int x1, .int ((40 * x3) + x2)] h18 (fun r22 h23 => r22 = none ∧ ∃ q25, hR h23 a0 44 = some q25 ∧ Kd G h23 q25 14 ∧ vp_in ((40 * x5) + x4) (hN h23 q25) ∧ Q (some (.int (hI h23 q25 ((40 * x5) + x4).toNatClampNeg))) h23)) ∧ (¬ v20 = 0 → Q (some (.int (-1))) h18))))))))))))
set_option maxRecDepth 20000 in
theorem t_X12_wayOf {G : GG} {d : Nat} {h : HP} {Q : Option Value → HP → Prop} {a0 : Nat} {x1 : Int32} {x2 : Int32} {x3 : Int32} {x4 : Int32} {x5 : Int32} (hd1 : 1 ≤ d) (ht : T_X12_wayOf G d h Q a0 x1 x2 x3 x4 x5) : Ex G d mX12_wayOf 0 [(0, .ref a0), (1, .int x1), (2, .int x2), (3, .int x3), (4, .int x4), (5, .int x5)] [] h Q := by
  unfold T_X12_wayOf at ht
  refine x_aload_n (pc2 := 1) 0 (n := 0) (x := a0) rfl dX12_wayOf_0 rfl ?_
  refine x_iload_n (pc2 := 2) 2 (n := 2) (x := x2) rfl dX12_wayOf_1 rfl ?_
  refine x_iload_n (pc2 := 3) 3 (n := 3) (x := x3) rfl dX12_wayOf_2 rfl ?_
  obtain ⟨k4, ht⟩ := ht
  refine x_callV (pc2 := 6) (As := [.int x2, .int x3]) (rest := []) (b := a0) mv_X12_isInLand ml_X12_452 k4 rfl rfl (Nat.le_of_ble_eq_true rfl) hd1 dX12_wayOf_3 rfl (ht.mono (fun r1 h2 p3 ht' => ?_))
  clear ht
  obtain ⟨v5, rfl, ht⟩ := ht'
  show Ex G d mX12_wayOf 6 [(0, .ref a0), (1, .int x1), (2, .int x2), (3, .int x3), (4, .int x4), (5, .int x5)] [.int v5] h2 Q
  refine x_if_eq (pc2 := 9) 40 dX12_wayOf_6 (by decide) rfl (fun c6 => ?_) (fun c6 => ?_)
  · replace ht := ht.1 c6
    refine x_iconst (pc2 := 41) (v := (-1)) (by decide) dX12_wayOf_40 rfl ?_
    exact x_ret (ty := .int) rfl rfl dX12_wayOf_41 ht
  · replace ht := ht.2 c6
    refine x_aload_n (pc2 := 10) 0 (n := 0) (x := a0) rfl dX12_wayOf_9 rfl ?_
    refine x_iload (pc2 := 12) 4 (n := 4) (x := x4) rfl dX12_wayOf_10 rfl ?_
    refine x_iload (pc2 := 14) 5 (n := 5) (x := x5) rfl dX12_wayOf_12 rfl ?_
    refine x_callV (pc2 := 17) (As := [.int x4, .int x5]) (rest := []) (b := a0) mv_X12_isInLand ml_X12_452 (k4.up p3) rfl rfl (Nat.le_of_ble_eq_true rfl) hd1 dX12_wayOf_14 rfl (ht.mono (fun r7 h8 p9 ht' => ?_))
    clear ht
    obtain ⟨v10, rfl, ht⟩ := ht'
    show Ex G d mX12_wayOf 17 [(0, .ref a0), (1, .int x1), (2, .int x2), (3, .int x3), (4, .int x4), (5, .int x5)] [.int v10] h8 Q
    refine x_if_eq (pc2 := 20) 40 dX12_wayOf_17 (by decide) rfl (fun c11 => ?_) (fun c11 => ?_)
    · replace ht := ht.1 c11
      refine x_iconst (pc2 := 41) (v := (-1)) (by decide) dX12_wayOf_40 rfl ?_
      exact x_ret (ty := .int) rfl rfl dX12_wayOf_41 ht
    · replace ht := ht.2 c11
      refine x_aload_n (pc2 := 21) 0 (n := 0) (x := a0) rfl dX12_wayOf_20 rfl ?_
      refine x_iload_n (pc2 := 22) 2 (n := 2) (x := x2) rfl dX12_wayOf_21 rfl ?_
      refine x_iload_n (pc2 := 23) 3 (n := 3) (x := x3) rfl dX12_wayOf_22 rfl ?_
      refine x_callV (pc2 := 26) (As := [.int x2, .int x3]) (rest := []) (b := a0) mv_X12_isRiver ml_X12_373 ((k4.up p3).up p9) rfl rfl (Nat.le_of_ble_eq_true rfl) hd1 dX12_wayOf_23 rfl (ht.mono (fun r12 h13 p14 ht' => ?_))
      clear ht
      obtain ⟨v15, rfl, ht⟩ := ht'
      show Ex G d mX12_wayOf 26 [(0, .ref a0), (1, .int x1), (2, .int x2), (3, .int x3), (4, .int x4), (5, .int x5)] [.int v15] h13 Q
      refine y_if_ne (pc2 := 29) 40 dX12_wayOf_26 (by decide) rfl (fun c16 => ?_) (fun c16 => ?_)
      · replace ht := ht.1 c16
        refine x_iconst (pc2 := 41) (v := (-1)) (by decide) dX12_wayOf_40 rfl ?_
        exact x_ret (ty := .int) rfl rfl dX12_wayOf_41 ht
      · replace ht := ht.2 c16
        refine x_aload_n (pc2 := 30) 0 (n := 0) (x := a0) rfl dX12_wayOf_29 rfl ?_
        refine x_iload (pc2 := 32) 4 (n := 4) (x := x4) rfl dX12_wayOf_30 rfl ?_
        refine x_iload (pc2 := 34) 5 (n := 5) (x := x5) rfl dX12_wayOf_32 rfl ?_
        refine x_callV (pc2 := 37) (As := [.int x4, .int x5]) (rest := []) (b := a0) mv_X12_isRiver ml_X12_373 (((k4.up p3).up p9).up p14) rfl rfl (Nat.le_of_ble_eq_true rfl) hd1 dX12_wayOf_34 rfl (ht.mono (fun r17 h18 p19 ht' => ?_))
        clear ht
        obtain ⟨v20, rfl, ht⟩ := ht'
        show Ex G d mX12_wayOf 37 [(0, .ref a0), (1, .int x1), (2, .int x2), (3, .int x3), (4, .int x4), (5, .int x5)] [.int v20] h18 Q
        refine x_if_eq (pc2 := 40) 42 dX12_wayOf_37 (by decide) rfl (fun c21 => ?_) (fun c21 => ?_)
        · replace ht := ht.1 c21
          refine x_aload_n (pc2 := 43) 0 (n := 0) (x := a0) rfl dX12_wayOf_42 rfl ?_
          refine x_iload_n (pc2 := 44) 1 (n := 1) (x := x1) rfl dX12_wayOf_43 rfl ?_
          refine x_bipush (pc2 := 46) (v := 40) (by decide) dX12_wayOf_44 rfl ?_
          refine x_iload_n (pc2 := 47) 3 (n := 3) (x := x3) rfl dX12_wayOf_46 rfl ?_
          refine x_imul (pc2 := 48) dX12_wayOf_47 rfl ?_
          refine x_iload_n (pc2 := 49) 2 (n := 2) (x := x2) rfl dX12_wayOf_48 rfl ?_
          refine x_iadd (pc2 := 50) dX12_wayOf_49 rfl ?_
          refine x_callV (pc2 := 53) (As := [.int x1, .int ((40 * x3) + x2)]) (rest := []) (b := a0) mv_X12_walks ml_X12_523 ((((k4.up p3).up p9).up p14).up p19) rfl rfl (Nat.le_of_ble_eq_true rfl) hd1 dX12_wayOf_50 rfl (ht.mono (fun r22 h23 p24 ht' => ?_))
          clear ht
          obtain ⟨rfl, ht⟩ := ht'
          show Ex G d mX12_wayOf 53 [(0, .ref a0), (1, .int x1), (2, .int x2), (3, .int x3), (4, .int x4), (5, .int x5)] [] h23 Q
          refine x_aload_n (pc2 := 54) 0 (n := 0) (x := a0) rfl dX12_wayOf_53 rfl ?_
          obtain ⟨q25, e26, ht⟩ := ht
          refine y_getR (pc2 := 57) (κ := 12) (k := 44) fl_X12_57 (by decide) (by decide) (((((k4.up p3).up p9).up p14).up p19).up p24) rfl e26 dX12_wayOf_54 rfl ?_
          refine x_bipush (pc2 := 59) (v := 40) (by decide) dX12_wayOf_57 rfl ?_
          refine x_iload (pc2 := 61) 5 (n := 5) (x := x5) rfl dX12_wayOf_59 rfl ?_
          refine x_imul (pc2 := 62) dX12_wayOf_61 rfl ?_
          refine x_iload (pc2 := 64) 4 (n := 4) (x := x4) rfl dX12_wayOf_62 rfl ?_
          refine x_iadd (pc2 := 65) dX12_wayOf_64 rfl ?_
          obtain ⟨k27, ht⟩ := ht
          obtain ⟨b28, ht⟩ := ht
          refine x_iald (pc2 := 66) k27 b28 dX12_wayOf_65 rfl ?_
          exact x_ret (ty := .int) rfl rfl dX12_wayOf_66 ht
        · replace ht := ht.2 c21
          refine x_iconst (pc2 := 41) (v := (-1)) (by decide) dX12_wayOf_40 rfl ?_
          exact x_ret (ty := .int) rfl rfl dX12_wayOf_41 ht
theorem e_X12_wayOf {G : GG} {d : Nat} {h : HP} {Q : Option Value → HP → Prop} {a0 : Nat} {x1 : Int32} {x2 : Int32} {x3 : Int32} {x4 : Int32} {x5 : Int32} (hd1 : 1 ≤ d) (ht : T_X12_wayOf G d h Q a0 x1 x2 x3 x4 x5) : Cal G d mX12_wayOf [.ref a0, .int x1, .int x2, .int x3, .int x4, .int x5] h Q := cal_of rfl (Nat.le_of_ble_eq_true rfl) (t_X12_wayOf hd1 ht)
def T_X12_asks (G : GG) (d : Nat) (h : HP) (Q : Option Value → HP → Prop) (a0 : Nat) (x1 : Int32) (x2 : Int32) (x3 : Int32) : Prop :=
  Ex G d mX12_asks 6 [(0, .ref a0), (1, .int x1), (2, .int x2), (3, .int x3), (4, .int 0), (5, .int x3)] [] h Q
set_option maxRecDepth 20000 in
theorem t_X12_asks {G : GG} {d : Nat} {h : HP} {Q : Option Value → HP → Prop} {a0 : Nat} {x1 : Int32} {x2 : Int32} {x3 : Int32} (ht : T_X12_asks G d h Q a0 x1 x2 x3) : Ex G d mX12_asks 0 [(0, .ref a0), (1, .int x1), (2, .int x2), (3, .int x3)] [] h Q := by
  unfold T_X12_asks at ht
  refine x_iconst (pc2 := 1) (v := 0) (by decide) dX12_asks_0 rfl ?_
  refine x_istore (pc2 := 3) [1, 2, 3, 4, 0] (n := 4) (x := 0) (lv2 := [(0, .ref a0), (1, .int x1), (2, .int x2), (3, .int x3), (4, .int 0)]) (by decide) rfl dX12_asks_1 rfl ?_
  refine x_iload_n (pc2 := 4) 3 (n := 3) (x := x3) rfl dX12_asks_3 rfl ?_
  refine x_istore (pc2 := 6) [1, 2, 3, 4, 5, 0] (n := 5) (x := x3) (lv2 := [(0, .ref a0), (1, .int x1), (2, .int x2), (3, .int x3), (4, .int 0), (5, .int x3)]) (by decide) rfl dX12_asks_4 rfl ?_
  exact ht
theorem e_X12_asks {G : GG} {d : Nat} {h : HP} {Q : Option Value → HP → Prop} {a0 : Nat} {x1 : Int32} {x2 : Int32} {x3 : Int32} (ht : T_X12_asks G d h Q a0 x1 x2 x3) : Cal G d mX12_asks [.ref a0, .int x1, .int x2, .int x3] h Q := cal_of rfl (Nat.le_of_ble_eq_true rfl) (t_X12_asks ht)
def T_X12_asks_6 (G : GG) (d : Nat) (h : HP) (Q : Option Value → HP → Prop) (a0 : Nat) (x1 : Int32) (x2 : Int32) (x3 : Int32) (x4 : Int32) (x5 : Int32) : Prop :=
  ((x5 = x2 → Q (some (.int x4)) h) ∧ (¬ x5 = x2 → Ex G d mX12_asks 18 [(0, .ref a0), (1, .int x1), (2, .int x2), (3, .int x3), (4, .int x4), (5, .int x5), (6, .int (-1)), (7, .int 0)] [] h Q))
set_option maxRecDepth 20000 in
theorem t_X12_asks_6 {G : GG} {d : Nat} {h : HP} {Q : Option Value → HP → Prop} {a0 : Nat} {x1 : Int32} {x2 : Int32} {x3 : Int32} {x4 : Int32} {x5 : Int32} (ht : T_X12_asks_6 G d h Q a0 x1 x2 x3 x4 x5) : Ex G d mX12_asks 6 [(0, .ref a0), (1, .int x1), (2, .int x2), (3, .int x3), (4, .int x4), (5, .int x5)] [] h Q := by
  unfold T_X12_asks_6 at ht
  refine x_iload (pc2 := 8) 5 (n := 5) (x := x5) rfl dX12_asks_6 rfl ?_
  refine x_iload_n (pc2 := 9) 2 (n := 2) (x := x2) rfl dX12_asks_8 rfl ?_
  refine x_icmp_eq (pc2 := 12) 147 dX12_asks_9 (by decide) rfl (fun c1 => ?_) (fun c1 => ?_)
  · replace ht := ht.1 c1
    refine x_iload (pc2 := 149) 4 (n := 4) (x := x4) rfl dX12_asks_147 rfl ?_
    exact x_ret (ty := .int) rfl rfl dX12_asks_149 ht
  · replace ht := ht.2 c1
    refine x_iconst (pc2 := 13) (v := (-1)) (by decide) dX12_asks_12 rfl ?_
    refine x_istore (pc2 := 15) [1, 2, 3, 4, 5, 6, 0] (n := 6) (x := (-1)) (lv2 := [(0, .ref a0), (1, .int x1), (2, .int x2), (3, .int x3), (4, .int x4), (5, .int x5), (6, .int (-1))]) (by decide) rfl dX12_asks_13 rfl ?_
    refine x_iconst (pc2 := 16) (v := 0) (by decide) dX12_asks_15 rfl ?_
    refine x_istore (pc2 := 18) [1, 2, 3, 4, 5, 6, 7, 0] (n := 7) (x := 0) (lv2 := [(0, .ref a0), (1, .int x1), (2, .int x2), (3, .int x3), (4, .int x4), (5, .int x5), (6, .int (-1)), (7, .int 0)]) (by decide) rfl dX12_asks_16 rfl ?_
    exact ht
def T_X12_asks_18 (G : GG) (d : Nat) (h : HP) (Q : Option Value → HP → Prop) (a0 : Nat) (x1 : Int32) (x2 : Int32) (x3 : Int32) (x4 : Int32) (x5 : Int32) (x6 : Int32) (x7 : Int32) : Prop :=
  ((4 ≤ x7 → Ex G d mX12_asks 6 [(0, .ref a0), (1, .int x1), (2, .int x2), (3, .int x3), (4, .int x4), (5, .int x6)] [] h Q) ∧ (¬ 4 ≤ x7 → ((0 ≤ x6 → Ex G d mX12_asks 6 [(0, .ref a0), (1, .int x1), (2, .int x2), (3, .int x3), (4, .int x4), (5, .int x6)] [] h Q) ∧ (¬ 0 ≤ x6 → Kd G h a0 12 ∧ Cal G (d - 1) mX12_beside [.ref a0, .int x5, .int x7] h (fun r3 h4 => ∃ v7, r3 = some (.int v7) ∧ ((v7 < 0 → Ex G d mX12_asks 18 [(0, .ref a0), (1, .int x1), (2, .int x2), (3, .int x3), (4, .int x4), (5, .int x5), (6, .int x6), (7, .int (x7 + 1))] [] h4 Q) ∧ (¬ v7 < 0 → ∃ q9, hR h4 a0 44 = some q9 ∧ Kd G h4 q9 14 ∧ vp_in v7 (hN h4 q9) ∧ ((0 ≤ (hI h4 q9 v7.toNatClampNeg) → Cal G (d - 1) mX12_tollOf [.ref a0, .int x1, .int x5, .int v7, .int x7] h4 (fun r14 h15 => ∃ v17, r14 = some (.int v17) ∧ ((v17 = (-1) → Ex G d mX12_asks 18 [(0, .ref a0), (1, .int x1), (2, .int x2), (3, .int x3), (4, .int x4), (5, .int x5), (6, .int x6), (7, .int (x7 + 1))] [] h15 Q) ∧ (¬ v17 = (-1) → ∃ q19, hR h15 a0 44 = some q19 ∧ Kd G h15 q19 14 ∧ vp_in v7 (hN h15 q19) ∧ vp_in x5 (hN h15 q19) ∧ (((((hI h15 q19 v7.toNatClampNeg) + 1) + (10000 * v17)) = (hI h15 q19 x5.toNatClampNeg) → ((v17 ≤ 0 → Ex G d mX12_asks 18 [(0, .ref a0), (1, .int x1), (2, .int x2), (3, .int x3), (4, .int x4), (5, .int x5), (6, .int v7), (7, .int (x7 + 1))] [] h15 Q) ∧ (¬ v17 ≤ 0 → Cal G (d - 1) mX12_lineBetween [.ref a0, .int x5, .int v7] h15 (fun r26 h27 => ∃ v29, r26 = some (.int v29) ∧ Cal G (d - 1) mX12_of [.ref a0, .int v29, .int 5] h27 (fun r30 h31 => ∃ v33, r30 = some (.int v33) ∧ Ex G d mX12_asks 18 [(0, .ref a0), (1, .int x1), (2, .int x2), (3, .int x3), (4, .int (x4 ||| (1 <<< (v33 &&& 31)))), (5, .int x5), (6, .int v7), (7, .int (x7 + 1))] [] h31 Q))))) ∧ (¬ (((hI h15 q19 v7.toNatClampNeg) + 1) + (10000 * v17)) = (hI h15 q19 x5.toNatClampNeg) → Ex G d mX12_asks 18 [(0, .ref a0), (1, .int x1), (2, .int x2), (3, .int x3), (4, .int x4), (5, .int x5), (6, .int x6), (7, .int (x7 + 1))] [] h15 Q)))))) ∧ (¬ 0 ≤ (hI h4 q9 v7.toNatClampNeg) → Ex G d mX12_asks 18 [(0, .ref a0), (1, .int x1), (2, .int x2), (3, .int x3), (4, .int x4), (5, .int x5), (6, .int x6), (7, .int (x7 + 1))] [] h4 Q)))))))))
set_option maxRecDepth 20000 in
theorem t_X12_asks_18 {G : GG} {d : Nat} {h : HP} {Q : Option Value → HP → Prop} {a0 : Nat} {x1 : Int32} {x2 : Int32} {x3 : Int32} {x4 : Int32} {x5 : Int32} {x6 : Int32} {x7 : Int32} (hd1 : 1 ≤ d) (ht : T_X12_asks_18 G d h Q a0 x1 x2 x3 x4 x5 x6 x7) : Ex G d mX12_asks 18 [(0, .ref a0), (1, .int x1), (2, .int x2), (3, .int x3), (4, .int x4), (5, .int x5), (6, .int x6), (7, .int x7)] [] h Q := by
  unfold T_X12_asks_18 at ht
  refine x_iload (pc2 := 20) 7 (n := 7) (x := x7) rfl dX12_asks_18 rfl ?_
  refine x_iconst (pc2 := 21) (v := 4) (by decide) dX12_asks_20 rfl ?_
  refine x_icmp_ge (pc2 := 24) 140 dX12_asks_21 (by decide) rfl (fun c1 => ?_) (fun c1 => ?_)
  · replace ht := ht.1 c1
    refine x_iload (pc2 := 142) 6 (n := 6) (x := x6) rfl dX12_asks_140 rfl ?_
    refine x_istore (pc2 := 144) [1, 2, 3, 4, 5, 0, 6, 7] (n := 5) (x := x6) (lv2 := [(0, .ref a0), (1, .int x1), (2, .int x2), (3, .int x3), (4, .int x4), (5, .int x6), (6, .int x6), (7, .int x7)]) (by decide) rfl dX12_asks_142 rfl ?_
    refine x_goto 6 dX12_asks_144 (by decide) ?_
    refine x_sub [0, 1, 2, 3, 4, 5] (lv2 := [(0, .ref a0), (1, .int x1), (2, .int x2), (3, .int x3), (4, .int x4), (5, .int x6)]) rfl ?_
    exact ht
  · replace ht := ht.2 c1
    refine x_iload (pc2 := 26) 6 (n := 6) (x := x6) rfl dX12_asks_24 rfl ?_
    refine x_if_ge (pc2 := 29) 140 dX12_asks_26 (by decide) rfl (fun c2 => ?_) (fun c2 => ?_)
    · replace ht := ht.1 c2
      refine x_iload (pc2 := 142) 6 (n := 6) (x := x6) rfl dX12_asks_140 rfl ?_
      refine x_istore (pc2 := 144) [1, 2, 3, 4, 5, 0, 6, 7] (n := 5) (x := x6) (lv2 := [(0, .ref a0), (1, .int x1), (2, .int x2), (3, .int x3), (4, .int x4), (5, .int x6), (6, .int x6), (7, .int x7)]) (by decide) rfl dX12_asks_142 rfl ?_
      refine x_goto 6 dX12_asks_144 (by decide) ?_
      refine x_sub [0, 1, 2, 3, 4, 5] (lv2 := [(0, .ref a0), (1, .int x1), (2, .int x2), (3, .int x3), (4, .int x4), (5, .int x6)]) rfl ?_
      exact ht
    · replace ht := ht.2 c2
      refine x_aload_n (pc2 := 30) 0 (n := 0) (x := a0) rfl dX12_asks_29 rfl ?_
      refine x_iload (pc2 := 32) 5 (n := 5) (x := x5) rfl dX12_asks_30 rfl ?_
      refine x_iload (pc2 := 34) 7 (n := 7) (x := x7) rfl dX12_asks_32 rfl ?_
      obtain ⟨k6, ht⟩ := ht
      refine x_callV (pc2 := 37) (As := [.int x5, .int x7]) (rest := []) (b := a0) mv_X12_beside ml_X12_516 k6 rfl rfl (Nat.le_of_ble_eq_true rfl) hd1 dX12_asks_34 rfl (ht.mono (fun r3 h4 p5 ht' => ?_))
      clear ht
      obtain ⟨v7, rfl, ht⟩ := ht'
      show Ex G d mX12_asks 37 [(0, .ref a0), (1, .int x1), (2, .int x2), (3, .int x3), (4, .int x4), (5, .int x5), (6, .int x6), (7, .int x7)] [.int v7] h4 Q
      refine x_istore (pc2 := 39) [1, 2, 3, 4, 5, 6, 7, 8, 0] (n := 8) (x := v7) (lv2 := [(0, .ref a0), (1, .int x1), (2, .int x2), (3, .int x3), (4, .int x4), (5, .int x5), (6, .int x6), (7, .int x7), (8, .int v7)]) (by decide) rfl dX12_asks_37 rfl ?_
      refine x_iload (pc2 := 41) 8 (n := 8) (x := v7) rfl dX12_asks_39 rfl ?_
      refine x_if_lt (pc2 := 44) 134 dX12_asks_41 (by decide) rfl (fun c8 => ?_) (fun c8 => ?_)
      · replace ht := ht.1 c8
        refine x_iinc (pc2 := 137) 7 [1, 2, 3, 4, 5, 6, 7, 0, 8] (i := 7) (x := x7) (v := (x7 + 1)) (lv2 := [(0, .ref a0), (1, .int x1), (2, .int x2), (3, .int x3), (4, .int x4), (5, .int x5), (6, .int x6), (7, .int (x7 + 1)), (8, .int v7)]) rfl (iinc_eq (by decide) _) (by decide) rfl dX12_asks_134 rfl ?_
        refine x_goto 18 dX12_asks_137 (by decide) ?_
        refine x_sub [0, 1, 2, 3, 4, 5, 6, 7] (lv2 := [(0, .ref a0), (1, .int x1), (2, .int x2), (3, .int x3), (4, .int x4), (5, .int x5), (6, .int x6), (7, .int (x7 + 1))]) rfl ?_
        exact ht
      · replace ht := ht.2 c8
        refine x_aload_n (pc2 := 45) 0 (n := 0) (x := a0) rfl dX12_asks_44 rfl ?_
        obtain ⟨q9, e10, ht⟩ := ht
        refine y_getR (pc2 := 48) (κ := 12) (k := 44) fl_X12_57 (by decide) (by decide) (k6.up p5) rfl e10 dX12_asks_45 rfl ?_
        refine x_iload (pc2 := 50) 8 (n := 8) (x := v7) rfl dX12_asks_48 rfl ?_
        obtain ⟨k11, ht⟩ := ht
        obtain ⟨b12, ht⟩ := ht
        refine x_iald (pc2 := 51) k11 b12 dX12_asks_50 rfl ?_
        refine x_if_ge (pc2 := 54) 57 dX12_asks_51 (by decide) rfl (fun c13 => ?_) (fun c13 => ?_)
        · replace ht := ht.1 c13
          refine x_aload_n (pc2 := 58) 0 (n := 0) (x := a0) rfl dX12_asks_57 rfl ?_
          refine x_iload_n (pc2 := 59) 1 (n := 1) (x := x1) rfl dX12_asks_58 rfl ?_
          refine x_iload (pc2 := 61) 5 (n := 5) (x := x5) rfl dX12_asks_59 rfl ?_
          refine x_iload (pc2 := 63) 8 (n := 8) (x := v7) rfl dX12_asks_61 rfl ?_
          refine x_iload (pc2 := 65) 7 (n := 7) (x := x7) rfl dX12_asks_63 rfl ?_
          refine x_callV (pc2 := 68) (As := [.int x1, .int x5, .int v7, .int x7]) (rest := []) (b := a0) mv_X12_tollOf ml_X12_519 (k6.up p5) rfl rfl (Nat.le_of_ble_eq_true rfl) hd1 dX12_asks_65 rfl (ht.mono (fun r14 h15 p16 ht' => ?_))
          clear ht
          obtain ⟨v17, rfl, ht⟩ := ht'
          show Ex G d mX12_asks 68 [(0, .ref a0), (1, .int x1), (2, .int x2), (3, .int x3), (4, .int x4), (5, .int x5), (6, .int x6), (7, .int x7), (8, .int v7)] [.int v17] h15 Q
          refine x_istore (pc2 := 70) [1, 2, 3, 4, 5, 6, 7, 8, 9, 0] (n := 9) (x := v17) (lv2 := [(0, .ref a0), (1, .int x1), (2, .int x2), (3, .int x3), (4, .int x4), (5, .int x5), (6, .int x6), (7, .int x7), (8, .int v7), (9, .int v17)]) (by decide) rfl dX12_asks_68 rfl ?_
          refine x_iload (pc2 := 72) 9 (n := 9) (x := v17) rfl dX12_asks_70 rfl ?_
          refine x_iconst (pc2 := 73) (v := (-1)) (by decide) dX12_asks_72 rfl ?_
          refine x_icmp_eq (pc2 := 76) 134 dX12_asks_73 (by decide) rfl (fun c18 => ?_) (fun c18 => ?_)
          · replace ht := ht.1 c18
            refine x_iinc (pc2 := 137) 7 [1, 2, 3, 4, 5, 6, 7, 0, 8, 9] (i := 7) (x := x7) (v := (x7 + 1)) (lv2 := [(0, .ref a0), (1, .int x1), (2, .int x2), (3, .int x3), (4, .int x4), (5, .int x5), (6, .int x6), (7, .int (x7 + 1)), (8, .int v7), (9, .int v17)]) rfl (iinc_eq (by decide) _) (by decide) rfl dX12_asks_134 rfl ?_
            refine x_goto 18 dX12_asks_137 (by decide) ?_
            refine x_sub [0, 1, 2, 3, 4, 5, 6, 7] (lv2 := [(0, .ref a0), (1, .int x1), (2, .int x2), (3, .int x3), (4, .int x4), (5, .int x5), (6, .int x6), (7, .int (x7 + 1))]) rfl ?_
            exact ht
          · replace ht := ht.2 c18
            refine x_aload_n (pc2 := 77) 0 (n := 0) (x := a0) rfl dX12_asks_76 rfl ?_
            obtain ⟨q19, e20, ht⟩ := ht
            refine y_getR (pc2 := 80) (κ := 12) (k := 44) fl_X12_57 (by decide) (by decide) ((k6.up p5).up p16) rfl e20 dX12_asks_77 rfl ?_
            refine x_iload (pc2 := 82) 8 (n := 8) (x := v7) rfl dX12_asks_80 rfl ?_
            obtain ⟨k21, ht⟩ := ht
            obtain ⟨b22, ht⟩ := ht
            refine x_iald (pc2 := 83) k21 b22 dX12_asks_82 rfl ?_
            refine x_iconst (pc2 := 84) (v := 1) (by decide) dX12_asks_83 rfl ?_
            refine x_iadd (pc2 := 85) dX12_asks_84 rfl ?_
            refine x_sipush (pc2 := 88) (v := 10000) (by decide) dX12_asks_85 rfl ?_
            refine x_iload (pc2 := 90) 9 (n := 9) (x := v17) rfl dX12_asks_88 rfl ?_
            refine x_imul (pc2 := 91) dX12_asks_90 rfl ?_
            refine x_iadd (pc2 := 92) dX12_asks_91 rfl ?_
            refine x_aload_n (pc2 := 93) 0 (n := 0) (x := a0) rfl dX12_asks_92 rfl ?_
            refine y_getR (pc2 := 96) (κ := 12) (k := 44) fl_X12_57 (by decide) (by decide) ((k6.up p5).up p16) rfl e20 dX12_asks_93 rfl ?_
            refine x_iload (pc2 := 98) 5 (n := 5) (x := x5) rfl dX12_asks_96 rfl ?_
            obtain ⟨b23, ht⟩ := ht
            refine x_iald (pc2 := 99) k21 b23 dX12_asks_98 rfl ?_
            refine x_icmp_eq (pc2 := 102) 105 dX12_asks_99 (by decide) rfl (fun c24 => ?_) (fun c24 => ?_)
            · replace ht := ht.1 c24
              refine x_iload (pc2 := 107) 9 (n := 9) (x := v17) rfl dX12_asks_105 rfl ?_
              refine x_if_le (pc2 := 110) 130 dX12_asks_107 (by decide) rfl (fun c25 => ?_) (fun c25 => ?_)
              · replace ht := ht.1 c25
                refine x_iload (pc2 := 132) 8 (n := 8) (x := v7) rfl dX12_asks_130 rfl ?_
                refine x_istore (pc2 := 134) [1, 2, 3, 4, 5, 6, 0, 7, 8, 9] (n := 6) (x := v7) (lv2 := [(0, .ref a0), (1, .int x1), (2, .int x2), (3, .int x3), (4, .int x4), (5, .int x5), (6, .int v7), (7, .int x7), (8, .int v7), (9, .int v17)]) (by decide) rfl dX12_asks_132 rfl ?_
                refine x_iinc (pc2 := 137) 7 [1, 2, 3, 4, 5, 6, 7, 0, 8, 9] (i := 7) (x := x7) (v := (x7 + 1)) (lv2 := [(0, .ref a0), (1, .int x1), (2, .int x2), (3, .int x3), (4, .int x4), (5, .int x5), (6, .int v7), (7, .int (x7 + 1)), (8, .int v7), (9, .int v17)]) rfl (iinc_eq (by decide) _) (by decide) rfl dX12_asks_134 rfl ?_
                refine x_goto 18 dX12_asks_137 (by decide) ?_
                refine x_sub [0, 1, 2, 3, 4, 5, 6, 7] (lv2 := [(0, .ref a0), (1, .int x1), (2, .int x2), (3, .int x3), (4, .int x4), (5, .int x5), (6, .int v7), (7, .int (x7 + 1))]) rfl ?_
                exact ht
              · replace ht := ht.2 c25
                refine x_iload (pc2 := 112) 4 (n := 4) (x := x4) rfl dX12_asks_110 rfl ?_
                refine x_iconst (pc2 := 113) (v := 1) (by decide) dX12_asks_112 rfl ?_
                refine x_aload_n (pc2 := 114) 0 (n := 0) (x := a0) rfl dX12_asks_113 rfl ?_
                refine x_aload_n (pc2 := 115) 0 (n := 0) (x := a0) rfl dX12_asks_114 rfl ?_
                refine x_iload (pc2 := 117) 5 (n := 5) (x := x5) rfl dX12_asks_115 rfl ?_
                refine x_iload (pc2 := 119) 8 (n := 8) (x := v7) rfl dX12_asks_117 rfl ?_
                refine x_callV (pc2 := 122) (As := [.int x5, .int v7]) (rest := [.ref a0, .int 1, .int x4]) (b := a0) mv_X12_lineBetween ml_X12_513 ((k6.up p5).up p16) rfl rfl (Nat.le_of_ble_eq_true rfl) hd1 dX12_asks_119 rfl (ht.mono (fun r26 h27 p28 ht' => ?_))
                clear ht
                obtain ⟨v29, rfl, ht⟩ := ht'
                show Ex G d mX12_asks 122 [(0, .ref a0), (1, .int x1), (2, .int x2), (3, .int x3), (4, .int x4), (5, .int x5), (6, .int x6), (7, .int x7), (8, .int v7), (9, .int v17)] [.int v29, .ref a0, .int 1, .int x4] h27 Q
                refine x_iconst (pc2 := 123) (v := 5) (by decide) dX12_asks_122 rfl ?_
                refine x_callV (pc2 := 126) (As := [.int v29, .int 5]) (rest := [.int 1, .int x4]) (b := a0) mv_X12_of ml_X12_310 (((k6.up p5).up p16).up p28) rfl rfl (Nat.le_of_ble_eq_true rfl) hd1 dX12_asks_123 rfl (ht.mono (fun r30 h31 p32 ht' => ?_))
                clear ht
                obtain ⟨v33, rfl, ht⟩ := ht'
                show Ex G d mX12_asks 126 [(0, .ref a0), (1, .int x1), (2, .int x2), (3, .int x3), (4, .int x4), (5, .int x5), (6, .int x6), (7, .int x7), (8, .int v7), (9, .int v17)] [.int v33, .int 1, .int x4] h31 Q
                refine x_ishl (pc2 := 127) dX12_asks_126 rfl ?_
                refine x_ior (pc2 := 128) dX12_asks_127 rfl ?_
                refine x_istore (pc2 := 130) [1, 2, 3, 4, 0, 5, 6, 7, 8, 9] (n := 4) (x := (x4 ||| (1 <<< (v33 &&& 31)))) (lv2 := [(0, .ref a0), (1, .int x1), (2, .int x2), (3, .int x3), (4, .int (x4 ||| (1 <<< (v33 &&& 31)))), (5, .int x5), (6, .int x6), (7, .int x7), (8, .int v7), (9, .int v17)]) (by decide) rfl dX12_asks_128 rfl ?_
                refine x_iload (pc2 := 132) 8 (n := 8) (x := v7) rfl dX12_asks_130 rfl ?_
                refine x_istore (pc2 := 134) [1, 2, 3, 4, 5, 6, 0, 7, 8, 9] (n := 6) (x := v7) (lv2 := [(0, .ref a0), (1, .int x1), (2, .int x2), (3, .int x3), (4, .int (x4 ||| (1 <<< (v33 &&& 31)))), (5, .int x5), (6, .int v7), (7, .int x7), (8, .int v7), (9, .int v17)]) (by decide) rfl dX12_asks_132 rfl ?_
                refine x_iinc (pc2 := 137) 7 [1, 2, 3, 4, 5, 6, 7, 0, 8, 9] (i := 7) (x := x7) (v := (x7 + 1)) (lv2 := [(0, .ref a0), (1, .int x1), (2, .int x2), (3, .int x3), (4, .int (x4 ||| (1 <<< (v33 &&& 31)))), (5, .int x5), (6, .int v7), (7, .int (x7 + 1)), (8, .int v7), (9, .int v17)]) rfl (iinc_eq (by decide) _) (by decide) rfl dX12_asks_134 rfl ?_
                refine x_goto 18 dX12_asks_137 (by decide) ?_
                refine x_sub [0, 1, 2, 3, 4, 5, 6, 7] (lv2 := [(0, .ref a0), (1, .int x1), (2, .int x2), (3, .int x3), (4, .int (x4 ||| (1 <<< (v33 &&& 31)))), (5, .int x5), (6, .int v7), (7, .int (x7 + 1))]) rfl ?_
                exact ht
            · replace ht := ht.2 c24
              refine x_goto 134 dX12_asks_102 (by decide) ?_
              refine x_iinc (pc2 := 137) 7 [1, 2, 3, 4, 5, 6, 7, 0, 8, 9] (i := 7) (x := x7) (v := (x7 + 1)) (lv2 := [(0, .ref a0), (1, .int x1), (2, .int x2), (3, .int x3), (4, .int x4), (5, .int x5), (6, .int x6), (7, .int (x7 + 1)), (8, .int v7), (9, .int v17)]) rfl (iinc_eq (by decide) _) (by decide) rfl dX12_asks_134 rfl ?_
              refine x_goto 18 dX12_asks_137 (by decide) ?_
              refine x_sub [0, 1, 2, 3, 4, 5, 6, 7] (lv2 := [(0, .ref a0), (1, .int x1), (2, .int x2), (3, .int x3), (4, .int x4), (5, .int x5), (6, .int x6), (7, .int (x7 + 1))]) rfl ?_
              exact ht
        · replace ht := ht.2 c13
          refine x_goto 134 dX12_asks_54 (by decide) ?_
          refine x_iinc (pc2 := 137) 7 [1, 2, 3, 4, 5, 6, 7, 0, 8] (i := 7) (x := x7) (v := (x7 + 1)) (lv2 := [(0, .ref a0), (1, .int x1), (2, .int x2), (3, .int x3), (4, .int x4), (5, .int x5), (6, .int x6), (7, .int (x7 + 1)), (8, .int v7)]) rfl (iinc_eq (by decide) _) (by decide) rfl dX12_asks_134 rfl ?_
          refine x_goto 18 dX12_asks_137 (by decide) ?_
          refine x_sub [0, 1, 2, 3, 4, 5, 6, 7] (lv2 := [(0, .ref a0), (1, .int x1), (2, .int x2), (3, .int x3), (4, .int x4), (5, .int x5), (6, .int x6), (7, .int (x7 + 1))]) rfl ?_
          exact ht
def T_X12_way (G : GG) (d : Nat) (h : HP) (Q : Option Value → HP → Prop) (a0 : Nat) (x1 : Int32) (x2 : Int32) (x3 : Int32) (x4 : Int32) (x5 : Int32) (x6 : Int32) : Prop :=
  Cal G (d - 1) mX12_isFamily [.int x1] h (fun r1 h2 => ∃ v4, r1 = some (.int v4) ∧ ((v4 = 0 → Q (some (.int (-1))) h2) ∧ (¬ v4 = 0 → Kd G h2 a0 12 ∧ Cal G (d - 1) mX12_isInLand [.ref a0, .int x2, .int x3] h2 (fun r6 h7 => ∃ v10, r6 = some (.int v10) ∧ ((v10 = 0 → Q (some (.int (-1))) h7) ∧ (¬ v10 = 0 → Cal G (d - 1) mX12_isInLand [.ref a0, .int x4, .int x5] h7 (fun r12 h13 => ∃ v15, r12 = some (.int v15) ∧ ((v15 = 0 → Q (some (.int (-1))) h13) ∧ (¬ v15 = 0 → Cal G (d - 1) mX12_in [.long (x6.toInt64), .long 0, .long 2] h13 (fun r17 h18 => ∃ v20, r17 = some (.int v20) ∧ ((¬ v20 = 0 → Cal G (d - 1) mX12_lays [.ref a0] h18 (fun r22 h23 => r22 = none ∧ Cal G (d - 1) mX12_wayOf [.ref a0, .int x1, .int x2, .int x3, .int x4, .int x5] h23 (fun r25 h26 => ∃ v28, r25 = some (.int v28) ∧ ((0 ≤ v28 → ((¬ x6 = 0 → ((¬ x6 = 1 → Cal G (d - 1) mX12_asks [.ref a0, .int x1, .int ((40 * x3) + x2), .int ((40 * x5) + x4)] h26 (fun r32 h33 => ∃ v35, r32 = some (.int v35) ∧ Q (some (.int v35)) h33)) ∧ (x6 = 1 → Q (some (.int (irm v28 10000))) h26))) ∧ (x6 = 0 → Q (some (.int (v28 / 10000))) h26))) ∧ (¬ 0 ≤ v28 → Q (some (.int (-2))) h26))))) ∧ (v20 = 0 → Q (some (.int (-1))) h18))))))))))))
set_option maxRecDepth 20000 in
theorem t_X12_way {G : GG} {d : Nat} {h : HP} {Q : Option Value → HP → Prop} {a0 : Nat} {x1 : Int32} {x2 : Int32} {x3 : Int32} {x4 : Int32} {x5 : Int32} {x6 : Int32} (hd1 : 1 ≤ d) (ht : T_X12_way G d h Q a0 x1 x2 x3 x4 x5 x6) : Ex G d mX12_way 0 [(0, .ref a0), (1, .int x1), (2, .int x2), (3, .int x3), (4, .int x4), (5, .int x5), (6, .int x6)] [] h Q := by
  unfold T_X12_way at ht
  refine x_iload_n (pc2 := 1) 1 (n := 1) (x := x1) rfl dX12_way_0 rfl ?_
  refine x_callS (pc2 := 4) (As := [.int x1]) (rest := []) ms_X12_isFamily ml_X12_395 rfl rfl (Nat.le_of_ble_eq_true rfl) hd1 dX12_way_1 rfl (ht.mono (fun r1 h2 p3 ht' => ?_))
  clear ht
  obtain ⟨v4, rfl, ht⟩ := ht'
  show Ex G d mX12_way 4 [(0, .ref a0), (1, .int x1), (2, .int x2), (3, .int x3), (4, .int x4), (5, .int x5), (6, .int x6)] [.int v4] h2 Q
  refine x_if_eq (pc2 := 7) 40 dX12_way_4 (by decide) rfl (fun c5 => ?_) (fun c5 => ?_)
  · replace ht := ht.1 c5
    refine x_iconst (pc2 := 41) (v := (-1)) (by decide) dX12_way_40 rfl ?_
    exact x_ret (ty := .int) rfl rfl dX12_way_41 ht
  · replace ht := ht.2 c5
    refine x_aload_n (pc2 := 8) 0 (n := 0) (x := a0) rfl dX12_way_7 rfl ?_
    refine x_iload_n (pc2 := 9) 2 (n := 2) (x := x2) rfl dX12_way_8 rfl ?_
    refine x_iload_n (pc2 := 10) 3 (n := 3) (x := x3) rfl dX12_way_9 rfl ?_
    obtain ⟨k9, ht⟩ := ht
    refine x_callV (pc2 := 13) (As := [.int x2, .int x3]) (rest := []) (b := a0) mv_X12_isInLand ml_X12_452 k9 rfl rfl (Nat.le_of_ble_eq_true rfl) hd1 dX12_way_10 rfl (ht.mono (fun r6 h7 p8 ht' => ?_))
    clear ht
    obtain ⟨v10, rfl, ht⟩ := ht'
    show Ex G d mX12_way 13 [(0, .ref a0), (1, .int x1), (2, .int x2), (3, .int x3), (4, .int x4), (5, .int x5), (6, .int x6)] [.int v10] h7 Q
    refine x_if_eq (pc2 := 16) 40 dX12_way_13 (by decide) rfl (fun c11 => ?_) (fun c11 => ?_)
    · replace ht := ht.1 c11
      refine x_iconst (pc2 := 41) (v := (-1)) (by decide) dX12_way_40 rfl ?_
      exact x_ret (ty := .int) rfl rfl dX12_way_41 ht
    · replace ht := ht.2 c11
      refine x_aload_n (pc2 := 17) 0 (n := 0) (x := a0) rfl dX12_way_16 rfl ?_
      refine x_iload (pc2 := 19) 4 (n := 4) (x := x4) rfl dX12_way_17 rfl ?_
      refine x_iload (pc2 := 21) 5 (n := 5) (x := x5) rfl dX12_way_19 rfl ?_
      refine x_callV (pc2 := 24) (As := [.int x4, .int x5]) (rest := []) (b := a0) mv_X12_isInLand ml_X12_452 (k9.up p8) rfl rfl (Nat.le_of_ble_eq_true rfl) hd1 dX12_way_21 rfl (ht.mono (fun r12 h13 p14 ht' => ?_))
      clear ht
      obtain ⟨v15, rfl, ht⟩ := ht'
      show Ex G d mX12_way 24 [(0, .ref a0), (1, .int x1), (2, .int x2), (3, .int x3), (4, .int x4), (5, .int x5), (6, .int x6)] [.int v15] h13 Q
      refine x_if_eq (pc2 := 27) 40 dX12_way_24 (by decide) rfl (fun c16 => ?_) (fun c16 => ?_)
      · replace ht := ht.1 c16
        refine x_iconst (pc2 := 41) (v := (-1)) (by decide) dX12_way_40 rfl ?_
        exact x_ret (ty := .int) rfl rfl dX12_way_41 ht
      · replace ht := ht.2 c16
        refine x_iload (pc2 := 29) 6 (n := 6) (x := x6) rfl dX12_way_27 rfl ?_
        refine x_i2l (pc2 := 30) dX12_way_29 rfl ?_
        refine x_lconst (pc2 := 31) (v := 0) (by decide) dX12_way_30 rfl ?_
        refine x_ldc2 (pc2 := 34) (v := 2) ct_X12_345 dX12_way_31 rfl ?_
        refine x_callS (pc2 := 37) (As := [.long (x6.toInt64), .long 0, .long 2]) (rest := []) ms_X12_in ml_X12_112 rfl rfl (Nat.le_of_ble_eq_true rfl) hd1 dX12_way_34 rfl (ht.mono (fun r17 h18 p19 ht' => ?_))
        clear ht
        obtain ⟨v20, rfl, ht⟩ := ht'
        show Ex G d mX12_way 37 [(0, .ref a0), (1, .int x1), (2, .int x2), (3, .int x3), (4, .int x4), (5, .int x5), (6, .int x6)] [.int v20] h18 Q
        refine y_if_ne (pc2 := 40) 42 dX12_way_37 (by decide) rfl (fun c21 => ?_) (fun c21 => ?_)
        · replace ht := ht.1 c21
          refine x_aload_n (pc2 := 43) 0 (n := 0) (x := a0) rfl dX12_way_42 rfl ?_
          refine x_callV (pc2 := 46) (As := []) (rest := []) (b := a0) mv_X12_lays ml_X12_526 (((k9.up p8).up p14).up p19) rfl rfl (Nat.le_of_ble_eq_true rfl) hd1 dX12_way_43 rfl (ht.mono (fun r22 h23 p24 ht' => ?_))
          clear ht
          obtain ⟨rfl, ht⟩ := ht'
          show Ex G d mX12_way 46 [(0, .ref a0), (1, .int x1), (2, .int x2), (3, .int x3), (4, .int x4), (5, .int x5), (6, .int x6)] [] h23 Q
          refine x_aload_n (pc2 := 47) 0 (n := 0) (x := a0) rfl dX12_way_46 rfl ?_
          refine x_iload_n (pc2 := 48) 1 (n := 1) (x := x1) rfl dX12_way_47 rfl ?_
          refine x_iload_n (pc2 := 49) 2 (n := 2) (x := x2) rfl dX12_way_48 rfl ?_
          refine x_iload_n (pc2 := 50) 3 (n := 3) (x := x3) rfl dX12_way_49 rfl ?_
          refine x_iload (pc2 := 52) 4 (n := 4) (x := x4) rfl dX12_way_50 rfl ?_
          refine x_iload (pc2 := 54) 5 (n := 5) (x := x5) rfl dX12_way_52 rfl ?_
          refine x_callV (pc2 := 57) (As := [.int x1, .int x2, .int x3, .int x4, .int x5]) (rest := []) (b := a0) mv_X12_wayOf ml_X12_529 ((((k9.up p8).up p14).up p19).up p24) rfl rfl (Nat.le_of_ble_eq_true rfl) hd1 dX12_way_54 rfl (ht.mono (fun r25 h26 p27 ht' => ?_))
          clear ht
          obtain ⟨v28, rfl, ht⟩ := ht'
          show Ex G d mX12_way 57 [(0, .ref a0), (1, .int x1), (2, .int x2), (3, .int x3), (4, .int x4), (5, .int x5), (6, .int x6)] [.int v28] h26 Q
          refine x_istore (pc2 := 59) [1, 2, 3, 4, 5, 6, 7, 0] (n := 7) (x := v28) (lv2 := [(0, .ref a0), (1, .int x1), (2, .int x2), (3, .int x3), (4, .int x4), (5, .int x5), (6, .int x6), (7, .int v28)]) (by decide) rfl dX12_way_57 rfl ?_
          refine x_iload (pc2 := 61) 7 (n := 7) (x := v28) rfl dX12_way_59 rfl ?_
          refine x_if_ge (pc2 := 64) 67 dX12_way_61 (by decide) rfl (fun c29 => ?_) (fun c29 => ?_)
          · replace ht := ht.1 c29
            refine x_iload (pc2 := 69) 6 (n := 6) (x := x6) rfl dX12_way_67 rfl ?_
            refine y_if_ne (pc2 := 72) 81 dX12_way_69 (by decide) rfl (fun c30 => ?_) (fun c30 => ?_)
            · replace ht := ht.1 c30
              refine x_iload (pc2 := 83) 6 (n := 6) (x := x6) rfl dX12_way_81 rfl ?_
              refine x_iconst (pc2 := 84) (v := 1) (by decide) dX12_way_83 rfl ?_
              refine y_icmp_ne (pc2 := 87) 96 dX12_way_84 (by decide) rfl (fun c31 => ?_) (fun c31 => ?_)
              · replace ht := ht.1 c31
                refine x_aload_n (pc2 := 97) 0 (n := 0) (x := a0) rfl dX12_way_96 rfl ?_
                refine x_iload_n (pc2 := 98) 1 (n := 1) (x := x1) rfl dX12_way_97 rfl ?_
                refine x_bipush (pc2 := 100) (v := 40) (by decide) dX12_way_98 rfl ?_
                refine x_iload_n (pc2 := 101) 3 (n := 3) (x := x3) rfl dX12_way_100 rfl ?_
                refine x_imul (pc2 := 102) dX12_way_101 rfl ?_
                refine x_iload_n (pc2 := 103) 2 (n := 2) (x := x2) rfl dX12_way_102 rfl ?_
                refine x_iadd (pc2 := 104) dX12_way_103 rfl ?_
                refine x_bipush (pc2 := 106) (v := 40) (by decide) dX12_way_104 rfl ?_
                refine x_iload (pc2 := 108) 5 (n := 5) (x := x5) rfl dX12_way_106 rfl ?_
                refine x_imul (pc2 := 109) dX12_way_108 rfl ?_
                refine x_iload (pc2 := 111) 4 (n := 4) (x := x4) rfl dX12_way_109 rfl ?_
                refine x_iadd (pc2 := 112) dX12_way_111 rfl ?_
                refine x_callV (pc2 := 115) (As := [.int x1, .int ((40 * x3) + x2), .int ((40 * x5) + x4)]) (rest := []) (b := a0) mv_X12_asks ml_X12_533 (((((k9.up p8).up p14).up p19).up p24).up p27) rfl rfl (Nat.le_of_ble_eq_true rfl) hd1 dX12_way_112 rfl (ht.mono (fun r32 h33 p34 ht' => ?_))
                clear ht
                obtain ⟨v35, rfl, ht⟩ := ht'
                show Ex G d mX12_way 115 [(0, .ref a0), (1, .int x1), (2, .int x2), (3, .int x3), (4, .int x4), (5, .int x5), (6, .int x6), (7, .int v28)] [.int v35] h33 Q
                exact x_ret (ty := .int) rfl rfl dX12_way_115 ht
              · replace ht := ht.2 c31
                refine x_iload (pc2 := 89) 7 (n := 7) (x := v28) rfl dX12_way_87 rfl ?_
                refine x_sipush (pc2 := 92) (v := 10000) (by decide) dX12_way_89 rfl ?_
                refine y_irem (pc2 := 93) (by decide) dX12_way_92 rfl ?_
                refine x_goto 115 dX12_way_93 (by decide) ?_
                exact x_ret (ty := .int) rfl rfl dX12_way_115 ht
            · replace ht := ht.2 c30
              refine x_iload (pc2 := 74) 7 (n := 7) (x := v28) rfl dX12_way_72 rfl ?_
              refine x_sipush (pc2 := 77) (v := 10000) (by decide) dX12_way_74 rfl ?_
              refine x_idiv (pc2 := 78) (by decide) dX12_way_77 rfl ?_
              refine x_goto 115 dX12_way_78 (by decide) ?_
              exact x_ret (ty := .int) rfl rfl dX12_way_115 ht
          · replace ht := ht.2 c29
            refine x_bipush (pc2 := 66) (v := (-2)) (by decide) dX12_way_64 rfl ?_
            exact x_ret (ty := .int) rfl rfl dX12_way_66 ht
        · replace ht := ht.2 c21
          refine x_iconst (pc2 := 41) (v := (-1)) (by decide) dX12_way_40 rfl ?_
          exact x_ret (ty := .int) rfl rfl dX12_way_41 ht
theorem e_X12_way {G : GG} {d : Nat} {h : HP} {Q : Option Value → HP → Prop} {a0 : Nat} {x1 : Int32} {x2 : Int32} {x3 : Int32} {x4 : Int32} {x5 : Int32} {x6 : Int32} (hd1 : 1 ≤ d) (ht : T_X12_way G d h Q a0 x1 x2 x3 x4 x5 x6) : Cal G d mX12_way [.ref a0, .int x1, .int x2, .int x3, .int x4, .int x5, .int x6] h Q := cal_of rfl (Nat.le_of_ble_eq_true rfl) (t_X12_way hd1 ht)
def T_X12_errand (G : GG) (d : Nat) (h : HP) (Q : Option Value → HP → Prop) (a0 : Nat) (x1 : Int32) (x2 : Int32) (x3 : Int32) (x4 : Int32) (x5 : Int32) (x6 : Int32) : Prop :=
  Cal G (d - 1) mX12_in [.long (x1.toInt64), .long 0, .long 5] h (fun r1 h2 => ∃ v4, r1 = some (.int v4) ∧ ((v4 = 0 → Q (some (.int 0)) h2) ∧ (¬ v4 = 0 → Cal G (d - 1) mX12_isFamily [.int x2] h2 (fun r6 h7 => ∃ v9, r6 = some (.int v9) ∧ ((v9 = 0 → Q (some (.int 0)) h7) ∧ (¬ v9 = 0 → Cal G (d - 1) mX12_in [.long (x3.toInt64), .long 0, .long 39] h7 (fun r11 h12 => ∃ v14, r11 = some (.int v14) ∧ ((v14 = 0 → Q (some (.int 0)) h12) ∧ (¬ v14 = 0 → Cal G (d - 1) mX12_in [.long (x4.toInt64), .long 0, .long 39] h12 (fun r16 h17 => ∃ v19, r16 = some (.int v19) ∧ ((v19 = 0 → Q (some (.int 0)) h17) ∧ (¬ v19 = 0 → Cal G (d - 1) mX12_in [.long (x5.toInt64), .long 0, .long 39] h17 (fun r21 h22 => ∃ v24, r21 = some (.int v24) ∧ ((v24 = 0 → Q (some (.int 0)) h22) ∧ (¬ v24 = 0 → Cal G (d - 1) mX12_in [.long (x6.toInt64), .long 0, .long 39] h22 (fun r26 h27 => ∃ v29, r26 = some (.int v29) ∧ ((¬ v29 = 0 → Kd G h27 a0 12 ∧ ∃ q32, hR h27 a0 29 = some q32 ∧ Kd G h27 q32 14 ∧ vp_in (2400 + (6 * x1)) (hN h27 q32) ∧ vp_in ((2400 + (6 * x1)) + 1) (hN (sI h27 q32 (2400 + (6 * x1)).toNatClampNeg 1) q32) ∧ ∀ h37, h37 = (sI (sI h27 q32 (2400 + (6 * x1)).toNatClampNeg 1) q32 ((2400 + (6 * x1)) + 1).toNatClampNeg x2) → vp_in ((2400 + (6 * x1)) + 2) (hN h37 q32) ∧ vp_in ((2400 + (6 * x1)) + 3) (hN (sI h37 q32 ((2400 + (6 * x1)) + 2).toNatClampNeg x3) q32) ∧ ∀ h42, h42 = (sI (sI h37 q32 ((2400 + (6 * x1)) + 2).toNatClampNeg x3) q32 ((2400 + (6 * x1)) + 3).toNatClampNeg x4) → vp_in ((2400 + (6 * x1)) + 4) (hN h42 q32) ∧ vp_in ((2400 + (6 * x1)) + 5) (hN (sI h42 q32 ((2400 + (6 * x1)) + 4).toNatClampNeg x5) q32) ∧ ∀ h47, h47 = (sI (sI h42 q32 ((2400 + (6 * x1)) + 4).toNatClampNeg x5) q32 ((2400 + (6 * x1)) + 5).toNatClampNeg x6) → Q (some (.int 1)) h47) ∧ (v29 = 0 → Q (some (.int 0)) h27))))))))))))))))))
set_option maxRecDepth 20000 in
theorem t_X12_errand {G : GG} {d : Nat} {h : HP} {Q : Option Value → HP → Prop} {a0 : Nat} {x1 : Int32} {x2 : Int32} {x3 : Int32} {x4 : Int32} {x5 : Int32} {x6 : Int32} (hd1 : 1 ≤ d) (ht : T_X12_errand G d h Q a0 x1 x2 x3 x4 x5 x6) : Ex G d mX12_errand 0 [(0, .ref a0), (1, .int x1), (2, .int x2), (3, .int x3), (4, .int x4), (5, .int x5), (6, .int x6)] [] h Q := by
  unfold T_X12_errand at ht
  refine x_iload_n (pc2 := 1) 1 (n := 1) (x := x1) rfl dX12_errand_0 rfl ?_
  refine x_i2l (pc2 := 2) dX12_errand_1 rfl ?_
  refine x_lconst (pc2 := 3) (v := 0) (by decide) dX12_errand_2 rfl ?_
  refine x_ldc2 (pc2 := 6) (v := 5) ct_X12_502 dX12_errand_3 rfl ?_
  refine x_callS (pc2 := 9) (As := [.long (x1.toInt64), .long 0, .long 5]) (rest := []) ms_X12_in ml_X12_112 rfl rfl (Nat.le_of_ble_eq_true rfl) hd1 dX12_errand_6 rfl (ht.mono (fun r1 h2 p3 ht' => ?_))
  clear ht
  obtain ⟨v4, rfl, ht⟩ := ht'
  show Ex G d mX12_errand 9 [(0, .ref a0), (1, .int x1), (2, .int x2), (3, .int x3), (4, .int x4), (5, .int x5), (6, .int x6)] [.int v4] h2 Q
  refine x_if_eq (pc2 := 12) 70 dX12_errand_9 (by decide) rfl (fun c5 => ?_) (fun c5 => ?_)
  · replace ht := ht.1 c5
    refine x_iconst (pc2 := 71) (v := 0) (by decide) dX12_errand_70 rfl ?_
    exact x_retZ rfl (Or.inl rfl) dX12_errand_71 ht
  · replace ht := ht.2 c5
    refine x_iload_n (pc2 := 13) 2 (n := 2) (x := x2) rfl dX12_errand_12 rfl ?_
    refine x_callS (pc2 := 16) (As := [.int x2]) (rest := []) ms_X12_isFamily ml_X12_395 rfl rfl (Nat.le_of_ble_eq_true rfl) hd1 dX12_errand_13 rfl (ht.mono (fun r6 h7 p8 ht' => ?_))
    clear ht
    obtain ⟨v9, rfl, ht⟩ := ht'
    show Ex G d mX12_errand 16 [(0, .ref a0), (1, .int x1), (2, .int x2), (3, .int x3), (4, .int x4), (5, .int x5), (6, .int x6)] [.int v9] h7 Q
    refine x_if_eq (pc2 := 19) 70 dX12_errand_16 (by decide) rfl (fun c10 => ?_) (fun c10 => ?_)
    · replace ht := ht.1 c10
      refine x_iconst (pc2 := 71) (v := 0) (by decide) dX12_errand_70 rfl ?_
      exact x_retZ rfl (Or.inl rfl) dX12_errand_71 ht
    · replace ht := ht.2 c10
      refine x_iload_n (pc2 := 20) 3 (n := 3) (x := x3) rfl dX12_errand_19 rfl ?_
      refine x_i2l (pc2 := 21) dX12_errand_20 rfl ?_
      refine x_lconst (pc2 := 22) (v := 0) (by decide) dX12_errand_21 rfl ?_
      refine x_ldc2 (pc2 := 25) (v := 39) ct_X12_536 dX12_errand_22 rfl ?_
      refine x_callS (pc2 := 28) (As := [.long (x3.toInt64), .long 0, .long 39]) (rest := []) ms_X12_in ml_X12_112 rfl rfl (Nat.le_of_ble_eq_true rfl) hd1 dX12_errand_25 rfl (ht.mono (fun r11 h12 p13 ht' => ?_))
      clear ht
      obtain ⟨v14, rfl, ht⟩ := ht'
      show Ex G d mX12_errand 28 [(0, .ref a0), (1, .int x1), (2, .int x2), (3, .int x3), (4, .int x4), (5, .int x5), (6, .int x6)] [.int v14] h12 Q
      refine x_if_eq (pc2 := 31) 70 dX12_errand_28 (by decide) rfl (fun c15 => ?_) (fun c15 => ?_)
      · replace ht := ht.1 c15
        refine x_iconst (pc2 := 71) (v := 0) (by decide) dX12_errand_70 rfl ?_
        exact x_retZ rfl (Or.inl rfl) dX12_errand_71 ht
      · replace ht := ht.2 c15
        refine x_iload (pc2 := 33) 4 (n := 4) (x := x4) rfl dX12_errand_31 rfl ?_
        refine x_i2l (pc2 := 34) dX12_errand_33 rfl ?_
        refine x_lconst (pc2 := 35) (v := 0) (by decide) dX12_errand_34 rfl ?_
        refine x_ldc2 (pc2 := 38) (v := 39) ct_X12_536 dX12_errand_35 rfl ?_
        refine x_callS (pc2 := 41) (As := [.long (x4.toInt64), .long 0, .long 39]) (rest := []) ms_X12_in ml_X12_112 rfl rfl (Nat.le_of_ble_eq_true rfl) hd1 dX12_errand_38 rfl (ht.mono (fun r16 h17 p18 ht' => ?_))
        clear ht
        obtain ⟨v19, rfl, ht⟩ := ht'
        show Ex G d mX12_errand 41 [(0, .ref a0), (1, .int x1), (2, .int x2), (3, .int x3), (4, .int x4), (5, .int x5), (6, .int x6)] [.int v19] h17 Q
        refine x_if_eq (pc2 := 44) 70 dX12_errand_41 (by decide) rfl (fun c20 => ?_) (fun c20 => ?_)
        · replace ht := ht.1 c20
          refine x_iconst (pc2 := 71) (v := 0) (by decide) dX12_errand_70 rfl ?_
          exact x_retZ rfl (Or.inl rfl) dX12_errand_71 ht
        · replace ht := ht.2 c20
          refine x_iload (pc2 := 46) 5 (n := 5) (x := x5) rfl dX12_errand_44 rfl ?_
          refine x_i2l (pc2 := 47) dX12_errand_46 rfl ?_
          refine x_lconst (pc2 := 48) (v := 0) (by decide) dX12_errand_47 rfl ?_
          refine x_ldc2 (pc2 := 51) (v := 39) ct_X12_536 dX12_errand_48 rfl ?_
          refine x_callS (pc2 := 54) (As := [.long (x5.toInt64), .long 0, .long 39]) (rest := []) ms_X12_in ml_X12_112 rfl rfl (Nat.le_of_ble_eq_true rfl) hd1 dX12_errand_51 rfl (ht.mono (fun r21 h22 p23 ht' => ?_))
          clear ht
          obtain ⟨v24, rfl, ht⟩ := ht'
          show Ex G d mX12_errand 54 [(0, .ref a0), (1, .int x1), (2, .int x2), (3, .int x3), (4, .int x4), (5, .int x5), (6, .int x6)] [.int v24] h22 Q
          refine x_if_eq (pc2 := 57) 70 dX12_errand_54 (by decide) rfl (fun c25 => ?_) (fun c25 => ?_)
          · replace ht := ht.1 c25
            refine x_iconst (pc2 := 71) (v := 0) (by decide) dX12_errand_70 rfl ?_
            exact x_retZ rfl (Or.inl rfl) dX12_errand_71 ht
          · replace ht := ht.2 c25
            refine x_iload (pc2 := 59) 6 (n := 6) (x := x6) rfl dX12_errand_57 rfl ?_
            refine x_i2l (pc2 := 60) dX12_errand_59 rfl ?_
            refine x_lconst (pc2 := 61) (v := 0) (by decide) dX12_errand_60 rfl ?_
            refine x_ldc2 (pc2 := 64) (v := 39) ct_X12_536 dX12_errand_61 rfl ?_
            refine x_callS (pc2 := 67) (As := [.long (x6.toInt64), .long 0, .long 39]) (rest := []) ms_X12_in ml_X12_112 rfl rfl (Nat.le_of_ble_eq_true rfl) hd1 dX12_errand_64 rfl (ht.mono (fun r26 h27 p28 ht' => ?_))
            clear ht
            obtain ⟨v29, rfl, ht⟩ := ht'
            show Ex G d mX12_errand 67 [(0, .ref a0), (1, .int x1), (2, .int x2), (3, .int x3), (4, .int x4), (5, .int x5), (6, .int x6)] [.int v29] h27 Q
            refine y_if_ne (pc2 := 70) 72 dX12_errand_67 (by decide) rfl (fun c30 => ?_) (fun c30 => ?_)
            · replace ht := ht.1 c30
              refine x_sipush (pc2 := 75) (v := 2400) (by decide) dX12_errand_72 rfl ?_
              refine x_bipush (pc2 := 77) (v := 6) (by decide) dX12_errand_75 rfl ?_
              refine x_iload_n (pc2 := 78) 1 (n := 1) (x := x1) rfl dX12_errand_77 rfl ?_
              refine x_imul (pc2 := 79) dX12_errand_78 rfl ?_
              refine x_iadd (pc2 := 80) dX12_errand_79 rfl ?_
              refine x_istore (pc2 := 82) [1, 2, 3, 4, 5, 6, 7, 0] (n := 7) (x := (2400 + (6 * x1))) (lv2 := [(0, .ref a0), (1, .int x1), (2, .int x2), (3, .int x3), (4, .int x4), (5, .int x5), (6, .int x6), (7, .int (2400 + (6 * x1)))]) (by decide) rfl dX12_errand_80 rfl ?_
              refine x_aload_n (pc2 := 83) 0 (n := 0) (x := a0) rfl dX12_errand_82 rfl ?_
              obtain ⟨k31, ht⟩ := ht
              obtain ⟨q32, e33, ht⟩ := ht
              refine y_getR (pc2 := 86) (κ := 12) (k := 29) fl_X12_48 (by decide) (by decide) k31 rfl e33 dX12_errand_83 rfl ?_
              refine x_iload (pc2 := 88) 7 (n := 7) (x := (2400 + (6 * x1))) rfl dX12_errand_86 rfl ?_
              refine x_iconst (pc2 := 89) (v := 1) (by decide) dX12_errand_88 rfl ?_
              obtain ⟨k34, ht⟩ := ht
              obtain ⟨b35, ht⟩ := ht
              refine x_iast (pc2 := 90) k34 b35 dX12_errand_89 rfl ?_
              refine x_aload_n (pc2 := 91) 0 (n := 0) (x := a0) rfl dX12_errand_90 rfl ?_
              refine y_getR (pc2 := 94) (κ := 12) (k := 29) fl_X12_48 (by decide) (by decide) k31.sI rfl ((hR_sI _ _ _ _ _ _).trans e33) dX12_errand_91 rfl ?_
              refine x_iload (pc2 := 96) 7 (n := 7) (x := (2400 + (6 * x1))) rfl dX12_errand_94 rfl ?_
              refine x_iconst (pc2 := 97) (v := 1) (by decide) dX12_errand_96 rfl ?_
              refine x_iadd (pc2 := 98) dX12_errand_97 rfl ?_
              refine x_iload_n (pc2 := 99) 2 (n := 2) (x := x2) rfl dX12_errand_98 rfl ?_
              obtain ⟨b36, ht⟩ := ht
              refine x_iast (pc2 := 100) k34.sI b36 dX12_errand_99 rfl ?_
              refine nm_I (fun h37 e38 p39 => ?_)
              replace ht := ht h37 e38
              refine x_aload_n (pc2 := 101) 0 (n := 0) (x := a0) rfl dX12_errand_100 rfl ?_
              refine y_getR (pc2 := 104) (κ := 12) (k := 29) fl_X12_48 (by decide) (by decide) (k31.sI.up p39) rfl (by rw [e38]; exact ((hR_sI _ _ _ _ _ _).trans ((hR_sI _ _ _ _ _ _).trans e33))) dX12_errand_101 rfl ?_
              refine x_iload (pc2 := 106) 7 (n := 7) (x := (2400 + (6 * x1))) rfl dX12_errand_104 rfl ?_
              refine x_iconst (pc2 := 107) (v := 2) (by decide) dX12_errand_106 rfl ?_
              refine x_iadd (pc2 := 108) dX12_errand_107 rfl ?_
              refine x_iload_n (pc2 := 109) 3 (n := 3) (x := x3) rfl dX12_errand_108 rfl ?_
              obtain ⟨b40, ht⟩ := ht
              refine x_iast (pc2 := 110) (k34.sI.up p39) b40 dX12_errand_109 rfl ?_
              refine x_aload_n (pc2 := 111) 0 (n := 0) (x := a0) rfl dX12_errand_110 rfl ?_
              refine y_getR (pc2 := 114) (κ := 12) (k := 29) fl_X12_48 (by decide) (by decide) (k31.sI.up p39).sI rfl ((hR_sI _ _ _ _ _ _).trans (by rw [e38]; exact ((hR_sI _ _ _ _ _ _).trans ((hR_sI _ _ _ _ _ _).trans e33)))) dX12_errand_111 rfl ?_
              refine x_iload (pc2 := 116) 7 (n := 7) (x := (2400 + (6 * x1))) rfl dX12_errand_114 rfl ?_
              refine x_iconst (pc2 := 117) (v := 3) (by decide) dX12_errand_116 rfl ?_
              refine x_iadd (pc2 := 118) dX12_errand_117 rfl ?_
              refine x_iload (pc2 := 120) 4 (n := 4) (x := x4) rfl dX12_errand_118 rfl ?_
              obtain ⟨b41, ht⟩ := ht
              refine x_iast (pc2 := 121) (k34.sI.up p39).sI b41 dX12_errand_120 rfl ?_
              refine nm_I (fun h42 e43 p44 => ?_)
              replace ht := ht h42 e43
              refine x_aload_n (pc2 := 122) 0 (n := 0) (x := a0) rfl dX12_errand_121 rfl ?_
              refine y_getR (pc2 := 125) (κ := 12) (k := 29) fl_X12_48 (by decide) (by decide) ((k31.sI.up p39).sI.up p44) rfl (by rw [e43]; exact ((hR_sI _ _ _ _ _ _).trans ((hR_sI _ _ _ _ _ _).trans (by rw [e38]; exact ((hR_sI _ _ _ _ _ _).trans ((hR_sI _ _ _ _ _ _).trans e33)))))) dX12_errand_122 rfl ?_
              refine x_iload (pc2 := 127) 7 (n := 7) (x := (2400 + (6 * x1))) rfl dX12_errand_125 rfl ?_
              refine x_iconst (pc2 := 128) (v := 4) (by decide) dX12_errand_127 rfl ?_
              refine x_iadd (pc2 := 129) dX12_errand_128 rfl ?_
              refine x_iload (pc2 := 131) 5 (n := 5) (x := x5) rfl dX12_errand_129 rfl ?_
              obtain ⟨b45, ht⟩ := ht
              refine x_iast (pc2 := 132) ((k34.sI.up p39).sI.up p44) b45 dX12_errand_131 rfl ?_
              refine x_aload_n (pc2 := 133) 0 (n := 0) (x := a0) rfl dX12_errand_132 rfl ?_
              refine y_getR (pc2 := 136) (κ := 12) (k := 29) fl_X12_48 (by decide) (by decide) ((k31.sI.up p39).sI.up p44).sI rfl ((hR_sI _ _ _ _ _ _).trans (by rw [e43]; exact ((hR_sI _ _ _ _ _ _).trans ((hR_sI _ _ _ _ _ _).trans (by rw [e38]; exact ((hR_sI _ _ _ _ _ _).trans ((hR_sI _ _ _ _ _ _).trans e33))))))) dX12_errand_133 rfl ?_
              refine x_iload (pc2 := 138) 7 (n := 7) (x := (2400 + (6 * x1))) rfl dX12_errand_136 rfl ?_
              refine x_iconst (pc2 := 139) (v := 5) (by decide) dX12_errand_138 rfl ?_
              refine x_iadd (pc2 := 140) dX12_errand_139 rfl ?_
              refine x_iload (pc2 := 142) 6 (n := 6) (x := x6) rfl dX12_errand_140 rfl ?_
              obtain ⟨b46, ht⟩ := ht
              refine x_iast (pc2 := 143) ((k34.sI.up p39).sI.up p44).sI b46 dX12_errand_142 rfl ?_
              refine nm_I (fun h47 e48 p49 => ?_)
              replace ht := ht h47 e48
              refine x_iconst (pc2 := 144) (v := 1) (by decide) dX12_errand_143 rfl ?_
              exact x_retZ rfl (Or.inr rfl) dX12_errand_144 ht
            · replace ht := ht.2 c30
              refine x_iconst (pc2 := 71) (v := 0) (by decide) dX12_errand_70 rfl ?_
              exact x_retZ rfl (Or.inl rfl) dX12_errand_71 ht
theorem e_X12_errand {G : GG} {d : Nat} {h : HP} {Q : Option Value → HP → Prop} {a0 : Nat} {x1 : Int32} {x2 : Int32} {x3 : Int32} {x4 : Int32} {x5 : Int32} {x6 : Int32} (hd1 : 1 ≤ d) (ht : T_X12_errand G d h Q a0 x1 x2 x3 x4 x5 x6) : Cal G d mX12_errand [.ref a0, .int x1, .int x2, .int x3, .int x4, .int x5, .int x6] h Q := cal_of rfl (Nat.le_of_ble_eq_true rfl) (t_X12_errand hd1 ht)
def T_X12_sums (G : GG) (d : Nat) (h : HP) (Q : Option Value → HP → Prop) (a0 : Nat) : Prop :=
  Kd G h a0 12 ∧ Cal G (d - 1) mX12_lays [.ref a0] h (fun r1 h2 => r1 = none ∧ Ex G d mX12_sums 16 [(0, .ref a0), (1, .int 0)] [] (sI (sI h2 a0 47 0) a0 48 0) Q)
set_option maxRecDepth 20000 in
theorem t_X12_sums {G : GG} {d : Nat} {h : HP} {Q : Option Value → HP → Prop} {a0 : Nat} (hd1 : 1 ≤ d) (ht : T_X12_sums G d h Q a0) : Ex G d mX12_sums 0 [(0, .ref a0)] [] h Q := by
  unfold T_X12_sums at ht
  refine x_aload_n (pc2 := 1) 0 (n := 0) (x := a0) rfl dX12_sums_0 rfl ?_
  obtain ⟨k4, ht⟩ := ht
  refine x_callV (pc2 := 4) (As := []) (rest := []) (b := a0) mv_X12_lays ml_X12_526 k4 rfl rfl (Nat.le_of_ble_eq_true rfl) hd1 dX12_sums_1 rfl (ht.mono (fun r1 h2 p3 ht' => ?_))
  clear ht
  obtain ⟨rfl, ht⟩ := ht'
  show Ex G d mX12_sums 4 [(0, .ref a0)] [] h2 Q
  refine x_aload_n (pc2 := 5) 0 (n := 0) (x := a0) rfl dX12_sums_4 rfl ?_
  refine x_iconst (pc2 := 6) (v := 0) (by decide) dX12_sums_5 rfl ?_
  refine x_putI (pc2 := 9) (κ := 12) (k := 47) fl_X12_538 (by decide) (by decide) (Or.inl rfl) rfl (k4.up p3) dX12_sums_6 rfl ?_
  refine x_aload_n (pc2 := 10) 0 (n := 0) (x := a0) rfl dX12_sums_9 rfl ?_
  refine x_iconst (pc2 := 11) (v := 0) (by decide) dX12_sums_10 rfl ?_
  refine x_putI (pc2 := 14) (κ := 12) (k := 48) fl_X12_541 (by decide) (by decide) (Or.inl rfl) rfl (k4.up p3).sI dX12_sums_11 rfl ?_
  refine x_iconst (pc2 := 15) (v := 0) (by decide) dX12_sums_14 rfl ?_
  refine x_istore_n (pc2 := 16) [1, 0] (n := 1) (x := 0) (lv2 := [(0, .ref a0), (1, .int 0)]) (by decide) rfl dX12_sums_15 rfl ?_
  exact ht
theorem e_X12_sums {G : GG} {d : Nat} {h : HP} {Q : Option Value → HP → Prop} {a0 : Nat} (hd1 : 1 ≤ d) (ht : T_X12_sums G d h Q a0) : Cal G d mX12_sums [.ref a0] h Q := cal_of rfl (Nat.le_of_ble_eq_true rfl) (t_X12_sums hd1 ht)
def T_X12_sums_16 (G : GG) (d : Nat) (h : HP) (Q : Option Value → HP → Prop) (a0 : Nat) (x1 : Int32) : Prop :=
  ((6 ≤ x1 → Q none h) ∧ (¬ 6 ≤ x1 → Kd G h a0 12 ∧ ∃ q3, hR h a0 29 = some q3 ∧ Kd G h q3 14 ∧ vp_in (2400 + (6 * x1)) (hN h q3) ∧ ((¬ (hI h q3 (2400 + (6 * x1)).toNatClampNeg) = 0 → vp_in ((2400 + (6 * x1)) + 1) (hN h q3) ∧ vp_in ((2400 + (6 * x1)) + 2) (hN h q3) ∧ vp_in ((2400 + (6 * x1)) + 3) (hN h q3) ∧ vp_in ((2400 + (6 * x1)) + 4) (hN h q3) ∧ vp_in ((2400 + (6 * x1)) + 5) (hN h q3) ∧ Cal G (d - 1) mX12_wayOf [.ref a0, .int (hI h q3 ((2400 + (6 * x1)) + 1).toNatClampNeg), .int (hI h q3 ((2400 + (6 * x1)) + 2).toNatClampNeg), .int (hI h q3 ((2400 + (6 * x1)) + 3).toNatClampNeg), .int (hI h q3 ((2400 + (6 * x1)) + 4).toNatClampNeg), .int (hI h q3 ((2400 + (6 * x1)) + 5).toNatClampNeg)] h (fun r13 h14 => ∃ v16, r13 = some (.int v16) ∧ ((0 ≤ v16 → Ex G d mX12_sums 108 [(0, .ref a0), (1, .int x1), (2, .int (2400 + (6 * x1))), (3, .int v16)] [.int (v16 / 10000), .int (hI h14 a0 47), .ref a0] h14 Q) ∧ (¬ 0 ≤ v16 → Ex G d mX12_sums 108 [(0, .ref a0), (1, .int x1), (2, .int (2400 + (6 * x1))), (3, .int v16)] [.int 999, .int (hI h14 a0 47), .ref a0] h14 Q)))) ∧ ((hI h q3 (2400 + (6 * x1)).toNatClampNeg) = 0 → Ex G d mX12_sums 16 [(0, .ref a0), (1, .int (x1 + 1))] [] h Q))))
set_option maxRecDepth 20000 in
theorem t_X12_sums_16 {G : GG} {d : Nat} {h : HP} {Q : Option Value → HP → Prop} {a0 : Nat} {x1 : Int32} (hd1 : 1 ≤ d) (ht : T_X12_sums_16 G d h Q a0 x1) : Ex G d mX12_sums 16 [(0, .ref a0), (1, .int x1)] [] h Q := by
  unfold T_X12_sums_16 at ht
  refine x_iload_n (pc2 := 17) 1 (n := 1) (x := x1) rfl dX12_sums_16 rfl ?_
  refine x_bipush (pc2 := 19) (v := 6) (by decide) dX12_sums_17 rfl ?_
  refine x_icmp_ge (pc2 := 22) 142 dX12_sums_19 (by decide) rfl (fun c1 => ?_) (fun c1 => ?_)
  · replace ht := ht.1 c1
    exact x_retV rfl dX12_sums_142 ht
  · replace ht := ht.2 c1
    refine x_sipush (pc2 := 25) (v := 2400) (by decide) dX12_sums_22 rfl ?_
    refine x_bipush (pc2 := 27) (v := 6) (by decide) dX12_sums_25 rfl ?_
    refine x_iload_n (pc2 := 28) 1 (n := 1) (x := x1) rfl dX12_sums_27 rfl ?_
    refine x_imul (pc2 := 29) dX12_sums_28 rfl ?_
    refine x_iadd (pc2 := 30) dX12_sums_29 rfl ?_
    refine x_istore_n (pc2 := 31) [1, 2, 0] (n := 2) (x := (2400 + (6 * x1))) (lv2 := [(0, .ref a0), (1, .int x1), (2, .int (2400 + (6 * x1)))]) (by decide) rfl dX12_sums_30 rfl ?_
    refine x_aload_n (pc2 := 32) 0 (n := 0) (x := a0) rfl dX12_sums_31 rfl ?_
    obtain ⟨k2, ht⟩ := ht
    obtain ⟨q3, e4, ht⟩ := ht
    refine y_getR (pc2 := 35) (κ := 12) (k := 29) fl_X12_48 (by decide) (by decide) k2 rfl e4 dX12_sums_32 rfl ?_
    refine x_iload_n (pc2 := 36) 2 (n := 2) (x := (2400 + (6 * x1))) rfl dX12_sums_35 rfl ?_
    obtain ⟨k5, ht⟩ := ht
    obtain ⟨b6, ht⟩ := ht
    refine x_iald (pc2 := 37) k5 b6 dX12_sums_36 rfl ?_
    refine y_if_ne (pc2 := 40) 43 dX12_sums_37 (by decide) rfl (fun c7 => ?_) (fun c7 => ?_)
    · replace ht := ht.1 c7
      refine x_aload_n (pc2 := 44) 0 (n := 0) (x := a0) rfl dX12_sums_43 rfl ?_
      refine x_aload_n (pc2 := 45) 0 (n := 0) (x := a0) rfl dX12_sums_44 rfl ?_
      refine y_getR (pc2 := 48) (κ := 12) (k := 29) fl_X12_48 (by decide) (by decide) k2 rfl e4 dX12_sums_45 rfl ?_
      refine x_iload_n (pc2 := 49) 2 (n := 2) (x := (2400 + (6 * x1))) rfl dX12_sums_48 rfl ?_
      refine x_iconst (pc2 := 50) (v := 1) (by decide) dX12_sums_49 rfl ?_
      refine x_iadd (pc2 := 51) dX12_sums_50 rfl ?_
      obtain ⟨b8, ht⟩ := ht
      refine x_iald (pc2 := 52) k5 b8 dX12_sums_51 rfl ?_
      refine x_aload_n (pc2 := 53) 0 (n := 0) (x := a0) rfl dX12_sums_52 rfl ?_
      refine y_getR (pc2 := 56) (κ := 12) (k := 29) fl_X12_48 (by decide) (by decide) k2 rfl e4 dX12_sums_53 rfl ?_
      refine x_iload_n (pc2 := 57) 2 (n := 2) (x := (2400 + (6 * x1))) rfl dX12_sums_56 rfl ?_
      refine x_iconst (pc2 := 58) (v := 2) (by decide) dX12_sums_57 rfl ?_
      refine x_iadd (pc2 := 59) dX12_sums_58 rfl ?_
      obtain ⟨b9, ht⟩ := ht
      refine x_iald (pc2 := 60) k5 b9 dX12_sums_59 rfl ?_
      refine x_aload_n (pc2 := 61) 0 (n := 0) (x := a0) rfl dX12_sums_60 rfl ?_
      refine y_getR (pc2 := 64) (κ := 12) (k := 29) fl_X12_48 (by decide) (by decide) k2 rfl e4 dX12_sums_61 rfl ?_
      refine x_iload_n (pc2 := 65) 2 (n := 2) (x := (2400 + (6 * x1))) rfl dX12_sums_64 rfl ?_
      refine x_iconst (pc2 := 66) (v := 3) (by decide) dX12_sums_65 rfl ?_
      refine x_iadd (pc2 := 67) dX12_sums_66 rfl ?_
      obtain ⟨b10, ht⟩ := ht
      refine x_iald (pc2 := 68) k5 b10 dX12_sums_67 rfl ?_
      refine x_aload_n (pc2 := 69) 0 (n := 0) (x := a0) rfl dX12_sums_68 rfl ?_
      refine y_getR (pc2 := 72) (κ := 12) (k := 29) fl_X12_48 (by decide) (by decide) k2 rfl e4 dX12_sums_69 rfl ?_
      refine x_iload_n (pc2 := 73) 2 (n := 2) (x := (2400 + (6 * x1))) rfl dX12_sums_72 rfl ?_
      refine x_iconst (pc2 := 74) (v := 4) (by decide) dX12_sums_73 rfl ?_
      refine x_iadd (pc2 := 75) dX12_sums_74 rfl ?_
      obtain ⟨b11, ht⟩ := ht
      refine x_iald (pc2 := 76) k5 b11 dX12_sums_75 rfl ?_
      refine x_aload_n (pc2 := 77) 0 (n := 0) (x := a0) rfl dX12_sums_76 rfl ?_
      refine y_getR (pc2 := 80) (κ := 12) (k := 29) fl_X12_48 (by decide) (by decide) k2 rfl e4 dX12_sums_77 rfl ?_
      refine x_iload_n (pc2 := 81) 2 (n := 2) (x := (2400 + (6 * x1))) rfl dX12_sums_80 rfl ?_
      refine x_iconst (pc2 := 82) (v := 5) (by decide) dX12_sums_81 rfl ?_
      refine x_iadd (pc2 := 83) dX12_sums_82 rfl ?_
      obtain ⟨b12, ht⟩ := ht
      refine x_iald (pc2 := 84) k5 b12 dX12_sums_83 rfl ?_
      refine x_callV (pc2 := 87) (As := [.int (hI h q3 ((2400 + (6 * x1)) + 1).toNatClampNeg), .int (hI h q3 ((2400 + (6 * x1)) + 2).toNatClampNeg), .int (hI h q3 ((2400 + (6 * x1)) + 3).toNatClampNeg), .int (hI h q3 ((2400 + (6 * x1)) + 4).toNatClampNeg), .int (hI h q3 ((2400 + (6 * x1)) + 5).toNatClampNeg)]) (rest := []) (b := a0) mv_X12_wayOf ml_X12_529 k2 rfl rfl (Nat.le_of_ble_eq_true rfl) hd1 dX12_sums_84 rfl (ht.mono (fun r13 h14 p15 ht' => ?_))
      clear ht
      obtain ⟨v16, rfl, ht⟩ := ht'
      show Ex G d mX12_sums 87 [(0, .ref a0), (1, .int x1), (2, .int (2400 + (6 * x1)))] [.int v16] h14 Q
      refine x_istore_n (pc2 := 88) [1, 2, 3, 0] (n := 3) (x := v16) (lv2 := [(0, .ref a0), (1, .int x1), (2, .int (2400 + (6 * x1))), (3, .int v16)]) (by decide) rfl dX12_sums_87 rfl ?_
      refine x_aload_n (pc2 := 89) 0 (n := 0) (x := a0) rfl dX12_sums_88 rfl ?_
      refine x_dup (pc2 := 90) rfl dX12_sums_89 rfl ?_
      refine y_getI (pc2 := 93) (κ := 12) (k := 47) fl_X12_538 (by decide) (by decide) (k2.up p15) rfl dX12_sums_90 rfl ?_
      refine x_iload_n (pc2 := 94) 3 (n := 3) (x := v16) rfl dX12_sums_93 rfl ?_
      refine x_if_ge (pc2 := 97) 103 dX12_sums_94 (by decide) rfl (fun c17 => ?_) (fun c17 => ?_)
      · replace ht := ht.1 c17
        refine x_iload_n (pc2 := 104) 3 (n := 3) (x := v16) rfl dX12_sums_103 rfl ?_
        refine x_sipush (pc2 := 107) (v := 10000) (by decide) dX12_sums_104 rfl ?_
        refine x_idiv (pc2 := 108) (by decide) dX12_sums_107 rfl ?_
        exact ht
      · replace ht := ht.2 c17
        refine x_sipush (pc2 := 100) (v := 999) (by decide) dX12_sums_97 rfl ?_
        refine x_goto 108 dX12_sums_100 (by decide) ?_
        exact ht
    · replace ht := ht.2 c7
      refine x_goto 136 dX12_sums_40 (by decide) ?_
      refine x_iinc (pc2 := 139) 1 [1, 0, 2] (i := 1) (x := x1) (v := (x1 + 1)) (lv2 := [(0, .ref a0), (1, .int (x1 + 1)), (2, .int (2400 + (6 * x1)))]) rfl (iinc_eq (by decide) _) (by decide) rfl dX12_sums_136 rfl ?_
      refine x_goto 16 dX12_sums_139 (by decide) ?_
      refine x_sub [0, 1] (lv2 := [(0, .ref a0), (1, .int (x1 + 1))]) rfl ?_
      exact ht
def T_X12_sums_108 (G : GG) (d : Nat) (h : HP) (Q : Option Value → HP → Prop) (a0 : Nat) (x1 : Int32) (x2 : Int32) (x3 : Int32) (sa0 : Nat) (sx1 : Int32) (sx2 : Int32) : Prop :=
  Kd G h sa0 12 ∧ Kd G (sI h sa0 47 (sx1 + sx2)) a0 12 ∧ ((0 ≤ x3 → ∀ h4, h4 = (sI (sI h sa0 47 (sx1 + sx2)) a0 48 ((hI (sI h sa0 47 (sx1 + sx2)) a0 48) + (irm x3 10000))) → Ex G d mX12_sums 16 [(0, .ref a0), (1, .int (x1 + 1))] [] h4 Q) ∧ (¬ 0 ≤ x3 → Ex G d mX12_sums 16 [(0, .ref a0), (1, .int (x1 + 1))] [] (sI (sI h sa0 47 (sx1 + sx2)) a0 48 ((hI (sI h sa0 47 (sx1 + sx2)) a0 48) + 9999)) Q))
set_option maxRecDepth 20000 in
theorem t_X12_sums_108 {G : GG} {d : Nat} {h : HP} {Q : Option Value → HP → Prop} {a0 : Nat} {x1 : Int32} {x2 : Int32} {x3 : Int32} {sa0 : Nat} {sx1 : Int32} {sx2 : Int32} (ht : T_X12_sums_108 G d h Q a0 x1 x2 x3 sa0 sx1 sx2) : Ex G d mX12_sums 108 [(0, .ref a0), (1, .int x1), (2, .int x2), (3, .int x3)] [.int sx2, .int sx1, .ref sa0] h Q := by
  unfold T_X12_sums_108 at ht
  refine x_iadd (pc2 := 109) dX12_sums_108 rfl ?_
  obtain ⟨k1, ht⟩ := ht
  refine x_putI (pc2 := 112) (κ := 12) (k := 47) fl_X12_538 (by decide) (by decide) (Or.inl rfl) rfl k1 dX12_sums_109 rfl ?_
  refine x_aload_n (pc2 := 113) 0 (n := 0) (x := a0) rfl dX12_sums_112 rfl ?_
  refine x_dup (pc2 := 114) rfl dX12_sums_113 rfl ?_
  obtain ⟨k2, ht⟩ := ht
  refine y_getI (pc2 := 117) (κ := 12) (k := 48) fl_X12_541 (by decide) (by decide) k2 rfl dX12_sums_114 rfl ?_
  refine x_iload_n (pc2 := 118) 3 (n := 3) (x := x3) rfl dX12_sums_117 rfl ?_
  refine x_if_ge (pc2 := 121) 127 dX12_sums_118 (by decide) rfl (fun c3 => ?_) (fun c3 => ?_)
  · replace ht := ht.1 c3
    refine x_iload_n (pc2 := 128) 3 (n := 3) (x := x3) rfl dX12_sums_127 rfl ?_
    refine x_sipush (pc2 := 131) (v := 10000) (by decide) dX12_sums_128 rfl ?_
    refine y_irem (pc2 := 132) (by decide) dX12_sums_131 rfl ?_
    refine x_iadd (pc2 := 133) dX12_sums_132 rfl ?_
    refine x_putI (pc2 := 136) (κ := 12) (k := 48) fl_X12_541 (by decide) (by decide) (Or.inl rfl) rfl k2 dX12_sums_133 rfl ?_
    refine nm_I (fun h4 e5 p6 => ?_)
    replace ht := ht h4 e5
    refine x_iinc (pc2 := 139) 1 [1, 0, 2, 3] (i := 1) (x := x1) (v := (x1 + 1)) (lv2 := [(0, .ref a0), (1, .int (x1 + 1)), (2, .int x2), (3, .int x3)]) rfl (iinc_eq (by decide) _) (by decide) rfl dX12_sums_136 rfl ?_
    refine x_goto 16 dX12_sums_139 (by decide) ?_
    refine x_sub [0, 1] (lv2 := [(0, .ref a0), (1, .int (x1 + 1))]) rfl ?_
    exact ht
  · replace ht := ht.2 c3
    refine x_sipush (pc2 := 124) (v := 9999) (by decide) dX12_sums_121 rfl ?_
    refine x_goto 132 dX12_sums_124 (by decide) ?_
    refine x_iadd (pc2 := 133) dX12_sums_132 rfl ?_
    refine x_putI (pc2 := 136) (κ := 12) (k := 48) fl_X12_541 (by decide) (by decide) (Or.inl rfl) rfl k2 dX12_sums_133 rfl ?_
    refine x_iinc (pc2 := 139) 1 [1, 0, 2, 3] (i := 1) (x := x1) (v := (x1 + 1)) (lv2 := [(0, .ref a0), (1, .int (x1 + 1)), (2, .int x2), (3, .int x3)]) rfl (iinc_eq (by decide) _) (by decide) rfl dX12_sums_136 rfl ?_
    refine x_goto 16 dX12_sums_139 (by decide) ?_
    refine x_sub [0, 1] (lv2 := [(0, .ref a0), (1, .int (x1 + 1))]) rfl ?_
    exact ht
def T_X12_sum_ (G : GG) (d : Nat) (h : HP) (Q : Option Value → HP → Prop) (a0 : Nat) (x1 : Int32) : Prop :=
  Cal G (d - 1) mX12_in [.long (x1.toInt64), .long 0, .long 1] h (fun r1 h2 => ∃ v4, r1 = some (.int v4) ∧ ((¬ v4 = 0 → Kd G h2 a0 12 ∧ Cal G (d - 1) mX12_sums [.ref a0] h2 (fun r6 h7 => r6 = none ∧ ((¬ x1 = 0 → Q (some (.int (hI h7 a0 48))) h7) ∧ (x1 = 0 → Q (some (.int (hI h7 a0 47))) h7)))) ∧ (v4 = 0 → Q (some (.int (-1))) h2)))
set_option maxRecDepth 20000 in
theorem t_X12_sum_ {G : GG} {d : Nat} {h : HP} {Q : Option Value → HP → Prop} {a0 : Nat} {x1 : Int32} (hd1 : 1 ≤ d) (ht : T_X12_sum_ G d h Q a0 x1) : Ex G d mX12_sum_ 0 [(0, .ref a0), (1, .int x1)] [] h Q := by
  unfold T_X12_sum_ at ht
  refine x_iload_n (pc2 := 1) 1 (n := 1) (x := x1) rfl dX12_sum__0 rfl ?_
  refine x_i2l (pc2 := 2) dX12_sum__1 rfl ?_
  refine x_lconst (pc2 := 3) (v := 0) (by decide) dX12_sum__2 rfl ?_
  refine x_lconst (pc2 := 4) (v := 1) (by decide) dX12_sum__3 rfl ?_
  refine x_callS (pc2 := 7) (As := [.long (x1.toInt64), .long 0, .long 1]) (rest := []) ms_X12_in ml_X12_112 rfl rfl (Nat.le_of_ble_eq_true rfl) hd1 dX12_sum__4 rfl (ht.mono (fun r1 h2 p3 ht' => ?_))
  clear ht
  obtain ⟨v4, rfl, ht⟩ := ht'
  show Ex G d mX12_sum_ 7 [(0, .ref a0), (1, .int x1)] [.int v4] h2 Q
  refine y_if_ne (pc2 := 10) 12 dX12_sum__7 (by decide) rfl (fun c5 => ?_) (fun c5 => ?_)
  · replace ht := ht.1 c5
    refine x_aload_n (pc2 := 13) 0 (n := 0) (x := a0) rfl dX12_sum__12 rfl ?_
    obtain ⟨k9, ht⟩ := ht
    refine x_callV (pc2 := 16) (As := []) (rest := []) (b := a0) mv_X12_sums ml_X12_544 k9 rfl rfl (Nat.le_of_ble_eq_true rfl) hd1 dX12_sum__13 rfl (ht.mono (fun r6 h7 p8 ht' => ?_))
    clear ht
    obtain ⟨rfl, ht⟩ := ht'
    show Ex G d mX12_sum_ 16 [(0, .ref a0), (1, .int x1)] [] h7 Q
    refine x_iload_n (pc2 := 17) 1 (n := 1) (x := x1) rfl dX12_sum__16 rfl ?_
    refine y_if_ne (pc2 := 20) 27 dX12_sum__17 (by decide) rfl (fun c10 => ?_) (fun c10 => ?_)
    · replace ht := ht.1 c10
      refine x_aload_n (pc2 := 28) 0 (n := 0) (x := a0) rfl dX12_sum__27 rfl ?_
      refine y_getI (pc2 := 31) (κ := 12) (k := 48) fl_X12_541 (by decide) (by decide) (k9.up p8) rfl dX12_sum__28 rfl ?_
      exact x_ret (ty := .int) rfl rfl dX12_sum__31 ht
    · replace ht := ht.2 c10
      refine x_aload_n (pc2 := 21) 0 (n := 0) (x := a0) rfl dX12_sum__20 rfl ?_
      refine y_getI (pc2 := 24) (κ := 12) (k := 47) fl_X12_538 (by decide) (by decide) (k9.up p8) rfl dX12_sum__21 rfl ?_
      refine x_goto 31 dX12_sum__24 (by decide) ?_
      exact x_ret (ty := .int) rfl rfl dX12_sum__31 ht
  · replace ht := ht.2 c5
    refine x_iconst (pc2 := 11) (v := (-1)) (by decide) dX12_sum__10 rfl ?_
    exact x_ret (ty := .int) rfl rfl dX12_sum__11 ht
theorem e_X12_sum_ {G : GG} {d : Nat} {h : HP} {Q : Option Value → HP → Prop} {a0 : Nat} {x1 : Int32} (hd1 : 1 ≤ d) (ht : T_X12_sum_ G d h Q a0 x1) : Cal G d mX12_sum_ [.ref a0, .int x1] h Q := cal_of rfl (Nat.le_of_ble_eq_true rfl) (t_X12_sum_ hd1 ht)
def T_X12_where (G : GG) (d : Nat) (h : HP) (Q : Option Value → HP → Prop) (a0 : Nat) (x1 : Int32) (x2 : Int32) : Prop :=
  Kd G h a0 12 ∧ Cal G (d - 1) mX12_isWall [.ref a0, .int x1] h (fun r1 h2 => ∃ v5, r1 = some (.int v5) ∧ ((v5 = 0 → Q (some (.int (-1))) h2) ∧ (¬ v5 = 0 → Cal G (d - 1) mX12_in [.long (x2.toInt64), .long 0, .long 1] h2 (fun r7 h8 => ∃ v10, r7 = some (.int v10) ∧ ((¬ v10 = 0 → Cal G (d - 1) mX12_of [.ref a0, .int x1, .int 7] h8 (fun r12 h13 => ∃ v15, r12 = some (.int v15) ∧ Cal G (d - 1) mX12_of [.ref a0, .int x1, .int 8] h13 (fun r16 h17 => ∃ v19, r16 = some (.int v19) ∧ Cal G (d - 1) mX12_of [.ref a0, .int x1, .int 9] h17 (fun r20 h21 => ∃ v23, r20 = some (.int v23) ∧ Ex G d mX12_where 61 [(0, .ref a0), (1, .int x1), (2, .int x2), (3, .int v15), (4, .int v19), (5, .int v23), (6, .int (-1)), (7, .int 0), (8, .int 0), (9, .int 0), (10, .int 0)] [] h21 Q)))) ∧ (v10 = 0 → Q (some (.int (-1))) h8))))))
set_option maxRecDepth 20000 in
theorem t_X12_where {G : GG} {d : Nat} {h : HP} {Q : Option Value → HP → Prop} {a0 : Nat} {x1 : Int32} {x2 : Int32} (hd1 : 1 ≤ d) (ht : T_X12_where G d h Q a0 x1 x2) : Ex G d mX12_where 0 [(0, .ref a0), (1, .int x1), (2, .int x2)] [] h Q := by
  unfold T_X12_where at ht
  refine x_aload_n (pc2 := 1) 0 (n := 0) (x := a0) rfl dX12_where_0 rfl ?_
  refine x_iload_n (pc2 := 2) 1 (n := 1) (x := x1) rfl dX12_where_1 rfl ?_
  obtain ⟨k4, ht⟩ := ht
  refine x_callV (pc2 := 5) (As := [.int x1]) (rest := []) (b := a0) mv_X12_isWall ml_X12_423 k4 rfl rfl (Nat.le_of_ble_eq_true rfl) hd1 dX12_where_2 rfl (ht.mono (fun r1 h2 p3 ht' => ?_))
  clear ht
  obtain ⟨v5, rfl, ht⟩ := ht'
  show Ex G d mX12_where 5 [(0, .ref a0), (1, .int x1), (2, .int x2)] [.int v5] h2 Q
  refine x_if_eq (pc2 := 8) 18 dX12_where_5 (by decide) rfl (fun c6 => ?_) (fun c6 => ?_)
  · replace ht := ht.1 c6
    refine x_iconst (pc2 := 19) (v := (-1)) (by decide) dX12_where_18 rfl ?_
    exact x_ret (ty := .int) rfl rfl dX12_where_19 ht
  · replace ht := ht.2 c6
    refine x_iload_n (pc2 := 9) 2 (n := 2) (x := x2) rfl dX12_where_8 rfl ?_
    refine x_i2l (pc2 := 10) dX12_where_9 rfl ?_
    refine x_lconst (pc2 := 11) (v := 0) (by decide) dX12_where_10 rfl ?_
    refine x_lconst (pc2 := 12) (v := 1) (by decide) dX12_where_11 rfl ?_
    refine x_callS (pc2 := 15) (As := [.long (x2.toInt64), .long 0, .long 1]) (rest := []) ms_X12_in ml_X12_112 rfl rfl (Nat.le_of_ble_eq_true rfl) hd1 dX12_where_12 rfl (ht.mono (fun r7 h8 p9 ht' => ?_))
    clear ht
    obtain ⟨v10, rfl, ht⟩ := ht'
    show Ex G d mX12_where 15 [(0, .ref a0), (1, .int x1), (2, .int x2)] [.int v10] h8 Q
    refine y_if_ne (pc2 := 18) 20 dX12_where_15 (by decide) rfl (fun c11 => ?_) (fun c11 => ?_)
    · replace ht := ht.1 c11
      refine x_aload_n (pc2 := 21) 0 (n := 0) (x := a0) rfl dX12_where_20 rfl ?_
      refine x_iload_n (pc2 := 22) 1 (n := 1) (x := x1) rfl dX12_where_21 rfl ?_
      refine x_bipush (pc2 := 24) (v := 7) (by decide) dX12_where_22 rfl ?_
      refine x_callV (pc2 := 27) (As := [.int x1, .int 7]) (rest := []) (b := a0) mv_X12_of ml_X12_310 ((k4.up p3).up p9) rfl rfl (Nat.le_of_ble_eq_true rfl) hd1 dX12_where_24 rfl (ht.mono (fun r12 h13 p14 ht' => ?_))
      clear ht
      obtain ⟨v15, rfl, ht⟩ := ht'
      show Ex G d mX12_where 27 [(0, .ref a0), (1, .int x1), (2, .int x2)] [.int v15] h13 Q
      refine x_istore_n (pc2 := 28) [1, 2, 3, 0] (n := 3) (x := v15) (lv2 := [(0, .ref a0), (1, .int x1), (2, .int x2), (3, .int v15)]) (by decide) rfl dX12_where_27 rfl ?_
      refine x_aload_n (pc2 := 29) 0 (n := 0) (x := a0) rfl dX12_where_28 rfl ?_
      refine x_iload_n (pc2 := 30) 1 (n := 1) (x := x1) rfl dX12_where_29 rfl ?_
      refine x_bipush (pc2 := 32) (v := 8) (by decide) dX12_where_30 rfl ?_
      refine x_callV (pc2 := 35) (As := [.int x1, .int 8]) (rest := []) (b := a0) mv_X12_of ml_X12_310 (((k4.up p3).up p9).up p14) rfl rfl (Nat.le_of_ble_eq_true rfl) hd1 dX12_where_32 rfl (ht.mono (fun r16 h17 p18 ht' => ?_))
      clear ht
      obtain ⟨v19, rfl, ht⟩ := ht'
      show Ex G d mX12_where 35 [(0, .ref a0), (1, .int x1), (2, .int x2), (3, .int v15)] [.int v19] h17 Q
      refine x_istore (pc2 := 37) [1, 2, 3, 4, 0] (n := 4) (x := v19) (lv2 := [(0, .ref a0), (1, .int x1), (2, .int x2), (3, .int v15), (4, .int v19)]) (by decide) rfl dX12_where_35 rfl ?_
      refine x_aload_n (pc2 := 38) 0 (n := 0) (x := a0) rfl dX12_where_37 rfl ?_
      refine x_iload_n (pc2 := 39) 1 (n := 1) (x := x1) rfl dX12_where_38 rfl ?_
      refine x_bipush (pc2 := 41) (v := 9) (by decide) dX12_where_39 rfl ?_
      refine x_callV (pc2 := 44) (As := [.int x1, .int 9]) (rest := []) (b := a0) mv_X12_of ml_X12_310 ((((k4.up p3).up p9).up p14).up p18) rfl rfl (Nat.le_of_ble_eq_true rfl) hd1 dX12_where_41 rfl (ht.mono (fun r20 h21 p22 ht' => ?_))
      clear ht
      obtain ⟨v23, rfl, ht⟩ := ht'
      show Ex G d mX12_where 44 [(0, .ref a0), (1, .int x1), (2, .int x2), (3, .int v15), (4, .int v19)] [.int v23] h21 Q
      refine x_istore (pc2 := 46) [1, 2, 3, 4, 5, 0] (n := 5) (x := v23) (lv2 := [(0, .ref a0), (1, .int x1), (2, .int x2), (3, .int v15), (4, .int v19), (5, .int v23)]) (by decide) rfl dX12_where_44 rfl ?_
      refine x_iconst (pc2 := 47) (v := (-1)) (by decide) dX12_where_46 rfl ?_
      refine x_istore (pc2 := 49) [1, 2, 3, 4, 5, 6, 0] (n := 6) (x := (-1)) (lv2 := [(0, .ref a0), (1, .int x1), (2, .int x2), (3, .int v15), (4, .int v19), (5, .int v23), (6, .int (-1))]) (by decide) rfl dX12_where_47 rfl ?_
      refine x_iconst (pc2 := 50) (v := 0) (by decide) dX12_where_49 rfl ?_
      refine x_istore (pc2 := 52) [1, 2, 3, 4, 5, 6, 7, 0] (n := 7) (x := 0) (lv2 := [(0, .ref a0), (1, .int x1), (2, .int x2), (3, .int v15), (4, .int v19), (5, .int v23), (6, .int (-1)), (7, .int 0)]) (by decide) rfl dX12_where_50 rfl ?_
      refine x_iconst (pc2 := 53) (v := 0) (by decide) dX12_where_52 rfl ?_
      refine x_istore (pc2 := 55) [1, 2, 3, 4, 5, 6, 7, 8, 0] (n := 8) (x := 0) (lv2 := [(0, .ref a0), (1, .int x1), (2, .int x2), (3, .int v15), (4, .int v19), (5, .int v23), (6, .int (-1)), (7, .int 0), (8, .int 0)]) (by decide) rfl dX12_where_53 rfl ?_
      refine x_iconst (pc2 := 56) (v := 0) (by decide) dX12_where_55 rfl ?_
      refine x_istore (pc2 := 58) [1, 2, 3, 4, 5, 6, 7, 8, 9, 0] (n := 9) (x := 0) (lv2 := [(0, .ref a0), (1, .int x1), (2, .int x2), (3, .int v15), (4, .int v19), (5, .int v23), (6, .int (-1)), (7, .int 0), (8, .int 0), (9, .int 0)]) (by decide) rfl dX12_where_56 rfl ?_
      refine x_iconst (pc2 := 59) (v := 0) (by decide) dX12_where_58 rfl ?_
      refine x_istore (pc2 := 61) [1, 2, 3, 4, 5, 6, 7, 8, 9, 10, 0] (n := 10) (x := 0) (lv2 := [(0, .ref a0), (1, .int x1), (2, .int x2), (3, .int v15), (4, .int v19), (5, .int v23), (6, .int (-1)), (7, .int 0), (8, .int 0), (9, .int 0), (10, .int 0)]) (by decide) rfl dX12_where_59 rfl ?_
      exact ht
    · replace ht := ht.2 c11
      refine x_iconst (pc2 := 19) (v := (-1)) (by decide) dX12_where_18 rfl ?_
      exact x_ret (ty := .int) rfl rfl dX12_where_19 ht
theorem e_X12_where {G : GG} {d : Nat} {h : HP} {Q : Option Value → HP → Prop} {a0 : Nat} {x1 : Int32} {x2 : Int32} (hd1 : 1 ≤ d) (ht : T_X12_where G d h Q a0 x1 x2) : Cal G d mX12_where [.ref a0, .int x1, .int x2] h Q := cal_of rfl (Nat.le_of_ble_eq_true rfl) (t_X12_where hd1 ht)
def T_X12_where_61 (G : GG) (d : Nat) (h : HP) (Q : Option Value → HP → Prop) (a0 : Nat) (x1 : Int32) (x2 : Int32) (x3 : Int32) (x4 : Int32) (x5 : Int32) (x6 : Int32) (x7 : Int32) (x8 : Int32) (x9 : Int32) (x10 : Int32) : Prop :=
  ((4 ≤ x10 → Kd G h a0 12 ∧ Cal G (d - 1) mX12_gates [.ref a0, .int x1, .int x3, .int x4, .int x5] h (fun r2 h3 => r2 = none ∧ ((¬ x2 = 0 → Q (some (.int x7)) h3) ∧ (x2 = 0 → Q (some (.int x6)) h3)))) ∧ (¬ 4 ≤ x10 → Ex G d mX12_where 70 [(0, .ref a0), (1, .int x1), (2, .int x2), (3, .int x3), (4, .int x4), (5, .int x5), (6, .int x6), (7, .int x7), (8, .int x8), (9, .int x9), (10, .int x10), (11, .int 0)] [] h Q))
set_option maxRecDepth 20000 in
theorem t_X12_where_61 {G : GG} {d : Nat} {h : HP} {Q : Option Value → HP → Prop} {a0 : Nat} {x1 : Int32} {x2 : Int32} {x3 : Int32} {x4 : Int32} {x5 : Int32} {x6 : Int32} {x7 : Int32} {x8 : Int32} {x9 : Int32} {x10 : Int32} (hd1 : 1 ≤ d) (ht : T_X12_where_61 G d h Q a0 x1 x2 x3 x4 x5 x6 x7 x8 x9 x10) : Ex G d mX12_where 61 [(0, .ref a0), (1, .int x1), (2, .int x2), (3, .int x3), (4, .int x4), (5, .int x5), (6, .int x6), (7, .int x7), (8, .int x8), (9, .int x9), (10, .int x10)] [] h Q := by
  unfold T_X12_where_61 at ht
  refine x_iload (pc2 := 63) 10 (n := 10) (x := x10) rfl dX12_where_61 rfl ?_
  refine x_iconst (pc2 := 64) (v := 4) (by decide) dX12_where_63 rfl ?_
  refine x_icmp_ge (pc2 := 67) 174 dX12_where_64 (by decide) rfl (fun c1 => ?_) (fun c1 => ?_)
  · replace ht := ht.1 c1
    refine x_aload_n (pc2 := 175) 0 (n := 0) (x := a0) rfl dX12_where_174 rfl ?_
    refine x_iload_n (pc2 := 176) 1 (n := 1) (x := x1) rfl dX12_where_175 rfl ?_
    refine x_iload_n (pc2 := 177) 3 (n := 3) (x := x3) rfl dX12_where_176 rfl ?_
    refine x_iload (pc2 := 179) 4 (n := 4) (x := x4) rfl dX12_where_177 rfl ?_
    refine x_iload (pc2 := 181) 5 (n := 5) (x := x5) rfl dX12_where_179 rfl ?_
    obtain ⟨k5, ht⟩ := ht
    refine x_callV (pc2 := 184) (As := [.int x1, .int x3, .int x4, .int x5]) (rest := []) (b := a0) mv_X12_gates ml_X12_439 k5 rfl rfl (Nat.le_of_ble_eq_true rfl) hd1 dX12_where_181 rfl (ht.mono (fun r2 h3 p4 ht' => ?_))
    clear ht
    obtain ⟨rfl, ht⟩ := ht'
    show Ex G d mX12_where 184 [(0, .ref a0), (1, .int x1), (2, .int x2), (3, .int x3), (4, .int x4), (5, .int x5), (6, .int x6), (7, .int x7), (8, .int x8), (9, .int x9), (10, .int x10)] [] h3 Q
    refine x_iload_n (pc2 := 185) 2 (n := 2) (x := x2) rfl dX12_where_184 rfl ?_
    refine y_if_ne (pc2 := 188) 193 dX12_where_185 (by decide) rfl (fun c6 => ?_) (fun c6 => ?_)
    · replace ht := ht.1 c6
      refine x_iload (pc2 := 195) 7 (n := 7) (x := x7) rfl dX12_where_193 rfl ?_
      exact x_ret (ty := .int) rfl rfl dX12_where_195 ht
    · replace ht := ht.2 c6
      refine x_iload (pc2 := 190) 6 (n := 6) (x := x6) rfl dX12_where_188 rfl ?_
      refine x_goto 195 dX12_where_190 (by decide) ?_
      exact x_ret (ty := .int) rfl rfl dX12_where_195 ht
  · replace ht := ht.2 c1
    refine x_iconst (pc2 := 68) (v := 0) (by decide) dX12_where_67 rfl ?_
    refine x_istore (pc2 := 70) [1, 2, 3, 4, 5, 6, 7, 8, 9, 10, 11, 0] (n := 11) (x := 0) (lv2 := [(0, .ref a0), (1, .int x1), (2, .int x2), (3, .int x3), (4, .int x4), (5, .int x5), (6, .int x6), (7, .int x7), (8, .int x8), (9, .int x9), (10, .int x10), (11, .int 0)]) (by decide) rfl dX12_where_68 rfl ?_
    exact ht
def T_X12_where_70 (G : GG) (d : Nat) (h : HP) (Q : Option Value → HP → Prop) (a0 : Nat) (x1 : Int32) (x2 : Int32) (x3 : Int32) (x4 : Int32) (x5 : Int32) (x6 : Int32) (x7 : Int32) (x8 : Int32) (x9 : Int32) (x10 : Int32) (x11 : Int32) : Prop :=
  Kd G h a0 12 ∧ Cal G (d - 1) mX12_sideOf [.ref a0, .int x1, .int x10] h (fun r1 h2 => ∃ v5, r1 = some (.int v5) ∧ ((v5 ≤ x11 → Ex G d mX12_where 61 [(0, .ref a0), (1, .int x1), (2, .int x2), (3, .int x3), (4, .int x4), (5, .int x5), (6, .int x6), (7, .int x7), (8, .int x8), (9, .int x9), (10, .int (x10 + 1))] [] h2 Q) ∧ (¬ v5 ≤ x11 → ((¬ x5 = (-1) → Ex G d mX12_where 100 [(0, .ref a0), (1, .int x1), (2, .int x2), (3, .int x3), (4, .int x4), (5, .int x5), (6, .int x6), (7, .int x7), (8, .int x8), (9, .int x9), (10, .int x10), (11, .int x11)] [.int x5, .int x11, .int x10, .int x1, .ref a0] h2 Q) ∧ (x5 = (-1) → Ex G d mX12_where 100 [(0, .ref a0), (1, .int x1), (2, .int x2), (3, .int x3), (4, .int x4), (5, .int x5), (6, .int x6), (7, .int x7), (8, .int x8), (9, .int x9), (10, .int x10), (11, .int x11)] [.int 0, .int x11, .int x10, .int x1, .ref a0] h2 Q)))))
set_option maxRecDepth 20000 in
theorem t_X12_where_70 {G : GG} {d : Nat} {h : HP} {Q : Option Value → HP → Prop} {a0 : Nat} {x1 : Int32} {x2 : Int32} {x3 : Int32} {x4 : Int32} {x5 : Int32} {x6 : Int32} {x7 : Int32} {x8 : Int32} {x9 : Int32} {x10 : Int32} {x11 : Int32} (hd1 : 1 ≤ d) (ht : T_X12_where_70 G d h Q a0 x1 x2 x3 x4 x5 x6 x7 x8 x9 x10 x11) : Ex G d mX12_where 70 [(0, .ref a0), (1, .int x1), (2, .int x2), (3, .int x3), (4, .int x4), (5, .int x5), (6, .int x6), (7, .int x7), (8, .int x8), (9, .int x9), (10, .int x10), (11, .int x11)] [] h Q := by
  unfold T_X12_where_70 at ht
  refine x_iload (pc2 := 72) 11 (n := 11) (x := x11) rfl dX12_where_70 rfl ?_
  refine x_aload_n (pc2 := 73) 0 (n := 0) (x := a0) rfl dX12_where_72 rfl ?_
  refine x_iload_n (pc2 := 74) 1 (n := 1) (x := x1) rfl dX12_where_73 rfl ?_
  refine x_iload (pc2 := 76) 10 (n := 10) (x := x10) rfl dX12_where_74 rfl ?_
  obtain ⟨k4, ht⟩ := ht
  refine x_callV (pc2 := 79) (As := [.int x1, .int x10]) (rest := [.int x11]) (b := a0) mv_X12_sideOf ml_X12_434 k4 rfl rfl (Nat.le_of_ble_eq_true rfl) hd1 dX12_where_76 rfl (ht.mono (fun r1 h2 p3 ht' => ?_))
  clear ht
  obtain ⟨v5, rfl, ht⟩ := ht'
  show Ex G d mX12_where 79 [(0, .ref a0), (1, .int x1), (2, .int x2), (3, .int x3), (4, .int x4), (5, .int x5), (6, .int x6), (7, .int x7), (8, .int x8), (9, .int x9), (10, .int x10), (11, .int x11)] [.int v5, .int x11] h2 Q
  refine x_icmp_ge (pc2 := 82) 168 dX12_where_79 (by decide) rfl (fun c6 => ?_) (fun c6 => ?_)
  · replace ht := ht.1 c6
    refine x_iinc (pc2 := 171) 10 [1, 2, 3, 4, 5, 6, 7, 8, 9, 10, 0, 11] (i := 10) (x := x10) (v := (x10 + 1)) (lv2 := [(0, .ref a0), (1, .int x1), (2, .int x2), (3, .int x3), (4, .int x4), (5, .int x5), (6, .int x6), (7, .int x7), (8, .int x8), (9, .int x9), (10, .int (x10 + 1)), (11, .int x11)]) rfl (iinc_eq (by decide) _) (by decide) rfl dX12_where_168 rfl ?_
    refine x_goto 61 dX12_where_171 (by decide) ?_
    refine x_sub [0, 1, 2, 3, 4, 5, 6, 7, 8, 9, 10] (lv2 := [(0, .ref a0), (1, .int x1), (2, .int x2), (3, .int x3), (4, .int x4), (5, .int x5), (6, .int x6), (7, .int x7), (8, .int x8), (9, .int x9), (10, .int (x10 + 1))]) rfl ?_
    exact ht
  · replace ht := ht.2 c6
    refine x_aload_n (pc2 := 83) 0 (n := 0) (x := a0) rfl dX12_where_82 rfl ?_
    refine x_iload_n (pc2 := 84) 1 (n := 1) (x := x1) rfl dX12_where_83 rfl ?_
    refine x_iload (pc2 := 86) 10 (n := 10) (x := x10) rfl dX12_where_84 rfl ?_
    refine x_iload (pc2 := 88) 11 (n := 11) (x := x11) rfl dX12_where_86 rfl ?_
    refine x_iload (pc2 := 90) 5 (n := 5) (x := x5) rfl dX12_where_88 rfl ?_
    refine x_iconst (pc2 := 91) (v := (-1)) (by decide) dX12_where_90 rfl ?_
    refine y_icmp_ne (pc2 := 94) 98 dX12_where_91 (by decide) rfl (fun c7 => ?_) (fun c7 => ?_)
    · replace ht := ht.1 c7
      refine x_iload (pc2 := 100) 5 (n := 5) (x := x5) rfl dX12_where_98 rfl ?_
      exact ht
    · replace ht := ht.2 c7
      refine x_iconst (pc2 := 95) (v := 0) (by decide) dX12_where_94 rfl ?_
      refine x_goto 100 dX12_where_95 (by decide) ?_
      exact ht
def T_X12_where_100 (G : GG) (d : Nat) (h : HP) (Q : Option Value → HP → Prop) (a0 : Nat) (x1 : Int32) (x2 : Int32) (x3 : Int32) (x4 : Int32) (x5 : Int32) (x6 : Int32) (x7 : Int32) (x8 : Int32) (x9 : Int32) (x10 : Int32) (x11 : Int32) (sa0 : Nat) (sx1 : Int32) (sx2 : Int32) (sx3 : Int32) (sx4 : Int32) : Prop :=
  Kd G h sa0 12 ∧ Cal G (d - 1) mX12_gates [.ref sa0, .int sx1, .int sx2, .int sx3, .int sx4] h (fun r1 h2 => r1 = none ∧ Kd G h2 a0 12 ∧ Cal G (d - 1) mX12_sums [.ref a0] h2 (fun r5 h6 => r5 = none ∧ ((x6 < 0 → Ex G d mX12_where 142 [(0, .ref a0), (1, .int x1), (2, .int x2), (3, .int x3), (4, .int x4), (5, .int x5), (6, .int x6), (7, .int x7), (8, .int x8), (9, .int x9), (10, .int x10), (11, .int x11)] [] h6 Q) ∧ (¬ x6 < 0 → ((x8 < (hI h6 a0 47) → Ex G d mX12_where 70 [(0, .ref a0), (1, .int x1), (2, .int x2), (3, .int x3), (4, .int x4), (5, .int x5), (6, .int x6), (7, .int x7), (8, .int x8), (9, .int x9), (10, .int x10), (11, .int (x11 + 1))] [] h6 Q) ∧ (¬ x8 < (hI h6 a0 47) → ((¬ (hI h6 a0 47) = x8 → Ex G d mX12_where 142 [(0, .ref a0), (1, .int x1), (2, .int x2), (3, .int x3), (4, .int x4), (5, .int x5), (6, .int x6), (7, .int x7), (8, .int x8), (9, .int x9), (10, .int x10), (11, .int x11)] [] h6 Q) ∧ ((hI h6 a0 47) = x8 → (((hI h6 a0 48) < x9 → Ex G d mX12_where 142 [(0, .ref a0), (1, .int x1), (2, .int x2), (3, .int x3), (4, .int x4), (5, .int x5), (6, .int x6), (7, .int x7), (8, .int x8), (9, .int x9), (10, .int x10), (11, .int x11)] [] h6 Q) ∧ (¬ (hI h6 a0 48) < x9 → Ex G d mX12_where 70 [(0, .ref a0), (1, .int x1), (2, .int x2), (3, .int x3), (4, .int x4), (5, .int x5), (6, .int x6), (7, .int x7), (8, .int x8), (9, .int x9), (10, .int x10), (11, .int (x11 + 1))] [] h6 Q))))))))))
set_option maxRecDepth 20000 in
theorem t_X12_where_100 {G : GG} {d : Nat} {h : HP} {Q : Option Value → HP → Prop} {a0 : Nat} {x1 : Int32} {x2 : Int32} {x3 : Int32} {x4 : Int32} {x5 : Int32} {x6 : Int32} {x7 : Int32} {x8 : Int32} {x9 : Int32} {x10 : Int32} {x11 : Int32} {sa0 : Nat} {sx1 : Int32} {sx2 : Int32} {sx3 : Int32} {sx4 : Int32} (hd1 : 1 ≤ d) (ht : T_X12_where_100 G d h Q a0 x1 x2 x3 x4 x5 x6 x7 x8 x9 x10 x11 sa0 sx1 sx2 sx3 sx4) : Ex G d mX12_where 100 [(0, .ref a0), (1, .int x1), (2, .int x2), (3, .int x3), (4, .int x4), (5, .int x5), (6, .int x6), (7, .int x7), (8, .int x8), (9, .int x9), (10, .int x10), (11, .int x11)] [.int sx4, .int sx3, .int sx2, .int sx1, .ref sa0] h Q := by
  unfold T_X12_where_100 at ht
  obtain ⟨k4, ht⟩ := ht
  refine x_callV (pc2 := 103) (As := [.int sx1, .int sx2, .int sx3, .int sx4]) (rest := []) (b := sa0) mv_X12_gates ml_X12_439 k4 rfl rfl (Nat.le_of_ble_eq_true rfl) hd1 dX12_where_100 rfl (ht.mono (fun r1 h2 p3 ht' => ?_))
  clear ht
  obtain ⟨rfl, ht⟩ := ht'
  show Ex G d mX12_where 103 [(0, .ref a0), (1, .int x1), (2, .int x2), (3, .int x3), (4, .int x4), (5, .int x5), (6, .int x6), (7, .int x7), (8, .int x8), (9, .int x9), (10, .int x10), (11, .int x11)] [] h2 Q
  refine x_aload_n (pc2 := 104) 0 (n := 0) (x := a0) rfl dX12_where_103 rfl ?_
  obtain ⟨k8, ht⟩ := ht
  refine x_callV (pc2 := 107) (As := []) (rest := []) (b := a0) mv_X12_sums ml_X12_544 k8 rfl rfl (Nat.le_of_ble_eq_true rfl) hd1 dX12_where_104 rfl (ht.mono (fun r5 h6 p7 ht' => ?_))
  clear ht
  obtain ⟨rfl, ht⟩ := ht'
  show Ex G d mX12_where 107 [(0, .ref a0), (1, .int x1), (2, .int x2), (3, .int x3), (4, .int x4), (5, .int x5), (6, .int x6), (7, .int x7), (8, .int x8), (9, .int x9), (10, .int x10), (11, .int x11)] [] h6 Q
  refine x_iload (pc2 := 109) 6 (n := 6) (x := x6) rfl dX12_where_107 rfl ?_
  refine x_if_lt (pc2 := 112) 142 dX12_where_109 (by decide) rfl (fun c9 => ?_) (fun c9 => ?_)
  · replace ht := ht.1 c9
    exact ht
  · replace ht := ht.2 c9
    refine x_aload_n (pc2 := 113) 0 (n := 0) (x := a0) rfl dX12_where_112 rfl ?_
    refine y_getI (pc2 := 116) (κ := 12) (k := 47) fl_X12_538 (by decide) (by decide) (k8.up p7) rfl dX12_where_113 rfl ?_
    refine x_iload (pc2 := 118) 8 (n := 8) (x := x8) rfl dX12_where_116 rfl ?_
    refine x_icmp_gt (pc2 := 121) 162 dX12_where_118 (by decide) rfl (fun c10 => ?_) (fun c10 => ?_)
    · replace ht := ht.1 c10
      refine x_iinc (pc2 := 165) 11 [1, 2, 3, 4, 5, 6, 7, 8, 9, 10, 11, 0] (i := 11) (x := x11) (v := (x11 + 1)) (lv2 := [(0, .ref a0), (1, .int x1), (2, .int x2), (3, .int x3), (4, .int x4), (5, .int x5), (6, .int x6), (7, .int x7), (8, .int x8), (9, .int x9), (10, .int x10), (11, .int (x11 + 1))]) rfl (iinc_eq (by decide) _) (by decide) rfl dX12_where_162 rfl ?_
      refine x_goto 70 dX12_where_165 (by decide) ?_
      exact ht
    · replace ht := ht.2 c10
      refine x_aload_n (pc2 := 122) 0 (n := 0) (x := a0) rfl dX12_where_121 rfl ?_
      refine y_getI (pc2 := 125) (κ := 12) (k := 47) fl_X12_538 (by decide) (by decide) (k8.up p7) rfl dX12_where_122 rfl ?_
      refine x_iload (pc2 := 127) 8 (n := 8) (x := x8) rfl dX12_where_125 rfl ?_
      refine y_icmp_ne (pc2 := 130) 142 dX12_where_127 (by decide) rfl (fun c11 => ?_) (fun c11 => ?_)
      · replace ht := ht.1 c11
        exact ht
      · replace ht := ht.2 c11
        refine x_aload_n (pc2 := 131) 0 (n := 0) (x := a0) rfl dX12_where_130 rfl ?_
        refine y_getI (pc2 := 134) (κ := 12) (k := 48) fl_X12_541 (by decide) (by decide) (k8.up p7) rfl dX12_where_131 rfl ?_
        refine x_iload (pc2 := 136) 9 (n := 9) (x := x9) rfl dX12_where_134 rfl ?_
        refine x_icmp_lt (pc2 := 139) 142 dX12_where_136 (by decide) rfl (fun c12 => ?_) (fun c12 => ?_)
        · replace ht := ht.1 c12
          exact ht
        · replace ht := ht.2 c12
          refine x_goto 162 dX12_where_139 (by decide) ?_
          refine x_iinc (pc2 := 165) 11 [1, 2, 3, 4, 5, 6, 7, 8, 9, 10, 11, 0] (i := 11) (x := x11) (v := (x11 + 1)) (lv2 := [(0, .ref a0), (1, .int x1), (2, .int x2), (3, .int x3), (4, .int x4), (5, .int x5), (6, .int x6), (7, .int x7), (8, .int x8), (9, .int x9), (10, .int x10), (11, .int (x11 + 1))]) rfl (iinc_eq (by decide) _) (by decide) rfl dX12_where_162 rfl ?_
          refine x_goto 70 dX12_where_165 (by decide) ?_
          exact ht
def T_X12_where_142 (G : GG) (d : Nat) (h : HP) (Q : Option Value → HP → Prop) (a0 : Nat) (x1 : Int32) (x2 : Int32) (x3 : Int32) (x4 : Int32) (x5 : Int32) (x6 : Int32) (x7 : Int32) (x8 : Int32) (x9 : Int32) (x10 : Int32) (x11 : Int32) : Prop :=
  Kd G h a0 12 ∧ Ex G d mX12_where 70 [(0, .ref a0), (1, .int x1), (2, .int x2), (3, .int x3), (4, .int x4), (5, .int x5), (6, .int x10), (7, .int x11), (8, .int (hI h a0 47)), (9, .int (hI h a0 48)), (10, .int x10), (11, .int (x11 + 1))] [] h Q
set_option maxRecDepth 20000 in
theorem t_X12_where_142 {G : GG} {d : Nat} {h : HP} {Q : Option Value → HP → Prop} {a0 : Nat} {x1 : Int32} {x2 : Int32} {x3 : Int32} {x4 : Int32} {x5 : Int32} {x6 : Int32} {x7 : Int32} {x8 : Int32} {x9 : Int32} {x10 : Int32} {x11 : Int32} (ht : T_X12_where_142 G d h Q a0 x1 x2 x3 x4 x5 x6 x7 x8 x9 x10 x11) : Ex G d mX12_where 142 [(0, .ref a0), (1, .int x1), (2, .int x2), (3, .int x3), (4, .int x4), (5, .int x5), (6, .int x6), (7, .int x7), (8, .int x8), (9, .int x9), (10, .int x10), (11, .int x11)] [] h Q := by
  unfold T_X12_where_142 at ht
  refine x_iload (pc2 := 144) 10 (n := 10) (x := x10) rfl dX12_where_142 rfl ?_
  refine x_istore (pc2 := 146) [1, 2, 3, 4, 5, 6, 0, 7, 8, 9, 10, 11] (n := 6) (x := x10) (lv2 := [(0, .ref a0), (1, .int x1), (2, .int x2), (3, .int x3), (4, .int x4), (5, .int x5), (6, .int x10), (7, .int x7), (8, .int x8), (9, .int x9), (10, .int x10), (11, .int x11)]) (by decide) rfl dX12_where_144 rfl ?_
  refine x_iload (pc2 := 148) 11 (n := 11) (x := x11) rfl dX12_where_146 rfl ?_
  refine x_istore (pc2 := 150) [1, 2, 3, 4, 5, 6, 7, 0, 8, 9, 10, 11] (n := 7) (x := x11) (lv2 := [(0, .ref a0), (1, .int x1), (2, .int x2), (3, .int x3), (4, .int x4), (5, .int x5), (6, .int x10), (7, .int x11), (8, .int x8), (9, .int x9), (10, .int x10), (11, .int x11)]) (by decide) rfl dX12_where_148 rfl ?_
  refine x_aload_n (pc2 := 151) 0 (n := 0) (x := a0) rfl dX12_where_150 rfl ?_
  obtain ⟨k1, ht⟩ := ht
  refine y_getI (pc2 := 154) (κ := 12) (k := 47) fl_X12_538 (by decide) (by decide) k1 rfl dX12_where_151 rfl ?_
  refine x_istore (pc2 := 156) [1, 2, 3, 4, 5, 6, 7, 8, 0, 9, 10, 11] (n := 8) (x := (hI h a0 47)) (lv2 := [(0, .ref a0), (1, .int x1), (2, .int x2), (3, .int x3), (4, .int x4), (5, .int x5), (6, .int x10), (7, .int x11), (8, .int (hI h a0 47)), (9, .int x9), (10, .int x10), (11, .int x11)]) (by decide) rfl dX12_where_154 rfl ?_
  refine x_aload_n (pc2 := 157) 0 (n := 0) (x := a0) rfl dX12_where_156 rfl ?_
  refine y_getI (pc2 := 160) (κ := 12) (k := 48) fl_X12_541 (by decide) (by decide) k1 rfl dX12_where_157 rfl ?_
  refine x_istore (pc2 := 162) [1, 2, 3, 4, 5, 6, 7, 8, 9, 0, 10, 11] (n := 9) (x := (hI h a0 48)) (lv2 := [(0, .ref a0), (1, .int x1), (2, .int x2), (3, .int x3), (4, .int x4), (5, .int x5), (6, .int x10), (7, .int x11), (8, .int (hI h a0 47)), (9, .int (hI h a0 48)), (10, .int x10), (11, .int x11)]) (by decide) rfl dX12_where_160 rfl ?_
  refine x_iinc (pc2 := 165) 11 [1, 2, 3, 4, 5, 6, 7, 8, 9, 10, 11, 0] (i := 11) (x := x11) (v := (x11 + 1)) (lv2 := [(0, .ref a0), (1, .int x1), (2, .int x2), (3, .int x3), (4, .int x4), (5, .int x5), (6, .int x10), (7, .int x11), (8, .int (hI h a0 47)), (9, .int (hI h a0 48)), (10, .int x10), (11, .int (x11 + 1))]) rfl (iinc_eq (by decide) _) (by decide) rfl dX12_where_162 rfl ?_
  refine x_goto 70 dX12_where_165 (by decide) ?_
  exact ht
def T_X12_keeps (G : GG) (d : Nat) (h : HP) (Q : Option Value → HP → Prop) (a0 : Nat) : Prop :=
  Ex G d mX12_keeps 2 [(0, .ref a0), (1, .int 0)] [] h Q
set_option maxRecDepth 20000 in
theorem t_X12_keeps {G : GG} {d : Nat} {h : HP} {Q : Option Value → HP → Prop} {a0 : Nat} (ht : T_X12_keeps G d h Q a0) : Ex G d mX12_keeps 0 [(0, .ref a0)] [] h Q := by
  unfold T_X12_keeps at ht
  refine x_iconst (pc2 := 1) (v := 0) (by decide) dX12_keeps_0 rfl ?_
  refine x_istore_n (pc2 := 2) [1, 0] (n := 1) (x := 0) (lv2 := [(0, .ref a0), (1, .int 0)]) (by decide) rfl dX12_keeps_1 rfl ?_
  exact ht
theorem e_X12_keeps {G : GG} {d : Nat} {h : HP} {Q : Option Value → HP → Prop} {a0 : Nat} (ht : T_X12_keeps G d h Q a0) : Cal G d mX12_keeps [.ref a0] h Q := cal_of rfl (Nat.le_of_ble_eq_true rfl) (t_X12_keeps ht)
def T_X12_keeps_2 (G : GG) (d : Nat) (h : HP) (Q : Option Value → HP → Prop) (a0 : Nat) (x1 : Int32) : Prop :=
  ((2440 ≤ x1 → Q none h) ∧ (¬ 2440 ≤ x1 → Kd G h a0 12 ∧ ∃ q3, hR h a0 30 = some q3 ∧ ∃ q5, hR h a0 29 = some q5 ∧ Kd G h q5 14 ∧ vp_in x1 (hN h q5) ∧ Kd G h q3 14 ∧ vp_in x1 (hN h q3) ∧ Ex G d mX12_keeps 2 [(0, .ref a0), (1, .int (x1 + 1))] [] (sI h q3 x1.toNatClampNeg (hI h q5 x1.toNatClampNeg)) Q))
set_option maxRecDepth 20000 in
theorem t_X12_keeps_2 {G : GG} {d : Nat} {h : HP} {Q : Option Value → HP → Prop} {a0 : Nat} {x1 : Int32} (ht : T_X12_keeps_2 G d h Q a0 x1) : Ex G d mX12_keeps 2 [(0, .ref a0), (1, .int x1)] [] h Q := by
  unfold T_X12_keeps_2 at ht
  refine x_iload_n (pc2 := 3) 1 (n := 1) (x := x1) rfl dX12_keeps_2 rfl ?_
  refine x_sipush (pc2 := 6) (v := 2440) (by decide) dX12_keeps_3 rfl ?_
  refine x_icmp_ge (pc2 := 9) 27 dX12_keeps_6 (by decide) rfl (fun c1 => ?_) (fun c1 => ?_)
  · replace ht := ht.1 c1
    exact x_retV rfl dX12_keeps_27 ht
  · replace ht := ht.2 c1
    refine x_aload_n (pc2 := 10) 0 (n := 0) (x := a0) rfl dX12_keeps_9 rfl ?_
    obtain ⟨k2, ht⟩ := ht
    obtain ⟨q3, e4, ht⟩ := ht
    refine y_getR (pc2 := 13) (κ := 12) (k := 30) fl_X12_51 (by decide) (by decide) k2 rfl e4 dX12_keeps_10 rfl ?_
    refine x_iload_n (pc2 := 14) 1 (n := 1) (x := x1) rfl dX12_keeps_13 rfl ?_
    refine x_aload_n (pc2 := 15) 0 (n := 0) (x := a0) rfl dX12_keeps_14 rfl ?_
    obtain ⟨q5, e6, ht⟩ := ht
    refine y_getR (pc2 := 18) (κ := 12) (k := 29) fl_X12_48 (by decide) (by decide) k2 rfl e6 dX12_keeps_15 rfl ?_
    refine x_iload_n (pc2 := 19) 1 (n := 1) (x := x1) rfl dX12_keeps_18 rfl ?_
    obtain ⟨k7, ht⟩ := ht
    obtain ⟨b8, ht⟩ := ht
    refine x_iald (pc2 := 20) k7 b8 dX12_keeps_19 rfl ?_
    obtain ⟨k9, ht⟩ := ht
    obtain ⟨b10, ht⟩ := ht
    refine x_iast (pc2 := 21) k9 b10 dX12_keeps_20 rfl ?_
    refine x_iinc (pc2 := 24) 1 [1, 0] (i := 1) (x := x1) (v := (x1 + 1)) (lv2 := [(0, .ref a0), (1, .int (x1 + 1))]) rfl (iinc_eq (by decide) _) (by decide) rfl dX12_keeps_21 rfl ?_
    refine x_goto 2 dX12_keeps_24 (by decide) ?_
    exact ht
def T_X12_putsBack (G : GG) (d : Nat) (h : HP) (Q : Option Value → HP → Prop) (a0 : Nat) : Prop :=
  Ex G d mX12_putsBack 2 [(0, .ref a0), (1, .int 0)] [] h Q
set_option maxRecDepth 20000 in
theorem t_X12_putsBack {G : GG} {d : Nat} {h : HP} {Q : Option Value → HP → Prop} {a0 : Nat} (ht : T_X12_putsBack G d h Q a0) : Ex G d mX12_putsBack 0 [(0, .ref a0)] [] h Q := by
  unfold T_X12_putsBack at ht
  refine x_iconst (pc2 := 1) (v := 0) (by decide) dX12_putsBack_0 rfl ?_
  refine x_istore_n (pc2 := 2) [1, 0] (n := 1) (x := 0) (lv2 := [(0, .ref a0), (1, .int 0)]) (by decide) rfl dX12_putsBack_1 rfl ?_
  exact ht
theorem e_X12_putsBack {G : GG} {d : Nat} {h : HP} {Q : Option Value → HP → Prop} {a0 : Nat} (ht : T_X12_putsBack G d h Q a0) : Cal G d mX12_putsBack [.ref a0] h Q := cal_of rfl (Nat.le_of_ble_eq_true rfl) (t_X12_putsBack ht)
def T_X12_putsBack_2 (G : GG) (d : Nat) (h : HP) (Q : Option Value → HP → Prop) (a0 : Nat) (x1 : Int32) : Prop :=
  ((2440 ≤ x1 → Q none h) ∧ (¬ 2440 ≤ x1 → Kd G h a0 12 ∧ ∃ q3, hR h a0 29 = some q3 ∧ ∃ q5, hR h a0 30 = some q5 ∧ Kd G h q5 14 ∧ vp_in x1 (hN h q5) ∧ Kd G h q3 14 ∧ vp_in x1 (hN h q3) ∧ Ex G d mX12_putsBack 2 [(0, .ref a0), (1, .int (x1 + 1))] [] (sI h q3 x1.toNatClampNeg (hI h q5 x1.toNatClampNeg)) Q))
set_option maxRecDepth 20000 in
theorem t_X12_putsBack_2 {G : GG} {d : Nat} {h : HP} {Q : Option Value → HP → Prop} {a0 : Nat} {x1 : Int32} (ht : T_X12_putsBack_2 G d h Q a0 x1) : Ex G d mX12_putsBack 2 [(0, .ref a0), (1, .int x1)] [] h Q := by
  unfold T_X12_putsBack_2 at ht
  refine x_iload_n (pc2 := 3) 1 (n := 1) (x := x1) rfl dX12_putsBack_2 rfl ?_
  refine x_sipush (pc2 := 6) (v := 2440) (by decide) dX12_putsBack_3 rfl ?_
  refine x_icmp_ge (pc2 := 9) 27 dX12_putsBack_6 (by decide) rfl (fun c1 => ?_) (fun c1 => ?_)
  · replace ht := ht.1 c1
    exact x_retV rfl dX12_putsBack_27 ht
  · replace ht := ht.2 c1
    refine x_aload_n (pc2 := 10) 0 (n := 0) (x := a0) rfl dX12_putsBack_9 rfl ?_
    obtain ⟨k2, ht⟩ := ht
    obtain ⟨q3, e4, ht⟩ := ht
    refine y_getR (pc2 := 13) (κ := 12) (k := 29) fl_X12_48 (by decide) (by decide) k2 rfl e4 dX12_putsBack_10 rfl ?_
    refine x_iload_n (pc2 := 14) 1 (n := 1) (x := x1) rfl dX12_putsBack_13 rfl ?_
    refine x_aload_n (pc2 := 15) 0 (n := 0) (x := a0) rfl dX12_putsBack_14 rfl ?_
    obtain ⟨q5, e6, ht⟩ := ht
    refine y_getR (pc2 := 18) (κ := 12) (k := 30) fl_X12_51 (by decide) (by decide) k2 rfl e6 dX12_putsBack_15 rfl ?_
    refine x_iload_n (pc2 := 19) 1 (n := 1) (x := x1) rfl dX12_putsBack_18 rfl ?_
    obtain ⟨k7, ht⟩ := ht
    obtain ⟨b8, ht⟩ := ht
    refine x_iald (pc2 := 20) k7 b8 dX12_putsBack_19 rfl ?_
    obtain ⟨k9, ht⟩ := ht
    obtain ⟨b10, ht⟩ := ht
    refine x_iast (pc2 := 21) k9 b10 dX12_putsBack_20 rfl ?_
    refine x_iinc (pc2 := 24) 1 [1, 0] (i := 1) (x := x1) (v := (x1 + 1)) (lv2 := [(0, .ref a0), (1, .int (x1 + 1))]) rfl (iinc_eq (by decide) _) (by decide) rfl dX12_putsBack_21 rfl ?_
    refine x_goto 2 dX12_putsBack_24 (by decide) ?_
    exact ht
def T_X12_gains (G : GG) (d : Nat) (h : HP) (Q : Option Value → HP → Prop) (a0 : Nat) (x1 : Int32) : Prop :=
  Kd G h a0 12 ∧ Cal G (d - 1) mX12_isWall [.ref a0, .int x1] h (fun r1 h2 => ∃ v5, r1 = some (.int v5) ∧ ((¬ v5 = 0 → Cal G (d - 1) mX12_sums [.ref a0] h2 (fun r7 h8 => r7 = none ∧ Cal G (d - 1) mX12_keeps [.ref a0] h8 (fun r10 h11 => r10 = none ∧ Cal G (d - 1) mX12_pulls [.ref a0, .int x1] h11 (fun r13 h14 => r13 = none ∧ Cal G (d - 1) mX12_sums [.ref a0] h14 (fun r16 h17 => r16 = none ∧ Cal G (d - 1) mX12_putsBack [.ref a0] h17 (fun r19 h20 => r19 = none ∧ Q (some (.int ((hI h8 a0 48) - (hI h20 a0 48)))) h20)))))) ∧ (v5 = 0 → Q (some (.int (-100000))) h2)))
set_option maxRecDepth 20000 in
theorem t_X12_gains {G : GG} {d : Nat} {h : HP} {Q : Option Value → HP → Prop} {a0 : Nat} {x1 : Int32} (hd1 : 1 ≤ d) (ht : T_X12_gains G d h Q a0 x1) : Ex G d mX12_gains 0 [(0, .ref a0), (1, .int x1)] [] h Q := by
  unfold T_X12_gains at ht
  refine x_aload_n (pc2 := 1) 0 (n := 0) (x := a0) rfl dX12_gains_0 rfl ?_
  refine x_iload_n (pc2 := 2) 1 (n := 1) (x := x1) rfl dX12_gains_1 rfl ?_
  obtain ⟨k4, ht⟩ := ht
  refine x_callV (pc2 := 5) (As := [.int x1]) (rest := []) (b := a0) mv_X12_isWall ml_X12_423 k4 rfl rfl (Nat.le_of_ble_eq_true rfl) hd1 dX12_gains_2 rfl (ht.mono (fun r1 h2 p3 ht' => ?_))
  clear ht
  obtain ⟨v5, rfl, ht⟩ := ht'
  show Ex G d mX12_gains 5 [(0, .ref a0), (1, .int x1)] [.int v5] h2 Q
  refine y_if_ne (pc2 := 8) 12 dX12_gains_5 (by decide) rfl (fun c6 => ?_) (fun c6 => ?_)
  · replace ht := ht.1 c6
    refine x_aload_n (pc2 := 13) 0 (n := 0) (x := a0) rfl dX12_gains_12 rfl ?_
    refine x_callV (pc2 := 16) (As := []) (rest := []) (b := a0) mv_X12_sums ml_X12_544 (k4.up p3) rfl rfl (Nat.le_of_ble_eq_true rfl) hd1 dX12_gains_13 rfl (ht.mono (fun r7 h8 p9 ht' => ?_))
    clear ht
    obtain ⟨rfl, ht⟩ := ht'
    show Ex G d mX12_gains 16 [(0, .ref a0), (1, .int x1)] [] h8 Q
    refine x_aload_n (pc2 := 17) 0 (n := 0) (x := a0) rfl dX12_gains_16 rfl ?_
    refine y_getI (pc2 := 20) (κ := 12) (k := 48) fl_X12_541 (by decide) (by decide) ((k4.up p3).up p9) rfl dX12_gains_17 rfl ?_
    refine x_istore_n (pc2 := 21) [1, 2, 0] (n := 2) (x := (hI h8 a0 48)) (lv2 := [(0, .ref a0), (1, .int x1), (2, .int (hI h8 a0 48))]) (by decide) rfl dX12_gains_20 rfl ?_
    refine x_aload_n (pc2 := 22) 0 (n := 0) (x := a0) rfl dX12_gains_21 rfl ?_
    refine x_callV (pc2 := 25) (As := []) (rest := []) (b := a0) mv_X12_keeps ml_X12_548 ((k4.up p3).up p9) rfl rfl (Nat.le_of_ble_eq_true rfl) hd1 dX12_gains_22 rfl (ht.mono (fun r10 h11 p12 ht' => ?_))
    clear ht
    obtain ⟨rfl, ht⟩ := ht'
    show Ex G d mX12_gains 25 [(0, .ref a0), (1, .int x1), (2, .int (hI h8 a0 48))] [] h11 Q
    refine x_aload_n (pc2 := 26) 0 (n := 0) (x := a0) rfl dX12_gains_25 rfl ?_
    refine x_iload_n (pc2 := 27) 1 (n := 1) (x := x1) rfl dX12_gains_26 rfl ?_
    refine x_callV (pc2 := 30) (As := [.int x1]) (rest := []) (b := a0) mv_X12_pulls ml_X12_426 (((k4.up p3).up p9).up p12) rfl rfl (Nat.le_of_ble_eq_true rfl) hd1 dX12_gains_27 rfl (ht.mono (fun r13 h14 p15 ht' => ?_))
    clear ht
    obtain ⟨rfl, ht⟩ := ht'
    show Ex G d mX12_gains 30 [(0, .ref a0), (1, .int x1), (2, .int (hI h8 a0 48))] [] h14 Q
    refine x_aload_n (pc2 := 31) 0 (n := 0) (x := a0) rfl dX12_gains_30 rfl ?_
    refine x_callV (pc2 := 34) (As := []) (rest := []) (b := a0) mv_X12_sums ml_X12_544 ((((k4.up p3).up p9).up p12).up p15) rfl rfl (Nat.le_of_ble_eq_true rfl) hd1 dX12_gains_31 rfl (ht.mono (fun r16 h17 p18 ht' => ?_))
    clear ht
    obtain ⟨rfl, ht⟩ := ht'
    show Ex G d mX12_gains 34 [(0, .ref a0), (1, .int x1), (2, .int (hI h8 a0 48))] [] h17 Q
    refine x_aload_n (pc2 := 35) 0 (n := 0) (x := a0) rfl dX12_gains_34 rfl ?_
    refine x_callV (pc2 := 38) (As := []) (rest := []) (b := a0) mv_X12_putsBack ml_X12_551 (((((k4.up p3).up p9).up p12).up p15).up p18) rfl rfl (Nat.le_of_ble_eq_true rfl) hd1 dX12_gains_35 rfl (ht.mono (fun r19 h20 p21 ht' => ?_))
    clear ht
    obtain ⟨rfl, ht⟩ := ht'
    show Ex G d mX12_gains 38 [(0, .ref a0), (1, .int x1), (2, .int (hI h8 a0 48))] [] h20 Q
    refine x_iload_n (pc2 := 39) 2 (n := 2) (x := (hI h8 a0 48)) rfl dX12_gains_38 rfl ?_
    refine x_aload_n (pc2 := 40) 0 (n := 0) (x := a0) rfl dX12_gains_39 rfl ?_
    refine y_getI (pc2 := 43) (κ := 12) (k := 48) fl_X12_541 (by decide) (by decide) ((((((k4.up p3).up p9).up p12).up p15).up p18).up p21) rfl dX12_gains_40 rfl ?_
    refine x_isub (pc2 := 44) dX12_gains_43 rfl ?_
    exact x_ret (ty := .int) rfl rfl dX12_gains_44 ht
  · replace ht := ht.2 c6
    refine x_ldcw (pc2 := 11) (v := (-100000)) ct_X12_547 dX12_gains_8 rfl ?_
    exact x_ret (ty := .int) rfl rfl dX12_gains_11 ht
theorem e_X12_gains {G : GG} {d : Nat} {h : HP} {Q : Option Value → HP → Prop} {a0 : Nat} {x1 : Int32} (hd1 : 1 ≤ d) (ht : T_X12_gains G d h Q a0 x1) : Cal G d mX12_gains [.ref a0, .int x1] h Q := cal_of rfl (Nat.le_of_ble_eq_true rfl) (t_X12_gains hd1 ht)
def T_X12_seed (G : GG) (d : Nat) (h : HP) (Q : Option Value → HP → Prop) (a0 : Nat) (x1 : Int32) : Prop :=
  ((0 ≤ x1 → Kd G h a0 12 ∧ ∃ q3, hR h a0 29 = some q3 ∧ Kd G h q3 14 ∧ vp_in 4 (hN h q3) ∧ vp_in 4 (hN h q3) ∧ Q (some (.int (hI h q3 4))) (sI h q3 4 x1)) ∧ (¬ 0 ≤ x1 → Q (some (.int (-1))) h))
set_option maxRecDepth 20000 in
theorem t_X12_seed {G : GG} {d : Nat} {h : HP} {Q : Option Value → HP → Prop} {a0 : Nat} {x1 : Int32} (ht : T_X12_seed G d h Q a0 x1) : Ex G d mX12_seed 0 [(0, .ref a0), (1, .int x1)] [] h Q := by
  unfold T_X12_seed at ht
  refine x_iload_n (pc2 := 1) 1 (n := 1) (x := x1) rfl dX12_seed_0 rfl ?_
  refine x_if_ge (pc2 := 4) 6 dX12_seed_1 (by decide) rfl (fun c1 => ?_) (fun c1 => ?_)
  · replace ht := ht.1 c1
    refine x_aload_n (pc2 := 7) 0 (n := 0) (x := a0) rfl dX12_seed_6 rfl ?_
    obtain ⟨k2, ht⟩ := ht
    obtain ⟨q3, e4, ht⟩ := ht
    refine y_getR (pc2 := 10) (κ := 12) (k := 29) fl_X12_48 (by decide) (by decide) k2 rfl e4 dX12_seed_7 rfl ?_
    refine x_iconst (pc2 := 11) (v := 4) (by decide) dX12_seed_10 rfl ?_
    obtain ⟨k5, ht⟩ := ht
    obtain ⟨b6, ht⟩ := ht
    refine z_iald (pc2 := 12) (k := 4) (by decide) k5 b6 dX12_seed_11 rfl ?_
    refine x_istore_n (pc2 := 13) [1, 2, 0] (n := 2) (x := (hI h q3 4)) (lv2 := [(0, .ref a0), (1, .int x1), (2, .int (hI h q3 4))]) (by decide) rfl dX12_seed_12 rfl ?_
    refine x_aload_n (pc2 := 14) 0 (n := 0) (x := a0) rfl dX12_seed_13 rfl ?_
    refine y_getR (pc2 := 17) (κ := 12) (k := 29) fl_X12_48 (by decide) (by decide) k2 rfl e4 dX12_seed_14 rfl ?_
    refine x_iconst (pc2 := 18) (v := 4) (by decide) dX12_seed_17 rfl ?_
    refine x_iload_n (pc2 := 19) 1 (n := 1) (x := x1) rfl dX12_seed_18 rfl ?_
    obtain ⟨b7, ht⟩ := ht
    refine z_iast (pc2 := 20) (k := 4) (by decide) k5 b7 dX12_seed_19 rfl ?_
    refine x_iload_n (pc2 := 21) 2 (n := 2) (x := (hI h q3 4)) rfl dX12_seed_20 rfl ?_
    exact x_ret (ty := .int) rfl rfl dX12_seed_21 ht
  · replace ht := ht.2 c1
    refine x_iconst (pc2 := 5) (v := (-1)) (by decide) dX12_seed_4 rfl ?_
    exact x_ret (ty := .int) rfl rfl dX12_seed_5 ht
theorem e_X12_seed {G : GG} {d : Nat} {h : HP} {Q : Option Value → HP → Prop} {a0 : Nat} {x1 : Int32} (ht : T_X12_seed G d h Q a0 x1) : Cal G d mX12_seed [.ref a0, .int x1] h Q := cal_of rfl (Nat.le_of_ble_eq_true rfl) (t_X12_seed ht)
def T_X12_draw (G : GG) (d : Nat) (h : HP) (Q : Option Value → HP → Prop) (a0 : Nat) : Prop :=
  Kd G h a0 12 ∧ ∃ q2, hR h a0 29 = some q2 ∧ Kd G h q2 14 ∧ vp_in 4 (hN h q2) ∧ vp_in 4 (hN h q2) ∧ Q (some (.int (((lrm ((((hI h q2 4).toInt64) * 1103515245) + 12345) 2147483648) / 65536).toInt32))) (sI h q2 4 ((lrm ((((hI h q2 4).toInt64) * 1103515245) + 12345) 2147483648).toInt32))
set_option maxRecDepth 20000 in
theorem t_X12_draw {G : GG} {d : Nat} {h : HP} {Q : Option Value → HP → Prop} {a0 : Nat} (ht : T_X12_draw G d h Q a0) : Ex G d mX12_draw 0 [(0, .ref a0)] [] h Q := by
  unfold T_X12_draw at ht
  refine x_aload_n (pc2 := 1) 0 (n := 0) (x := a0) rfl dX12_draw_0 rfl ?_
  obtain ⟨k1, ht⟩ := ht
  obtain ⟨q2, e3, ht⟩ := ht
  refine y_getR (pc2 := 4) (κ := 12) (k := 29) fl_X12_48 (by decide) (by decide) k1 rfl e3 dX12_draw_1 rfl ?_
  refine x_iconst (pc2 := 5) (v := 4) (by decide) dX12_draw_4 rfl ?_
  obtain ⟨k4, ht⟩ := ht
  obtain ⟨b5, ht⟩ := ht
  refine z_iald (pc2 := 6) (k := 4) (by decide) k4 b5 dX12_draw_5 rfl ?_
  refine x_i2l (pc2 := 7) dX12_draw_6 rfl ?_
  refine x_ldc2 (pc2 := 10) (v := 1103515245) ct_X12_554 dX12_draw_7 rfl ?_
  refine x_lmul (pc2 := 11) dX12_draw_10 rfl ?_
  refine x_ldc2 (pc2 := 14) (v := 12345) ct_X12_556 dX12_draw_11 rfl ?_
  refine x_ladd (pc2 := 15) dX12_draw_14 rfl ?_
  refine x_ldc2 (pc2 := 18) (v := 2147483648) ct_X12_558 dX12_draw_15 rfl ?_
  refine y_lrem (pc2 := 19) (by decide) dX12_draw_18 rfl ?_
  refine x_lstore_n (pc2 := 20) [1, 0] (n := 1) (x := (lrm ((((hI h q2 4).toInt64) * 1103515245) + 12345) 2147483648)) (lv2 := [(0, .ref a0), (1, .long (lrm ((((hI h q2 4).toInt64) * 1103515245) + 12345) 2147483648))]) (by decide) rfl dX12_draw_19 rfl ?_
  refine x_aload_n (pc2 := 21) 0 (n := 0) (x := a0) rfl dX12_draw_20 rfl ?_
  refine y_getR (pc2 := 24) (κ := 12) (k := 29) fl_X12_48 (by decide) (by decide) k1 rfl e3 dX12_draw_21 rfl ?_
  refine x_iconst (pc2 := 25) (v := 4) (by decide) dX12_draw_24 rfl ?_
  refine x_lload_n (pc2 := 26) 1 (n := 1) (x := (lrm ((((hI h q2 4).toInt64) * 1103515245) + 12345) 2147483648)) rfl dX12_draw_25 rfl ?_
  refine x_l2i (pc2 := 27) dX12_draw_26 rfl ?_
  obtain ⟨b6, ht⟩ := ht
  refine z_iast (pc2 := 28) (k := 4) (by decide) k4 b6 dX12_draw_27 rfl ?_
  refine x_lload_n (pc2 := 29) 1 (n := 1) (x := (lrm ((((hI h q2 4).toInt64) * 1103515245) + 12345) 2147483648)) rfl dX12_draw_28 rfl ?_
  refine x_ldc2 (pc2 := 32) (v := 65536) ct_X12_560 dX12_draw_29 rfl ?_
  refine x_ldiv (pc2 := 33) (by decide) dX12_draw_32 rfl ?_
  refine x_l2i (pc2 := 34) dX12_draw_33 rfl ?_
  exact x_ret (ty := .int) rfl rfl dX12_draw_34 ht
theorem e_X12_draw {G : GG} {d : Nat} {h : HP} {Q : Option Value → HP → Prop} {a0 : Nat} (ht : T_X12_draw G d h Q a0) : Cal G d mX12_draw [.ref a0] h Q := cal_of rfl (Nat.le_of_ble_eq_true rfl) (t_X12_draw ht)
def T_X12_year (G : GG) (d : Nat) (h : HP) (Q : Option Value → HP → Prop) (a0 : Nat) (x1 : Int32) : Prop :=
  Kd G h a0 12 ∧ ∃ q2, hR h a0 29 = some q2 ∧ Kd G h q2 14 ∧ vp_in 2 (hN h q2) ∧ (((hI h q2 2) ≤ 0 → Ex G d mX12_year 204 [(0, .ref a0), (1, .int x1), (2, .int 0)] [] h Q) ∧ (¬ (hI h q2 2) ≤ 0 → Cal G (d - 1) mX12_draw [.ref a0] h (fun r7 h8 => ∃ v10, r7 = some (.int v10) ∧ Cal G (d - 1) mX12_draw [.ref a0] h8 (fun r11 h12 => ∃ v14, r11 = some (.int v14) ∧ Cal G (d - 1) mX12_nestMany [.ref a0] h12 (fun r15 h16 => ∃ v18, r15 = some (.int v18) ∧ ¬ v18 = 0 ∧ Ex G d mX12_year 36 [(0, .ref a0), (1, .int x1), (2, .int 0), (3, .int (irm v10 12)), (4, .int (irm v14 v18)), (5, .int (-1)), (6, .int 0)] [] h16 Q)))))
set_option maxRecDepth 20000 in
theorem t_X12_year {G : GG} {d : Nat} {h : HP} {Q : Option Value → HP → Prop} {a0 : Nat} {x1 : Int32} (hd1 : 1 ≤ d) (ht : T_X12_year G d h Q a0 x1) : Ex G d mX12_year 0 [(0, .ref a0), (1, .int x1)] [] h Q := by
  unfold T_X12_year at ht
  refine x_iconst (pc2 := 1) (v := 0) (by decide) dX12_year_0 rfl ?_
  refine x_istore_n (pc2 := 2) [1, 2, 0] (n := 2) (x := 0) (lv2 := [(0, .ref a0), (1, .int x1), (2, .int 0)]) (by decide) rfl dX12_year_1 rfl ?_
  refine x_aload_n (pc2 := 3) 0 (n := 0) (x := a0) rfl dX12_year_2 rfl ?_
  obtain ⟨k1, ht⟩ := ht
  obtain ⟨q2, e3, ht⟩ := ht
  refine y_getR (pc2 := 6) (κ := 12) (k := 29) fl_X12_48 (by decide) (by decide) k1 rfl e3 dX12_year_3 rfl ?_
  refine x_iconst (pc2 := 7) (v := 2) (by decide) dX12_year_6 rfl ?_
  obtain ⟨k4, ht⟩ := ht
  obtain ⟨b5, ht⟩ := ht
  refine z_iald (pc2 := 8) (k := 2) (by decide) k4 b5 dX12_year_7 rfl ?_
  refine x_if_le (pc2 := 11) 204 dX12_year_8 (by decide) rfl (fun c6 => ?_) (fun c6 => ?_)
  · replace ht := ht.1 c6
    exact ht
  · replace ht := ht.2 c6
    refine x_aload_n (pc2 := 12) 0 (n := 0) (x := a0) rfl dX12_year_11 rfl ?_
    refine x_callV (pc2 := 15) (As := []) (rest := []) (b := a0) mv_X12_draw ml_X12_562 k1 rfl rfl (Nat.le_of_ble_eq_true rfl) hd1 dX12_year_12 rfl (ht.mono (fun r7 h8 p9 ht' => ?_))
    clear ht
    obtain ⟨v10, rfl, ht⟩ := ht'
    show Ex G d mX12_year 15 [(0, .ref a0), (1, .int x1), (2, .int 0)] [.int v10] h8 Q
    refine x_bipush (pc2 := 17) (v := 12) (by decide) dX12_year_15 rfl ?_
    refine y_irem (pc2 := 18) (by decide) dX12_year_17 rfl ?_
    refine x_istore_n (pc2 := 19) [1, 2, 3, 0] (n := 3) (x := (irm v10 12)) (lv2 := [(0, .ref a0), (1, .int x1), (2, .int 0), (3, .int (irm v10 12))]) (by decide) rfl dX12_year_18 rfl ?_
    refine x_aload_n (pc2 := 20) 0 (n := 0) (x := a0) rfl dX12_year_19 rfl ?_
    refine x_callV (pc2 := 23) (As := []) (rest := []) (b := a0) mv_X12_draw ml_X12_562 (k1.up p9) rfl rfl (Nat.le_of_ble_eq_true rfl) hd1 dX12_year_20 rfl (ht.mono (fun r11 h12 p13 ht' => ?_))
    clear ht
    obtain ⟨v14, rfl, ht⟩ := ht'
    show Ex G d mX12_year 23 [(0, .ref a0), (1, .int x1), (2, .int 0), (3, .int (irm v10 12))] [.int v14] h12 Q
    refine x_aload_n (pc2 := 24) 0 (n := 0) (x := a0) rfl dX12_year_23 rfl ?_
    refine x_callV (pc2 := 27) (As := []) (rest := [.int v14]) (b := a0) mv_X12_nestMany ml_X12_504 ((k1.up p9).up p13) rfl rfl (Nat.le_of_ble_eq_true rfl) hd1 dX12_year_24 rfl (ht.mono (fun r15 h16 p17 ht' => ?_))
    clear ht
    obtain ⟨v18, rfl, ht⟩ := ht'
    show Ex G d mX12_year 27 [(0, .ref a0), (1, .int x1), (2, .int 0), (3, .int (irm v10 12))] [.int v18, .int v14] h16 Q
    obtain ⟨n19, ht⟩ := ht
    refine y_irem (pc2 := 28) n19 dX12_year_27 rfl ?_
    refine x_istore (pc2 := 30) [1, 2, 3, 4, 0] (n := 4) (x := (irm v14 v18)) (lv2 := [(0, .ref a0), (1, .int x1), (2, .int 0), (3, .int (irm v10 12)), (4, .int (irm v14 v18))]) (by decide) rfl dX12_year_28 rfl ?_
    refine x_iconst (pc2 := 31) (v := (-1)) (by decide) dX12_year_30 rfl ?_
    refine x_istore (pc2 := 33) [1, 2, 3, 4, 5, 0] (n := 5) (x := (-1)) (lv2 := [(0, .ref a0), (1, .int x1), (2, .int 0), (3, .int (irm v10 12)), (4, .int (irm v14 v18)), (5, .int (-1))]) (by decide) rfl dX12_year_31 rfl ?_
    refine x_iconst (pc2 := 34) (v := 0) (by decide) dX12_year_33 rfl ?_
    refine x_istore (pc2 := 36) [1, 2, 3, 4, 5, 6, 0] (n := 6) (x := 0) (lv2 := [(0, .ref a0), (1, .int x1), (2, .int 0), (3, .int (irm v10 12)), (4, .int (irm v14 v18)), (5, .int (-1)), (6, .int 0)]) (by decide) rfl dX12_year_34 rfl ?_
    exact ht
theorem e_X12_year {G : GG} {d : Nat} {h : HP} {Q : Option Value → HP → Prop} {a0 : Nat} {x1 : Int32} (hd1 : 1 ≤ d) (ht : T_X12_year G d h Q a0 x1) : Cal G d mX12_year [.ref a0, .int x1] h Q := cal_of rfl (Nat.le_of_ble_eq_true rfl) (t_X12_year hd1 ht)
def T_X12_year_36 (G : GG) (d : Nat) (h : HP) (Q : Option Value → HP → Prop) (a0 : Nat) (x1 : Int32) (x2 : Int32) (x3 : Int32) (x4 : Int32) (x5 : Int32) (x6 : Int32) : Prop :=
  ((30 ≤ x6 → Ex G d mX12_year 87 [(0, .ref a0), (1, .int x1), (2, .int x2), (3, .int x3), (4, .int x4), (5, .int x5), (6, .int x6)] [] h Q) ∧ (¬ 30 ≤ x6 → ((0 ≤ x5 → Ex G d mX12_year 87 [(0, .ref a0), (1, .int x1), (2, .int x2), (3, .int x3), (4, .int x4), (5, .int x5), (6, .int x6)] [] h Q) ∧ (¬ 0 ≤ x5 → Kd G h a0 12 ∧ Cal G (d - 1) mX12_isThing [.ref a0, .int x6] h (fun r3 h4 => ∃ v7, r3 = some (.int v7) ∧ ((v7 = 0 → Ex G d mX12_year 36 [(0, .ref a0), (1, .int x1), (2, .int x2), (3, .int x3), (4, .int x4), (5, .int x5), (6, .int (x6 + 1))] [] h4 Q) ∧ (¬ v7 = 0 → Cal G (d - 1) mX12_isOuter [.ref a0, .int x6] h4 (fun r9 h10 => ∃ v12, r9 = some (.int v12) ∧ ((¬ v12 = 0 → ((¬ x4 = 0 → Ex G d mX12_year 36 [(0, .ref a0), (1, .int x1), (2, .int x2), (3, .int x3), (4, .int (x4 + (-1))), (5, .int x5), (6, .int (x6 + 1))] [] h10 Q) ∧ (x4 = 0 → Ex G d mX12_year 36 [(0, .ref a0), (1, .int x1), (2, .int x2), (3, .int x3), (4, .int (x4 + (-1))), (5, .int x6), (6, .int (x6 + 1))] [] h10 Q))) ∧ (v12 = 0 → Ex G d mX12_year 36 [(0, .ref a0), (1, .int x1), (2, .int x2), (3, .int x3), (4, .int x4), (5, .int x5), (6, .int (x6 + 1))] [] h10 Q))))))))))
set_option maxRecDepth 20000 in
theorem t_X12_year_36 {G : GG} {d : Nat} {h : HP} {Q : Option Value → HP → Prop} {a0 : Nat} {x1 : Int32} {x2 : Int32} {x3 : Int32} {x4 : Int32} {x5 : Int32} {x6 : Int32} (hd1 : 1 ≤ d) (ht : T_X12_year_36 G d h Q a0 x1 x2 x3 x4 x5 x6) : Ex G d mX12_year 36 [(0, .ref a0), (1, .int x1), (2, .int x2), (3, .int x3), (4, .int x4), (5, .int x5), (6, .int x6)] [] h Q := by
  unfold T_X12_year_36 at ht
  refine x_iload (pc2 := 38) 6 (n := 6) (x := x6) rfl dX12_year_36 rfl ?_
  refine x_bipush (pc2 := 40) (v := 30) (by decide) dX12_year_38 rfl ?_
  refine x_icmp_ge (pc2 := 43) 87 dX12_year_40 (by decide) rfl (fun c1 => ?_) (fun c1 => ?_)
  · replace ht := ht.1 c1
    exact ht
  · replace ht := ht.2 c1
    refine x_iload (pc2 := 45) 5 (n := 5) (x := x5) rfl dX12_year_43 rfl ?_
    refine x_if_ge (pc2 := 48) 87 dX12_year_45 (by decide) rfl (fun c2 => ?_) (fun c2 => ?_)
    · replace ht := ht.1 c2
      exact ht
    · replace ht := ht.2 c2
      refine x_aload_n (pc2 := 49) 0 (n := 0) (x := a0) rfl dX12_year_48 rfl ?_
      refine x_iload (pc2 := 51) 6 (n := 6) (x := x6) rfl dX12_year_49 rfl ?_
      obtain ⟨k6, ht⟩ := ht
      refine x_callV (pc2 := 54) (As := [.int x6]) (rest := []) (b := a0) mv_X12_isThing ml_X12_314 k6 rfl rfl (Nat.le_of_ble_eq_true rfl) hd1 dX12_year_51 rfl (ht.mono (fun r3 h4 p5 ht' => ?_))
      clear ht
      obtain ⟨v7, rfl, ht⟩ := ht'
      show Ex G d mX12_year 54 [(0, .ref a0), (1, .int x1), (2, .int x2), (3, .int x3), (4, .int x4), (5, .int x5), (6, .int x6)] [.int v7] h4 Q
      refine x_if_eq (pc2 := 57) 81 dX12_year_54 (by decide) rfl (fun c8 => ?_) (fun c8 => ?_)
      · replace ht := ht.1 c8
        refine x_iinc (pc2 := 84) 6 [1, 2, 3, 4, 5, 6, 0] (i := 6) (x := x6) (v := (x6 + 1)) (lv2 := [(0, .ref a0), (1, .int x1), (2, .int x2), (3, .int x3), (4, .int x4), (5, .int x5), (6, .int (x6 + 1))]) rfl (iinc_eq (by decide) _) (by decide) rfl dX12_year_81 rfl ?_
        refine x_goto 36 dX12_year_84 (by decide) ?_
        exact ht
      · replace ht := ht.2 c8
        refine x_aload_n (pc2 := 58) 0 (n := 0) (x := a0) rfl dX12_year_57 rfl ?_
        refine x_iload (pc2 := 60) 6 (n := 6) (x := x6) rfl dX12_year_58 rfl ?_
        refine x_callV (pc2 := 63) (As := [.int x6]) (rest := []) (b := a0) mv_X12_isOuter ml_X12_338 (k6.up p5) rfl rfl (Nat.le_of_ble_eq_true rfl) hd1 dX12_year_60 rfl (ht.mono (fun r9 h10 p11 ht' => ?_))
        clear ht
        obtain ⟨v12, rfl, ht⟩ := ht'
        show Ex G d mX12_year 63 [(0, .ref a0), (1, .int x1), (2, .int x2), (3, .int x3), (4, .int x4), (5, .int x5), (6, .int x6)] [.int v12] h10 Q
        refine y_if_ne (pc2 := 66) 69 dX12_year_63 (by decide) rfl (fun c13 => ?_) (fun c13 => ?_)
        · replace ht := ht.1 c13
          refine x_iload (pc2 := 71) 4 (n := 4) (x := x4) rfl dX12_year_69 rfl ?_
          refine y_if_ne (pc2 := 74) 78 dX12_year_71 (by decide) rfl (fun c14 => ?_) (fun c14 => ?_)
          · replace ht := ht.1 c14
            refine x_iinc (pc2 := 81) 4 [1, 2, 3, 4, 0, 5, 6] (i := 4) (x := x4) (v := (x4 + (-1))) (lv2 := [(0, .ref a0), (1, .int x1), (2, .int x2), (3, .int x3), (4, .int (x4 + (-1))), (5, .int x5), (6, .int x6)]) rfl (iinc_eq (by decide) _) (by decide) rfl dX12_year_78 rfl ?_
            refine x_iinc (pc2 := 84) 6 [1, 2, 3, 4, 5, 6, 0] (i := 6) (x := x6) (v := (x6 + 1)) (lv2 := [(0, .ref a0), (1, .int x1), (2, .int x2), (3, .int x3), (4, .int (x4 + (-1))), (5, .int x5), (6, .int (x6 + 1))]) rfl (iinc_eq (by decide) _) (by decide) rfl dX12_year_81 rfl ?_
            refine x_goto 36 dX12_year_84 (by decide) ?_
            exact ht
          · replace ht := ht.2 c14
            refine x_iload (pc2 := 76) 6 (n := 6) (x := x6) rfl dX12_year_74 rfl ?_
            refine x_istore (pc2 := 78) [1, 2, 3, 4, 5, 0, 6] (n := 5) (x := x6) (lv2 := [(0, .ref a0), (1, .int x1), (2, .int x2), (3, .int x3), (4, .int x4), (5, .int x6), (6, .int x6)]) (by decide) rfl dX12_year_76 rfl ?_
            refine x_iinc (pc2 := 81) 4 [1, 2, 3, 4, 0, 5, 6] (i := 4) (x := x4) (v := (x4 + (-1))) (lv2 := [(0, .ref a0), (1, .int x1), (2, .int x2), (3, .int x3), (4, .int (x4 + (-1))), (5, .int x6), (6, .int x6)]) rfl (iinc_eq (by decide) _) (by decide) rfl dX12_year_78 rfl ?_
            refine x_iinc (pc2 := 84) 6 [1, 2, 3, 4, 5, 6, 0] (i := 6) (x := x6) (v := (x6 + 1)) (lv2 := [(0, .ref a0), (1, .int x1), (2, .int x2), (3, .int x3), (4, .int (x4 + (-1))), (5, .int x6), (6, .int (x6 + 1))]) rfl (iinc_eq (by decide) _) (by decide) rfl dX12_year_81 rfl ?_
            refine x_goto 36 dX12_year_84 (by decide) ?_
            exact ht
        · replace ht := ht.2 c13
          refine x_goto 81 dX12_year_66 (by decide) ?_
          refine x_iinc (pc2 := 84) 6 [1, 2, 3, 4, 5, 6, 0] (i := 6) (x := x6) (v := (x6 + 1)) (lv2 := [(0, .ref a0), (1, .int x1), (2, .int x2), (3, .int x3), (4, .int x4), (5, .int x5), (6, .int (x6 + 1))]) rfl (iinc_eq (by decide) _) (by decide) rfl dX12_year_81 rfl ?_
          refine x_goto 36 dX12_year_84 (by decide) ?_
          exact ht
def T_X12_year_87 (G : GG) (d : Nat) (h : HP) (Q : Option Value → HP → Prop) (a0 : Nat) (x1 : Int32) (x2 : Int32) (x3 : Int32) (x4 : Int32) (x5 : Int32) (x6 : Int32) : Prop :=
  Kd G h a0 12 ∧ Cal G (d - 1) mX12_draw [.ref a0] h (fun r1 h2 => ∃ v5, r1 = some (.int v5) ∧ Cal G (d - 1) mX12_draw [.ref a0] h2 (fun r6 h7 => ∃ v9, r6 = some (.int v9) ∧ Cal G (d - 1) mX12_draw [.ref a0] h7 (fun r10 h11 => ∃ v13, r10 = some (.int v13) ∧ Cal G (d - 1) mX12_draw [.ref a0] h11 (fun r14 h15 => ∃ v17, r14 = some (.int v17) ∧ Cal G (d - 1) mX12_of [.ref a0, .int x5, .int 1] h15 (fun r18 h19 => ∃ v21, r18 = some (.int v21) ∧ Cal G (d - 1) mX12_of [.ref a0, .int x5, .int 2] h19 (fun r22 h23 => ∃ v25, r22 = some (.int v25) ∧ Cal G (d - 1) mX12_of [.ref a0, .int x5, .int 3] h23 (fun r26 h27 => ∃ v29, r26 = some (.int v29) ∧ Cal G (d - 1) mX12_of [.ref a0, .int x5, .int 4] h27 (fun r30 h31 => ∃ v33, r30 = some (.int v33) ∧ Cal G (d - 1) mX12_thinks [.ref a0, .int (v21 - (1 + (irm v5 3))), .int (v25 - (1 + (irm v9 3))), .int (v29 + (1 + (irm v13 3))), .int (v33 + (1 + (irm v17 3))), .int x5, .int (-1)] h31 (fun r34 h35 => r34 = none ∧ Cal G (d - 1) mX12_freeNumber [.ref a0] h35 (fun r37 h38 => ∃ v40, r37 = some (.int v40) ∧ ((v40 = (-1) → Ex G d mX12_year 204 [(0, .ref a0), (1, .int x1), (2, .int x2)] [] h38 Q) ∧ (¬ v40 = (-1) → Cal G (d - 1) mX12_canCome [.ref a0, .int x1, .int x3] h38 (fun r42 h43 => ∃ v45, r42 = some (.int v45) ∧ ((v45 = 0 → Ex G d mX12_year 204 [(0, .ref a0), (1, .int x1), (2, .int x2)] [] h43 Q) ∧ (¬ v45 = 0 → Cal G (d - 1) mX12_builds [.ref a0, .int v40, .int x3] h43 (fun r47 h48 => r47 = none ∧ Ex G d mX12_year 204 [(0, .ref a0), (1, .int x1), (2, .int 1)] [] h48 Q))))))))))))))))
set_option maxRecDepth 20000 in
theorem t_X12_year_87 {G : GG} {d : Nat} {h : HP} {Q : Option Value → HP → Prop} {a0 : Nat} {x1 : Int32} {x2 : Int32} {x3 : Int32} {x4 : Int32} {x5 : Int32} {x6 : Int32} (hd1 : 1 ≤ d) (ht : T_X12_year_87 G d h Q a0 x1 x2 x3 x4 x5 x6) : Ex G d mX12_year 87 [(0, .ref a0), (1, .int x1), (2, .int x2), (3, .int x3), (4, .int x4), (5, .int x5), (6, .int x6)] [] h Q := by
  unfold T_X12_year_87 at ht
  refine x_iconst (pc2 := 88) (v := 1) (by decide) dX12_year_87 rfl ?_
  refine x_aload_n (pc2 := 89) 0 (n := 0) (x := a0) rfl dX12_year_88 rfl ?_
  obtain ⟨k4, ht⟩ := ht
  refine x_callV (pc2 := 92) (As := []) (rest := [.int 1]) (b := a0) mv_X12_draw ml_X12_562 k4 rfl rfl (Nat.le_of_ble_eq_true rfl) hd1 dX12_year_89 rfl (ht.mono (fun r1 h2 p3 ht' => ?_))
  clear ht
  obtain ⟨v5, rfl, ht⟩ := ht'
  show Ex G d mX12_year 92 [(0, .ref a0), (1, .int x1), (2, .int x2), (3, .int x3), (4, .int x4), (5, .int x5), (6, .int x6)] [.int v5, .int 1] h2 Q
  refine x_iconst (pc2 := 93) (v := 3) (by decide) dX12_year_92 rfl ?_
  refine y_irem (pc2 := 94) (by decide) dX12_year_93 rfl ?_
  refine x_iadd (pc2 := 95) dX12_year_94 rfl ?_
  refine x_istore (pc2 := 97) [1, 2, 3, 4, 5, 6, 0] (n := 6) (x := (1 + (irm v5 3))) (lv2 := [(0, .ref a0), (1, .int x1), (2, .int x2), (3, .int x3), (4, .int x4), (5, .int x5), (6, .int (1 + (irm v5 3)))]) (by decide) rfl dX12_year_95 rfl ?_
  refine x_iconst (pc2 := 98) (v := 1) (by decide) dX12_year_97 rfl ?_
  refine x_aload_n (pc2 := 99) 0 (n := 0) (x := a0) rfl dX12_year_98 rfl ?_
  refine x_callV (pc2 := 102) (As := []) (rest := [.int 1]) (b := a0) mv_X12_draw ml_X12_562 (k4.up p3) rfl rfl (Nat.le_of_ble_eq_true rfl) hd1 dX12_year_99 rfl (ht.mono (fun r6 h7 p8 ht' => ?_))
  clear ht
  obtain ⟨v9, rfl, ht⟩ := ht'
  show Ex G d mX12_year 102 [(0, .ref a0), (1, .int x1), (2, .int x2), (3, .int x3), (4, .int x4), (5, .int x5), (6, .int (1 + (irm v5 3)))] [.int v9, .int 1] h7 Q
  refine x_iconst (pc2 := 103) (v := 3) (by decide) dX12_year_102 rfl ?_
  refine y_irem (pc2 := 104) (by decide) dX12_year_103 rfl ?_
  refine x_iadd (pc2 := 105) dX12_year_104 rfl ?_
  refine x_istore (pc2 := 107) [1, 2, 3, 4, 5, 6, 7, 0] (n := 7) (x := (1 + (irm v9 3))) (lv2 := [(0, .ref a0), (1, .int x1), (2, .int x2), (3, .int x3), (4, .int x4), (5, .int x5), (6, .int (1 + (irm v5 3))), (7, .int (1 + (irm v9 3)))]) (by decide) rfl dX12_year_105 rfl ?_
  refine x_iconst (pc2 := 108) (v := 1) (by decide) dX12_year_107 rfl ?_
  refine x_aload_n (pc2 := 109) 0 (n := 0) (x := a0) rfl dX12_year_108 rfl ?_
  refine x_callV (pc2 := 112) (As := []) (rest := [.int 1]) (b := a0) mv_X12_draw ml_X12_562 ((k4.up p3).up p8) rfl rfl (Nat.le_of_ble_eq_true rfl) hd1 dX12_year_109 rfl (ht.mono (fun r10 h11 p12 ht' => ?_))
  clear ht
  obtain ⟨v13, rfl, ht⟩ := ht'
  show Ex G d mX12_year 112 [(0, .ref a0), (1, .int x1), (2, .int x2), (3, .int x3), (4, .int x4), (5, .int x5), (6, .int (1 + (irm v5 3))), (7, .int (1 + (irm v9 3)))] [.int v13, .int 1] h11 Q
  refine x_iconst (pc2 := 113) (v := 3) (by decide) dX12_year_112 rfl ?_
  refine y_irem (pc2 := 114) (by decide) dX12_year_113 rfl ?_
  refine x_iadd (pc2 := 115) dX12_year_114 rfl ?_
  refine x_istore (pc2 := 117) [1, 2, 3, 4, 5, 6, 7, 8, 0] (n := 8) (x := (1 + (irm v13 3))) (lv2 := [(0, .ref a0), (1, .int x1), (2, .int x2), (3, .int x3), (4, .int x4), (5, .int x5), (6, .int (1 + (irm v5 3))), (7, .int (1 + (irm v9 3))), (8, .int (1 + (irm v13 3)))]) (by decide) rfl dX12_year_115 rfl ?_
  refine x_iconst (pc2 := 118) (v := 1) (by decide) dX12_year_117 rfl ?_
  refine x_aload_n (pc2 := 119) 0 (n := 0) (x := a0) rfl dX12_year_118 rfl ?_
  refine x_callV (pc2 := 122) (As := []) (rest := [.int 1]) (b := a0) mv_X12_draw ml_X12_562 (((k4.up p3).up p8).up p12) rfl rfl (Nat.le_of_ble_eq_true rfl) hd1 dX12_year_119 rfl (ht.mono (fun r14 h15 p16 ht' => ?_))
  clear ht
  obtain ⟨v17, rfl, ht⟩ := ht'
  show Ex G d mX12_year 122 [(0, .ref a0), (1, .int x1), (2, .int x2), (3, .int x3), (4, .int x4), (5, .int x5), (6, .int (1 + (irm v5 3))), (7, .int (1 + (irm v9 3))), (8, .int (1 + (irm v13 3)))] [.int v17, .int 1] h15 Q
  refine x_iconst (pc2 := 123) (v := 3) (by decide) dX12_year_122 rfl ?_
  refine y_irem (pc2 := 124) (by decide) dX12_year_123 rfl ?_
  refine x_iadd (pc2 := 125) dX12_year_124 rfl ?_
  refine x_istore (pc2 := 127) [1, 2, 3, 4, 5, 6, 7, 8, 9, 0] (n := 9) (x := (1 + (irm v17 3))) (lv2 := [(0, .ref a0), (1, .int x1), (2, .int x2), (3, .int x3), (4, .int x4), (5, .int x5), (6, .int (1 + (irm v5 3))), (7, .int (1 + (irm v9 3))), (8, .int (1 + (irm v13 3))), (9, .int (1 + (irm v17 3)))]) (by decide) rfl dX12_year_125 rfl ?_
  refine x_aload_n (pc2 := 128) 0 (n := 0) (x := a0) rfl dX12_year_127 rfl ?_
  refine x_aload_n (pc2 := 129) 0 (n := 0) (x := a0) rfl dX12_year_128 rfl ?_
  refine x_iload (pc2 := 131) 5 (n := 5) (x := x5) rfl dX12_year_129 rfl ?_
  refine x_iconst (pc2 := 132) (v := 1) (by decide) dX12_year_131 rfl ?_
  refine x_callV (pc2 := 135) (As := [.int x5, .int 1]) (rest := [.ref a0]) (b := a0) mv_X12_of ml_X12_310 ((((k4.up p3).up p8).up p12).up p16) rfl rfl (Nat.le_of_ble_eq_true rfl) hd1 dX12_year_132 rfl (ht.mono (fun r18 h19 p20 ht' => ?_))
  clear ht
  obtain ⟨v21, rfl, ht⟩ := ht'
  show Ex G d mX12_year 135 [(0, .ref a0), (1, .int x1), (2, .int x2), (3, .int x3), (4, .int x4), (5, .int x5), (6, .int (1 + (irm v5 3))), (7, .int (1 + (irm v9 3))), (8, .int (1 + (irm v13 3))), (9, .int (1 + (irm v17 3)))] [.int v21, .ref a0] h19 Q
  refine x_iload (pc2 := 137) 6 (n := 6) (x := (1 + (irm v5 3))) rfl dX12_year_135 rfl ?_
  refine x_isub (pc2 := 138) dX12_year_137 rfl ?_
  refine x_aload_n (pc2 := 139) 0 (n := 0) (x := a0) rfl dX12_year_138 rfl ?_
  refine x_iload (pc2 := 141) 5 (n := 5) (x := x5) rfl dX12_year_139 rfl ?_
  refine x_iconst (pc2 := 142) (v := 2) (by decide) dX12_year_141 rfl ?_
  refine x_callV (pc2 := 145) (As := [.int x5, .int 2]) (rest := [.int (v21 - (1 + (irm v5 3))), .ref a0]) (b := a0) mv_X12_of ml_X12_310 (((((k4.up p3).up p8).up p12).up p16).up p20) rfl rfl (Nat.le_of_ble_eq_true rfl) hd1 dX12_year_142 rfl (ht.mono (fun r22 h23 p24 ht' => ?_))
  clear ht
  obtain ⟨v25, rfl, ht⟩ := ht'
  show Ex G d mX12_year 145 [(0, .ref a0), (1, .int x1), (2, .int x2), (3, .int x3), (4, .int x4), (5, .int x5), (6, .int (1 + (irm v5 3))), (7, .int (1 + (irm v9 3))), (8, .int (1 + (irm v13 3))), (9, .int (1 + (irm v17 3)))] [.int v25, .int (v21 - (1 + (irm v5 3))), .ref a0] h23 Q
  refine x_iload (pc2 := 147) 7 (n := 7) (x := (1 + (irm v9 3))) rfl dX12_year_145 rfl ?_
  refine x_isub (pc2 := 148) dX12_year_147 rfl ?_
  refine x_aload_n (pc2 := 149) 0 (n := 0) (x := a0) rfl dX12_year_148 rfl ?_
  refine x_iload (pc2 := 151) 5 (n := 5) (x := x5) rfl dX12_year_149 rfl ?_
  refine x_iconst (pc2 := 152) (v := 3) (by decide) dX12_year_151 rfl ?_
  refine x_callV (pc2 := 155) (As := [.int x5, .int 3]) (rest := [.int (v25 - (1 + (irm v9 3))), .int (v21 - (1 + (irm v5 3))), .ref a0]) (b := a0) mv_X12_of ml_X12_310 ((((((k4.up p3).up p8).up p12).up p16).up p20).up p24) rfl rfl (Nat.le_of_ble_eq_true rfl) hd1 dX12_year_152 rfl (ht.mono (fun r26 h27 p28 ht' => ?_))
  clear ht
  obtain ⟨v29, rfl, ht⟩ := ht'
  show Ex G d mX12_year 155 [(0, .ref a0), (1, .int x1), (2, .int x2), (3, .int x3), (4, .int x4), (5, .int x5), (6, .int (1 + (irm v5 3))), (7, .int (1 + (irm v9 3))), (8, .int (1 + (irm v13 3))), (9, .int (1 + (irm v17 3)))] [.int v29, .int (v25 - (1 + (irm v9 3))), .int (v21 - (1 + (irm v5 3))), .ref a0] h27 Q
  refine x_iload (pc2 := 157) 8 (n := 8) (x := (1 + (irm v13 3))) rfl dX12_year_155 rfl ?_
  refine x_iadd (pc2 := 158) dX12_year_157 rfl ?_
  refine x_aload_n (pc2 := 159) 0 (n := 0) (x := a0) rfl dX12_year_158 rfl ?_
  refine x_iload (pc2 := 161) 5 (n := 5) (x := x5) rfl dX12_year_159 rfl ?_
  refine x_iconst (pc2 := 162) (v := 4) (by decide) dX12_year_161 rfl ?_
  refine x_callV (pc2 := 165) (As := [.int x5, .int 4]) (rest := [.int (v29 + (1 + (irm v13 3))), .int (v25 - (1 + (irm v9 3))), .int (v21 - (1 + (irm v5 3))), .ref a0]) (b := a0) mv_X12_of ml_X12_310 (((((((k4.up p3).up p8).up p12).up p16).up p20).up p24).up p28) rfl rfl (Nat.le_of_ble_eq_true rfl) hd1 dX12_year_162 rfl (ht.mono (fun r30 h31 p32 ht' => ?_))
  clear ht
  obtain ⟨v33, rfl, ht⟩ := ht'
  show Ex G d mX12_year 165 [(0, .ref a0), (1, .int x1), (2, .int x2), (3, .int x3), (4, .int x4), (5, .int x5), (6, .int (1 + (irm v5 3))), (7, .int (1 + (irm v9 3))), (8, .int (1 + (irm v13 3))), (9, .int (1 + (irm v17 3)))] [.int v33, .int (v29 + (1 + (irm v13 3))), .int (v25 - (1 + (irm v9 3))), .int (v21 - (1 + (irm v5 3))), .ref a0] h31 Q
  refine x_iload (pc2 := 167) 9 (n := 9) (x := (1 + (irm v17 3))) rfl dX12_year_165 rfl ?_
  refine x_iadd (pc2 := 168) dX12_year_167 rfl ?_
  refine x_iload (pc2 := 170) 5 (n := 5) (x := x5) rfl dX12_year_168 rfl ?_
  refine x_iconst (pc2 := 171) (v := (-1)) (by decide) dX12_year_170 rfl ?_
  refine x_callV (pc2 := 174) (As := [.int (v21 - (1 + (irm v5 3))), .int (v25 - (1 + (irm v9 3))), .int (v29 + (1 + (irm v13 3))), .int (v33 + (1 + (irm v17 3))), .int x5, .int (-1)]) (rest := []) (b := a0) mv_X12_thinks ml_X12_408 ((((((((k4.up p3).up p8).up p12).up p16).up p20).up p24).up p28).up p32) rfl rfl (Nat.le_of_ble_eq_true rfl) hd1 dX12_year_171 rfl (ht.mono (fun r34 h35 p36 ht' => ?_))
  clear ht
  obtain ⟨rfl, ht⟩ := ht'
  show Ex G d mX12_year 174 [(0, .ref a0), (1, .int x1), (2, .int x2), (3, .int x3), (4, .int x4), (5, .int x5), (6, .int (1 + (irm v5 3))), (7, .int (1 + (irm v9 3))), (8, .int (1 + (irm v13 3))), (9, .int (1 + (irm v17 3)))] [] h35 Q
  refine x_aload_n (pc2 := 175) 0 (n := 0) (x := a0) rfl dX12_year_174 rfl ?_
  refine x_callV (pc2 := 178) (As := []) (rest := []) (b := a0) mv_X12_freeNumber ml_X12_414 (((((((((k4.up p3).up p8).up p12).up p16).up p20).up p24).up p28).up p32).up p36) rfl rfl (Nat.le_of_ble_eq_true rfl) hd1 dX12_year_175 rfl (ht.mono (fun r37 h38 p39 ht' => ?_))
  clear ht
  obtain ⟨v40, rfl, ht⟩ := ht'
  show Ex G d mX12_year 178 [(0, .ref a0), (1, .int x1), (2, .int x2), (3, .int x3), (4, .int x4), (5, .int x5), (6, .int (1 + (irm v5 3))), (7, .int (1 + (irm v9 3))), (8, .int (1 + (irm v13 3))), (9, .int (1 + (irm v17 3)))] [.int v40] h38 Q
  refine x_istore (pc2 := 180) [1, 2, 3, 4, 5, 6, 7, 8, 9, 10, 0] (n := 10) (x := v40) (lv2 := [(0, .ref a0), (1, .int x1), (2, .int x2), (3, .int x3), (4, .int x4), (5, .int x5), (6, .int (1 + (irm v5 3))), (7, .int (1 + (irm v9 3))), (8, .int (1 + (irm v13 3))), (9, .int (1 + (irm v17 3))), (10, .int v40)]) (by decide) rfl dX12_year_178 rfl ?_
  refine x_iload (pc2 := 182) 10 (n := 10) (x := v40) rfl dX12_year_180 rfl ?_
  refine x_iconst (pc2 := 183) (v := (-1)) (by decide) dX12_year_182 rfl ?_
  refine x_icmp_eq (pc2 := 186) 204 dX12_year_183 (by decide) rfl (fun c41 => ?_) (fun c41 => ?_)
  · replace ht := ht.1 c41
    refine x_sub [0, 1, 2] (lv2 := [(0, .ref a0), (1, .int x1), (2, .int x2)]) rfl ?_
    exact ht
  · replace ht := ht.2 c41
    refine x_aload_n (pc2 := 187) 0 (n := 0) (x := a0) rfl dX12_year_186 rfl ?_
    refine x_iload_n (pc2 := 188) 1 (n := 1) (x := x1) rfl dX12_year_187 rfl ?_
    refine x_iload_n (pc2 := 189) 3 (n := 3) (x := x3) rfl dX12_year_188 rfl ?_
    refine x_callV (pc2 := 192) (As := [.int x1, .int x3]) (rest := []) (b := a0) mv_X12_canCome ml_X12_411 ((((((((((k4.up p3).up p8).up p12).up p16).up p20).up p24).up p28).up p32).up p36).up p39) rfl rfl (Nat.le_of_ble_eq_true rfl) hd1 dX12_year_189 rfl (ht.mono (fun r42 h43 p44 ht' => ?_))
    clear ht
    obtain ⟨v45, rfl, ht⟩ := ht'
    show Ex G d mX12_year 192 [(0, .ref a0), (1, .int x1), (2, .int x2), (3, .int x3), (4, .int x4), (5, .int x5), (6, .int (1 + (irm v5 3))), (7, .int (1 + (irm v9 3))), (8, .int (1 + (irm v13 3))), (9, .int (1 + (irm v17 3))), (10, .int v40)] [.int v45] h43 Q
    refine x_if_eq (pc2 := 195) 204 dX12_year_192 (by decide) rfl (fun c46 => ?_) (fun c46 => ?_)
    · replace ht := ht.1 c46
      refine x_sub [0, 1, 2] (lv2 := [(0, .ref a0), (1, .int x1), (2, .int x2)]) rfl ?_
      exact ht
    · replace ht := ht.2 c46
      refine x_aload_n (pc2 := 196) 0 (n := 0) (x := a0) rfl dX12_year_195 rfl ?_
      refine x_iload (pc2 := 198) 10 (n := 10) (x := v40) rfl dX12_year_196 rfl ?_
      refine x_iload_n (pc2 := 199) 3 (n := 3) (x := x3) rfl dX12_year_198 rfl ?_
      refine x_callV (pc2 := 202) (As := [.int v40, .int x3]) (rest := []) (b := a0) mv_X12_builds ml_X12_417 (((((((((((k4.up p3).up p8).up p12).up p16).up p20).up p24).up p28).up p32).up p36).up p39).up p44) rfl rfl (Nat.le_of_ble_eq_true rfl) hd1 dX12_year_199 rfl (ht.mono (fun r47 h48 p49 ht' => ?_))
      clear ht
      obtain ⟨rfl, ht⟩ := ht'
      show Ex G d mX12_year 202 [(0, .ref a0), (1, .int x1), (2, .int x2), (3, .int x3), (4, .int x4), (5, .int x5), (6, .int (1 + (irm v5 3))), (7, .int (1 + (irm v9 3))), (8, .int (1 + (irm v13 3))), (9, .int (1 + (irm v17 3))), (10, .int v40)] [] h48 Q
      refine x_iconst (pc2 := 203) (v := 1) (by decide) dX12_year_202 rfl ?_
      refine x_istore_n (pc2 := 204) [1, 2, 0, 3, 4, 5, 6, 7, 8, 9, 10] (n := 2) (x := 1) (lv2 := [(0, .ref a0), (1, .int x1), (2, .int 1), (3, .int x3), (4, .int x4), (5, .int x5), (6, .int (1 + (irm v5 3))), (7, .int (1 + (irm v9 3))), (8, .int (1 + (irm v13 3))), (9, .int (1 + (irm v17 3))), (10, .int v40)]) (by decide) rfl dX12_year_203 rfl ?_
      refine x_sub [0, 1, 2] (lv2 := [(0, .ref a0), (1, .int x1), (2, .int 1)]) rfl ?_
      exact ht
def T_X12_year_204 (G : GG) (d : Nat) (h : HP) (Q : Option Value → HP → Prop) (a0 : Nat) (x1 : Int32) (x2 : Int32) : Prop :=
  Kd G h a0 12 ∧ ∃ q2, hR h a0 29 = some q2 ∧ Kd G h q2 14 ∧ vp_in 3 (hN h q2) ∧ vp_in 3 (hN h q2) ∧ Q (some (.int x2)) (sI h q2 3 ((hI h q2 3) + 1))
set_option maxRecDepth 20000 in
theorem t_X12_year_204 {G : GG} {d : Nat} {h : HP} {Q : Option Value → HP → Prop} {a0 : Nat} {x1 : Int32} {x2 : Int32} (ht : T_X12_year_204 G d h Q a0 x1 x2) : Ex G d mX12_year 204 [(0, .ref a0), (1, .int x1), (2, .int x2)] [] h Q := by
  unfold T_X12_year_204 at ht
  refine x_aload_n (pc2 := 205) 0 (n := 0) (x := a0) rfl dX12_year_204 rfl ?_
  obtain ⟨k1, ht⟩ := ht
  obtain ⟨q2, e3, ht⟩ := ht
  refine y_getR (pc2 := 208) (κ := 12) (k := 29) fl_X12_48 (by decide) (by decide) k1 rfl e3 dX12_year_205 rfl ?_
  refine x_iconst (pc2 := 209) (v := 3) (by decide) dX12_year_208 rfl ?_
  refine x_dup2 (pc2 := 210) rfl rfl dX12_year_209 rfl ?_
  obtain ⟨k4, ht⟩ := ht
  obtain ⟨b5, ht⟩ := ht
  refine z_iald (pc2 := 211) (k := 3) (by decide) k4 b5 dX12_year_210 rfl ?_
  refine x_iconst (pc2 := 212) (v := 1) (by decide) dX12_year_211 rfl ?_
  refine x_iadd (pc2 := 213) dX12_year_212 rfl ?_
  obtain ⟨b6, ht⟩ := ht
  refine z_iast (pc2 := 214) (k := 3) (by decide) k4 b6 dX12_year_213 rfl ?_
  refine x_iload_n (pc2 := 215) 2 (n := 2) (x := x2) rfl dX12_year_214 rfl ?_
  exact x_ret (ty := .int) rfl rfl dX12_year_215 ht
def T_X12_years (G : GG) (d : Nat) (h : HP) (Q : Option Value → HP → Prop) (a0 : Nat) (x1 : Int32) (x2 : Int32) : Prop :=
  Kd G h a0 12 ∧ Cal G (d - 1) mX12_isText [.ref a0, .int 0, .int x1] h (fun r1 h2 => ∃ v5, r1 = some (.int v5) ∧ ((v5 = 0 → Q (some (.int (-1))) h2) ∧ (¬ v5 = 0 → Cal G (d - 1) mX12_in [.long (x2.toInt64), .long 1, .long 60] h2 (fun r7 h8 => ∃ v10, r7 = some (.int v10) ∧ ((v10 = 0 → Q (some (.int (-1))) h8) ∧ (¬ v10 = 0 → ∃ q12, hR h8 a0 29 = some q12 ∧ Kd G h8 q12 14 ∧ vp_in 3 (hN h8 q12) ∧ ((((hI h8 q12 3) + x2) ≤ 9999 → Ex G d mX12_years 42 [(0, .ref a0), (1, .int x1), (2, .int x2), (3, .int 0), (4, .int 0)] [] h8 Q) ∧ (¬ ((hI h8 q12 3) + x2) ≤ 9999 → Q (some (.int (-1))) h8))))))))
set_option maxRecDepth 20000 in
theorem t_X12_years {G : GG} {d : Nat} {h : HP} {Q : Option Value → HP → Prop} {a0 : Nat} {x1 : Int32} {x2 : Int32} (hd1 : 1 ≤ d) (ht : T_X12_years G d h Q a0 x1 x2) : Ex G d mX12_years 0 [(0, .ref a0), (1, .int x1), (2, .int x2)] [] h Q := by
  unfold T_X12_years at ht
  refine x_aload_n (pc2 := 1) 0 (n := 0) (x := a0) rfl dX12_years_0 rfl ?_
  refine x_iconst (pc2 := 2) (v := 0) (by decide) dX12_years_1 rfl ?_
  refine x_iload_n (pc2 := 3) 1 (n := 1) (x := x1) rfl dX12_years_2 rfl ?_
  obtain ⟨k4, ht⟩ := ht
  refine x_callV (pc2 := 6) (As := [.int 0, .int x1]) (rest := []) (b := a0) mv_X12_isText ml_X12_402 k4 rfl rfl (Nat.le_of_ble_eq_true rfl) hd1 dX12_years_3 rfl (ht.mono (fun r1 h2 p3 ht' => ?_))
  clear ht
  obtain ⟨v5, rfl, ht⟩ := ht'
  show Ex G d mX12_years 6 [(0, .ref a0), (1, .int x1), (2, .int x2)] [.int v5] h2 Q
  refine x_if_eq (pc2 := 9) 35 dX12_years_6 (by decide) rfl (fun c6 => ?_) (fun c6 => ?_)
  · replace ht := ht.1 c6
    refine x_iconst (pc2 := 36) (v := (-1)) (by decide) dX12_years_35 rfl ?_
    exact x_ret (ty := .int) rfl rfl dX12_years_36 ht
  · replace ht := ht.2 c6
    refine x_iload_n (pc2 := 10) 2 (n := 2) (x := x2) rfl dX12_years_9 rfl ?_
    refine x_i2l (pc2 := 11) dX12_years_10 rfl ?_
    refine x_lconst (pc2 := 12) (v := 1) (by decide) dX12_years_11 rfl ?_
    refine x_ldc2 (pc2 := 15) (v := 60) ct_X12_565 dX12_years_12 rfl ?_
    refine x_callS (pc2 := 18) (As := [.long (x2.toInt64), .long 1, .long 60]) (rest := []) ms_X12_in ml_X12_112 rfl rfl (Nat.le_of_ble_eq_true rfl) hd1 dX12_years_15 rfl (ht.mono (fun r7 h8 p9 ht' => ?_))
    clear ht
    obtain ⟨v10, rfl, ht⟩ := ht'
    show Ex G d mX12_years 18 [(0, .ref a0), (1, .int x1), (2, .int x2)] [.int v10] h8 Q
    refine x_if_eq (pc2 := 21) 35 dX12_years_18 (by decide) rfl (fun c11 => ?_) (fun c11 => ?_)
    · replace ht := ht.1 c11
      refine x_iconst (pc2 := 36) (v := (-1)) (by decide) dX12_years_35 rfl ?_
      exact x_ret (ty := .int) rfl rfl dX12_years_36 ht
    · replace ht := ht.2 c11
      refine x_aload_n (pc2 := 22) 0 (n := 0) (x := a0) rfl dX12_years_21 rfl ?_
      obtain ⟨q12, e13, ht⟩ := ht
      refine y_getR (pc2 := 25) (κ := 12) (k := 29) fl_X12_48 (by decide) (by decide) ((k4.up p3).up p9) rfl e13 dX12_years_22 rfl ?_
      refine x_iconst (pc2 := 26) (v := 3) (by decide) dX12_years_25 rfl ?_
      obtain ⟨k14, ht⟩ := ht
      obtain ⟨b15, ht⟩ := ht
      refine z_iald (pc2 := 27) (k := 3) (by decide) k14 b15 dX12_years_26 rfl ?_
      refine x_iload_n (pc2 := 28) 2 (n := 2) (x := x2) rfl dX12_years_27 rfl ?_
      refine x_iadd (pc2 := 29) dX12_years_28 rfl ?_
      refine x_sipush (pc2 := 32) (v := 9999) (by decide) dX12_years_29 rfl ?_
      refine x_icmp_le (pc2 := 35) 37 dX12_years_32 (by decide) rfl (fun c16 => ?_) (fun c16 => ?_)
      · replace ht := ht.1 c16
        refine x_iconst (pc2 := 38) (v := 0) (by decide) dX12_years_37 rfl ?_
        refine x_istore_n (pc2 := 39) [1, 2, 3, 0] (n := 3) (x := 0) (lv2 := [(0, .ref a0), (1, .int x1), (2, .int x2), (3, .int 0)]) (by decide) rfl dX12_years_38 rfl ?_
        refine x_iconst (pc2 := 40) (v := 0) (by decide) dX12_years_39 rfl ?_
        refine x_istore (pc2 := 42) [1, 2, 3, 4, 0] (n := 4) (x := 0) (lv2 := [(0, .ref a0), (1, .int x1), (2, .int x2), (3, .int 0), (4, .int 0)]) (by decide) rfl dX12_years_40 rfl ?_
        exact ht
      · replace ht := ht.2 c16
        refine x_iconst (pc2 := 36) (v := (-1)) (by decide) dX12_years_35 rfl ?_
        exact x_ret (ty := .int) rfl rfl dX12_years_36 ht
theorem e_X12_years {G : GG} {d : Nat} {h : HP} {Q : Option Value → HP → Prop} {a0 : Nat} {x1 : Int32} {x2 : Int32} (hd1 : 1 ≤ d) (ht : T_X12_years G d h Q a0 x1 x2) : Cal G d mX12_years [.ref a0, .int x1, .int x2] h Q := cal_of rfl (Nat.le_of_ble_eq_true rfl) (t_X12_years hd1 ht)
def T_X12_years_42 (G : GG) (d : Nat) (h : HP) (Q : Option Value → HP → Prop) (a0 : Nat) (x1 : Int32) (x2 : Int32) (x3 : Int32) (x4 : Int32) : Prop :=
  ((x2 ≤ x4 → Q (some (.int x3)) h) ∧ (¬ x2 ≤ x4 → Kd G h a0 12 ∧ Cal G (d - 1) mX12_year [.ref a0, .int x1] h (fun r2 h3 => ∃ v6, r2 = some (.int v6) ∧ Ex G d mX12_years 42 [(0, .ref a0), (1, .int x1), (2, .int x2), (3, .int (x3 + v6)), (4, .int (x4 + 1))] [] h3 Q)))
set_option maxRecDepth 20000 in
theorem t_X12_years_42 {G : GG} {d : Nat} {h : HP} {Q : Option Value → HP → Prop} {a0 : Nat} {x1 : Int32} {x2 : Int32} {x3 : Int32} {x4 : Int32} (hd1 : 1 ≤ d) (ht : T_X12_years_42 G d h Q a0 x1 x2 x3 x4) : Ex G d mX12_years 42 [(0, .ref a0), (1, .int x1), (2, .int x2), (3, .int x3), (4, .int x4)] [] h Q := by
  unfold T_X12_years_42 at ht
  refine x_iload (pc2 := 44) 4 (n := 4) (x := x4) rfl dX12_years_42 rfl ?_
  refine x_iload_n (pc2 := 45) 2 (n := 2) (x := x2) rfl dX12_years_44 rfl ?_
  refine x_icmp_ge (pc2 := 48) 62 dX12_years_45 (by decide) rfl (fun c1 => ?_) (fun c1 => ?_)
  · replace ht := ht.1 c1
    refine x_iload_n (pc2 := 63) 3 (n := 3) (x := x3) rfl dX12_years_62 rfl ?_
    exact x_ret (ty := .int) rfl rfl dX12_years_63 ht
  · replace ht := ht.2 c1
    refine x_iload_n (pc2 := 49) 3 (n := 3) (x := x3) rfl dX12_years_48 rfl ?_
    refine x_aload_n (pc2 := 50) 0 (n := 0) (x := a0) rfl dX12_years_49 rfl ?_
    refine x_iload_n (pc2 := 51) 1 (n := 1) (x := x1) rfl dX12_years_50 rfl ?_
    obtain ⟨k5, ht⟩ := ht
    refine x_callV (pc2 := 54) (As := [.int x1]) (rest := [.int x3]) (b := a0) mv_X12_year ml_X12_567 k5 rfl rfl (Nat.le_of_ble_eq_true rfl) hd1 dX12_years_51 rfl (ht.mono (fun r2 h3 p4 ht' => ?_))
    clear ht
    obtain ⟨v6, rfl, ht⟩ := ht'
    show Ex G d mX12_years 54 [(0, .ref a0), (1, .int x1), (2, .int x2), (3, .int x3), (4, .int x4)] [.int v6, .int x3] h3 Q
    refine x_iadd (pc2 := 55) dX12_years_54 rfl ?_
    refine x_istore_n (pc2 := 56) [1, 2, 3, 0, 4] (n := 3) (x := (x3 + v6)) (lv2 := [(0, .ref a0), (1, .int x1), (2, .int x2), (3, .int (x3 + v6)), (4, .int x4)]) (by decide) rfl dX12_years_55 rfl ?_
    refine x_iinc (pc2 := 59) 4 [1, 2, 3, 4, 0] (i := 4) (x := x4) (v := (x4 + 1)) (lv2 := [(0, .ref a0), (1, .int x1), (2, .int x2), (3, .int (x3 + v6)), (4, .int (x4 + 1))]) rfl (iinc_eq (by decide) _) (by decide) rfl dX12_years_56 rfl ?_
    refine x_goto 42 dX12_years_59 (by decide) ?_
    exact ht
def T_X12_wallMany (G : GG) (d : Nat) (h : HP) (Q : Option Value → HP → Prop) (a0 : Nat) : Prop :=
  Ex G d mX12_wallMany 5 [(0, .ref a0), (1, .int 0), (2, .int 6)] [] h Q
set_option maxRecDepth 20000 in
theorem t_X12_wallMany {G : GG} {d : Nat} {h : HP} {Q : Option Value → HP → Prop} {a0 : Nat} (ht : T_X12_wallMany G d h Q a0) : Ex G d mX12_wallMany 0 [(0, .ref a0)] [] h Q := by
  unfold T_X12_wallMany at ht
  refine x_iconst (pc2 := 1) (v := 0) (by decide) dX12_wallMany_0 rfl ?_
  refine x_istore_n (pc2 := 2) [1, 0] (n := 1) (x := 0) (lv2 := [(0, .ref a0), (1, .int 0)]) (by decide) rfl dX12_wallMany_1 rfl ?_
  refine x_bipush (pc2 := 4) (v := 6) (by decide) dX12_wallMany_2 rfl ?_
  refine x_istore_n (pc2 := 5) [1, 2, 0] (n := 2) (x := 6) (lv2 := [(0, .ref a0), (1, .int 0), (2, .int 6)]) (by decide) rfl dX12_wallMany_4 rfl ?_
  exact ht
theorem e_X12_wallMany {G : GG} {d : Nat} {h : HP} {Q : Option Value → HP → Prop} {a0 : Nat} (ht : T_X12_wallMany G d h Q a0) : Cal G d mX12_wallMany [.ref a0] h Q := cal_of rfl (Nat.le_of_ble_eq_true rfl) (t_X12_wallMany ht)
def T_X12_wallMany_5 (G : GG) (d : Nat) (h : HP) (Q : Option Value → HP → Prop) (a0 : Nat) (x1 : Int32) (x2 : Int32) : Prop :=
  ((30 ≤ x2 → Q (some (.int x1)) h) ∧ (¬ 30 ≤ x2 → Kd G h a0 12 ∧ Cal G (d - 1) mX12_isThing [.ref a0, .int x2] h (fun r2 h3 => ∃ v6, r2 = some (.int v6) ∧ ((v6 = 0 → Ex G d mX12_wallMany 5 [(0, .ref a0), (1, .int (x1 + 0)), (2, .int (x2 + 1))] [] h3 Q) ∧ (¬ v6 = 0 → Ex G d mX12_wallMany 5 [(0, .ref a0), (1, .int (x1 + 1)), (2, .int (x2 + 1))] [] h3 Q)))))
set_option maxRecDepth 20000 in
theorem t_X12_wallMany_5 {G : GG} {d : Nat} {h : HP} {Q : Option Value → HP → Prop} {a0 : Nat} {x1 : Int32} {x2 : Int32} (hd1 : 1 ≤ d) (ht : T_X12_wallMany_5 G d h Q a0 x1 x2) : Ex G d mX12_wallMany 5 [(0, .ref a0), (1, .int x1), (2, .int x2)] [] h Q := by
  unfold T_X12_wallMany_5 at ht
  refine x_iload_n (pc2 := 6) 2 (n := 2) (x := x2) rfl dX12_wallMany_5 rfl ?_
  refine x_bipush (pc2 := 8) (v := 30) (by decide) dX12_wallMany_6 rfl ?_
  refine x_icmp_ge (pc2 := 11) 33 dX12_wallMany_8 (by decide) rfl (fun c1 => ?_) (fun c1 => ?_)
  · replace ht := ht.1 c1
    refine x_iload_n (pc2 := 34) 1 (n := 1) (x := x1) rfl dX12_wallMany_33 rfl ?_
    exact x_ret (ty := .int) rfl rfl dX12_wallMany_34 ht
  · replace ht := ht.2 c1
    refine x_iload_n (pc2 := 12) 1 (n := 1) (x := x1) rfl dX12_wallMany_11 rfl ?_
    refine x_aload_n (pc2 := 13) 0 (n := 0) (x := a0) rfl dX12_wallMany_12 rfl ?_
    refine x_iload_n (pc2 := 14) 2 (n := 2) (x := x2) rfl dX12_wallMany_13 rfl ?_
    obtain ⟨k5, ht⟩ := ht
    refine x_callV (pc2 := 17) (As := [.int x2]) (rest := [.int x1]) (b := a0) mv_X12_isThing ml_X12_314 k5 rfl rfl (Nat.le_of_ble_eq_true rfl) hd1 dX12_wallMany_14 rfl (ht.mono (fun r2 h3 p4 ht' => ?_))
    clear ht
    obtain ⟨v6, rfl, ht⟩ := ht'
    show Ex G d mX12_wallMany 17 [(0, .ref a0), (1, .int x1), (2, .int x2)] [.int v6, .int x1] h3 Q
    refine x_if_eq (pc2 := 20) 24 dX12_wallMany_17 (by decide) rfl (fun c7 => ?_) (fun c7 => ?_)
    · replace ht := ht.1 c7
      refine x_iconst (pc2 := 25) (v := 0) (by decide) dX12_wallMany_24 rfl ?_
      refine x_iadd (pc2 := 26) dX12_wallMany_25 rfl ?_
      refine x_istore_n (pc2 := 27) [1, 0, 2] (n := 1) (x := (x1 + 0)) (lv2 := [(0, .ref a0), (1, .int (x1 + 0)), (2, .int x2)]) (by decide) rfl dX12_wallMany_26 rfl ?_
      refine x_iinc (pc2 := 30) 2 [1, 2, 0] (i := 2) (x := x2) (v := (x2 + 1)) (lv2 := [(0, .ref a0), (1, .int (x1 + 0)), (2, .int (x2 + 1))]) rfl (iinc_eq (by decide) _) (by decide) rfl dX12_wallMany_27 rfl ?_
      refine x_goto 5 dX12_wallMany_30 (by decide) ?_
      exact ht
    · replace ht := ht.2 c7
      refine x_iconst (pc2 := 21) (v := 1) (by decide) dX12_wallMany_20 rfl ?_
      refine x_goto 25 dX12_wallMany_21 (by decide) ?_
      refine x_iadd (pc2 := 26) dX12_wallMany_25 rfl ?_
      refine x_istore_n (pc2 := 27) [1, 0, 2] (n := 1) (x := (x1 + 1)) (lv2 := [(0, .ref a0), (1, .int (x1 + 1)), (2, .int x2)]) (by decide) rfl dX12_wallMany_26 rfl ?_
      refine x_iinc (pc2 := 30) 2 [1, 2, 0] (i := 2) (x := x2) (v := (x2 + 1)) (lv2 := [(0, .ref a0), (1, .int (x1 + 1)), (2, .int (x2 + 1))]) rfl (iinc_eq (by decide) _) (by decide) rfl dX12_wallMany_27 rfl ?_
      refine x_goto 5 dX12_wallMany_30 (by decide) ?_
      exact ht
def T_X12_deepest (G : GG) (d : Nat) (h : HP) (Q : Option Value → HP → Prop) (a0 : Nat) : Prop :=
  Ex G d mX12_deepest 5 [(0, .ref a0), (1, .int 0), (2, .int 6)] [] h Q
set_option maxRecDepth 20000 in
theorem t_X12_deepest {G : GG} {d : Nat} {h : HP} {Q : Option Value → HP → Prop} {a0 : Nat} (ht : T_X12_deepest G d h Q a0) : Ex G d mX12_deepest 0 [(0, .ref a0)] [] h Q := by
  unfold T_X12_deepest at ht
  refine x_iconst (pc2 := 1) (v := 0) (by decide) dX12_deepest_0 rfl ?_
  refine x_istore_n (pc2 := 2) [1, 0] (n := 1) (x := 0) (lv2 := [(0, .ref a0), (1, .int 0)]) (by decide) rfl dX12_deepest_1 rfl ?_
  refine x_bipush (pc2 := 4) (v := 6) (by decide) dX12_deepest_2 rfl ?_
  refine x_istore_n (pc2 := 5) [1, 2, 0] (n := 2) (x := 6) (lv2 := [(0, .ref a0), (1, .int 0), (2, .int 6)]) (by decide) rfl dX12_deepest_4 rfl ?_
  exact ht
theorem e_X12_deepest {G : GG} {d : Nat} {h : HP} {Q : Option Value → HP → Prop} {a0 : Nat} (ht : T_X12_deepest G d h Q a0) : Cal G d mX12_deepest [.ref a0] h Q := cal_of rfl (Nat.le_of_ble_eq_true rfl) (t_X12_deepest ht)
def T_X12_deepest_5 (G : GG) (d : Nat) (h : HP) (Q : Option Value → HP → Prop) (a0 : Nat) (x1 : Int32) (x2 : Int32) : Prop :=
  ((30 ≤ x2 → Q (some (.int x1)) h) ∧ (¬ 30 ≤ x2 → Kd G h a0 12 ∧ Cal G (d - 1) mX12_isThing [.ref a0, .int x2] h (fun r2 h3 => ∃ v6, r2 = some (.int v6) ∧ ((v6 = 0 → Ex G d mX12_deepest 5 [(0, .ref a0), (1, .int x1), (2, .int (x2 + 1))] [] h3 Q) ∧ (¬ v6 = 0 → Cal G (d - 1) mX12_deepOf [.ref a0, .int x2] h3 (fun r8 h9 => ∃ v11, r8 = some (.int v11) ∧ Cal G (d - 1) mX12_more [.int x1, .int v11] h9 (fun r12 h13 => ∃ v15, r12 = some (.int v15) ∧ Ex G d mX12_deepest 5 [(0, .ref a0), (1, .int v15), (2, .int (x2 + 1))] [] h13 Q)))))))
set_option maxRecDepth 20000 in
theorem t_X12_deepest_5 {G : GG} {d : Nat} {h : HP} {Q : Option Value → HP → Prop} {a0 : Nat} {x1 : Int32} {x2 : Int32} (hd1 : 1 ≤ d) (ht : T_X12_deepest_5 G d h Q a0 x1 x2) : Ex G d mX12_deepest 5 [(0, .ref a0), (1, .int x1), (2, .int x2)] [] h Q := by
  unfold T_X12_deepest_5 at ht
  refine x_iload_n (pc2 := 6) 2 (n := 2) (x := x2) rfl dX12_deepest_5 rfl ?_
  refine x_bipush (pc2 := 8) (v := 30) (by decide) dX12_deepest_6 rfl ?_
  refine x_icmp_ge (pc2 := 11) 39 dX12_deepest_8 (by decide) rfl (fun c1 => ?_) (fun c1 => ?_)
  · replace ht := ht.1 c1
    refine x_iload_n (pc2 := 40) 1 (n := 1) (x := x1) rfl dX12_deepest_39 rfl ?_
    exact x_ret (ty := .int) rfl rfl dX12_deepest_40 ht
  · replace ht := ht.2 c1
    refine x_aload_n (pc2 := 12) 0 (n := 0) (x := a0) rfl dX12_deepest_11 rfl ?_
    refine x_iload_n (pc2 := 13) 2 (n := 2) (x := x2) rfl dX12_deepest_12 rfl ?_
    obtain ⟨k5, ht⟩ := ht
    refine x_callV (pc2 := 16) (As := [.int x2]) (rest := []) (b := a0) mv_X12_isThing ml_X12_314 k5 rfl rfl (Nat.le_of_ble_eq_true rfl) hd1 dX12_deepest_13 rfl (ht.mono (fun r2 h3 p4 ht' => ?_))
    clear ht
    obtain ⟨v6, rfl, ht⟩ := ht'
    show Ex G d mX12_deepest 16 [(0, .ref a0), (1, .int x1), (2, .int x2)] [.int v6] h3 Q
    refine x_if_eq (pc2 := 19) 31 dX12_deepest_16 (by decide) rfl (fun c7 => ?_) (fun c7 => ?_)
    · replace ht := ht.1 c7
      refine x_iload_n (pc2 := 32) 1 (n := 1) (x := x1) rfl dX12_deepest_31 rfl ?_
      refine x_istore_n (pc2 := 33) [1, 0, 2] (n := 1) (x := x1) (lv2 := [(0, .ref a0), (1, .int x1), (2, .int x2)]) (by decide) rfl dX12_deepest_32 rfl ?_
      refine x_iinc (pc2 := 36) 2 [1, 2, 0] (i := 2) (x := x2) (v := (x2 + 1)) (lv2 := [(0, .ref a0), (1, .int x1), (2, .int (x2 + 1))]) rfl (iinc_eq (by decide) _) (by decide) rfl dX12_deepest_33 rfl ?_
      refine x_goto 5 dX12_deepest_36 (by decide) ?_
      exact ht
    · replace ht := ht.2 c7
      refine x_iload_n (pc2 := 20) 1 (n := 1) (x := x1) rfl dX12_deepest_19 rfl ?_
      refine x_aload_n (pc2 := 21) 0 (n := 0) (x := a0) rfl dX12_deepest_20 rfl ?_
      refine x_iload_n (pc2 := 22) 2 (n := 2) (x := x2) rfl dX12_deepest_21 rfl ?_
      refine x_callV (pc2 := 25) (As := [.int x2]) (rest := [.int x1]) (b := a0) mv_X12_deepOf ml_X12_351 (k5.up p4) rfl rfl (Nat.le_of_ble_eq_true rfl) hd1 dX12_deepest_22 rfl (ht.mono (fun r8 h9 p10 ht' => ?_))
      clear ht
      obtain ⟨v11, rfl, ht⟩ := ht'
      show Ex G d mX12_deepest 25 [(0, .ref a0), (1, .int x1), (2, .int x2)] [.int v11, .int x1] h9 Q
      refine x_callS (pc2 := 28) (As := [.int x1, .int v11]) (rest := []) ms_X12_more ml_X12_473 rfl rfl (Nat.le_of_ble_eq_true rfl) hd1 dX12_deepest_25 rfl (ht.mono (fun r12 h13 p14 ht' => ?_))
      clear ht
      obtain ⟨v15, rfl, ht⟩ := ht'
      show Ex G d mX12_deepest 28 [(0, .ref a0), (1, .int x1), (2, .int x2)] [.int v15] h13 Q
      refine x_goto 32 dX12_deepest_28 (by decide) ?_
      refine x_istore_n (pc2 := 33) [1, 0, 2] (n := 1) (x := v15) (lv2 := [(0, .ref a0), (1, .int v15), (2, .int x2)]) (by decide) rfl dX12_deepest_32 rfl ?_
      refine x_iinc (pc2 := 36) 2 [1, 2, 0] (i := 2) (x := x2) (v := (x2 + 1)) (lv2 := [(0, .ref a0), (1, .int v15), (2, .int (x2 + 1))]) rfl (iinc_eq (by decide) _) (by decide) rfl dX12_deepest_33 rfl ?_
      refine x_goto 5 dX12_deepest_36 (by decide) ?_
      exact ht
def T_X12_after (G : GG) (d : Nat) (h : HP) (Q : Option Value → HP → Prop) (a0 : Nat) (x1 : Int32) (x2 : Int32) (x3 : Int32) : Prop :=
  Kd G h a0 12 ∧ Cal G (d - 1) mX12_isText [.ref a0, .int 0, .int x1] h (fun r1 h2 => ∃ v5, r1 = some (.int v5) ∧ ((v5 = 0 → Q (some (.int (-1))) h2) ∧ (¬ v5 = 0 → Cal G (d - 1) mX12_in [.long (x2.toInt64), .long 0, .long 60] h2 (fun r7 h8 => ∃ v10, r7 = some (.int v10) ∧ ((v10 = 0 → Q (some (.int (-1))) h8) ∧ (¬ v10 = 0 → Cal G (d - 1) mX12_in [.long (x3.toInt64), .long 0, .long 3] h8 (fun r12 h13 => ∃ v15, r12 = some (.int v15) ∧ ((¬ v15 = 0 → Cal G (d - 1) mX12_keeps [.ref a0] h13 (fun r17 h18 => r17 = none ∧ Ex G d mX12_after 42 [(0, .ref a0), (1, .int x1), (2, .int x2), (3, .int x3), (4, .int 0)] [] h18 Q)) ∧ (v15 = 0 → Q (some (.int (-1))) h13)))))))))
set_option maxRecDepth 20000 in
theorem t_X12_after {G : GG} {d : Nat} {h : HP} {Q : Option Value → HP → Prop} {a0 : Nat} {x1 : Int32} {x2 : Int32} {x3 : Int32} (hd1 : 1 ≤ d) (ht : T_X12_after G d h Q a0 x1 x2 x3) : Ex G d mX12_after 0 [(0, .ref a0), (1, .int x1), (2, .int x2), (3, .int x3)] [] h Q := by
  unfold T_X12_after at ht
  refine x_aload_n (pc2 := 1) 0 (n := 0) (x := a0) rfl dX12_after_0 rfl ?_
  refine x_iconst (pc2 := 2) (v := 0) (by decide) dX12_after_1 rfl ?_
  refine x_iload_n (pc2 := 3) 1 (n := 1) (x := x1) rfl dX12_after_2 rfl ?_
  obtain ⟨k4, ht⟩ := ht
  refine x_callV (pc2 := 6) (As := [.int 0, .int x1]) (rest := []) (b := a0) mv_X12_isText ml_X12_402 k4 rfl rfl (Nat.le_of_ble_eq_true rfl) hd1 dX12_after_3 rfl (ht.mono (fun r1 h2 p3 ht' => ?_))
  clear ht
  obtain ⟨v5, rfl, ht⟩ := ht'
  show Ex G d mX12_after 6 [(0, .ref a0), (1, .int x1), (2, .int x2), (3, .int x3)] [.int v5] h2 Q
  refine x_if_eq (pc2 := 9) 33 dX12_after_6 (by decide) rfl (fun c6 => ?_) (fun c6 => ?_)
  · replace ht := ht.1 c6
    refine x_iconst (pc2 := 34) (v := (-1)) (by decide) dX12_after_33 rfl ?_
    exact x_ret (ty := .int) rfl rfl dX12_after_34 ht
  · replace ht := ht.2 c6
    refine x_iload_n (pc2 := 10) 2 (n := 2) (x := x2) rfl dX12_after_9 rfl ?_
    refine x_i2l (pc2 := 11) dX12_after_10 rfl ?_
    refine x_lconst (pc2 := 12) (v := 0) (by decide) dX12_after_11 rfl ?_
    refine x_ldc2 (pc2 := 15) (v := 60) ct_X12_565 dX12_after_12 rfl ?_
    refine x_callS (pc2 := 18) (As := [.long (x2.toInt64), .long 0, .long 60]) (rest := []) ms_X12_in ml_X12_112 rfl rfl (Nat.le_of_ble_eq_true rfl) hd1 dX12_after_15 rfl (ht.mono (fun r7 h8 p9 ht' => ?_))
    clear ht
    obtain ⟨v10, rfl, ht⟩ := ht'
    show Ex G d mX12_after 18 [(0, .ref a0), (1, .int x1), (2, .int x2), (3, .int x3)] [.int v10] h8 Q
    refine x_if_eq (pc2 := 21) 33 dX12_after_18 (by decide) rfl (fun c11 => ?_) (fun c11 => ?_)
    · replace ht := ht.1 c11
      refine x_iconst (pc2 := 34) (v := (-1)) (by decide) dX12_after_33 rfl ?_
      exact x_ret (ty := .int) rfl rfl dX12_after_34 ht
    · replace ht := ht.2 c11
      refine x_iload_n (pc2 := 22) 3 (n := 3) (x := x3) rfl dX12_after_21 rfl ?_
      refine x_i2l (pc2 := 23) dX12_after_22 rfl ?_
      refine x_lconst (pc2 := 24) (v := 0) (by decide) dX12_after_23 rfl ?_
      refine x_ldc2 (pc2 := 27) (v := 3) ct_X12_432 dX12_after_24 rfl ?_
      refine x_callS (pc2 := 30) (As := [.long (x3.toInt64), .long 0, .long 3]) (rest := []) ms_X12_in ml_X12_112 rfl rfl (Nat.le_of_ble_eq_true rfl) hd1 dX12_after_27 rfl (ht.mono (fun r12 h13 p14 ht' => ?_))
      clear ht
      obtain ⟨v15, rfl, ht⟩ := ht'
      show Ex G d mX12_after 30 [(0, .ref a0), (1, .int x1), (2, .int x2), (3, .int x3)] [.int v15] h13 Q
      refine y_if_ne (pc2 := 33) 35 dX12_after_30 (by decide) rfl (fun c16 => ?_) (fun c16 => ?_)
      · replace ht := ht.1 c16
        refine x_aload_n (pc2 := 36) 0 (n := 0) (x := a0) rfl dX12_after_35 rfl ?_
        refine x_callV (pc2 := 39) (As := []) (rest := []) (b := a0) mv_X12_keeps ml_X12_548 (((k4.up p3).up p9).up p14) rfl rfl (Nat.le_of_ble_eq_true rfl) hd1 dX12_after_36 rfl (ht.mono (fun r17 h18 p19 ht' => ?_))
        clear ht
        obtain ⟨rfl, ht⟩ := ht'
        show Ex G d mX12_after 39 [(0, .ref a0), (1, .int x1), (2, .int x2), (3, .int x3)] [] h18 Q
        refine x_iconst (pc2 := 40) (v := 0) (by decide) dX12_after_39 rfl ?_
        refine x_istore (pc2 := 42) [1, 2, 3, 4, 0] (n := 4) (x := 0) (lv2 := [(0, .ref a0), (1, .int x1), (2, .int x2), (3, .int x3), (4, .int 0)]) (by decide) rfl dX12_after_40 rfl ?_
        exact ht
      · replace ht := ht.2 c16
        refine x_iconst (pc2 := 34) (v := (-1)) (by decide) dX12_after_33 rfl ?_
        exact x_ret (ty := .int) rfl rfl dX12_after_34 ht
theorem e_X12_after {G : GG} {d : Nat} {h : HP} {Q : Option Value → HP → Prop} {a0 : Nat} {x1 : Int32} {x2 : Int32} {x3 : Int32} (hd1 : 1 ≤ d) (ht : T_X12_after G d h Q a0 x1 x2 x3) : Cal G d mX12_after [.ref a0, .int x1, .int x2, .int x3] h Q := cal_of rfl (Nat.le_of_ble_eq_true rfl) (t_X12_after hd1 ht)
def T_X12_after_42 (G : GG) (d : Nat) (h : HP) (Q : Option Value → HP → Prop) (a0 : Nat) (x1 : Int32) (x2 : Int32) (x3 : Int32) (x4 : Int32) : Prop :=
  ((x2 ≤ x4 → ((¬ x3 = 0 → ((¬ x3 = 1 → ((¬ x3 = 2 → Kd G h a0 12 ∧ Cal G (d - 1) mX12_freeCells [.ref a0] h (fun r5 h6 => ∃ v9, r5 = some (.int v9) ∧ Cal G (d - 1) mX12_putsBack [.ref a0] h6 (fun r10 h11 => r10 = none ∧ Q (some (.int v9)) h11))) ∧ (x3 = 2 → Kd G h a0 12 ∧ Cal G (d - 1) mX12_deepest [.ref a0] h (fun r13 h14 => ∃ v17, r13 = some (.int v17) ∧ Cal G (d - 1) mX12_putsBack [.ref a0] h14 (fun r18 h19 => r18 = none ∧ Q (some (.int v17)) h19))))) ∧ (x3 = 1 → Kd G h a0 12 ∧ Cal G (d - 1) mX12_nestMany [.ref a0] h (fun r21 h22 => ∃ v25, r21 = some (.int v25) ∧ Cal G (d - 1) mX12_putsBack [.ref a0] h22 (fun r26 h27 => r26 = none ∧ Q (some (.int v25)) h27))))) ∧ (x3 = 0 → Kd G h a0 12 ∧ Cal G (d - 1) mX12_wallMany [.ref a0] h (fun r29 h30 => ∃ v33, r29 = some (.int v33) ∧ Cal G (d - 1) mX12_putsBack [.ref a0] h30 (fun r34 h35 => r34 = none ∧ Q (some (.int v33)) h35))))) ∧ (¬ x2 ≤ x4 → Kd G h a0 12 ∧ Cal G (d - 1) mX12_year [.ref a0, .int x1] h (fun r37 h38 => ∃ v41, r37 = some (.int v41) ∧ Ex G d mX12_after 42 [(0, .ref a0), (1, .int x1), (2, .int x2), (3, .int x3), (4, .int (x4 + 1))] [] h38 Q)))
set_option maxRecDepth 20000 in
theorem t_X12_after_42 {G : GG} {d : Nat} {h : HP} {Q : Option Value → HP → Prop} {a0 : Nat} {x1 : Int32} {x2 : Int32} {x3 : Int32} {x4 : Int32} (hd1 : 1 ≤ d) (ht : T_X12_after_42 G d h Q a0 x1 x2 x3 x4) : Ex G d mX12_after 42 [(0, .ref a0), (1, .int x1), (2, .int x2), (3, .int x3), (4, .int x4)] [] h Q := by
  unfold T_X12_after_42 at ht
  refine x_iload (pc2 := 44) 4 (n := 4) (x := x4) rfl dX12_after_42 rfl ?_
  refine x_iload_n (pc2 := 45) 2 (n := 2) (x := x2) rfl dX12_after_44 rfl ?_
  refine x_icmp_ge (pc2 := 48) 60 dX12_after_45 (by decide) rfl (fun c1 => ?_) (fun c1 => ?_)
  · replace ht := ht.1 c1
    refine x_iload_n (pc2 := 61) 3 (n := 3) (x := x3) rfl dX12_after_60 rfl ?_
    refine y_if_ne (pc2 := 64) 71 dX12_after_61 (by decide) rfl (fun c2 => ?_) (fun c2 => ?_)
    · replace ht := ht.1 c2
      refine x_iload_n (pc2 := 72) 3 (n := 3) (x := x3) rfl dX12_after_71 rfl ?_
      refine x_iconst (pc2 := 73) (v := 1) (by decide) dX12_after_72 rfl ?_
      refine y_icmp_ne (pc2 := 76) 83 dX12_after_73 (by decide) rfl (fun c3 => ?_) (fun c3 => ?_)
      · replace ht := ht.1 c3
        refine x_iload_n (pc2 := 84) 3 (n := 3) (x := x3) rfl dX12_after_83 rfl ?_
        refine x_iconst (pc2 := 85) (v := 2) (by decide) dX12_after_84 rfl ?_
        refine y_icmp_ne (pc2 := 88) 95 dX12_after_85 (by decide) rfl (fun c4 => ?_) (fun c4 => ?_)
        · replace ht := ht.1 c4
          refine x_aload_n (pc2 := 96) 0 (n := 0) (x := a0) rfl dX12_after_95 rfl ?_
          obtain ⟨k8, ht⟩ := ht
          refine x_callV (pc2 := 99) (As := []) (rest := []) (b := a0) mv_X12_freeCells ml_X12_507 k8 rfl rfl (Nat.le_of_ble_eq_true rfl) hd1 dX12_after_96 rfl (ht.mono (fun r5 h6 p7 ht' => ?_))
          clear ht
          obtain ⟨v9, rfl, ht⟩ := ht'
          show Ex G d mX12_after 99 [(0, .ref a0), (1, .int x1), (2, .int x2), (3, .int x3), (4, .int x4)] [.int v9] h6 Q
          refine x_istore (pc2 := 101) [1, 2, 3, 4, 0] (n := 4) (x := v9) (lv2 := [(0, .ref a0), (1, .int x1), (2, .int x2), (3, .int x3), (4, .int v9)]) (by decide) rfl dX12_after_99 rfl ?_
          refine x_aload_n (pc2 := 102) 0 (n := 0) (x := a0) rfl dX12_after_101 rfl ?_
          refine x_callV (pc2 := 105) (As := []) (rest := []) (b := a0) mv_X12_putsBack ml_X12_551 (k8.up p7) rfl rfl (Nat.le_of_ble_eq_true rfl) hd1 dX12_after_102 rfl (ht.mono (fun r10 h11 p12 ht' => ?_))
          clear ht
          obtain ⟨rfl, ht⟩ := ht'
          show Ex G d mX12_after 105 [(0, .ref a0), (1, .int x1), (2, .int x2), (3, .int x3), (4, .int v9)] [] h11 Q
          refine x_iload (pc2 := 107) 4 (n := 4) (x := v9) rfl dX12_after_105 rfl ?_
          exact x_ret (ty := .int) rfl rfl dX12_after_107 ht
        · replace ht := ht.2 c4
          refine x_aload_n (pc2 := 89) 0 (n := 0) (x := a0) rfl dX12_after_88 rfl ?_
          obtain ⟨k16, ht⟩ := ht
          refine x_callV (pc2 := 92) (As := []) (rest := []) (b := a0) mv_X12_deepest ml_X12_573 k16 rfl rfl (Nat.le_of_ble_eq_true rfl) hd1 dX12_after_89 rfl (ht.mono (fun r13 h14 p15 ht' => ?_))
          clear ht
          obtain ⟨v17, rfl, ht⟩ := ht'
          show Ex G d mX12_after 92 [(0, .ref a0), (1, .int x1), (2, .int x2), (3, .int x3), (4, .int x4)] [.int v17] h14 Q
          refine x_goto 99 dX12_after_92 (by decide) ?_
          refine x_istore (pc2 := 101) [1, 2, 3, 4, 0] (n := 4) (x := v17) (lv2 := [(0, .ref a0), (1, .int x1), (2, .int x2), (3, .int x3), (4, .int v17)]) (by decide) rfl dX12_after_99 rfl ?_
          refine x_aload_n (pc2 := 102) 0 (n := 0) (x := a0) rfl dX12_after_101 rfl ?_
          refine x_callV (pc2 := 105) (As := []) (rest := []) (b := a0) mv_X12_putsBack ml_X12_551 (k16.up p15) rfl rfl (Nat.le_of_ble_eq_true rfl) hd1 dX12_after_102 rfl (ht.mono (fun r18 h19 p20 ht' => ?_))
          clear ht
          obtain ⟨rfl, ht⟩ := ht'
          show Ex G d mX12_after 105 [(0, .ref a0), (1, .int x1), (2, .int x2), (3, .int x3), (4, .int v17)] [] h19 Q
          refine x_iload (pc2 := 107) 4 (n := 4) (x := v17) rfl dX12_after_105 rfl ?_
          exact x_ret (ty := .int) rfl rfl dX12_after_107 ht
      · replace ht := ht.2 c3
        refine x_aload_n (pc2 := 77) 0 (n := 0) (x := a0) rfl dX12_after_76 rfl ?_
        obtain ⟨k24, ht⟩ := ht
        refine x_callV (pc2 := 80) (As := []) (rest := []) (b := a0) mv_X12_nestMany ml_X12_504 k24 rfl rfl (Nat.le_of_ble_eq_true rfl) hd1 dX12_after_77 rfl (ht.mono (fun r21 h22 p23 ht' => ?_))
        clear ht
        obtain ⟨v25, rfl, ht⟩ := ht'
        show Ex G d mX12_after 80 [(0, .ref a0), (1, .int x1), (2, .int x2), (3, .int x3), (4, .int x4)] [.int v25] h22 Q
        refine x_goto 99 dX12_after_80 (by decide) ?_
        refine x_istore (pc2 := 101) [1, 2, 3, 4, 0] (n := 4) (x := v25) (lv2 := [(0, .ref a0), (1, .int x1), (2, .int x2), (3, .int x3), (4, .int v25)]) (by decide) rfl dX12_after_99 rfl ?_
        refine x_aload_n (pc2 := 102) 0 (n := 0) (x := a0) rfl dX12_after_101 rfl ?_
        refine x_callV (pc2 := 105) (As := []) (rest := []) (b := a0) mv_X12_putsBack ml_X12_551 (k24.up p23) rfl rfl (Nat.le_of_ble_eq_true rfl) hd1 dX12_after_102 rfl (ht.mono (fun r26 h27 p28 ht' => ?_))
        clear ht
        obtain ⟨rfl, ht⟩ := ht'
        show Ex G d mX12_after 105 [(0, .ref a0), (1, .int x1), (2, .int x2), (3, .int x3), (4, .int v25)] [] h27 Q
        refine x_iload (pc2 := 107) 4 (n := 4) (x := v25) rfl dX12_after_105 rfl ?_
        exact x_ret (ty := .int) rfl rfl dX12_after_107 ht
    · replace ht := ht.2 c2
      refine x_aload_n (pc2 := 65) 0 (n := 0) (x := a0) rfl dX12_after_64 rfl ?_
      obtain ⟨k32, ht⟩ := ht
      refine x_callV (pc2 := 68) (As := []) (rest := []) (b := a0) mv_X12_wallMany ml_X12_570 k32 rfl rfl (Nat.le_of_ble_eq_true rfl) hd1 dX12_after_65 rfl (ht.mono (fun r29 h30 p31 ht' => ?_))
      clear ht
      obtain ⟨v33, rfl, ht⟩ := ht'
      show Ex G d mX12_after 68 [(0, .ref a0), (1, .int x1), (2, .int x2), (3, .int x3), (4, .int x4)] [.int v33] h30 Q
      refine x_goto 99 dX12_after_68 (by decide) ?_
      refine x_istore (pc2 := 101) [1, 2, 3, 4, 0] (n := 4) (x := v33) (lv2 := [(0, .ref a0), (1, .int x1), (2, .int x2), (3, .int x3), (4, .int v33)]) (by decide) rfl dX12_after_99 rfl ?_
      refine x_aload_n (pc2 := 102) 0 (n := 0) (x := a0) rfl dX12_after_101 rfl ?_
      refine x_callV (pc2 := 105) (As := []) (rest := []) (b := a0) mv_X12_putsBack ml_X12_551 (k32.up p31) rfl rfl (Nat.le_of_ble_eq_true rfl) hd1 dX12_after_102 rfl (ht.mono (fun r34 h35 p36 ht' => ?_))
      clear ht
      obtain ⟨rfl, ht⟩ := ht'
      show Ex G d mX12_after 105 [(0, .ref a0), (1, .int x1), (2, .int x2), (3, .int x3), (4, .int v33)] [] h35 Q
      refine x_iload (pc2 := 107) 4 (n := 4) (x := v33) rfl dX12_after_105 rfl ?_
      exact x_ret (ty := .int) rfl rfl dX12_after_107 ht
  · replace ht := ht.2 c1
    refine x_aload_n (pc2 := 49) 0 (n := 0) (x := a0) rfl dX12_after_48 rfl ?_
    refine x_iload_n (pc2 := 50) 1 (n := 1) (x := x1) rfl dX12_after_49 rfl ?_
    obtain ⟨k40, ht⟩ := ht
    refine x_callV (pc2 := 53) (As := [.int x1]) (rest := []) (b := a0) mv_X12_year ml_X12_567 k40 rfl rfl (Nat.le_of_ble_eq_true rfl) hd1 dX12_after_50 rfl (ht.mono (fun r37 h38 p39 ht' => ?_))
    clear ht
    obtain ⟨v41, rfl, ht⟩ := ht'
    show Ex G d mX12_after 53 [(0, .ref a0), (1, .int x1), (2, .int x2), (3, .int x3), (4, .int x4)] [.int v41] h38 Q
    refine x_pop (pc2 := 54) rfl dX12_after_53 rfl ?_
    refine x_iinc (pc2 := 57) 4 [1, 2, 3, 4, 0] (i := 4) (x := x4) (v := (x4 + 1)) (lv2 := [(0, .ref a0), (1, .int x1), (2, .int x2), (3, .int x3), (4, .int (x4 + 1))]) rfl (iinc_eq (by decide) _) (by decide) rfl dX12_after_54 rfl ?_
    refine x_goto 42 dX12_after_57 (by decide) ?_
    exact ht
def T_X12_count (G : GG) (d : Nat) (h : HP) (Q : Option Value → HP → Prop) (a0 : Nat) (x1 : Int32) : Prop :=
  ((x1 = 0 → Kd G h a0 12 ∧ ∃ q3, hR h a0 29 = some q3 ∧ Kd G h q3 14 ∧ vp_in x1 (hN h q3) ∧ Q (some (.int (hI h q3 x1.toNatClampNeg))) h) ∧ (¬ x1 = 0 → ((x1 = 1 → Kd G h a0 12 ∧ ∃ q9, hR h a0 29 = some q9 ∧ Kd G h q9 14 ∧ vp_in x1 (hN h q9) ∧ Q (some (.int (hI h q9 x1.toNatClampNeg))) h) ∧ (¬ x1 = 1 → ((x1 = 2 → Kd G h a0 12 ∧ ∃ q15, hR h a0 29 = some q15 ∧ Kd G h q15 14 ∧ vp_in x1 (hN h q15) ∧ Q (some (.int (hI h q15 x1.toNatClampNeg))) h) ∧ (¬ x1 = 2 → ((x1 = 3 → Kd G h a0 12 ∧ Cal G (d - 1) mX12_wallMany [.ref a0] h (fun r20 h21 => ∃ v24, r20 = some (.int v24) ∧ Q (some (.int v24)) h21)) ∧ (¬ x1 = 3 → ((x1 = 4 → Kd G h a0 12 ∧ ∃ q27, hR h a0 29 = some q27 ∧ Kd G h q27 14 ∧ vp_in (x1 - 1) (hN h q27) ∧ Q (some (.int (hI h q27 (x1 - 1).toNatClampNeg))) h) ∧ (¬ x1 = 4 → ((x1 = 5 → Kd G h a0 12 ∧ ∃ q33, hR h a0 29 = some q33 ∧ Kd G h q33 14 ∧ vp_in (x1 - 1) (hN h q33) ∧ Q (some (.int (hI h q33 (x1 - 1).toNatClampNeg))) h) ∧ (¬ x1 = 5 → ((x1 = 6 → Kd G h a0 12 ∧ ∃ q39, hR h a0 2 = some q39 ∧ Kd G h q39 14 ∧ vp_in (x1 - 6) (hN h q39) ∧ Q (some (.int (hI h q39 (x1 - 6).toNatClampNeg))) h) ∧ (¬ x1 = 6 → ((x1 = 7 → Kd G h a0 12 ∧ ∃ q45, hR h a0 2 = some q45 ∧ Kd G h q45 14 ∧ vp_in (x1 - 6) (hN h q45) ∧ Q (some (.int (hI h q45 (x1 - 6).toNatClampNeg))) h) ∧ (¬ x1 = 7 → ((x1 = 8 → Kd G h a0 12 ∧ Q (some (.int (hI h a0 1))) h) ∧ (¬ x1 = 8 → Q (some (.int (-1))) h))))))))))))))))))
set_option maxRecDepth 20000 in
theorem t_X12_count {G : GG} {d : Nat} {h : HP} {Q : Option Value → HP → Prop} {a0 : Nat} {x1 : Int32} (hd1 : 1 ≤ d) (ht : T_X12_count G d h Q a0 x1) : Ex G d mX12_count 0 [(0, .ref a0), (1, .int x1)] [] h Q := by
  unfold T_X12_count at ht
  refine x_iload_n (pc2 := 1) 1 (n := 1) (x := x1) rfl dX12_count_0 rfl ?_
  refine y_tcase (x := x1) 0 52 dX12_count_1 (by decide) (by decide) rfl (by decide) (fun c1 => ?_) (fun c1 => ?_)
  · replace ht := ht.1 c1
    refine x_aload_n (pc2 := 53) 0 (n := 0) (x := a0) rfl dX12_count_52 rfl ?_
    obtain ⟨k2, ht⟩ := ht
    obtain ⟨q3, e4, ht⟩ := ht
    refine y_getR (pc2 := 56) (κ := 12) (k := 29) fl_X12_48 (by decide) (by decide) k2 rfl e4 dX12_count_53 rfl ?_
    refine x_iload_n (pc2 := 57) 1 (n := 1) (x := x1) rfl dX12_count_56 rfl ?_
    obtain ⟨k5, ht⟩ := ht
    obtain ⟨b6, ht⟩ := ht
    refine x_iald (pc2 := 58) k5 b6 dX12_count_57 rfl ?_
    exact x_ret (ty := .int) rfl rfl dX12_count_58 ht
  replace ht := ht.2 c1
  refine y_tcase (x := x1) 1 52 dX12_count_1 (by decide) (by decide) rfl (by decide) (fun c7 => ?_) (fun c7 => ?_)
  · replace ht := ht.1 c7
    refine x_aload_n (pc2 := 53) 0 (n := 0) (x := a0) rfl dX12_count_52 rfl ?_
    obtain ⟨k8, ht⟩ := ht
    obtain ⟨q9, e10, ht⟩ := ht
    refine y_getR (pc2 := 56) (κ := 12) (k := 29) fl_X12_48 (by decide) (by decide) k8 rfl e10 dX12_count_53 rfl ?_
    refine x_iload_n (pc2 := 57) 1 (n := 1) (x := x1) rfl dX12_count_56 rfl ?_
    obtain ⟨k11, ht⟩ := ht
    obtain ⟨b12, ht⟩ := ht
    refine x_iald (pc2 := 58) k11 b12 dX12_count_57 rfl ?_
    exact x_ret (ty := .int) rfl rfl dX12_count_58 ht
  replace ht := ht.2 c7
  refine y_tcase (x := x1) 2 52 dX12_count_1 (by decide) (by decide) rfl (by decide) (fun c13 => ?_) (fun c13 => ?_)
  · replace ht := ht.1 c13
    refine x_aload_n (pc2 := 53) 0 (n := 0) (x := a0) rfl dX12_count_52 rfl ?_
    obtain ⟨k14, ht⟩ := ht
    obtain ⟨q15, e16, ht⟩ := ht
    refine y_getR (pc2 := 56) (κ := 12) (k := 29) fl_X12_48 (by decide) (by decide) k14 rfl e16 dX12_count_53 rfl ?_
    refine x_iload_n (pc2 := 57) 1 (n := 1) (x := x1) rfl dX12_count_56 rfl ?_
    obtain ⟨k17, ht⟩ := ht
    obtain ⟨b18, ht⟩ := ht
    refine x_iald (pc2 := 58) k17 b18 dX12_count_57 rfl ?_
    exact x_ret (ty := .int) rfl rfl dX12_count_58 ht
  replace ht := ht.2 c13
  refine y_tcase (x := x1) 3 59 dX12_count_1 (by decide) (by decide) rfl (by decide) (fun c19 => ?_) (fun c19 => ?_)
  · replace ht := ht.1 c19
    refine x_aload_n (pc2 := 60) 0 (n := 0) (x := a0) rfl dX12_count_59 rfl ?_
    obtain ⟨k23, ht⟩ := ht
    refine x_callV (pc2 := 63) (As := []) (rest := []) (b := a0) mv_X12_wallMany ml_X12_570 k23 rfl rfl (Nat.le_of_ble_eq_true rfl) hd1 dX12_count_60 rfl (ht.mono (fun r20 h21 p22 ht' => ?_))
    clear ht
    obtain ⟨v24, rfl, ht⟩ := ht'
    show Ex G d mX12_count 63 [(0, .ref a0), (1, .int x1)] [.int v24] h21 Q
    exact x_ret (ty := .int) rfl rfl dX12_count_63 ht
  replace ht := ht.2 c19
  refine y_tcase (x := x1) 4 64 dX12_count_1 (by decide) (by decide) rfl (by decide) (fun c25 => ?_) (fun c25 => ?_)
  · replace ht := ht.1 c25
    refine x_aload_n (pc2 := 65) 0 (n := 0) (x := a0) rfl dX12_count_64 rfl ?_
    obtain ⟨k26, ht⟩ := ht
    obtain ⟨q27, e28, ht⟩ := ht
    refine y_getR (pc2 := 68) (κ := 12) (k := 29) fl_X12_48 (by decide) (by decide) k26 rfl e28 dX12_count_65 rfl ?_
    refine x_iload_n (pc2 := 69) 1 (n := 1) (x := x1) rfl dX12_count_68 rfl ?_
    refine x_iconst (pc2 := 70) (v := 1) (by decide) dX12_count_69 rfl ?_
    refine x_isub (pc2 := 71) dX12_count_70 rfl ?_
    obtain ⟨k29, ht⟩ := ht
    obtain ⟨b30, ht⟩ := ht
    refine x_iald (pc2 := 72) k29 b30 dX12_count_71 rfl ?_
    exact x_ret (ty := .int) rfl rfl dX12_count_72 ht
  replace ht := ht.2 c25
  refine y_tcase (x := x1) 5 64 dX12_count_1 (by decide) (by decide) rfl (by decide) (fun c31 => ?_) (fun c31 => ?_)
  · replace ht := ht.1 c31
    refine x_aload_n (pc2 := 65) 0 (n := 0) (x := a0) rfl dX12_count_64 rfl ?_
    obtain ⟨k32, ht⟩ := ht
    obtain ⟨q33, e34, ht⟩ := ht
    refine y_getR (pc2 := 68) (κ := 12) (k := 29) fl_X12_48 (by decide) (by decide) k32 rfl e34 dX12_count_65 rfl ?_
    refine x_iload_n (pc2 := 69) 1 (n := 1) (x := x1) rfl dX12_count_68 rfl ?_
    refine x_iconst (pc2 := 70) (v := 1) (by decide) dX12_count_69 rfl ?_
    refine x_isub (pc2 := 71) dX12_count_70 rfl ?_
    obtain ⟨k35, ht⟩ := ht
    obtain ⟨b36, ht⟩ := ht
    refine x_iald (pc2 := 72) k35 b36 dX12_count_71 rfl ?_
    exact x_ret (ty := .int) rfl rfl dX12_count_72 ht
  replace ht := ht.2 c31
  refine y_tcase (x := x1) 6 73 dX12_count_1 (by decide) (by decide) rfl (by decide) (fun c37 => ?_) (fun c37 => ?_)
  · replace ht := ht.1 c37
    refine x_aload_n (pc2 := 74) 0 (n := 0) (x := a0) rfl dX12_count_73 rfl ?_
    obtain ⟨k38, ht⟩ := ht
    obtain ⟨q39, e40, ht⟩ := ht
    refine y_getR (pc2 := 77) (κ := 12) (k := 2) fl_X12_13 (by decide) (by decide) k38 rfl e40 dX12_count_74 rfl ?_
    refine x_iload_n (pc2 := 78) 1 (n := 1) (x := x1) rfl dX12_count_77 rfl ?_
    refine x_bipush (pc2 := 80) (v := 6) (by decide) dX12_count_78 rfl ?_
    refine x_isub (pc2 := 81) dX12_count_80 rfl ?_
    obtain ⟨k41, ht⟩ := ht
    obtain ⟨b42, ht⟩ := ht
    refine x_iald (pc2 := 82) k41 b42 dX12_count_81 rfl ?_
    exact x_ret (ty := .int) rfl rfl dX12_count_82 ht
  replace ht := ht.2 c37
  refine y_tcase (x := x1) 7 73 dX12_count_1 (by decide) (by decide) rfl (by decide) (fun c43 => ?_) (fun c43 => ?_)
  · replace ht := ht.1 c43
    refine x_aload_n (pc2 := 74) 0 (n := 0) (x := a0) rfl dX12_count_73 rfl ?_
    obtain ⟨k44, ht⟩ := ht
    obtain ⟨q45, e46, ht⟩ := ht
    refine y_getR (pc2 := 77) (κ := 12) (k := 2) fl_X12_13 (by decide) (by decide) k44 rfl e46 dX12_count_74 rfl ?_
    refine x_iload_n (pc2 := 78) 1 (n := 1) (x := x1) rfl dX12_count_77 rfl ?_
    refine x_bipush (pc2 := 80) (v := 6) (by decide) dX12_count_78 rfl ?_
    refine x_isub (pc2 := 81) dX12_count_80 rfl ?_
    obtain ⟨k47, ht⟩ := ht
    obtain ⟨b48, ht⟩ := ht
    refine x_iald (pc2 := 82) k47 b48 dX12_count_81 rfl ?_
    exact x_ret (ty := .int) rfl rfl dX12_count_82 ht
  replace ht := ht.2 c43
  refine y_tcase (x := x1) 8 83 dX12_count_1 (by decide) (by decide) rfl (by decide) (fun c49 => ?_) (fun c49 => ?_)
  · replace ht := ht.1 c49
    refine x_aload_n (pc2 := 84) 0 (n := 0) (x := a0) rfl dX12_count_83 rfl ?_
    obtain ⟨k50, ht⟩ := ht
    refine y_getI (pc2 := 87) (κ := 12) (k := 1) fl_X12_73 (by decide) (by decide) k50 rfl dX12_count_84 rfl ?_
    exact x_ret (ty := .int) rfl rfl dX12_count_87 ht
  replace ht := ht.2 c49
  have wc1 := ne_ti (z := 0) rfl c1
  have wc7 := ne_ti (z := 1) rfl c7
  have wc13 := ne_ti (z := 2) rfl c13
  have wc19 := ne_ti (z := 3) rfl c19
  have wc25 := ne_ti (z := 4) rfl c25
  have wc31 := ne_ti (z := 5) rfl c31
  have wc37 := ne_ti (z := 6) rfl c37
  have wc43 := ne_ti (z := 7) rfl c43
  have wc49 := ne_ti (z := 8) rfl c49
  refine x_tableOut (x := x1) 88 dX12_count_1 (by omega) (by decide) ?_
  refine x_iconst (pc2 := 89) (v := (-1)) (by decide) dX12_count_88 rfl ?_
  exact x_ret (ty := .int) rfl rfl dX12_count_89 ht
theorem e_X12_count {G : GG} {d : Nat} {h : HP} {Q : Option Value → HP → Prop} {a0 : Nat} {x1 : Int32} (hd1 : 1 ≤ d) (ht : T_X12_count G d h Q a0 x1) : Cal G d mX12_count [.ref a0, .int x1] h Q := cal_of rfl (Nat.le_of_ble_eq_true rfl) (t_X12_count hd1 ht)
def T_X12_image (G : GG) (d : Nat) (h : HP) (Q : Option Value → HP → Prop) (a0 : Nat) (x1 : Int32) : Prop :=
  Cal G (d - 1) mX12_in [.long (x1.toInt64), .long 0, .long 3] h (fun r1 h2 => ∃ v4, r1 = some (.int v4) ∧ ((¬ v4 = 0 → Kd G h2 a0 12 ∧ ∃ q7, hR h2 a0 50 = some q7 ∧ Kd G h2 q7 16 ∧ vp_in x1 (hN h2 q7) ∧ Ex G d mX12_image 23 [(0, .ref a0), (1, .int x1), (2, .int 0)] [] (sI h2 q7 x1.toNatClampNeg (1 &&& 1)) Q) ∧ (v4 = 0 → Q (some (.int (-1))) h2)))
set_option maxRecDepth 20000 in
theorem t_X12_image {G : GG} {d : Nat} {h : HP} {Q : Option Value → HP → Prop} {a0 : Nat} {x1 : Int32} (hd1 : 1 ≤ d) (ht : T_X12_image G d h Q a0 x1) : Ex G d mX12_image 0 [(0, .ref a0), (1, .int x1)] [] h Q := by
  unfold T_X12_image at ht
  refine x_iload_n (pc2 := 1) 1 (n := 1) (x := x1) rfl dX12_image_0 rfl ?_
  refine x_i2l (pc2 := 2) dX12_image_1 rfl ?_
  refine x_lconst (pc2 := 3) (v := 0) (by decide) dX12_image_2 rfl ?_
  refine x_ldc2 (pc2 := 6) (v := 3) ct_X12_432 dX12_image_3 rfl ?_
  refine x_callS (pc2 := 9) (As := [.long (x1.toInt64), .long 0, .long 3]) (rest := []) ms_X12_in ml_X12_112 rfl rfl (Nat.le_of_ble_eq_true rfl) hd1 dX12_image_6 rfl (ht.mono (fun r1 h2 p3 ht' => ?_))
  clear ht
  obtain ⟨v4, rfl, ht⟩ := ht'
  show Ex G d mX12_image 9 [(0, .ref a0), (1, .int x1)] [.int v4] h2 Q
  refine y_if_ne (pc2 := 12) 14 dX12_image_9 (by decide) rfl (fun c5 => ?_) (fun c5 => ?_)
  · replace ht := ht.1 c5
    refine x_aload_n (pc2 := 15) 0 (n := 0) (x := a0) rfl dX12_image_14 rfl ?_
    obtain ⟨k6, ht⟩ := ht
    obtain ⟨q7, e8, ht⟩ := ht
    refine y_getR (pc2 := 18) (κ := 12) (k := 50) fl_X12_70 (by decide) (by decide) k6 rfl e8 dX12_image_15 rfl ?_
    refine x_iload_n (pc2 := 19) 1 (n := 1) (x := x1) rfl dX12_image_18 rfl ?_
    refine x_iconst (pc2 := 20) (v := 1) (by decide) dX12_image_19 rfl ?_
    obtain ⟨k9, ht⟩ := ht
    obtain ⟨b10, ht⟩ := ht
    refine x_zast (pc2 := 21) k9 b10 dX12_image_20 rfl ?_
    refine x_iconst (pc2 := 22) (v := 0) (by decide) dX12_image_21 rfl ?_
    refine x_istore_n (pc2 := 23) [1, 2, 0] (n := 2) (x := 0) (lv2 := [(0, .ref a0), (1, .int x1), (2, .int 0)]) (by decide) rfl dX12_image_22 rfl ?_
    exact ht
  · replace ht := ht.2 c5
    refine x_iconst (pc2 := 13) (v := (-1)) (by decide) dX12_image_12 rfl ?_
    exact x_ret (ty := .int) rfl rfl dX12_image_13 ht
theorem e_X12_image {G : GG} {d : Nat} {h : HP} {Q : Option Value → HP → Prop} {a0 : Nat} {x1 : Int32} (hd1 : 1 ≤ d) (ht : T_X12_image G d h Q a0 x1) : Cal G d mX12_image [.ref a0, .int x1] h Q := cal_of rfl (Nat.le_of_ble_eq_true rfl) (t_X12_image hd1 ht)
def T_X12_image_23 (G : GG) (d : Nat) (h : HP) (Q : Option Value → HP → Prop) (a0 : Nat) (x1 : Int32) (x2 : Int32) : Prop :=
  ((2440 ≤ x2 → Kd G h a0 12 ∧ Cal G (d - 1) mX12_wallMany [.ref a0] h (fun r2 h3 => ∃ v6, r2 = some (.int v6) ∧ Q (some (.int v6)) h3)) ∧ (¬ 2440 ≤ x2 → Kd G h a0 12 ∧ ∃ q8, hR h a0 49 = some q8 ∧ ∃ q10, hR h a0 29 = some q10 ∧ Kd G h q10 14 ∧ vp_in x2 (hN h q10) ∧ Kd G h q8 14 ∧ vp_in ((2440 * x1) + x2) (hN h q8) ∧ Ex G d mX12_image 23 [(0, .ref a0), (1, .int x1), (2, .int (x2 + 1))] [] (sI h q8 ((2440 * x1) + x2).toNatClampNeg (hI h q10 x2.toNatClampNeg)) Q))
set_option maxRecDepth 20000 in
theorem t_X12_image_23 {G : GG} {d : Nat} {h : HP} {Q : Option Value → HP → Prop} {a0 : Nat} {x1 : Int32} {x2 : Int32} (hd1 : 1 ≤ d) (ht : T_X12_image_23 G d h Q a0 x1 x2) : Ex G d mX12_image 23 [(0, .ref a0), (1, .int x1), (2, .int x2)] [] h Q := by
  unfold T_X12_image_23 at ht
  refine x_iload_n (pc2 := 24) 2 (n := 2) (x := x2) rfl dX12_image_23 rfl ?_
  refine x_sipush (pc2 := 27) (v := 2440) (by decide) dX12_image_24 rfl ?_
  refine x_icmp_ge (pc2 := 30) 54 dX12_image_27 (by decide) rfl (fun c1 => ?_) (fun c1 => ?_)
  · replace ht := ht.1 c1
    refine x_aload_n (pc2 := 55) 0 (n := 0) (x := a0) rfl dX12_image_54 rfl ?_
    obtain ⟨k5, ht⟩ := ht
    refine x_callV (pc2 := 58) (As := []) (rest := []) (b := a0) mv_X12_wallMany ml_X12_570 k5 rfl rfl (Nat.le_of_ble_eq_true rfl) hd1 dX12_image_55 rfl (ht.mono (fun r2 h3 p4 ht' => ?_))
    clear ht
    obtain ⟨v6, rfl, ht⟩ := ht'
    show Ex G d mX12_image 58 [(0, .ref a0), (1, .int x1), (2, .int x2)] [.int v6] h3 Q
    exact x_ret (ty := .int) rfl rfl dX12_image_58 ht
  · replace ht := ht.2 c1
    refine x_aload_n (pc2 := 31) 0 (n := 0) (x := a0) rfl dX12_image_30 rfl ?_
    obtain ⟨k7, ht⟩ := ht
    obtain ⟨q8, e9, ht⟩ := ht
    refine y_getR (pc2 := 34) (κ := 12) (k := 49) fl_X12_67 (by decide) (by decide) k7 rfl e9 dX12_image_31 rfl ?_
    refine x_sipush (pc2 := 37) (v := 2440) (by decide) dX12_image_34 rfl ?_
    refine x_iload_n (pc2 := 38) 1 (n := 1) (x := x1) rfl dX12_image_37 rfl ?_
    refine x_imul (pc2 := 39) dX12_image_38 rfl ?_
    refine x_iload_n (pc2 := 40) 2 (n := 2) (x := x2) rfl dX12_image_39 rfl ?_
    refine x_iadd (pc2 := 41) dX12_image_40 rfl ?_
    refine x_aload_n (pc2 := 42) 0 (n := 0) (x := a0) rfl dX12_image_41 rfl ?_
    obtain ⟨q10, e11, ht⟩ := ht
    refine y_getR (pc2 := 45) (κ := 12) (k := 29) fl_X12_48 (by decide) (by decide) k7 rfl e11 dX12_image_42 rfl ?_
    refine x_iload_n (pc2 := 46) 2 (n := 2) (x := x2) rfl dX12_image_45 rfl ?_
    obtain ⟨k12, ht⟩ := ht
    obtain ⟨b13, ht⟩ := ht
    refine x_iald (pc2 := 47) k12 b13 dX12_image_46 rfl ?_
    obtain ⟨k14, ht⟩ := ht
    obtain ⟨b15, ht⟩ := ht
    refine x_iast (pc2 := 48) k14 b15 dX12_image_47 rfl ?_
    refine x_iinc (pc2 := 51) 2 [1, 2, 0] (i := 2) (x := x2) (v := (x2 + 1)) (lv2 := [(0, .ref a0), (1, .int x1), (2, .int (x2 + 1))]) rfl (iinc_eq (by decide) _) (by decide) rfl dX12_image_48 rfl ?_
    refine x_goto 23 dX12_image_51 (by decide) ?_
    exact ht
def T_X12_back (G : GG) (d : Nat) (h : HP) (Q : Option Value → HP → Prop) (a0 : Nat) (x1 : Int32) : Prop :=
  Cal G (d - 1) mX12_in [.long (x1.toInt64), .long 0, .long 3] h (fun r1 h2 => ∃ v4, r1 = some (.int v4) ∧ ((v4 = 0 → Q (some (.int (-1))) h2) ∧ (¬ v4 = 0 → Kd G h2 a0 12 ∧ ∃ q7, hR h2 a0 50 = some q7 ∧ Kd G h2 q7 16 ∧ vp_in x1 (hN h2 q7) ∧ ((¬ (hI h2 q7 x1.toNatClampNeg) = 0 → Ex G d mX12_back 25 [(0, .ref a0), (1, .int x1), (2, .int 0)] [] h2 Q) ∧ ((hI h2 q7 x1.toNatClampNeg) = 0 → Q (some (.int (-1))) h2)))))
set_option maxRecDepth 20000 in
theorem t_X12_back {G : GG} {d : Nat} {h : HP} {Q : Option Value → HP → Prop} {a0 : Nat} {x1 : Int32} (hd1 : 1 ≤ d) (ht : T_X12_back G d h Q a0 x1) : Ex G d mX12_back 0 [(0, .ref a0), (1, .int x1)] [] h Q := by
  unfold T_X12_back at ht
  refine x_iload_n (pc2 := 1) 1 (n := 1) (x := x1) rfl dX12_back_0 rfl ?_
  refine x_i2l (pc2 := 2) dX12_back_1 rfl ?_
  refine x_lconst (pc2 := 3) (v := 0) (by decide) dX12_back_2 rfl ?_
  refine x_ldc2 (pc2 := 6) (v := 3) ct_X12_432 dX12_back_3 rfl ?_
  refine x_callS (pc2 := 9) (As := [.long (x1.toInt64), .long 0, .long 3]) (rest := []) ms_X12_in ml_X12_112 rfl rfl (Nat.le_of_ble_eq_true rfl) hd1 dX12_back_6 rfl (ht.mono (fun r1 h2 p3 ht' => ?_))
  clear ht
  obtain ⟨v4, rfl, ht⟩ := ht'
  show Ex G d mX12_back 9 [(0, .ref a0), (1, .int x1)] [.int v4] h2 Q
  refine x_if_eq (pc2 := 12) 21 dX12_back_9 (by decide) rfl (fun c5 => ?_) (fun c5 => ?_)
  · replace ht := ht.1 c5
    refine x_iconst (pc2 := 22) (v := (-1)) (by decide) dX12_back_21 rfl ?_
    exact x_ret (ty := .int) rfl rfl dX12_back_22 ht
  · replace ht := ht.2 c5
    refine x_aload_n (pc2 := 13) 0 (n := 0) (x := a0) rfl dX12_back_12 rfl ?_
    obtain ⟨k6, ht⟩ := ht
    obtain ⟨q7, e8, ht⟩ := ht
    refine y_getR (pc2 := 16) (κ := 12) (k := 50) fl_X12_70 (by decide) (by decide) k6 rfl e8 dX12_back_13 rfl ?_
    refine x_iload_n (pc2 := 17) 1 (n := 1) (x := x1) rfl dX12_back_16 rfl ?_
    obtain ⟨k9, ht⟩ := ht
    obtain ⟨b10, ht⟩ := ht
    refine x_zald (pc2 := 18) k9 b10 dX12_back_17 rfl ?_
    refine y_if_ne (pc2 := 21) 23 dX12_back_18 (by decide) rfl (fun c11 => ?_) (fun c11 => ?_)
    · replace ht := ht.1 c11
      refine x_iconst (pc2 := 24) (v := 0) (by decide) dX12_back_23 rfl ?_
      refine x_istore_n (pc2 := 25) [1, 2, 0] (n := 2) (x := 0) (lv2 := [(0, .ref a0), (1, .int x1), (2, .int 0)]) (by decide) rfl dX12_back_24 rfl ?_
      exact ht
    · replace ht := ht.2 c11
      refine x_iconst (pc2 := 22) (v := (-1)) (by decide) dX12_back_21 rfl ?_
      exact x_ret (ty := .int) rfl rfl dX12_back_22 ht
theorem e_X12_back {G : GG} {d : Nat} {h : HP} {Q : Option Value → HP → Prop} {a0 : Nat} {x1 : Int32} (hd1 : 1 ≤ d) (ht : T_X12_back G d h Q a0 x1) : Cal G d mX12_back [.ref a0, .int x1] h Q := cal_of rfl (Nat.le_of_ble_eq_true rfl) (t_X12_back hd1 ht)
def T_X12_back_25 (G : GG) (d : Nat) (h : HP) (Q : Option Value → HP → Prop) (a0 : Nat) (x1 : Int32) (x2 : Int32) : Prop :=
  ((2440 ≤ x2 → Kd G h a0 12 ∧ Cal G (d - 1) mX12_wallMany [.ref a0] h (fun r2 h3 => ∃ v6, r2 = some (.int v6) ∧ Q (some (.int v6)) h3)) ∧ (¬ 2440 ≤ x2 → Kd G h a0 12 ∧ ∃ q8, hR h a0 29 = some q8 ∧ ∃ q10, hR h a0 49 = some q10 ∧ Kd G h q10 14 ∧ vp_in ((2440 * x1) + x2) (hN h q10) ∧ Kd G h q8 14 ∧ vp_in x2 (hN h q8) ∧ Ex G d mX12_back 25 [(0, .ref a0), (1, .int x1), (2, .int (x2 + 1))] [] (sI h q8 x2.toNatClampNeg (hI h q10 ((2440 * x1) + x2).toNatClampNeg)) Q))
set_option maxRecDepth 20000 in
theorem t_X12_back_25 {G : GG} {d : Nat} {h : HP} {Q : Option Value → HP → Prop} {a0 : Nat} {x1 : Int32} {x2 : Int32} (hd1 : 1 ≤ d) (ht : T_X12_back_25 G d h Q a0 x1 x2) : Ex G d mX12_back 25 [(0, .ref a0), (1, .int x1), (2, .int x2)] [] h Q := by
  unfold T_X12_back_25 at ht
  refine x_iload_n (pc2 := 26) 2 (n := 2) (x := x2) rfl dX12_back_25 rfl ?_
  refine x_sipush (pc2 := 29) (v := 2440) (by decide) dX12_back_26 rfl ?_
  refine x_icmp_ge (pc2 := 32) 56 dX12_back_29 (by decide) rfl (fun c1 => ?_) (fun c1 => ?_)
  · replace ht := ht.1 c1
    refine x_aload_n (pc2 := 57) 0 (n := 0) (x := a0) rfl dX12_back_56 rfl ?_
    obtain ⟨k5, ht⟩ := ht
    refine x_callV (pc2 := 60) (As := []) (rest := []) (b := a0) mv_X12_wallMany ml_X12_570 k5 rfl rfl (Nat.le_of_ble_eq_true rfl) hd1 dX12_back_57 rfl (ht.mono (fun r2 h3 p4 ht' => ?_))
    clear ht
    obtain ⟨v6, rfl, ht⟩ := ht'
    show Ex G d mX12_back 60 [(0, .ref a0), (1, .int x1), (2, .int x2)] [.int v6] h3 Q
    exact x_ret (ty := .int) rfl rfl dX12_back_60 ht
  · replace ht := ht.2 c1
    refine x_aload_n (pc2 := 33) 0 (n := 0) (x := a0) rfl dX12_back_32 rfl ?_
    obtain ⟨k7, ht⟩ := ht
    obtain ⟨q8, e9, ht⟩ := ht
    refine y_getR (pc2 := 36) (κ := 12) (k := 29) fl_X12_48 (by decide) (by decide) k7 rfl e9 dX12_back_33 rfl ?_
    refine x_iload_n (pc2 := 37) 2 (n := 2) (x := x2) rfl dX12_back_36 rfl ?_
    refine x_aload_n (pc2 := 38) 0 (n := 0) (x := a0) rfl dX12_back_37 rfl ?_
    obtain ⟨q10, e11, ht⟩ := ht
    refine y_getR (pc2 := 41) (κ := 12) (k := 49) fl_X12_67 (by decide) (by decide) k7 rfl e11 dX12_back_38 rfl ?_
    refine x_sipush (pc2 := 44) (v := 2440) (by decide) dX12_back_41 rfl ?_
    refine x_iload_n (pc2 := 45) 1 (n := 1) (x := x1) rfl dX12_back_44 rfl ?_
    refine x_imul (pc2 := 46) dX12_back_45 rfl ?_
    refine x_iload_n (pc2 := 47) 2 (n := 2) (x := x2) rfl dX12_back_46 rfl ?_
    refine x_iadd (pc2 := 48) dX12_back_47 rfl ?_
    obtain ⟨k12, ht⟩ := ht
    obtain ⟨b13, ht⟩ := ht
    refine x_iald (pc2 := 49) k12 b13 dX12_back_48 rfl ?_
    obtain ⟨k14, ht⟩ := ht
    obtain ⟨b15, ht⟩ := ht
    refine x_iast (pc2 := 50) k14 b15 dX12_back_49 rfl ?_
    refine x_iinc (pc2 := 53) 2 [1, 2, 0] (i := 2) (x := x2) (v := (x2 + 1)) (lv2 := [(0, .ref a0), (1, .int x1), (2, .int (x2 + 1))]) rfl (iinc_eq (by decide) _) (by decide) rfl dX12_back_50 rfl ?_
    refine x_goto 25 dX12_back_53 (by decide) ?_
    exact ht
