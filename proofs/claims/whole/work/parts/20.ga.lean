def T_X0_init (G : GG) (d : Nat) (h : HP) (Q : Option Value → HP → Prop) (a0 : Nat) : Prop :=
  Q none h
set_option maxRecDepth 20000 in
theorem t_X0_init {G : GG} {d : Nat} {h : HP} {Q : Option Value → HP → Prop} {a0 : Nat} (hd1 : 1 ≤ d) (ht : T_X0_init G d h Q a0) : Ex G d mX0_init 0 [(0, .ref a0)] [] h Q := by
  unfold T_X0_init at ht
  refine x_aload_n (pc2 := 1) 0 (n := 0) (x := a0) rfl dX0_init_0 rfl ?_
  refine x_objInit (pc2 := 4) ml_X0_3 hd1 (Nat.le_of_ble_eq_true rfl) dX0_init_1 rfl ?_
  exact x_retV rfl dX0_init_4 ht
theorem e_X0_init {G : GG} {d : Nat} {h : HP} {Q : Option Value → HP → Prop} {a0 : Nat} (hd1 : 1 ≤ d) (ht : T_X0_init G d h Q a0) : Cal G d mX0_init [.ref a0] h Q := cal_of rfl (Nat.le_of_ble_eq_true rfl) (t_X0_init hd1 ht)
def T_X0_clear (G : GG) (d : Nat) (h : HP) (Q : Option Value → HP → Prop) (a0 : Nat) : Prop :=
  Kd G h a0 0 ∧ Q none (sI h a0 0 0)
set_option maxRecDepth 20000 in
theorem t_X0_clear {G : GG} {d : Nat} {h : HP} {Q : Option Value → HP → Prop} {a0 : Nat} (ht : T_X0_clear G d h Q a0) : Ex G d mX0_clear 0 [(0, .ref a0)] [] h Q := by
  unfold T_X0_clear at ht
  refine x_aload_n (pc2 := 1) 0 (n := 0) (x := a0) rfl dX0_clear_0 rfl ?_
  refine x_iconst (pc2 := 2) (v := 0) (by decide) dX0_clear_1 rfl ?_
  obtain ⟨k1, ht⟩ := ht
  refine x_putI (pc2 := 5) (κ := 0) (k := 0) fl_X0_9 (by decide) (by decide) (Or.inl rfl) rfl k1 dX0_clear_2 rfl ?_
  exact x_retV rfl dX0_clear_5 ht
theorem e_X0_clear {G : GG} {d : Nat} {h : HP} {Q : Option Value → HP → Prop} {a0 : Nat} (ht : T_X0_clear G d h Q a0) : Cal G d mX0_clear [.ref a0] h Q := cal_of rfl (Nat.le_of_ble_eq_true rfl) (t_X0_clear ht)
def T_X0_weigh (G : GG) (d : Nat) (h : HP) (Q : Option Value → HP → Prop) (a0 : Nat) (y1 : Int64) (a3 : Nat) : Prop :=
  Kd G h a3 3 ∧ Cal G (d - 1) mX3_line [.ref a3] h (fun r1 h2 => ∃ v5, r1 = some (.int v5) ∧ Kd G h2 a0 0 ∧ (((hI h2 a0 0) = 0 → Ex G d mX0_weigh 40 [(0, .ref a0), (1, .long y1), (3, .ref a3), (4, .int v5)] [] h2 Q) ∧ (¬ (hI h2 a0 0) = 0 → ((0 < (lg_cmp y1 (hL h2 a0 1)) → Ex G d mX0_weigh 40 [(0, .ref a0), (1, .long y1), (3, .ref a3), (4, .int v5)] [] h2 Q) ∧ (¬ 0 < (lg_cmp y1 (hL h2 a0 1)) → ((¬ (lg_cmp y1 (hL h2 a0 1)) = 0 → Q none (sI h2 a0 0 ((hI h2 a0 0) + 1))) ∧ ((lg_cmp y1 (hL h2 a0 1)) = 0 → (((hI h2 a0 2) ≤ v5 → Q none (sI h2 a0 0 ((hI h2 a0 0) + 1))) ∧ (¬ (hI h2 a0 2) ≤ v5 → Ex G d mX0_weigh 40 [(0, .ref a0), (1, .long y1), (3, .ref a3), (4, .int v5)] [] h2 Q)))))))))
set_option maxRecDepth 20000 in
theorem t_X0_weigh {G : GG} {d : Nat} {h : HP} {Q : Option Value → HP → Prop} {a0 : Nat} {y1 : Int64} {a3 : Nat} (hd1 : 1 ≤ d) (ht : T_X0_weigh G d h Q a0 y1 a3) : Ex G d mX0_weigh 0 [(0, .ref a0), (1, .long y1), (3, .ref a3)] [] h Q := by
  unfold T_X0_weigh at ht
  refine x_aload_n (pc2 := 1) 2 (n := 3) (x := a3) rfl dX0_weigh_0 rfl ?_
  obtain ⟨k4, ht⟩ := ht
  refine x_callV (pc2 := 4) (As := []) (rest := []) (b := a3) mv_X3_line ml_X0_15 k4 rfl rfl (Nat.le_of_ble_eq_true rfl) hd1 dX0_weigh_1 rfl (ht.mono (fun r1 h2 p3 ht' => ?_))
  clear ht
  obtain ⟨v5, rfl, ht⟩ := ht'
  show Ex G d mX0_weigh 4 [(0, .ref a0), (1, .long y1), (3, .ref a3)] [.int v5] h2 Q
  refine x_istore (pc2 := 6) [1, 2, 3, 0] (n := 4) (x := v5) (lv2 := [(0, .ref a0), (1, .long y1), (3, .ref a3), (4, .int v5)]) (by decide) rfl dX0_weigh_4 rfl ?_
  refine x_aload_n (pc2 := 7) 0 (n := 0) (x := a0) rfl dX0_weigh_6 rfl ?_
  obtain ⟨k6, ht⟩ := ht
  refine y_getI (pc2 := 10) (κ := 0) (k := 0) fl_X0_9 (by decide) (by decide) k6 rfl dX0_weigh_7 rfl ?_
  refine x_if_eq (pc2 := 13) 40 dX0_weigh_10 (by decide) rfl (fun c7 => ?_) (fun c7 => ?_)
  · replace ht := ht.1 c7
    exact ht
  · replace ht := ht.2 c7
    refine x_lload_n (pc2 := 14) 1 (n := 1) (x := y1) rfl dX0_weigh_13 rfl ?_
    refine x_aload_n (pc2 := 15) 0 (n := 0) (x := a0) rfl dX0_weigh_14 rfl ?_
    refine y_getL (pc2 := 18) (κ := 0) (k := 1) fl_X0_21 (by decide) (by decide) k6 rfl dX0_weigh_15 rfl ?_
    refine x_lcmp (pc2 := 19) dX0_weigh_18 rfl ?_
    refine x_if_gt (pc2 := 22) 40 dX0_weigh_19 (by decide) rfl (fun c8 => ?_) (fun c8 => ?_)
    · replace ht := ht.1 c8
      exact ht
    · replace ht := ht.2 c8
      refine x_lload_n (pc2 := 23) 1 (n := 1) (x := y1) rfl dX0_weigh_22 rfl ?_
      refine x_aload_n (pc2 := 24) 0 (n := 0) (x := a0) rfl dX0_weigh_23 rfl ?_
      refine y_getL (pc2 := 27) (κ := 0) (k := 1) fl_X0_21 (by decide) (by decide) k6 rfl dX0_weigh_24 rfl ?_
      refine x_lcmp (pc2 := 28) dX0_weigh_27 rfl ?_
      refine y_if_ne (pc2 := 31) 83 dX0_weigh_28 (by decide) rfl (fun c9 => ?_) (fun c9 => ?_)
      · replace ht := ht.1 c9
        refine x_aload_n (pc2 := 84) 0 (n := 0) (x := a0) rfl dX0_weigh_83 rfl ?_
        refine x_dup (pc2 := 85) rfl dX0_weigh_84 rfl ?_
        refine y_getI (pc2 := 88) (κ := 0) (k := 0) fl_X0_9 (by decide) (by decide) k6 rfl dX0_weigh_85 rfl ?_
        refine x_iconst (pc2 := 89) (v := 1) (by decide) dX0_weigh_88 rfl ?_
        refine x_iadd (pc2 := 90) dX0_weigh_89 rfl ?_
        refine x_putI (pc2 := 93) (κ := 0) (k := 0) fl_X0_9 (by decide) (by decide) (Or.inl rfl) rfl k6 dX0_weigh_90 rfl ?_
        exact x_retV rfl dX0_weigh_93 ht
      · replace ht := ht.2 c9
        refine x_iload (pc2 := 33) 3 (n := 4) (x := v5) rfl dX0_weigh_31 rfl ?_
        refine x_aload_n (pc2 := 34) 0 (n := 0) (x := a0) rfl dX0_weigh_33 rfl ?_
        refine y_getI (pc2 := 37) (κ := 0) (k := 2) fl_X0_25 (by decide) (by decide) k6 rfl dX0_weigh_34 rfl ?_
        refine x_icmp_ge (pc2 := 40) 83 dX0_weigh_37 (by decide) rfl (fun c10 => ?_) (fun c10 => ?_)
        · replace ht := ht.1 c10
          refine x_aload_n (pc2 := 84) 0 (n := 0) (x := a0) rfl dX0_weigh_83 rfl ?_
          refine x_dup (pc2 := 85) rfl dX0_weigh_84 rfl ?_
          refine y_getI (pc2 := 88) (κ := 0) (k := 0) fl_X0_9 (by decide) (by decide) k6 rfl dX0_weigh_85 rfl ?_
          refine x_iconst (pc2 := 89) (v := 1) (by decide) dX0_weigh_88 rfl ?_
          refine x_iadd (pc2 := 90) dX0_weigh_89 rfl ?_
          refine x_putI (pc2 := 93) (κ := 0) (k := 0) fl_X0_9 (by decide) (by decide) (Or.inl rfl) rfl k6 dX0_weigh_90 rfl ?_
          exact x_retV rfl dX0_weigh_93 ht
        · replace ht := ht.2 c10
          exact ht
theorem e_X0_weigh {G : GG} {d : Nat} {h : HP} {Q : Option Value → HP → Prop} {a0 : Nat} {y1 : Int64} {a3 : Nat} (hd1 : 1 ≤ d) (ht : T_X0_weigh G d h Q a0 y1 a3) : Cal G d mX0_weigh [.ref a0, .long y1, .ref a3] h Q := cal_of rfl (Nat.le_of_ble_eq_true rfl) (t_X0_weigh hd1 ht)
def T_X0_weigh_40 (G : GG) (d : Nat) (h : HP) (Q : Option Value → HP → Prop) (a0 : Nat) (y1 : Int64) (a3 : Nat) (x4 : Int32) : Prop :=
  Kd G h a0 0 ∧ Kd G (sI (sL h a0 1 y1) a0 2 x4) a3 3 ∧ ∀ h3, h3 = (sI (sI (sI (sL h a0 1 y1) a0 2 x4) a0 3 (hI (sI (sL h a0 1 y1) a0 2 x4) a3 13)) a0 4 (hI (sI (sI (sL h a0 1 y1) a0 2 x4) a0 3 (hI (sI (sL h a0 1 y1) a0 2 x4) a3 13)) a3 14)) → ∀ h6, h6 = (sI (sI (sI h3 a0 5 (hI h3 a3 15)) a0 6 (hI (sI h3 a0 5 (hI h3 a3 15)) a3 16)) a0 0 ((hI (sI (sI h3 a0 5 (hI h3 a3 15)) a0 6 (hI (sI h3 a0 5 (hI h3 a3 15)) a3 16)) a0 0) + 1)) → Q none h6
set_option maxRecDepth 20000 in
theorem t_X0_weigh_40 {G : GG} {d : Nat} {h : HP} {Q : Option Value → HP → Prop} {a0 : Nat} {y1 : Int64} {a3 : Nat} {x4 : Int32} (ht : T_X0_weigh_40 G d h Q a0 y1 a3 x4) : Ex G d mX0_weigh 40 [(0, .ref a0), (1, .long y1), (3, .ref a3), (4, .int x4)] [] h Q := by
  unfold T_X0_weigh_40 at ht
  refine x_aload_n (pc2 := 41) 0 (n := 0) (x := a0) rfl dX0_weigh_40 rfl ?_
  refine x_lload_n (pc2 := 42) 1 (n := 1) (x := y1) rfl dX0_weigh_41 rfl ?_
  obtain ⟨k1, ht⟩ := ht
  refine x_putL (pc2 := 45) (κ := 0) (k := 1) fl_X0_21 (by decide) (by decide) (Or.inl rfl) rfl k1 dX0_weigh_42 rfl ?_
  refine x_aload_n (pc2 := 46) 0 (n := 0) (x := a0) rfl dX0_weigh_45 rfl ?_
  refine x_iload (pc2 := 48) 3 (n := 4) (x := x4) rfl dX0_weigh_46 rfl ?_
  refine x_putI (pc2 := 51) (κ := 0) (k := 2) fl_X0_25 (by decide) (by decide) (Or.inl rfl) rfl k1.sL dX0_weigh_48 rfl ?_
  refine x_aload_n (pc2 := 52) 0 (n := 0) (x := a0) rfl dX0_weigh_51 rfl ?_
  refine x_aload_n (pc2 := 53) 2 (n := 3) (x := a3) rfl dX0_weigh_52 rfl ?_
  obtain ⟨k2, ht⟩ := ht
  refine y_getI (pc2 := 56) (κ := 3) (k := 13) fl_X0_27 (by decide) (by decide) k2 rfl dX0_weigh_53 rfl ?_
  refine x_putI (pc2 := 59) (κ := 0) (k := 3) fl_X0_30 (by decide) (by decide) (Or.inl rfl) rfl k1.sL.sI dX0_weigh_56 rfl ?_
  refine x_aload_n (pc2 := 60) 0 (n := 0) (x := a0) rfl dX0_weigh_59 rfl ?_
  refine x_aload_n (pc2 := 61) 2 (n := 3) (x := a3) rfl dX0_weigh_60 rfl ?_
  refine y_getI (pc2 := 64) (κ := 3) (k := 14) fl_X0_31 (by decide) (by decide) k2.sI rfl dX0_weigh_61 rfl ?_
  refine x_putI (pc2 := 67) (κ := 0) (k := 4) fl_X0_34 (by decide) (by decide) (Or.inl rfl) rfl k1.sL.sI.sI dX0_weigh_64 rfl ?_
  refine nm_I (fun h3 e4 p5 => ?_)
  replace ht := ht h3 e4
  refine x_aload_n (pc2 := 68) 0 (n := 0) (x := a0) rfl dX0_weigh_67 rfl ?_
  refine x_aload_n (pc2 := 69) 2 (n := 3) (x := a3) rfl dX0_weigh_68 rfl ?_
  refine y_getI (pc2 := 72) (κ := 3) (k := 15) fl_X0_35 (by decide) (by decide) (k2.sI.up p5) rfl dX0_weigh_69 rfl ?_
  refine x_putI (pc2 := 75) (κ := 0) (k := 5) fl_X0_38 (by decide) (by decide) (Or.inl rfl) rfl (k1.sL.sI.sI.up p5) dX0_weigh_72 rfl ?_
  refine x_aload_n (pc2 := 76) 0 (n := 0) (x := a0) rfl dX0_weigh_75 rfl ?_
  refine x_aload_n (pc2 := 77) 2 (n := 3) (x := a3) rfl dX0_weigh_76 rfl ?_
  refine y_getI (pc2 := 80) (κ := 3) (k := 16) fl_X0_39 (by decide) (by decide) (k2.sI.up p5).sI rfl dX0_weigh_77 rfl ?_
  refine x_putI (pc2 := 83) (κ := 0) (k := 6) fl_X0_42 (by decide) (by decide) (Or.inl rfl) rfl (k1.sL.sI.sI.up p5).sI dX0_weigh_80 rfl ?_
  refine x_aload_n (pc2 := 84) 0 (n := 0) (x := a0) rfl dX0_weigh_83 rfl ?_
  refine x_dup (pc2 := 85) rfl dX0_weigh_84 rfl ?_
  refine y_getI (pc2 := 88) (κ := 0) (k := 0) fl_X0_9 (by decide) (by decide) (k1.sL.sI.sI.up p5).sI.sI rfl dX0_weigh_85 rfl ?_
  refine x_iconst (pc2 := 89) (v := 1) (by decide) dX0_weigh_88 rfl ?_
  refine x_iadd (pc2 := 90) dX0_weigh_89 rfl ?_
  refine x_putI (pc2 := 93) (κ := 0) (k := 0) fl_X0_9 (by decide) (by decide) (Or.inl rfl) rfl (k1.sL.sI.sI.up p5).sI.sI dX0_weigh_90 rfl ?_
  refine nm_I (fun h6 e7 p8 => ?_)
  replace ht := ht h6 e7
  exact x_retV rfl dX0_weigh_93 ht
def T_X0_margin (G : GG) (d : Nat) (h : HP) (Q : Option Value → HP → Prop) (a0 : Nat) (x1 : Int32) : Prop :=
  Kd G h a0 0 ∧ ((¬ (hI h a0 0) = 0 → ((x1 = 0 → Q (some (.int (hI h a0 3))) h) ∧ (¬ x1 = 0 → ((x1 = 1 → Q (some (.int (hI h a0 4))) h) ∧ (¬ x1 = 1 → ((x1 = 2 → Q (some (.int (hI h a0 5))) h) ∧ (¬ x1 = 2 → Q (some (.int (hI h a0 6))) h))))))) ∧ ((hI h a0 0) = 0 → Q (some (.int (-2))) h))
set_option maxRecDepth 20000 in
theorem t_X0_margin {G : GG} {d : Nat} {h : HP} {Q : Option Value → HP → Prop} {a0 : Nat} {x1 : Int32} (ht : T_X0_margin G d h Q a0 x1) : Ex G d mX0_margin 0 [(0, .ref a0), (1, .int x1)] [] h Q := by
  unfold T_X0_margin at ht
  refine x_aload_n (pc2 := 1) 0 (n := 0) (x := a0) rfl dX0_margin_0 rfl ?_
  obtain ⟨k1, ht⟩ := ht
  refine y_getI (pc2 := 4) (κ := 0) (k := 0) fl_X0_9 (by decide) (by decide) k1 rfl dX0_margin_1 rfl ?_
  refine y_if_ne (pc2 := 7) 10 dX0_margin_4 (by decide) rfl (fun c2 => ?_) (fun c2 => ?_)
  · replace ht := ht.1 c2
    refine x_iload_n (pc2 := 11) 1 (n := 1) (x := x1) rfl dX0_margin_10 rfl ?_
    refine y_tcase (x := x1) 0 36 dX0_margin_11 (by decide) (by decide) rfl (by decide) (fun c3 => ?_) (fun c3 => ?_)
    · replace ht := ht.1 c3
      refine x_aload_n (pc2 := 37) 0 (n := 0) (x := a0) rfl dX0_margin_36 rfl ?_
      refine y_getI (pc2 := 40) (κ := 0) (k := 3) fl_X0_30 (by decide) (by decide) k1 rfl dX0_margin_37 rfl ?_
      exact x_ret (ty := .int) rfl rfl dX0_margin_40 ht
    replace ht := ht.2 c3
    refine y_tcase (x := x1) 1 41 dX0_margin_11 (by decide) (by decide) rfl (by decide) (fun c4 => ?_) (fun c4 => ?_)
    · replace ht := ht.1 c4
      refine x_aload_n (pc2 := 42) 0 (n := 0) (x := a0) rfl dX0_margin_41 rfl ?_
      refine y_getI (pc2 := 45) (κ := 0) (k := 4) fl_X0_34 (by decide) (by decide) k1 rfl dX0_margin_42 rfl ?_
      exact x_ret (ty := .int) rfl rfl dX0_margin_45 ht
    replace ht := ht.2 c4
    refine y_tcase (x := x1) 2 46 dX0_margin_11 (by decide) (by decide) rfl (by decide) (fun c5 => ?_) (fun c5 => ?_)
    · replace ht := ht.1 c5
      refine x_aload_n (pc2 := 47) 0 (n := 0) (x := a0) rfl dX0_margin_46 rfl ?_
      refine y_getI (pc2 := 50) (κ := 0) (k := 5) fl_X0_38 (by decide) (by decide) k1 rfl dX0_margin_47 rfl ?_
      exact x_ret (ty := .int) rfl rfl dX0_margin_50 ht
    replace ht := ht.2 c5
    have wc3 := ne_ti (z := 0) rfl c3
    have wc4 := ne_ti (z := 1) rfl c4
    have wc5 := ne_ti (z := 2) rfl c5
    refine x_tableOut (x := x1) 51 dX0_margin_11 (by omega) (by decide) ?_
    refine x_aload_n (pc2 := 52) 0 (n := 0) (x := a0) rfl dX0_margin_51 rfl ?_
    refine y_getI (pc2 := 55) (κ := 0) (k := 6) fl_X0_42 (by decide) (by decide) k1 rfl dX0_margin_52 rfl ?_
    exact x_ret (ty := .int) rfl rfl dX0_margin_55 ht
  · replace ht := ht.2 c2
    refine x_bipush (pc2 := 9) (v := (-2)) (by decide) dX0_margin_7 rfl ?_
    exact x_ret (ty := .int) rfl rfl dX0_margin_9 ht
theorem e_X0_margin {G : GG} {d : Nat} {h : HP} {Q : Option Value → HP → Prop} {a0 : Nat} {x1 : Int32} (ht : T_X0_margin G d h Q a0 x1) : Cal G d mX0_margin [.ref a0, .int x1] h Q := cal_of rfl (Nat.le_of_ble_eq_true rfl) (t_X0_margin ht)
def T_X1_init (G : GG) (d : Nat) (h : HP) (Q : Option Value → HP → Prop) (a0 : Nat) : Prop :=
  Q none h
set_option maxRecDepth 20000 in
theorem t_X1_init {G : GG} {d : Nat} {h : HP} {Q : Option Value → HP → Prop} {a0 : Nat} (hd1 : 1 ≤ d) (ht : T_X1_init G d h Q a0) : Ex G d mX1_init 0 [(0, .ref a0)] [] h Q := by
  unfold T_X1_init at ht
  refine x_aload_n (pc2 := 1) 0 (n := 0) (x := a0) rfl dX1_init_0 rfl ?_
  refine x_objInit (pc2 := 4) ml_X1_3 hd1 (Nat.le_of_ble_eq_true rfl) dX1_init_1 rfl ?_
  exact x_retV rfl dX1_init_4 ht
theorem e_X1_init {G : GG} {d : Nat} {h : HP} {Q : Option Value → HP → Prop} {a0 : Nat} (hd1 : 1 ≤ d) (ht : T_X1_init G d h Q a0) : Cal G d mX1_init [.ref a0] h Q := cal_of rfl (Nat.le_of_ble_eq_true rfl) (t_X1_init hd1 ht)
def T_X1_set (G : GG) (d : Nat) (h : HP) (Q : Option Value → HP → Prop) (a0 : Nat) (x1 : Int32) (x2 : Int32) (x3 : Int32) (x4 : Int32) (x5 : Int32) : Prop :=
  Kd G h a0 1 ∧ Q none (sI (sI (sI (sI (sI (sI h a0 0 1) a0 1 x1) a0 2 x2) a0 3 x3) a0 4 x4) a0 5 x5)
set_option maxRecDepth 20000 in
theorem t_X1_set {G : GG} {d : Nat} {h : HP} {Q : Option Value → HP → Prop} {a0 : Nat} {x1 : Int32} {x2 : Int32} {x3 : Int32} {x4 : Int32} {x5 : Int32} (ht : T_X1_set G d h Q a0 x1 x2 x3 x4 x5) : Ex G d mX1_set 0 [(0, .ref a0), (1, .int x1), (2, .int x2), (3, .int x3), (4, .int x4), (5, .int x5)] [] h Q := by
  unfold T_X1_set at ht
  refine x_aload_n (pc2 := 1) 0 (n := 0) (x := a0) rfl dX1_set_0 rfl ?_
  refine x_iconst (pc2 := 2) (v := 1) (by decide) dX1_set_1 rfl ?_
  obtain ⟨k1, ht⟩ := ht
  refine x_putZ (pc2 := 5) (κ := 1) (k := 0) (Or.inr rfl) fl_X1_9 (by decide) (by decide) (Or.inl rfl) rfl k1 dX1_set_2 rfl ?_
  refine x_aload_n (pc2 := 6) 0 (n := 0) (x := a0) rfl dX1_set_5 rfl ?_
  refine x_iload_n (pc2 := 7) 1 (n := 1) (x := x1) rfl dX1_set_6 rfl ?_
  refine x_putI (pc2 := 10) (κ := 1) (k := 1) fl_X1_15 (by decide) (by decide) (Or.inl rfl) rfl k1.sI dX1_set_7 rfl ?_
  refine x_aload_n (pc2 := 11) 0 (n := 0) (x := a0) rfl dX1_set_10 rfl ?_
  refine x_iload_n (pc2 := 12) 2 (n := 2) (x := x2) rfl dX1_set_11 rfl ?_
  refine x_putI (pc2 := 15) (κ := 1) (k := 2) fl_X1_19 (by decide) (by decide) (Or.inl rfl) rfl k1.sI.sI dX1_set_12 rfl ?_
  refine x_aload_n (pc2 := 16) 0 (n := 0) (x := a0) rfl dX1_set_15 rfl ?_
  refine x_iload_n (pc2 := 17) 3 (n := 3) (x := x3) rfl dX1_set_16 rfl ?_
  refine x_putI (pc2 := 20) (κ := 1) (k := 3) fl_X1_22 (by decide) (by decide) (Or.inl rfl) rfl k1.sI.sI.sI dX1_set_17 rfl ?_
  refine x_aload_n (pc2 := 21) 0 (n := 0) (x := a0) rfl dX1_set_20 rfl ?_
  refine x_iload (pc2 := 23) 4 (n := 4) (x := x4) rfl dX1_set_21 rfl ?_
  refine x_putI (pc2 := 26) (κ := 1) (k := 4) fl_X1_25 (by decide) (by decide) (Or.inl rfl) rfl k1.sI.sI.sI.sI dX1_set_23 rfl ?_
  refine x_aload_n (pc2 := 27) 0 (n := 0) (x := a0) rfl dX1_set_26 rfl ?_
  refine x_iload (pc2 := 29) 5 (n := 5) (x := x5) rfl dX1_set_27 rfl ?_
  refine x_putI (pc2 := 32) (κ := 1) (k := 5) fl_X1_28 (by decide) (by decide) (Or.inl rfl) rfl k1.sI.sI.sI.sI.sI dX1_set_29 rfl ?_
  exact x_retV rfl dX1_set_32 ht
theorem e_X1_set {G : GG} {d : Nat} {h : HP} {Q : Option Value → HP → Prop} {a0 : Nat} {x1 : Int32} {x2 : Int32} {x3 : Int32} {x4 : Int32} {x5 : Int32} (ht : T_X1_set G d h Q a0 x1 x2 x3 x4 x5) : Cal G d mX1_set [.ref a0, .int x1, .int x2, .int x3, .int x4, .int x5] h Q := cal_of rfl (Nat.le_of_ble_eq_true rfl) (t_X1_set ht)
def T_X1_copyFrom (G : GG) (d : Nat) (h : HP) (Q : Option Value → HP → Prop) (a0 : Nat) (a1 : Nat) : Prop :=
  Kd G h a1 1 ∧ ((hI h a1 0) = 0 ∨ (hI h a1 0) = 1) ∧ Kd G h a0 1 ∧ ∀ h4, h4 = (sI (sI (sI h a0 0 (hI h a1 0)) a0 1 (hI (sI h a0 0 (hI h a1 0)) a1 1)) a0 2 (hI (sI (sI h a0 0 (hI h a1 0)) a0 1 (hI (sI h a0 0 (hI h a1 0)) a1 1)) a1 2)) → ∀ h7, h7 = (sI (sI (sI h4 a0 3 (hI h4 a1 3)) a0 4 (hI (sI h4 a0 3 (hI h4 a1 3)) a1 4)) a0 5 (hI (sI (sI h4 a0 3 (hI h4 a1 3)) a0 4 (hI (sI h4 a0 3 (hI h4 a1 3)) a1 4)) a1 5)) → Q none h7
set_option maxRecDepth 20000 in
theorem t_X1_copyFrom {G : GG} {d : Nat} {h : HP} {Q : Option Value → HP → Prop} {a0 : Nat} {a1 : Nat} (ht : T_X1_copyFrom G d h Q a0 a1) : Ex G d mX1_copyFrom 0 [(0, .ref a0), (1, .ref a1)] [] h Q := by
  unfold T_X1_copyFrom at ht
  refine x_aload_n (pc2 := 1) 0 (n := 0) (x := a0) rfl dX1_copyFrom_0 rfl ?_
  refine x_aload_n (pc2 := 2) 1 (n := 1) (x := a1) rfl dX1_copyFrom_1 rfl ?_
  obtain ⟨k1, ht⟩ := ht
  refine y_getI (pc2 := 5) (κ := 1) (k := 0) fl_X1_9 (by decide) (by decide) k1 rfl dX1_copyFrom_2 rfl ?_
  obtain ⟨z2, ht⟩ := ht
  obtain ⟨k3, ht⟩ := ht
  refine x_putZ (pc2 := 8) (κ := 1) (k := 0) z2 fl_X1_9 (by decide) (by decide) (Or.inl rfl) rfl k3 dX1_copyFrom_5 rfl ?_
  refine x_aload_n (pc2 := 9) 0 (n := 0) (x := a0) rfl dX1_copyFrom_8 rfl ?_
  refine x_aload_n (pc2 := 10) 1 (n := 1) (x := a1) rfl dX1_copyFrom_9 rfl ?_
  refine y_getI (pc2 := 13) (κ := 1) (k := 1) fl_X1_15 (by decide) (by decide) k1.sI rfl dX1_copyFrom_10 rfl ?_
  refine x_putI (pc2 := 16) (κ := 1) (k := 1) fl_X1_15 (by decide) (by decide) (Or.inl rfl) rfl k3.sI dX1_copyFrom_13 rfl ?_
  refine x_aload_n (pc2 := 17) 0 (n := 0) (x := a0) rfl dX1_copyFrom_16 rfl ?_
  refine x_aload_n (pc2 := 18) 1 (n := 1) (x := a1) rfl dX1_copyFrom_17 rfl ?_
  refine y_getI (pc2 := 21) (κ := 1) (k := 2) fl_X1_19 (by decide) (by decide) k1.sI.sI rfl dX1_copyFrom_18 rfl ?_
  refine x_putI (pc2 := 24) (κ := 1) (k := 2) fl_X1_19 (by decide) (by decide) (Or.inl rfl) rfl k3.sI.sI dX1_copyFrom_21 rfl ?_
  refine nm_I (fun h4 e5 p6 => ?_)
  replace ht := ht h4 e5
  refine x_aload_n (pc2 := 25) 0 (n := 0) (x := a0) rfl dX1_copyFrom_24 rfl ?_
  refine x_aload_n (pc2 := 26) 1 (n := 1) (x := a1) rfl dX1_copyFrom_25 rfl ?_
  refine y_getI (pc2 := 29) (κ := 1) (k := 3) fl_X1_22 (by decide) (by decide) (k1.sI.sI.up p6) rfl dX1_copyFrom_26 rfl ?_
  refine x_putI (pc2 := 32) (κ := 1) (k := 3) fl_X1_22 (by decide) (by decide) (Or.inl rfl) rfl (k3.sI.sI.up p6) dX1_copyFrom_29 rfl ?_
  refine x_aload_n (pc2 := 33) 0 (n := 0) (x := a0) rfl dX1_copyFrom_32 rfl ?_
  refine x_aload_n (pc2 := 34) 1 (n := 1) (x := a1) rfl dX1_copyFrom_33 rfl ?_
  refine y_getI (pc2 := 37) (κ := 1) (k := 4) fl_X1_25 (by decide) (by decide) (k1.sI.sI.up p6).sI rfl dX1_copyFrom_34 rfl ?_
  refine x_putI (pc2 := 40) (κ := 1) (k := 4) fl_X1_25 (by decide) (by decide) (Or.inl rfl) rfl (k3.sI.sI.up p6).sI dX1_copyFrom_37 rfl ?_
  refine x_aload_n (pc2 := 41) 0 (n := 0) (x := a0) rfl dX1_copyFrom_40 rfl ?_
  refine x_aload_n (pc2 := 42) 1 (n := 1) (x := a1) rfl dX1_copyFrom_41 rfl ?_
  refine y_getI (pc2 := 45) (κ := 1) (k := 5) fl_X1_28 (by decide) (by decide) (k1.sI.sI.up p6).sI.sI rfl dX1_copyFrom_42 rfl ?_
  refine x_putI (pc2 := 48) (κ := 1) (k := 5) fl_X1_28 (by decide) (by decide) (Or.inl rfl) rfl (k3.sI.sI.up p6).sI.sI dX1_copyFrom_45 rfl ?_
  refine nm_I (fun h7 e8 p9 => ?_)
  replace ht := ht h7 e8
  exact x_retV rfl dX1_copyFrom_48 ht
theorem e_X1_copyFrom {G : GG} {d : Nat} {h : HP} {Q : Option Value → HP → Prop} {a0 : Nat} {a1 : Nat} (ht : T_X1_copyFrom G d h Q a0 a1) : Cal G d mX1_copyFrom [.ref a0, .ref a1] h Q := cal_of rfl (Nat.le_of_ble_eq_true rfl) (t_X1_copyFrom ht)
def T_X1_from (G : GG) (d : Nat) (h : HP) (Q : Option Value → HP → Prop) (a0 : Nat) : Prop :=
  Kd G h a0 1 ∧ Q (some (.int (((hI h a0 3) * 40) + (hI h a0 2)))) h
set_option maxRecDepth 20000 in
theorem t_X1_from {G : GG} {d : Nat} {h : HP} {Q : Option Value → HP → Prop} {a0 : Nat} (ht : T_X1_from G d h Q a0) : Ex G d mX1_from 0 [(0, .ref a0)] [] h Q := by
  unfold T_X1_from at ht
  refine x_aload_n (pc2 := 1) 0 (n := 0) (x := a0) rfl dX1_from_0 rfl ?_
  obtain ⟨k1, ht⟩ := ht
  refine y_getI (pc2 := 4) (κ := 1) (k := 3) fl_X1_22 (by decide) (by decide) k1 rfl dX1_from_1 rfl ?_
  refine x_bipush (pc2 := 6) (v := 40) (by decide) dX1_from_4 rfl ?_
  refine x_imul (pc2 := 7) dX1_from_6 rfl ?_
  refine x_aload_n (pc2 := 8) 0 (n := 0) (x := a0) rfl dX1_from_7 rfl ?_
  refine y_getI (pc2 := 11) (κ := 1) (k := 2) fl_X1_19 (by decide) (by decide) k1 rfl dX1_from_8 rfl ?_
  refine x_iadd (pc2 := 12) dX1_from_11 rfl ?_
  exact x_ret (ty := .int) rfl rfl dX1_from_12 ht
theorem e_X1_from {G : GG} {d : Nat} {h : HP} {Q : Option Value → HP → Prop} {a0 : Nat} (ht : T_X1_from G d h Q a0) : Cal G d mX1_from [.ref a0] h Q := cal_of rfl (Nat.le_of_ble_eq_true rfl) (t_X1_from ht)
def T_X1_to (G : GG) (d : Nat) (h : HP) (Q : Option Value → HP → Prop) (a0 : Nat) : Prop :=
  Kd G h a0 1 ∧ Q (some (.int (((hI h a0 5) * 40) + (hI h a0 4)))) h
set_option maxRecDepth 20000 in
theorem t_X1_to {G : GG} {d : Nat} {h : HP} {Q : Option Value → HP → Prop} {a0 : Nat} (ht : T_X1_to G d h Q a0) : Ex G d mX1_to 0 [(0, .ref a0)] [] h Q := by
  unfold T_X1_to at ht
  refine x_aload_n (pc2 := 1) 0 (n := 0) (x := a0) rfl dX1_to_0 rfl ?_
  obtain ⟨k1, ht⟩ := ht
  refine y_getI (pc2 := 4) (κ := 1) (k := 5) fl_X1_28 (by decide) (by decide) k1 rfl dX1_to_1 rfl ?_
  refine x_bipush (pc2 := 6) (v := 40) (by decide) dX1_to_4 rfl ?_
  refine x_imul (pc2 := 7) dX1_to_6 rfl ?_
  refine x_aload_n (pc2 := 8) 0 (n := 0) (x := a0) rfl dX1_to_7 rfl ?_
  refine y_getI (pc2 := 11) (κ := 1) (k := 4) fl_X1_25 (by decide) (by decide) k1 rfl dX1_to_8 rfl ?_
  refine x_iadd (pc2 := 12) dX1_to_11 rfl ?_
  exact x_ret (ty := .int) rfl rfl dX1_to_12 ht
theorem e_X1_to {G : GG} {d : Nat} {h : HP} {Q : Option Value → HP → Prop} {a0 : Nat} (ht : T_X1_to G d h Q a0) : Cal G d mX1_to [.ref a0] h Q := cal_of rfl (Nat.le_of_ble_eq_true rfl) (t_X1_to ht)
def T_X3_init (G : GG) (d : Nat) (h : HP) (Q : Option Value → HP → Prop) (a0 : Nat) : Prop :=
  Kd G h a0 3 ∧ ∀ q2 h3, q2 = hZ (sI h a0 6 (-1)) → h3 = nw (sI h a0 6 (-1)) 15 ((12 : Int32).toNatClampNeg) → Q none (sR h3 a0 17 (some q2))
set_option maxRecDepth 20000 in
theorem t_X3_init {G : GG} {d : Nat} {h : HP} {Q : Option Value → HP → Prop} {a0 : Nat} (hd1 : 1 ≤ d) (ht : T_X3_init G d h Q a0) : Ex G d mX3_init 0 [(0, .ref a0)] [] h Q := by
  unfold T_X3_init at ht
  refine x_aload_n (pc2 := 1) 0 (n := 0) (x := a0) rfl dX3_init_0 rfl ?_
  refine x_objInit (pc2 := 4) ml_X3_3 hd1 (Nat.le_of_ble_eq_true rfl) dX3_init_1 rfl ?_
  refine x_aload_n (pc2 := 5) 0 (n := 0) (x := a0) rfl dX3_init_4 rfl ?_
  refine x_iconst (pc2 := 6) (v := (-1)) (by decide) dX3_init_5 rfl ?_
  obtain ⟨k1, ht⟩ := ht
  refine x_putI (pc2 := 9) (κ := 3) (k := 6) fl_X3_9 (by decide) (by decide) (Or.inl rfl) rfl k1 dX3_init_6 rfl ?_
  refine x_aload_n (pc2 := 10) 0 (n := 0) (x := a0) rfl dX3_init_9 rfl ?_
  refine x_bipush (pc2 := 12) (v := 12) (by decide) dX3_init_10 rfl ?_
  refine y_newa (pc2 := 14) (κ := 15) (at0 := .long) ac_long rfl (by decide) (by decide) (by decide) (by decide) dX3_init_12 rfl (fun q2 h3 e4 e5 p6 => ?_)
  replace ht := ht q2 h3 e4 e5
  refine x_putR (pc2 := 17) (v := (some q2)) (κ := 3) (k := 17) fl_X3_15 (by decide) (by decide) (Or.inr ⟨rfl, rfl⟩) (isRt_a _) (k1.sI.up p6) dX3_init_14 rfl ?_
  exact x_retV rfl dX3_init_17 ht
theorem e_X3_init {G : GG} {d : Nat} {h : HP} {Q : Option Value → HP → Prop} {a0 : Nat} (hd1 : 1 ≤ d) (ht : T_X3_init G d h Q a0) : Cal G d mX3_init [.ref a0] h Q := cal_of rfl (Nat.le_of_ble_eq_true rfl) (t_X3_init hd1 ht)
def T_X3_set (G : GG) (d : Nat) (h : HP) (Q : Option Value → HP → Prop) (a0 : Nat) (x1 : Int32) (x2 : Int32) (x3 : Int32) (x4 : Int32) (x5 : Int32) (x6 : Int32) (x7 : Int32) : Prop :=
  Kd G h a0 3 ∧ ∀ h2, h2 = (sI (sI (sI (sI (sI (sI (sI h a0 0 x1) a0 1 x2) a0 2 x3) a0 3 x4) a0 4 x5) a0 5 x6) a0 6 x7) → Q none (sI h2 a0 7 0)
set_option maxRecDepth 20000 in
theorem t_X3_set {G : GG} {d : Nat} {h : HP} {Q : Option Value → HP → Prop} {a0 : Nat} {x1 : Int32} {x2 : Int32} {x3 : Int32} {x4 : Int32} {x5 : Int32} {x6 : Int32} {x7 : Int32} (ht : T_X3_set G d h Q a0 x1 x2 x3 x4 x5 x6 x7) : Ex G d mX3_set 0 [(0, .ref a0), (1, .int x1), (2, .int x2), (3, .int x3), (4, .int x4), (5, .int x5), (6, .int x6), (7, .int x7)] [] h Q := by
  unfold T_X3_set at ht
  refine x_aload_n (pc2 := 1) 0 (n := 0) (x := a0) rfl dX3_set_0 rfl ?_
  refine x_iload_n (pc2 := 2) 1 (n := 1) (x := x1) rfl dX3_set_1 rfl ?_
  obtain ⟨k1, ht⟩ := ht
  refine x_putI (pc2 := 5) (κ := 3) (k := 0) fl_X3_19 (by decide) (by decide) (Or.inl rfl) rfl k1 dX3_set_2 rfl ?_
  refine x_aload_n (pc2 := 6) 0 (n := 0) (x := a0) rfl dX3_set_5 rfl ?_
  refine x_iload_n (pc2 := 7) 2 (n := 2) (x := x2) rfl dX3_set_6 rfl ?_
  refine x_putI (pc2 := 10) (κ := 3) (k := 1) fl_X3_22 (by decide) (by decide) (Or.inl rfl) rfl k1.sI dX3_set_7 rfl ?_
  refine x_aload_n (pc2 := 11) 0 (n := 0) (x := a0) rfl dX3_set_10 rfl ?_
  refine x_iload_n (pc2 := 12) 3 (n := 3) (x := x3) rfl dX3_set_11 rfl ?_
  refine x_putI (pc2 := 15) (κ := 3) (k := 2) fl_X3_25 (by decide) (by decide) (Or.inl rfl) rfl k1.sI.sI dX3_set_12 rfl ?_
  refine x_aload_n (pc2 := 16) 0 (n := 0) (x := a0) rfl dX3_set_15 rfl ?_
  refine x_iload (pc2 := 18) 4 (n := 4) (x := x4) rfl dX3_set_16 rfl ?_
  refine x_putI (pc2 := 21) (κ := 3) (k := 3) fl_X3_28 (by decide) (by decide) (Or.inl rfl) rfl k1.sI.sI.sI dX3_set_18 rfl ?_
  refine x_aload_n (pc2 := 22) 0 (n := 0) (x := a0) rfl dX3_set_21 rfl ?_
  refine x_iload (pc2 := 24) 5 (n := 5) (x := x5) rfl dX3_set_22 rfl ?_
  refine x_putI (pc2 := 27) (κ := 3) (k := 4) fl_X3_31 (by decide) (by decide) (Or.inl rfl) rfl k1.sI.sI.sI.sI dX3_set_24 rfl ?_
  refine x_aload_n (pc2 := 28) 0 (n := 0) (x := a0) rfl dX3_set_27 rfl ?_
  refine x_iload (pc2 := 30) 6 (n := 6) (x := x6) rfl dX3_set_28 rfl ?_
  refine x_putI (pc2 := 33) (κ := 3) (k := 5) fl_X3_34 (by decide) (by decide) (Or.inl rfl) rfl k1.sI.sI.sI.sI.sI dX3_set_30 rfl ?_
  refine x_aload_n (pc2 := 34) 0 (n := 0) (x := a0) rfl dX3_set_33 rfl ?_
  refine x_iload (pc2 := 36) 7 (n := 7) (x := x7) rfl dX3_set_34 rfl ?_
  refine x_putI (pc2 := 39) (κ := 3) (k := 6) fl_X3_9 (by decide) (by decide) (Or.inl rfl) rfl k1.sI.sI.sI.sI.sI.sI dX3_set_36 rfl ?_
  refine nm_I (fun h2 e3 p4 => ?_)
  replace ht := ht h2 e3
  refine x_aload_n (pc2 := 40) 0 (n := 0) (x := a0) rfl dX3_set_39 rfl ?_
  refine x_iconst (pc2 := 41) (v := 0) (by decide) dX3_set_40 rfl ?_
  refine x_putI (pc2 := 44) (κ := 3) (k := 7) fl_X3_37 (by decide) (by decide) (Or.inl rfl) rfl (k1.sI.sI.sI.sI.sI.sI.up p4) dX3_set_41 rfl ?_
  exact x_retV rfl dX3_set_44 ht
theorem e_X3_set {G : GG} {d : Nat} {h : HP} {Q : Option Value → HP → Prop} {a0 : Nat} {x1 : Int32} {x2 : Int32} {x3 : Int32} {x4 : Int32} {x5 : Int32} {x6 : Int32} {x7 : Int32} (ht : T_X3_set G d h Q a0 x1 x2 x3 x4 x5 x6 x7) : Cal G d mX3_set [.ref a0, .int x1, .int x2, .int x3, .int x4, .int x5, .int x6, .int x7] h Q := cal_of rfl (Nat.le_of_ble_eq_true rfl) (t_X3_set ht)
def T_X3_surround (G : GG) (d : Nat) (h : HP) (Q : Option Value → HP → Prop) (a0 : Nat) (a1 : Nat) (o2 : Option Nat) : Prop :=
  ((o2 = none → Kd G h a1 9 ∧ Ex G d mX3_surround 23 [(0, .ref a0), (1, .ref a1), (2, va_rf none)] [.int (hI h a1 1), .ref a0] h Q) ∧ (∀ q2, o2 = some q2 → Kd G h a1 9 ∧ Kd G h q2 9 ∧ Ex G d mX3_surround 23 [(0, .ref a0), (1, .ref a1), (2, va_rf (some q2))] [.int (mnI (hI h a1 1) (hI h q2 1)), .ref a0] h Q))
set_option maxRecDepth 20000 in
theorem t_X3_surround {G : GG} {d : Nat} {h : HP} {Q : Option Value → HP → Prop} {a0 : Nat} {a1 : Nat} {o2 : Option Nat} (hd1 : 1 ≤ d) (ht : T_X3_surround G d h Q a0 a1 o2) : Ex G d mX3_surround 0 [(0, .ref a0), (1, .ref a1), (2, va_rf o2)] [] h Q := by
  unfold T_X3_surround at ht
  refine x_aload_n (pc2 := 1) 0 (n := 0) (x := a0) rfl dX3_surround_0 rfl ?_
  refine x_aloadq_n (pc2 := 2) 2 (n := 2) (x := o2) rfl dX3_surround_1 rfl ?_
  refine x_ifnonnull (pc2 := 5) (x := o2) 12 dX3_surround_2 (by decide) rfl (fun q2 e1 => ?_) (fun e1 => ?_)
  · replace ht := ht.2 q2 e1
    subst e1
    show Ex G d mX3_surround 12 [(0, .ref a0), (1, .ref a1), (2, .ref q2)] [.ref a0] h Q
    refine x_aload_n (pc2 := 13) 1 (n := 1) (x := a1) rfl dX3_surround_12 rfl ?_
    obtain ⟨k4, ht⟩ := ht
    refine y_getI (pc2 := 16) (κ := 9) (k := 1) fl_X3_40 (by decide) (by decide) k4 rfl dX3_surround_13 rfl ?_
    refine x_aload_n (pc2 := 17) 2 (n := 2) (x := q2) rfl dX3_surround_16 rfl ?_
    obtain ⟨k5, ht⟩ := ht
    refine y_getI (pc2 := 20) (κ := 9) (k := 1) fl_X3_40 (by decide) (by decide) k5 rfl dX3_surround_17 rfl ?_
    refine x_mmin (pc2 := 23) ml_X3_43 hd1 (Nat.le_of_ble_eq_true rfl) dX3_surround_20 rfl ?_
    exact ht
  · replace ht := ht.1 e1
    subst e1
    show Ex G d mX3_surround 5 [(0, .ref a0), (1, .ref a1), (2, va_rf none)] [.ref a0] h Q
    refine x_aload_n (pc2 := 6) 1 (n := 1) (x := a1) rfl dX3_surround_5 rfl ?_
    obtain ⟨k3, ht⟩ := ht
    refine y_getI (pc2 := 9) (κ := 9) (k := 1) fl_X3_40 (by decide) (by decide) k3 rfl dX3_surround_6 rfl ?_
    refine x_goto 23 dX3_surround_9 (by decide) ?_
    exact ht
theorem e_X3_surround {G : GG} {d : Nat} {h : HP} {Q : Option Value → HP → Prop} {a0 : Nat} {a1 : Nat} {o2 : Option Nat} (hd1 : 1 ≤ d) (ht : T_X3_surround G d h Q a0 a1 o2) : Cal G d mX3_surround [.ref a0, .ref a1, va_rf o2] h Q := by
  cases o2 <;> exact cal_of rfl (Nat.le_of_ble_eq_true rfl) (t_X3_surround hd1 ht)
def T_X3_surround_23 (G : GG) (d : Nat) (h : HP) (Q : Option Value → HP → Prop) (a0 : Nat) (a1 : Nat) (o2 : Option Nat) (sa0 : Nat) (sx1 : Int32) : Prop :=
  Kd G h sa0 3 ∧ ((o2 = none → Kd G (sI h sa0 9 sx1) a1 9 ∧ Ex G d mX3_surround 49 [(0, .ref a0), (1, .ref a1), (2, va_rf none)] [.int (hI (sI h sa0 9 sx1) a1 2), .ref a0] (sI h sa0 9 sx1) Q) ∧ (∀ q3, o2 = some q3 → Kd G (sI h sa0 9 sx1) a1 9 ∧ Kd G (sI h sa0 9 sx1) q3 9 ∧ Ex G d mX3_surround 49 [(0, .ref a0), (1, .ref a1), (2, va_rf (some q3))] [.int (mnI (hI (sI h sa0 9 sx1) a1 2) (hI (sI h sa0 9 sx1) q3 2)), .ref a0] (sI h sa0 9 sx1) Q))
set_option maxRecDepth 20000 in
theorem t_X3_surround_23 {G : GG} {d : Nat} {h : HP} {Q : Option Value → HP → Prop} {a0 : Nat} {a1 : Nat} {o2 : Option Nat} {sa0 : Nat} {sx1 : Int32} (hd1 : 1 ≤ d) (ht : T_X3_surround_23 G d h Q a0 a1 o2 sa0 sx1) : Ex G d mX3_surround 23 [(0, .ref a0), (1, .ref a1), (2, va_rf o2)] [.int sx1, .ref sa0] h Q := by
  unfold T_X3_surround_23 at ht
  obtain ⟨k1, ht⟩ := ht
  refine x_putI (pc2 := 26) (κ := 3) (k := 9) fl_X3_49 (by decide) (by decide) (Or.inl rfl) rfl k1 dX3_surround_23 rfl ?_
  refine x_aload_n (pc2 := 27) 0 (n := 0) (x := a0) rfl dX3_surround_26 rfl ?_
  refine x_aloadq_n (pc2 := 28) 2 (n := 2) (x := o2) rfl dX3_surround_27 rfl ?_
  refine x_ifnonnull (pc2 := 31) (x := o2) 38 dX3_surround_28 (by decide) rfl (fun q3 e2 => ?_) (fun e2 => ?_)
  · replace ht := ht.2 q3 e2
    subst e2
    show Ex G d mX3_surround 38 [(0, .ref a0), (1, .ref a1), (2, .ref q3)] [.ref a0] (sI h sa0 9 sx1) Q
    refine x_aload_n (pc2 := 39) 1 (n := 1) (x := a1) rfl dX3_surround_38 rfl ?_
    obtain ⟨k5, ht⟩ := ht
    refine y_getI (pc2 := 42) (κ := 9) (k := 2) fl_X3_52 (by decide) (by decide) k5 rfl dX3_surround_39 rfl ?_
    refine x_aload_n (pc2 := 43) 2 (n := 2) (x := q3) rfl dX3_surround_42 rfl ?_
    obtain ⟨k6, ht⟩ := ht
    refine y_getI (pc2 := 46) (κ := 9) (k := 2) fl_X3_52 (by decide) (by decide) k6 rfl dX3_surround_43 rfl ?_
    refine x_mmin (pc2 := 49) ml_X3_43 hd1 (Nat.le_of_ble_eq_true rfl) dX3_surround_46 rfl ?_
    exact ht
  · replace ht := ht.1 e2
    subst e2
    show Ex G d mX3_surround 31 [(0, .ref a0), (1, .ref a1), (2, va_rf none)] [.ref a0] (sI h sa0 9 sx1) Q
    refine x_aload_n (pc2 := 32) 1 (n := 1) (x := a1) rfl dX3_surround_31 rfl ?_
    obtain ⟨k4, ht⟩ := ht
    refine y_getI (pc2 := 35) (κ := 9) (k := 2) fl_X3_52 (by decide) (by decide) k4 rfl dX3_surround_32 rfl ?_
    refine x_goto 49 dX3_surround_35 (by decide) ?_
    exact ht
def T_X3_surround_49 (G : GG) (d : Nat) (h : HP) (Q : Option Value → HP → Prop) (a0 : Nat) (a1 : Nat) (o2 : Option Nat) (sa0 : Nat) (sx1 : Int32) : Prop :=
  Kd G h sa0 3 ∧ ((o2 = none → Kd G (sI h sa0 10 sx1) a1 9 ∧ Ex G d mX3_surround 75 [(0, .ref a0), (1, .ref a1), (2, va_rf none)] [.int (hI (sI h sa0 10 sx1) a1 3), .ref a0] (sI h sa0 10 sx1) Q) ∧ (∀ q3, o2 = some q3 → Kd G (sI h sa0 10 sx1) a1 9 ∧ Kd G (sI h sa0 10 sx1) q3 9 ∧ Ex G d mX3_surround 75 [(0, .ref a0), (1, .ref a1), (2, va_rf (some q3))] [.int (mxI (hI (sI h sa0 10 sx1) a1 3) (hI (sI h sa0 10 sx1) q3 3)), .ref a0] (sI h sa0 10 sx1) Q))
set_option maxRecDepth 20000 in
theorem t_X3_surround_49 {G : GG} {d : Nat} {h : HP} {Q : Option Value → HP → Prop} {a0 : Nat} {a1 : Nat} {o2 : Option Nat} {sa0 : Nat} {sx1 : Int32} (hd1 : 1 ≤ d) (ht : T_X3_surround_49 G d h Q a0 a1 o2 sa0 sx1) : Ex G d mX3_surround 49 [(0, .ref a0), (1, .ref a1), (2, va_rf o2)] [.int sx1, .ref sa0] h Q := by
  unfold T_X3_surround_49 at ht
  obtain ⟨k1, ht⟩ := ht
  refine x_putI (pc2 := 52) (κ := 3) (k := 10) fl_X3_53 (by decide) (by decide) (Or.inl rfl) rfl k1 dX3_surround_49 rfl ?_
  refine x_aload_n (pc2 := 53) 0 (n := 0) (x := a0) rfl dX3_surround_52 rfl ?_
  refine x_aloadq_n (pc2 := 54) 2 (n := 2) (x := o2) rfl dX3_surround_53 rfl ?_
  refine x_ifnonnull (pc2 := 57) (x := o2) 64 dX3_surround_54 (by decide) rfl (fun q3 e2 => ?_) (fun e2 => ?_)
  · replace ht := ht.2 q3 e2
    subst e2
    show Ex G d mX3_surround 64 [(0, .ref a0), (1, .ref a1), (2, .ref q3)] [.ref a0] (sI h sa0 10 sx1) Q
    refine x_aload_n (pc2 := 65) 1 (n := 1) (x := a1) rfl dX3_surround_64 rfl ?_
    obtain ⟨k5, ht⟩ := ht
    refine y_getI (pc2 := 68) (κ := 9) (k := 3) fl_X3_56 (by decide) (by decide) k5 rfl dX3_surround_65 rfl ?_
    refine x_aload_n (pc2 := 69) 2 (n := 2) (x := q3) rfl dX3_surround_68 rfl ?_
    obtain ⟨k6, ht⟩ := ht
    refine y_getI (pc2 := 72) (κ := 9) (k := 3) fl_X3_56 (by decide) (by decide) k6 rfl dX3_surround_69 rfl ?_
    refine x_mmax (pc2 := 75) ml_X3_57 hd1 (Nat.le_of_ble_eq_true rfl) dX3_surround_72 rfl ?_
    exact ht
  · replace ht := ht.1 e2
    subst e2
    show Ex G d mX3_surround 57 [(0, .ref a0), (1, .ref a1), (2, va_rf none)] [.ref a0] (sI h sa0 10 sx1) Q
    refine x_aload_n (pc2 := 58) 1 (n := 1) (x := a1) rfl dX3_surround_57 rfl ?_
    obtain ⟨k4, ht⟩ := ht
    refine y_getI (pc2 := 61) (κ := 9) (k := 3) fl_X3_56 (by decide) (by decide) k4 rfl dX3_surround_58 rfl ?_
    refine x_goto 75 dX3_surround_61 (by decide) ?_
    exact ht
def T_X3_surround_75 (G : GG) (d : Nat) (h : HP) (Q : Option Value → HP → Prop) (a0 : Nat) (a1 : Nat) (o2 : Option Nat) (sa0 : Nat) (sx1 : Int32) : Prop :=
  Kd G h sa0 3 ∧ ((o2 = none → Kd G (sI h sa0 11 sx1) a1 9 ∧ Kd G (sI h sa0 11 sx1) a0 3 ∧ Q none (sI (sI h sa0 11 sx1) a0 12 (hI (sI h sa0 11 sx1) a1 4))) ∧ (∀ q3, o2 = some q3 → Kd G (sI h sa0 11 sx1) a1 9 ∧ Kd G (sI h sa0 11 sx1) q3 9 ∧ Kd G (sI h sa0 11 sx1) a0 3 ∧ Q none (sI (sI h sa0 11 sx1) a0 12 (mxI (hI (sI h sa0 11 sx1) a1 4) (hI (sI h sa0 11 sx1) q3 4)))))
set_option maxRecDepth 20000 in
theorem t_X3_surround_75 {G : GG} {d : Nat} {h : HP} {Q : Option Value → HP → Prop} {a0 : Nat} {a1 : Nat} {o2 : Option Nat} {sa0 : Nat} {sx1 : Int32} (hd1 : 1 ≤ d) (ht : T_X3_surround_75 G d h Q a0 a1 o2 sa0 sx1) : Ex G d mX3_surround 75 [(0, .ref a0), (1, .ref a1), (2, va_rf o2)] [.int sx1, .ref sa0] h Q := by
  unfold T_X3_surround_75 at ht
  obtain ⟨k1, ht⟩ := ht
  refine x_putI (pc2 := 78) (κ := 3) (k := 11) fl_X3_60 (by decide) (by decide) (Or.inl rfl) rfl k1 dX3_surround_75 rfl ?_
  refine x_aload_n (pc2 := 79) 0 (n := 0) (x := a0) rfl dX3_surround_78 rfl ?_
  refine x_aloadq_n (pc2 := 80) 2 (n := 2) (x := o2) rfl dX3_surround_79 rfl ?_
  refine x_ifnonnull (pc2 := 83) (x := o2) 90 dX3_surround_80 (by decide) rfl (fun q3 e2 => ?_) (fun e2 => ?_)
  · replace ht := ht.2 q3 e2
    subst e2
    show Ex G d mX3_surround 90 [(0, .ref a0), (1, .ref a1), (2, .ref q3)] [.ref a0] (sI h sa0 11 sx1) Q
    refine x_aload_n (pc2 := 91) 1 (n := 1) (x := a1) rfl dX3_surround_90 rfl ?_
    obtain ⟨k6, ht⟩ := ht
    refine y_getI (pc2 := 94) (κ := 9) (k := 4) fl_X3_63 (by decide) (by decide) k6 rfl dX3_surround_91 rfl ?_
    refine x_aload_n (pc2 := 95) 2 (n := 2) (x := q3) rfl dX3_surround_94 rfl ?_
    obtain ⟨k7, ht⟩ := ht
    refine y_getI (pc2 := 98) (κ := 9) (k := 4) fl_X3_63 (by decide) (by decide) k7 rfl dX3_surround_95 rfl ?_
    refine x_mmax (pc2 := 101) ml_X3_57 hd1 (Nat.le_of_ble_eq_true rfl) dX3_surround_98 rfl ?_
    obtain ⟨k8, ht⟩ := ht
    refine x_putI (pc2 := 104) (κ := 3) (k := 12) fl_X3_64 (by decide) (by decide) (Or.inl rfl) rfl k8 dX3_surround_101 rfl ?_
    exact x_retV rfl dX3_surround_104 ht
  · replace ht := ht.1 e2
    subst e2
    show Ex G d mX3_surround 83 [(0, .ref a0), (1, .ref a1), (2, va_rf none)] [.ref a0] (sI h sa0 11 sx1) Q
    refine x_aload_n (pc2 := 84) 1 (n := 1) (x := a1) rfl dX3_surround_83 rfl ?_
    obtain ⟨k4, ht⟩ := ht
    refine y_getI (pc2 := 87) (κ := 9) (k := 4) fl_X3_63 (by decide) (by decide) k4 rfl dX3_surround_84 rfl ?_
    refine x_goto 101 dX3_surround_87 (by decide) ?_
    obtain ⟨k5, ht⟩ := ht
    refine x_putI (pc2 := 104) (κ := 3) (k := 12) fl_X3_64 (by decide) (by decide) (Or.inl rfl) rfl k5 dX3_surround_101 rfl ?_
    exact x_retV rfl dX3_surround_104 ht
def T_X3_spread (G : GG) (d : Nat) (h : HP) (Q : Option Value → HP → Prop) (a0 : Nat) (x1 : Int32) (x2 : Int32) (x3 : Int32) (x4 : Int32) : Prop :=
  Kd G h a0 3 ∧ ∀ h2, h2 = (sI (sI (sI (sI (sI h a0 13 x1) a0 14 x2) a0 15 x3) a0 16 x4) a0 1 ((hI (sI (sI (sI (sI h a0 13 x1) a0 14 x2) a0 15 x3) a0 16 x4) a0 9) - x1)) → ∀ h5, h5 = (sI (sI h2 a0 2 ((hI h2 a0 10) - x2)) a0 3 ((hI (sI h2 a0 2 ((hI h2 a0 10) - x2)) a0 11) + x3)) → Q none (sI h5 a0 4 ((hI h5 a0 12) + x4))
set_option maxRecDepth 20000 in
theorem t_X3_spread {G : GG} {d : Nat} {h : HP} {Q : Option Value → HP → Prop} {a0 : Nat} {x1 : Int32} {x2 : Int32} {x3 : Int32} {x4 : Int32} (ht : T_X3_spread G d h Q a0 x1 x2 x3 x4) : Ex G d mX3_spread 0 [(0, .ref a0), (1, .int x1), (2, .int x2), (3, .int x3), (4, .int x4)] [] h Q := by
  unfold T_X3_spread at ht
  refine x_aload_n (pc2 := 1) 0 (n := 0) (x := a0) rfl dX3_spread_0 rfl ?_
  refine x_iload_n (pc2 := 2) 1 (n := 1) (x := x1) rfl dX3_spread_1 rfl ?_
  obtain ⟨k1, ht⟩ := ht
  refine x_putI (pc2 := 5) (κ := 3) (k := 13) fl_X3_67 (by decide) (by decide) (Or.inl rfl) rfl k1 dX3_spread_2 rfl ?_
  refine x_aload_n (pc2 := 6) 0 (n := 0) (x := a0) rfl dX3_spread_5 rfl ?_
  refine x_iload_n (pc2 := 7) 2 (n := 2) (x := x2) rfl dX3_spread_6 rfl ?_
  refine x_putI (pc2 := 10) (κ := 3) (k := 14) fl_X3_70 (by decide) (by decide) (Or.inl rfl) rfl k1.sI dX3_spread_7 rfl ?_
  refine x_aload_n (pc2 := 11) 0 (n := 0) (x := a0) rfl dX3_spread_10 rfl ?_
  refine x_iload_n (pc2 := 12) 3 (n := 3) (x := x3) rfl dX3_spread_11 rfl ?_
  refine x_putI (pc2 := 15) (κ := 3) (k := 15) fl_X3_73 (by decide) (by decide) (Or.inl rfl) rfl k1.sI.sI dX3_spread_12 rfl ?_
  refine x_aload_n (pc2 := 16) 0 (n := 0) (x := a0) rfl dX3_spread_15 rfl ?_
  refine x_iload (pc2 := 18) 4 (n := 4) (x := x4) rfl dX3_spread_16 rfl ?_
  refine x_putI (pc2 := 21) (κ := 3) (k := 16) fl_X3_76 (by decide) (by decide) (Or.inl rfl) rfl k1.sI.sI.sI dX3_spread_18 rfl ?_
  refine x_aload_n (pc2 := 22) 0 (n := 0) (x := a0) rfl dX3_spread_21 rfl ?_
  refine x_aload_n (pc2 := 23) 0 (n := 0) (x := a0) rfl dX3_spread_22 rfl ?_
  refine y_getI (pc2 := 26) (κ := 3) (k := 9) fl_X3_49 (by decide) (by decide) k1.sI.sI.sI.sI rfl dX3_spread_23 rfl ?_
  refine x_iload_n (pc2 := 27) 1 (n := 1) (x := x1) rfl dX3_spread_26 rfl ?_
  refine x_isub (pc2 := 28) dX3_spread_27 rfl ?_
  refine x_putI (pc2 := 31) (κ := 3) (k := 1) fl_X3_22 (by decide) (by decide) (Or.inl rfl) rfl k1.sI.sI.sI.sI dX3_spread_28 rfl ?_
  refine nm_I (fun h2 e3 p4 => ?_)
  replace ht := ht h2 e3
  refine x_aload_n (pc2 := 32) 0 (n := 0) (x := a0) rfl dX3_spread_31 rfl ?_
  refine x_aload_n (pc2 := 33) 0 (n := 0) (x := a0) rfl dX3_spread_32 rfl ?_
  refine y_getI (pc2 := 36) (κ := 3) (k := 10) fl_X3_53 (by decide) (by decide) (k1.sI.sI.sI.sI.up p4) rfl dX3_spread_33 rfl ?_
  refine x_iload_n (pc2 := 37) 2 (n := 2) (x := x2) rfl dX3_spread_36 rfl ?_
  refine x_isub (pc2 := 38) dX3_spread_37 rfl ?_
  refine x_putI (pc2 := 41) (κ := 3) (k := 2) fl_X3_25 (by decide) (by decide) (Or.inl rfl) rfl (k1.sI.sI.sI.sI.up p4) dX3_spread_38 rfl ?_
  refine x_aload_n (pc2 := 42) 0 (n := 0) (x := a0) rfl dX3_spread_41 rfl ?_
  refine x_aload_n (pc2 := 43) 0 (n := 0) (x := a0) rfl dX3_spread_42 rfl ?_
  refine y_getI (pc2 := 46) (κ := 3) (k := 11) fl_X3_60 (by decide) (by decide) (k1.sI.sI.sI.sI.up p4).sI rfl dX3_spread_43 rfl ?_
  refine x_iload_n (pc2 := 47) 3 (n := 3) (x := x3) rfl dX3_spread_46 rfl ?_
  refine x_iadd (pc2 := 48) dX3_spread_47 rfl ?_
  refine x_putI (pc2 := 51) (κ := 3) (k := 3) fl_X3_28 (by decide) (by decide) (Or.inl rfl) rfl (k1.sI.sI.sI.sI.up p4).sI dX3_spread_48 rfl ?_
  refine nm_I (fun h5 e6 p7 => ?_)
  replace ht := ht h5 e6
  refine x_aload_n (pc2 := 52) 0 (n := 0) (x := a0) rfl dX3_spread_51 rfl ?_
  refine x_aload_n (pc2 := 53) 0 (n := 0) (x := a0) rfl dX3_spread_52 rfl ?_
  refine y_getI (pc2 := 56) (κ := 3) (k := 12) fl_X3_64 (by decide) (by decide) ((k1.sI.sI.sI.sI.up p4).sI.up p7) rfl dX3_spread_53 rfl ?_
  refine x_iload (pc2 := 58) 4 (n := 4) (x := x4) rfl dX3_spread_56 rfl ?_
  refine x_iadd (pc2 := 59) dX3_spread_58 rfl ?_
  refine x_putI (pc2 := 62) (κ := 3) (k := 4) fl_X3_31 (by decide) (by decide) (Or.inl rfl) rfl ((k1.sI.sI.sI.sI.up p4).sI.up p7) dX3_spread_59 rfl ?_
  exact x_retV rfl dX3_spread_62 ht
theorem e_X3_spread {G : GG} {d : Nat} {h : HP} {Q : Option Value → HP → Prop} {a0 : Nat} {x1 : Int32} {x2 : Int32} {x3 : Int32} {x4 : Int32} (ht : T_X3_spread G d h Q a0 x1 x2 x3 x4) : Cal G d mX3_spread [.ref a0, .int x1, .int x2, .int x3, .int x4] h Q := cal_of rfl (Nat.le_of_ble_eq_true rfl) (t_X3_spread ht)
def T_X3_spreadBy (G : GG) (d : Nat) (h : HP) (Q : Option Value → HP → Prop) (a0 : Nat) (x1 : Int32) (x2 : Int32) : Prop :=
  ((x2 ≤ 0 → Q none h) ∧ (¬ x2 ≤ 0 → ¬ ((x2 * x2) * x2) = 0 ∧ ¬ x2 = 0 ∧ ¬ (x2 * x2) = 0 ∧ ¬ x2 = 0 ∧ ¬ x2 = 0 ∧ ¬ x2 = 0 ∧ ¬ x2 = 0 ∧ Kd G h a0 3 ∧ Cal G (d - 1) mX3_spread [.ref a0, .int (1 + (irm (x1 / ((x2 * x2) * x2)) x2)), .int (1 + (irm (x1 / (x2 * x2)) x2)), .int (1 + (irm (x1 / x2) x2)), .int (1 + (irm x1 x2))] h (fun r9 h10 => r9 = none ∧ Q none h10)))
set_option maxRecDepth 20000 in
theorem t_X3_spreadBy {G : GG} {d : Nat} {h : HP} {Q : Option Value → HP → Prop} {a0 : Nat} {x1 : Int32} {x2 : Int32} (hd1 : 1 ≤ d) (ht : T_X3_spreadBy G d h Q a0 x1 x2) : Ex G d mX3_spreadBy 0 [(0, .ref a0), (1, .int x1), (2, .int x2)] [] h Q := by
  unfold T_X3_spreadBy at ht
  refine x_iload_n (pc2 := 1) 2 (n := 2) (x := x2) rfl dX3_spreadBy_0 rfl ?_
  refine x_if_le (pc2 := 4) 40 dX3_spreadBy_1 (by decide) rfl (fun c1 => ?_) (fun c1 => ?_)
  · replace ht := ht.1 c1
    exact x_retV rfl dX3_spreadBy_40 ht
  · replace ht := ht.2 c1
    refine x_aload_n (pc2 := 5) 0 (n := 0) (x := a0) rfl dX3_spreadBy_4 rfl ?_
    refine x_iconst (pc2 := 6) (v := 1) (by decide) dX3_spreadBy_5 rfl ?_
    refine x_iload_n (pc2 := 7) 1 (n := 1) (x := x1) rfl dX3_spreadBy_6 rfl ?_
    refine x_iload_n (pc2 := 8) 2 (n := 2) (x := x2) rfl dX3_spreadBy_7 rfl ?_
    refine x_iload_n (pc2 := 9) 2 (n := 2) (x := x2) rfl dX3_spreadBy_8 rfl ?_
    refine x_imul (pc2 := 10) dX3_spreadBy_9 rfl ?_
    refine x_iload_n (pc2 := 11) 2 (n := 2) (x := x2) rfl dX3_spreadBy_10 rfl ?_
    refine x_imul (pc2 := 12) dX3_spreadBy_11 rfl ?_
    obtain ⟨n2, ht⟩ := ht
    refine x_idiv (pc2 := 13) n2 dX3_spreadBy_12 rfl ?_
    refine x_iload_n (pc2 := 14) 2 (n := 2) (x := x2) rfl dX3_spreadBy_13 rfl ?_
    obtain ⟨n3, ht⟩ := ht
    refine y_irem (pc2 := 15) n3 dX3_spreadBy_14 rfl ?_
    refine x_iadd (pc2 := 16) dX3_spreadBy_15 rfl ?_
    refine x_iconst (pc2 := 17) (v := 1) (by decide) dX3_spreadBy_16 rfl ?_
    refine x_iload_n (pc2 := 18) 1 (n := 1) (x := x1) rfl dX3_spreadBy_17 rfl ?_
    refine x_iload_n (pc2 := 19) 2 (n := 2) (x := x2) rfl dX3_spreadBy_18 rfl ?_
    refine x_iload_n (pc2 := 20) 2 (n := 2) (x := x2) rfl dX3_spreadBy_19 rfl ?_
    refine x_imul (pc2 := 21) dX3_spreadBy_20 rfl ?_
    obtain ⟨n4, ht⟩ := ht
    refine x_idiv (pc2 := 22) n4 dX3_spreadBy_21 rfl ?_
    refine x_iload_n (pc2 := 23) 2 (n := 2) (x := x2) rfl dX3_spreadBy_22 rfl ?_
    obtain ⟨n5, ht⟩ := ht
    refine y_irem (pc2 := 24) n5 dX3_spreadBy_23 rfl ?_
    refine x_iadd (pc2 := 25) dX3_spreadBy_24 rfl ?_
    refine x_iconst (pc2 := 26) (v := 1) (by decide) dX3_spreadBy_25 rfl ?_
    refine x_iload_n (pc2 := 27) 1 (n := 1) (x := x1) rfl dX3_spreadBy_26 rfl ?_
    refine x_iload_n (pc2 := 28) 2 (n := 2) (x := x2) rfl dX3_spreadBy_27 rfl ?_
    obtain ⟨n6, ht⟩ := ht
    refine x_idiv (pc2 := 29) n6 dX3_spreadBy_28 rfl ?_
    refine x_iload_n (pc2 := 30) 2 (n := 2) (x := x2) rfl dX3_spreadBy_29 rfl ?_
    obtain ⟨n7, ht⟩ := ht
    refine y_irem (pc2 := 31) n7 dX3_spreadBy_30 rfl ?_
    refine x_iadd (pc2 := 32) dX3_spreadBy_31 rfl ?_
    refine x_iconst (pc2 := 33) (v := 1) (by decide) dX3_spreadBy_32 rfl ?_
    refine x_iload_n (pc2 := 34) 1 (n := 1) (x := x1) rfl dX3_spreadBy_33 rfl ?_
    refine x_iload_n (pc2 := 35) 2 (n := 2) (x := x2) rfl dX3_spreadBy_34 rfl ?_
    obtain ⟨n8, ht⟩ := ht
    refine y_irem (pc2 := 36) n8 dX3_spreadBy_35 rfl ?_
    refine x_iadd (pc2 := 37) dX3_spreadBy_36 rfl ?_
    obtain ⟨k12, ht⟩ := ht
    refine x_callV (pc2 := 40) (As := [.int (1 + (irm (x1 / ((x2 * x2) * x2)) x2)), .int (1 + (irm (x1 / (x2 * x2)) x2)), .int (1 + (irm (x1 / x2) x2)), .int (1 + (irm x1 x2))]) (rest := []) (b := a0) mv_X3_spread ml_X3_79 k12 rfl rfl (Nat.le_of_ble_eq_true rfl) hd1 dX3_spreadBy_37 rfl (ht.mono (fun r9 h10 p11 ht' => ?_))
    clear ht
    obtain ⟨rfl, ht⟩ := ht'
    show Ex G d mX3_spreadBy 40 [(0, .ref a0), (1, .int x1), (2, .int x2)] [] h10 Q
    exact x_retV rfl dX3_spreadBy_40 ht
theorem e_X3_spreadBy {G : GG} {d : Nat} {h : HP} {Q : Option Value → HP → Prop} {a0 : Nat} {x1 : Int32} {x2 : Int32} (hd1 : 1 ≤ d) (ht : T_X3_spreadBy G d h Q a0 x1 x2) : Cal G d mX3_spreadBy [.ref a0, .int x1, .int x2] h Q := cal_of rfl (Nat.le_of_ble_eq_true rfl) (t_X3_spreadBy hd1 ht)
def T_X3_area (G : GG) (d : Nat) (h : HP) (Q : Option Value → HP → Prop) (a0 : Nat) : Prop :=
  Kd G h a0 3 ∧ Q (some (.int (((hI h a0 3) - (hI h a0 1)) * ((hI h a0 4) - (hI h a0 2))))) h
set_option maxRecDepth 20000 in
theorem t_X3_area {G : GG} {d : Nat} {h : HP} {Q : Option Value → HP → Prop} {a0 : Nat} (ht : T_X3_area G d h Q a0) : Ex G d mX3_area 0 [(0, .ref a0)] [] h Q := by
  unfold T_X3_area at ht
  refine x_aload_n (pc2 := 1) 0 (n := 0) (x := a0) rfl dX3_area_0 rfl ?_
  obtain ⟨k1, ht⟩ := ht
  refine y_getI (pc2 := 4) (κ := 3) (k := 3) fl_X3_28 (by decide) (by decide) k1 rfl dX3_area_1 rfl ?_
  refine x_aload_n (pc2 := 5) 0 (n := 0) (x := a0) rfl dX3_area_4 rfl ?_
  refine y_getI (pc2 := 8) (κ := 3) (k := 1) fl_X3_22 (by decide) (by decide) k1 rfl dX3_area_5 rfl ?_
  refine x_isub (pc2 := 9) dX3_area_8 rfl ?_
  refine x_aload_n (pc2 := 10) 0 (n := 0) (x := a0) rfl dX3_area_9 rfl ?_
  refine y_getI (pc2 := 13) (κ := 3) (k := 4) fl_X3_31 (by decide) (by decide) k1 rfl dX3_area_10 rfl ?_
  refine x_aload_n (pc2 := 14) 0 (n := 0) (x := a0) rfl dX3_area_13 rfl ?_
  refine y_getI (pc2 := 17) (κ := 3) (k := 2) fl_X3_25 (by decide) (by decide) k1 rfl dX3_area_14 rfl ?_
  refine x_isub (pc2 := 18) dX3_area_17 rfl ?_
  refine x_imul (pc2 := 19) dX3_area_18 rfl ?_
  exact x_ret (ty := .int) rfl rfl dX3_area_19 ht
theorem e_X3_area {G : GG} {d : Nat} {h : HP} {Q : Option Value → HP → Prop} {a0 : Nat} (ht : T_X3_area G d h Q a0) : Cal G d mX3_area [.ref a0] h Q := cal_of rfl (Nat.le_of_ble_eq_true rfl) (t_X3_area ht)
def T_X3_line (G : GG) (d : Nat) (h : HP) (Q : Option Value → HP → Prop) (a0 : Nat) : Prop :=
  Kd G h a0 3 ∧ Q (some (.int (2 * ((((hI h a0 3) - (hI h a0 1)) + (hI h a0 4)) - (hI h a0 2))))) h
set_option maxRecDepth 20000 in
theorem t_X3_line {G : GG} {d : Nat} {h : HP} {Q : Option Value → HP → Prop} {a0 : Nat} (ht : T_X3_line G d h Q a0) : Ex G d mX3_line 0 [(0, .ref a0)] [] h Q := by
  unfold T_X3_line at ht
  refine x_iconst (pc2 := 1) (v := 2) (by decide) dX3_line_0 rfl ?_
  refine x_aload_n (pc2 := 2) 0 (n := 0) (x := a0) rfl dX3_line_1 rfl ?_
  obtain ⟨k1, ht⟩ := ht
  refine y_getI (pc2 := 5) (κ := 3) (k := 3) fl_X3_28 (by decide) (by decide) k1 rfl dX3_line_2 rfl ?_
  refine x_aload_n (pc2 := 6) 0 (n := 0) (x := a0) rfl dX3_line_5 rfl ?_
  refine y_getI (pc2 := 9) (κ := 3) (k := 1) fl_X3_22 (by decide) (by decide) k1 rfl dX3_line_6 rfl ?_
  refine x_isub (pc2 := 10) dX3_line_9 rfl ?_
  refine x_aload_n (pc2 := 11) 0 (n := 0) (x := a0) rfl dX3_line_10 rfl ?_
  refine y_getI (pc2 := 14) (κ := 3) (k := 4) fl_X3_31 (by decide) (by decide) k1 rfl dX3_line_11 rfl ?_
  refine x_iadd (pc2 := 15) dX3_line_14 rfl ?_
  refine x_aload_n (pc2 := 16) 0 (n := 0) (x := a0) rfl dX3_line_15 rfl ?_
  refine y_getI (pc2 := 19) (κ := 3) (k := 2) fl_X3_25 (by decide) (by decide) k1 rfl dX3_line_16 rfl ?_
  refine x_isub (pc2 := 20) dX3_line_19 rfl ?_
  refine x_imul (pc2 := 21) dX3_line_20 rfl ?_
  exact x_ret (ty := .int) rfl rfl dX3_line_21 ht
theorem e_X3_line {G : GG} {d : Nat} {h : HP} {Q : Option Value → HP → Prop} {a0 : Nat} (ht : T_X3_line G d h Q a0) : Cal G d mX3_line [.ref a0] h Q := cal_of rfl (Nat.le_of_ble_eq_true rfl) (t_X3_line ht)
def T_X3_gapTo (G : GG) (d : Nat) (h : HP) (Q : Option Value → HP → Prop) (a0 : Nat) (a1 : Nat) : Prop :=
  Kd G h a1 9 ∧ Kd G h a0 3 ∧ Q (some (.int (mnI (mnI ((hI h a1 1) - (hI h a0 1)) ((hI h a1 2) - (hI h a0 2))) (mnI ((hI h a0 3) - (hI h a1 3)) ((hI h a0 4) - (hI h a1 4)))))) h
set_option maxRecDepth 20000 in
theorem t_X3_gapTo {G : GG} {d : Nat} {h : HP} {Q : Option Value → HP → Prop} {a0 : Nat} {a1 : Nat} (hd1 : 1 ≤ d) (ht : T_X3_gapTo G d h Q a0 a1) : Ex G d mX3_gapTo 0 [(0, .ref a0), (1, .ref a1)] [] h Q := by
  unfold T_X3_gapTo at ht
  refine x_aload_n (pc2 := 1) 1 (n := 1) (x := a1) rfl dX3_gapTo_0 rfl ?_
  obtain ⟨k1, ht⟩ := ht
  refine y_getI (pc2 := 4) (κ := 9) (k := 1) fl_X3_40 (by decide) (by decide) k1 rfl dX3_gapTo_1 rfl ?_
  refine x_aload_n (pc2 := 5) 0 (n := 0) (x := a0) rfl dX3_gapTo_4 rfl ?_
  obtain ⟨k2, ht⟩ := ht
  refine y_getI (pc2 := 8) (κ := 3) (k := 1) fl_X3_22 (by decide) (by decide) k2 rfl dX3_gapTo_5 rfl ?_
  refine x_isub (pc2 := 9) dX3_gapTo_8 rfl ?_
  refine x_aload_n (pc2 := 10) 1 (n := 1) (x := a1) rfl dX3_gapTo_9 rfl ?_
  refine y_getI (pc2 := 13) (κ := 9) (k := 2) fl_X3_52 (by decide) (by decide) k1 rfl dX3_gapTo_10 rfl ?_
  refine x_aload_n (pc2 := 14) 0 (n := 0) (x := a0) rfl dX3_gapTo_13 rfl ?_
  refine y_getI (pc2 := 17) (κ := 3) (k := 2) fl_X3_25 (by decide) (by decide) k2 rfl dX3_gapTo_14 rfl ?_
  refine x_isub (pc2 := 18) dX3_gapTo_17 rfl ?_
  refine x_mmin (pc2 := 21) ml_X3_43 hd1 (Nat.le_of_ble_eq_true rfl) dX3_gapTo_18 rfl ?_
  refine x_aload_n (pc2 := 22) 0 (n := 0) (x := a0) rfl dX3_gapTo_21 rfl ?_
  refine y_getI (pc2 := 25) (κ := 3) (k := 3) fl_X3_28 (by decide) (by decide) k2 rfl dX3_gapTo_22 rfl ?_
  refine x_aload_n (pc2 := 26) 1 (n := 1) (x := a1) rfl dX3_gapTo_25 rfl ?_
  refine y_getI (pc2 := 29) (κ := 9) (k := 3) fl_X3_56 (by decide) (by decide) k1 rfl dX3_gapTo_26 rfl ?_
  refine x_isub (pc2 := 30) dX3_gapTo_29 rfl ?_
  refine x_aload_n (pc2 := 31) 0 (n := 0) (x := a0) rfl dX3_gapTo_30 rfl ?_
  refine y_getI (pc2 := 34) (κ := 3) (k := 4) fl_X3_31 (by decide) (by decide) k2 rfl dX3_gapTo_31 rfl ?_
  refine x_aload_n (pc2 := 35) 1 (n := 1) (x := a1) rfl dX3_gapTo_34 rfl ?_
  refine y_getI (pc2 := 38) (κ := 9) (k := 4) fl_X3_63 (by decide) (by decide) k1 rfl dX3_gapTo_35 rfl ?_
  refine x_isub (pc2 := 39) dX3_gapTo_38 rfl ?_
  refine x_mmin (pc2 := 42) ml_X3_43 hd1 (Nat.le_of_ble_eq_true rfl) dX3_gapTo_39 rfl ?_
  refine x_mmin (pc2 := 45) ml_X3_43 hd1 (Nat.le_of_ble_eq_true rfl) dX3_gapTo_42 rfl ?_
  exact x_ret (ty := .int) rfl rfl dX3_gapTo_45 ht
theorem e_X3_gapTo {G : GG} {d : Nat} {h : HP} {Q : Option Value → HP → Prop} {a0 : Nat} {a1 : Nat} (hd1 : 1 ≤ d) (ht : T_X3_gapTo G d h Q a0 a1) : Cal G d mX3_gapTo [.ref a0, .ref a1] h Q := cal_of rfl (Nat.le_of_ble_eq_true rfl) (t_X3_gapTo hd1 ht)
def T_X3_isClearOf (G : GG) (d : Nat) (h : HP) (Q : Option Value → HP → Prop) (a0 : Nat) (a1 : Nat) : Prop :=
  Kd G h a0 3 ∧ Kd G h a1 9 ∧ Cal G (d - 1) mX3_areClear [.int (hI h a0 1), .int (hI h a0 3), .int (hI h a1 1), .int (hI h a1 3)] h (fun r3 h4 => ∃ v6, r3 = some (.int v6) ∧ ((¬ v6 = 0 → Q (some (.int 1)) h4) ∧ (v6 = 0 → Cal G (d - 1) mX3_areClear [.int (hI h4 a0 2), .int (hI h4 a0 4), .int (hI h4 a1 2), .int (hI h4 a1 4)] h4 (fun r8 h9 => ∃ v11, r8 = some (.int v11) ∧ ((v11 = 0 → Q (some (.int 0)) h9) ∧ (¬ v11 = 0 → Q (some (.int 1)) h9))))))
set_option maxRecDepth 20000 in
theorem t_X3_isClearOf {G : GG} {d : Nat} {h : HP} {Q : Option Value → HP → Prop} {a0 : Nat} {a1 : Nat} (hd1 : 1 ≤ d) (ht : T_X3_isClearOf G d h Q a0 a1) : Ex G d mX3_isClearOf 0 [(0, .ref a0), (1, .ref a1)] [] h Q := by
  unfold T_X3_isClearOf at ht
  refine x_aload_n (pc2 := 1) 0 (n := 0) (x := a0) rfl dX3_isClearOf_0 rfl ?_
  obtain ⟨k1, ht⟩ := ht
  refine y_getI (pc2 := 4) (κ := 3) (k := 1) fl_X3_22 (by decide) (by decide) k1 rfl dX3_isClearOf_1 rfl ?_
  refine x_aload_n (pc2 := 5) 0 (n := 0) (x := a0) rfl dX3_isClearOf_4 rfl ?_
  refine y_getI (pc2 := 8) (κ := 3) (k := 3) fl_X3_28 (by decide) (by decide) k1 rfl dX3_isClearOf_5 rfl ?_
  refine x_aload_n (pc2 := 9) 1 (n := 1) (x := a1) rfl dX3_isClearOf_8 rfl ?_
  obtain ⟨k2, ht⟩ := ht
  refine y_getI (pc2 := 12) (κ := 9) (k := 1) fl_X3_40 (by decide) (by decide) k2 rfl dX3_isClearOf_9 rfl ?_
  refine x_aload_n (pc2 := 13) 1 (n := 1) (x := a1) rfl dX3_isClearOf_12 rfl ?_
  refine y_getI (pc2 := 16) (κ := 9) (k := 3) fl_X3_56 (by decide) (by decide) k2 rfl dX3_isClearOf_13 rfl ?_
  refine x_callS (pc2 := 19) (As := [.int (hI h a0 1), .int (hI h a0 3), .int (hI h a1 1), .int (hI h a1 3)]) (rest := []) ms_X3_areClear ml_X3_83 rfl rfl (Nat.le_of_ble_eq_true rfl) hd1 dX3_isClearOf_16 rfl (ht.mono (fun r3 h4 p5 ht' => ?_))
  clear ht
  obtain ⟨v6, rfl, ht⟩ := ht'
  show Ex G d mX3_isClearOf 19 [(0, .ref a0), (1, .ref a1)] [.int v6] h4 Q
  refine y_if_ne (pc2 := 22) 44 dX3_isClearOf_19 (by decide) rfl (fun c7 => ?_) (fun c7 => ?_)
  · replace ht := ht.1 c7
    refine x_iconst (pc2 := 45) (v := 1) (by decide) dX3_isClearOf_44 rfl ?_
    refine x_goto 49 dX3_isClearOf_45 (by decide) ?_
    exact x_retZ rfl (Or.inr rfl) dX3_isClearOf_49 ht
  · replace ht := ht.2 c7
    refine x_aload_n (pc2 := 23) 0 (n := 0) (x := a0) rfl dX3_isClearOf_22 rfl ?_
    refine y_getI (pc2 := 26) (κ := 3) (k := 2) fl_X3_25 (by decide) (by decide) (k1.up p5) rfl dX3_isClearOf_23 rfl ?_
    refine x_aload_n (pc2 := 27) 0 (n := 0) (x := a0) rfl dX3_isClearOf_26 rfl ?_
    refine y_getI (pc2 := 30) (κ := 3) (k := 4) fl_X3_31 (by decide) (by decide) (k1.up p5) rfl dX3_isClearOf_27 rfl ?_
    refine x_aload_n (pc2 := 31) 1 (n := 1) (x := a1) rfl dX3_isClearOf_30 rfl ?_
    refine y_getI (pc2 := 34) (κ := 9) (k := 2) fl_X3_52 (by decide) (by decide) (k2.up p5) rfl dX3_isClearOf_31 rfl ?_
    refine x_aload_n (pc2 := 35) 1 (n := 1) (x := a1) rfl dX3_isClearOf_34 rfl ?_
    refine y_getI (pc2 := 38) (κ := 9) (k := 4) fl_X3_63 (by decide) (by decide) (k2.up p5) rfl dX3_isClearOf_35 rfl ?_
    refine x_callS (pc2 := 41) (As := [.int (hI h4 a0 2), .int (hI h4 a0 4), .int (hI h4 a1 2), .int (hI h4 a1 4)]) (rest := []) ms_X3_areClear ml_X3_83 rfl rfl (Nat.le_of_ble_eq_true rfl) hd1 dX3_isClearOf_38 rfl (ht.mono (fun r8 h9 p10 ht' => ?_))
    clear ht
    obtain ⟨v11, rfl, ht⟩ := ht'
    show Ex G d mX3_isClearOf 41 [(0, .ref a0), (1, .ref a1)] [.int v11] h9 Q
    refine x_if_eq (pc2 := 44) 48 dX3_isClearOf_41 (by decide) rfl (fun c12 => ?_) (fun c12 => ?_)
    · replace ht := ht.1 c12
      refine x_iconst (pc2 := 49) (v := 0) (by decide) dX3_isClearOf_48 rfl ?_
      exact x_retZ rfl (Or.inl rfl) dX3_isClearOf_49 ht
    · replace ht := ht.2 c12
      refine x_iconst (pc2 := 45) (v := 1) (by decide) dX3_isClearOf_44 rfl ?_
      refine x_goto 49 dX3_isClearOf_45 (by decide) ?_
      exact x_retZ rfl (Or.inr rfl) dX3_isClearOf_49 ht
theorem e_X3_isClearOf {G : GG} {d : Nat} {h : HP} {Q : Option Value → HP → Prop} {a0 : Nat} {a1 : Nat} (hd1 : 1 ≤ d) (ht : T_X3_isClearOf G d h Q a0 a1) : Cal G d mX3_isClearOf [.ref a0, .ref a1] h Q := cal_of rfl (Nat.le_of_ble_eq_true rfl) (t_X3_isClearOf hd1 ht)
def T_X3_areClear (G : GG) (d : Nat) (h : HP) (Q : Option Value → HP → Prop) (x0 : Int32) (x1 : Int32) (x2 : Int32) (x3 : Int32) : Prop :=
  (((x1 + 1) ≤ x2 → Q (some (.int 1)) h) ∧ (¬ (x1 + 1) ≤ x2 → ((x0 < (x3 + 1) → Q (some (.int 0)) h) ∧ (¬ x0 < (x3 + 1) → Q (some (.int 1)) h))))
set_option maxRecDepth 20000 in
theorem t_X3_areClear {G : GG} {d : Nat} {h : HP} {Q : Option Value → HP → Prop} {x0 : Int32} {x1 : Int32} {x2 : Int32} {x3 : Int32} (ht : T_X3_areClear G d h Q x0 x1 x2 x3) : Ex G d mX3_areClear 0 [(0, .int x0), (1, .int x1), (2, .int x2), (3, .int x3)] [] h Q := by
  unfold T_X3_areClear at ht
  refine x_iload_n (pc2 := 1) 1 (n := 1) (x := x1) rfl dX3_areClear_0 rfl ?_
  refine x_iconst (pc2 := 2) (v := 1) (by decide) dX3_areClear_1 rfl ?_
  refine x_iadd (pc2 := 3) dX3_areClear_2 rfl ?_
  refine x_iload_n (pc2 := 4) 2 (n := 2) (x := x2) rfl dX3_areClear_3 rfl ?_
  refine x_icmp_le (pc2 := 7) 14 dX3_areClear_4 (by decide) rfl (fun c1 => ?_) (fun c1 => ?_)
  · replace ht := ht.1 c1
    refine x_iconst (pc2 := 15) (v := 1) (by decide) dX3_areClear_14 rfl ?_
    refine x_goto 19 dX3_areClear_15 (by decide) ?_
    exact x_retZ rfl (Or.inr rfl) dX3_areClear_19 ht
  · replace ht := ht.2 c1
    refine x_iload_n (pc2 := 8) 3 (n := 3) (x := x3) rfl dX3_areClear_7 rfl ?_
    refine x_iconst (pc2 := 9) (v := 1) (by decide) dX3_areClear_8 rfl ?_
    refine x_iadd (pc2 := 10) dX3_areClear_9 rfl ?_
    refine x_iload_n (pc2 := 11) 0 (n := 0) (x := x0) rfl dX3_areClear_10 rfl ?_
    refine x_icmp_gt (pc2 := 14) 18 dX3_areClear_11 (by decide) rfl (fun c2 => ?_) (fun c2 => ?_)
    · replace ht := ht.1 c2
      refine x_iconst (pc2 := 19) (v := 0) (by decide) dX3_areClear_18 rfl ?_
      exact x_retZ rfl (Or.inl rfl) dX3_areClear_19 ht
    · replace ht := ht.2 c2
      refine x_iconst (pc2 := 15) (v := 1) (by decide) dX3_areClear_14 rfl ?_
      refine x_goto 19 dX3_areClear_15 (by decide) ?_
      exact x_retZ rfl (Or.inr rfl) dX3_areClear_19 ht
theorem e_X3_areClear {G : GG} {d : Nat} {h : HP} {Q : Option Value → HP → Prop} {x0 : Int32} {x1 : Int32} {x2 : Int32} {x3 : Int32} (ht : T_X3_areClear G d h Q x0 x1 x2 x3) : Cal G d mX3_areClear [.int x0, .int x1, .int x2, .int x3] h Q := cal_of rfl (Nat.le_of_ble_eq_true rfl) (t_X3_areClear ht)
def T_X9_init (G : GG) (d : Nat) (h : HP) (Q : Option Value → HP → Prop) (a0 : Nat) : Prop :=
  Kd G h a0 9 ∧ Q none (sI (sI (sI h a0 5 (-1)) a0 6 (-1)) a0 8 (-1))
set_option maxRecDepth 20000 in
theorem t_X9_init {G : GG} {d : Nat} {h : HP} {Q : Option Value → HP → Prop} {a0 : Nat} (hd1 : 1 ≤ d) (ht : T_X9_init G d h Q a0) : Ex G d mX9_init 0 [(0, .ref a0)] [] h Q := by
  unfold T_X9_init at ht
  refine x_aload_n (pc2 := 1) 0 (n := 0) (x := a0) rfl dX9_init_0 rfl ?_
  refine x_objInit (pc2 := 4) ml_X9_3 hd1 (Nat.le_of_ble_eq_true rfl) dX9_init_1 rfl ?_
  refine x_aload_n (pc2 := 5) 0 (n := 0) (x := a0) rfl dX9_init_4 rfl ?_
  refine x_iconst (pc2 := 6) (v := (-1)) (by decide) dX9_init_5 rfl ?_
  obtain ⟨k1, ht⟩ := ht
  refine x_putI (pc2 := 9) (κ := 9) (k := 5) fl_X9_9 (by decide) (by decide) (Or.inl rfl) rfl k1 dX9_init_6 rfl ?_
  refine x_aload_n (pc2 := 10) 0 (n := 0) (x := a0) rfl dX9_init_9 rfl ?_
  refine x_iconst (pc2 := 11) (v := (-1)) (by decide) dX9_init_10 rfl ?_
  refine x_putI (pc2 := 14) (κ := 9) (k := 6) fl_X9_15 (by decide) (by decide) (Or.inl rfl) rfl k1.sI dX9_init_11 rfl ?_
  refine x_aload_n (pc2 := 15) 0 (n := 0) (x := a0) rfl dX9_init_14 rfl ?_
  refine x_iconst (pc2 := 16) (v := (-1)) (by decide) dX9_init_15 rfl ?_
  refine x_putI (pc2 := 19) (κ := 9) (k := 8) fl_X9_18 (by decide) (by decide) (Or.inl rfl) rfl k1.sI.sI dX9_init_16 rfl ?_
  exact x_retV rfl dX9_init_19 ht
theorem e_X9_init {G : GG} {d : Nat} {h : HP} {Q : Option Value → HP → Prop} {a0 : Nat} (hd1 : 1 ≤ d) (ht : T_X9_init G d h Q a0) : Cal G d mX9_init [.ref a0] h Q := cal_of rfl (Nat.le_of_ble_eq_true rfl) (t_X9_init hd1 ht)
def T_X9_copyFrom (G : GG) (d : Nat) (h : HP) (Q : Option Value → HP → Prop) (a0 : Nat) (a1 : Nat) : Prop :=
  Kd G h a1 9 ∧ ((hI h a1 0) = 0 ∨ (hI h a1 0) = 1) ∧ Kd G h a0 9 ∧ ∀ h4, h4 = (sI (sI (sI h a0 0 (hI h a1 0)) a0 1 (hI (sI h a0 0 (hI h a1 0)) a1 1)) a0 2 (hI (sI (sI h a0 0 (hI h a1 0)) a0 1 (hI (sI h a0 0 (hI h a1 0)) a1 1)) a1 2)) → ∀ h7, h7 = (sI (sI (sI h4 a0 3 (hI h4 a1 3)) a0 4 (hI (sI h4 a0 3 (hI h4 a1 3)) a1 4)) a0 5 (hI (sI (sI h4 a0 3 (hI h4 a1 3)) a0 4 (hI (sI h4 a0 3 (hI h4 a1 3)) a1 4)) a1 5)) → ∀ h10, h10 = (sI (sI (sI h7 a0 6 (hI h7 a1 6)) a0 7 (hI (sI h7 a0 6 (hI h7 a1 6)) a1 7)) a0 8 (hI (sI (sI h7 a0 6 (hI h7 a1 6)) a0 7 (hI (sI h7 a0 6 (hI h7 a1 6)) a1 7)) a1 8)) → ∀ h13, h13 = (sI (sI (sI h10 a0 9 (hI h10 a1 9)) a0 10 (hI (sI h10 a0 9 (hI h10 a1 9)) a1 10)) a0 11 (hI (sI (sI h10 a0 9 (hI h10 a1 9)) a0 10 (hI (sI h10 a0 9 (hI h10 a1 9)) a1 10)) a1 11)) → Q none h13
set_option maxRecDepth 20000 in
theorem t_X9_copyFrom {G : GG} {d : Nat} {h : HP} {Q : Option Value → HP → Prop} {a0 : Nat} {a1 : Nat} (ht : T_X9_copyFrom G d h Q a0 a1) : Ex G d mX9_copyFrom 0 [(0, .ref a0), (1, .ref a1)] [] h Q := by
  unfold T_X9_copyFrom at ht
  refine x_aload_n (pc2 := 1) 0 (n := 0) (x := a0) rfl dX9_copyFrom_0 rfl ?_
  refine x_aload_n (pc2 := 2) 1 (n := 1) (x := a1) rfl dX9_copyFrom_1 rfl ?_
  obtain ⟨k1, ht⟩ := ht
  refine y_getI (pc2 := 5) (κ := 9) (k := 0) fl_X9_21 (by decide) (by decide) k1 rfl dX9_copyFrom_2 rfl ?_
  obtain ⟨z2, ht⟩ := ht
  obtain ⟨k3, ht⟩ := ht
  refine x_putZ (pc2 := 8) (κ := 9) (k := 0) z2 fl_X9_21 (by decide) (by decide) (Or.inl rfl) rfl k3 dX9_copyFrom_5 rfl ?_
  refine x_aload_n (pc2 := 9) 0 (n := 0) (x := a0) rfl dX9_copyFrom_8 rfl ?_
  refine x_aload_n (pc2 := 10) 1 (n := 1) (x := a1) rfl dX9_copyFrom_9 rfl ?_
  refine y_getI (pc2 := 13) (κ := 9) (k := 1) fl_X9_25 (by decide) (by decide) k1.sI rfl dX9_copyFrom_10 rfl ?_
  refine x_putI (pc2 := 16) (κ := 9) (k := 1) fl_X9_25 (by decide) (by decide) (Or.inl rfl) rfl k3.sI dX9_copyFrom_13 rfl ?_
  refine x_aload_n (pc2 := 17) 0 (n := 0) (x := a0) rfl dX9_copyFrom_16 rfl ?_
  refine x_aload_n (pc2 := 18) 1 (n := 1) (x := a1) rfl dX9_copyFrom_17 rfl ?_
  refine y_getI (pc2 := 21) (κ := 9) (k := 2) fl_X9_28 (by decide) (by decide) k1.sI.sI rfl dX9_copyFrom_18 rfl ?_
  refine x_putI (pc2 := 24) (κ := 9) (k := 2) fl_X9_28 (by decide) (by decide) (Or.inl rfl) rfl k3.sI.sI dX9_copyFrom_21 rfl ?_
  refine nm_I (fun h4 e5 p6 => ?_)
  replace ht := ht h4 e5
  refine x_aload_n (pc2 := 25) 0 (n := 0) (x := a0) rfl dX9_copyFrom_24 rfl ?_
  refine x_aload_n (pc2 := 26) 1 (n := 1) (x := a1) rfl dX9_copyFrom_25 rfl ?_
  refine y_getI (pc2 := 29) (κ := 9) (k := 3) fl_X9_31 (by decide) (by decide) (k1.sI.sI.up p6) rfl dX9_copyFrom_26 rfl ?_
  refine x_putI (pc2 := 32) (κ := 9) (k := 3) fl_X9_31 (by decide) (by decide) (Or.inl rfl) rfl (k3.sI.sI.up p6) dX9_copyFrom_29 rfl ?_
  refine x_aload_n (pc2 := 33) 0 (n := 0) (x := a0) rfl dX9_copyFrom_32 rfl ?_
  refine x_aload_n (pc2 := 34) 1 (n := 1) (x := a1) rfl dX9_copyFrom_33 rfl ?_
  refine y_getI (pc2 := 37) (κ := 9) (k := 4) fl_X9_34 (by decide) (by decide) (k1.sI.sI.up p6).sI rfl dX9_copyFrom_34 rfl ?_
  refine x_putI (pc2 := 40) (κ := 9) (k := 4) fl_X9_34 (by decide) (by decide) (Or.inl rfl) rfl (k3.sI.sI.up p6).sI dX9_copyFrom_37 rfl ?_
  refine x_aload_n (pc2 := 41) 0 (n := 0) (x := a0) rfl dX9_copyFrom_40 rfl ?_
  refine x_aload_n (pc2 := 42) 1 (n := 1) (x := a1) rfl dX9_copyFrom_41 rfl ?_
  refine y_getI (pc2 := 45) (κ := 9) (k := 5) fl_X9_9 (by decide) (by decide) (k1.sI.sI.up p6).sI.sI rfl dX9_copyFrom_42 rfl ?_
  refine x_putI (pc2 := 48) (κ := 9) (k := 5) fl_X9_9 (by decide) (by decide) (Or.inl rfl) rfl (k3.sI.sI.up p6).sI.sI dX9_copyFrom_45 rfl ?_
  refine nm_I (fun h7 e8 p9 => ?_)
  replace ht := ht h7 e8
  refine x_aload_n (pc2 := 49) 0 (n := 0) (x := a0) rfl dX9_copyFrom_48 rfl ?_
  refine x_aload_n (pc2 := 50) 1 (n := 1) (x := a1) rfl dX9_copyFrom_49 rfl ?_
  refine y_getI (pc2 := 53) (κ := 9) (k := 6) fl_X9_15 (by decide) (by decide) ((k1.sI.sI.up p6).sI.sI.up p9) rfl dX9_copyFrom_50 rfl ?_
  refine x_putI (pc2 := 56) (κ := 9) (k := 6) fl_X9_15 (by decide) (by decide) (Or.inl rfl) rfl ((k3.sI.sI.up p6).sI.sI.up p9) dX9_copyFrom_53 rfl ?_
  refine x_aload_n (pc2 := 57) 0 (n := 0) (x := a0) rfl dX9_copyFrom_56 rfl ?_
  refine x_aload_n (pc2 := 58) 1 (n := 1) (x := a1) rfl dX9_copyFrom_57 rfl ?_
  refine y_getI (pc2 := 61) (κ := 9) (k := 7) fl_X9_37 (by decide) (by decide) ((k1.sI.sI.up p6).sI.sI.up p9).sI rfl dX9_copyFrom_58 rfl ?_
  refine x_putI (pc2 := 64) (κ := 9) (k := 7) fl_X9_37 (by decide) (by decide) (Or.inl rfl) rfl ((k3.sI.sI.up p6).sI.sI.up p9).sI dX9_copyFrom_61 rfl ?_
  refine x_aload_n (pc2 := 65) 0 (n := 0) (x := a0) rfl dX9_copyFrom_64 rfl ?_
  refine x_aload_n (pc2 := 66) 1 (n := 1) (x := a1) rfl dX9_copyFrom_65 rfl ?_
  refine y_getI (pc2 := 69) (κ := 9) (k := 8) fl_X9_18 (by decide) (by decide) ((k1.sI.sI.up p6).sI.sI.up p9).sI.sI rfl dX9_copyFrom_66 rfl ?_
  refine x_putI (pc2 := 72) (κ := 9) (k := 8) fl_X9_18 (by decide) (by decide) (Or.inl rfl) rfl ((k3.sI.sI.up p6).sI.sI.up p9).sI.sI dX9_copyFrom_69 rfl ?_
  refine nm_I (fun h10 e11 p12 => ?_)
  replace ht := ht h10 e11
  refine x_aload_n (pc2 := 73) 0 (n := 0) (x := a0) rfl dX9_copyFrom_72 rfl ?_
  refine x_aload_n (pc2 := 74) 1 (n := 1) (x := a1) rfl dX9_copyFrom_73 rfl ?_
  refine y_getI (pc2 := 77) (κ := 9) (k := 9) fl_X9_40 (by decide) (by decide) (((k1.sI.sI.up p6).sI.sI.up p9).sI.sI.up p12) rfl dX9_copyFrom_74 rfl ?_
  refine x_putI (pc2 := 80) (κ := 9) (k := 9) fl_X9_40 (by decide) (by decide) (Or.inl rfl) rfl (((k3.sI.sI.up p6).sI.sI.up p9).sI.sI.up p12) dX9_copyFrom_77 rfl ?_
  refine x_aload_n (pc2 := 81) 0 (n := 0) (x := a0) rfl dX9_copyFrom_80 rfl ?_
  refine x_aload_n (pc2 := 82) 1 (n := 1) (x := a1) rfl dX9_copyFrom_81 rfl ?_
  refine y_getI (pc2 := 85) (κ := 9) (k := 10) fl_X9_43 (by decide) (by decide) (((k1.sI.sI.up p6).sI.sI.up p9).sI.sI.up p12).sI rfl dX9_copyFrom_82 rfl ?_
  refine x_putI (pc2 := 88) (κ := 9) (k := 10) fl_X9_43 (by decide) (by decide) (Or.inl rfl) rfl (((k3.sI.sI.up p6).sI.sI.up p9).sI.sI.up p12).sI dX9_copyFrom_85 rfl ?_
  refine x_aload_n (pc2 := 89) 0 (n := 0) (x := a0) rfl dX9_copyFrom_88 rfl ?_
  refine x_aload_n (pc2 := 90) 1 (n := 1) (x := a1) rfl dX9_copyFrom_89 rfl ?_
  refine y_getI (pc2 := 93) (κ := 9) (k := 11) fl_X9_46 (by decide) (by decide) (((k1.sI.sI.up p6).sI.sI.up p9).sI.sI.up p12).sI.sI rfl dX9_copyFrom_90 rfl ?_
  refine x_putI (pc2 := 96) (κ := 9) (k := 11) fl_X9_46 (by decide) (by decide) (Or.inl rfl) rfl (((k3.sI.sI.up p6).sI.sI.up p9).sI.sI.up p12).sI.sI dX9_copyFrom_93 rfl ?_
  refine nm_I (fun h13 e14 p15 => ?_)
  replace ht := ht h13 e14
  exact x_retV rfl dX9_copyFrom_96 ht
theorem e_X9_copyFrom {G : GG} {d : Nat} {h : HP} {Q : Option Value → HP → Prop} {a0 : Nat} {a1 : Nat} (ht : T_X9_copyFrom G d h Q a0 a1) : Cal G d mX9_copyFrom [.ref a0, .ref a1] h Q := cal_of rfl (Nat.le_of_ble_eq_true rfl) (t_X9_copyFrom ht)
def T_X9_rise (G : GG) (d : Nat) (h : HP) (Q : Option Value → HP → Prop) (a0 : Nat) (x1 : Int32) (x2 : Int32) (x3 : Int32) (x4 : Int32) (x5 : Int32) : Prop :=
  Kd G h a0 9 ∧ ∀ h2, h2 = (sI (sI (sI (sI (sI (sI (sI h a0 0 1) a0 1 x1) a0 2 x2) a0 3 x3) a0 4 x4) a0 5 x5) a0 6 (-1)) → Q none (sI (sI (sI (sI (sI h2 a0 7 0) a0 8 (-1)) a0 9 0) a0 10 0) a0 11 0)
set_option maxRecDepth 20000 in
theorem t_X9_rise {G : GG} {d : Nat} {h : HP} {Q : Option Value → HP → Prop} {a0 : Nat} {x1 : Int32} {x2 : Int32} {x3 : Int32} {x4 : Int32} {x5 : Int32} (ht : T_X9_rise G d h Q a0 x1 x2 x3 x4 x5) : Ex G d mX9_rise 0 [(0, .ref a0), (1, .int x1), (2, .int x2), (3, .int x3), (4, .int x4), (5, .int x5)] [] h Q := by
  unfold T_X9_rise at ht
  refine x_aload_n (pc2 := 1) 0 (n := 0) (x := a0) rfl dX9_rise_0 rfl ?_
  refine x_iconst (pc2 := 2) (v := 1) (by decide) dX9_rise_1 rfl ?_
  obtain ⟨k1, ht⟩ := ht
  refine x_putZ (pc2 := 5) (κ := 9) (k := 0) (Or.inr rfl) fl_X9_21 (by decide) (by decide) (Or.inl rfl) rfl k1 dX9_rise_2 rfl ?_
  refine x_aload_n (pc2 := 6) 0 (n := 0) (x := a0) rfl dX9_rise_5 rfl ?_
  refine x_iload_n (pc2 := 7) 1 (n := 1) (x := x1) rfl dX9_rise_6 rfl ?_
  refine x_putI (pc2 := 10) (κ := 9) (k := 1) fl_X9_25 (by decide) (by decide) (Or.inl rfl) rfl k1.sI dX9_rise_7 rfl ?_
  refine x_aload_n (pc2 := 11) 0 (n := 0) (x := a0) rfl dX9_rise_10 rfl ?_
  refine x_iload_n (pc2 := 12) 2 (n := 2) (x := x2) rfl dX9_rise_11 rfl ?_
  refine x_putI (pc2 := 15) (κ := 9) (k := 2) fl_X9_28 (by decide) (by decide) (Or.inl rfl) rfl k1.sI.sI dX9_rise_12 rfl ?_
  refine x_aload_n (pc2 := 16) 0 (n := 0) (x := a0) rfl dX9_rise_15 rfl ?_
  refine x_iload_n (pc2 := 17) 3 (n := 3) (x := x3) rfl dX9_rise_16 rfl ?_
  refine x_putI (pc2 := 20) (κ := 9) (k := 3) fl_X9_31 (by decide) (by decide) (Or.inl rfl) rfl k1.sI.sI.sI dX9_rise_17 rfl ?_
  refine x_aload_n (pc2 := 21) 0 (n := 0) (x := a0) rfl dX9_rise_20 rfl ?_
  refine x_iload (pc2 := 23) 4 (n := 4) (x := x4) rfl dX9_rise_21 rfl ?_
  refine x_putI (pc2 := 26) (κ := 9) (k := 4) fl_X9_34 (by decide) (by decide) (Or.inl rfl) rfl k1.sI.sI.sI.sI dX9_rise_23 rfl ?_
  refine x_aload_n (pc2 := 27) 0 (n := 0) (x := a0) rfl dX9_rise_26 rfl ?_
  refine x_iload (pc2 := 29) 5 (n := 5) (x := x5) rfl dX9_rise_27 rfl ?_
  refine x_putI (pc2 := 32) (κ := 9) (k := 5) fl_X9_9 (by decide) (by decide) (Or.inl rfl) rfl k1.sI.sI.sI.sI.sI dX9_rise_29 rfl ?_
  refine x_aload_n (pc2 := 33) 0 (n := 0) (x := a0) rfl dX9_rise_32 rfl ?_
  refine x_iconst (pc2 := 34) (v := (-1)) (by decide) dX9_rise_33 rfl ?_
  refine x_putI (pc2 := 37) (κ := 9) (k := 6) fl_X9_15 (by decide) (by decide) (Or.inl rfl) rfl k1.sI.sI.sI.sI.sI.sI dX9_rise_34 rfl ?_
  refine nm_I (fun h2 e3 p4 => ?_)
  replace ht := ht h2 e3
  refine x_aload_n (pc2 := 38) 0 (n := 0) (x := a0) rfl dX9_rise_37 rfl ?_
  refine x_iconst (pc2 := 39) (v := 0) (by decide) dX9_rise_38 rfl ?_
  refine x_putI (pc2 := 42) (κ := 9) (k := 7) fl_X9_37 (by decide) (by decide) (Or.inl rfl) rfl (k1.sI.sI.sI.sI.sI.sI.up p4) dX9_rise_39 rfl ?_
  refine x_aload_n (pc2 := 43) 0 (n := 0) (x := a0) rfl dX9_rise_42 rfl ?_
  refine x_iconst (pc2 := 44) (v := (-1)) (by decide) dX9_rise_43 rfl ?_
  refine x_putI (pc2 := 47) (κ := 9) (k := 8) fl_X9_18 (by decide) (by decide) (Or.inl rfl) rfl (k1.sI.sI.sI.sI.sI.sI.up p4).sI dX9_rise_44 rfl ?_
  refine x_aload_n (pc2 := 48) 0 (n := 0) (x := a0) rfl dX9_rise_47 rfl ?_
  refine x_iconst (pc2 := 49) (v := 0) (by decide) dX9_rise_48 rfl ?_
  refine x_putI (pc2 := 52) (κ := 9) (k := 9) fl_X9_40 (by decide) (by decide) (Or.inl rfl) rfl (k1.sI.sI.sI.sI.sI.sI.up p4).sI.sI dX9_rise_49 rfl ?_
  refine x_aload_n (pc2 := 53) 0 (n := 0) (x := a0) rfl dX9_rise_52 rfl ?_
  refine x_iconst (pc2 := 54) (v := 0) (by decide) dX9_rise_53 rfl ?_
  refine x_putI (pc2 := 57) (κ := 9) (k := 10) fl_X9_43 (by decide) (by decide) (Or.inl rfl) rfl (k1.sI.sI.sI.sI.sI.sI.up p4).sI.sI.sI dX9_rise_54 rfl ?_
  refine x_aload_n (pc2 := 58) 0 (n := 0) (x := a0) rfl dX9_rise_57 rfl ?_
  refine x_iconst (pc2 := 59) (v := 0) (by decide) dX9_rise_58 rfl ?_
  refine x_putI (pc2 := 62) (κ := 9) (k := 11) fl_X9_46 (by decide) (by decide) (Or.inl rfl) rfl (k1.sI.sI.sI.sI.sI.sI.up p4).sI.sI.sI.sI dX9_rise_59 rfl ?_
  exact x_retV rfl dX9_rise_62 ht
theorem e_X9_rise {G : GG} {d : Nat} {h : HP} {Q : Option Value → HP → Prop} {a0 : Nat} {x1 : Int32} {x2 : Int32} {x3 : Int32} {x4 : Int32} {x5 : Int32} (ht : T_X9_rise G d h Q a0 x1 x2 x3 x4 x5) : Cal G d mX9_rise [.ref a0, .int x1, .int x2, .int x3, .int x4, .int x5] h Q := cal_of rfl (Nat.le_of_ble_eq_true rfl) (t_X9_rise ht)
def T_X9_area (G : GG) (d : Nat) (h : HP) (Q : Option Value → HP → Prop) (a0 : Nat) : Prop :=
  Kd G h a0 9 ∧ Q (some (.int (((hI h a0 3) - (hI h a0 1)) * ((hI h a0 4) - (hI h a0 2))))) h
set_option maxRecDepth 20000 in
theorem t_X9_area {G : GG} {d : Nat} {h : HP} {Q : Option Value → HP → Prop} {a0 : Nat} (ht : T_X9_area G d h Q a0) : Ex G d mX9_area 0 [(0, .ref a0)] [] h Q := by
  unfold T_X9_area at ht
  refine x_aload_n (pc2 := 1) 0 (n := 0) (x := a0) rfl dX9_area_0 rfl ?_
  obtain ⟨k1, ht⟩ := ht
  refine y_getI (pc2 := 4) (κ := 9) (k := 3) fl_X9_31 (by decide) (by decide) k1 rfl dX9_area_1 rfl ?_
  refine x_aload_n (pc2 := 5) 0 (n := 0) (x := a0) rfl dX9_area_4 rfl ?_
  refine y_getI (pc2 := 8) (κ := 9) (k := 1) fl_X9_25 (by decide) (by decide) k1 rfl dX9_area_5 rfl ?_
  refine x_isub (pc2 := 9) dX9_area_8 rfl ?_
  refine x_aload_n (pc2 := 10) 0 (n := 0) (x := a0) rfl dX9_area_9 rfl ?_
  refine y_getI (pc2 := 13) (κ := 9) (k := 4) fl_X9_34 (by decide) (by decide) k1 rfl dX9_area_10 rfl ?_
  refine x_aload_n (pc2 := 14) 0 (n := 0) (x := a0) rfl dX9_area_13 rfl ?_
  refine y_getI (pc2 := 17) (κ := 9) (k := 2) fl_X9_28 (by decide) (by decide) k1 rfl dX9_area_14 rfl ?_
  refine x_isub (pc2 := 18) dX9_area_17 rfl ?_
  refine x_imul (pc2 := 19) dX9_area_18 rfl ?_
  exact x_ret (ty := .int) rfl rfl dX9_area_19 ht
theorem e_X9_area {G : GG} {d : Nat} {h : HP} {Q : Option Value → HP → Prop} {a0 : Nat} (ht : T_X9_area G d h Q a0) : Cal G d mX9_area [.ref a0] h Q := cal_of rfl (Nat.le_of_ble_eq_true rfl) (t_X9_area ht)
def T_X9_lengthOf (G : GG) (d : Nat) (h : HP) (Q : Option Value → HP → Prop) (a0 : Nat) (x1 : Int32) : Prop :=
  ((¬ (irm x1 2) = 0 → Kd G h a0 9 ∧ Q (some (.int ((hI h a0 4) - (hI h a0 2)))) h) ∧ ((irm x1 2) = 0 → Kd G h a0 9 ∧ Q (some (.int ((hI h a0 3) - (hI h a0 1)))) h))
set_option maxRecDepth 20000 in
theorem t_X9_lengthOf {G : GG} {d : Nat} {h : HP} {Q : Option Value → HP → Prop} {a0 : Nat} {x1 : Int32} (ht : T_X9_lengthOf G d h Q a0 x1) : Ex G d mX9_lengthOf 0 [(0, .ref a0), (1, .int x1)] [] h Q := by
  unfold T_X9_lengthOf at ht
  refine x_iload_n (pc2 := 1) 1 (n := 1) (x := x1) rfl dX9_lengthOf_0 rfl ?_
  refine x_iconst (pc2 := 2) (v := 2) (by decide) dX9_lengthOf_1 rfl ?_
  refine y_irem (pc2 := 3) (by decide) dX9_lengthOf_2 rfl ?_
  refine y_if_ne (pc2 := 6) 18 dX9_lengthOf_3 (by decide) rfl (fun c1 => ?_) (fun c1 => ?_)
  · replace ht := ht.1 c1
    refine x_aload_n (pc2 := 19) 0 (n := 0) (x := a0) rfl dX9_lengthOf_18 rfl ?_
    obtain ⟨k2, ht⟩ := ht
    refine y_getI (pc2 := 22) (κ := 9) (k := 4) fl_X9_34 (by decide) (by decide) k2 rfl dX9_lengthOf_19 rfl ?_
    refine x_aload_n (pc2 := 23) 0 (n := 0) (x := a0) rfl dX9_lengthOf_22 rfl ?_
    refine y_getI (pc2 := 26) (κ := 9) (k := 2) fl_X9_28 (by decide) (by decide) k2 rfl dX9_lengthOf_23 rfl ?_
    refine x_isub (pc2 := 27) dX9_lengthOf_26 rfl ?_
    exact x_ret (ty := .int) rfl rfl dX9_lengthOf_27 ht
  · replace ht := ht.2 c1
    refine x_aload_n (pc2 := 7) 0 (n := 0) (x := a0) rfl dX9_lengthOf_6 rfl ?_
    obtain ⟨k3, ht⟩ := ht
    refine y_getI (pc2 := 10) (κ := 9) (k := 3) fl_X9_31 (by decide) (by decide) k3 rfl dX9_lengthOf_7 rfl ?_
    refine x_aload_n (pc2 := 11) 0 (n := 0) (x := a0) rfl dX9_lengthOf_10 rfl ?_
    refine y_getI (pc2 := 14) (κ := 9) (k := 1) fl_X9_25 (by decide) (by decide) k3 rfl dX9_lengthOf_11 rfl ?_
    refine x_isub (pc2 := 15) dX9_lengthOf_14 rfl ?_
    refine x_goto 27 dX9_lengthOf_15 (by decide) ?_
    exact x_ret (ty := .int) rfl rfl dX9_lengthOf_27 ht
theorem e_X9_lengthOf {G : GG} {d : Nat} {h : HP} {Q : Option Value → HP → Prop} {a0 : Nat} {x1 : Int32} (ht : T_X9_lengthOf G d h Q a0 x1) : Cal G d mX9_lengthOf [.ref a0, .int x1] h Q := cal_of rfl (Nat.le_of_ble_eq_true rfl) (t_X9_lengthOf ht)
def T_X9_has (G : GG) (d : Nat) (h : HP) (Q : Option Value → HP → Prop) (a0 : Nat) (x1 : Int32) (x2 : Int32) : Prop :=
  Kd G h a0 9 ∧ ((x1 < (hI h a0 1) → Q (some (.int 0)) h) ∧ (¬ x1 < (hI h a0 1) → (((hI h a0 3) ≤ x1 → Q (some (.int 0)) h) ∧ (¬ (hI h a0 3) ≤ x1 → ((x2 < (hI h a0 2) → Q (some (.int 0)) h) ∧ (¬ x2 < (hI h a0 2) → (((hI h a0 4) ≤ x2 → Q (some (.int 0)) h) ∧ (¬ (hI h a0 4) ≤ x2 → Q (some (.int 1)) h))))))))
set_option maxRecDepth 20000 in
theorem t_X9_has {G : GG} {d : Nat} {h : HP} {Q : Option Value → HP → Prop} {a0 : Nat} {x1 : Int32} {x2 : Int32} (ht : T_X9_has G d h Q a0 x1 x2) : Ex G d mX9_has 0 [(0, .ref a0), (1, .int x1), (2, .int x2)] [] h Q := by
  unfold T_X9_has at ht
  refine x_aload_n (pc2 := 1) 0 (n := 0) (x := a0) rfl dX9_has_0 rfl ?_
  obtain ⟨k1, ht⟩ := ht
  refine y_getI (pc2 := 4) (κ := 9) (k := 1) fl_X9_25 (by decide) (by decide) k1 rfl dX9_has_1 rfl ?_
  refine x_iload_n (pc2 := 5) 1 (n := 1) (x := x1) rfl dX9_has_4 rfl ?_
  refine x_icmp_gt (pc2 := 8) 36 dX9_has_5 (by decide) rfl (fun c2 => ?_) (fun c2 => ?_)
  · replace ht := ht.1 c2
    refine x_iconst (pc2 := 37) (v := 0) (by decide) dX9_has_36 rfl ?_
    exact x_retZ rfl (Or.inl rfl) dX9_has_37 ht
  · replace ht := ht.2 c2
    refine x_iload_n (pc2 := 9) 1 (n := 1) (x := x1) rfl dX9_has_8 rfl ?_
    refine x_aload_n (pc2 := 10) 0 (n := 0) (x := a0) rfl dX9_has_9 rfl ?_
    refine y_getI (pc2 := 13) (κ := 9) (k := 3) fl_X9_31 (by decide) (by decide) k1 rfl dX9_has_10 rfl ?_
    refine x_icmp_ge (pc2 := 16) 36 dX9_has_13 (by decide) rfl (fun c3 => ?_) (fun c3 => ?_)
    · replace ht := ht.1 c3
      refine x_iconst (pc2 := 37) (v := 0) (by decide) dX9_has_36 rfl ?_
      exact x_retZ rfl (Or.inl rfl) dX9_has_37 ht
    · replace ht := ht.2 c3
      refine x_aload_n (pc2 := 17) 0 (n := 0) (x := a0) rfl dX9_has_16 rfl ?_
      refine y_getI (pc2 := 20) (κ := 9) (k := 2) fl_X9_28 (by decide) (by decide) k1 rfl dX9_has_17 rfl ?_
      refine x_iload_n (pc2 := 21) 2 (n := 2) (x := x2) rfl dX9_has_20 rfl ?_
      refine x_icmp_gt (pc2 := 24) 36 dX9_has_21 (by decide) rfl (fun c4 => ?_) (fun c4 => ?_)
      · replace ht := ht.1 c4
        refine x_iconst (pc2 := 37) (v := 0) (by decide) dX9_has_36 rfl ?_
        exact x_retZ rfl (Or.inl rfl) dX9_has_37 ht
      · replace ht := ht.2 c4
        refine x_iload_n (pc2 := 25) 2 (n := 2) (x := x2) rfl dX9_has_24 rfl ?_
        refine x_aload_n (pc2 := 26) 0 (n := 0) (x := a0) rfl dX9_has_25 rfl ?_
        refine y_getI (pc2 := 29) (κ := 9) (k := 4) fl_X9_34 (by decide) (by decide) k1 rfl dX9_has_26 rfl ?_
        refine x_icmp_ge (pc2 := 32) 36 dX9_has_29 (by decide) rfl (fun c5 => ?_) (fun c5 => ?_)
        · replace ht := ht.1 c5
          refine x_iconst (pc2 := 37) (v := 0) (by decide) dX9_has_36 rfl ?_
          exact x_retZ rfl (Or.inl rfl) dX9_has_37 ht
        · replace ht := ht.2 c5
          refine x_iconst (pc2 := 33) (v := 1) (by decide) dX9_has_32 rfl ?_
          refine x_goto 37 dX9_has_33 (by decide) ?_
          exact x_retZ rfl (Or.inr rfl) dX9_has_37 ht
theorem e_X9_has {G : GG} {d : Nat} {h : HP} {Q : Option Value → HP → Prop} {a0 : Nat} {x1 : Int32} {x2 : Int32} (ht : T_X9_has G d h Q a0 x1 x2) : Cal G d mX9_has [.ref a0, .int x1, .int x2] h Q := cal_of rfl (Nat.le_of_ble_eq_true rfl) (t_X9_has ht)
def T_X9_parts (G : GG) (d : Nat) (h : HP) (Q : Option Value → HP → Prop) (a0 : Nat) (a1 : Nat) : Prop :=
  Kd G h a1 1 ∧ Kd G h a0 9 ∧ Cal G (d - 1) mX9_has [.ref a0, .int (hI h a1 2), .int (hI h a1 3)] h (fun r2 h3 => ∃ v6, r2 = some (.int v6) ∧ Cal G (d - 1) mX9_has [.ref a0, .int (hI h3 a1 4), .int (hI h3 a1 5)] h3 (fun r7 h8 => ∃ v10, r7 = some (.int v10) ∧ ((v6 = v10 → Q (some (.int 0)) h8) ∧ (¬ v6 = v10 → Q (some (.int 1)) h8))))
set_option maxRecDepth 20000 in
theorem t_X9_parts {G : GG} {d : Nat} {h : HP} {Q : Option Value → HP → Prop} {a0 : Nat} {a1 : Nat} (hd1 : 1 ≤ d) (ht : T_X9_parts G d h Q a0 a1) : Ex G d mX9_parts 0 [(0, .ref a0), (1, .ref a1)] [] h Q := by
  unfold T_X9_parts at ht
  refine x_aload_n (pc2 := 1) 0 (n := 0) (x := a0) rfl dX9_parts_0 rfl ?_
  refine x_aload_n (pc2 := 2) 1 (n := 1) (x := a1) rfl dX9_parts_1 rfl ?_
  obtain ⟨k1, ht⟩ := ht
  refine y_getI (pc2 := 5) (κ := 1) (k := 2) fl_X9_49 (by decide) (by decide) k1 rfl dX9_parts_2 rfl ?_
  refine x_aload_n (pc2 := 6) 1 (n := 1) (x := a1) rfl dX9_parts_5 rfl ?_
  refine y_getI (pc2 := 9) (κ := 1) (k := 3) fl_X9_52 (by decide) (by decide) k1 rfl dX9_parts_6 rfl ?_
  obtain ⟨k5, ht⟩ := ht
  refine x_callV (pc2 := 12) (As := [.int (hI h a1 2), .int (hI h a1 3)]) (rest := []) (b := a0) mv_X9_has ml_X9_53 k5 rfl rfl (Nat.le_of_ble_eq_true rfl) hd1 dX9_parts_9 rfl (ht.mono (fun r2 h3 p4 ht' => ?_))
  clear ht
  obtain ⟨v6, rfl, ht⟩ := ht'
  show Ex G d mX9_parts 12 [(0, .ref a0), (1, .ref a1)] [.int v6] h3 Q
  refine x_aload_n (pc2 := 13) 0 (n := 0) (x := a0) rfl dX9_parts_12 rfl ?_
  refine x_aload_n (pc2 := 14) 1 (n := 1) (x := a1) rfl dX9_parts_13 rfl ?_
  refine y_getI (pc2 := 17) (κ := 1) (k := 4) fl_X9_57 (by decide) (by decide) (k1.up p4) rfl dX9_parts_14 rfl ?_
  refine x_aload_n (pc2 := 18) 1 (n := 1) (x := a1) rfl dX9_parts_17 rfl ?_
  refine y_getI (pc2 := 21) (κ := 1) (k := 5) fl_X9_58 (by decide) (by decide) (k1.up p4) rfl dX9_parts_18 rfl ?_
  refine x_callV (pc2 := 24) (As := [.int (hI h3 a1 4), .int (hI h3 a1 5)]) (rest := [.int v6]) (b := a0) mv_X9_has ml_X9_53 (k5.up p4) rfl rfl (Nat.le_of_ble_eq_true rfl) hd1 dX9_parts_21 rfl (ht.mono (fun r7 h8 p9 ht' => ?_))
  clear ht
  obtain ⟨v10, rfl, ht⟩ := ht'
  show Ex G d mX9_parts 24 [(0, .ref a0), (1, .ref a1)] [.int v10, .int v6] h8 Q
  refine x_icmp_eq (pc2 := 27) 31 dX9_parts_24 (by decide) rfl (fun c11 => ?_) (fun c11 => ?_)
  · replace ht := ht.1 c11
    refine x_iconst (pc2 := 32) (v := 0) (by decide) dX9_parts_31 rfl ?_
    exact x_retZ rfl (Or.inl rfl) dX9_parts_32 ht
  · replace ht := ht.2 c11
    refine x_iconst (pc2 := 28) (v := 1) (by decide) dX9_parts_27 rfl ?_
    refine x_goto 32 dX9_parts_28 (by decide) ?_
    exact x_retZ rfl (Or.inr rfl) dX9_parts_32 ht
theorem e_X9_parts {G : GG} {d : Nat} {h : HP} {Q : Option Value → HP → Prop} {a0 : Nat} {a1 : Nat} (hd1 : 1 ≤ d) (ht : T_X9_parts G d h Q a0 a1) : Cal G d mX9_parts [.ref a0, .ref a1] h Q := cal_of rfl (Nat.le_of_ble_eq_true rfl) (t_X9_parts hd1 ht)
def T_X9_tollFor (G : GG) (d : Nat) (h : HP) (Q : Option Value → HP → Prop) (a0 : Nat) (x1 : Int32) : Prop :=
  Kd G h a0 9 ∧ (((hI h a0 5) = x1 → Q (some (.int 0)) h) ∧ (¬ (hI h a0 5) = x1 → ((¬ (((hI h a0 11) >>> (x1 &&& 31)) &&& 1) = 1 → Q (some (.int (hI h a0 10))) h) ∧ ((((hI h a0 11) >>> (x1 &&& 31)) &&& 1) = 1 → Q (some (.int 0)) h))))
set_option maxRecDepth 20000 in
theorem t_X9_tollFor {G : GG} {d : Nat} {h : HP} {Q : Option Value → HP → Prop} {a0 : Nat} {x1 : Int32} (ht : T_X9_tollFor G d h Q a0 x1) : Ex G d mX9_tollFor 0 [(0, .ref a0), (1, .int x1)] [] h Q := by
  unfold T_X9_tollFor at ht
  refine x_aload_n (pc2 := 1) 0 (n := 0) (x := a0) rfl dX9_tollFor_0 rfl ?_
  obtain ⟨k1, ht⟩ := ht
  refine y_getI (pc2 := 4) (κ := 9) (k := 5) fl_X9_9 (by decide) (by decide) k1 rfl dX9_tollFor_1 rfl ?_
  refine x_iload_n (pc2 := 5) 1 (n := 1) (x := x1) rfl dX9_tollFor_4 rfl ?_
  refine x_icmp_eq (pc2 := 8) 20 dX9_tollFor_5 (by decide) rfl (fun c2 => ?_) (fun c2 => ?_)
  · replace ht := ht.1 c2
    refine x_iconst (pc2 := 21) (v := 0) (by decide) dX9_tollFor_20 rfl ?_
    refine x_goto 28 dX9_tollFor_21 (by decide) ?_
    exact x_ret (ty := .int) rfl rfl dX9_tollFor_28 ht
  · replace ht := ht.2 c2
    refine x_aload_n (pc2 := 9) 0 (n := 0) (x := a0) rfl dX9_tollFor_8 rfl ?_
    refine y_getI (pc2 := 12) (κ := 9) (k := 11) fl_X9_46 (by decide) (by decide) k1 rfl dX9_tollFor_9 rfl ?_
    refine x_iload_n (pc2 := 13) 1 (n := 1) (x := x1) rfl dX9_tollFor_12 rfl ?_
    refine x_ishr (pc2 := 14) dX9_tollFor_13 rfl ?_
    refine x_iconst (pc2 := 15) (v := 1) (by decide) dX9_tollFor_14 rfl ?_
    refine x_iand (pc2 := 16) dX9_tollFor_15 rfl ?_
    refine x_iconst (pc2 := 17) (v := 1) (by decide) dX9_tollFor_16 rfl ?_
    refine y_icmp_ne (pc2 := 20) 24 dX9_tollFor_17 (by decide) rfl (fun c3 => ?_) (fun c3 => ?_)
    · replace ht := ht.1 c3
      refine x_aload_n (pc2 := 25) 0 (n := 0) (x := a0) rfl dX9_tollFor_24 rfl ?_
      refine y_getI (pc2 := 28) (κ := 9) (k := 10) fl_X9_43 (by decide) (by decide) k1 rfl dX9_tollFor_25 rfl ?_
      exact x_ret (ty := .int) rfl rfl dX9_tollFor_28 ht
    · replace ht := ht.2 c3
      refine x_iconst (pc2 := 21) (v := 0) (by decide) dX9_tollFor_20 rfl ?_
      refine x_goto 28 dX9_tollFor_21 (by decide) ?_
      exact x_ret (ty := .int) rfl rfl dX9_tollFor_28 ht
theorem e_X9_tollFor {G : GG} {d : Nat} {h : HP} {Q : Option Value → HP → Prop} {a0 : Nat} {x1 : Int32} (ht : T_X9_tollFor G d h Q a0 x1) : Cal G d mX9_tollFor [.ref a0, .int x1] h Q := cal_of rfl (Nat.le_of_ble_eq_true rfl) (t_X9_tollFor ht)
def T_J7_fill_53178 (G : GG) (d : Nat) (h : HP) (Q : Option Value → HP → Prop) (a0 : Nat) (x1 : Int32) : Prop :=
  Kd G h a0 14 ∧ Ex G d mJ7_fill_53178 5 [(0, .ref a0), (1, .int x1), (2, .int 0), (3, .int (Int32.ofNat (hN h a0)))] [] h Q
set_option maxRecDepth 20000 in
theorem t_J7_fill_53178 {G : GG} {d : Nat} {h : HP} {Q : Option Value → HP → Prop} {a0 : Nat} {x1 : Int32} (ht : T_J7_fill_53178 G d h Q a0 x1) : Ex G d mJ7_fill_53178 0 [(0, .ref a0), (1, .int x1)] [] h Q := by
  unfold T_J7_fill_53178 at ht
  refine x_iconst (pc2 := 1) (v := 0) (by decide) dJ7_fill_53178_0 rfl ?_
  refine x_istore_n (pc2 := 2) [1, 2, 0] (n := 2) (x := 0) (lv2 := [(0, .ref a0), (1, .int x1), (2, .int 0)]) (by decide) rfl dJ7_fill_53178_1 rfl ?_
  refine x_aload_n (pc2 := 3) 0 (n := 0) (x := a0) rfl dJ7_fill_53178_2 rfl ?_
  obtain ⟨k1, ht⟩ := ht
  refine x_alen (pc2 := 4) (κ := 14) (by decide) k1 dJ7_fill_53178_3 rfl ?_
  refine x_istore_n (pc2 := 5) [1, 2, 3, 0] (n := 3) (x := (Int32.ofNat (hN h a0))) (lv2 := [(0, .ref a0), (1, .int x1), (2, .int 0), (3, .int (Int32.ofNat (hN h a0)))]) (by decide) rfl dJ7_fill_53178_4 rfl ?_
  exact ht
theorem e_J7_fill_53178 {G : GG} {d : Nat} {h : HP} {Q : Option Value → HP → Prop} {a0 : Nat} {x1 : Int32} (ht : T_J7_fill_53178 G d h Q a0 x1) : Cal G d mJ7_fill_53178 [.ref a0, .int x1] h Q := cal_of rfl (Nat.le_of_ble_eq_true rfl) (t_J7_fill_53178 ht)
def T_J7_fill_53178_5 (G : GG) (d : Nat) (h : HP) (Q : Option Value → HP → Prop) (a0 : Nat) (x1 : Int32) (x2 : Int32) (x3 : Int32) : Prop :=
  ((x3 ≤ x2 → Q none h) ∧ (¬ x3 ≤ x2 → Kd G h a0 14 ∧ vp_in x2 (hN h a0) ∧ Ex G d mJ7_fill_53178 5 [(0, .ref a0), (1, .int x1), (2, .int (x2 + 1)), (3, .int x3)] [] (sI h a0 x2.toNatClampNeg x1) Q))
set_option maxRecDepth 20000 in
theorem t_J7_fill_53178_5 {G : GG} {d : Nat} {h : HP} {Q : Option Value → HP → Prop} {a0 : Nat} {x1 : Int32} {x2 : Int32} {x3 : Int32} (ht : T_J7_fill_53178_5 G d h Q a0 x1 x2 x3) : Ex G d mJ7_fill_53178 5 [(0, .ref a0), (1, .int x1), (2, .int x2), (3, .int x3)] [] h Q := by
  unfold T_J7_fill_53178_5 at ht
  refine x_iload_n (pc2 := 6) 2 (n := 2) (x := x2) rfl dJ7_fill_53178_5 rfl ?_
  refine x_iload_n (pc2 := 7) 3 (n := 3) (x := x3) rfl dJ7_fill_53178_6 rfl ?_
  refine x_icmp_ge (pc2 := 10) 20 dJ7_fill_53178_7 (by decide) rfl (fun c1 => ?_) (fun c1 => ?_)
  · replace ht := ht.1 c1
    exact x_retV rfl dJ7_fill_53178_20 ht
  · replace ht := ht.2 c1
    refine x_aload_n (pc2 := 11) 0 (n := 0) (x := a0) rfl dJ7_fill_53178_10 rfl ?_
    refine x_iload_n (pc2 := 12) 2 (n := 2) (x := x2) rfl dJ7_fill_53178_11 rfl ?_
    refine x_iload_n (pc2 := 13) 1 (n := 1) (x := x1) rfl dJ7_fill_53178_12 rfl ?_
    obtain ⟨k2, ht⟩ := ht
    obtain ⟨b3, ht⟩ := ht
    refine x_iast (pc2 := 14) k2 b3 dJ7_fill_53178_13 rfl ?_
    refine x_iinc (pc2 := 17) 2 [1, 2, 0, 3] (i := 2) (x := x2) (v := (x2 + 1)) (lv2 := [(0, .ref a0), (1, .int x1), (2, .int (x2 + 1)), (3, .int x3)]) rfl (iinc_eq (by decide) _) (by decide) rfl dJ7_fill_53178_14 rfl ?_
    refine x_goto 5 dJ7_fill_53178_17 (by decide) ?_
    exact ht
