def T_X2_init (G : GG) (d : Nat) (h : HP) (Q : Option Value → HP → Prop) (a0 : Nat) : Prop :=
  Q none h
set_option maxRecDepth 20000 in
theorem t_X2_init {G : GG} {d : Nat} {h : HP} {Q : Option Value → HP → Prop} {a0 : Nat} (hd1 : 1 ≤ d) (ht : T_X2_init G d h Q a0) : Ex G d mX2_init 0 [(0, .ref a0)] [] h Q := by
  unfold T_X2_init at ht
  refine x_aload_n (pc2 := 1) 0 (n := 0) (x := a0) rfl dX2_init_0 rfl ?_
  refine x_objInit (pc2 := 4) ml_X2_3 hd1 (Nat.le_of_ble_eq_true rfl) dX2_init_1 rfl ?_
  exact x_retV rfl dX2_init_4 ht
theorem e_X2_init {G : GG} {d : Nat} {h : HP} {Q : Option Value → HP → Prop} {a0 : Nat} (hd1 : 1 ≤ d) (ht : T_X2_init G d h Q a0) : Cal G d mX2_init [.ref a0] h Q := cal_of rfl (Nat.le_of_ble_eq_true rfl) (t_X2_init hd1 ht)
def T_X2_read (G : GG) (d : Nat) (h : HP) (Q : Option Value → HP → Prop) (a0 : Nat) (a1 : Nat) (a2 : Nat) : Prop :=
  Kd G h a2 6 ∧ Cal G (d - 1) mX6_wipe [.ref a2] h (fun r1 h2 => r1 = none ∧ Kd G h2 a0 2 ∧ Kd G (sI h2 a0 0 0) a1 8 ∧ Cal G (d - 1) mX8_open [.ref a1] (sI h2 a0 0 0) (fun r6 h7 => r6 = none ∧ Ex G d mX2_read 18 [(0, .ref a0), (1, .ref a1), (2, .ref a2), (3, .int 1), (4, .int 0)] [] h7 Q))
set_option maxRecDepth 20000 in
theorem t_X2_read {G : GG} {d : Nat} {h : HP} {Q : Option Value → HP → Prop} {a0 : Nat} {a1 : Nat} {a2 : Nat} (hd1 : 1 ≤ d) (ht : T_X2_read G d h Q a0 a1 a2) : Ex G d mX2_read 0 [(0, .ref a0), (1, .ref a1), (2, .ref a2)] [] h Q := by
  unfold T_X2_read at ht
  refine x_aload_n (pc2 := 1) 2 (n := 2) (x := a2) rfl dX2_read_0 rfl ?_
  obtain ⟨k4, ht⟩ := ht
  refine x_callV (pc2 := 4) (As := []) (rest := []) (b := a2) mv_X6_wipe ml_X2_9 k4 rfl rfl (Nat.le_of_ble_eq_true rfl) hd1 dX2_read_1 rfl (ht.mono (fun r1 h2 p3 ht' => ?_))
  clear ht
  obtain ⟨rfl, ht⟩ := ht'
  show Ex G d mX2_read 4 [(0, .ref a0), (1, .ref a1), (2, .ref a2)] [] h2 Q
  refine x_aload_n (pc2 := 5) 0 (n := 0) (x := a0) rfl dX2_read_4 rfl ?_
  refine x_iconst (pc2 := 6) (v := 0) (by decide) dX2_read_5 rfl ?_
  obtain ⟨k5, ht⟩ := ht
  refine x_putZ (pc2 := 9) (κ := 2) (k := 0) (Or.inl rfl) fl_X2_14 (by decide) (by decide) (Or.inl rfl) rfl k5 dX2_read_6 rfl ?_
  refine x_aload_n (pc2 := 10) 1 (n := 1) (x := a1) rfl dX2_read_9 rfl ?_
  obtain ⟨k9, ht⟩ := ht
  refine x_callV (pc2 := 13) (As := []) (rest := []) (b := a1) mv_X8_open ml_X2_20 k9 rfl rfl (Nat.le_of_ble_eq_true rfl) hd1 dX2_read_10 rfl (ht.mono (fun r6 h7 p8 ht' => ?_))
  clear ht
  obtain ⟨rfl, ht⟩ := ht'
  show Ex G d mX2_read 13 [(0, .ref a0), (1, .ref a1), (2, .ref a2)] [] h7 Q
  refine x_iconst (pc2 := 14) (v := 1) (by decide) dX2_read_13 rfl ?_
  refine x_istore_n (pc2 := 15) [1, 2, 3, 0] (n := 3) (x := 1) (lv2 := [(0, .ref a0), (1, .ref a1), (2, .ref a2), (3, .int 1)]) (by decide) rfl dX2_read_14 rfl ?_
  refine x_iconst (pc2 := 16) (v := 0) (by decide) dX2_read_15 rfl ?_
  refine x_istore (pc2 := 18) [1, 2, 3, 4, 0] (n := 4) (x := 0) (lv2 := [(0, .ref a0), (1, .ref a1), (2, .ref a2), (3, .int 1), (4, .int 0)]) (by decide) rfl dX2_read_16 rfl ?_
  exact ht
theorem e_X2_read {G : GG} {d : Nat} {h : HP} {Q : Option Value → HP → Prop} {a0 : Nat} {a1 : Nat} {a2 : Nat} (hd1 : 1 ≤ d) (ht : T_X2_read G d h Q a0 a1 a2) : Cal G d mX2_read [.ref a0, .ref a1, .ref a2] h Q := cal_of rfl (Nat.le_of_ble_eq_true rfl) (t_X2_read hd1 ht)
def T_X2_read_18 (G : GG) (d : Nat) (h : HP) (Q : Option Value → HP → Prop) (a0 : Nat) (a1 : Nat) (a2 : Nat) (x3 : Int32) (x4 : Int32) : Prop :=
  ((24 < x4 → Ex G d mX2_read 59 [(0, .ref a0), (1, .ref a1), (2, .ref a2), (3, .int x3), (4, .int x4)] [] h Q) ∧ (¬ 24 < x4 → ((x3 = 0 → Ex G d mX2_read 59 [(0, .ref a0), (1, .ref a1), (2, .ref a2), (3, .int x3), (4, .int x4)] [] h Q) ∧ (¬ x3 = 0 → Kd G h a0 2 ∧ Cal G (d - 1) mX2_readClause [.ref a0, .ref a1, .ref a2, .int x4] h (fun r3 h4 => ∃ v7, r3 = some (.int v7) ∧ ((v7 = 0 → Ex G d mX2_read 18 [(0, .ref a0), (1, .ref a1), (2, .ref a2), (3, .int 0), (4, .int (x4 + 1))] [] h4 Q) ∧ (¬ v7 = 0 → Kd G h4 a1 8 ∧ Cal G (d - 1) mX8_goesOn [.ref a1] h4 (fun r9 h10 => ∃ v13, r9 = some (.int v13) ∧ ((v13 = 0 → Ex G d mX2_read 18 [(0, .ref a0), (1, .ref a1), (2, .ref a2), (3, .int 0), (4, .int (x4 + 1))] [] h10 Q) ∧ (¬ v13 = 0 → Ex G d mX2_read 18 [(0, .ref a0), (1, .ref a1), (2, .ref a2), (3, .int 1), (4, .int (x4 + 1))] [] h10 Q))))))))))
set_option maxRecDepth 20000 in
theorem t_X2_read_18 {G : GG} {d : Nat} {h : HP} {Q : Option Value → HP → Prop} {a0 : Nat} {a1 : Nat} {a2 : Nat} {x3 : Int32} {x4 : Int32} (hd1 : 1 ≤ d) (ht : T_X2_read_18 G d h Q a0 a1 a2 x3 x4) : Ex G d mX2_read 18 [(0, .ref a0), (1, .ref a1), (2, .ref a2), (3, .int x3), (4, .int x4)] [] h Q := by
  unfold T_X2_read_18 at ht
  refine x_iload (pc2 := 20) 4 (n := 4) (x := x4) rfl dX2_read_18 rfl ?_
  refine x_bipush (pc2 := 22) (v := 24) (by decide) dX2_read_20 rfl ?_
  refine x_icmp_gt (pc2 := 25) 59 dX2_read_22 (by decide) rfl (fun c1 => ?_) (fun c1 => ?_)
  · replace ht := ht.1 c1
    exact ht
  · replace ht := ht.2 c1
    refine x_iload_n (pc2 := 26) 3 (n := 3) (x := x3) rfl dX2_read_25 rfl ?_
    refine x_if_eq (pc2 := 29) 59 dX2_read_26 (by decide) rfl (fun c2 => ?_) (fun c2 => ?_)
    · replace ht := ht.1 c2
      exact ht
    · replace ht := ht.2 c2
      refine x_aload_n (pc2 := 30) 0 (n := 0) (x := a0) rfl dX2_read_29 rfl ?_
      refine x_aload_n (pc2 := 31) 1 (n := 1) (x := a1) rfl dX2_read_30 rfl ?_
      refine x_aload_n (pc2 := 32) 2 (n := 2) (x := a2) rfl dX2_read_31 rfl ?_
      refine x_iload (pc2 := 34) 4 (n := 4) (x := x4) rfl dX2_read_32 rfl ?_
      obtain ⟨k6, ht⟩ := ht
      refine x_callV (pc2 := 37) (As := [.ref a1, .ref a2, .int x4]) (rest := []) (b := a0) mv_X2_readClause ml_X2_25 k6 rfl rfl (Nat.le_of_ble_eq_true rfl) hd1 dX2_read_34 rfl (ht.mono (fun r3 h4 p5 ht' => ?_))
      clear ht
      obtain ⟨v7, rfl, ht⟩ := ht'
      show Ex G d mX2_read 37 [(0, .ref a0), (1, .ref a1), (2, .ref a2), (3, .int x3), (4, .int x4)] [.int v7] h4 Q
      refine x_if_eq (pc2 := 40) 51 dX2_read_37 (by decide) rfl (fun c8 => ?_) (fun c8 => ?_)
      · replace ht := ht.1 c8
        refine x_iconst (pc2 := 52) (v := 0) (by decide) dX2_read_51 rfl ?_
        refine x_istore_n (pc2 := 53) [1, 2, 3, 0, 4] (n := 3) (x := 0) (lv2 := [(0, .ref a0), (1, .ref a1), (2, .ref a2), (3, .int 0), (4, .int x4)]) (by decide) rfl dX2_read_52 rfl ?_
        refine x_iinc (pc2 := 56) 4 [1, 2, 3, 4, 0] (i := 4) (x := x4) (v := (x4 + 1)) (lv2 := [(0, .ref a0), (1, .ref a1), (2, .ref a2), (3, .int 0), (4, .int (x4 + 1))]) rfl (iinc_eq (by decide) _) (by decide) rfl dX2_read_53 rfl ?_
        refine x_goto 18 dX2_read_56 (by decide) ?_
        exact ht
      · replace ht := ht.2 c8
        refine x_aload_n (pc2 := 41) 1 (n := 1) (x := a1) rfl dX2_read_40 rfl ?_
        obtain ⟨k12, ht⟩ := ht
        refine x_callV (pc2 := 44) (As := []) (rest := []) (b := a1) mv_X8_goesOn ml_X2_29 k12 rfl rfl (Nat.le_of_ble_eq_true rfl) hd1 dX2_read_41 rfl (ht.mono (fun r9 h10 p11 ht' => ?_))
        clear ht
        obtain ⟨v13, rfl, ht⟩ := ht'
        show Ex G d mX2_read 44 [(0, .ref a0), (1, .ref a1), (2, .ref a2), (3, .int x3), (4, .int x4)] [.int v13] h10 Q
        refine x_if_eq (pc2 := 47) 51 dX2_read_44 (by decide) rfl (fun c14 => ?_) (fun c14 => ?_)
        · replace ht := ht.1 c14
          refine x_iconst (pc2 := 52) (v := 0) (by decide) dX2_read_51 rfl ?_
          refine x_istore_n (pc2 := 53) [1, 2, 3, 0, 4] (n := 3) (x := 0) (lv2 := [(0, .ref a0), (1, .ref a1), (2, .ref a2), (3, .int 0), (4, .int x4)]) (by decide) rfl dX2_read_52 rfl ?_
          refine x_iinc (pc2 := 56) 4 [1, 2, 3, 4, 0] (i := 4) (x := x4) (v := (x4 + 1)) (lv2 := [(0, .ref a0), (1, .ref a1), (2, .ref a2), (3, .int 0), (4, .int (x4 + 1))]) rfl (iinc_eq (by decide) _) (by decide) rfl dX2_read_53 rfl ?_
          refine x_goto 18 dX2_read_56 (by decide) ?_
          exact ht
        · replace ht := ht.2 c14
          refine x_iconst (pc2 := 48) (v := 1) (by decide) dX2_read_47 rfl ?_
          refine x_goto 52 dX2_read_48 (by decide) ?_
          refine x_istore_n (pc2 := 53) [1, 2, 3, 0, 4] (n := 3) (x := 1) (lv2 := [(0, .ref a0), (1, .ref a1), (2, .ref a2), (3, .int 1), (4, .int x4)]) (by decide) rfl dX2_read_52 rfl ?_
          refine x_iinc (pc2 := 56) 4 [1, 2, 3, 4, 0] (i := 4) (x := x4) (v := (x4 + 1)) (lv2 := [(0, .ref a0), (1, .ref a1), (2, .ref a2), (3, .int 1), (4, .int (x4 + 1))]) rfl (iinc_eq (by decide) _) (by decide) rfl dX2_read_53 rfl ?_
          refine x_goto 18 dX2_read_56 (by decide) ?_
          exact ht
def T_X2_read_59 (G : GG) (d : Nat) (h : HP) (Q : Option Value → HP → Prop) (a0 : Nat) (a1 : Nat) (a2 : Nat) (x3 : Int32) (x4 : Int32) : Prop :=
  Kd G h a1 8 ∧ ((¬ (hI h a1 1) = 0 → ((¬ (hI h a1 1) = 0 → Q (some (.int 0)) h) ∧ ((hI h a1 1) = 0 → Q (some (.int 1)) h))) ∧ ((hI h a1 1) = 0 → Kd G h a0 2 ∧ Cal G (d - 1) mX2_checkHouses [.ref a0, .ref a1, .ref a2] h (fun r4 h5 => r4 = none ∧ ((¬ (hI h5 a1 1) = 0 → Q (some (.int 0)) h5) ∧ ((hI h5 a1 1) = 0 → Q (some (.int 1)) h5)))))
set_option maxRecDepth 20000 in
theorem t_X2_read_59 {G : GG} {d : Nat} {h : HP} {Q : Option Value → HP → Prop} {a0 : Nat} {a1 : Nat} {a2 : Nat} {x3 : Int32} {x4 : Int32} (hd1 : 1 ≤ d) (ht : T_X2_read_59 G d h Q a0 a1 a2 x3 x4) : Ex G d mX2_read 59 [(0, .ref a0), (1, .ref a1), (2, .ref a2), (3, .int x3), (4, .int x4)] [] h Q := by
  unfold T_X2_read_59 at ht
  refine x_aload_n (pc2 := 60) 1 (n := 1) (x := a1) rfl dX2_read_59 rfl ?_
  obtain ⟨k1, ht⟩ := ht
  refine y_getI (pc2 := 63) (κ := 8) (k := 1) fl_X2_33 (by decide) (by decide) k1 rfl dX2_read_60 rfl ?_
  refine y_if_ne (pc2 := 66) 72 dX2_read_63 (by decide) rfl (fun c2 => ?_) (fun c2 => ?_)
  · replace ht := ht.1 c2
    refine x_aload_n (pc2 := 73) 1 (n := 1) (x := a1) rfl dX2_read_72 rfl ?_
    refine y_getI (pc2 := 76) (κ := 8) (k := 1) fl_X2_33 (by decide) (by decide) k1 rfl dX2_read_73 rfl ?_
    refine y_if_ne (pc2 := 79) 83 dX2_read_76 (by decide) rfl (fun c3 => ?_) (fun c3 => ?_)
    · replace ht := ht.1 c3
      refine x_iconst (pc2 := 84) (v := 0) (by decide) dX2_read_83 rfl ?_
      exact x_retZ rfl (Or.inl rfl) dX2_read_84 ht
    · replace ht := ht.2 c3
      refine x_iconst (pc2 := 80) (v := 1) (by decide) dX2_read_79 rfl ?_
      refine x_goto 84 dX2_read_80 (by decide) ?_
      exact x_retZ rfl (Or.inr rfl) dX2_read_84 ht
  · replace ht := ht.2 c2
    refine x_aload_n (pc2 := 67) 0 (n := 0) (x := a0) rfl dX2_read_66 rfl ?_
    refine x_aload_n (pc2 := 68) 1 (n := 1) (x := a1) rfl dX2_read_67 rfl ?_
    refine x_aload_n (pc2 := 69) 2 (n := 2) (x := a2) rfl dX2_read_68 rfl ?_
    obtain ⟨k7, ht⟩ := ht
    refine x_callV (pc2 := 72) (As := [.ref a1, .ref a2]) (rest := []) (b := a0) mv_X2_checkHouses ml_X2_37 k7 rfl rfl (Nat.le_of_ble_eq_true rfl) hd1 dX2_read_69 rfl (ht.mono (fun r4 h5 p6 ht' => ?_))
    clear ht
    obtain ⟨rfl, ht⟩ := ht'
    show Ex G d mX2_read 72 [(0, .ref a0), (1, .ref a1), (2, .ref a2), (3, .int x3), (4, .int x4)] [] h5 Q
    refine x_aload_n (pc2 := 73) 1 (n := 1) (x := a1) rfl dX2_read_72 rfl ?_
    refine y_getI (pc2 := 76) (κ := 8) (k := 1) fl_X2_33 (by decide) (by decide) (k1.up p6) rfl dX2_read_73 rfl ?_
    refine y_if_ne (pc2 := 79) 83 dX2_read_76 (by decide) rfl (fun c8 => ?_) (fun c8 => ?_)
    · replace ht := ht.1 c8
      refine x_iconst (pc2 := 84) (v := 0) (by decide) dX2_read_83 rfl ?_
      exact x_retZ rfl (Or.inl rfl) dX2_read_84 ht
    · replace ht := ht.2 c8
      refine x_iconst (pc2 := 80) (v := 1) (by decide) dX2_read_79 rfl ?_
      refine x_goto 84 dX2_read_80 (by decide) ?_
      exact x_retZ rfl (Or.inr rfl) dX2_read_84 ht
def T_X2_readClause (G : GG) (d : Nat) (h : HP) (Q : Option Value → HP → Prop) (a0 : Nat) (a1 : Nat) (a2 : Nat) (x3 : Int32) : Prop :=
  Kd G h a1 8 ∧ ((¬ (hI h a1 2) = 1 → Ex G d mX2_readClause 16 [(0, .ref a0), (1, .ref a1), (2, .ref a2), (3, .int x3)] [.int (-1)] h Q) ∧ ((hI h a1 2) = 1 → Ex G d mX2_readClause 16 [(0, .ref a0), (1, .ref a1), (2, .ref a2), (3, .int x3)] [.int (hI h a1 4)] h Q))
set_option maxRecDepth 20000 in
theorem t_X2_readClause {G : GG} {d : Nat} {h : HP} {Q : Option Value → HP → Prop} {a0 : Nat} {a1 : Nat} {a2 : Nat} {x3 : Int32} (ht : T_X2_readClause G d h Q a0 a1 a2 x3) : Ex G d mX2_readClause 0 [(0, .ref a0), (1, .ref a1), (2, .ref a2), (3, .int x3)] [] h Q := by
  unfold T_X2_readClause at ht
  refine x_aload_n (pc2 := 1) 1 (n := 1) (x := a1) rfl dX2_readClause_0 rfl ?_
  obtain ⟨k1, ht⟩ := ht
  refine y_getI (pc2 := 4) (κ := 8) (k := 2) fl_X2_41 (by decide) (by decide) k1 rfl dX2_readClause_1 rfl ?_
  refine x_iconst (pc2 := 5) (v := 1) (by decide) dX2_readClause_4 rfl ?_
  refine y_icmp_ne (pc2 := 8) 15 dX2_readClause_5 (by decide) rfl (fun c2 => ?_) (fun c2 => ?_)
  · replace ht := ht.1 c2
    refine x_iconst (pc2 := 16) (v := (-1)) (by decide) dX2_readClause_15 rfl ?_
    exact ht
  · replace ht := ht.2 c2
    refine x_aload_n (pc2 := 9) 1 (n := 1) (x := a1) rfl dX2_readClause_8 rfl ?_
    refine y_getI (pc2 := 12) (κ := 8) (k := 4) fl_X2_44 (by decide) (by decide) k1 rfl dX2_readClause_9 rfl ?_
    refine x_goto 16 dX2_readClause_12 (by decide) ?_
    exact ht
theorem e_X2_readClause {G : GG} {d : Nat} {h : HP} {Q : Option Value → HP → Prop} {a0 : Nat} {a1 : Nat} {a2 : Nat} {x3 : Int32} (ht : T_X2_readClause G d h Q a0 a1 a2 x3) : Cal G d mX2_readClause [.ref a0, .ref a1, .ref a2, .int x3] h Q := cal_of rfl (Nat.le_of_ble_eq_true rfl) (t_X2_readClause ht)
def T_X2_readClause_16 (G : GG) (d : Nat) (h : HP) (Q : Option Value → HP → Prop) (a0 : Nat) (a1 : Nat) (a2 : Nat) (x3 : Int32) (sx0 : Int32) : Prop :=
  ((¬ sx0 = 20 → ((¬ sx0 = 22 → Ex G d mX2_readClause 44 [(0, .ref a0), (1, .ref a1), (2, .ref a2), (3, .int x3), (4, .int sx0), (5, .int 0)] [.int 0] h Q) ∧ (sx0 = 22 → Ex G d mX2_readClause 44 [(0, .ref a0), (1, .ref a1), (2, .ref a2), (3, .int x3), (4, .int sx0), (5, .int 0)] [.int 1] h Q))) ∧ (sx0 = 20 → ((¬ sx0 = 22 → Ex G d mX2_readClause 44 [(0, .ref a0), (1, .ref a1), (2, .ref a2), (3, .int x3), (4, .int sx0), (5, .int 1)] [.int 0] h Q) ∧ (sx0 = 22 → Ex G d mX2_readClause 44 [(0, .ref a0), (1, .ref a1), (2, .ref a2), (3, .int x3), (4, .int sx0), (5, .int 1)] [.int 1] h Q))))
set_option maxRecDepth 20000 in
theorem t_X2_readClause_16 {G : GG} {d : Nat} {h : HP} {Q : Option Value → HP → Prop} {a0 : Nat} {a1 : Nat} {a2 : Nat} {x3 : Int32} {sx0 : Int32} (ht : T_X2_readClause_16 G d h Q a0 a1 a2 x3 sx0) : Ex G d mX2_readClause 16 [(0, .ref a0), (1, .ref a1), (2, .ref a2), (3, .int x3)] [.int sx0] h Q := by
  unfold T_X2_readClause_16 at ht
  refine x_istore (pc2 := 18) [1, 2, 3, 4, 0] (n := 4) (x := sx0) (lv2 := [(0, .ref a0), (1, .ref a1), (2, .ref a2), (3, .int x3), (4, .int sx0)]) (by decide) rfl dX2_readClause_16 rfl ?_
  refine x_iload (pc2 := 20) 4 (n := 4) (x := sx0) rfl dX2_readClause_18 rfl ?_
  refine x_bipush (pc2 := 22) (v := 20) (by decide) dX2_readClause_20 rfl ?_
  refine y_icmp_ne (pc2 := 25) 29 dX2_readClause_22 (by decide) rfl (fun c1 => ?_) (fun c1 => ?_)
  · replace ht := ht.1 c1
    refine x_iconst (pc2 := 30) (v := 0) (by decide) dX2_readClause_29 rfl ?_
    refine x_istore (pc2 := 32) [1, 2, 3, 4, 5, 0] (n := 5) (x := 0) (lv2 := [(0, .ref a0), (1, .ref a1), (2, .ref a2), (3, .int x3), (4, .int sx0), (5, .int 0)]) (by decide) rfl dX2_readClause_30 rfl ?_
    refine x_iload (pc2 := 34) 4 (n := 4) (x := sx0) rfl dX2_readClause_32 rfl ?_
    refine x_bipush (pc2 := 36) (v := 22) (by decide) dX2_readClause_34 rfl ?_
    refine y_icmp_ne (pc2 := 39) 43 dX2_readClause_36 (by decide) rfl (fun c2 => ?_) (fun c2 => ?_)
    · replace ht := ht.1 c2
      refine x_iconst (pc2 := 44) (v := 0) (by decide) dX2_readClause_43 rfl ?_
      exact ht
    · replace ht := ht.2 c2
      refine x_iconst (pc2 := 40) (v := 1) (by decide) dX2_readClause_39 rfl ?_
      refine x_goto 44 dX2_readClause_40 (by decide) ?_
      exact ht
  · replace ht := ht.2 c1
    refine x_iconst (pc2 := 26) (v := 1) (by decide) dX2_readClause_25 rfl ?_
    refine x_goto 30 dX2_readClause_26 (by decide) ?_
    refine x_istore (pc2 := 32) [1, 2, 3, 4, 5, 0] (n := 5) (x := 1) (lv2 := [(0, .ref a0), (1, .ref a1), (2, .ref a2), (3, .int x3), (4, .int sx0), (5, .int 1)]) (by decide) rfl dX2_readClause_30 rfl ?_
    refine x_iload (pc2 := 34) 4 (n := 4) (x := sx0) rfl dX2_readClause_32 rfl ?_
    refine x_bipush (pc2 := 36) (v := 22) (by decide) dX2_readClause_34 rfl ?_
    refine y_icmp_ne (pc2 := 39) 43 dX2_readClause_36 (by decide) rfl (fun c3 => ?_) (fun c3 => ?_)
    · replace ht := ht.1 c3
      refine x_iconst (pc2 := 44) (v := 0) (by decide) dX2_readClause_43 rfl ?_
      exact ht
    · replace ht := ht.2 c3
      refine x_iconst (pc2 := 40) (v := 1) (by decide) dX2_readClause_39 rfl ?_
      refine x_goto 44 dX2_readClause_40 (by decide) ?_
      exact ht
def T_X2_readClause_44 (G : GG) (d : Nat) (h : HP) (Q : Option Value → HP → Prop) (a0 : Nat) (a1 : Nat) (a2 : Nat) (x3 : Int32) (x4 : Int32) (x5 : Int32) (sx0 : Int32) : Prop :=
  ((¬ x5 = 0 → Ex G d mX2_readClause 82 [(0, .ref a0), (1, .ref a1), (2, .ref a2), (3, .int x3), (4, .int x4), (5, .int x5), (6, .int sx0)] [] h Q) ∧ (x5 = 0 → ((¬ sx0 = 0 → Ex G d mX2_readClause 82 [(0, .ref a0), (1, .ref a1), (2, .ref a2), (3, .int x3), (4, .int x4), (5, .int x5), (6, .int sx0)] [] h Q) ∧ (sx0 = 0 → ((x4 = 4 → Ex G d mX2_readClause 82 [(0, .ref a0), (1, .ref a1), (2, .ref a2), (3, .int x3), (4, .int x4), (5, .int x5), (6, .int sx0)] [] h Q) ∧ (¬ x4 = 4 → ((x4 = 6 → Ex G d mX2_readClause 82 [(0, .ref a0), (1, .ref a1), (2, .ref a2), (3, .int x3), (4, .int x4), (5, .int x5), (6, .int sx0)] [] h Q) ∧ (¬ x4 = 6 → ((x4 = 21 → Ex G d mX2_readClause 82 [(0, .ref a0), (1, .ref a1), (2, .ref a2), (3, .int x3), (4, .int x4), (5, .int x5), (6, .int sx0)] [] h Q) ∧ (¬ x4 = 21 → Kd G h a1 8 ∧ Cal G (d - 1) mX8_fail [.ref a1, .int 0] h (fun r6 h7 => ∃ v10, r6 = some (.int v10) ∧ ((v10 = 0 ∨ v10 = 1) ∧ Q (some (.int v10)) h7))))))))))))
set_option maxRecDepth 20000 in
theorem t_X2_readClause_44 {G : GG} {d : Nat} {h : HP} {Q : Option Value → HP → Prop} {a0 : Nat} {a1 : Nat} {a2 : Nat} {x3 : Int32} {x4 : Int32} {x5 : Int32} {sx0 : Int32} (hd1 : 1 ≤ d) (ht : T_X2_readClause_44 G d h Q a0 a1 a2 x3 x4 x5 sx0) : Ex G d mX2_readClause 44 [(0, .ref a0), (1, .ref a1), (2, .ref a2), (3, .int x3), (4, .int x4), (5, .int x5)] [.int sx0] h Q := by
  unfold T_X2_readClause_44 at ht
  refine x_istore (pc2 := 46) [1, 2, 3, 4, 5, 6, 0] (n := 6) (x := sx0) (lv2 := [(0, .ref a0), (1, .ref a1), (2, .ref a2), (3, .int x3), (4, .int x4), (5, .int x5), (6, .int sx0)]) (by decide) rfl dX2_readClause_44 rfl ?_
  refine x_iload (pc2 := 48) 5 (n := 5) (x := x5) rfl dX2_readClause_46 rfl ?_
  refine y_if_ne (pc2 := 51) 82 dX2_readClause_48 (by decide) rfl (fun c1 => ?_) (fun c1 => ?_)
  · replace ht := ht.1 c1
    exact ht
  · replace ht := ht.2 c1
    refine x_iload (pc2 := 53) 6 (n := 6) (x := sx0) rfl dX2_readClause_51 rfl ?_
    refine y_if_ne (pc2 := 56) 82 dX2_readClause_53 (by decide) rfl (fun c2 => ?_) (fun c2 => ?_)
    · replace ht := ht.1 c2
      exact ht
    · replace ht := ht.2 c2
      refine x_iload (pc2 := 58) 4 (n := 4) (x := x4) rfl dX2_readClause_56 rfl ?_
      refine x_iconst (pc2 := 59) (v := 4) (by decide) dX2_readClause_58 rfl ?_
      refine x_icmp_eq (pc2 := 62) 82 dX2_readClause_59 (by decide) rfl (fun c3 => ?_) (fun c3 => ?_)
      · replace ht := ht.1 c3
        exact ht
      · replace ht := ht.2 c3
        refine x_iload (pc2 := 64) 4 (n := 4) (x := x4) rfl dX2_readClause_62 rfl ?_
        refine x_bipush (pc2 := 66) (v := 6) (by decide) dX2_readClause_64 rfl ?_
        refine x_icmp_eq (pc2 := 69) 82 dX2_readClause_66 (by decide) rfl (fun c4 => ?_) (fun c4 => ?_)
        · replace ht := ht.1 c4
          exact ht
        · replace ht := ht.2 c4
          refine x_iload (pc2 := 71) 4 (n := 4) (x := x4) rfl dX2_readClause_69 rfl ?_
          refine x_bipush (pc2 := 73) (v := 21) (by decide) dX2_readClause_71 rfl ?_
          refine x_icmp_eq (pc2 := 76) 82 dX2_readClause_73 (by decide) rfl (fun c5 => ?_) (fun c5 => ?_)
          · replace ht := ht.1 c5
            exact ht
          · replace ht := ht.2 c5
            refine x_aload_n (pc2 := 77) 1 (n := 1) (x := a1) rfl dX2_readClause_76 rfl ?_
            refine x_iconst (pc2 := 78) (v := 0) (by decide) dX2_readClause_77 rfl ?_
            obtain ⟨k9, ht⟩ := ht
            refine x_callV (pc2 := 81) (As := [.int 0]) (rest := []) (b := a1) mv_X8_fail ml_X2_47 k9 rfl rfl (Nat.le_of_ble_eq_true rfl) hd1 dX2_readClause_78 rfl (ht.mono (fun r6 h7 p8 ht' => ?_))
            clear ht
            obtain ⟨v10, rfl, ht⟩ := ht'
            show Ex G d mX2_readClause 81 [(0, .ref a0), (1, .ref a1), (2, .ref a2), (3, .int x3), (4, .int x4), (5, .int x5), (6, .int sx0)] [.int v10] h7 Q
            exact x_retZ rfl ht.1 dX2_readClause_81 ht.2
def T_X2_readClause_82 (G : GG) (d : Nat) (h : HP) (Q : Option Value → HP → Prop) (a0 : Nat) (a1 : Nat) (a2 : Nat) (x3 : Int32) (x4 : Int32) (x5 : Int32) (x6 : Int32) : Prop :=
  ((24 ≤ x3 → Kd G h a1 8 ∧ Cal G (d - 1) mX8_fail [.ref a1, .int 4] h (fun r2 h3 => ∃ v6, r2 = some (.int v6) ∧ ((v6 = 0 ∨ v6 = 1) ∧ Q (some (.int v6)) h3))) ∧ (¬ 24 ≤ x3 → ((x5 = 0 → Ex G d mX2_readClause 100 [(0, .ref a0), (1, .ref a1), (2, .ref a2), (3, .int x3), (4, .int x4), (5, .int x5), (6, .int x6)] [] h Q) ∧ (¬ x5 = 0 → Kd G h a0 2 ∧ ((¬ (hI h a0 0) = 0 → Kd G h a1 8 ∧ Cal G (d - 1) mX8_fail [.ref a1, .int 4] h (fun r10 h11 => ∃ v14, r10 = some (.int v14) ∧ ((v14 = 0 ∨ v14 = 1) ∧ Q (some (.int v14)) h11))) ∧ ((hI h a0 0) = 0 → Ex G d mX2_readClause 100 [(0, .ref a0), (1, .ref a1), (2, .ref a2), (3, .int x3), (4, .int x4), (5, .int x5), (6, .int x6)] [] h Q))))))
set_option maxRecDepth 20000 in
theorem t_X2_readClause_82 {G : GG} {d : Nat} {h : HP} {Q : Option Value → HP → Prop} {a0 : Nat} {a1 : Nat} {a2 : Nat} {x3 : Int32} {x4 : Int32} {x5 : Int32} {x6 : Int32} (hd1 : 1 ≤ d) (ht : T_X2_readClause_82 G d h Q a0 a1 a2 x3 x4 x5 x6) : Ex G d mX2_readClause 82 [(0, .ref a0), (1, .ref a1), (2, .ref a2), (3, .int x3), (4, .int x4), (5, .int x5), (6, .int x6)] [] h Q := by
  unfold T_X2_readClause_82 at ht
  refine x_iload_n (pc2 := 83) 3 (n := 3) (x := x3) rfl dX2_readClause_82 rfl ?_
  refine x_bipush (pc2 := 85) (v := 24) (by decide) dX2_readClause_83 rfl ?_
  refine x_icmp_ge (pc2 := 88) 114 dX2_readClause_85 (by decide) rfl (fun c1 => ?_) (fun c1 => ?_)
  · replace ht := ht.1 c1
    refine x_aload_n (pc2 := 115) 1 (n := 1) (x := a1) rfl dX2_readClause_114 rfl ?_
    refine x_iconst (pc2 := 116) (v := 4) (by decide) dX2_readClause_115 rfl ?_
    obtain ⟨k5, ht⟩ := ht
    refine x_callV (pc2 := 119) (As := [.int 4]) (rest := []) (b := a1) mv_X8_fail ml_X2_47 k5 rfl rfl (Nat.le_of_ble_eq_true rfl) hd1 dX2_readClause_116 rfl (ht.mono (fun r2 h3 p4 ht' => ?_))
    clear ht
    obtain ⟨v6, rfl, ht⟩ := ht'
    show Ex G d mX2_readClause 119 [(0, .ref a0), (1, .ref a1), (2, .ref a2), (3, .int x3), (4, .int x4), (5, .int x5), (6, .int x6)] [.int v6] h3 Q
    exact x_retZ rfl ht.1 dX2_readClause_119 ht.2
  · replace ht := ht.2 c1
    refine x_iload (pc2 := 90) 5 (n := 5) (x := x5) rfl dX2_readClause_88 rfl ?_
    refine x_if_eq (pc2 := 93) 100 dX2_readClause_90 (by decide) rfl (fun c7 => ?_) (fun c7 => ?_)
    · replace ht := ht.1 c7
      exact ht
    · replace ht := ht.2 c7
      refine x_aload_n (pc2 := 94) 0 (n := 0) (x := a0) rfl dX2_readClause_93 rfl ?_
      obtain ⟨k8, ht⟩ := ht
      refine y_getI (pc2 := 97) (κ := 2) (k := 0) fl_X2_14 (by decide) (by decide) k8 rfl dX2_readClause_94 rfl ?_
      refine y_if_ne (pc2 := 100) 114 dX2_readClause_97 (by decide) rfl (fun c9 => ?_) (fun c9 => ?_)
      · replace ht := ht.1 c9
        refine x_aload_n (pc2 := 115) 1 (n := 1) (x := a1) rfl dX2_readClause_114 rfl ?_
        refine x_iconst (pc2 := 116) (v := 4) (by decide) dX2_readClause_115 rfl ?_
        obtain ⟨k13, ht⟩ := ht
        refine x_callV (pc2 := 119) (As := [.int 4]) (rest := []) (b := a1) mv_X8_fail ml_X2_47 k13 rfl rfl (Nat.le_of_ble_eq_true rfl) hd1 dX2_readClause_116 rfl (ht.mono (fun r10 h11 p12 ht' => ?_))
        clear ht
        obtain ⟨v14, rfl, ht⟩ := ht'
        show Ex G d mX2_readClause 119 [(0, .ref a0), (1, .ref a1), (2, .ref a2), (3, .int x3), (4, .int x4), (5, .int x5), (6, .int x6)] [.int v14] h11 Q
        exact x_retZ rfl ht.1 dX2_readClause_119 ht.2
      · replace ht := ht.2 c9
        exact ht
def T_X2_readClause_100 (G : GG) (d : Nat) (h : HP) (Q : Option Value → HP → Prop) (a0 : Nat) (a1 : Nat) (a2 : Nat) (x3 : Int32) (x4 : Int32) (x5 : Int32) (x6 : Int32) : Prop :=
  ((x6 = 0 → Ex G d mX2_readClause 120 [(0, .ref a0), (1, .ref a1), (2, .ref a2), (3, .int x3), (4, .int x4), (5, .int x5), (6, .int x6)] [] h Q) ∧ (¬ x6 = 0 → Kd G h a2 6 ∧ (((hI h a2 2) < 6 → Ex G d mX2_readClause 120 [(0, .ref a0), (1, .ref a1), (2, .ref a2), (3, .int x3), (4, .int x4), (5, .int x5), (6, .int x6)] [] h Q) ∧ (¬ (hI h a2 2) < 6 → Kd G h a1 8 ∧ Cal G (d - 1) mX8_fail [.ref a1, .int 4] h (fun r4 h5 => ∃ v8, r4 = some (.int v8) ∧ ((v8 = 0 ∨ v8 = 1) ∧ Q (some (.int v8)) h5))))))
set_option maxRecDepth 20000 in
theorem t_X2_readClause_100 {G : GG} {d : Nat} {h : HP} {Q : Option Value → HP → Prop} {a0 : Nat} {a1 : Nat} {a2 : Nat} {x3 : Int32} {x4 : Int32} {x5 : Int32} {x6 : Int32} (hd1 : 1 ≤ d) (ht : T_X2_readClause_100 G d h Q a0 a1 a2 x3 x4 x5 x6) : Ex G d mX2_readClause 100 [(0, .ref a0), (1, .ref a1), (2, .ref a2), (3, .int x3), (4, .int x4), (5, .int x5), (6, .int x6)] [] h Q := by
  unfold T_X2_readClause_100 at ht
  refine x_iload (pc2 := 102) 6 (n := 6) (x := x6) rfl dX2_readClause_100 rfl ?_
  refine x_if_eq (pc2 := 105) 120 dX2_readClause_102 (by decide) rfl (fun c1 => ?_) (fun c1 => ?_)
  · replace ht := ht.1 c1
    exact ht
  · replace ht := ht.2 c1
    refine x_aload_n (pc2 := 106) 2 (n := 2) (x := a2) rfl dX2_readClause_105 rfl ?_
    obtain ⟨k2, ht⟩ := ht
    refine y_getI (pc2 := 109) (κ := 6) (k := 2) fl_X2_51 (by decide) (by decide) k2 rfl dX2_readClause_106 rfl ?_
    refine x_bipush (pc2 := 111) (v := 6) (by decide) dX2_readClause_109 rfl ?_
    refine x_icmp_lt (pc2 := 114) 120 dX2_readClause_111 (by decide) rfl (fun c3 => ?_) (fun c3 => ?_)
    · replace ht := ht.1 c3
      exact ht
    · replace ht := ht.2 c3
      refine x_aload_n (pc2 := 115) 1 (n := 1) (x := a1) rfl dX2_readClause_114 rfl ?_
      refine x_iconst (pc2 := 116) (v := 4) (by decide) dX2_readClause_115 rfl ?_
      obtain ⟨k7, ht⟩ := ht
      refine x_callV (pc2 := 119) (As := [.int 4]) (rest := []) (b := a1) mv_X8_fail ml_X2_47 k7 rfl rfl (Nat.le_of_ble_eq_true rfl) hd1 dX2_readClause_116 rfl (ht.mono (fun r4 h5 p6 ht' => ?_))
      clear ht
      obtain ⟨v8, rfl, ht⟩ := ht'
      show Ex G d mX2_readClause 119 [(0, .ref a0), (1, .ref a1), (2, .ref a2), (3, .int x3), (4, .int x4), (5, .int x5), (6, .int x6)] [.int v8] h5 Q
      exact x_retZ rfl ht.1 dX2_readClause_119 ht.2
def T_X2_readClause_120 (G : GG) (d : Nat) (h : HP) (Q : Option Value → HP → Prop) (a0 : Nat) (a1 : Nat) (a2 : Nat) (x3 : Int32) (x4 : Int32) (x5 : Int32) (x6 : Int32) : Prop :=
  Kd G h a1 8 ∧ Cal G (d - 1) mX8_next [.ref a1] h (fun r1 h2 => r1 = none ∧ ((x4 = 4 → Kd G h2 a0 2 ∧ Cal G (d - 1) mX2_readWorth [.ref a0, .ref a1, .ref a2] h2 (fun r6 h7 => ∃ v10, r6 = some (.int v10) ∧ ((v10 = 0 ∨ v10 = 1) ∧ Q (some (.int v10)) h7))) ∧ (¬ x4 = 4 → ((x4 = 6 → Kd G h2 a0 2 ∧ Cal G (d - 1) mX2_readRiver [.ref a0, .ref a1, .ref a2] h2 (fun r12 h13 => ∃ v16, r12 = some (.int v16) ∧ ((v16 = 0 ∨ v16 = 1) ∧ Q (some (.int v16)) h13))) ∧ (¬ x4 = 6 → ((x4 = 20 → Kd G h2 a0 2 ∧ Cal G (d - 1) mX2_readWide [.ref a0, .ref a1, .ref a2] h2 (fun r18 h19 => ∃ v22, r18 = some (.int v22) ∧ ((v22 = 0 ∨ v22 = 1) ∧ Q (some (.int v22)) h19))) ∧ (¬ x4 = 20 → ((x4 = 22 → Kd G h2 a0 2 ∧ Cal G (d - 1) mX2_readHouse [.ref a0, .ref a1, .ref a2] h2 (fun r24 h25 => ∃ v28, r24 = some (.int v28) ∧ ((v28 = 0 ∨ v28 = 1) ∧ Q (some (.int v28)) h25))) ∧ (¬ x4 = 22 → Kd G h2 a0 2 ∧ Cal G (d - 1) mX2_readWell [.ref a0, .ref a1, .ref a2] h2 (fun r29 h30 => ∃ v33, r29 = some (.int v33) ∧ ((v33 = 0 ∨ v33 = 1) ∧ Q (some (.int v33)) h30)))))))))))
set_option maxRecDepth 20000 in
theorem t_X2_readClause_120 {G : GG} {d : Nat} {h : HP} {Q : Option Value → HP → Prop} {a0 : Nat} {a1 : Nat} {a2 : Nat} {x3 : Int32} {x4 : Int32} {x5 : Int32} {x6 : Int32} (hd1 : 1 ≤ d) (ht : T_X2_readClause_120 G d h Q a0 a1 a2 x3 x4 x5 x6) : Ex G d mX2_readClause 120 [(0, .ref a0), (1, .ref a1), (2, .ref a2), (3, .int x3), (4, .int x4), (5, .int x5), (6, .int x6)] [] h Q := by
  unfold T_X2_readClause_120 at ht
  refine x_aload_n (pc2 := 121) 1 (n := 1) (x := a1) rfl dX2_readClause_120 rfl ?_
  obtain ⟨k4, ht⟩ := ht
  refine x_callV (pc2 := 124) (As := []) (rest := []) (b := a1) mv_X8_next ml_X2_54 k4 rfl rfl (Nat.le_of_ble_eq_true rfl) hd1 dX2_readClause_121 rfl (ht.mono (fun r1 h2 p3 ht' => ?_))
  clear ht
  obtain ⟨rfl, ht⟩ := ht'
  show Ex G d mX2_readClause 124 [(0, .ref a0), (1, .ref a1), (2, .ref a2), (3, .int x3), (4, .int x4), (5, .int x5), (6, .int x6)] [] h2 Q
  refine x_iload (pc2 := 126) 4 (n := 4) (x := x4) rfl dX2_readClause_124 rfl ?_
  refine y_lcase (x := x4) 4 182 dX2_readClause_126 (by decide) rfl (by decide) (fun c5 => ?_) (fun c5 => ?_)
  · replace ht := ht.1 c5
    refine x_aload_n (pc2 := 183) 0 (n := 0) (x := a0) rfl dX2_readClause_182 rfl ?_
    refine x_aload_n (pc2 := 184) 1 (n := 1) (x := a1) rfl dX2_readClause_183 rfl ?_
    refine x_aload_n (pc2 := 185) 2 (n := 2) (x := a2) rfl dX2_readClause_184 rfl ?_
    obtain ⟨k9, ht⟩ := ht
    refine x_callV (pc2 := 188) (As := [.ref a1, .ref a2]) (rest := []) (b := a0) mv_X2_readWorth ml_X2_64 k9 rfl rfl (Nat.le_of_ble_eq_true rfl) hd1 dX2_readClause_185 rfl (ht.mono (fun r6 h7 p8 ht' => ?_))
    clear ht
    obtain ⟨v10, rfl, ht⟩ := ht'
    show Ex G d mX2_readClause 188 [(0, .ref a0), (1, .ref a1), (2, .ref a2), (3, .int x3), (4, .int x4), (5, .int x5), (6, .int x6)] [.int v10] h7 Q
    exact x_retZ rfl ht.1 dX2_readClause_188 ht.2
  replace ht := ht.2 c5
  refine y_lcase (x := x4) 6 189 dX2_readClause_126 (by decide) rfl (by decide) (fun c11 => ?_) (fun c11 => ?_)
  · replace ht := ht.1 c11
    refine x_aload_n (pc2 := 190) 0 (n := 0) (x := a0) rfl dX2_readClause_189 rfl ?_
    refine x_aload_n (pc2 := 191) 1 (n := 1) (x := a1) rfl dX2_readClause_190 rfl ?_
    refine x_aload_n (pc2 := 192) 2 (n := 2) (x := a2) rfl dX2_readClause_191 rfl ?_
    obtain ⟨k15, ht⟩ := ht
    refine x_callV (pc2 := 195) (As := [.ref a1, .ref a2]) (rest := []) (b := a0) mv_X2_readRiver ml_X2_67 k15 rfl rfl (Nat.le_of_ble_eq_true rfl) hd1 dX2_readClause_192 rfl (ht.mono (fun r12 h13 p14 ht' => ?_))
    clear ht
    obtain ⟨v16, rfl, ht⟩ := ht'
    show Ex G d mX2_readClause 195 [(0, .ref a0), (1, .ref a1), (2, .ref a2), (3, .int x3), (4, .int x4), (5, .int x5), (6, .int x6)] [.int v16] h13 Q
    exact x_retZ rfl ht.1 dX2_readClause_195 ht.2
  replace ht := ht.2 c11
  refine y_lcase (x := x4) 20 168 dX2_readClause_126 (by decide) rfl (by decide) (fun c17 => ?_) (fun c17 => ?_)
  · replace ht := ht.1 c17
    refine x_aload_n (pc2 := 169) 0 (n := 0) (x := a0) rfl dX2_readClause_168 rfl ?_
    refine x_aload_n (pc2 := 170) 1 (n := 1) (x := a1) rfl dX2_readClause_169 rfl ?_
    refine x_aload_n (pc2 := 171) 2 (n := 2) (x := a2) rfl dX2_readClause_170 rfl ?_
    obtain ⟨k21, ht⟩ := ht
    refine x_callV (pc2 := 174) (As := [.ref a1, .ref a2]) (rest := []) (b := a0) mv_X2_readWide ml_X2_57 k21 rfl rfl (Nat.le_of_ble_eq_true rfl) hd1 dX2_readClause_171 rfl (ht.mono (fun r18 h19 p20 ht' => ?_))
    clear ht
    obtain ⟨v22, rfl, ht⟩ := ht'
    show Ex G d mX2_readClause 174 [(0, .ref a0), (1, .ref a1), (2, .ref a2), (3, .int x3), (4, .int x4), (5, .int x5), (6, .int x6)] [.int v22] h19 Q
    exact x_retZ rfl ht.1 dX2_readClause_174 ht.2
  replace ht := ht.2 c17
  refine y_lcase (x := x4) 22 175 dX2_readClause_126 (by decide) rfl (by decide) (fun c23 => ?_) (fun c23 => ?_)
  · replace ht := ht.1 c23
    refine x_aload_n (pc2 := 176) 0 (n := 0) (x := a0) rfl dX2_readClause_175 rfl ?_
    refine x_aload_n (pc2 := 177) 1 (n := 1) (x := a1) rfl dX2_readClause_176 rfl ?_
    refine x_aload_n (pc2 := 178) 2 (n := 2) (x := a2) rfl dX2_readClause_177 rfl ?_
    obtain ⟨k27, ht⟩ := ht
    refine x_callV (pc2 := 181) (As := [.ref a1, .ref a2]) (rest := []) (b := a0) mv_X2_readHouse ml_X2_61 k27 rfl rfl (Nat.le_of_ble_eq_true rfl) hd1 dX2_readClause_178 rfl (ht.mono (fun r24 h25 p26 ht' => ?_))
    clear ht
    obtain ⟨v28, rfl, ht⟩ := ht'
    show Ex G d mX2_readClause 181 [(0, .ref a0), (1, .ref a1), (2, .ref a2), (3, .int x3), (4, .int x4), (5, .int x5), (6, .int x6)] [.int v28] h25 Q
    exact x_retZ rfl ht.1 dX2_readClause_181 ht.2
  replace ht := ht.2 c23
  have wc5 := ne_ti (z := 4) rfl c5
  have wc11 := ne_ti (z := 6) rfl c11
  have wc17 := ne_ti (z := 20) rfl c17
  have wc23 := ne_ti (z := 22) rfl c23
  refine x_lookup (x := x4) 196 dX2_readClause_126 (by decide) (off := 70) (by simp [Op.lookupswitch.offset, Ne.symm wc5, Ne.symm wc11, Ne.symm wc17, Ne.symm wc23, wc5, wc11, wc17, wc23]) (by decide) ?_
  refine x_aload_n (pc2 := 197) 0 (n := 0) (x := a0) rfl dX2_readClause_196 rfl ?_
  refine x_aload_n (pc2 := 198) 1 (n := 1) (x := a1) rfl dX2_readClause_197 rfl ?_
  refine x_aload_n (pc2 := 199) 2 (n := 2) (x := a2) rfl dX2_readClause_198 rfl ?_
  obtain ⟨k32, ht⟩ := ht
  refine x_callV (pc2 := 202) (As := [.ref a1, .ref a2]) (rest := []) (b := a0) mv_X2_readWell ml_X2_70 k32 rfl rfl (Nat.le_of_ble_eq_true rfl) hd1 dX2_readClause_199 rfl (ht.mono (fun r29 h30 p31 ht' => ?_))
  clear ht
  obtain ⟨v33, rfl, ht⟩ := ht'
  show Ex G d mX2_readClause 202 [(0, .ref a0), (1, .ref a1), (2, .ref a2), (3, .int x3), (4, .int x4), (5, .int x5), (6, .int x6)] [.int v33] h30 Q
  exact x_retZ rfl ht.1 dX2_readClause_202 ht.2
def T_X2_readWide (G : GG) (d : Nat) (h : HP) (Q : Option Value → HP → Prop) (a0 : Nat) (a1 : Nat) (a2 : Nat) : Prop :=
  Kd G h a0 2 ∧ Kd G (sI h a0 0 1) a1 8 ∧ Cal G (d - 1) mX8_number [.ref a1, .int 5, .int 40] (sI h a0 0 1) (fun r2 h3 => ∃ v6, r2 = some (.int v6) ∧ ((¬ v6 = (-1) → Cal G (d - 1) mX8_number [.ref a1, .int 5, .int 40] h3 (fun r8 h9 => ∃ v11, r8 = some (.int v11) ∧ ((¬ v11 = (-1) → Kd G h9 a2 6 ∧ Q (some (.int 1)) (sI (sI h9 a2 0 v6) a2 1 v11)) ∧ (v11 = (-1) → Q (some (.int 0)) h9)))) ∧ (v6 = (-1) → Q (some (.int 0)) h3)))
set_option maxRecDepth 20000 in
theorem t_X2_readWide {G : GG} {d : Nat} {h : HP} {Q : Option Value → HP → Prop} {a0 : Nat} {a1 : Nat} {a2 : Nat} (hd1 : 1 ≤ d) (ht : T_X2_readWide G d h Q a0 a1 a2) : Ex G d mX2_readWide 0 [(0, .ref a0), (1, .ref a1), (2, .ref a2)] [] h Q := by
  unfold T_X2_readWide at ht
  refine x_aload_n (pc2 := 1) 0 (n := 0) (x := a0) rfl dX2_readWide_0 rfl ?_
  refine x_iconst (pc2 := 2) (v := 1) (by decide) dX2_readWide_1 rfl ?_
  obtain ⟨k1, ht⟩ := ht
  refine x_putZ (pc2 := 5) (κ := 2) (k := 0) (Or.inr rfl) fl_X2_14 (by decide) (by decide) (Or.inl rfl) rfl k1 dX2_readWide_2 rfl ?_
  refine x_aload_n (pc2 := 6) 1 (n := 1) (x := a1) rfl dX2_readWide_5 rfl ?_
  refine x_iconst (pc2 := 7) (v := 5) (by decide) dX2_readWide_6 rfl ?_
  refine x_bipush (pc2 := 9) (v := 40) (by decide) dX2_readWide_7 rfl ?_
  obtain ⟨k5, ht⟩ := ht
  refine x_callV (pc2 := 12) (As := [.int 5, .int 40]) (rest := []) (b := a1) mv_X8_number ml_X2_73 k5 rfl rfl (Nat.le_of_ble_eq_true rfl) hd1 dX2_readWide_9 rfl (ht.mono (fun r2 h3 p4 ht' => ?_))
  clear ht
  obtain ⟨v6, rfl, ht⟩ := ht'
  show Ex G d mX2_readWide 12 [(0, .ref a0), (1, .ref a1), (2, .ref a2)] [.int v6] h3 Q
  refine x_istore_n (pc2 := 13) [1, 2, 3, 0] (n := 3) (x := v6) (lv2 := [(0, .ref a0), (1, .ref a1), (2, .ref a2), (3, .int v6)]) (by decide) rfl dX2_readWide_12 rfl ?_
  refine x_iload_n (pc2 := 14) 3 (n := 3) (x := v6) rfl dX2_readWide_13 rfl ?_
  refine x_iconst (pc2 := 15) (v := (-1)) (by decide) dX2_readWide_14 rfl ?_
  refine y_icmp_ne (pc2 := 18) 20 dX2_readWide_15 (by decide) rfl (fun c7 => ?_) (fun c7 => ?_)
  · replace ht := ht.1 c7
    refine x_aload_n (pc2 := 21) 1 (n := 1) (x := a1) rfl dX2_readWide_20 rfl ?_
    refine x_iconst (pc2 := 22) (v := 5) (by decide) dX2_readWide_21 rfl ?_
    refine x_bipush (pc2 := 24) (v := 40) (by decide) dX2_readWide_22 rfl ?_
    refine x_callV (pc2 := 27) (As := [.int 5, .int 40]) (rest := []) (b := a1) mv_X8_number ml_X2_73 (k5.up p4) rfl rfl (Nat.le_of_ble_eq_true rfl) hd1 dX2_readWide_24 rfl (ht.mono (fun r8 h9 p10 ht' => ?_))
    clear ht
    obtain ⟨v11, rfl, ht⟩ := ht'
    show Ex G d mX2_readWide 27 [(0, .ref a0), (1, .ref a1), (2, .ref a2), (3, .int v6)] [.int v11] h9 Q
    refine x_istore (pc2 := 29) [1, 2, 3, 4, 0] (n := 4) (x := v11) (lv2 := [(0, .ref a0), (1, .ref a1), (2, .ref a2), (3, .int v6), (4, .int v11)]) (by decide) rfl dX2_readWide_27 rfl ?_
    refine x_iload (pc2 := 31) 4 (n := 4) (x := v11) rfl dX2_readWide_29 rfl ?_
    refine x_iconst (pc2 := 32) (v := (-1)) (by decide) dX2_readWide_31 rfl ?_
    refine y_icmp_ne (pc2 := 35) 37 dX2_readWide_32 (by decide) rfl (fun c12 => ?_) (fun c12 => ?_)
    · replace ht := ht.1 c12
      refine x_aload_n (pc2 := 38) 2 (n := 2) (x := a2) rfl dX2_readWide_37 rfl ?_
      refine x_iload_n (pc2 := 39) 3 (n := 3) (x := v6) rfl dX2_readWide_38 rfl ?_
      obtain ⟨k13, ht⟩ := ht
      refine x_putI (pc2 := 42) (κ := 6) (k := 0) fl_X2_77 (by decide) (by decide) (Or.inl rfl) rfl k13 dX2_readWide_39 rfl ?_
      refine x_aload_n (pc2 := 43) 2 (n := 2) (x := a2) rfl dX2_readWide_42 rfl ?_
      refine x_iload (pc2 := 45) 4 (n := 4) (x := v11) rfl dX2_readWide_43 rfl ?_
      refine x_putI (pc2 := 48) (κ := 6) (k := 1) fl_X2_80 (by decide) (by decide) (Or.inl rfl) rfl k13.sI dX2_readWide_45 rfl ?_
      refine x_iconst (pc2 := 49) (v := 1) (by decide) dX2_readWide_48 rfl ?_
      exact x_retZ rfl (Or.inr rfl) dX2_readWide_49 ht
    · replace ht := ht.2 c12
      refine x_iconst (pc2 := 36) (v := 0) (by decide) dX2_readWide_35 rfl ?_
      exact x_retZ rfl (Or.inl rfl) dX2_readWide_36 ht
  · replace ht := ht.2 c7
    refine x_iconst (pc2 := 19) (v := 0) (by decide) dX2_readWide_18 rfl ?_
    exact x_retZ rfl (Or.inl rfl) dX2_readWide_19 ht
theorem e_X2_readWide {G : GG} {d : Nat} {h : HP} {Q : Option Value → HP → Prop} {a0 : Nat} {a1 : Nat} {a2 : Nat} (hd1 : 1 ≤ d) (ht : T_X2_readWide G d h Q a0 a1 a2) : Cal G d mX2_readWide [.ref a0, .ref a1, .ref a2] h Q := cal_of rfl (Nat.le_of_ble_eq_true rfl) (t_X2_readWide hd1 ht)
def T_X2_readHouse (G : GG) (d : Nat) (h : HP) (Q : Option Value → HP → Prop) (a0 : Nat) (a1 : Nat) (a2 : Nat) : Prop :=
  Kd G h a1 8 ∧ Kd G h a0 2 ∧ Cal G (d - 1) mX2_readArea [.ref a0, .ref a1] h (fun r2 h3 => ∃ v6, r2 = some (.int v6) ∧ ((¬ v6 = 0 → Kd G h3 a2 6 ∧ ∃ q9, hR h3 a2 7 = some q9 ∧ Kd G h3 q9 20 ∧ vp_in (hI h3 a2 2) (hN h3 q9) ∧ ∃ q13, hR h3 q9 (hI h3 a2 2).toNatClampNeg = some q13 ∧ Kd G h3 q13 9 ∧ Cal G (d - 1) mX9_rise [.ref q13, .int (hI h3 a0 1), .int (hI h3 a0 2), .int (hI h3 a0 3), .int (hI h3 a0 4), .int (-1)] h3 (fun r15 h16 => r15 = none ∧ Ex G d mX2_readHouse 51 [(0, .ref a0), (1, .ref a1), (2, .ref a2), (3, .int (hI h a1 3)), (4, .ref q13), (5, .int 0)] [] h16 Q)) ∧ (v6 = 0 → Q (some (.int 0)) h3)))
set_option maxRecDepth 20000 in
theorem t_X2_readHouse {G : GG} {d : Nat} {h : HP} {Q : Option Value → HP → Prop} {a0 : Nat} {a1 : Nat} {a2 : Nat} (hd1 : 1 ≤ d) (ht : T_X2_readHouse G d h Q a0 a1 a2) : Ex G d mX2_readHouse 0 [(0, .ref a0), (1, .ref a1), (2, .ref a2)] [] h Q := by
  unfold T_X2_readHouse at ht
  refine x_aload_n (pc2 := 1) 1 (n := 1) (x := a1) rfl dX2_readHouse_0 rfl ?_
  obtain ⟨k1, ht⟩ := ht
  refine y_getI (pc2 := 4) (κ := 8) (k := 3) fl_X2_83 (by decide) (by decide) k1 rfl dX2_readHouse_1 rfl ?_
  refine x_istore_n (pc2 := 5) [1, 2, 3, 0] (n := 3) (x := (hI h a1 3)) (lv2 := [(0, .ref a0), (1, .ref a1), (2, .ref a2), (3, .int (hI h a1 3))]) (by decide) rfl dX2_readHouse_4 rfl ?_
  refine x_aload_n (pc2 := 6) 0 (n := 0) (x := a0) rfl dX2_readHouse_5 rfl ?_
  refine x_aload_n (pc2 := 7) 1 (n := 1) (x := a1) rfl dX2_readHouse_6 rfl ?_
  obtain ⟨k5, ht⟩ := ht
  refine x_callV (pc2 := 10) (As := [.ref a1]) (rest := []) (b := a0) mv_X2_readArea ml_X2_86 k5 rfl rfl (Nat.le_of_ble_eq_true rfl) hd1 dX2_readHouse_7 rfl (ht.mono (fun r2 h3 p4 ht' => ?_))
  clear ht
  obtain ⟨v6, rfl, ht⟩ := ht'
  show Ex G d mX2_readHouse 10 [(0, .ref a0), (1, .ref a1), (2, .ref a2), (3, .int (hI h a1 3))] [.int v6] h3 Q
  refine y_if_ne (pc2 := 13) 15 dX2_readHouse_10 (by decide) rfl (fun c7 => ?_) (fun c7 => ?_)
  · replace ht := ht.1 c7
    refine x_aload_n (pc2 := 16) 2 (n := 2) (x := a2) rfl dX2_readHouse_15 rfl ?_
    obtain ⟨k8, ht⟩ := ht
    obtain ⟨q9, e10, ht⟩ := ht
    refine y_getR (pc2 := 19) (κ := 6) (k := 7) fl_X2_90 (by decide) (by decide) k8 rfl e10 dX2_readHouse_16 rfl ?_
    refine x_aload_n (pc2 := 20) 2 (n := 2) (x := a2) rfl dX2_readHouse_19 rfl ?_
    refine y_getI (pc2 := 23) (κ := 6) (k := 2) fl_X2_51 (by decide) (by decide) k8 rfl dX2_readHouse_20 rfl ?_
    obtain ⟨k11, ht⟩ := ht
    obtain ⟨b12, ht⟩ := ht
    obtain ⟨q13, e14, ht⟩ := ht
    refine y_aaldR (pc2 := 24) (κ := 20) (by decide) k11 b12 e14 dX2_readHouse_23 rfl ?_
    refine x_astore (pc2 := 26) [1, 2, 3, 4, 0] (n := 4) (x := q13) (lv2 := [(0, .ref a0), (1, .ref a1), (2, .ref a2), (3, .int (hI h a1 3)), (4, .ref q13)]) (by decide) rfl dX2_readHouse_24 rfl ?_
    refine x_aload (pc2 := 28) 4 (n := 4) (x := q13) rfl dX2_readHouse_26 rfl ?_
    refine x_aload_n (pc2 := 29) 0 (n := 0) (x := a0) rfl dX2_readHouse_28 rfl ?_
    refine y_getI (pc2 := 32) (κ := 2) (k := 1) fl_X2_94 (by decide) (by decide) (k5.up p4) rfl dX2_readHouse_29 rfl ?_
    refine x_aload_n (pc2 := 33) 0 (n := 0) (x := a0) rfl dX2_readHouse_32 rfl ?_
    refine y_getI (pc2 := 36) (κ := 2) (k := 2) fl_X2_97 (by decide) (by decide) (k5.up p4) rfl dX2_readHouse_33 rfl ?_
    refine x_aload_n (pc2 := 37) 0 (n := 0) (x := a0) rfl dX2_readHouse_36 rfl ?_
    refine y_getI (pc2 := 40) (κ := 2) (k := 3) fl_X2_100 (by decide) (by decide) (k5.up p4) rfl dX2_readHouse_37 rfl ?_
    refine x_aload_n (pc2 := 41) 0 (n := 0) (x := a0) rfl dX2_readHouse_40 rfl ?_
    refine y_getI (pc2 := 44) (κ := 2) (k := 4) fl_X2_103 (by decide) (by decide) (k5.up p4) rfl dX2_readHouse_41 rfl ?_
    refine x_iconst (pc2 := 45) (v := (-1)) (by decide) dX2_readHouse_44 rfl ?_
    obtain ⟨k18, ht⟩ := ht
    refine x_callV (pc2 := 48) (As := [.int (hI h3 a0 1), .int (hI h3 a0 2), .int (hI h3 a0 3), .int (hI h3 a0 4), .int (-1)]) (rest := []) (b := q13) mv_X9_rise ml_X2_106 k18 rfl rfl (Nat.le_of_ble_eq_true rfl) hd1 dX2_readHouse_45 rfl (ht.mono (fun r15 h16 p17 ht' => ?_))
    clear ht
    obtain ⟨rfl, ht⟩ := ht'
    show Ex G d mX2_readHouse 48 [(0, .ref a0), (1, .ref a1), (2, .ref a2), (3, .int (hI h a1 3)), (4, .ref q13)] [] h16 Q
    refine x_iconst (pc2 := 49) (v := 0) (by decide) dX2_readHouse_48 rfl ?_
    refine x_istore (pc2 := 51) [1, 2, 3, 4, 5, 0] (n := 5) (x := 0) (lv2 := [(0, .ref a0), (1, .ref a1), (2, .ref a2), (3, .int (hI h a1 3)), (4, .ref q13), (5, .int 0)]) (by decide) rfl dX2_readHouse_49 rfl ?_
    exact ht
  · replace ht := ht.2 c7
    refine x_iconst (pc2 := 14) (v := 0) (by decide) dX2_readHouse_13 rfl ?_
    exact x_retZ rfl (Or.inl rfl) dX2_readHouse_14 ht
theorem e_X2_readHouse {G : GG} {d : Nat} {h : HP} {Q : Option Value → HP → Prop} {a0 : Nat} {a1 : Nat} {a2 : Nat} (hd1 : 1 ≤ d) (ht : T_X2_readHouse G d h Q a0 a1 a2) : Cal G d mX2_readHouse [.ref a0, .ref a1, .ref a2] h Q := cal_of rfl (Nat.le_of_ble_eq_true rfl) (t_X2_readHouse hd1 ht)
def T_X2_readHouse_51 (G : GG) (d : Nat) (h : HP) (Q : Option Value → HP → Prop) (a0 : Nat) (a1 : Nat) (a2 : Nat) (x3 : Int32) (a4 : Nat) (x5 : Int32) : Prop :=
  Kd G h a2 6 ∧ (((hI h a2 2) ≤ x5 → Q (some (.int 1)) (sI h a2 2 ((hI h a2 2) + 1))) ∧ (¬ (hI h a2 2) ≤ x5 → ∃ q3, hR h a2 7 = some q3 ∧ Kd G h q3 20 ∧ vp_in x5 (hN h q3) ∧ ∃ q7, hR h q3 x5.toNatClampNeg = some q7 ∧ Kd G h a0 2 ∧ Cal G (d - 1) mX2_isClearOf [.ref a0, .ref q7] h (fun r9 h10 => ∃ v13, r9 = some (.int v13) ∧ ((¬ v13 = 0 → Ex G d mX2_readHouse 51 [(0, .ref a0), (1, .ref a1), (2, .ref a2), (3, .int x3), (4, .ref a4), (5, .int (x5 + 1))] [] h10 Q) ∧ (v13 = 0 → Kd G h10 a1 8 ∧ Cal G (d - 1) mX8_failAt [.ref a1, .int x3, .int 5] h10 (fun r15 h16 => ∃ v19, r15 = some (.int v19) ∧ ((v19 = 0 ∨ v19 = 1) ∧ Q (some (.int v19)) h16)))))))
set_option maxRecDepth 20000 in
theorem t_X2_readHouse_51 {G : GG} {d : Nat} {h : HP} {Q : Option Value → HP → Prop} {a0 : Nat} {a1 : Nat} {a2 : Nat} {x3 : Int32} {a4 : Nat} {x5 : Int32} (hd1 : 1 ≤ d) (ht : T_X2_readHouse_51 G d h Q a0 a1 a2 x3 a4 x5) : Ex G d mX2_readHouse 51 [(0, .ref a0), (1, .ref a1), (2, .ref a2), (3, .int x3), (4, .ref a4), (5, .int x5)] [] h Q := by
  unfold T_X2_readHouse_51 at ht
  refine x_iload (pc2 := 53) 5 (n := 5) (x := x5) rfl dX2_readHouse_51 rfl ?_
  refine x_aload_n (pc2 := 54) 2 (n := 2) (x := a2) rfl dX2_readHouse_53 rfl ?_
  obtain ⟨k1, ht⟩ := ht
  refine y_getI (pc2 := 57) (κ := 6) (k := 2) fl_X2_51 (by decide) (by decide) k1 rfl dX2_readHouse_54 rfl ?_
  refine x_icmp_ge (pc2 := 60) 87 dX2_readHouse_57 (by decide) rfl (fun c2 => ?_) (fun c2 => ?_)
  · replace ht := ht.1 c2
    refine x_aload_n (pc2 := 88) 2 (n := 2) (x := a2) rfl dX2_readHouse_87 rfl ?_
    refine x_dup (pc2 := 89) rfl dX2_readHouse_88 rfl ?_
    refine y_getI (pc2 := 92) (κ := 6) (k := 2) fl_X2_51 (by decide) (by decide) k1 rfl dX2_readHouse_89 rfl ?_
    refine x_iconst (pc2 := 93) (v := 1) (by decide) dX2_readHouse_92 rfl ?_
    refine x_iadd (pc2 := 94) dX2_readHouse_93 rfl ?_
    refine x_putI (pc2 := 97) (κ := 6) (k := 2) fl_X2_51 (by decide) (by decide) (Or.inl rfl) rfl k1 dX2_readHouse_94 rfl ?_
    refine x_iconst (pc2 := 98) (v := 1) (by decide) dX2_readHouse_97 rfl ?_
    exact x_retZ rfl (Or.inr rfl) dX2_readHouse_98 ht
  · replace ht := ht.2 c2
    refine x_aload_n (pc2 := 61) 0 (n := 0) (x := a0) rfl dX2_readHouse_60 rfl ?_
    refine x_aload_n (pc2 := 62) 2 (n := 2) (x := a2) rfl dX2_readHouse_61 rfl ?_
    obtain ⟨q3, e4, ht⟩ := ht
    refine y_getR (pc2 := 65) (κ := 6) (k := 7) fl_X2_90 (by decide) (by decide) k1 rfl e4 dX2_readHouse_62 rfl ?_
    refine x_iload (pc2 := 67) 5 (n := 5) (x := x5) rfl dX2_readHouse_65 rfl ?_
    obtain ⟨k5, ht⟩ := ht
    obtain ⟨b6, ht⟩ := ht
    obtain ⟨q7, e8, ht⟩ := ht
    refine y_aaldR (pc2 := 68) (κ := 20) (by decide) k5 b6 e8 dX2_readHouse_67 rfl ?_
    obtain ⟨k12, ht⟩ := ht
    refine x_callV (pc2 := 71) (As := [.ref q7]) (rest := []) (b := a0) mv_X2_isClearOf ml_X2_112 k12 rfl rfl (Nat.le_of_ble_eq_true rfl) hd1 dX2_readHouse_68 rfl (ht.mono (fun r9 h10 p11 ht' => ?_))
    clear ht
    obtain ⟨v13, rfl, ht⟩ := ht'
    show Ex G d mX2_readHouse 71 [(0, .ref a0), (1, .ref a1), (2, .ref a2), (3, .int x3), (4, .ref a4), (5, .int x5)] [.int v13] h10 Q
    refine y_if_ne (pc2 := 74) 81 dX2_readHouse_71 (by decide) rfl (fun c14 => ?_) (fun c14 => ?_)
    · replace ht := ht.1 c14
      refine x_iinc (pc2 := 84) 5 [1, 2, 3, 4, 5, 0] (i := 5) (x := x5) (v := (x5 + 1)) (lv2 := [(0, .ref a0), (1, .ref a1), (2, .ref a2), (3, .int x3), (4, .ref a4), (5, .int (x5 + 1))]) rfl (iinc_eq (by decide) _) (by decide) rfl dX2_readHouse_81 rfl ?_
      refine x_goto 51 dX2_readHouse_84 (by decide) ?_
      exact ht
    · replace ht := ht.2 c14
      refine x_aload_n (pc2 := 75) 1 (n := 1) (x := a1) rfl dX2_readHouse_74 rfl ?_
      refine x_iload_n (pc2 := 76) 3 (n := 3) (x := x3) rfl dX2_readHouse_75 rfl ?_
      refine x_iconst (pc2 := 77) (v := 5) (by decide) dX2_readHouse_76 rfl ?_
      obtain ⟨k18, ht⟩ := ht
      refine x_callV (pc2 := 80) (As := [.int x3, .int 5]) (rest := []) (b := a1) mv_X8_failAt ml_X2_116 k18 rfl rfl (Nat.le_of_ble_eq_true rfl) hd1 dX2_readHouse_77 rfl (ht.mono (fun r15 h16 p17 ht' => ?_))
      clear ht
      obtain ⟨v19, rfl, ht⟩ := ht'
      show Ex G d mX2_readHouse 80 [(0, .ref a0), (1, .ref a1), (2, .ref a2), (3, .int x3), (4, .ref a4), (5, .int x5)] [.int v19] h16 Q
      exact x_retZ rfl ht.1 dX2_readHouse_80 ht.2
def T_X2_isClearOf (G : GG) (d : Nat) (h : HP) (Q : Option Value → HP → Prop) (a0 : Nat) (a1 : Nat) : Prop :=
  Kd G h a0 2 ∧ Kd G h a1 9 ∧ Cal G (d - 1) mX3_areClear [.int (hI h a0 1), .int (hI h a0 3), .int (hI h a1 1), .int (hI h a1 3)] h (fun r3 h4 => ∃ v6, r3 = some (.int v6) ∧ ((¬ v6 = 0 → Q (some (.int 1)) h4) ∧ (v6 = 0 → Cal G (d - 1) mX3_areClear [.int (hI h4 a0 2), .int (hI h4 a0 4), .int (hI h4 a1 2), .int (hI h4 a1 4)] h4 (fun r8 h9 => ∃ v11, r8 = some (.int v11) ∧ ((v11 = 0 → Q (some (.int 0)) h9) ∧ (¬ v11 = 0 → Q (some (.int 1)) h9))))))
set_option maxRecDepth 20000 in
theorem t_X2_isClearOf {G : GG} {d : Nat} {h : HP} {Q : Option Value → HP → Prop} {a0 : Nat} {a1 : Nat} (hd1 : 1 ≤ d) (ht : T_X2_isClearOf G d h Q a0 a1) : Ex G d mX2_isClearOf 0 [(0, .ref a0), (1, .ref a1)] [] h Q := by
  unfold T_X2_isClearOf at ht
  refine x_aload_n (pc2 := 1) 0 (n := 0) (x := a0) rfl dX2_isClearOf_0 rfl ?_
  obtain ⟨k1, ht⟩ := ht
  refine y_getI (pc2 := 4) (κ := 2) (k := 1) fl_X2_94 (by decide) (by decide) k1 rfl dX2_isClearOf_1 rfl ?_
  refine x_aload_n (pc2 := 5) 0 (n := 0) (x := a0) rfl dX2_isClearOf_4 rfl ?_
  refine y_getI (pc2 := 8) (κ := 2) (k := 3) fl_X2_100 (by decide) (by decide) k1 rfl dX2_isClearOf_5 rfl ?_
  refine x_aload_n (pc2 := 9) 1 (n := 1) (x := a1) rfl dX2_isClearOf_8 rfl ?_
  obtain ⟨k2, ht⟩ := ht
  refine y_getI (pc2 := 12) (κ := 9) (k := 1) fl_X2_120 (by decide) (by decide) k2 rfl dX2_isClearOf_9 rfl ?_
  refine x_aload_n (pc2 := 13) 1 (n := 1) (x := a1) rfl dX2_isClearOf_12 rfl ?_
  refine y_getI (pc2 := 16) (κ := 9) (k := 3) fl_X2_121 (by decide) (by decide) k2 rfl dX2_isClearOf_13 rfl ?_
  refine x_callSN (pc2 := 19) (As := [.int (hI h a0 1), .int (hI h a0 3), .int (hI h a1 1), .int (hI h a1 3)]) (rest := []) ms_X3_areClear nl_X2_122 rfl rfl (Nat.le_of_ble_eq_true rfl) hd1 dX2_isClearOf_16 rfl (ht.mono (fun r3 h4 p5 ht' => ?_))
  clear ht
  obtain ⟨v6, rfl, ht⟩ := ht'
  show Ex G d mX2_isClearOf 19 [(0, .ref a0), (1, .ref a1)] [.int v6] h4 Q
  refine y_if_ne (pc2 := 22) 44 dX2_isClearOf_19 (by decide) rfl (fun c7 => ?_) (fun c7 => ?_)
  · replace ht := ht.1 c7
    refine x_iconst (pc2 := 45) (v := 1) (by decide) dX2_isClearOf_44 rfl ?_
    refine x_goto 49 dX2_isClearOf_45 (by decide) ?_
    exact x_retZ rfl (Or.inr rfl) dX2_isClearOf_49 ht
  · replace ht := ht.2 c7
    refine x_aload_n (pc2 := 23) 0 (n := 0) (x := a0) rfl dX2_isClearOf_22 rfl ?_
    refine y_getI (pc2 := 26) (κ := 2) (k := 2) fl_X2_97 (by decide) (by decide) (k1.up p5) rfl dX2_isClearOf_23 rfl ?_
    refine x_aload_n (pc2 := 27) 0 (n := 0) (x := a0) rfl dX2_isClearOf_26 rfl ?_
    refine y_getI (pc2 := 30) (κ := 2) (k := 4) fl_X2_103 (by decide) (by decide) (k1.up p5) rfl dX2_isClearOf_27 rfl ?_
    refine x_aload_n (pc2 := 31) 1 (n := 1) (x := a1) rfl dX2_isClearOf_30 rfl ?_
    refine y_getI (pc2 := 34) (κ := 9) (k := 2) fl_X2_128 (by decide) (by decide) (k2.up p5) rfl dX2_isClearOf_31 rfl ?_
    refine x_aload_n (pc2 := 35) 1 (n := 1) (x := a1) rfl dX2_isClearOf_34 rfl ?_
    refine y_getI (pc2 := 38) (κ := 9) (k := 4) fl_X2_129 (by decide) (by decide) (k2.up p5) rfl dX2_isClearOf_35 rfl ?_
    refine x_callSN (pc2 := 41) (As := [.int (hI h4 a0 2), .int (hI h4 a0 4), .int (hI h4 a1 2), .int (hI h4 a1 4)]) (rest := []) ms_X3_areClear nl_X2_122 rfl rfl (Nat.le_of_ble_eq_true rfl) hd1 dX2_isClearOf_38 rfl (ht.mono (fun r8 h9 p10 ht' => ?_))
    clear ht
    obtain ⟨v11, rfl, ht⟩ := ht'
    show Ex G d mX2_isClearOf 41 [(0, .ref a0), (1, .ref a1)] [.int v11] h9 Q
    refine x_if_eq (pc2 := 44) 48 dX2_isClearOf_41 (by decide) rfl (fun c12 => ?_) (fun c12 => ?_)
    · replace ht := ht.1 c12
      refine x_iconst (pc2 := 49) (v := 0) (by decide) dX2_isClearOf_48 rfl ?_
      exact x_retZ rfl (Or.inl rfl) dX2_isClearOf_49 ht
    · replace ht := ht.2 c12
      refine x_iconst (pc2 := 45) (v := 1) (by decide) dX2_isClearOf_44 rfl ?_
      refine x_goto 49 dX2_isClearOf_45 (by decide) ?_
      exact x_retZ rfl (Or.inr rfl) dX2_isClearOf_49 ht
theorem e_X2_isClearOf {G : GG} {d : Nat} {h : HP} {Q : Option Value → HP → Prop} {a0 : Nat} {a1 : Nat} (hd1 : 1 ≤ d) (ht : T_X2_isClearOf G d h Q a0 a1) : Cal G d mX2_isClearOf [.ref a0, .ref a1] h Q := cal_of rfl (Nat.le_of_ble_eq_true rfl) (t_X2_isClearOf hd1 ht)
def T_X2_readWorth (G : GG) (d : Nat) (h : HP) (Q : Option Value → HP → Prop) (a0 : Nat) (a1 : Nat) (a2 : Nat) : Prop :=
  Kd G h a1 8 ∧ Cal G (d - 1) mX8_number [.ref a1, .int 0, .int 99] h (fun r1 h2 => ∃ v5, r1 = some (.int v5) ∧ ((v5 = (-1) → Q (some (.int 0)) h2) ∧ (¬ v5 = (-1) → Kd G h2 a0 2 ∧ Cal G (d - 1) mX2_readArea [.ref a0, .ref a1] h2 (fun r7 h8 => ∃ v11, r7 = some (.int v11) ∧ ((¬ v11 = 0 → Cal G (d - 1) mX2_mark [.ref a0, .ref a2, .int (-128), .int v5] h8 (fun r13 h14 => r13 = none ∧ Q (some (.int 1)) h14)) ∧ (v11 = 0 → Q (some (.int 0)) h8))))))
set_option maxRecDepth 20000 in
theorem t_X2_readWorth {G : GG} {d : Nat} {h : HP} {Q : Option Value → HP → Prop} {a0 : Nat} {a1 : Nat} {a2 : Nat} (hd1 : 1 ≤ d) (ht : T_X2_readWorth G d h Q a0 a1 a2) : Ex G d mX2_readWorth 0 [(0, .ref a0), (1, .ref a1), (2, .ref a2)] [] h Q := by
  unfold T_X2_readWorth at ht
  refine x_aload_n (pc2 := 1) 1 (n := 1) (x := a1) rfl dX2_readWorth_0 rfl ?_
  refine x_iconst (pc2 := 2) (v := 0) (by decide) dX2_readWorth_1 rfl ?_
  refine x_bipush (pc2 := 4) (v := 99) (by decide) dX2_readWorth_2 rfl ?_
  obtain ⟨k4, ht⟩ := ht
  refine x_callV (pc2 := 7) (As := [.int 0, .int 99]) (rest := []) (b := a1) mv_X8_number ml_X2_73 k4 rfl rfl (Nat.le_of_ble_eq_true rfl) hd1 dX2_readWorth_4 rfl (ht.mono (fun r1 h2 p3 ht' => ?_))
  clear ht
  obtain ⟨v5, rfl, ht⟩ := ht'
  show Ex G d mX2_readWorth 7 [(0, .ref a0), (1, .ref a1), (2, .ref a2)] [.int v5] h2 Q
  refine x_istore_n (pc2 := 8) [1, 2, 3, 0] (n := 3) (x := v5) (lv2 := [(0, .ref a0), (1, .ref a1), (2, .ref a2), (3, .int v5)]) (by decide) rfl dX2_readWorth_7 rfl ?_
  refine x_iload_n (pc2 := 9) 3 (n := 3) (x := v5) rfl dX2_readWorth_8 rfl ?_
  refine x_iconst (pc2 := 10) (v := (-1)) (by decide) dX2_readWorth_9 rfl ?_
  refine x_icmp_eq (pc2 := 13) 21 dX2_readWorth_10 (by decide) rfl (fun c6 => ?_) (fun c6 => ?_)
  · replace ht := ht.1 c6
    refine x_iconst (pc2 := 22) (v := 0) (by decide) dX2_readWorth_21 rfl ?_
    exact x_retZ rfl (Or.inl rfl) dX2_readWorth_22 ht
  · replace ht := ht.2 c6
    refine x_aload_n (pc2 := 14) 0 (n := 0) (x := a0) rfl dX2_readWorth_13 rfl ?_
    refine x_aload_n (pc2 := 15) 1 (n := 1) (x := a1) rfl dX2_readWorth_14 rfl ?_
    obtain ⟨k10, ht⟩ := ht
    refine x_callV (pc2 := 18) (As := [.ref a1]) (rest := []) (b := a0) mv_X2_readArea ml_X2_86 k10 rfl rfl (Nat.le_of_ble_eq_true rfl) hd1 dX2_readWorth_15 rfl (ht.mono (fun r7 h8 p9 ht' => ?_))
    clear ht
    obtain ⟨v11, rfl, ht⟩ := ht'
    show Ex G d mX2_readWorth 18 [(0, .ref a0), (1, .ref a1), (2, .ref a2), (3, .int v5)] [.int v11] h8 Q
    refine y_if_ne (pc2 := 21) 23 dX2_readWorth_18 (by decide) rfl (fun c12 => ?_) (fun c12 => ?_)
    · replace ht := ht.1 c12
      refine x_aload_n (pc2 := 24) 0 (n := 0) (x := a0) rfl dX2_readWorth_23 rfl ?_
      refine x_aload_n (pc2 := 25) 2 (n := 2) (x := a2) rfl dX2_readWorth_24 rfl ?_
      refine x_bipush (pc2 := 27) (v := (-128)) (by decide) dX2_readWorth_25 rfl ?_
      refine x_iload_n (pc2 := 28) 3 (n := 3) (x := v5) rfl dX2_readWorth_27 rfl ?_
      refine x_callV (pc2 := 31) (As := [.ref a2, .int (-128), .int v5]) (rest := []) (b := a0) mv_X2_mark ml_X2_130 (k10.up p9) rfl rfl (Nat.le_of_ble_eq_true rfl) hd1 dX2_readWorth_28 rfl (ht.mono (fun r13 h14 p15 ht' => ?_))
      clear ht
      obtain ⟨rfl, ht⟩ := ht'
      show Ex G d mX2_readWorth 31 [(0, .ref a0), (1, .ref a1), (2, .ref a2), (3, .int v5)] [] h14 Q
      refine x_iconst (pc2 := 32) (v := 1) (by decide) dX2_readWorth_31 rfl ?_
      exact x_retZ rfl (Or.inr rfl) dX2_readWorth_32 ht
    · replace ht := ht.2 c12
      refine x_iconst (pc2 := 22) (v := 0) (by decide) dX2_readWorth_21 rfl ?_
      exact x_retZ rfl (Or.inl rfl) dX2_readWorth_22 ht
theorem e_X2_readWorth {G : GG} {d : Nat} {h : HP} {Q : Option Value → HP → Prop} {a0 : Nat} {a1 : Nat} {a2 : Nat} (hd1 : 1 ≤ d) (ht : T_X2_readWorth G d h Q a0 a1 a2) : Cal G d mX2_readWorth [.ref a0, .ref a1, .ref a2] h Q := cal_of rfl (Nat.le_of_ble_eq_true rfl) (t_X2_readWorth hd1 ht)
def T_X2_readRiver (G : GG) (d : Nat) (h : HP) (Q : Option Value → HP → Prop) (a0 : Nat) (a1 : Nat) (a2 : Nat) : Prop :=
  Kd G h a0 2 ∧ Cal G (d - 1) mX2_readArea [.ref a0, .ref a1] h (fun r1 h2 => ∃ v5, r1 = some (.int v5) ∧ ((¬ v5 = 0 → Cal G (d - 1) mX2_mark [.ref a0, .ref a2, .int (-1), .int 128] h2 (fun r7 h8 => r7 = none ∧ Q (some (.int 1)) h8)) ∧ (v5 = 0 → Q (some (.int 0)) h2)))
set_option maxRecDepth 20000 in
theorem t_X2_readRiver {G : GG} {d : Nat} {h : HP} {Q : Option Value → HP → Prop} {a0 : Nat} {a1 : Nat} {a2 : Nat} (hd1 : 1 ≤ d) (ht : T_X2_readRiver G d h Q a0 a1 a2) : Ex G d mX2_readRiver 0 [(0, .ref a0), (1, .ref a1), (2, .ref a2)] [] h Q := by
  unfold T_X2_readRiver at ht
  refine x_aload_n (pc2 := 1) 0 (n := 0) (x := a0) rfl dX2_readRiver_0 rfl ?_
  refine x_aload_n (pc2 := 2) 1 (n := 1) (x := a1) rfl dX2_readRiver_1 rfl ?_
  obtain ⟨k4, ht⟩ := ht
  refine x_callV (pc2 := 5) (As := [.ref a1]) (rest := []) (b := a0) mv_X2_readArea ml_X2_86 k4 rfl rfl (Nat.le_of_ble_eq_true rfl) hd1 dX2_readRiver_2 rfl (ht.mono (fun r1 h2 p3 ht' => ?_))
  clear ht
  obtain ⟨v5, rfl, ht⟩ := ht'
  show Ex G d mX2_readRiver 5 [(0, .ref a0), (1, .ref a1), (2, .ref a2)] [.int v5] h2 Q
  refine y_if_ne (pc2 := 8) 10 dX2_readRiver_5 (by decide) rfl (fun c6 => ?_) (fun c6 => ?_)
  · replace ht := ht.1 c6
    refine x_aload_n (pc2 := 11) 0 (n := 0) (x := a0) rfl dX2_readRiver_10 rfl ?_
    refine x_aload_n (pc2 := 12) 2 (n := 2) (x := a2) rfl dX2_readRiver_11 rfl ?_
    refine x_iconst (pc2 := 13) (v := (-1)) (by decide) dX2_readRiver_12 rfl ?_
    refine x_sipush (pc2 := 16) (v := 128) (by decide) dX2_readRiver_13 rfl ?_
    refine x_callV (pc2 := 19) (As := [.ref a2, .int (-1), .int 128]) (rest := []) (b := a0) mv_X2_mark ml_X2_130 (k4.up p3) rfl rfl (Nat.le_of_ble_eq_true rfl) hd1 dX2_readRiver_16 rfl (ht.mono (fun r7 h8 p9 ht' => ?_))
    clear ht
    obtain ⟨rfl, ht⟩ := ht'
    show Ex G d mX2_readRiver 19 [(0, .ref a0), (1, .ref a1), (2, .ref a2)] [] h8 Q
    refine x_iconst (pc2 := 20) (v := 1) (by decide) dX2_readRiver_19 rfl ?_
    exact x_retZ rfl (Or.inr rfl) dX2_readRiver_20 ht
  · replace ht := ht.2 c6
    refine x_iconst (pc2 := 9) (v := 0) (by decide) dX2_readRiver_8 rfl ?_
    exact x_retZ rfl (Or.inl rfl) dX2_readRiver_9 ht
theorem e_X2_readRiver {G : GG} {d : Nat} {h : HP} {Q : Option Value → HP → Prop} {a0 : Nat} {a1 : Nat} {a2 : Nat} (hd1 : 1 ≤ d) (ht : T_X2_readRiver G d h Q a0 a1 a2) : Cal G d mX2_readRiver [.ref a0, .ref a1, .ref a2] h Q := cal_of rfl (Nat.le_of_ble_eq_true rfl) (t_X2_readRiver hd1 ht)
def T_X2_readWell (G : GG) (d : Nat) (h : HP) (Q : Option Value → HP → Prop) (a0 : Nat) (a1 : Nat) (a2 : Nat) : Prop :=
  Kd G h a1 8 ∧ Cal G (d - 1) mX8_number [.ref a1, .int 0, .int 39] h (fun r1 h2 => ∃ v5, r1 = some (.int v5) ∧ Kd G h2 a0 2 ∧ ((¬ (hI (sI h2 a0 1 v5) a0 1) = (-1) → Cal G (d - 1) mX8_number [.ref a1, .int 0, .int 39] (sI h2 a0 1 v5) (fun r8 h9 => ∃ v11, r8 = some (.int v11) ∧ ((¬ (hI (sI h9 a0 2 v11) a0 2) = (-1) → Kd G (sI h9 a0 2 v11) a2 6 ∧ ∃ q14, hR (sI h9 a0 2 v11) a2 5 = some q14 ∧ Kd G (sI h9 a0 2 v11) q14 14 ∧ vp_in (((hI (sI h9 a0 2 v11) a0 2) * 40) + (hI (sI h9 a0 2 v11) a0 1)) (hN (sI h9 a0 2 v11) q14) ∧ vp_in (((hI (sI h9 a0 2 v11) a0 2) * 40) + (hI (sI h9 a0 2 v11) a0 1)) (hN (sI h9 a0 2 v11) q14) ∧ ∀ h19, h19 = (sI (sI h9 a0 2 v11) q14 (((hI (sI h9 a0 2 v11) a0 2) * 40) + (hI (sI h9 a0 2 v11) a0 1)).toNatClampNeg ((hI (sI h9 a0 2 v11) q14 (((hI (sI h9 a0 2 v11) a0 2) * 40) + (hI (sI h9 a0 2 v11) a0 1)).toNatClampNeg) ||| 256)) → Q (some (.int 1)) h19) ∧ ((hI (sI h9 a0 2 v11) a0 2) = (-1) → Q (some (.int 0)) (sI h9 a0 2 v11))))) ∧ ((hI (sI h2 a0 1 v5) a0 1) = (-1) → Q (some (.int 0)) (sI h2 a0 1 v5))))
set_option maxRecDepth 20000 in
theorem t_X2_readWell {G : GG} {d : Nat} {h : HP} {Q : Option Value → HP → Prop} {a0 : Nat} {a1 : Nat} {a2 : Nat} (hd1 : 1 ≤ d) (ht : T_X2_readWell G d h Q a0 a1 a2) : Ex G d mX2_readWell 0 [(0, .ref a0), (1, .ref a1), (2, .ref a2)] [] h Q := by
  unfold T_X2_readWell at ht
  refine x_aload_n (pc2 := 1) 0 (n := 0) (x := a0) rfl dX2_readWell_0 rfl ?_
  refine x_aload_n (pc2 := 2) 1 (n := 1) (x := a1) rfl dX2_readWell_1 rfl ?_
  refine x_iconst (pc2 := 3) (v := 0) (by decide) dX2_readWell_2 rfl ?_
  refine x_bipush (pc2 := 5) (v := 39) (by decide) dX2_readWell_3 rfl ?_
  obtain ⟨k4, ht⟩ := ht
  refine x_callV (pc2 := 8) (As := [.int 0, .int 39]) (rest := [.ref a0]) (b := a1) mv_X8_number ml_X2_73 k4 rfl rfl (Nat.le_of_ble_eq_true rfl) hd1 dX2_readWell_5 rfl (ht.mono (fun r1 h2 p3 ht' => ?_))
  clear ht
  obtain ⟨v5, rfl, ht⟩ := ht'
  show Ex G d mX2_readWell 8 [(0, .ref a0), (1, .ref a1), (2, .ref a2)] [.int v5, .ref a0] h2 Q
  obtain ⟨k6, ht⟩ := ht
  refine x_putI (pc2 := 11) (κ := 2) (k := 1) fl_X2_94 (by decide) (by decide) (Or.inl rfl) rfl k6 dX2_readWell_8 rfl ?_
  refine x_aload_n (pc2 := 12) 0 (n := 0) (x := a0) rfl dX2_readWell_11 rfl ?_
  refine y_getI (pc2 := 15) (κ := 2) (k := 1) fl_X2_94 (by decide) (by decide) k6.sI rfl dX2_readWell_12 rfl ?_
  refine x_iconst (pc2 := 16) (v := (-1)) (by decide) dX2_readWell_15 rfl ?_
  refine y_icmp_ne (pc2 := 19) 21 dX2_readWell_16 (by decide) rfl (fun c7 => ?_) (fun c7 => ?_)
  · replace ht := ht.1 c7
    refine x_aload_n (pc2 := 22) 0 (n := 0) (x := a0) rfl dX2_readWell_21 rfl ?_
    refine x_aload_n (pc2 := 23) 1 (n := 1) (x := a1) rfl dX2_readWell_22 rfl ?_
    refine x_iconst (pc2 := 24) (v := 0) (by decide) dX2_readWell_23 rfl ?_
    refine x_bipush (pc2 := 26) (v := 39) (by decide) dX2_readWell_24 rfl ?_
    refine x_callV (pc2 := 29) (As := [.int 0, .int 39]) (rest := [.ref a0]) (b := a1) mv_X8_number ml_X2_73 (k4.up p3).sI rfl rfl (Nat.le_of_ble_eq_true rfl) hd1 dX2_readWell_26 rfl (ht.mono (fun r8 h9 p10 ht' => ?_))
    clear ht
    obtain ⟨v11, rfl, ht⟩ := ht'
    show Ex G d mX2_readWell 29 [(0, .ref a0), (1, .ref a1), (2, .ref a2)] [.int v11, .ref a0] h9 Q
    refine x_putI (pc2 := 32) (κ := 2) (k := 2) fl_X2_97 (by decide) (by decide) (Or.inl rfl) rfl (k6.sI.up p10) dX2_readWell_29 rfl ?_
    refine x_aload_n (pc2 := 33) 0 (n := 0) (x := a0) rfl dX2_readWell_32 rfl ?_
    refine y_getI (pc2 := 36) (κ := 2) (k := 2) fl_X2_97 (by decide) (by decide) (k6.sI.up p10).sI rfl dX2_readWell_33 rfl ?_
    refine x_iconst (pc2 := 37) (v := (-1)) (by decide) dX2_readWell_36 rfl ?_
    refine y_icmp_ne (pc2 := 40) 42 dX2_readWell_37 (by decide) rfl (fun c12 => ?_) (fun c12 => ?_)
    · replace ht := ht.1 c12
      refine x_aload_n (pc2 := 43) 2 (n := 2) (x := a2) rfl dX2_readWell_42 rfl ?_
      obtain ⟨k13, ht⟩ := ht
      obtain ⟨q14, e15, ht⟩ := ht
      refine y_getR (pc2 := 46) (κ := 6) (k := 5) fl_X2_134 (by decide) (by decide) k13 rfl e15 dX2_readWell_43 rfl ?_
      refine x_aload_n (pc2 := 47) 0 (n := 0) (x := a0) rfl dX2_readWell_46 rfl ?_
      refine y_getI (pc2 := 50) (κ := 2) (k := 2) fl_X2_97 (by decide) (by decide) (k6.sI.up p10).sI rfl dX2_readWell_47 rfl ?_
      refine x_bipush (pc2 := 52) (v := 40) (by decide) dX2_readWell_50 rfl ?_
      refine x_imul (pc2 := 53) dX2_readWell_52 rfl ?_
      refine x_aload_n (pc2 := 54) 0 (n := 0) (x := a0) rfl dX2_readWell_53 rfl ?_
      refine y_getI (pc2 := 57) (κ := 2) (k := 1) fl_X2_94 (by decide) (by decide) (k6.sI.up p10).sI rfl dX2_readWell_54 rfl ?_
      refine x_iadd (pc2 := 58) dX2_readWell_57 rfl ?_
      refine x_dup2 (pc2 := 59) rfl rfl dX2_readWell_58 rfl ?_
      obtain ⟨k16, ht⟩ := ht
      obtain ⟨b17, ht⟩ := ht
      refine x_iald (pc2 := 60) k16 b17 dX2_readWell_59 rfl ?_
      refine x_sipush (pc2 := 63) (v := 256) (by decide) dX2_readWell_60 rfl ?_
      refine x_ior (pc2 := 64) dX2_readWell_63 rfl ?_
      obtain ⟨b18, ht⟩ := ht
      refine x_iast (pc2 := 65) k16 b18 dX2_readWell_64 rfl ?_
      refine nm_I (fun h19 e20 p21 => ?_)
      replace ht := ht h19 e20
      refine x_iconst (pc2 := 66) (v := 1) (by decide) dX2_readWell_65 rfl ?_
      exact x_retZ rfl (Or.inr rfl) dX2_readWell_66 ht
    · replace ht := ht.2 c12
      refine x_iconst (pc2 := 41) (v := 0) (by decide) dX2_readWell_40 rfl ?_
      exact x_retZ rfl (Or.inl rfl) dX2_readWell_41 ht
  · replace ht := ht.2 c7
    refine x_iconst (pc2 := 20) (v := 0) (by decide) dX2_readWell_19 rfl ?_
    exact x_retZ rfl (Or.inl rfl) dX2_readWell_20 ht
theorem e_X2_readWell {G : GG} {d : Nat} {h : HP} {Q : Option Value → HP → Prop} {a0 : Nat} {a1 : Nat} {a2 : Nat} (hd1 : 1 ≤ d) (ht : T_X2_readWell G d h Q a0 a1 a2) : Cal G d mX2_readWell [.ref a0, .ref a1, .ref a2] h Q := cal_of rfl (Nat.le_of_ble_eq_true rfl) (t_X2_readWell hd1 ht)
def T_X2_readArea (G : GG) (d : Nat) (h : HP) (Q : Option Value → HP → Prop) (a0 : Nat) (a1 : Nat) : Prop :=
  Kd G h a1 8 ∧ Cal G (d - 1) mX8_number [.ref a1, .int 0, .int 40] h (fun r1 h2 => ∃ v5, r1 = some (.int v5) ∧ Kd G h2 a0 2 ∧ ((¬ (hI (sI h2 a0 1 v5) a0 1) = (-1) → Cal G (d - 1) mX8_number [.ref a1, .int 0, .int 40] (sI h2 a0 1 v5) (fun r8 h9 => ∃ v11, r8 = some (.int v11) ∧ ((¬ (hI (sI h9 a0 2 v11) a0 2) = (-1) → Cal G (d - 1) mX8_number [.ref a1, .int ((hI (sI h9 a0 2 v11) a0 1) + 1), .int 40] (sI h9 a0 2 v11) (fun r13 h14 => ∃ v16, r13 = some (.int v16) ∧ ((¬ (hI (sI h14 a0 3 v16) a0 3) = (-1) → Cal G (d - 1) mX8_number [.ref a1, .int ((hI (sI h14 a0 3 v16) a0 2) + 1), .int 40] (sI h14 a0 3 v16) (fun r18 h19 => ∃ v21, r18 = some (.int v21) ∧ (((hI (sI h19 a0 4 v21) a0 4) = (-1) → Q (some (.int 0)) (sI h19 a0 4 v21)) ∧ (¬ (hI (sI h19 a0 4 v21) a0 4) = (-1) → Q (some (.int 1)) (sI h19 a0 4 v21))))) ∧ ((hI (sI h14 a0 3 v16) a0 3) = (-1) → Q (some (.int 0)) (sI h14 a0 3 v16))))) ∧ ((hI (sI h9 a0 2 v11) a0 2) = (-1) → Q (some (.int 0)) (sI h9 a0 2 v11))))) ∧ ((hI (sI h2 a0 1 v5) a0 1) = (-1) → Q (some (.int 0)) (sI h2 a0 1 v5))))
set_option maxRecDepth 20000 in
theorem t_X2_readArea {G : GG} {d : Nat} {h : HP} {Q : Option Value → HP → Prop} {a0 : Nat} {a1 : Nat} (hd1 : 1 ≤ d) (ht : T_X2_readArea G d h Q a0 a1) : Ex G d mX2_readArea 0 [(0, .ref a0), (1, .ref a1)] [] h Q := by
  unfold T_X2_readArea at ht
  refine x_aload_n (pc2 := 1) 0 (n := 0) (x := a0) rfl dX2_readArea_0 rfl ?_
  refine x_aload_n (pc2 := 2) 1 (n := 1) (x := a1) rfl dX2_readArea_1 rfl ?_
  refine x_iconst (pc2 := 3) (v := 0) (by decide) dX2_readArea_2 rfl ?_
  refine x_bipush (pc2 := 5) (v := 40) (by decide) dX2_readArea_3 rfl ?_
  obtain ⟨k4, ht⟩ := ht
  refine x_callV (pc2 := 8) (As := [.int 0, .int 40]) (rest := [.ref a0]) (b := a1) mv_X8_number ml_X2_73 k4 rfl rfl (Nat.le_of_ble_eq_true rfl) hd1 dX2_readArea_5 rfl (ht.mono (fun r1 h2 p3 ht' => ?_))
  clear ht
  obtain ⟨v5, rfl, ht⟩ := ht'
  show Ex G d mX2_readArea 8 [(0, .ref a0), (1, .ref a1)] [.int v5, .ref a0] h2 Q
  obtain ⟨k6, ht⟩ := ht
  refine x_putI (pc2 := 11) (κ := 2) (k := 1) fl_X2_94 (by decide) (by decide) (Or.inl rfl) rfl k6 dX2_readArea_8 rfl ?_
  refine x_aload_n (pc2 := 12) 0 (n := 0) (x := a0) rfl dX2_readArea_11 rfl ?_
  refine y_getI (pc2 := 15) (κ := 2) (k := 1) fl_X2_94 (by decide) (by decide) k6.sI rfl dX2_readArea_12 rfl ?_
  refine x_iconst (pc2 := 16) (v := (-1)) (by decide) dX2_readArea_15 rfl ?_
  refine y_icmp_ne (pc2 := 19) 21 dX2_readArea_16 (by decide) rfl (fun c7 => ?_) (fun c7 => ?_)
  · replace ht := ht.1 c7
    refine x_aload_n (pc2 := 22) 0 (n := 0) (x := a0) rfl dX2_readArea_21 rfl ?_
    refine x_aload_n (pc2 := 23) 1 (n := 1) (x := a1) rfl dX2_readArea_22 rfl ?_
    refine x_iconst (pc2 := 24) (v := 0) (by decide) dX2_readArea_23 rfl ?_
    refine x_bipush (pc2 := 26) (v := 40) (by decide) dX2_readArea_24 rfl ?_
    refine x_callV (pc2 := 29) (As := [.int 0, .int 40]) (rest := [.ref a0]) (b := a1) mv_X8_number ml_X2_73 (k4.up p3).sI rfl rfl (Nat.le_of_ble_eq_true rfl) hd1 dX2_readArea_26 rfl (ht.mono (fun r8 h9 p10 ht' => ?_))
    clear ht
    obtain ⟨v11, rfl, ht⟩ := ht'
    show Ex G d mX2_readArea 29 [(0, .ref a0), (1, .ref a1)] [.int v11, .ref a0] h9 Q
    refine x_putI (pc2 := 32) (κ := 2) (k := 2) fl_X2_97 (by decide) (by decide) (Or.inl rfl) rfl (k6.sI.up p10) dX2_readArea_29 rfl ?_
    refine x_aload_n (pc2 := 33) 0 (n := 0) (x := a0) rfl dX2_readArea_32 rfl ?_
    refine y_getI (pc2 := 36) (κ := 2) (k := 2) fl_X2_97 (by decide) (by decide) (k6.sI.up p10).sI rfl dX2_readArea_33 rfl ?_
    refine x_iconst (pc2 := 37) (v := (-1)) (by decide) dX2_readArea_36 rfl ?_
    refine y_icmp_ne (pc2 := 40) 42 dX2_readArea_37 (by decide) rfl (fun c12 => ?_) (fun c12 => ?_)
    · replace ht := ht.1 c12
      refine x_aload_n (pc2 := 43) 0 (n := 0) (x := a0) rfl dX2_readArea_42 rfl ?_
      refine x_aload_n (pc2 := 44) 1 (n := 1) (x := a1) rfl dX2_readArea_43 rfl ?_
      refine x_aload_n (pc2 := 45) 0 (n := 0) (x := a0) rfl dX2_readArea_44 rfl ?_
      refine y_getI (pc2 := 48) (κ := 2) (k := 1) fl_X2_94 (by decide) (by decide) (k6.sI.up p10).sI rfl dX2_readArea_45 rfl ?_
      refine x_iconst (pc2 := 49) (v := 1) (by decide) dX2_readArea_48 rfl ?_
      refine x_iadd (pc2 := 50) dX2_readArea_49 rfl ?_
      refine x_bipush (pc2 := 52) (v := 40) (by decide) dX2_readArea_50 rfl ?_
      refine x_callV (pc2 := 55) (As := [.int ((hI (sI h9 a0 2 v11) a0 1) + 1), .int 40]) (rest := [.ref a0]) (b := a1) mv_X8_number ml_X2_73 ((k4.up p3).sI.up p10).sI rfl rfl (Nat.le_of_ble_eq_true rfl) hd1 dX2_readArea_52 rfl (ht.mono (fun r13 h14 p15 ht' => ?_))
      clear ht
      obtain ⟨v16, rfl, ht⟩ := ht'
      show Ex G d mX2_readArea 55 [(0, .ref a0), (1, .ref a1)] [.int v16, .ref a0] h14 Q
      refine x_putI (pc2 := 58) (κ := 2) (k := 3) fl_X2_100 (by decide) (by decide) (Or.inl rfl) rfl ((k6.sI.up p10).sI.up p15) dX2_readArea_55 rfl ?_
      refine x_aload_n (pc2 := 59) 0 (n := 0) (x := a0) rfl dX2_readArea_58 rfl ?_
      refine y_getI (pc2 := 62) (κ := 2) (k := 3) fl_X2_100 (by decide) (by decide) ((k6.sI.up p10).sI.up p15).sI rfl dX2_readArea_59 rfl ?_
      refine x_iconst (pc2 := 63) (v := (-1)) (by decide) dX2_readArea_62 rfl ?_
      refine y_icmp_ne (pc2 := 66) 68 dX2_readArea_63 (by decide) rfl (fun c17 => ?_) (fun c17 => ?_)
      · replace ht := ht.1 c17
        refine x_aload_n (pc2 := 69) 0 (n := 0) (x := a0) rfl dX2_readArea_68 rfl ?_
        refine x_aload_n (pc2 := 70) 1 (n := 1) (x := a1) rfl dX2_readArea_69 rfl ?_
        refine x_aload_n (pc2 := 71) 0 (n := 0) (x := a0) rfl dX2_readArea_70 rfl ?_
        refine y_getI (pc2 := 74) (κ := 2) (k := 2) fl_X2_97 (by decide) (by decide) ((k6.sI.up p10).sI.up p15).sI rfl dX2_readArea_71 rfl ?_
        refine x_iconst (pc2 := 75) (v := 1) (by decide) dX2_readArea_74 rfl ?_
        refine x_iadd (pc2 := 76) dX2_readArea_75 rfl ?_
        refine x_bipush (pc2 := 78) (v := 40) (by decide) dX2_readArea_76 rfl ?_
        refine x_callV (pc2 := 81) (As := [.int ((hI (sI h14 a0 3 v16) a0 2) + 1), .int 40]) (rest := [.ref a0]) (b := a1) mv_X8_number ml_X2_73 (((k4.up p3).sI.up p10).sI.up p15).sI rfl rfl (Nat.le_of_ble_eq_true rfl) hd1 dX2_readArea_78 rfl (ht.mono (fun r18 h19 p20 ht' => ?_))
        clear ht
        obtain ⟨v21, rfl, ht⟩ := ht'
        show Ex G d mX2_readArea 81 [(0, .ref a0), (1, .ref a1)] [.int v21, .ref a0] h19 Q
        refine x_putI (pc2 := 84) (κ := 2) (k := 4) fl_X2_103 (by decide) (by decide) (Or.inl rfl) rfl (((k6.sI.up p10).sI.up p15).sI.up p20) dX2_readArea_81 rfl ?_
        refine x_aload_n (pc2 := 85) 0 (n := 0) (x := a0) rfl dX2_readArea_84 rfl ?_
        refine y_getI (pc2 := 88) (κ := 2) (k := 4) fl_X2_103 (by decide) (by decide) (((k6.sI.up p10).sI.up p15).sI.up p20).sI rfl dX2_readArea_85 rfl ?_
        refine x_iconst (pc2 := 89) (v := (-1)) (by decide) dX2_readArea_88 rfl ?_
        refine x_icmp_eq (pc2 := 92) 96 dX2_readArea_89 (by decide) rfl (fun c22 => ?_) (fun c22 => ?_)
        · replace ht := ht.1 c22
          refine x_iconst (pc2 := 97) (v := 0) (by decide) dX2_readArea_96 rfl ?_
          exact x_retZ rfl (Or.inl rfl) dX2_readArea_97 ht
        · replace ht := ht.2 c22
          refine x_iconst (pc2 := 93) (v := 1) (by decide) dX2_readArea_92 rfl ?_
          refine x_goto 97 dX2_readArea_93 (by decide) ?_
          exact x_retZ rfl (Or.inr rfl) dX2_readArea_97 ht
      · replace ht := ht.2 c17
        refine x_iconst (pc2 := 67) (v := 0) (by decide) dX2_readArea_66 rfl ?_
        exact x_retZ rfl (Or.inl rfl) dX2_readArea_67 ht
    · replace ht := ht.2 c12
      refine x_iconst (pc2 := 41) (v := 0) (by decide) dX2_readArea_40 rfl ?_
      exact x_retZ rfl (Or.inl rfl) dX2_readArea_41 ht
  · replace ht := ht.2 c7
    refine x_iconst (pc2 := 20) (v := 0) (by decide) dX2_readArea_19 rfl ?_
    exact x_retZ rfl (Or.inl rfl) dX2_readArea_20 ht
theorem e_X2_readArea {G : GG} {d : Nat} {h : HP} {Q : Option Value → HP → Prop} {a0 : Nat} {a1 : Nat} (hd1 : 1 ≤ d) (ht : T_X2_readArea G d h Q a0 a1) : Cal G d mX2_readArea [.ref a0, .ref a1] h Q := cal_of rfl (Nat.le_of_ble_eq_true rfl) (t_X2_readArea hd1 ht)
def T_X2_mark (G : GG) (d : Nat) (h : HP) (Q : Option Value → HP → Prop) (a0 : Nat) (a1 : Nat) (x2 : Int32) (x3 : Int32) : Prop :=
  Kd G h a0 2 ∧ Ex G d mX2_mark 6 [(0, .ref a0), (1, .ref a1), (2, .int x2), (3, .int x3), (4, .int (hI h a0 2))] [] h Q
set_option maxRecDepth 20000 in
theorem t_X2_mark {G : GG} {d : Nat} {h : HP} {Q : Option Value → HP → Prop} {a0 : Nat} {a1 : Nat} {x2 : Int32} {x3 : Int32} (ht : T_X2_mark G d h Q a0 a1 x2 x3) : Ex G d mX2_mark 0 [(0, .ref a0), (1, .ref a1), (2, .int x2), (3, .int x3)] [] h Q := by
  unfold T_X2_mark at ht
  refine x_aload_n (pc2 := 1) 0 (n := 0) (x := a0) rfl dX2_mark_0 rfl ?_
  obtain ⟨k1, ht⟩ := ht
  refine y_getI (pc2 := 4) (κ := 2) (k := 2) fl_X2_97 (by decide) (by decide) k1 rfl dX2_mark_1 rfl ?_
  refine x_istore (pc2 := 6) [1, 2, 3, 4, 0] (n := 4) (x := (hI h a0 2)) (lv2 := [(0, .ref a0), (1, .ref a1), (2, .int x2), (3, .int x3), (4, .int (hI h a0 2))]) (by decide) rfl dX2_mark_4 rfl ?_
  exact ht
theorem e_X2_mark {G : GG} {d : Nat} {h : HP} {Q : Option Value → HP → Prop} {a0 : Nat} {a1 : Nat} {x2 : Int32} {x3 : Int32} (ht : T_X2_mark G d h Q a0 a1 x2 x3) : Cal G d mX2_mark [.ref a0, .ref a1, .int x2, .int x3] h Q := cal_of rfl (Nat.le_of_ble_eq_true rfl) (t_X2_mark ht)
def T_X2_mark_6 (G : GG) (d : Nat) (h : HP) (Q : Option Value → HP → Prop) (a0 : Nat) (a1 : Nat) (x2 : Int32) (x3 : Int32) (x4 : Int32) : Prop :=
  Kd G h a0 2 ∧ (((hI h a0 4) ≤ x4 → Q none h) ∧ (¬ (hI h a0 4) ≤ x4 → Ex G d mX2_mark 21 [(0, .ref a0), (1, .ref a1), (2, .int x2), (3, .int x3), (4, .int x4), (5, .int (hI h a0 1))] [] h Q))
set_option maxRecDepth 20000 in
theorem t_X2_mark_6 {G : GG} {d : Nat} {h : HP} {Q : Option Value → HP → Prop} {a0 : Nat} {a1 : Nat} {x2 : Int32} {x3 : Int32} {x4 : Int32} (ht : T_X2_mark_6 G d h Q a0 a1 x2 x3 x4) : Ex G d mX2_mark 6 [(0, .ref a0), (1, .ref a1), (2, .int x2), (3, .int x3), (4, .int x4)] [] h Q := by
  unfold T_X2_mark_6 at ht
  refine x_iload (pc2 := 8) 4 (n := 4) (x := x4) rfl dX2_mark_6 rfl ?_
  refine x_aload_n (pc2 := 9) 0 (n := 0) (x := a0) rfl dX2_mark_8 rfl ?_
  obtain ⟨k1, ht⟩ := ht
  refine y_getI (pc2 := 12) (κ := 2) (k := 4) fl_X2_103 (by decide) (by decide) k1 rfl dX2_mark_9 rfl ?_
  refine x_icmp_ge (pc2 := 15) 70 dX2_mark_12 (by decide) rfl (fun c2 => ?_) (fun c2 => ?_)
  · replace ht := ht.1 c2
    exact x_retV rfl dX2_mark_70 ht
  · replace ht := ht.2 c2
    refine x_aload_n (pc2 := 16) 0 (n := 0) (x := a0) rfl dX2_mark_15 rfl ?_
    refine y_getI (pc2 := 19) (κ := 2) (k := 1) fl_X2_94 (by decide) (by decide) k1 rfl dX2_mark_16 rfl ?_
    refine x_istore (pc2 := 21) [1, 2, 3, 4, 5, 0] (n := 5) (x := (hI h a0 1)) (lv2 := [(0, .ref a0), (1, .ref a1), (2, .int x2), (3, .int x3), (4, .int x4), (5, .int (hI h a0 1))]) (by decide) rfl dX2_mark_19 rfl ?_
    exact ht
def T_X2_mark_21 (G : GG) (d : Nat) (h : HP) (Q : Option Value → HP → Prop) (a0 : Nat) (a1 : Nat) (x2 : Int32) (x3 : Int32) (x4 : Int32) (x5 : Int32) : Prop :=
  Kd G h a0 2 ∧ (((hI h a0 3) ≤ x5 → Ex G d mX2_mark 6 [(0, .ref a0), (1, .ref a1), (2, .int x2), (3, .int x3), (4, .int (x4 + 1))] [] h Q) ∧ (¬ (hI h a0 3) ≤ x5 → Kd G h a1 6 ∧ ∃ q4, hR h a1 5 = some q4 ∧ Kd G h q4 14 ∧ vp_in ((x4 * 40) + x5) (hN h q4) ∧ vp_in ((x4 * 40) + x5) (hN h q4) ∧ ∀ h9, h9 = (sI h q4 ((x4 * 40) + x5).toNatClampNeg (((hI h q4 ((x4 * 40) + x5).toNatClampNeg) &&& x2) ||| x3)) → Ex G d mX2_mark 21 [(0, .ref a0), (1, .ref a1), (2, .int x2), (3, .int x3), (4, .int x4), (5, .int (x5 + 1))] [] h9 Q))
set_option maxRecDepth 20000 in
theorem t_X2_mark_21 {G : GG} {d : Nat} {h : HP} {Q : Option Value → HP → Prop} {a0 : Nat} {a1 : Nat} {x2 : Int32} {x3 : Int32} {x4 : Int32} {x5 : Int32} (ht : T_X2_mark_21 G d h Q a0 a1 x2 x3 x4 x5) : Ex G d mX2_mark 21 [(0, .ref a0), (1, .ref a1), (2, .int x2), (3, .int x3), (4, .int x4), (5, .int x5)] [] h Q := by
  unfold T_X2_mark_21 at ht
  refine x_iload (pc2 := 23) 5 (n := 5) (x := x5) rfl dX2_mark_21 rfl ?_
  refine x_aload_n (pc2 := 24) 0 (n := 0) (x := a0) rfl dX2_mark_23 rfl ?_
  obtain ⟨k1, ht⟩ := ht
  refine y_getI (pc2 := 27) (κ := 2) (k := 3) fl_X2_100 (by decide) (by decide) k1 rfl dX2_mark_24 rfl ?_
  refine x_icmp_ge (pc2 := 30) 64 dX2_mark_27 (by decide) rfl (fun c2 => ?_) (fun c2 => ?_)
  · replace ht := ht.1 c2
    refine x_iinc (pc2 := 67) 4 [1, 2, 3, 4, 0, 5] (i := 4) (x := x4) (v := (x4 + 1)) (lv2 := [(0, .ref a0), (1, .ref a1), (2, .int x2), (3, .int x3), (4, .int (x4 + 1)), (5, .int x5)]) rfl (iinc_eq (by decide) _) (by decide) rfl dX2_mark_64 rfl ?_
    refine x_goto 6 dX2_mark_67 (by decide) ?_
    refine x_sub [0, 1, 2, 3, 4] (lv2 := [(0, .ref a0), (1, .ref a1), (2, .int x2), (3, .int x3), (4, .int (x4 + 1))]) rfl ?_
    exact ht
  · replace ht := ht.2 c2
    refine x_iload (pc2 := 32) 4 (n := 4) (x := x4) rfl dX2_mark_30 rfl ?_
    refine x_bipush (pc2 := 34) (v := 40) (by decide) dX2_mark_32 rfl ?_
    refine x_imul (pc2 := 35) dX2_mark_34 rfl ?_
    refine x_iload (pc2 := 37) 5 (n := 5) (x := x5) rfl dX2_mark_35 rfl ?_
    refine x_iadd (pc2 := 38) dX2_mark_37 rfl ?_
    refine x_istore (pc2 := 40) [1, 2, 3, 4, 5, 6, 0] (n := 6) (x := ((x4 * 40) + x5)) (lv2 := [(0, .ref a0), (1, .ref a1), (2, .int x2), (3, .int x3), (4, .int x4), (5, .int x5), (6, .int ((x4 * 40) + x5))]) (by decide) rfl dX2_mark_38 rfl ?_
    refine x_aload_n (pc2 := 41) 1 (n := 1) (x := a1) rfl dX2_mark_40 rfl ?_
    obtain ⟨k3, ht⟩ := ht
    obtain ⟨q4, e5, ht⟩ := ht
    refine y_getR (pc2 := 44) (κ := 6) (k := 5) fl_X2_134 (by decide) (by decide) k3 rfl e5 dX2_mark_41 rfl ?_
    refine x_iload (pc2 := 46) 6 (n := 6) (x := ((x4 * 40) + x5)) rfl dX2_mark_44 rfl ?_
    refine x_aload_n (pc2 := 47) 1 (n := 1) (x := a1) rfl dX2_mark_46 rfl ?_
    refine y_getR (pc2 := 50) (κ := 6) (k := 5) fl_X2_134 (by decide) (by decide) k3 rfl e5 dX2_mark_47 rfl ?_
    refine x_iload (pc2 := 52) 6 (n := 6) (x := ((x4 * 40) + x5)) rfl dX2_mark_50 rfl ?_
    obtain ⟨k6, ht⟩ := ht
    obtain ⟨b7, ht⟩ := ht
    refine x_iald (pc2 := 53) k6 b7 dX2_mark_52 rfl ?_
    refine x_iload_n (pc2 := 54) 2 (n := 2) (x := x2) rfl dX2_mark_53 rfl ?_
    refine x_iand (pc2 := 55) dX2_mark_54 rfl ?_
    refine x_iload_n (pc2 := 56) 3 (n := 3) (x := x3) rfl dX2_mark_55 rfl ?_
    refine x_ior (pc2 := 57) dX2_mark_56 rfl ?_
    obtain ⟨b8, ht⟩ := ht
    refine x_iast (pc2 := 58) k6 b8 dX2_mark_57 rfl ?_
    refine nm_I (fun h9 e10 p11 => ?_)
    replace ht := ht h9 e10
    refine x_iinc (pc2 := 61) 5 [1, 2, 3, 4, 5, 0, 6] (i := 5) (x := x5) (v := (x5 + 1)) (lv2 := [(0, .ref a0), (1, .ref a1), (2, .int x2), (3, .int x3), (4, .int x4), (5, .int (x5 + 1)), (6, .int ((x4 * 40) + x5))]) rfl (iinc_eq (by decide) _) (by decide) rfl dX2_mark_58 rfl ?_
    refine x_goto 21 dX2_mark_61 (by decide) ?_
    refine x_sub [0, 1, 2, 3, 4, 5] (lv2 := [(0, .ref a0), (1, .ref a1), (2, .int x2), (3, .int x3), (4, .int x4), (5, .int (x5 + 1))]) rfl ?_
    exact ht
def T_X2_checkHouses (G : GG) (d : Nat) (h : HP) (Q : Option Value → HP → Prop) (a0 : Nat) (a1 : Nat) (a2 : Nat) : Prop :=
  Ex G d mX2_checkHouses 2 [(0, .ref a0), (1, .ref a1), (2, .ref a2), (3, .int 0)] [] h Q
set_option maxRecDepth 20000 in
theorem t_X2_checkHouses {G : GG} {d : Nat} {h : HP} {Q : Option Value → HP → Prop} {a0 : Nat} {a1 : Nat} {a2 : Nat} (ht : T_X2_checkHouses G d h Q a0 a1 a2) : Ex G d mX2_checkHouses 0 [(0, .ref a0), (1, .ref a1), (2, .ref a2)] [] h Q := by
  unfold T_X2_checkHouses at ht
  refine x_iconst (pc2 := 1) (v := 0) (by decide) dX2_checkHouses_0 rfl ?_
  refine x_istore_n (pc2 := 2) [1, 2, 3, 0] (n := 3) (x := 0) (lv2 := [(0, .ref a0), (1, .ref a1), (2, .ref a2), (3, .int 0)]) (by decide) rfl dX2_checkHouses_1 rfl ?_
  exact ht
theorem e_X2_checkHouses {G : GG} {d : Nat} {h : HP} {Q : Option Value → HP → Prop} {a0 : Nat} {a1 : Nat} {a2 : Nat} (ht : T_X2_checkHouses G d h Q a0 a1 a2) : Cal G d mX2_checkHouses [.ref a0, .ref a1, .ref a2] h Q := cal_of rfl (Nat.le_of_ble_eq_true rfl) (t_X2_checkHouses ht)
def T_X2_checkHouses_2 (G : GG) (d : Nat) (h : HP) (Q : Option Value → HP → Prop) (a0 : Nat) (a1 : Nat) (a2 : Nat) (x3 : Int32) : Prop :=
  Kd G h a2 6 ∧ (((hI h a2 2) ≤ x3 → Q none h) ∧ (¬ (hI h a2 2) ≤ x3 → ∃ q3, hR h a2 7 = some q3 ∧ Kd G h q3 20 ∧ vp_in x3 (hN h q3) ∧ ∃ q7, hR h q3 x3.toNatClampNeg = some q7 ∧ Kd G h q7 9 ∧ (((hI h a2 0) < (hI h q7 3) → Kd G h a1 8 ∧ Cal G (d - 1) mX8_failAt [.ref a1, .int (hI h a1 0), .int 5] h (fun r12 h13 => ∃ v15, r12 = some (.int v15) ∧ Ex G d mX2_checkHouses 2 [(0, .ref a0), (1, .ref a1), (2, .ref a2), (3, .int (x3 + 1))] [] h13 Q)) ∧ (¬ (hI h a2 0) < (hI h q7 3) → vp_in x3 (hN h q3) ∧ ∃ q17, hR h q3 x3.toNatClampNeg = some q17 ∧ Kd G h q17 9 ∧ (((hI h q17 4) ≤ (hI h a2 1) → Ex G d mX2_checkHouses 2 [(0, .ref a0), (1, .ref a1), (2, .ref a2), (3, .int (x3 + 1))] [] h Q) ∧ (¬ (hI h q17 4) ≤ (hI h a2 1) → Kd G h a1 8 ∧ Cal G (d - 1) mX8_failAt [.ref a1, .int (hI h a1 0), .int 5] h (fun r22 h23 => ∃ v25, r22 = some (.int v25) ∧ Ex G d mX2_checkHouses 2 [(0, .ref a0), (1, .ref a1), (2, .ref a2), (3, .int (x3 + 1))] [] h23 Q)))))))
set_option maxRecDepth 20000 in
theorem t_X2_checkHouses_2 {G : GG} {d : Nat} {h : HP} {Q : Option Value → HP → Prop} {a0 : Nat} {a1 : Nat} {a2 : Nat} {x3 : Int32} (hd1 : 1 ≤ d) (ht : T_X2_checkHouses_2 G d h Q a0 a1 a2 x3) : Ex G d mX2_checkHouses 2 [(0, .ref a0), (1, .ref a1), (2, .ref a2), (3, .int x3)] [] h Q := by
  unfold T_X2_checkHouses_2 at ht
  refine x_iload_n (pc2 := 3) 3 (n := 3) (x := x3) rfl dX2_checkHouses_2 rfl ?_
  refine x_aload_n (pc2 := 4) 2 (n := 2) (x := a2) rfl dX2_checkHouses_3 rfl ?_
  obtain ⟨k1, ht⟩ := ht
  refine y_getI (pc2 := 7) (κ := 6) (k := 2) fl_X2_51 (by decide) (by decide) k1 rfl dX2_checkHouses_4 rfl ?_
  refine x_icmp_ge (pc2 := 10) 58 dX2_checkHouses_7 (by decide) rfl (fun c2 => ?_) (fun c2 => ?_)
  · replace ht := ht.1 c2
    exact x_retV rfl dX2_checkHouses_58 ht
  · replace ht := ht.2 c2
    refine x_aload_n (pc2 := 11) 2 (n := 2) (x := a2) rfl dX2_checkHouses_10 rfl ?_
    obtain ⟨q3, e4, ht⟩ := ht
    refine y_getR (pc2 := 14) (κ := 6) (k := 7) fl_X2_90 (by decide) (by decide) k1 rfl e4 dX2_checkHouses_11 rfl ?_
    refine x_iload_n (pc2 := 15) 3 (n := 3) (x := x3) rfl dX2_checkHouses_14 rfl ?_
    obtain ⟨k5, ht⟩ := ht
    obtain ⟨b6, ht⟩ := ht
    obtain ⟨q7, e8, ht⟩ := ht
    refine y_aaldR (pc2 := 16) (κ := 20) (by decide) k5 b6 e8 dX2_checkHouses_15 rfl ?_
    obtain ⟨k9, ht⟩ := ht
    refine y_getI (pc2 := 19) (κ := 9) (k := 3) fl_X2_121 (by decide) (by decide) k9 rfl dX2_checkHouses_16 rfl ?_
    refine x_aload_n (pc2 := 20) 2 (n := 2) (x := a2) rfl dX2_checkHouses_19 rfl ?_
    refine y_getI (pc2 := 23) (κ := 6) (k := 0) fl_X2_77 (by decide) (by decide) k1 rfl dX2_checkHouses_20 rfl ?_
    refine x_icmp_gt (pc2 := 26) 42 dX2_checkHouses_23 (by decide) rfl (fun c10 => ?_) (fun c10 => ?_)
    · replace ht := ht.1 c10
      refine x_aload_n (pc2 := 43) 1 (n := 1) (x := a1) rfl dX2_checkHouses_42 rfl ?_
      refine x_aload_n (pc2 := 44) 1 (n := 1) (x := a1) rfl dX2_checkHouses_43 rfl ?_
      obtain ⟨k11, ht⟩ := ht
      refine y_getI (pc2 := 47) (κ := 8) (k := 0) fl_X2_138 (by decide) (by decide) k11 rfl dX2_checkHouses_44 rfl ?_
      refine x_iconst (pc2 := 48) (v := 5) (by decide) dX2_checkHouses_47 rfl ?_
      refine x_callV (pc2 := 51) (As := [.int (hI h a1 0), .int 5]) (rest := []) (b := a1) mv_X8_failAt ml_X2_116 k11 rfl rfl (Nat.le_of_ble_eq_true rfl) hd1 dX2_checkHouses_48 rfl (ht.mono (fun r12 h13 p14 ht' => ?_))
      clear ht
      obtain ⟨v15, rfl, ht⟩ := ht'
      show Ex G d mX2_checkHouses 51 [(0, .ref a0), (1, .ref a1), (2, .ref a2), (3, .int x3)] [.int v15] h13 Q
      refine x_pop (pc2 := 52) rfl dX2_checkHouses_51 rfl ?_
      refine x_iinc (pc2 := 55) 3 [1, 2, 3, 0] (i := 3) (x := x3) (v := (x3 + 1)) (lv2 := [(0, .ref a0), (1, .ref a1), (2, .ref a2), (3, .int (x3 + 1))]) rfl (iinc_eq (by decide) _) (by decide) rfl dX2_checkHouses_52 rfl ?_
      refine x_goto 2 dX2_checkHouses_55 (by decide) ?_
      exact ht
    · replace ht := ht.2 c10
      refine x_aload_n (pc2 := 27) 2 (n := 2) (x := a2) rfl dX2_checkHouses_26 rfl ?_
      refine y_getR (pc2 := 30) (κ := 6) (k := 7) fl_X2_90 (by decide) (by decide) k1 rfl e4 dX2_checkHouses_27 rfl ?_
      refine x_iload_n (pc2 := 31) 3 (n := 3) (x := x3) rfl dX2_checkHouses_30 rfl ?_
      obtain ⟨b16, ht⟩ := ht
      obtain ⟨q17, e18, ht⟩ := ht
      refine y_aaldR (pc2 := 32) (κ := 20) (by decide) k5 b16 e18 dX2_checkHouses_31 rfl ?_
      obtain ⟨k19, ht⟩ := ht
      refine y_getI (pc2 := 35) (κ := 9) (k := 4) fl_X2_129 (by decide) (by decide) k19 rfl dX2_checkHouses_32 rfl ?_
      refine x_aload_n (pc2 := 36) 2 (n := 2) (x := a2) rfl dX2_checkHouses_35 rfl ?_
      refine y_getI (pc2 := 39) (κ := 6) (k := 1) fl_X2_80 (by decide) (by decide) k1 rfl dX2_checkHouses_36 rfl ?_
      refine x_icmp_le (pc2 := 42) 52 dX2_checkHouses_39 (by decide) rfl (fun c20 => ?_) (fun c20 => ?_)
      · replace ht := ht.1 c20
        refine x_iinc (pc2 := 55) 3 [1, 2, 3, 0] (i := 3) (x := x3) (v := (x3 + 1)) (lv2 := [(0, .ref a0), (1, .ref a1), (2, .ref a2), (3, .int (x3 + 1))]) rfl (iinc_eq (by decide) _) (by decide) rfl dX2_checkHouses_52 rfl ?_
        refine x_goto 2 dX2_checkHouses_55 (by decide) ?_
        exact ht
      · replace ht := ht.2 c20
        refine x_aload_n (pc2 := 43) 1 (n := 1) (x := a1) rfl dX2_checkHouses_42 rfl ?_
        refine x_aload_n (pc2 := 44) 1 (n := 1) (x := a1) rfl dX2_checkHouses_43 rfl ?_
        obtain ⟨k21, ht⟩ := ht
        refine y_getI (pc2 := 47) (κ := 8) (k := 0) fl_X2_138 (by decide) (by decide) k21 rfl dX2_checkHouses_44 rfl ?_
        refine x_iconst (pc2 := 48) (v := 5) (by decide) dX2_checkHouses_47 rfl ?_
        refine x_callV (pc2 := 51) (As := [.int (hI h a1 0), .int 5]) (rest := []) (b := a1) mv_X8_failAt ml_X2_116 k21 rfl rfl (Nat.le_of_ble_eq_true rfl) hd1 dX2_checkHouses_48 rfl (ht.mono (fun r22 h23 p24 ht' => ?_))
        clear ht
        obtain ⟨v25, rfl, ht⟩ := ht'
        show Ex G d mX2_checkHouses 51 [(0, .ref a0), (1, .ref a1), (2, .ref a2), (3, .int x3)] [.int v25] h23 Q
        refine x_pop (pc2 := 52) rfl dX2_checkHouses_51 rfl ?_
        refine x_iinc (pc2 := 55) 3 [1, 2, 3, 0] (i := 3) (x := x3) (v := (x3 + 1)) (lv2 := [(0, .ref a0), (1, .ref a1), (2, .ref a2), (3, .int (x3 + 1))]) rfl (iinc_eq (by decide) _) (by decide) rfl dX2_checkHouses_52 rfl ?_
        refine x_goto 2 dX2_checkHouses_55 (by decide) ?_
        exact ht
def T_X5_init (G : GG) (d : Nat) (h : HP) (Q : Option Value → HP → Prop) (a0 : Nat) : Prop :=
  ∀ q1 h2, q1 = hZ h → h2 = nw h 14 ((424 : Int32).toNatClampNeg) → Kd G h2 a0 5 ∧ ∀ q7 h8, q7 = hZ (sR h2 a0 0 (some q1)) → h8 = nw (sR h2 a0 0 (some q1)) 14 ((12 : Int32).toNatClampNeg) → ∀ q12 h13, q12 = hZ (sR h8 a0 1 (some q7)) → h13 = nw (sR h8 a0 1 (some q7)) 14 ((12 : Int32).toNatClampNeg) → ∀ q17 h18, q17 = hZ (sR h13 a0 2 (some q12)) → h18 = nw (sR h13 a0 2 (some q12)) 14 ((12 : Int32).toNatClampNeg) → Q none (sR h18 a0 3 (some q17))
set_option maxRecDepth 20000 in
theorem t_X5_init {G : GG} {d : Nat} {h : HP} {Q : Option Value → HP → Prop} {a0 : Nat} (hd1 : 1 ≤ d) (ht : T_X5_init G d h Q a0) : Ex G d mX5_init 0 [(0, .ref a0)] [] h Q := by
  unfold T_X5_init at ht
  refine x_aload_n (pc2 := 1) 0 (n := 0) (x := a0) rfl dX5_init_0 rfl ?_
  refine x_objInit (pc2 := 4) ml_X5_3 hd1 (Nat.le_of_ble_eq_true rfl) dX5_init_1 rfl ?_
  refine x_aload_n (pc2 := 5) 0 (n := 0) (x := a0) rfl dX5_init_4 rfl ?_
  refine x_sipush (pc2 := 8) (v := 424) (by decide) dX5_init_5 rfl ?_
  refine y_newa (pc2 := 10) (κ := 14) (at0 := .int) ac_int rfl (by decide) (by decide) (by decide) (by decide) dX5_init_8 rfl (fun q1 h2 e3 e4 p5 => ?_)
  replace ht := ht q1 h2 e3 e4
  obtain ⟨k6, ht⟩ := ht
  refine x_putR (pc2 := 13) (v := (some q1)) (κ := 5) (k := 0) fl_X5_13 (by decide) (by decide) (Or.inr ⟨rfl, rfl⟩) (isRt_a _) k6 dX5_init_10 rfl ?_
  refine x_aload_n (pc2 := 14) 0 (n := 0) (x := a0) rfl dX5_init_13 rfl ?_
  refine x_bipush (pc2 := 16) (v := 12) (by decide) dX5_init_14 rfl ?_
  refine y_newa (pc2 := 18) (κ := 14) (at0 := .int) ac_int rfl (by decide) (by decide) (by decide) (by decide) dX5_init_16 rfl (fun q7 h8 e9 e10 p11 => ?_)
  replace ht := ht q7 h8 e9 e10
  refine x_putR (pc2 := 21) (v := (some q7)) (κ := 5) (k := 1) fl_X5_17 (by decide) (by decide) (Or.inr ⟨rfl, rfl⟩) (isRt_a _) (k6.sR.up p11) dX5_init_18 rfl ?_
  refine x_aload_n (pc2 := 22) 0 (n := 0) (x := a0) rfl dX5_init_21 rfl ?_
  refine x_bipush (pc2 := 24) (v := 12) (by decide) dX5_init_22 rfl ?_
  refine y_newa (pc2 := 26) (κ := 14) (at0 := .int) ac_int rfl (by decide) (by decide) (by decide) (by decide) dX5_init_24 rfl (fun q12 h13 e14 e15 p16 => ?_)
  replace ht := ht q12 h13 e14 e15
  refine x_putR (pc2 := 29) (v := (some q12)) (κ := 5) (k := 2) fl_X5_20 (by decide) (by decide) (Or.inr ⟨rfl, rfl⟩) (isRt_a _) ((k6.sR.up p11).sR.up p16) dX5_init_26 rfl ?_
  refine x_aload_n (pc2 := 30) 0 (n := 0) (x := a0) rfl dX5_init_29 rfl ?_
  refine x_bipush (pc2 := 32) (v := 12) (by decide) dX5_init_30 rfl ?_
  refine y_newa (pc2 := 34) (κ := 14) (at0 := .int) ac_int rfl (by decide) (by decide) (by decide) (by decide) dX5_init_32 rfl (fun q17 h18 e19 e20 p21 => ?_)
  replace ht := ht q17 h18 e19 e20
  refine x_putR (pc2 := 37) (v := (some q17)) (κ := 5) (k := 3) fl_X5_23 (by decide) (by decide) (Or.inr ⟨rfl, rfl⟩) (isRt_a _) (((k6.sR.up p11).sR.up p16).sR.up p21) dX5_init_34 rfl ?_
  exact x_retV rfl dX5_init_37 ht
theorem e_X5_init {G : GG} {d : Nat} {h : HP} {Q : Option Value → HP → Prop} {a0 : Nat} (hd1 : 1 ≤ d) (ht : T_X5_init G d h Q a0) : Cal G d mX5_init [.ref a0] h Q := cal_of rfl (Nat.le_of_ble_eq_true rfl) (t_X5_init hd1 ht)
def T_X5_read (G : GG) (d : Nat) (h : HP) (Q : Option Value → HP → Prop) (a0 : Nat) (a1 : Nat) (x2 : Int32) : Prop :=
  Kd G h a0 5 ∧ ∃ q2, hR (sI (sI (sI (sI (sR h a0 4 (some a1)) a0 5 0) a0 6 0) a0 7 0) a0 8 (-1)) a0 4 = some q2 ∧ Kd G (sI (sI (sI (sI (sR h a0 4 (some a1)) a0 5 0) a0 6 0) a0 7 0) a0 8 (-1)) q2 8 ∧ Cal G (d - 1) mX8_open [.ref q2] (sI (sI (sI (sI (sR h a0 4 (some a1)) a0 5 0) a0 6 0) a0 7 0) a0 8 (-1)) (fun r4 h5 => r4 = none ∧ Ex G d mX5_read 37 [(0, .ref a0), (1, .ref a1), (2, .int x2), (3, .int 1), (4, .int 0)] [] h5 Q)
set_option maxRecDepth 20000 in
theorem t_X5_read {G : GG} {d : Nat} {h : HP} {Q : Option Value → HP → Prop} {a0 : Nat} {a1 : Nat} {x2 : Int32} (hd1 : 1 ≤ d) (ht : T_X5_read G d h Q a0 a1 x2) : Ex G d mX5_read 0 [(0, .ref a0), (1, .ref a1), (2, .int x2)] [] h Q := by
  unfold T_X5_read at ht
  refine x_aload_n (pc2 := 1) 0 (n := 0) (x := a0) rfl dX5_read_0 rfl ?_
  refine x_aload_n (pc2 := 2) 1 (n := 1) (x := a1) rfl dX5_read_1 rfl ?_
  obtain ⟨k1, ht⟩ := ht
  refine x_putR (pc2 := 5) (v := (some a1)) (κ := 5) (k := 4) fl_X5_26 (by decide) (by decide) (Or.inl rfl) (isRt_o _) k1 dX5_read_2 rfl ?_
  refine x_aload_n (pc2 := 6) 0 (n := 0) (x := a0) rfl dX5_read_5 rfl ?_
  refine x_iconst (pc2 := 7) (v := 0) (by decide) dX5_read_6 rfl ?_
  refine x_putI (pc2 := 10) (κ := 5) (k := 5) fl_X5_30 (by decide) (by decide) (Or.inl rfl) rfl k1.sR dX5_read_7 rfl ?_
  refine x_aload_n (pc2 := 11) 0 (n := 0) (x := a0) rfl dX5_read_10 rfl ?_
  refine x_iconst (pc2 := 12) (v := 0) (by decide) dX5_read_11 rfl ?_
  refine x_putI (pc2 := 15) (κ := 5) (k := 6) fl_X5_34 (by decide) (by decide) (Or.inl rfl) rfl k1.sR.sI dX5_read_12 rfl ?_
  refine x_aload_n (pc2 := 16) 0 (n := 0) (x := a0) rfl dX5_read_15 rfl ?_
  refine x_iconst (pc2 := 17) (v := 0) (by decide) dX5_read_16 rfl ?_
  refine x_putI (pc2 := 20) (κ := 5) (k := 7) fl_X5_37 (by decide) (by decide) (Or.inl rfl) rfl k1.sR.sI.sI dX5_read_17 rfl ?_
  refine x_aload_n (pc2 := 21) 0 (n := 0) (x := a0) rfl dX5_read_20 rfl ?_
  refine x_iconst (pc2 := 22) (v := (-1)) (by decide) dX5_read_21 rfl ?_
  refine x_putI (pc2 := 25) (κ := 5) (k := 8) fl_X5_40 (by decide) (by decide) (Or.inl rfl) rfl k1.sR.sI.sI.sI dX5_read_22 rfl ?_
  refine x_aload_n (pc2 := 26) 0 (n := 0) (x := a0) rfl dX5_read_25 rfl ?_
  obtain ⟨q2, e3, ht⟩ := ht
  refine y_getR (pc2 := 29) (κ := 5) (k := 4) fl_X5_26 (by decide) (by decide) k1.sR.sI.sI.sI.sI rfl e3 dX5_read_26 rfl ?_
  obtain ⟨k7, ht⟩ := ht
  refine x_callV (pc2 := 32) (As := []) (rest := []) (b := q2) mv_X8_open ml_X5_43 k7 rfl rfl (Nat.le_of_ble_eq_true rfl) hd1 dX5_read_29 rfl (ht.mono (fun r4 h5 p6 ht' => ?_))
  clear ht
  obtain ⟨rfl, ht⟩ := ht'
  show Ex G d mX5_read 32 [(0, .ref a0), (1, .ref a1), (2, .int x2)] [] h5 Q
  refine x_iconst (pc2 := 33) (v := 1) (by decide) dX5_read_32 rfl ?_
  refine x_istore_n (pc2 := 34) [1, 2, 3, 0] (n := 3) (x := 1) (lv2 := [(0, .ref a0), (1, .ref a1), (2, .int x2), (3, .int 1)]) (by decide) rfl dX5_read_33 rfl ?_
  refine x_iconst (pc2 := 35) (v := 0) (by decide) dX5_read_34 rfl ?_
  refine x_istore (pc2 := 37) [1, 2, 3, 4, 0] (n := 4) (x := 0) (lv2 := [(0, .ref a0), (1, .ref a1), (2, .int x2), (3, .int 1), (4, .int 0)]) (by decide) rfl dX5_read_35 rfl ?_
  exact ht
theorem e_X5_read {G : GG} {d : Nat} {h : HP} {Q : Option Value → HP → Prop} {a0 : Nat} {a1 : Nat} {x2 : Int32} (hd1 : 1 ≤ d) (ht : T_X5_read G d h Q a0 a1 x2) : Cal G d mX5_read [.ref a0, .ref a1, .int x2] h Q := cal_of rfl (Nat.le_of_ble_eq_true rfl) (t_X5_read hd1 ht)
def T_X5_read_37 (G : GG) (d : Nat) (h : HP) (Q : Option Value → HP → Prop) (a0 : Nat) (a1 : Nat) (x2 : Int32) (x3 : Int32) (x4 : Int32) : Prop :=
  ((12 < x4 → Ex G d mX5_read 78 [(0, .ref a0), (1, .ref a1), (2, .int x2), (3, .int x3), (4, .int x4)] [] h Q) ∧ (¬ 12 < x4 → ((x3 = 0 → Ex G d mX5_read 78 [(0, .ref a0), (1, .ref a1), (2, .int x2), (3, .int x3), (4, .int x4)] [] h Q) ∧ (¬ x3 = 0 → Kd G h a0 5 ∧ Cal G (d - 1) mX5_readClause [.ref a0, .int x2] h (fun r3 h4 => ∃ v7, r3 = some (.int v7) ∧ ((v7 = 0 → Ex G d mX5_read 37 [(0, .ref a0), (1, .ref a1), (2, .int x2), (3, .int 0), (4, .int (x4 + 1))] [] h4 Q) ∧ (¬ v7 = 0 → ∃ q9, hR h4 a0 4 = some q9 ∧ Kd G h4 q9 8 ∧ Cal G (d - 1) mX8_goesOn [.ref q9] h4 (fun r11 h12 => ∃ v15, r11 = some (.int v15) ∧ ((v15 = 0 → Ex G d mX5_read 37 [(0, .ref a0), (1, .ref a1), (2, .int x2), (3, .int 0), (4, .int (x4 + 1))] [] h12 Q) ∧ (¬ v15 = 0 → Ex G d mX5_read 37 [(0, .ref a0), (1, .ref a1), (2, .int x2), (3, .int 1), (4, .int (x4 + 1))] [] h12 Q))))))))))
set_option maxRecDepth 20000 in
theorem t_X5_read_37 {G : GG} {d : Nat} {h : HP} {Q : Option Value → HP → Prop} {a0 : Nat} {a1 : Nat} {x2 : Int32} {x3 : Int32} {x4 : Int32} (hd1 : 1 ≤ d) (ht : T_X5_read_37 G d h Q a0 a1 x2 x3 x4) : Ex G d mX5_read 37 [(0, .ref a0), (1, .ref a1), (2, .int x2), (3, .int x3), (4, .int x4)] [] h Q := by
  unfold T_X5_read_37 at ht
  refine x_iload (pc2 := 39) 4 (n := 4) (x := x4) rfl dX5_read_37 rfl ?_
  refine x_bipush (pc2 := 41) (v := 12) (by decide) dX5_read_39 rfl ?_
  refine x_icmp_gt (pc2 := 44) 78 dX5_read_41 (by decide) rfl (fun c1 => ?_) (fun c1 => ?_)
  · replace ht := ht.1 c1
    exact ht
  · replace ht := ht.2 c1
    refine x_iload_n (pc2 := 45) 3 (n := 3) (x := x3) rfl dX5_read_44 rfl ?_
    refine x_if_eq (pc2 := 48) 78 dX5_read_45 (by decide) rfl (fun c2 => ?_) (fun c2 => ?_)
    · replace ht := ht.1 c2
      exact ht
    · replace ht := ht.2 c2
      refine x_aload_n (pc2 := 49) 0 (n := 0) (x := a0) rfl dX5_read_48 rfl ?_
      refine x_iload_n (pc2 := 50) 2 (n := 2) (x := x2) rfl dX5_read_49 rfl ?_
      obtain ⟨k6, ht⟩ := ht
      refine x_callV (pc2 := 53) (As := [.int x2]) (rest := []) (b := a0) mv_X5_readClause ml_X5_46 k6 rfl rfl (Nat.le_of_ble_eq_true rfl) hd1 dX5_read_50 rfl (ht.mono (fun r3 h4 p5 ht' => ?_))
      clear ht
      obtain ⟨v7, rfl, ht⟩ := ht'
      show Ex G d mX5_read 53 [(0, .ref a0), (1, .ref a1), (2, .int x2), (3, .int x3), (4, .int x4)] [.int v7] h4 Q
      refine x_if_eq (pc2 := 56) 70 dX5_read_53 (by decide) rfl (fun c8 => ?_) (fun c8 => ?_)
      · replace ht := ht.1 c8
        refine x_iconst (pc2 := 71) (v := 0) (by decide) dX5_read_70 rfl ?_
        refine x_istore_n (pc2 := 72) [1, 2, 3, 0, 4] (n := 3) (x := 0) (lv2 := [(0, .ref a0), (1, .ref a1), (2, .int x2), (3, .int 0), (4, .int x4)]) (by decide) rfl dX5_read_71 rfl ?_
        refine x_iinc (pc2 := 75) 4 [1, 2, 3, 4, 0] (i := 4) (x := x4) (v := (x4 + 1)) (lv2 := [(0, .ref a0), (1, .ref a1), (2, .int x2), (3, .int 0), (4, .int (x4 + 1))]) rfl (iinc_eq (by decide) _) (by decide) rfl dX5_read_72 rfl ?_
        refine x_goto 37 dX5_read_75 (by decide) ?_
        exact ht
      · replace ht := ht.2 c8
        refine x_aload_n (pc2 := 57) 0 (n := 0) (x := a0) rfl dX5_read_56 rfl ?_
        obtain ⟨q9, e10, ht⟩ := ht
        refine y_getR (pc2 := 60) (κ := 5) (k := 4) fl_X5_26 (by decide) (by decide) (k6.up p5) rfl e10 dX5_read_57 rfl ?_
        obtain ⟨k14, ht⟩ := ht
        refine x_callV (pc2 := 63) (As := []) (rest := []) (b := q9) mv_X8_goesOn ml_X5_50 k14 rfl rfl (Nat.le_of_ble_eq_true rfl) hd1 dX5_read_60 rfl (ht.mono (fun r11 h12 p13 ht' => ?_))
        clear ht
        obtain ⟨v15, rfl, ht⟩ := ht'
        show Ex G d mX5_read 63 [(0, .ref a0), (1, .ref a1), (2, .int x2), (3, .int x3), (4, .int x4)] [.int v15] h12 Q
        refine x_if_eq (pc2 := 66) 70 dX5_read_63 (by decide) rfl (fun c16 => ?_) (fun c16 => ?_)
        · replace ht := ht.1 c16
          refine x_iconst (pc2 := 71) (v := 0) (by decide) dX5_read_70 rfl ?_
          refine x_istore_n (pc2 := 72) [1, 2, 3, 0, 4] (n := 3) (x := 0) (lv2 := [(0, .ref a0), (1, .ref a1), (2, .int x2), (3, .int 0), (4, .int x4)]) (by decide) rfl dX5_read_71 rfl ?_
          refine x_iinc (pc2 := 75) 4 [1, 2, 3, 4, 0] (i := 4) (x := x4) (v := (x4 + 1)) (lv2 := [(0, .ref a0), (1, .ref a1), (2, .int x2), (3, .int 0), (4, .int (x4 + 1))]) rfl (iinc_eq (by decide) _) (by decide) rfl dX5_read_72 rfl ?_
          refine x_goto 37 dX5_read_75 (by decide) ?_
          exact ht
        · replace ht := ht.2 c16
          refine x_iconst (pc2 := 67) (v := 1) (by decide) dX5_read_66 rfl ?_
          refine x_goto 71 dX5_read_67 (by decide) ?_
          refine x_istore_n (pc2 := 72) [1, 2, 3, 0, 4] (n := 3) (x := 1) (lv2 := [(0, .ref a0), (1, .ref a1), (2, .int x2), (3, .int 1), (4, .int x4)]) (by decide) rfl dX5_read_71 rfl ?_
          refine x_iinc (pc2 := 75) 4 [1, 2, 3, 4, 0] (i := 4) (x := x4) (v := (x4 + 1)) (lv2 := [(0, .ref a0), (1, .ref a1), (2, .int x2), (3, .int 1), (4, .int (x4 + 1))]) rfl (iinc_eq (by decide) _) (by decide) rfl dX5_read_72 rfl ?_
          refine x_goto 37 dX5_read_75 (by decide) ?_
          exact ht
def T_X5_read_78 (G : GG) (d : Nat) (h : HP) (Q : Option Value → HP → Prop) (a0 : Nat) (a1 : Nat) (x2 : Int32) (x3 : Int32) (x4 : Int32) : Prop :=
  Kd G h a0 5 ∧ ∃ q2, hR h a0 4 = some q2 ∧ Kd G h q2 8 ∧ (((hI h q2 1) = 0 → ∀ q6 h7, q6 = hZ h → h7 = nw h 4 6 → ∃ q11, hR h7 a0 0 = some q11 ∧ Cal G (d - 1) mJ7_copyOf_59c91 [.ref q11, .int (hI h7 a0 5)] h7 (fun r13 h14 => ∃ v16, r13 = some (.ref v16) ∧ ∃ q17, hR h14 a0 1 = some q17 ∧ Cal G (d - 1) mJ7_copyOf_59c91 [.ref q17, .int (hI h14 a0 6)] h14 (fun r19 h20 => ∃ v22, r19 = some (.ref v22) ∧ ∃ q23, hR h20 a0 2 = some q23 ∧ Cal G (d - 1) mJ7_copyOf_59c91 [.ref q23, .int (hI h20 a0 6)] h20 (fun r25 h26 => ∃ v28, r25 = some (.ref v28) ∧ ∃ q29, hR h26 a0 3 = some q29 ∧ Cal G (d - 1) mJ7_copyOf_59c91 [.ref q29, .int (hI h26 a0 6)] h26 (fun r31 h32 => ∃ v34, r31 = some (.ref v34) ∧ ((¬ (hI h32 a0 8) = 1 → Cal G (d - 1) mX4_init [.ref q6, .ref v16, .ref v22, .ref v28, .ref v34, .int 0] h32 (fun r36 h37 => r36 = none ∧ Q (some (va_rf (some q6))) h37)) ∧ ((hI h32 a0 8) = 1 → Cal G (d - 1) mX4_init [.ref q6, .ref v16, .ref v22, .ref v28, .ref v34, .int 1] h32 (fun r39 h40 => r39 = none ∧ Q (some (va_rf (some q6))) h40)))))))) ∧ (¬ (hI h q2 1) = 0 → Q (some (va_rf none)) h))
set_option maxRecDepth 20000 in
theorem t_X5_read_78 {G : GG} {d : Nat} {h : HP} {Q : Option Value → HP → Prop} {a0 : Nat} {a1 : Nat} {x2 : Int32} {x3 : Int32} {x4 : Int32} (hd1 : 1 ≤ d) (ht : T_X5_read_78 G d h Q a0 a1 x2 x3 x4) : Ex G d mX5_read 78 [(0, .ref a0), (1, .ref a1), (2, .int x2), (3, .int x3), (4, .int x4)] [] h Q := by
  unfold T_X5_read_78 at ht
  refine x_aload_n (pc2 := 79) 0 (n := 0) (x := a0) rfl dX5_read_78 rfl ?_
  obtain ⟨k1, ht⟩ := ht
  obtain ⟨q2, e3, ht⟩ := ht
  refine y_getR (pc2 := 82) (κ := 5) (k := 4) fl_X5_26 (by decide) (by decide) k1 rfl e3 dX5_read_79 rfl ?_
  obtain ⟨k4, ht⟩ := ht
  refine y_getI (pc2 := 85) (κ := 8) (k := 1) fl_X5_54 (by decide) (by decide) k4 rfl dX5_read_82 rfl ?_
  refine x_if_eq (pc2 := 88) 90 dX5_read_85 (by decide) rfl (fun c5 => ?_) (fun c5 => ?_)
  · replace ht := ht.1 c5
    refine y_new (pc2 := 93) (κ := 4) cl_X5_57 (by decide) dX5_read_90 rfl (fun q6 h7 e8 e9 p10 => ?_)
    replace ht := ht q6 h7 e8 e9
    refine x_dup (pc2 := 94) rfl dX5_read_93 rfl ?_
    refine x_aload_n (pc2 := 95) 0 (n := 0) (x := a0) rfl dX5_read_94 rfl ?_
    obtain ⟨q11, e12, ht⟩ := ht
    refine y_getR (pc2 := 98) (κ := 5) (k := 0) fl_X5_13 (by decide) (by decide) (k1.up p10) rfl e12 dX5_read_95 rfl ?_
    refine x_aload_n (pc2 := 99) 0 (n := 0) (x := a0) rfl dX5_read_98 rfl ?_
    refine y_getI (pc2 := 102) (κ := 5) (k := 5) fl_X5_30 (by decide) (by decide) (k1.up p10) rfl dX5_read_99 rfl ?_
    refine x_callS (pc2 := 105) (As := [.ref q11, .int (hI h7 a0 5)]) (rest := [.ref q6, .ref q6]) ms_J7_copyOf_59c91 ml_X5_59 rfl rfl (Nat.le_of_ble_eq_true rfl) hd1 dX5_read_102 rfl (ht.mono (fun r13 h14 p15 ht' => ?_))
    clear ht
    obtain ⟨v16, rfl, ht⟩ := ht'
    show Ex G d mX5_read 105 [(0, .ref a0), (1, .ref a1), (2, .int x2), (3, .int x3), (4, .int x4)] [.ref v16, .ref q6, .ref q6] h14 Q
    refine x_aload_n (pc2 := 106) 0 (n := 0) (x := a0) rfl dX5_read_105 rfl ?_
    obtain ⟨q17, e18, ht⟩ := ht
    refine y_getR (pc2 := 109) (κ := 5) (k := 1) fl_X5_17 (by decide) (by decide) ((k1.up p10).up p15) rfl e18 dX5_read_106 rfl ?_
    refine x_aload_n (pc2 := 110) 0 (n := 0) (x := a0) rfl dX5_read_109 rfl ?_
    refine y_getI (pc2 := 113) (κ := 5) (k := 6) fl_X5_34 (by decide) (by decide) ((k1.up p10).up p15) rfl dX5_read_110 rfl ?_
    refine x_callS (pc2 := 116) (As := [.ref q17, .int (hI h14 a0 6)]) (rest := [.ref v16, .ref q6, .ref q6]) ms_J7_copyOf_59c91 ml_X5_59 rfl rfl (Nat.le_of_ble_eq_true rfl) hd1 dX5_read_113 rfl (ht.mono (fun r19 h20 p21 ht' => ?_))
    clear ht
    obtain ⟨v22, rfl, ht⟩ := ht'
    show Ex G d mX5_read 116 [(0, .ref a0), (1, .ref a1), (2, .int x2), (3, .int x3), (4, .int x4)] [.ref v22, .ref v16, .ref q6, .ref q6] h20 Q
    refine x_aload_n (pc2 := 117) 0 (n := 0) (x := a0) rfl dX5_read_116 rfl ?_
    obtain ⟨q23, e24, ht⟩ := ht
    refine y_getR (pc2 := 120) (κ := 5) (k := 2) fl_X5_20 (by decide) (by decide) (((k1.up p10).up p15).up p21) rfl e24 dX5_read_117 rfl ?_
    refine x_aload_n (pc2 := 121) 0 (n := 0) (x := a0) rfl dX5_read_120 rfl ?_
    refine y_getI (pc2 := 124) (κ := 5) (k := 6) fl_X5_34 (by decide) (by decide) (((k1.up p10).up p15).up p21) rfl dX5_read_121 rfl ?_
    refine x_callS (pc2 := 127) (As := [.ref q23, .int (hI h20 a0 6)]) (rest := [.ref v22, .ref v16, .ref q6, .ref q6]) ms_J7_copyOf_59c91 ml_X5_59 rfl rfl (Nat.le_of_ble_eq_true rfl) hd1 dX5_read_124 rfl (ht.mono (fun r25 h26 p27 ht' => ?_))
    clear ht
    obtain ⟨v28, rfl, ht⟩ := ht'
    show Ex G d mX5_read 127 [(0, .ref a0), (1, .ref a1), (2, .int x2), (3, .int x3), (4, .int x4)] [.ref v28, .ref v22, .ref v16, .ref q6, .ref q6] h26 Q
    refine x_aload_n (pc2 := 128) 0 (n := 0) (x := a0) rfl dX5_read_127 rfl ?_
    obtain ⟨q29, e30, ht⟩ := ht
    refine y_getR (pc2 := 131) (κ := 5) (k := 3) fl_X5_23 (by decide) (by decide) ((((k1.up p10).up p15).up p21).up p27) rfl e30 dX5_read_128 rfl ?_
    refine x_aload_n (pc2 := 132) 0 (n := 0) (x := a0) rfl dX5_read_131 rfl ?_
    refine y_getI (pc2 := 135) (κ := 5) (k := 6) fl_X5_34 (by decide) (by decide) ((((k1.up p10).up p15).up p21).up p27) rfl dX5_read_132 rfl ?_
    refine x_callS (pc2 := 138) (As := [.ref q29, .int (hI h26 a0 6)]) (rest := [.ref v28, .ref v22, .ref v16, .ref q6, .ref q6]) ms_J7_copyOf_59c91 ml_X5_59 rfl rfl (Nat.le_of_ble_eq_true rfl) hd1 dX5_read_135 rfl (ht.mono (fun r31 h32 p33 ht' => ?_))
    clear ht
    obtain ⟨v34, rfl, ht⟩ := ht'
    show Ex G d mX5_read 138 [(0, .ref a0), (1, .ref a1), (2, .int x2), (3, .int x3), (4, .int x4)] [.ref v34, .ref v28, .ref v22, .ref v16, .ref q6, .ref q6] h32 Q
    refine x_aload_n (pc2 := 139) 0 (n := 0) (x := a0) rfl dX5_read_138 rfl ?_
    refine y_getI (pc2 := 142) (κ := 5) (k := 8) fl_X5_40 (by decide) (by decide) (((((k1.up p10).up p15).up p21).up p27).up p33) rfl dX5_read_139 rfl ?_
    refine x_iconst (pc2 := 143) (v := 1) (by decide) dX5_read_142 rfl ?_
    refine y_icmp_ne (pc2 := 146) 150 dX5_read_143 (by decide) rfl (fun c35 => ?_) (fun c35 => ?_)
    · replace ht := ht.1 c35
      refine x_iconst (pc2 := 151) (v := 0) (by decide) dX5_read_150 rfl ?_
      refine x_callI (pc2 := 154) (As := [.ref v16, .ref v22, .ref v28, .ref v34, .int 0]) (rest := [.ref q6]) (b := q6) mi_X4_init ml_X5_65 rfl rfl (Nat.le_of_ble_eq_true rfl) hd1 dX5_read_151 rfl (ht.mono (fun r36 h37 p38 ht' => ?_))
      clear ht
      obtain ⟨rfl, ht⟩ := ht'
      show Ex G d mX5_read 154 [(0, .ref a0), (1, .ref a1), (2, .int x2), (3, .int x3), (4, .int x4)] [.ref q6] h37 Q
      exact x_retR (v := (some q6)) rfl (isRt_o _) dX5_read_154 ht
    · replace ht := ht.2 c35
      refine x_iconst (pc2 := 147) (v := 1) (by decide) dX5_read_146 rfl ?_
      refine x_goto 151 dX5_read_147 (by decide) ?_
      refine x_callI (pc2 := 154) (As := [.ref v16, .ref v22, .ref v28, .ref v34, .int 1]) (rest := [.ref q6]) (b := q6) mi_X4_init ml_X5_65 rfl rfl (Nat.le_of_ble_eq_true rfl) hd1 dX5_read_151 rfl (ht.mono (fun r39 h40 p41 ht' => ?_))
      clear ht
      obtain ⟨rfl, ht⟩ := ht'
      show Ex G d mX5_read 154 [(0, .ref a0), (1, .ref a1), (2, .int x2), (3, .int x3), (4, .int x4)] [.ref q6] h40 Q
      exact x_retR (v := (some q6)) rfl (isRt_o _) dX5_read_154 ht
  · replace ht := ht.2 c5
    refine x_null (pc2 := 89) dX5_read_88 rfl ?_
    exact x_retR (v := none) rfl (isRt_o _) dX5_read_89 ht
def T_X5_readClause (G : GG) (d : Nat) (h : HP) (Q : Option Value → HP → Prop) (a0 : Nat) (x1 : Int32) : Prop :=
  Kd G h a0 5 ∧ ∃ q2, hR h a0 4 = some q2 ∧ Kd G h q2 8 ∧ ((¬ (hI h q2 2) = 1 → Ex G d mX5_readClause 22 [(0, .ref a0), (1, .int x1)] [.int (-1)] h Q) ∧ ((hI h q2 2) = 1 → Ex G d mX5_readClause 22 [(0, .ref a0), (1, .int x1)] [.int (hI h q2 4)] h Q))
set_option maxRecDepth 20000 in
theorem t_X5_readClause {G : GG} {d : Nat} {h : HP} {Q : Option Value → HP → Prop} {a0 : Nat} {x1 : Int32} (ht : T_X5_readClause G d h Q a0 x1) : Ex G d mX5_readClause 0 [(0, .ref a0), (1, .int x1)] [] h Q := by
  unfold T_X5_readClause at ht
  refine x_aload_n (pc2 := 1) 0 (n := 0) (x := a0) rfl dX5_readClause_0 rfl ?_
  obtain ⟨k1, ht⟩ := ht
  obtain ⟨q2, e3, ht⟩ := ht
  refine y_getR (pc2 := 4) (κ := 5) (k := 4) fl_X5_26 (by decide) (by decide) k1 rfl e3 dX5_readClause_1 rfl ?_
  obtain ⟨k4, ht⟩ := ht
  refine y_getI (pc2 := 7) (κ := 8) (k := 2) fl_X5_68 (by decide) (by decide) k4 rfl dX5_readClause_4 rfl ?_
  refine x_iconst (pc2 := 8) (v := 1) (by decide) dX5_readClause_7 rfl ?_
  refine y_icmp_ne (pc2 := 11) 21 dX5_readClause_8 (by decide) rfl (fun c5 => ?_) (fun c5 => ?_)
  · replace ht := ht.1 c5
    refine x_iconst (pc2 := 22) (v := (-1)) (by decide) dX5_readClause_21 rfl ?_
    exact ht
  · replace ht := ht.2 c5
    refine x_aload_n (pc2 := 12) 0 (n := 0) (x := a0) rfl dX5_readClause_11 rfl ?_
    refine y_getR (pc2 := 15) (κ := 5) (k := 4) fl_X5_26 (by decide) (by decide) k1 rfl e3 dX5_readClause_12 rfl ?_
    refine y_getI (pc2 := 18) (κ := 8) (k := 4) fl_X5_71 (by decide) (by decide) k4 rfl dX5_readClause_15 rfl ?_
    refine x_goto 22 dX5_readClause_18 (by decide) ?_
    exact ht
theorem e_X5_readClause {G : GG} {d : Nat} {h : HP} {Q : Option Value → HP → Prop} {a0 : Nat} {x1 : Int32} (ht : T_X5_readClause G d h Q a0 x1) : Cal G d mX5_readClause [.ref a0, .int x1] h Q := cal_of rfl (Nat.le_of_ble_eq_true rfl) (t_X5_readClause ht)
def T_X5_readClause_22 (G : GG) (d : Nat) (h : HP) (Q : Option Value → HP → Prop) (a0 : Nat) (x1 : Int32) (sx0 : Int32) : Prop :=
  ((x1 = 0 → ((sx0 < 12 → Ex G d mX5_readClause 58 [(0, .ref a0), (1, .int x1), (2, .int sx0)] [.int 0] h Q) ∧ (¬ sx0 < 12 → ((15 < sx0 → Ex G d mX5_readClause 58 [(0, .ref a0), (1, .int x1), (2, .int sx0)] [.int 0] h Q) ∧ (¬ 15 < sx0 → Ex G d mX5_readClause 58 [(0, .ref a0), (1, .int x1), (2, .int sx0)] [.int 1] h Q))))) ∧ (¬ x1 = 0 → ((¬ sx0 = 16 → Ex G d mX5_readClause 58 [(0, .ref a0), (1, .int x1), (2, .int sx0)] [.int 0] h Q) ∧ (sx0 = 16 → Ex G d mX5_readClause 58 [(0, .ref a0), (1, .int x1), (2, .int sx0)] [.int 1] h Q))))
set_option maxRecDepth 20000 in
theorem t_X5_readClause_22 {G : GG} {d : Nat} {h : HP} {Q : Option Value → HP → Prop} {a0 : Nat} {x1 : Int32} {sx0 : Int32} (ht : T_X5_readClause_22 G d h Q a0 x1 sx0) : Ex G d mX5_readClause 22 [(0, .ref a0), (1, .int x1)] [.int sx0] h Q := by
  unfold T_X5_readClause_22 at ht
  refine x_istore_n (pc2 := 23) [1, 2, 0] (n := 2) (x := sx0) (lv2 := [(0, .ref a0), (1, .int x1), (2, .int sx0)]) (by decide) rfl dX5_readClause_22 rfl ?_
  refine x_iload_n (pc2 := 24) 1 (n := 1) (x := x1) rfl dX5_readClause_23 rfl ?_
  refine x_if_eq (pc2 := 27) 41 dX5_readClause_24 (by decide) rfl (fun c1 => ?_) (fun c1 => ?_)
  · replace ht := ht.1 c1
    refine x_iload_n (pc2 := 42) 2 (n := 2) (x := sx0) rfl dX5_readClause_41 rfl ?_
    refine x_bipush (pc2 := 44) (v := 12) (by decide) dX5_readClause_42 rfl ?_
    refine x_icmp_lt (pc2 := 47) 57 dX5_readClause_44 (by decide) rfl (fun c2 => ?_) (fun c2 => ?_)
    · replace ht := ht.1 c2
      refine x_iconst (pc2 := 58) (v := 0) (by decide) dX5_readClause_57 rfl ?_
      exact ht
    · replace ht := ht.2 c2
      refine x_iload_n (pc2 := 48) 2 (n := 2) (x := sx0) rfl dX5_readClause_47 rfl ?_
      refine x_bipush (pc2 := 50) (v := 15) (by decide) dX5_readClause_48 rfl ?_
      refine x_icmp_gt (pc2 := 53) 57 dX5_readClause_50 (by decide) rfl (fun c3 => ?_) (fun c3 => ?_)
      · replace ht := ht.1 c3
        refine x_iconst (pc2 := 58) (v := 0) (by decide) dX5_readClause_57 rfl ?_
        exact ht
      · replace ht := ht.2 c3
        refine x_iconst (pc2 := 54) (v := 1) (by decide) dX5_readClause_53 rfl ?_
        refine x_goto 58 dX5_readClause_54 (by decide) ?_
        exact ht
  · replace ht := ht.2 c1
    refine x_iload_n (pc2 := 28) 2 (n := 2) (x := sx0) rfl dX5_readClause_27 rfl ?_
    refine x_bipush (pc2 := 30) (v := 16) (by decide) dX5_readClause_28 rfl ?_
    refine y_icmp_ne (pc2 := 33) 37 dX5_readClause_30 (by decide) rfl (fun c4 => ?_) (fun c4 => ?_)
    · replace ht := ht.1 c4
      refine x_iconst (pc2 := 38) (v := 0) (by decide) dX5_readClause_37 rfl ?_
      refine x_goto 58 dX5_readClause_38 (by decide) ?_
      exact ht
    · replace ht := ht.2 c4
      refine x_iconst (pc2 := 34) (v := 1) (by decide) dX5_readClause_33 rfl ?_
      refine x_goto 58 dX5_readClause_34 (by decide) ?_
      exact ht
def T_X5_readClause_58 (G : GG) (d : Nat) (h : HP) (Q : Option Value → HP → Prop) (a0 : Nat) (x1 : Int32) (x2 : Int32) (sx0 : Int32) : Prop :=
  ((¬ sx0 = 0 → Kd G h a0 5 ∧ ((12 ≤ (hI h a0 6) → ∃ q4, hR h a0 4 = some q4 ∧ Kd G h q4 8 ∧ Cal G (d - 1) mX8_fail [.ref q4, .int 4] h (fun r6 h7 => ∃ v10, r6 = some (.int v10) ∧ ((v10 = 0 ∨ v10 = 1) ∧ Q (some (.int v10)) h7))) ∧ (¬ 12 ≤ (hI h a0 6) → ((¬ x2 = 15 → Ex G d mX5_readClause 104 [(0, .ref a0), (1, .int x1), (2, .int x2), (3, .int sx0)] [] h Q) ∧ (x2 = 15 → (((hI h a0 8) = (-1) → Ex G d mX5_readClause 104 [(0, .ref a0), (1, .int x1), (2, .int x2), (3, .int sx0)] [] h Q) ∧ (¬ (hI h a0 8) = (-1) → ∃ q13, hR h a0 4 = some q13 ∧ Kd G h q13 8 ∧ Cal G (d - 1) mX8_fail [.ref q13, .int 4] h (fun r15 h16 => ∃ v19, r15 = some (.int v19) ∧ ((v19 = 0 ∨ v19 = 1) ∧ Q (some (.int v19)) h16))))))))) ∧ (sx0 = 0 → Kd G h a0 5 ∧ ∃ q21, hR h a0 4 = some q21 ∧ Kd G h q21 8 ∧ Cal G (d - 1) mX8_fail [.ref q21, .int 0] h (fun r23 h24 => ∃ v27, r23 = some (.int v27) ∧ ((v27 = 0 ∨ v27 = 1) ∧ Q (some (.int v27)) h24))))
set_option maxRecDepth 20000 in
theorem t_X5_readClause_58 {G : GG} {d : Nat} {h : HP} {Q : Option Value → HP → Prop} {a0 : Nat} {x1 : Int32} {x2 : Int32} {sx0 : Int32} (hd1 : 1 ≤ d) (ht : T_X5_readClause_58 G d h Q a0 x1 x2 sx0) : Ex G d mX5_readClause 58 [(0, .ref a0), (1, .int x1), (2, .int x2)] [.int sx0] h Q := by
  unfold T_X5_readClause_58 at ht
  refine x_istore_n (pc2 := 59) [1, 2, 3, 0] (n := 3) (x := sx0) (lv2 := [(0, .ref a0), (1, .int x1), (2, .int x2), (3, .int sx0)]) (by decide) rfl dX5_readClause_58 rfl ?_
  refine x_iload_n (pc2 := 60) 3 (n := 3) (x := sx0) rfl dX5_readClause_59 rfl ?_
  refine y_if_ne (pc2 := 63) 72 dX5_readClause_60 (by decide) rfl (fun c1 => ?_) (fun c1 => ?_)
  · replace ht := ht.1 c1
    refine x_aload_n (pc2 := 73) 0 (n := 0) (x := a0) rfl dX5_readClause_72 rfl ?_
    obtain ⟨k2, ht⟩ := ht
    refine y_getI (pc2 := 76) (κ := 5) (k := 6) fl_X5_34 (by decide) (by decide) k2 rfl dX5_readClause_73 rfl ?_
    refine x_bipush (pc2 := 78) (v := 12) (by decide) dX5_readClause_76 rfl ?_
    refine x_icmp_ge (pc2 := 81) 95 dX5_readClause_78 (by decide) rfl (fun c3 => ?_) (fun c3 => ?_)
    · replace ht := ht.1 c3
      refine x_aload_n (pc2 := 96) 0 (n := 0) (x := a0) rfl dX5_readClause_95 rfl ?_
      obtain ⟨q4, e5, ht⟩ := ht
      refine y_getR (pc2 := 99) (κ := 5) (k := 4) fl_X5_26 (by decide) (by decide) k2 rfl e5 dX5_readClause_96 rfl ?_
      refine x_iconst (pc2 := 100) (v := 4) (by decide) dX5_readClause_99 rfl ?_
      obtain ⟨k9, ht⟩ := ht
      refine x_callV (pc2 := 103) (As := [.int 4]) (rest := []) (b := q4) mv_X8_fail ml_X5_74 k9 rfl rfl (Nat.le_of_ble_eq_true rfl) hd1 dX5_readClause_100 rfl (ht.mono (fun r6 h7 p8 ht' => ?_))
      clear ht
      obtain ⟨v10, rfl, ht⟩ := ht'
      show Ex G d mX5_readClause 103 [(0, .ref a0), (1, .int x1), (2, .int x2), (3, .int sx0)] [.int v10] h7 Q
      exact x_retZ rfl ht.1 dX5_readClause_103 ht.2
    · replace ht := ht.2 c3
      refine x_iload_n (pc2 := 82) 2 (n := 2) (x := x2) rfl dX5_readClause_81 rfl ?_
      refine x_bipush (pc2 := 84) (v := 15) (by decide) dX5_readClause_82 rfl ?_
      refine y_icmp_ne (pc2 := 87) 104 dX5_readClause_84 (by decide) rfl (fun c11 => ?_) (fun c11 => ?_)
      · replace ht := ht.1 c11
        exact ht
      · replace ht := ht.2 c11
        refine x_aload_n (pc2 := 88) 0 (n := 0) (x := a0) rfl dX5_readClause_87 rfl ?_
        refine y_getI (pc2 := 91) (κ := 5) (k := 8) fl_X5_40 (by decide) (by decide) k2 rfl dX5_readClause_88 rfl ?_
        refine x_iconst (pc2 := 92) (v := (-1)) (by decide) dX5_readClause_91 rfl ?_
        refine x_icmp_eq (pc2 := 95) 104 dX5_readClause_92 (by decide) rfl (fun c12 => ?_) (fun c12 => ?_)
        · replace ht := ht.1 c12
          exact ht
        · replace ht := ht.2 c12
          refine x_aload_n (pc2 := 96) 0 (n := 0) (x := a0) rfl dX5_readClause_95 rfl ?_
          obtain ⟨q13, e14, ht⟩ := ht
          refine y_getR (pc2 := 99) (κ := 5) (k := 4) fl_X5_26 (by decide) (by decide) k2 rfl e14 dX5_readClause_96 rfl ?_
          refine x_iconst (pc2 := 100) (v := 4) (by decide) dX5_readClause_99 rfl ?_
          obtain ⟨k18, ht⟩ := ht
          refine x_callV (pc2 := 103) (As := [.int 4]) (rest := []) (b := q13) mv_X8_fail ml_X5_74 k18 rfl rfl (Nat.le_of_ble_eq_true rfl) hd1 dX5_readClause_100 rfl (ht.mono (fun r15 h16 p17 ht' => ?_))
          clear ht
          obtain ⟨v19, rfl, ht⟩ := ht'
          show Ex G d mX5_readClause 103 [(0, .ref a0), (1, .int x1), (2, .int x2), (3, .int sx0)] [.int v19] h16 Q
          exact x_retZ rfl ht.1 dX5_readClause_103 ht.2
  · replace ht := ht.2 c1
    refine x_aload_n (pc2 := 64) 0 (n := 0) (x := a0) rfl dX5_readClause_63 rfl ?_
    obtain ⟨k20, ht⟩ := ht
    obtain ⟨q21, e22, ht⟩ := ht
    refine y_getR (pc2 := 67) (κ := 5) (k := 4) fl_X5_26 (by decide) (by decide) k20 rfl e22 dX5_readClause_64 rfl ?_
    refine x_iconst (pc2 := 68) (v := 0) (by decide) dX5_readClause_67 rfl ?_
    obtain ⟨k26, ht⟩ := ht
    refine x_callV (pc2 := 71) (As := [.int 0]) (rest := []) (b := q21) mv_X8_fail ml_X5_74 k26 rfl rfl (Nat.le_of_ble_eq_true rfl) hd1 dX5_readClause_68 rfl (ht.mono (fun r23 h24 p25 ht' => ?_))
    clear ht
    obtain ⟨v27, rfl, ht⟩ := ht'
    show Ex G d mX5_readClause 71 [(0, .ref a0), (1, .int x1), (2, .int x2), (3, .int sx0)] [.int v27] h24 Q
    exact x_retZ rfl ht.1 dX5_readClause_71 ht.2
def T_X5_readClause_104 (G : GG) (d : Nat) (h : HP) (Q : Option Value → HP → Prop) (a0 : Nat) (x1 : Int32) (x2 : Int32) (x3 : Int32) : Prop :=
  Kd G h a0 5 ∧ ∃ q2, hR h a0 1 = some q2 ∧ Kd G h q2 14 ∧ vp_in (hI h a0 6) (hN h q2) ∧ ∃ q6, hR (sI h q2 (hI h a0 6).toNatClampNeg x2) a0 2 = some q6 ∧ Kd G (sI h q2 (hI h a0 6).toNatClampNeg x2) q6 14 ∧ vp_in (hI (sI h q2 (hI h a0 6).toNatClampNeg x2) a0 6) (hN (sI h q2 (hI h a0 6).toNatClampNeg x2) q6) ∧ ∀ h10, h10 = (sI (sI h q2 (hI h a0 6).toNatClampNeg x2) q6 (hI (sI h q2 (hI h a0 6).toNatClampNeg x2) a0 6).toNatClampNeg (-1)) → ∃ q13, hR h10 a0 3 = some q13 ∧ Kd G h10 q13 14 ∧ vp_in (hI h10 a0 6) (hN h10 q13) ∧ ∀ h17, h17 = (sI (sI h10 q13 (hI h10 a0 6).toNatClampNeg (-1)) a0 6 ((hI (sI h10 q13 (hI h10 a0 6).toNatClampNeg (-1)) a0 6) + 1)) → ∃ q20, hR h17 a0 4 = some q20 ∧ Kd G h17 q20 8 ∧ Cal G (d - 1) mX8_next [.ref q20] h17 (fun r22 h23 => r22 = none ∧ ((¬ x2 = 15 → ((x2 = 13 → Ex G d mX5_readClause 204 [(0, .ref a0), (1, .int x1), (2, .int x2), (3, .int x3), (4, .int 1)] [.int 1] h23 Q) ∧ (¬ x2 = 13 → ((¬ x2 = 14 → Ex G d mX5_readClause 204 [(0, .ref a0), (1, .int x1), (2, .int x2), (3, .int x3), (4, .int 1)] [.int 0] h23 Q) ∧ (x2 = 14 → Ex G d mX5_readClause 204 [(0, .ref a0), (1, .int x1), (2, .int x2), (3, .int x3), (4, .int 1)] [.int 1] h23 Q))))) ∧ (x2 = 15 → ∃ q29, hR h23 a0 4 = some q29 ∧ Kd G h23 q29 8 ∧ Cal G (d - 1) mX8_number [.ref q29, .int 0, .int 1] h23 (fun r31 h32 => ∃ v35, r31 = some (.int v35) ∧ (((hI (sI h32 a0 8 v35) a0 8) = (-1) → Q (some (.int 0)) (sI h32 a0 8 v35)) ∧ (¬ (hI (sI h32 a0 8 v35) a0 8) = (-1) → Q (some (.int 1)) (sI h32 a0 8 v35)))))))
set_option maxRecDepth 20000 in
theorem t_X5_readClause_104 {G : GG} {d : Nat} {h : HP} {Q : Option Value → HP → Prop} {a0 : Nat} {x1 : Int32} {x2 : Int32} {x3 : Int32} (hd1 : 1 ≤ d) (ht : T_X5_readClause_104 G d h Q a0 x1 x2 x3) : Ex G d mX5_readClause 104 [(0, .ref a0), (1, .int x1), (2, .int x2), (3, .int x3)] [] h Q := by
  unfold T_X5_readClause_104 at ht
  refine x_aload_n (pc2 := 105) 0 (n := 0) (x := a0) rfl dX5_readClause_104 rfl ?_
  obtain ⟨k1, ht⟩ := ht
  obtain ⟨q2, e3, ht⟩ := ht
  refine y_getR (pc2 := 108) (κ := 5) (k := 1) fl_X5_17 (by decide) (by decide) k1 rfl e3 dX5_readClause_105 rfl ?_
  refine x_aload_n (pc2 := 109) 0 (n := 0) (x := a0) rfl dX5_readClause_108 rfl ?_
  refine y_getI (pc2 := 112) (κ := 5) (k := 6) fl_X5_34 (by decide) (by decide) k1 rfl dX5_readClause_109 rfl ?_
  refine x_iload_n (pc2 := 113) 2 (n := 2) (x := x2) rfl dX5_readClause_112 rfl ?_
  obtain ⟨k4, ht⟩ := ht
  obtain ⟨b5, ht⟩ := ht
  refine x_iast (pc2 := 114) k4 b5 dX5_readClause_113 rfl ?_
  refine x_aload_n (pc2 := 115) 0 (n := 0) (x := a0) rfl dX5_readClause_114 rfl ?_
  obtain ⟨q6, e7, ht⟩ := ht
  refine y_getR (pc2 := 118) (κ := 5) (k := 2) fl_X5_20 (by decide) (by decide) k1.sI rfl e7 dX5_readClause_115 rfl ?_
  refine x_aload_n (pc2 := 119) 0 (n := 0) (x := a0) rfl dX5_readClause_118 rfl ?_
  refine y_getI (pc2 := 122) (κ := 5) (k := 6) fl_X5_34 (by decide) (by decide) k1.sI rfl dX5_readClause_119 rfl ?_
  refine x_iconst (pc2 := 123) (v := (-1)) (by decide) dX5_readClause_122 rfl ?_
  obtain ⟨k8, ht⟩ := ht
  obtain ⟨b9, ht⟩ := ht
  refine x_iast (pc2 := 124) k8 b9 dX5_readClause_123 rfl ?_
  refine nm_I (fun h10 e11 p12 => ?_)
  replace ht := ht h10 e11
  refine x_aload_n (pc2 := 125) 0 (n := 0) (x := a0) rfl dX5_readClause_124 rfl ?_
  obtain ⟨q13, e14, ht⟩ := ht
  refine y_getR (pc2 := 128) (κ := 5) (k := 3) fl_X5_23 (by decide) (by decide) (k1.sI.up p12) rfl e14 dX5_readClause_125 rfl ?_
  refine x_aload_n (pc2 := 129) 0 (n := 0) (x := a0) rfl dX5_readClause_128 rfl ?_
  refine y_getI (pc2 := 132) (κ := 5) (k := 6) fl_X5_34 (by decide) (by decide) (k1.sI.up p12) rfl dX5_readClause_129 rfl ?_
  refine x_iconst (pc2 := 133) (v := (-1)) (by decide) dX5_readClause_132 rfl ?_
  obtain ⟨k15, ht⟩ := ht
  obtain ⟨b16, ht⟩ := ht
  refine x_iast (pc2 := 134) k15 b16 dX5_readClause_133 rfl ?_
  refine x_aload_n (pc2 := 135) 0 (n := 0) (x := a0) rfl dX5_readClause_134 rfl ?_
  refine x_dup (pc2 := 136) rfl dX5_readClause_135 rfl ?_
  refine y_getI (pc2 := 139) (κ := 5) (k := 6) fl_X5_34 (by decide) (by decide) (k1.sI.up p12).sI rfl dX5_readClause_136 rfl ?_
  refine x_iconst (pc2 := 140) (v := 1) (by decide) dX5_readClause_139 rfl ?_
  refine x_iadd (pc2 := 141) dX5_readClause_140 rfl ?_
  refine x_putI (pc2 := 144) (κ := 5) (k := 6) fl_X5_34 (by decide) (by decide) (Or.inl rfl) rfl (k1.sI.up p12).sI dX5_readClause_141 rfl ?_
  refine nm_I (fun h17 e18 p19 => ?_)
  replace ht := ht h17 e18
  refine x_aload_n (pc2 := 145) 0 (n := 0) (x := a0) rfl dX5_readClause_144 rfl ?_
  obtain ⟨q20, e21, ht⟩ := ht
  refine y_getR (pc2 := 148) (κ := 5) (k := 4) fl_X5_26 (by decide) (by decide) ((k1.sI.up p12).sI.up p19) rfl e21 dX5_readClause_145 rfl ?_
  obtain ⟨k25, ht⟩ := ht
  refine x_callV (pc2 := 151) (As := []) (rest := []) (b := q20) mv_X8_next ml_X5_78 k25 rfl rfl (Nat.le_of_ble_eq_true rfl) hd1 dX5_readClause_148 rfl (ht.mono (fun r22 h23 p24 ht' => ?_))
  clear ht
  obtain ⟨rfl, ht⟩ := ht'
  show Ex G d mX5_readClause 151 [(0, .ref a0), (1, .int x1), (2, .int x2), (3, .int x3)] [] h23 Q
  refine x_iload_n (pc2 := 152) 2 (n := 2) (x := x2) rfl dX5_readClause_151 rfl ?_
  refine x_bipush (pc2 := 154) (v := 15) (by decide) dX5_readClause_152 rfl ?_
  refine y_icmp_ne (pc2 := 157) 184 dX5_readClause_154 (by decide) rfl (fun c26 => ?_) (fun c26 => ?_)
  · replace ht := ht.1 c26
    refine x_iconst (pc2 := 185) (v := 1) (by decide) dX5_readClause_184 rfl ?_
    refine x_istore (pc2 := 187) [1, 2, 3, 4, 0] (n := 4) (x := 1) (lv2 := [(0, .ref a0), (1, .int x1), (2, .int x2), (3, .int x3), (4, .int 1)]) (by decide) rfl dX5_readClause_185 rfl ?_
    refine x_iload_n (pc2 := 188) 2 (n := 2) (x := x2) rfl dX5_readClause_187 rfl ?_
    refine x_bipush (pc2 := 190) (v := 13) (by decide) dX5_readClause_188 rfl ?_
    refine x_icmp_eq (pc2 := 193) 199 dX5_readClause_190 (by decide) rfl (fun c27 => ?_) (fun c27 => ?_)
    · replace ht := ht.1 c27
      refine x_iconst (pc2 := 200) (v := 1) (by decide) dX5_readClause_199 rfl ?_
      refine x_goto 204 dX5_readClause_200 (by decide) ?_
      exact ht
    · replace ht := ht.2 c27
      refine x_iload_n (pc2 := 194) 2 (n := 2) (x := x2) rfl dX5_readClause_193 rfl ?_
      refine x_bipush (pc2 := 196) (v := 14) (by decide) dX5_readClause_194 rfl ?_
      refine y_icmp_ne (pc2 := 199) 203 dX5_readClause_196 (by decide) rfl (fun c28 => ?_) (fun c28 => ?_)
      · replace ht := ht.1 c28
        refine x_iconst (pc2 := 204) (v := 0) (by decide) dX5_readClause_203 rfl ?_
        exact ht
      · replace ht := ht.2 c28
        refine x_iconst (pc2 := 200) (v := 1) (by decide) dX5_readClause_199 rfl ?_
        refine x_goto 204 dX5_readClause_200 (by decide) ?_
        exact ht
  · replace ht := ht.2 c26
    refine x_aload_n (pc2 := 158) 0 (n := 0) (x := a0) rfl dX5_readClause_157 rfl ?_
    refine x_aload_n (pc2 := 159) 0 (n := 0) (x := a0) rfl dX5_readClause_158 rfl ?_
    obtain ⟨q29, e30, ht⟩ := ht
    refine y_getR (pc2 := 162) (κ := 5) (k := 4) fl_X5_26 (by decide) (by decide) (((k1.sI.up p12).sI.up p19).up p24) rfl e30 dX5_readClause_159 rfl ?_
    refine x_iconst (pc2 := 163) (v := 0) (by decide) dX5_readClause_162 rfl ?_
    refine x_iconst (pc2 := 164) (v := 1) (by decide) dX5_readClause_163 rfl ?_
    obtain ⟨k34, ht⟩ := ht
    refine x_callV (pc2 := 167) (As := [.int 0, .int 1]) (rest := [.ref a0]) (b := q29) mv_X8_number ml_X5_81 k34 rfl rfl (Nat.le_of_ble_eq_true rfl) hd1 dX5_readClause_164 rfl (ht.mono (fun r31 h32 p33 ht' => ?_))
    clear ht
    obtain ⟨v35, rfl, ht⟩ := ht'
    show Ex G d mX5_readClause 167 [(0, .ref a0), (1, .int x1), (2, .int x2), (3, .int x3)] [.int v35, .ref a0] h32 Q
    refine x_putI (pc2 := 170) (κ := 5) (k := 8) fl_X5_40 (by decide) (by decide) (Or.inl rfl) rfl ((((k1.sI.up p12).sI.up p19).up p24).up p33) dX5_readClause_167 rfl ?_
    refine x_aload_n (pc2 := 171) 0 (n := 0) (x := a0) rfl dX5_readClause_170 rfl ?_
    refine y_getI (pc2 := 174) (κ := 5) (k := 8) fl_X5_40 (by decide) (by decide) ((((k1.sI.up p12).sI.up p19).up p24).up p33).sI rfl dX5_readClause_171 rfl ?_
    refine x_iconst (pc2 := 175) (v := (-1)) (by decide) dX5_readClause_174 rfl ?_
    refine x_icmp_eq (pc2 := 178) 182 dX5_readClause_175 (by decide) rfl (fun c36 => ?_) (fun c36 => ?_)
    · replace ht := ht.1 c36
      refine x_iconst (pc2 := 183) (v := 0) (by decide) dX5_readClause_182 rfl ?_
      exact x_retZ rfl (Or.inl rfl) dX5_readClause_183 ht
    · replace ht := ht.2 c36
      refine x_iconst (pc2 := 179) (v := 1) (by decide) dX5_readClause_178 rfl ?_
      refine x_goto 183 dX5_readClause_179 (by decide) ?_
      exact x_retZ rfl (Or.inr rfl) dX5_readClause_183 ht
def T_X5_readClause_204 (G : GG) (d : Nat) (h : HP) (Q : Option Value → HP → Prop) (a0 : Nat) (x1 : Int32) (x2 : Int32) (x3 : Int32) (x4 : Int32) (sx0 : Int32) : Prop :=
  ((¬ sx0 = 0 → Ex G d mX5_readClause 273 [(0, .ref a0), (1, .int x1), (2, .int x2), (3, .int x3), (4, .int x4), (5, .int sx0)] [] h Q) ∧ (sx0 = 0 → Kd G h a0 5 ∧ ∃ q3, hR h a0 2 = some q3 ∧ Kd G h q3 14 ∧ vp_in ((hI h a0 6) - 1) (hN h q3) ∧ Cal G (d - 1) mX5_readSum [.ref a0] (sI h q3 ((hI h a0 6) - 1).toNatClampNeg (hI h a0 5)) (fun r7 h8 => ∃ v10, r7 = some (.int v10) ∧ Cal G (d - 1) mX5_put [.ref a0, .int (-1)] h8 (fun r11 h12 => r11 = none ∧ ((v10 = 0 → Ex G d mX5_readClause 273 [(0, .ref a0), (1, .int x1), (2, .int x2), (3, .int x3), (4, .int v10), (5, .int 0)] [] h12 Q) ∧ (¬ v10 = 0 → ∃ q16, hR h12 a0 4 = some q16 ∧ Kd G h12 q16 8 ∧ Cal G (d - 1) mX8_isWord [.ref q16, .int 17] h12 (fun r18 h19 => ∃ v22, r18 = some (.int v22) ∧ ((v22 = 0 → Ex G d mX5_readClause 273 [(0, .ref a0), (1, .int x1), (2, .int x2), (3, .int x3), (4, .int v10), (5, .int 0)] [] h19 Q) ∧ (¬ v22 = 0 → ∃ q26, hR h19 a0 4 = some q26 ∧ Kd G h19 q26 8 ∧ Cal G (d - 1) mX8_next [.ref q26] h19 (fun r28 h29 => r28 = none ∧ Ex G d mX5_readClause 273 [(0, .ref a0), (1, .int x1), (2, .int x2), (3, .int x3), (4, .int v10), (5, .int 1)] [] h29 Q))))))))))
set_option maxRecDepth 20000 in
theorem t_X5_readClause_204 {G : GG} {d : Nat} {h : HP} {Q : Option Value → HP → Prop} {a0 : Nat} {x1 : Int32} {x2 : Int32} {x3 : Int32} {x4 : Int32} {sx0 : Int32} (hd1 : 1 ≤ d) (ht : T_X5_readClause_204 G d h Q a0 x1 x2 x3 x4 sx0) : Ex G d mX5_readClause 204 [(0, .ref a0), (1, .int x1), (2, .int x2), (3, .int x3), (4, .int x4)] [.int sx0] h Q := by
  unfold T_X5_readClause_204 at ht
  refine x_istore (pc2 := 206) [1, 2, 3, 4, 5, 0] (n := 5) (x := sx0) (lv2 := [(0, .ref a0), (1, .int x1), (2, .int x2), (3, .int x3), (4, .int x4), (5, .int sx0)]) (by decide) rfl dX5_readClause_204 rfl ?_
  refine x_iload (pc2 := 208) 5 (n := 5) (x := sx0) rfl dX5_readClause_206 rfl ?_
  refine y_if_ne (pc2 := 211) 273 dX5_readClause_208 (by decide) rfl (fun c1 => ?_) (fun c1 => ?_)
  · replace ht := ht.1 c1
    exact ht
  · replace ht := ht.2 c1
    refine x_aload_n (pc2 := 212) 0 (n := 0) (x := a0) rfl dX5_readClause_211 rfl ?_
    obtain ⟨k2, ht⟩ := ht
    obtain ⟨q3, e4, ht⟩ := ht
    refine y_getR (pc2 := 215) (κ := 5) (k := 2) fl_X5_20 (by decide) (by decide) k2 rfl e4 dX5_readClause_212 rfl ?_
    refine x_aload_n (pc2 := 216) 0 (n := 0) (x := a0) rfl dX5_readClause_215 rfl ?_
    refine y_getI (pc2 := 219) (κ := 5) (k := 6) fl_X5_34 (by decide) (by decide) k2 rfl dX5_readClause_216 rfl ?_
    refine x_iconst (pc2 := 220) (v := 1) (by decide) dX5_readClause_219 rfl ?_
    refine x_isub (pc2 := 221) dX5_readClause_220 rfl ?_
    refine x_aload_n (pc2 := 222) 0 (n := 0) (x := a0) rfl dX5_readClause_221 rfl ?_
    refine y_getI (pc2 := 225) (κ := 5) (k := 5) fl_X5_30 (by decide) (by decide) k2 rfl dX5_readClause_222 rfl ?_
    obtain ⟨k5, ht⟩ := ht
    obtain ⟨b6, ht⟩ := ht
    refine x_iast (pc2 := 226) k5 b6 dX5_readClause_225 rfl ?_
    refine x_aload_n (pc2 := 227) 0 (n := 0) (x := a0) rfl dX5_readClause_226 rfl ?_
    refine x_callV (pc2 := 230) (As := []) (rest := []) (b := a0) mv_X5_readSum ml_X5_85 k2.sI rfl rfl (Nat.le_of_ble_eq_true rfl) hd1 dX5_readClause_227 rfl (ht.mono (fun r7 h8 p9 ht' => ?_))
    clear ht
    obtain ⟨v10, rfl, ht⟩ := ht'
    show Ex G d mX5_readClause 230 [(0, .ref a0), (1, .int x1), (2, .int x2), (3, .int x3), (4, .int x4), (5, .int sx0)] [.int v10] h8 Q
    refine x_istore (pc2 := 232) [1, 2, 3, 4, 0, 5] (n := 4) (x := v10) (lv2 := [(0, .ref a0), (1, .int x1), (2, .int x2), (3, .int x3), (4, .int v10), (5, .int sx0)]) (by decide) rfl dX5_readClause_230 rfl ?_
    refine x_aload_n (pc2 := 233) 0 (n := 0) (x := a0) rfl dX5_readClause_232 rfl ?_
    refine x_iconst (pc2 := 234) (v := (-1)) (by decide) dX5_readClause_233 rfl ?_
    refine x_callV (pc2 := 237) (As := [.int (-1)]) (rest := []) (b := a0) mv_X5_put ml_X5_88 (k2.sI.up p9) rfl rfl (Nat.le_of_ble_eq_true rfl) hd1 dX5_readClause_234 rfl (ht.mono (fun r11 h12 p13 ht' => ?_))
    clear ht
    obtain ⟨rfl, ht⟩ := ht'
    show Ex G d mX5_readClause 237 [(0, .ref a0), (1, .int x1), (2, .int x2), (3, .int x3), (4, .int v10), (5, .int sx0)] [] h12 Q
    refine x_iload (pc2 := 239) 4 (n := 4) (x := v10) rfl dX5_readClause_237 rfl ?_
    refine x_if_eq (pc2 := 242) 258 dX5_readClause_239 (by decide) rfl (fun c14 => ?_) (fun c14 => ?_)
    · replace ht := ht.1 c14
      refine x_iconst (pc2 := 259) (v := 0) (by decide) dX5_readClause_258 rfl ?_
      refine x_istore (pc2 := 261) [1, 2, 3, 4, 5, 0] (n := 5) (x := 0) (lv2 := [(0, .ref a0), (1, .int x1), (2, .int x2), (3, .int x3), (4, .int v10), (5, .int 0)]) (by decide) rfl dX5_readClause_259 rfl ?_
      refine x_iload (pc2 := 263) 5 (n := 5) (x := 0) rfl dX5_readClause_261 rfl ?_
      refine x_if_eq (pc2 := 266) 273 dX5_readClause_263 (by decide) rfl (fun _ => ?_) (fun c15 => absurd c15 (by decide))
      exact ht
    · replace ht := ht.2 c14
      refine x_aload_n (pc2 := 243) 0 (n := 0) (x := a0) rfl dX5_readClause_242 rfl ?_
      obtain ⟨q16, e17, ht⟩ := ht
      refine y_getR (pc2 := 246) (κ := 5) (k := 4) fl_X5_26 (by decide) (by decide) ((k2.sI.up p9).up p13) rfl e17 dX5_readClause_243 rfl ?_
      refine x_bipush (pc2 := 248) (v := 17) (by decide) dX5_readClause_246 rfl ?_
      obtain ⟨k21, ht⟩ := ht
      refine x_callV (pc2 := 251) (As := [.int 17]) (rest := []) (b := q16) mv_X8_isWord ml_X5_92 k21 rfl rfl (Nat.le_of_ble_eq_true rfl) hd1 dX5_readClause_248 rfl (ht.mono (fun r18 h19 p20 ht' => ?_))
      clear ht
      obtain ⟨v22, rfl, ht⟩ := ht'
      show Ex G d mX5_readClause 251 [(0, .ref a0), (1, .int x1), (2, .int x2), (3, .int x3), (4, .int v10), (5, .int sx0)] [.int v22] h19 Q
      refine x_if_eq (pc2 := 254) 258 dX5_readClause_251 (by decide) rfl (fun c23 => ?_) (fun c23 => ?_)
      · replace ht := ht.1 c23
        refine x_iconst (pc2 := 259) (v := 0) (by decide) dX5_readClause_258 rfl ?_
        refine x_istore (pc2 := 261) [1, 2, 3, 4, 5, 0] (n := 5) (x := 0) (lv2 := [(0, .ref a0), (1, .int x1), (2, .int x2), (3, .int x3), (4, .int v10), (5, .int 0)]) (by decide) rfl dX5_readClause_259 rfl ?_
        refine x_iload (pc2 := 263) 5 (n := 5) (x := 0) rfl dX5_readClause_261 rfl ?_
        refine x_if_eq (pc2 := 266) 273 dX5_readClause_263 (by decide) rfl (fun _ => ?_) (fun c24 => absurd c24 (by decide))
        exact ht
      · replace ht := ht.2 c23
        refine x_iconst (pc2 := 255) (v := 1) (by decide) dX5_readClause_254 rfl ?_
        refine x_goto 259 dX5_readClause_255 (by decide) ?_
        refine x_istore (pc2 := 261) [1, 2, 3, 4, 5, 0] (n := 5) (x := 1) (lv2 := [(0, .ref a0), (1, .int x1), (2, .int x2), (3, .int x3), (4, .int v10), (5, .int 1)]) (by decide) rfl dX5_readClause_259 rfl ?_
        refine x_iload (pc2 := 263) 5 (n := 5) (x := 1) rfl dX5_readClause_261 rfl ?_
        refine x_if_eq (pc2 := 266) 273 dX5_readClause_263 (by decide) rfl (fun c25 => absurd c25 (by decide)) (fun _ => ?_)
        refine x_aload_n (pc2 := 267) 0 (n := 0) (x := a0) rfl dX5_readClause_266 rfl ?_
        obtain ⟨q26, e27, ht⟩ := ht
        refine y_getR (pc2 := 270) (κ := 5) (k := 4) fl_X5_26 (by decide) (by decide) (((k2.sI.up p9).up p13).up p20) rfl e27 dX5_readClause_267 rfl ?_
        obtain ⟨k31, ht⟩ := ht
        refine x_callV (pc2 := 273) (As := []) (rest := []) (b := q26) mv_X8_next ml_X5_78 k31 rfl rfl (Nat.le_of_ble_eq_true rfl) hd1 dX5_readClause_270 rfl (ht.mono (fun r28 h29 p30 ht' => ?_))
        clear ht
        obtain ⟨rfl, ht⟩ := ht'
        show Ex G d mX5_readClause 273 [(0, .ref a0), (1, .int x1), (2, .int x2), (3, .int x3), (4, .int v10), (5, .int 1)] [] h29 Q
        exact ht
def T_X5_readClause_273 (G : GG) (d : Nat) (h : HP) (Q : Option Value → HP → Prop) (a0 : Nat) (x1 : Int32) (x2 : Int32) (x3 : Int32) (x4 : Int32) (x5 : Int32) : Prop :=
  ((x5 = 0 → ((x4 = 0 ∨ x4 = 1) ∧ Q (some (.int x4)) h)) ∧ (¬ x5 = 0 → Kd G h a0 5 ∧ ∃ q3, hR h a0 3 = some q3 ∧ Kd G h q3 14 ∧ vp_in ((hI h a0 6) - 1) (hN h q3) ∧ Cal G (d - 1) mX5_readTest [.ref a0, .int 0] (sI h q3 ((hI h a0 6) - 1).toNatClampNeg (hI h a0 5)) (fun r7 h8 => ∃ v10, r7 = some (.int v10) ∧ Cal G (d - 1) mX5_put [.ref a0, .int (-1)] h8 (fun r11 h12 => r11 = none ∧ ((v10 = 0 ∨ v10 = 1) ∧ Q (some (.int v10)) h12)))))
set_option maxRecDepth 20000 in
theorem t_X5_readClause_273 {G : GG} {d : Nat} {h : HP} {Q : Option Value → HP → Prop} {a0 : Nat} {x1 : Int32} {x2 : Int32} {x3 : Int32} {x4 : Int32} {x5 : Int32} (hd1 : 1 ≤ d) (ht : T_X5_readClause_273 G d h Q a0 x1 x2 x3 x4 x5) : Ex G d mX5_readClause 273 [(0, .ref a0), (1, .int x1), (2, .int x2), (3, .int x3), (4, .int x4), (5, .int x5)] [] h Q := by
  unfold T_X5_readClause_273 at ht
  refine x_iload (pc2 := 275) 5 (n := 5) (x := x5) rfl dX5_readClause_273 rfl ?_
  refine x_if_eq (pc2 := 278) 305 dX5_readClause_275 (by decide) rfl (fun c1 => ?_) (fun c1 => ?_)
  · replace ht := ht.1 c1
    refine x_iload (pc2 := 307) 4 (n := 4) (x := x4) rfl dX5_readClause_305 rfl ?_
    exact x_retZ rfl ht.1 dX5_readClause_307 ht.2
  · replace ht := ht.2 c1
    refine x_aload_n (pc2 := 279) 0 (n := 0) (x := a0) rfl dX5_readClause_278 rfl ?_
    obtain ⟨k2, ht⟩ := ht
    obtain ⟨q3, e4, ht⟩ := ht
    refine y_getR (pc2 := 282) (κ := 5) (k := 3) fl_X5_23 (by decide) (by decide) k2 rfl e4 dX5_readClause_279 rfl ?_
    refine x_aload_n (pc2 := 283) 0 (n := 0) (x := a0) rfl dX5_readClause_282 rfl ?_
    refine y_getI (pc2 := 286) (κ := 5) (k := 6) fl_X5_34 (by decide) (by decide) k2 rfl dX5_readClause_283 rfl ?_
    refine x_iconst (pc2 := 287) (v := 1) (by decide) dX5_readClause_286 rfl ?_
    refine x_isub (pc2 := 288) dX5_readClause_287 rfl ?_
    refine x_aload_n (pc2 := 289) 0 (n := 0) (x := a0) rfl dX5_readClause_288 rfl ?_
    refine y_getI (pc2 := 292) (κ := 5) (k := 5) fl_X5_30 (by decide) (by decide) k2 rfl dX5_readClause_289 rfl ?_
    obtain ⟨k5, ht⟩ := ht
    obtain ⟨b6, ht⟩ := ht
    refine x_iast (pc2 := 293) k5 b6 dX5_readClause_292 rfl ?_
    refine x_aload_n (pc2 := 294) 0 (n := 0) (x := a0) rfl dX5_readClause_293 rfl ?_
    refine x_iconst (pc2 := 295) (v := 0) (by decide) dX5_readClause_294 rfl ?_
    refine x_callV (pc2 := 298) (As := [.int 0]) (rest := []) (b := a0) mv_X5_readTest ml_X5_95 k2.sI rfl rfl (Nat.le_of_ble_eq_true rfl) hd1 dX5_readClause_295 rfl (ht.mono (fun r7 h8 p9 ht' => ?_))
    clear ht
    obtain ⟨v10, rfl, ht⟩ := ht'
    show Ex G d mX5_readClause 298 [(0, .ref a0), (1, .int x1), (2, .int x2), (3, .int x3), (4, .int x4), (5, .int x5)] [.int v10] h8 Q
    refine x_istore (pc2 := 300) [1, 2, 3, 4, 0, 5] (n := 4) (x := v10) (lv2 := [(0, .ref a0), (1, .int x1), (2, .int x2), (3, .int x3), (4, .int v10), (5, .int x5)]) (by decide) rfl dX5_readClause_298 rfl ?_
    refine x_aload_n (pc2 := 301) 0 (n := 0) (x := a0) rfl dX5_readClause_300 rfl ?_
    refine x_iconst (pc2 := 302) (v := (-1)) (by decide) dX5_readClause_301 rfl ?_
    refine x_callV (pc2 := 305) (As := [.int (-1)]) (rest := []) (b := a0) mv_X5_put ml_X5_88 (k2.sI.up p9) rfl rfl (Nat.le_of_ble_eq_true rfl) hd1 dX5_readClause_302 rfl (ht.mono (fun r11 h12 p13 ht' => ?_))
    clear ht
    obtain ⟨rfl, ht⟩ := ht'
    show Ex G d mX5_readClause 305 [(0, .ref a0), (1, .int x1), (2, .int x2), (3, .int x3), (4, .int v10), (5, .int x5)] [] h12 Q
    refine x_iload (pc2 := 307) 4 (n := 4) (x := v10) rfl dX5_readClause_305 rfl ?_
    exact x_retZ rfl ht.1 dX5_readClause_307 ht.2
def T_X5_readTest (G : GG) (d : Nat) (h : HP) (Q : Option Value → HP → Prop) (a0 : Nat) (x1 : Int32) : Prop :=
  Kd G h a0 5 ∧ Cal G (d - 1) mX5_readFact [.ref a0, .int x1] h (fun r1 h2 => ∃ v5, r1 = some (.int v5) ∧ Ex G d mX5_readTest 11 [(0, .ref a0), (1, .int x1), (2, .int v5), (3, .int 0), (4, .int 0)] [] h2 Q)
set_option maxRecDepth 20000 in
theorem t_X5_readTest {G : GG} {d : Nat} {h : HP} {Q : Option Value → HP → Prop} {a0 : Nat} {x1 : Int32} (hd1 : 1 ≤ d) (ht : T_X5_readTest G d h Q a0 x1) : Ex G d mX5_readTest 0 [(0, .ref a0), (1, .int x1)] [] h Q := by
  unfold T_X5_readTest at ht
  refine x_aload_n (pc2 := 1) 0 (n := 0) (x := a0) rfl dX5_readTest_0 rfl ?_
  refine x_iload_n (pc2 := 2) 1 (n := 1) (x := x1) rfl dX5_readTest_1 rfl ?_
  obtain ⟨k4, ht⟩ := ht
  refine x_callV (pc2 := 5) (As := [.int x1]) (rest := []) (b := a0) mv_X5_readFact ml_X5_98 k4 rfl rfl (Nat.le_of_ble_eq_true rfl) hd1 dX5_readTest_2 rfl (ht.mono (fun r1 h2 p3 ht' => ?_))
  clear ht
  obtain ⟨v5, rfl, ht⟩ := ht'
  show Ex G d mX5_readTest 5 [(0, .ref a0), (1, .int x1)] [.int v5] h2 Q
  refine x_istore_n (pc2 := 6) [1, 2, 0] (n := 2) (x := v5) (lv2 := [(0, .ref a0), (1, .int x1), (2, .int v5)]) (by decide) rfl dX5_readTest_5 rfl ?_
  refine x_iconst (pc2 := 7) (v := 0) (by decide) dX5_readTest_6 rfl ?_
  refine x_istore_n (pc2 := 8) [1, 2, 3, 0] (n := 3) (x := 0) (lv2 := [(0, .ref a0), (1, .int x1), (2, .int v5), (3, .int 0)]) (by decide) rfl dX5_readTest_7 rfl ?_
  refine x_iconst (pc2 := 9) (v := 0) (by decide) dX5_readTest_8 rfl ?_
  refine x_istore (pc2 := 11) [1, 2, 3, 4, 0] (n := 4) (x := 0) (lv2 := [(0, .ref a0), (1, .int x1), (2, .int v5), (3, .int 0), (4, .int 0)]) (by decide) rfl dX5_readTest_9 rfl ?_
  exact ht
theorem e_X5_readTest {G : GG} {d : Nat} {h : HP} {Q : Option Value → HP → Prop} {a0 : Nat} {x1 : Int32} (hd1 : 1 ≤ d) (ht : T_X5_readTest G d h Q a0 x1) : Cal G d mX5_readTest [.ref a0, .int x1] h Q := cal_of rfl (Nat.le_of_ble_eq_true rfl) (t_X5_readTest hd1 ht)
def T_X5_readTest_11 (G : GG) (d : Nat) (h : HP) (Q : Option Value → HP → Prop) (a0 : Nat) (x1 : Int32) (x2 : Int32) (x3 : Int32) (x4 : Int32) : Prop :=
  ((400 ≤ x4 → ((x3 = 0 → ((x2 = 0 ∨ x2 = 1) ∧ Q (some (.int x2)) h)) ∧ (¬ x3 = 0 → Kd G h a0 5 ∧ Cal G (d - 1) mX5_put [.ref a0, .int (-12)] h (fun r3 h4 => r3 = none ∧ ((x2 = 0 ∨ x2 = 1) ∧ Q (some (.int x2)) h4))))) ∧ (¬ 400 ≤ x4 → ((x2 = 0 → ((x3 = 0 → ((x2 = 0 ∨ x2 = 1) ∧ Q (some (.int x2)) h)) ∧ (¬ x3 = 0 → Kd G h a0 5 ∧ Cal G (d - 1) mX5_put [.ref a0, .int (-12)] h (fun r9 h10 => r9 = none ∧ ((x2 = 0 ∨ x2 = 1) ∧ Q (some (.int x2)) h10))))) ∧ (¬ x2 = 0 → Kd G h a0 5 ∧ ∃ q14, hR h a0 4 = some q14 ∧ Kd G h q14 8 ∧ Cal G (d - 1) mX8_isWord [.ref q14, .int 18] h (fun r16 h17 => ∃ v20, r16 = some (.int v20) ∧ ((v20 = 0 → ∃ q22, hR h17 a0 4 = some q22 ∧ Kd G h17 q22 8 ∧ Cal G (d - 1) mX8_isWord [.ref q22, .int 19] h17 (fun r24 h25 => ∃ v28, r24 = some (.int v28) ∧ ((v28 = 0 → ((x3 = 0 → ((x2 = 0 ∨ x2 = 1) ∧ Q (some (.int x2)) h25)) ∧ (¬ x3 = 0 → Cal G (d - 1) mX5_put [.ref a0, .int (-12)] h25 (fun r31 h32 => r31 = none ∧ ((x2 = 0 ∨ x2 = 1) ∧ Q (some (.int x2)) h32))))) ∧ (¬ v28 = 0 → ((x3 = 0 → Ex G d mX5_readTest 79 [(0, .ref a0), (1, .int x1), (2, .int x2), (3, .int x3), (4, .int x4)] [] h25 Q) ∧ (¬ x3 = 0 → Cal G (d - 1) mX5_put [.ref a0, .int (-12)] h25 (fun r35 h36 => r35 = none ∧ Ex G d mX5_readTest 79 [(0, .ref a0), (1, .int x1), (2, .int x2), (3, .int x3), (4, .int x4)] [] h36 Q))))))) ∧ (¬ v20 = 0 → ∃ q38, hR h17 a0 4 = some q38 ∧ Kd G h17 q38 8 ∧ Cal G (d - 1) mX8_next [.ref q38] h17 (fun r40 h41 => r40 = none ∧ Cal G (d - 1) mX5_readFact [.ref a0, .int x1] h41 (fun r44 h45 => ∃ v47, r44 = some (.int v47) ∧ Cal G (d - 1) mX5_put [.ref a0, .int (-11)] h45 (fun r48 h49 => r48 = none ∧ Ex G d mX5_readTest 11 [(0, .ref a0), (1, .int x1), (2, .int v47), (3, .int x3), (4, .int (x4 + 1))] [] h49 Q))))))))))
set_option maxRecDepth 20000 in
theorem t_X5_readTest_11 {G : GG} {d : Nat} {h : HP} {Q : Option Value → HP → Prop} {a0 : Nat} {x1 : Int32} {x2 : Int32} {x3 : Int32} {x4 : Int32} (hd1 : 1 ≤ d) (ht : T_X5_readTest_11 G d h Q a0 x1 x2 x3 x4) : Ex G d mX5_readTest 11 [(0, .ref a0), (1, .int x1), (2, .int x2), (3, .int x3), (4, .int x4)] [] h Q := by
  unfold T_X5_readTest_11 at ht
  refine x_iload (pc2 := 13) 4 (n := 4) (x := x4) rfl dX5_readTest_11 rfl ?_
  refine x_sipush (pc2 := 16) (v := 400) (by decide) dX5_readTest_13 rfl ?_
  refine x_icmp_ge (pc2 := 19) 100 dX5_readTest_16 (by decide) rfl (fun c1 => ?_) (fun c1 => ?_)
  · replace ht := ht.1 c1
    refine x_iload_n (pc2 := 101) 3 (n := 3) (x := x3) rfl dX5_readTest_100 rfl ?_
    refine x_if_eq (pc2 := 104) 110 dX5_readTest_101 (by decide) rfl (fun c2 => ?_) (fun c2 => ?_)
    · replace ht := ht.1 c2
      refine x_iload_n (pc2 := 111) 2 (n := 2) (x := x2) rfl dX5_readTest_110 rfl ?_
      exact x_retZ rfl ht.1 dX5_readTest_111 ht.2
    · replace ht := ht.2 c2
      refine x_aload_n (pc2 := 105) 0 (n := 0) (x := a0) rfl dX5_readTest_104 rfl ?_
      refine x_bipush (pc2 := 107) (v := (-12)) (by decide) dX5_readTest_105 rfl ?_
      obtain ⟨k6, ht⟩ := ht
      refine x_callV (pc2 := 110) (As := [.int (-12)]) (rest := []) (b := a0) mv_X5_put ml_X5_88 k6 rfl rfl (Nat.le_of_ble_eq_true rfl) hd1 dX5_readTest_107 rfl (ht.mono (fun r3 h4 p5 ht' => ?_))
      clear ht
      obtain ⟨rfl, ht⟩ := ht'
      show Ex G d mX5_readTest 110 [(0, .ref a0), (1, .int x1), (2, .int x2), (3, .int x3), (4, .int x4)] [] h4 Q
      refine x_iload_n (pc2 := 111) 2 (n := 2) (x := x2) rfl dX5_readTest_110 rfl ?_
      exact x_retZ rfl ht.1 dX5_readTest_111 ht.2
  · replace ht := ht.2 c1
    refine x_iload_n (pc2 := 20) 2 (n := 2) (x := x2) rfl dX5_readTest_19 rfl ?_
    refine x_if_eq (pc2 := 23) 100 dX5_readTest_20 (by decide) rfl (fun c7 => ?_) (fun c7 => ?_)
    · replace ht := ht.1 c7
      refine x_iload_n (pc2 := 101) 3 (n := 3) (x := x3) rfl dX5_readTest_100 rfl ?_
      refine x_if_eq (pc2 := 104) 110 dX5_readTest_101 (by decide) rfl (fun c8 => ?_) (fun c8 => ?_)
      · replace ht := ht.1 c8
        refine x_iload_n (pc2 := 111) 2 (n := 2) (x := x2) rfl dX5_readTest_110 rfl ?_
        exact x_retZ rfl ht.1 dX5_readTest_111 ht.2
      · replace ht := ht.2 c8
        refine x_aload_n (pc2 := 105) 0 (n := 0) (x := a0) rfl dX5_readTest_104 rfl ?_
        refine x_bipush (pc2 := 107) (v := (-12)) (by decide) dX5_readTest_105 rfl ?_
        obtain ⟨k12, ht⟩ := ht
        refine x_callV (pc2 := 110) (As := [.int (-12)]) (rest := []) (b := a0) mv_X5_put ml_X5_88 k12 rfl rfl (Nat.le_of_ble_eq_true rfl) hd1 dX5_readTest_107 rfl (ht.mono (fun r9 h10 p11 ht' => ?_))
        clear ht
        obtain ⟨rfl, ht⟩ := ht'
        show Ex G d mX5_readTest 110 [(0, .ref a0), (1, .int x1), (2, .int x2), (3, .int x3), (4, .int x4)] [] h10 Q
        refine x_iload_n (pc2 := 111) 2 (n := 2) (x := x2) rfl dX5_readTest_110 rfl ?_
        exact x_retZ rfl ht.1 dX5_readTest_111 ht.2
    · replace ht := ht.2 c7
      refine x_aload_n (pc2 := 24) 0 (n := 0) (x := a0) rfl dX5_readTest_23 rfl ?_
      obtain ⟨k13, ht⟩ := ht
      obtain ⟨q14, e15, ht⟩ := ht
      refine y_getR (pc2 := 27) (κ := 5) (k := 4) fl_X5_26 (by decide) (by decide) k13 rfl e15 dX5_readTest_24 rfl ?_
      refine x_bipush (pc2 := 29) (v := 18) (by decide) dX5_readTest_27 rfl ?_
      obtain ⟨k19, ht⟩ := ht
      refine x_callV (pc2 := 32) (As := [.int 18]) (rest := []) (b := q14) mv_X8_isWord ml_X5_92 k19 rfl rfl (Nat.le_of_ble_eq_true rfl) hd1 dX5_readTest_29 rfl (ht.mono (fun r16 h17 p18 ht' => ?_))
      clear ht
      obtain ⟨v20, rfl, ht⟩ := ht'
      show Ex G d mX5_readTest 32 [(0, .ref a0), (1, .int x1), (2, .int x2), (3, .int x3), (4, .int x4)] [.int v20] h17 Q
      refine x_if_eq (pc2 := 35) 57 dX5_readTest_32 (by decide) rfl (fun c21 => ?_) (fun c21 => ?_)
      · replace ht := ht.1 c21
        refine x_aload_n (pc2 := 58) 0 (n := 0) (x := a0) rfl dX5_readTest_57 rfl ?_
        obtain ⟨q22, e23, ht⟩ := ht
        refine y_getR (pc2 := 61) (κ := 5) (k := 4) fl_X5_26 (by decide) (by decide) (k13.up p18) rfl e23 dX5_readTest_58 rfl ?_
        refine x_bipush (pc2 := 63) (v := 19) (by decide) dX5_readTest_61 rfl ?_
        obtain ⟨k27, ht⟩ := ht
        refine x_callV (pc2 := 66) (As := [.int 19]) (rest := []) (b := q22) mv_X8_isWord ml_X5_92 k27 rfl rfl (Nat.le_of_ble_eq_true rfl) hd1 dX5_readTest_63 rfl (ht.mono (fun r24 h25 p26 ht' => ?_))
        clear ht
        obtain ⟨v28, rfl, ht⟩ := ht'
        show Ex G d mX5_readTest 66 [(0, .ref a0), (1, .int x1), (2, .int x2), (3, .int x3), (4, .int x4)] [.int v28] h25 Q
        refine x_if_eq (pc2 := 69) 100 dX5_readTest_66 (by decide) rfl (fun c29 => ?_) (fun c29 => ?_)
        · replace ht := ht.1 c29
          refine x_iload_n (pc2 := 101) 3 (n := 3) (x := x3) rfl dX5_readTest_100 rfl ?_
          refine x_if_eq (pc2 := 104) 110 dX5_readTest_101 (by decide) rfl (fun c30 => ?_) (fun c30 => ?_)
          · replace ht := ht.1 c30
            refine x_iload_n (pc2 := 111) 2 (n := 2) (x := x2) rfl dX5_readTest_110 rfl ?_
            exact x_retZ rfl ht.1 dX5_readTest_111 ht.2
          · replace ht := ht.2 c30
            refine x_aload_n (pc2 := 105) 0 (n := 0) (x := a0) rfl dX5_readTest_104 rfl ?_
            refine x_bipush (pc2 := 107) (v := (-12)) (by decide) dX5_readTest_105 rfl ?_
            refine x_callV (pc2 := 110) (As := [.int (-12)]) (rest := []) (b := a0) mv_X5_put ml_X5_88 ((k13.up p18).up p26) rfl rfl (Nat.le_of_ble_eq_true rfl) hd1 dX5_readTest_107 rfl (ht.mono (fun r31 h32 p33 ht' => ?_))
            clear ht
            obtain ⟨rfl, ht⟩ := ht'
            show Ex G d mX5_readTest 110 [(0, .ref a0), (1, .int x1), (2, .int x2), (3, .int x3), (4, .int x4)] [] h32 Q
            refine x_iload_n (pc2 := 111) 2 (n := 2) (x := x2) rfl dX5_readTest_110 rfl ?_
            exact x_retZ rfl ht.1 dX5_readTest_111 ht.2
        · replace ht := ht.2 c29
          refine x_iload_n (pc2 := 70) 3 (n := 3) (x := x3) rfl dX5_readTest_69 rfl ?_
          refine x_if_eq (pc2 := 73) 79 dX5_readTest_70 (by decide) rfl (fun c34 => ?_) (fun c34 => ?_)
          · replace ht := ht.1 c34
            exact ht
          · replace ht := ht.2 c34
            refine x_aload_n (pc2 := 74) 0 (n := 0) (x := a0) rfl dX5_readTest_73 rfl ?_
            refine x_bipush (pc2 := 76) (v := (-12)) (by decide) dX5_readTest_74 rfl ?_
            refine x_callV (pc2 := 79) (As := [.int (-12)]) (rest := []) (b := a0) mv_X5_put ml_X5_88 ((k13.up p18).up p26) rfl rfl (Nat.le_of_ble_eq_true rfl) hd1 dX5_readTest_76 rfl (ht.mono (fun r35 h36 p37 ht' => ?_))
            clear ht
            obtain ⟨rfl, ht⟩ := ht'
            show Ex G d mX5_readTest 79 [(0, .ref a0), (1, .int x1), (2, .int x2), (3, .int x3), (4, .int x4)] [] h36 Q
            exact ht
      · replace ht := ht.2 c21
        refine x_aload_n (pc2 := 36) 0 (n := 0) (x := a0) rfl dX5_readTest_35 rfl ?_
        obtain ⟨q38, e39, ht⟩ := ht
        refine y_getR (pc2 := 39) (κ := 5) (k := 4) fl_X5_26 (by decide) (by decide) (k13.up p18) rfl e39 dX5_readTest_36 rfl ?_
        obtain ⟨k43, ht⟩ := ht
        refine x_callV (pc2 := 42) (As := []) (rest := []) (b := q38) mv_X8_next ml_X5_78 k43 rfl rfl (Nat.le_of_ble_eq_true rfl) hd1 dX5_readTest_39 rfl (ht.mono (fun r40 h41 p42 ht' => ?_))
        clear ht
        obtain ⟨rfl, ht⟩ := ht'
        show Ex G d mX5_readTest 42 [(0, .ref a0), (1, .int x1), (2, .int x2), (3, .int x3), (4, .int x4)] [] h41 Q
        refine x_aload_n (pc2 := 43) 0 (n := 0) (x := a0) rfl dX5_readTest_42 rfl ?_
        refine x_iload_n (pc2 := 44) 1 (n := 1) (x := x1) rfl dX5_readTest_43 rfl ?_
        refine x_callV (pc2 := 47) (As := [.int x1]) (rest := []) (b := a0) mv_X5_readFact ml_X5_98 ((k13.up p18).up p42) rfl rfl (Nat.le_of_ble_eq_true rfl) hd1 dX5_readTest_44 rfl (ht.mono (fun r44 h45 p46 ht' => ?_))
        clear ht
        obtain ⟨v47, rfl, ht⟩ := ht'
        show Ex G d mX5_readTest 47 [(0, .ref a0), (1, .int x1), (2, .int x2), (3, .int x3), (4, .int x4)] [.int v47] h45 Q
        refine x_istore_n (pc2 := 48) [1, 2, 0, 3, 4] (n := 2) (x := v47) (lv2 := [(0, .ref a0), (1, .int x1), (2, .int v47), (3, .int x3), (4, .int x4)]) (by decide) rfl dX5_readTest_47 rfl ?_
        refine x_aload_n (pc2 := 49) 0 (n := 0) (x := a0) rfl dX5_readTest_48 rfl ?_
        refine x_bipush (pc2 := 51) (v := (-11)) (by decide) dX5_readTest_49 rfl ?_
        refine x_callV (pc2 := 54) (As := [.int (-11)]) (rest := []) (b := a0) mv_X5_put ml_X5_88 (((k13.up p18).up p42).up p46) rfl rfl (Nat.le_of_ble_eq_true rfl) hd1 dX5_readTest_51 rfl (ht.mono (fun r48 h49 p50 ht' => ?_))
        clear ht
        obtain ⟨rfl, ht⟩ := ht'
        show Ex G d mX5_readTest 54 [(0, .ref a0), (1, .int x1), (2, .int v47), (3, .int x3), (4, .int x4)] [] h49 Q
        refine x_goto 94 dX5_readTest_54 (by decide) ?_
        refine x_iinc (pc2 := 97) 4 [1, 2, 3, 4, 0] (i := 4) (x := x4) (v := (x4 + 1)) (lv2 := [(0, .ref a0), (1, .int x1), (2, .int v47), (3, .int x3), (4, .int (x4 + 1))]) rfl (iinc_eq (by decide) _) (by decide) rfl dX5_readTest_94 rfl ?_
        refine x_goto 11 dX5_readTest_97 (by decide) ?_
        exact ht
def T_X5_readTest_79 (G : GG) (d : Nat) (h : HP) (Q : Option Value → HP → Prop) (a0 : Nat) (x1 : Int32) (x2 : Int32) (x3 : Int32) (x4 : Int32) : Prop :=
  Kd G h a0 5 ∧ ∃ q2, hR h a0 4 = some q2 ∧ Kd G h q2 8 ∧ Cal G (d - 1) mX8_next [.ref q2] h (fun r4 h5 => r4 = none ∧ Cal G (d - 1) mX5_readFact [.ref a0, .int x1] h5 (fun r8 h9 => ∃ v11, r8 = some (.int v11) ∧ Ex G d mX5_readTest 11 [(0, .ref a0), (1, .int x1), (2, .int v11), (3, .int 1), (4, .int (x4 + 1))] [] h9 Q))
set_option maxRecDepth 20000 in
theorem t_X5_readTest_79 {G : GG} {d : Nat} {h : HP} {Q : Option Value → HP → Prop} {a0 : Nat} {x1 : Int32} {x2 : Int32} {x3 : Int32} {x4 : Int32} (hd1 : 1 ≤ d) (ht : T_X5_readTest_79 G d h Q a0 x1 x2 x3 x4) : Ex G d mX5_readTest 79 [(0, .ref a0), (1, .int x1), (2, .int x2), (3, .int x3), (4, .int x4)] [] h Q := by
  unfold T_X5_readTest_79 at ht
  refine x_iconst (pc2 := 80) (v := 1) (by decide) dX5_readTest_79 rfl ?_
  refine x_istore_n (pc2 := 81) [1, 2, 3, 0, 4] (n := 3) (x := 1) (lv2 := [(0, .ref a0), (1, .int x1), (2, .int x2), (3, .int 1), (4, .int x4)]) (by decide) rfl dX5_readTest_80 rfl ?_
  refine x_aload_n (pc2 := 82) 0 (n := 0) (x := a0) rfl dX5_readTest_81 rfl ?_
  obtain ⟨k1, ht⟩ := ht
  obtain ⟨q2, e3, ht⟩ := ht
  refine y_getR (pc2 := 85) (κ := 5) (k := 4) fl_X5_26 (by decide) (by decide) k1 rfl e3 dX5_readTest_82 rfl ?_
  obtain ⟨k7, ht⟩ := ht
  refine x_callV (pc2 := 88) (As := []) (rest := []) (b := q2) mv_X8_next ml_X5_78 k7 rfl rfl (Nat.le_of_ble_eq_true rfl) hd1 dX5_readTest_85 rfl (ht.mono (fun r4 h5 p6 ht' => ?_))
  clear ht
  obtain ⟨rfl, ht⟩ := ht'
  show Ex G d mX5_readTest 88 [(0, .ref a0), (1, .int x1), (2, .int x2), (3, .int 1), (4, .int x4)] [] h5 Q
  refine x_aload_n (pc2 := 89) 0 (n := 0) (x := a0) rfl dX5_readTest_88 rfl ?_
  refine x_iload_n (pc2 := 90) 1 (n := 1) (x := x1) rfl dX5_readTest_89 rfl ?_
  refine x_callV (pc2 := 93) (As := [.int x1]) (rest := []) (b := a0) mv_X5_readFact ml_X5_98 (k1.up p6) rfl rfl (Nat.le_of_ble_eq_true rfl) hd1 dX5_readTest_90 rfl (ht.mono (fun r8 h9 p10 ht' => ?_))
  clear ht
  obtain ⟨v11, rfl, ht⟩ := ht'
  show Ex G d mX5_readTest 93 [(0, .ref a0), (1, .int x1), (2, .int x2), (3, .int 1), (4, .int x4)] [.int v11] h9 Q
  refine x_istore_n (pc2 := 94) [1, 2, 0, 3, 4] (n := 2) (x := v11) (lv2 := [(0, .ref a0), (1, .int x1), (2, .int v11), (3, .int 1), (4, .int x4)]) (by decide) rfl dX5_readTest_93 rfl ?_
  refine x_iinc (pc2 := 97) 4 [1, 2, 3, 4, 0] (i := 4) (x := x4) (v := (x4 + 1)) (lv2 := [(0, .ref a0), (1, .int x1), (2, .int v11), (3, .int 1), (4, .int (x4 + 1))]) rfl (iinc_eq (by decide) _) (by decide) rfl dX5_readTest_94 rfl ?_
  refine x_goto 11 dX5_readTest_97 (by decide) ?_
  exact ht
def T_X5_readFact (G : GG) (d : Nat) (h : HP) (Q : Option Value → HP → Prop) (a0 : Nat) (x1 : Int32) : Prop :=
  Kd G h a0 5 ∧ ∃ q2, hR h a0 4 = some q2 ∧ Kd G h q2 8 ∧ Cal G (d - 1) mX8_isWord [.ref q2, .int 14] h (fun r4 h5 => ∃ v8, r4 = some (.int v8) ∧ ((¬ v8 = 0 → Cal G (d - 1) mX5_readNested [.ref a0, .int x1] h5 (fun r10 h11 => ∃ v13, r10 = some (.int v13) ∧ ((v13 = 0 ∨ v13 = 1) ∧ Q (some (.int v13)) h11))) ∧ (v8 = 0 → ∃ q14, hR h5 a0 4 = some q14 ∧ Kd G h5 q14 8 ∧ Cal G (d - 1) mX8_isSign [.ref q14, .int 91] h5 (fun r16 h17 => ∃ v20, r16 = some (.int v20) ∧ ((v20 = 0 → Cal G (d - 1) mX5_readSum [.ref a0] h17 (fun r22 h23 => ∃ v25, r22 = some (.int v25) ∧ ((¬ v25 = 0 → ∃ q27, hR h23 a0 4 = some q27 ∧ Kd G h23 q27 8 ∧ ((¬ (hI h23 q27 2) = 3 → Ex G d mX5_readFact 64 [(0, .ref a0), (1, .int x1)] [.int (-1)] h23 Q) ∧ ((hI h23 q27 2) = 3 → Cal G (d - 1) mX4_comparisonOf [.int (hI h23 q27 4)] h23 (fun r31 h32 => ∃ v34, r31 = some (.int v34) ∧ Ex G d mX5_readFact 64 [(0, .ref a0), (1, .int x1)] [.int v34] h32 Q)))) ∧ (v25 = 0 → Q (some (.int 0)) h23)))) ∧ (¬ v20 = 0 → Cal G (d - 1) mX5_readNested [.ref a0, .int x1] h17 (fun r35 h36 => ∃ v38, r35 = some (.int v38) ∧ ((v38 = 0 ∨ v38 = 1) ∧ Q (some (.int v38)) h36))))))))
set_option maxRecDepth 20000 in
theorem t_X5_readFact {G : GG} {d : Nat} {h : HP} {Q : Option Value → HP → Prop} {a0 : Nat} {x1 : Int32} (hd1 : 1 ≤ d) (ht : T_X5_readFact G d h Q a0 x1) : Ex G d mX5_readFact 0 [(0, .ref a0), (1, .int x1)] [] h Q := by
  unfold T_X5_readFact at ht
  refine x_aload_n (pc2 := 1) 0 (n := 0) (x := a0) rfl dX5_readFact_0 rfl ?_
  obtain ⟨k1, ht⟩ := ht
  obtain ⟨q2, e3, ht⟩ := ht
  refine y_getR (pc2 := 4) (κ := 5) (k := 4) fl_X5_26 (by decide) (by decide) k1 rfl e3 dX5_readFact_1 rfl ?_
  refine x_bipush (pc2 := 6) (v := 14) (by decide) dX5_readFact_4 rfl ?_
  obtain ⟨k7, ht⟩ := ht
  refine x_callV (pc2 := 9) (As := [.int 14]) (rest := []) (b := q2) mv_X8_isWord ml_X5_92 k7 rfl rfl (Nat.le_of_ble_eq_true rfl) hd1 dX5_readFact_6 rfl (ht.mono (fun r4 h5 p6 ht' => ?_))
  clear ht
  obtain ⟨v8, rfl, ht⟩ := ht'
  show Ex G d mX5_readFact 9 [(0, .ref a0), (1, .int x1)] [.int v8] h5 Q
  refine y_if_ne (pc2 := 12) 24 dX5_readFact_9 (by decide) rfl (fun c9 => ?_) (fun c9 => ?_)
  · replace ht := ht.1 c9
    refine x_aload_n (pc2 := 25) 0 (n := 0) (x := a0) rfl dX5_readFact_24 rfl ?_
    refine x_iload_n (pc2 := 26) 1 (n := 1) (x := x1) rfl dX5_readFact_25 rfl ?_
    refine x_callV (pc2 := 29) (As := [.int x1]) (rest := []) (b := a0) mv_X5_readNested ml_X5_104 (k1.up p6) rfl rfl (Nat.le_of_ble_eq_true rfl) hd1 dX5_readFact_26 rfl (ht.mono (fun r10 h11 p12 ht' => ?_))
    clear ht
    obtain ⟨v13, rfl, ht⟩ := ht'
    show Ex G d mX5_readFact 29 [(0, .ref a0), (1, .int x1)] [.int v13] h11 Q
    exact x_retZ rfl ht.1 dX5_readFact_29 ht.2
  · replace ht := ht.2 c9
    refine x_aload_n (pc2 := 13) 0 (n := 0) (x := a0) rfl dX5_readFact_12 rfl ?_
    obtain ⟨q14, e15, ht⟩ := ht
    refine y_getR (pc2 := 16) (κ := 5) (k := 4) fl_X5_26 (by decide) (by decide) (k1.up p6) rfl e15 dX5_readFact_13 rfl ?_
    refine x_bipush (pc2 := 18) (v := 91) (by decide) dX5_readFact_16 rfl ?_
    obtain ⟨k19, ht⟩ := ht
    refine x_callV (pc2 := 21) (As := [.int 91]) (rest := []) (b := q14) mv_X8_isSign ml_X5_101 k19 rfl rfl (Nat.le_of_ble_eq_true rfl) hd1 dX5_readFact_18 rfl (ht.mono (fun r16 h17 p18 ht' => ?_))
    clear ht
    obtain ⟨v20, rfl, ht⟩ := ht'
    show Ex G d mX5_readFact 21 [(0, .ref a0), (1, .int x1)] [.int v20] h17 Q
    refine x_if_eq (pc2 := 24) 30 dX5_readFact_21 (by decide) rfl (fun c21 => ?_) (fun c21 => ?_)
    · replace ht := ht.1 c21
      refine x_aload_n (pc2 := 31) 0 (n := 0) (x := a0) rfl dX5_readFact_30 rfl ?_
      refine x_callV (pc2 := 34) (As := []) (rest := []) (b := a0) mv_X5_readSum ml_X5_85 ((k1.up p6).up p18) rfl rfl (Nat.le_of_ble_eq_true rfl) hd1 dX5_readFact_31 rfl (ht.mono (fun r22 h23 p24 ht' => ?_))
      clear ht
      obtain ⟨v25, rfl, ht⟩ := ht'
      show Ex G d mX5_readFact 34 [(0, .ref a0), (1, .int x1)] [.int v25] h23 Q
      refine y_if_ne (pc2 := 37) 39 dX5_readFact_34 (by decide) rfl (fun c26 => ?_) (fun c26 => ?_)
      · replace ht := ht.1 c26
        refine x_aload_n (pc2 := 40) 0 (n := 0) (x := a0) rfl dX5_readFact_39 rfl ?_
        obtain ⟨q27, e28, ht⟩ := ht
        refine y_getR (pc2 := 43) (κ := 5) (k := 4) fl_X5_26 (by decide) (by decide) (((k1.up p6).up p18).up p24) rfl e28 dX5_readFact_40 rfl ?_
        obtain ⟨k29, ht⟩ := ht
        refine y_getI (pc2 := 46) (κ := 8) (k := 2) fl_X5_68 (by decide) (by decide) k29 rfl dX5_readFact_43 rfl ?_
        refine x_iconst (pc2 := 47) (v := 3) (by decide) dX5_readFact_46 rfl ?_
        refine y_icmp_ne (pc2 := 50) 63 dX5_readFact_47 (by decide) rfl (fun c30 => ?_) (fun c30 => ?_)
        · replace ht := ht.1 c30
          refine x_iconst (pc2 := 64) (v := (-1)) (by decide) dX5_readFact_63 rfl ?_
          exact ht
        · replace ht := ht.2 c30
          refine x_aload_n (pc2 := 51) 0 (n := 0) (x := a0) rfl dX5_readFact_50 rfl ?_
          refine y_getR (pc2 := 54) (κ := 5) (k := 4) fl_X5_26 (by decide) (by decide) (((k1.up p6).up p18).up p24) rfl e28 dX5_readFact_51 rfl ?_
          refine y_getI (pc2 := 57) (κ := 8) (k := 4) fl_X5_71 (by decide) (by decide) k29 rfl dX5_readFact_54 rfl ?_
          refine x_callS (pc2 := 60) (As := [.int (hI h23 q27 4)]) (rest := []) ms_X4_comparisonOf ml_X5_107 rfl rfl (Nat.le_of_ble_eq_true rfl) hd1 dX5_readFact_57 rfl (ht.mono (fun r31 h32 p33 ht' => ?_))
          clear ht
          obtain ⟨v34, rfl, ht⟩ := ht'
          show Ex G d mX5_readFact 60 [(0, .ref a0), (1, .int x1)] [.int v34] h32 Q
          refine x_goto 64 dX5_readFact_60 (by decide) ?_
          exact ht
      · replace ht := ht.2 c26
        refine x_iconst (pc2 := 38) (v := 0) (by decide) dX5_readFact_37 rfl ?_
        exact x_retZ rfl (Or.inl rfl) dX5_readFact_38 ht
    · replace ht := ht.2 c21
      refine x_aload_n (pc2 := 25) 0 (n := 0) (x := a0) rfl dX5_readFact_24 rfl ?_
      refine x_iload_n (pc2 := 26) 1 (n := 1) (x := x1) rfl dX5_readFact_25 rfl ?_
      refine x_callV (pc2 := 29) (As := [.int x1]) (rest := []) (b := a0) mv_X5_readNested ml_X5_104 ((k1.up p6).up p18) rfl rfl (Nat.le_of_ble_eq_true rfl) hd1 dX5_readFact_26 rfl (ht.mono (fun r35 h36 p37 ht' => ?_))
      clear ht
      obtain ⟨v38, rfl, ht⟩ := ht'
      show Ex G d mX5_readFact 29 [(0, .ref a0), (1, .int x1)] [.int v38] h36 Q
      exact x_retZ rfl ht.1 dX5_readFact_29 ht.2
theorem e_X5_readFact {G : GG} {d : Nat} {h : HP} {Q : Option Value → HP → Prop} {a0 : Nat} {x1 : Int32} (hd1 : 1 ≤ d) (ht : T_X5_readFact G d h Q a0 x1) : Cal G d mX5_readFact [.ref a0, .int x1] h Q := cal_of rfl (Nat.le_of_ble_eq_true rfl) (t_X5_readFact hd1 ht)
def T_X5_readFact_64 (G : GG) (d : Nat) (h : HP) (Q : Option Value → HP → Prop) (a0 : Nat) (x1 : Int32) (sx0 : Int32) : Prop :=
  ((¬ sx0 = (-1) → Kd G h a0 5 ∧ (((hI h a0 7) < 60 → ∃ q4, hR (sI h a0 7 ((hI h a0 7) + 1)) a0 4 = some q4 ∧ Kd G (sI h a0 7 ((hI h a0 7) + 1)) q4 8 ∧ Cal G (d - 1) mX8_next [.ref q4] (sI h a0 7 ((hI h a0 7) + 1)) (fun r6 h7 => r6 = none ∧ Cal G (d - 1) mX5_readSum [.ref a0] h7 (fun r10 h11 => ∃ v13, r10 = some (.int v13) ∧ Cal G (d - 1) mX5_put [.ref a0, .int sx0] h11 (fun r14 h15 => r14 = none ∧ ((v13 = 0 ∨ v13 = 1) ∧ Q (some (.int v13)) h15))))) ∧ (¬ (hI h a0 7) < 60 → ∃ q17, hR h a0 4 = some q17 ∧ Kd G h q17 8 ∧ Cal G (d - 1) mX8_fail [.ref q17, .int 3] h (fun r19 h20 => ∃ v23, r19 = some (.int v23) ∧ ((v23 = 0 ∨ v23 = 1) ∧ Q (some (.int v23)) h20))))) ∧ (sx0 = (-1) → Kd G h a0 5 ∧ ∃ q25, hR h a0 4 = some q25 ∧ Kd G h q25 8 ∧ Cal G (d - 1) mX8_fail [.ref q25, .int 0] h (fun r27 h28 => ∃ v31, r27 = some (.int v31) ∧ ((v31 = 0 ∨ v31 = 1) ∧ Q (some (.int v31)) h28))))
set_option maxRecDepth 20000 in
theorem t_X5_readFact_64 {G : GG} {d : Nat} {h : HP} {Q : Option Value → HP → Prop} {a0 : Nat} {x1 : Int32} {sx0 : Int32} (hd1 : 1 ≤ d) (ht : T_X5_readFact_64 G d h Q a0 x1 sx0) : Ex G d mX5_readFact 64 [(0, .ref a0), (1, .int x1)] [.int sx0] h Q := by
  unfold T_X5_readFact_64 at ht
  refine x_istore_n (pc2 := 65) [1, 2, 0] (n := 2) (x := sx0) (lv2 := [(0, .ref a0), (1, .int x1), (2, .int sx0)]) (by decide) rfl dX5_readFact_64 rfl ?_
  refine x_iload_n (pc2 := 66) 2 (n := 2) (x := sx0) rfl dX5_readFact_65 rfl ?_
  refine x_iconst (pc2 := 67) (v := (-1)) (by decide) dX5_readFact_66 rfl ?_
  refine y_icmp_ne (pc2 := 70) 79 dX5_readFact_67 (by decide) rfl (fun c1 => ?_) (fun c1 => ?_)
  · replace ht := ht.1 c1
    refine x_aload_n (pc2 := 80) 0 (n := 0) (x := a0) rfl dX5_readFact_79 rfl ?_
    obtain ⟨k2, ht⟩ := ht
    refine y_getI (pc2 := 83) (κ := 5) (k := 7) fl_X5_37 (by decide) (by decide) k2 rfl dX5_readFact_80 rfl ?_
    refine x_bipush (pc2 := 85) (v := 60) (by decide) dX5_readFact_83 rfl ?_
    refine x_icmp_lt (pc2 := 88) 97 dX5_readFact_85 (by decide) rfl (fun c3 => ?_) (fun c3 => ?_)
    · replace ht := ht.1 c3
      refine x_aload_n (pc2 := 98) 0 (n := 0) (x := a0) rfl dX5_readFact_97 rfl ?_
      refine x_dup (pc2 := 99) rfl dX5_readFact_98 rfl ?_
      refine y_getI (pc2 := 102) (κ := 5) (k := 7) fl_X5_37 (by decide) (by decide) k2 rfl dX5_readFact_99 rfl ?_
      refine x_iconst (pc2 := 103) (v := 1) (by decide) dX5_readFact_102 rfl ?_
      refine x_iadd (pc2 := 104) dX5_readFact_103 rfl ?_
      refine x_putI (pc2 := 107) (κ := 5) (k := 7) fl_X5_37 (by decide) (by decide) (Or.inl rfl) rfl k2 dX5_readFact_104 rfl ?_
      refine x_aload_n (pc2 := 108) 0 (n := 0) (x := a0) rfl dX5_readFact_107 rfl ?_
      obtain ⟨q4, e5, ht⟩ := ht
      refine y_getR (pc2 := 111) (κ := 5) (k := 4) fl_X5_26 (by decide) (by decide) k2.sI rfl e5 dX5_readFact_108 rfl ?_
      obtain ⟨k9, ht⟩ := ht
      refine x_callV (pc2 := 114) (As := []) (rest := []) (b := q4) mv_X8_next ml_X5_78 k9 rfl rfl (Nat.le_of_ble_eq_true rfl) hd1 dX5_readFact_111 rfl (ht.mono (fun r6 h7 p8 ht' => ?_))
      clear ht
      obtain ⟨rfl, ht⟩ := ht'
      show Ex G d mX5_readFact 114 [(0, .ref a0), (1, .int x1), (2, .int sx0)] [] h7 Q
      refine x_aload_n (pc2 := 115) 0 (n := 0) (x := a0) rfl dX5_readFact_114 rfl ?_
      refine x_callV (pc2 := 118) (As := []) (rest := []) (b := a0) mv_X5_readSum ml_X5_85 (k2.sI.up p8) rfl rfl (Nat.le_of_ble_eq_true rfl) hd1 dX5_readFact_115 rfl (ht.mono (fun r10 h11 p12 ht' => ?_))
      clear ht
      obtain ⟨v13, rfl, ht⟩ := ht'
      show Ex G d mX5_readFact 118 [(0, .ref a0), (1, .int x1), (2, .int sx0)] [.int v13] h11 Q
      refine x_istore_n (pc2 := 119) [1, 2, 3, 0] (n := 3) (x := v13) (lv2 := [(0, .ref a0), (1, .int x1), (2, .int sx0), (3, .int v13)]) (by decide) rfl dX5_readFact_118 rfl ?_
      refine x_aload_n (pc2 := 120) 0 (n := 0) (x := a0) rfl dX5_readFact_119 rfl ?_
      refine x_iload_n (pc2 := 121) 2 (n := 2) (x := sx0) rfl dX5_readFact_120 rfl ?_
      refine x_callV (pc2 := 124) (As := [.int sx0]) (rest := []) (b := a0) mv_X5_put ml_X5_88 ((k2.sI.up p8).up p12) rfl rfl (Nat.le_of_ble_eq_true rfl) hd1 dX5_readFact_121 rfl (ht.mono (fun r14 h15 p16 ht' => ?_))
      clear ht
      obtain ⟨rfl, ht⟩ := ht'
      show Ex G d mX5_readFact 124 [(0, .ref a0), (1, .int x1), (2, .int sx0), (3, .int v13)] [] h15 Q
      refine x_iload_n (pc2 := 125) 3 (n := 3) (x := v13) rfl dX5_readFact_124 rfl ?_
      exact x_retZ rfl ht.1 dX5_readFact_125 ht.2
    · replace ht := ht.2 c3
      refine x_aload_n (pc2 := 89) 0 (n := 0) (x := a0) rfl dX5_readFact_88 rfl ?_
      obtain ⟨q17, e18, ht⟩ := ht
      refine y_getR (pc2 := 92) (κ := 5) (k := 4) fl_X5_26 (by decide) (by decide) k2 rfl e18 dX5_readFact_89 rfl ?_
      refine x_iconst (pc2 := 93) (v := 3) (by decide) dX5_readFact_92 rfl ?_
      obtain ⟨k22, ht⟩ := ht
      refine x_callV (pc2 := 96) (As := [.int 3]) (rest := []) (b := q17) mv_X8_fail ml_X5_74 k22 rfl rfl (Nat.le_of_ble_eq_true rfl) hd1 dX5_readFact_93 rfl (ht.mono (fun r19 h20 p21 ht' => ?_))
      clear ht
      obtain ⟨v23, rfl, ht⟩ := ht'
      show Ex G d mX5_readFact 96 [(0, .ref a0), (1, .int x1), (2, .int sx0)] [.int v23] h20 Q
      exact x_retZ rfl ht.1 dX5_readFact_96 ht.2
  · replace ht := ht.2 c1
    refine x_aload_n (pc2 := 71) 0 (n := 0) (x := a0) rfl dX5_readFact_70 rfl ?_
    obtain ⟨k24, ht⟩ := ht
    obtain ⟨q25, e26, ht⟩ := ht
    refine y_getR (pc2 := 74) (κ := 5) (k := 4) fl_X5_26 (by decide) (by decide) k24 rfl e26 dX5_readFact_71 rfl ?_
    refine x_iconst (pc2 := 75) (v := 0) (by decide) dX5_readFact_74 rfl ?_
    obtain ⟨k30, ht⟩ := ht
    refine x_callV (pc2 := 78) (As := [.int 0]) (rest := []) (b := q25) mv_X8_fail ml_X5_74 k30 rfl rfl (Nat.le_of_ble_eq_true rfl) hd1 dX5_readFact_75 rfl (ht.mono (fun r27 h28 p29 ht' => ?_))
    clear ht
    obtain ⟨v31, rfl, ht⟩ := ht'
    show Ex G d mX5_readFact 78 [(0, .ref a0), (1, .int x1), (2, .int sx0)] [.int v31] h28 Q
    exact x_retZ rfl ht.1 dX5_readFact_78 ht.2
def T_X5_readNested (G : GG) (d : Nat) (h : HP) (Q : Option Value → HP → Prop) (a0 : Nat) (x1 : Int32) : Prop :=
  ((x1 < 10 → Kd G h a0 5 ∧ ∃ q3, hR h a0 4 = some q3 ∧ Kd G h q3 8 ∧ Cal G (d - 1) mX8_isWord [.ref q3, .int 14] h (fun r5 h6 => ∃ v9, r5 = some (.int v9) ∧ ∃ q10, hR h6 a0 4 = some q10 ∧ Kd G h6 q10 8 ∧ Cal G (d - 1) mX8_next [.ref q10] h6 (fun r12 h13 => r12 = none ∧ ((v9 = 0 → Cal G (d - 1) mX5_readTest [.ref a0, .int (x1 + 1)] h13 (fun r17 h18 => ∃ v20, r17 = some (.int v20) ∧ ((¬ v20 = 0 → ∃ q22, hR h18 a0 4 = some q22 ∧ Kd G h18 q22 8 ∧ Cal G (d - 1) mX8_isSign [.ref q22, .int 93] h18 (fun r24 h25 => ∃ v28, r24 = some (.int v28) ∧ ((¬ v28 = 0 → ∃ q30, hR h25 a0 4 = some q30 ∧ Kd G h25 q30 8 ∧ Cal G (d - 1) mX8_next [.ref q30] h25 (fun r32 h33 => r32 = none ∧ Q (some (.int 1)) h33)) ∧ (v28 = 0 → ∃ q36, hR h25 a0 4 = some q36 ∧ Kd G h25 q36 8 ∧ Cal G (d - 1) mX8_fail [.ref q36, .int 0] h25 (fun r38 h39 => ∃ v42, r38 = some (.int v42) ∧ ((v42 = 0 ∨ v42 = 1) ∧ Q (some (.int v42)) h39)))))) ∧ (v20 = 0 → Q (some (.int 0)) h18)))) ∧ (¬ v9 = 0 → Cal G (d - 1) mX5_readFact [.ref a0, .int (x1 + 1)] h13 (fun r43 h44 => ∃ v46, r43 = some (.int v46) ∧ Cal G (d - 1) mX5_put [.ref a0, .int (-13)] h44 (fun r47 h48 => r47 = none ∧ ((v46 = 0 ∨ v46 = 1) ∧ Q (some (.int v46)) h48)))))))) ∧ (¬ x1 < 10 → Kd G h a0 5 ∧ ∃ q51, hR h a0 4 = some q51 ∧ Kd G h q51 8 ∧ Cal G (d - 1) mX8_fail [.ref q51, .int 2] h (fun r53 h54 => ∃ v57, r53 = some (.int v57) ∧ ((v57 = 0 ∨ v57 = 1) ∧ Q (some (.int v57)) h54))))
set_option maxRecDepth 20000 in
theorem t_X5_readNested {G : GG} {d : Nat} {h : HP} {Q : Option Value → HP → Prop} {a0 : Nat} {x1 : Int32} (hd1 : 1 ≤ d) (ht : T_X5_readNested G d h Q a0 x1) : Ex G d mX5_readNested 0 [(0, .ref a0), (1, .int x1)] [] h Q := by
  unfold T_X5_readNested at ht
  refine x_iload_n (pc2 := 1) 1 (n := 1) (x := x1) rfl dX5_readNested_0 rfl ?_
  refine x_bipush (pc2 := 3) (v := 10) (by decide) dX5_readNested_1 rfl ?_
  refine x_icmp_lt (pc2 := 6) 15 dX5_readNested_3 (by decide) rfl (fun c1 => ?_) (fun c1 => ?_)
  · replace ht := ht.1 c1
    refine x_aload_n (pc2 := 16) 0 (n := 0) (x := a0) rfl dX5_readNested_15 rfl ?_
    obtain ⟨k2, ht⟩ := ht
    obtain ⟨q3, e4, ht⟩ := ht
    refine y_getR (pc2 := 19) (κ := 5) (k := 4) fl_X5_26 (by decide) (by decide) k2 rfl e4 dX5_readNested_16 rfl ?_
    refine x_bipush (pc2 := 21) (v := 14) (by decide) dX5_readNested_19 rfl ?_
    obtain ⟨k8, ht⟩ := ht
    refine x_callV (pc2 := 24) (As := [.int 14]) (rest := []) (b := q3) mv_X8_isWord ml_X5_92 k8 rfl rfl (Nat.le_of_ble_eq_true rfl) hd1 dX5_readNested_21 rfl (ht.mono (fun r5 h6 p7 ht' => ?_))
    clear ht
    obtain ⟨v9, rfl, ht⟩ := ht'
    show Ex G d mX5_readNested 24 [(0, .ref a0), (1, .int x1)] [.int v9] h6 Q
    refine x_istore_n (pc2 := 25) [1, 2, 0] (n := 2) (x := v9) (lv2 := [(0, .ref a0), (1, .int x1), (2, .int v9)]) (by decide) rfl dX5_readNested_24 rfl ?_
    refine x_aload_n (pc2 := 26) 0 (n := 0) (x := a0) rfl dX5_readNested_25 rfl ?_
    obtain ⟨q10, e11, ht⟩ := ht
    refine y_getR (pc2 := 29) (κ := 5) (k := 4) fl_X5_26 (by decide) (by decide) (k2.up p7) rfl e11 dX5_readNested_26 rfl ?_
    obtain ⟨k15, ht⟩ := ht
    refine x_callV (pc2 := 32) (As := []) (rest := []) (b := q10) mv_X8_next ml_X5_78 k15 rfl rfl (Nat.le_of_ble_eq_true rfl) hd1 dX5_readNested_29 rfl (ht.mono (fun r12 h13 p14 ht' => ?_))
    clear ht
    obtain ⟨rfl, ht⟩ := ht'
    show Ex G d mX5_readNested 32 [(0, .ref a0), (1, .int x1), (2, .int v9)] [] h13 Q
    refine x_iload_n (pc2 := 33) 2 (n := 2) (x := v9) rfl dX5_readNested_32 rfl ?_
    refine x_if_eq (pc2 := 36) 52 dX5_readNested_33 (by decide) rfl (fun c16 => ?_) (fun c16 => ?_)
    · replace ht := ht.1 c16
      refine x_aload_n (pc2 := 53) 0 (n := 0) (x := a0) rfl dX5_readNested_52 rfl ?_
      refine x_iload_n (pc2 := 54) 1 (n := 1) (x := x1) rfl dX5_readNested_53 rfl ?_
      refine x_iconst (pc2 := 55) (v := 1) (by decide) dX5_readNested_54 rfl ?_
      refine x_iadd (pc2 := 56) dX5_readNested_55 rfl ?_
      refine x_callV (pc2 := 59) (As := [.int (x1 + 1)]) (rest := []) (b := a0) mv_X5_readTest ml_X5_95 ((k2.up p7).up p14) rfl rfl (Nat.le_of_ble_eq_true rfl) hd1 dX5_readNested_56 rfl (ht.mono (fun r17 h18 p19 ht' => ?_))
      clear ht
      obtain ⟨v20, rfl, ht⟩ := ht'
      show Ex G d mX5_readNested 59 [(0, .ref a0), (1, .int x1), (2, .int v9)] [.int v20] h18 Q
      refine y_if_ne (pc2 := 62) 64 dX5_readNested_59 (by decide) rfl (fun c21 => ?_) (fun c21 => ?_)
      · replace ht := ht.1 c21
        refine x_aload_n (pc2 := 65) 0 (n := 0) (x := a0) rfl dX5_readNested_64 rfl ?_
        obtain ⟨q22, e23, ht⟩ := ht
        refine y_getR (pc2 := 68) (κ := 5) (k := 4) fl_X5_26 (by decide) (by decide) (((k2.up p7).up p14).up p19) rfl e23 dX5_readNested_65 rfl ?_
        refine x_bipush (pc2 := 70) (v := 93) (by decide) dX5_readNested_68 rfl ?_
        obtain ⟨k27, ht⟩ := ht
        refine x_callV (pc2 := 73) (As := [.int 93]) (rest := []) (b := q22) mv_X8_isSign ml_X5_101 k27 rfl rfl (Nat.le_of_ble_eq_true rfl) hd1 dX5_readNested_70 rfl (ht.mono (fun r24 h25 p26 ht' => ?_))
        clear ht
        obtain ⟨v28, rfl, ht⟩ := ht'
        show Ex G d mX5_readNested 73 [(0, .ref a0), (1, .int x1), (2, .int v9)] [.int v28] h25 Q
        refine y_if_ne (pc2 := 76) 85 dX5_readNested_73 (by decide) rfl (fun c29 => ?_) (fun c29 => ?_)
        · replace ht := ht.1 c29
          refine x_aload_n (pc2 := 86) 0 (n := 0) (x := a0) rfl dX5_readNested_85 rfl ?_
          obtain ⟨q30, e31, ht⟩ := ht
          refine y_getR (pc2 := 89) (κ := 5) (k := 4) fl_X5_26 (by decide) (by decide) ((((k2.up p7).up p14).up p19).up p26) rfl e31 dX5_readNested_86 rfl ?_
          obtain ⟨k35, ht⟩ := ht
          refine x_callV (pc2 := 92) (As := []) (rest := []) (b := q30) mv_X8_next ml_X5_78 k35 rfl rfl (Nat.le_of_ble_eq_true rfl) hd1 dX5_readNested_89 rfl (ht.mono (fun r32 h33 p34 ht' => ?_))
          clear ht
          obtain ⟨rfl, ht⟩ := ht'
          show Ex G d mX5_readNested 92 [(0, .ref a0), (1, .int x1), (2, .int v9)] [] h33 Q
          refine x_iconst (pc2 := 93) (v := 1) (by decide) dX5_readNested_92 rfl ?_
          exact x_retZ rfl (Or.inr rfl) dX5_readNested_93 ht
        · replace ht := ht.2 c29
          refine x_aload_n (pc2 := 77) 0 (n := 0) (x := a0) rfl dX5_readNested_76 rfl ?_
          obtain ⟨q36, e37, ht⟩ := ht
          refine y_getR (pc2 := 80) (κ := 5) (k := 4) fl_X5_26 (by decide) (by decide) ((((k2.up p7).up p14).up p19).up p26) rfl e37 dX5_readNested_77 rfl ?_
          refine x_iconst (pc2 := 81) (v := 0) (by decide) dX5_readNested_80 rfl ?_
          obtain ⟨k41, ht⟩ := ht
          refine x_callV (pc2 := 84) (As := [.int 0]) (rest := []) (b := q36) mv_X8_fail ml_X5_74 k41 rfl rfl (Nat.le_of_ble_eq_true rfl) hd1 dX5_readNested_81 rfl (ht.mono (fun r38 h39 p40 ht' => ?_))
          clear ht
          obtain ⟨v42, rfl, ht⟩ := ht'
          show Ex G d mX5_readNested 84 [(0, .ref a0), (1, .int x1), (2, .int v9)] [.int v42] h39 Q
          exact x_retZ rfl ht.1 dX5_readNested_84 ht.2
      · replace ht := ht.2 c21
        refine x_iconst (pc2 := 63) (v := 0) (by decide) dX5_readNested_62 rfl ?_
        exact x_retZ rfl (Or.inl rfl) dX5_readNested_63 ht
    · replace ht := ht.2 c16
      refine x_aload_n (pc2 := 37) 0 (n := 0) (x := a0) rfl dX5_readNested_36 rfl ?_
      refine x_iload_n (pc2 := 38) 1 (n := 1) (x := x1) rfl dX5_readNested_37 rfl ?_
      refine x_iconst (pc2 := 39) (v := 1) (by decide) dX5_readNested_38 rfl ?_
      refine x_iadd (pc2 := 40) dX5_readNested_39 rfl ?_
      refine x_callV (pc2 := 43) (As := [.int (x1 + 1)]) (rest := []) (b := a0) mv_X5_readFact ml_X5_98 ((k2.up p7).up p14) rfl rfl (Nat.le_of_ble_eq_true rfl) hd1 dX5_readNested_40 rfl (ht.mono (fun r43 h44 p45 ht' => ?_))
      clear ht
      obtain ⟨v46, rfl, ht⟩ := ht'
      show Ex G d mX5_readNested 43 [(0, .ref a0), (1, .int x1), (2, .int v9)] [.int v46] h44 Q
      refine x_istore_n (pc2 := 44) [1, 2, 3, 0] (n := 3) (x := v46) (lv2 := [(0, .ref a0), (1, .int x1), (2, .int v9), (3, .int v46)]) (by decide) rfl dX5_readNested_43 rfl ?_
      refine x_aload_n (pc2 := 45) 0 (n := 0) (x := a0) rfl dX5_readNested_44 rfl ?_
      refine x_bipush (pc2 := 47) (v := (-13)) (by decide) dX5_readNested_45 rfl ?_
      refine x_callV (pc2 := 50) (As := [.int (-13)]) (rest := []) (b := a0) mv_X5_put ml_X5_88 (((k2.up p7).up p14).up p45) rfl rfl (Nat.le_of_ble_eq_true rfl) hd1 dX5_readNested_47 rfl (ht.mono (fun r47 h48 p49 ht' => ?_))
      clear ht
      obtain ⟨rfl, ht⟩ := ht'
      show Ex G d mX5_readNested 50 [(0, .ref a0), (1, .int x1), (2, .int v9), (3, .int v46)] [] h48 Q
      refine x_iload_n (pc2 := 51) 3 (n := 3) (x := v46) rfl dX5_readNested_50 rfl ?_
      exact x_retZ rfl ht.1 dX5_readNested_51 ht.2
  · replace ht := ht.2 c1
    refine x_aload_n (pc2 := 7) 0 (n := 0) (x := a0) rfl dX5_readNested_6 rfl ?_
    obtain ⟨k50, ht⟩ := ht
    obtain ⟨q51, e52, ht⟩ := ht
    refine y_getR (pc2 := 10) (κ := 5) (k := 4) fl_X5_26 (by decide) (by decide) k50 rfl e52 dX5_readNested_7 rfl ?_
    refine x_iconst (pc2 := 11) (v := 2) (by decide) dX5_readNested_10 rfl ?_
    obtain ⟨k56, ht⟩ := ht
    refine x_callV (pc2 := 14) (As := [.int 2]) (rest := []) (b := q51) mv_X8_fail ml_X5_74 k56 rfl rfl (Nat.le_of_ble_eq_true rfl) hd1 dX5_readNested_11 rfl (ht.mono (fun r53 h54 p55 ht' => ?_))
    clear ht
    obtain ⟨v57, rfl, ht⟩ := ht'
    show Ex G d mX5_readNested 14 [(0, .ref a0), (1, .int x1)] [.int v57] h54 Q
    exact x_retZ rfl ht.1 dX5_readNested_14 ht.2
theorem e_X5_readNested {G : GG} {d : Nat} {h : HP} {Q : Option Value → HP → Prop} {a0 : Nat} {x1 : Int32} (hd1 : 1 ≤ d) (ht : T_X5_readNested G d h Q a0 x1) : Cal G d mX5_readNested [.ref a0, .int x1] h Q := cal_of rfl (Nat.le_of_ble_eq_true rfl) (t_X5_readNested hd1 ht)
def T_X5_readSum (G : GG) (d : Nat) (h : HP) (Q : Option Value → HP → Prop) (a0 : Nat) : Prop :=
  Kd G h a0 5 ∧ Cal G (d - 1) mX5_readValue [.ref a0] h (fun r1 h2 => ∃ v5, r1 = some (.int v5) ∧ Ex G d mX5_readSum 9 [(0, .ref a0), (1, .int v5), (2, .int (-1)), (3, .int 0)] [] h2 Q)
set_option maxRecDepth 20000 in
theorem t_X5_readSum {G : GG} {d : Nat} {h : HP} {Q : Option Value → HP → Prop} {a0 : Nat} (hd1 : 1 ≤ d) (ht : T_X5_readSum G d h Q a0) : Ex G d mX5_readSum 0 [(0, .ref a0)] [] h Q := by
  unfold T_X5_readSum at ht
  refine x_aload_n (pc2 := 1) 0 (n := 0) (x := a0) rfl dX5_readSum_0 rfl ?_
  obtain ⟨k4, ht⟩ := ht
  refine x_callV (pc2 := 4) (As := []) (rest := []) (b := a0) mv_X5_readValue ml_X5_111 k4 rfl rfl (Nat.le_of_ble_eq_true rfl) hd1 dX5_readSum_1 rfl (ht.mono (fun r1 h2 p3 ht' => ?_))
  clear ht
  obtain ⟨v5, rfl, ht⟩ := ht'
  show Ex G d mX5_readSum 4 [(0, .ref a0)] [.int v5] h2 Q
  refine x_istore_n (pc2 := 5) [1, 0] (n := 1) (x := v5) (lv2 := [(0, .ref a0), (1, .int v5)]) (by decide) rfl dX5_readSum_4 rfl ?_
  refine x_iconst (pc2 := 6) (v := (-1)) (by decide) dX5_readSum_5 rfl ?_
  refine x_istore_n (pc2 := 7) [1, 2, 0] (n := 2) (x := (-1)) (lv2 := [(0, .ref a0), (1, .int v5), (2, .int (-1))]) (by decide) rfl dX5_readSum_6 rfl ?_
  refine x_iconst (pc2 := 8) (v := 0) (by decide) dX5_readSum_7 rfl ?_
  refine x_istore_n (pc2 := 9) [1, 2, 3, 0] (n := 3) (x := 0) (lv2 := [(0, .ref a0), (1, .int v5), (2, .int (-1)), (3, .int 0)]) (by decide) rfl dX5_readSum_8 rfl ?_
  exact ht
theorem e_X5_readSum {G : GG} {d : Nat} {h : HP} {Q : Option Value → HP → Prop} {a0 : Nat} (hd1 : 1 ≤ d) (ht : T_X5_readSum G d h Q a0) : Cal G d mX5_readSum [.ref a0] h Q := cal_of rfl (Nat.le_of_ble_eq_true rfl) (t_X5_readSum hd1 ht)
def T_X5_readSum_9 (G : GG) (d : Nat) (h : HP) (Q : Option Value → HP → Prop) (a0 : Nat) (x1 : Int32) (x2 : Int32) (x3 : Int32) : Prop :=
  ((400 ≤ x3 → ((x2 = (-1) → ((x1 = 0 ∨ x1 = 1) ∧ Q (some (.int x1)) h)) ∧ (¬ x2 = (-1) → Kd G h a0 5 ∧ Cal G (d - 1) mX5_put [.ref a0, .int x2] h (fun r3 h4 => r3 = none ∧ ((x1 = 0 ∨ x1 = 1) ∧ Q (some (.int x1)) h4))))) ∧ (¬ 400 ≤ x3 → ((x1 = 0 → ((x2 = (-1) → ((x1 = 0 ∨ x1 = 1) ∧ Q (some (.int x1)) h)) ∧ (¬ x2 = (-1) → Kd G h a0 5 ∧ Cal G (d - 1) mX5_put [.ref a0, .int x2] h (fun r9 h10 => r9 = none ∧ ((x1 = 0 ∨ x1 = 1) ∧ Q (some (.int x1)) h10))))) ∧ (¬ x1 = 0 → Kd G h a0 5 ∧ ∃ q14, hR h a0 4 = some q14 ∧ Kd G h q14 8 ∧ ((¬ (hI h q14 2) = 3 → ((x2 = (-1) → ((x1 = 0 ∨ x1 = 1) ∧ Q (some (.int x1)) h)) ∧ (¬ x2 = (-1) → Cal G (d - 1) mX5_put [.ref a0, .int x2] h (fun r19 h20 => r19 = none ∧ ((x1 = 0 ∨ x1 = 1) ∧ Q (some (.int x1)) h20))))) ∧ ((hI h q14 2) = 3 → Cal G (d - 1) mX4_arithmeticOf [.int (hI h q14 4)] h (fun r22 h23 => ∃ v25, r22 = some (.int v25) ∧ ((¬ v25 = (-1) → ((v25 = (-2) → Ex G d mX5_readSum 71 [(0, .ref a0), (1, .int x1), (2, .int x2), (3, .int x3), (4, .int v25)] [.int 1] h23 Q) ∧ (¬ v25 = (-2) → ((¬ v25 = (-3) → Ex G d mX5_readSum 71 [(0, .ref a0), (1, .int x1), (2, .int x2), (3, .int x3), (4, .int v25)] [.int 0] h23 Q) ∧ (v25 = (-3) → Ex G d mX5_readSum 71 [(0, .ref a0), (1, .int x1), (2, .int x2), (3, .int x3), (4, .int v25)] [.int 1] h23 Q))))) ∧ (v25 = (-1) → ((x2 = (-1) → ((x1 = 0 ∨ x1 = 1) ∧ Q (some (.int x1)) h23)) ∧ (¬ x2 = (-1) → Cal G (d - 1) mX5_put [.ref a0, .int x2] h23 (fun r30 h31 => r30 = none ∧ ((x1 = 0 ∨ x1 = 1) ∧ Q (some (.int x1)) h31)))))))))))))
set_option maxRecDepth 20000 in
theorem t_X5_readSum_9 {G : GG} {d : Nat} {h : HP} {Q : Option Value → HP → Prop} {a0 : Nat} {x1 : Int32} {x2 : Int32} {x3 : Int32} (hd1 : 1 ≤ d) (ht : T_X5_readSum_9 G d h Q a0 x1 x2 x3) : Ex G d mX5_readSum 9 [(0, .ref a0), (1, .int x1), (2, .int x2), (3, .int x3)] [] h Q := by
  unfold T_X5_readSum_9 at ht
  refine x_iload_n (pc2 := 10) 3 (n := 3) (x := x3) rfl dX5_readSum_9 rfl ?_
  refine x_sipush (pc2 := 13) (v := 400) (by decide) dX5_readSum_10 rfl ?_
  refine x_icmp_ge (pc2 := 16) 120 dX5_readSum_13 (by decide) rfl (fun c1 => ?_) (fun c1 => ?_)
  · replace ht := ht.1 c1
    refine x_iload_n (pc2 := 121) 2 (n := 2) (x := x2) rfl dX5_readSum_120 rfl ?_
    refine x_iconst (pc2 := 122) (v := (-1)) (by decide) dX5_readSum_121 rfl ?_
    refine x_icmp_eq (pc2 := 125) 130 dX5_readSum_122 (by decide) rfl (fun c2 => ?_) (fun c2 => ?_)
    · replace ht := ht.1 c2
      refine x_iload_n (pc2 := 131) 1 (n := 1) (x := x1) rfl dX5_readSum_130 rfl ?_
      exact x_retZ rfl ht.1 dX5_readSum_131 ht.2
    · replace ht := ht.2 c2
      refine x_aload_n (pc2 := 126) 0 (n := 0) (x := a0) rfl dX5_readSum_125 rfl ?_
      refine x_iload_n (pc2 := 127) 2 (n := 2) (x := x2) rfl dX5_readSum_126 rfl ?_
      obtain ⟨k6, ht⟩ := ht
      refine x_callV (pc2 := 130) (As := [.int x2]) (rest := []) (b := a0) mv_X5_put ml_X5_88 k6 rfl rfl (Nat.le_of_ble_eq_true rfl) hd1 dX5_readSum_127 rfl (ht.mono (fun r3 h4 p5 ht' => ?_))
      clear ht
      obtain ⟨rfl, ht⟩ := ht'
      show Ex G d mX5_readSum 130 [(0, .ref a0), (1, .int x1), (2, .int x2), (3, .int x3)] [] h4 Q
      refine x_iload_n (pc2 := 131) 1 (n := 1) (x := x1) rfl dX5_readSum_130 rfl ?_
      exact x_retZ rfl ht.1 dX5_readSum_131 ht.2
  · replace ht := ht.2 c1
    refine x_iload_n (pc2 := 17) 1 (n := 1) (x := x1) rfl dX5_readSum_16 rfl ?_
    refine x_if_eq (pc2 := 20) 120 dX5_readSum_17 (by decide) rfl (fun c7 => ?_) (fun c7 => ?_)
    · replace ht := ht.1 c7
      refine x_iload_n (pc2 := 121) 2 (n := 2) (x := x2) rfl dX5_readSum_120 rfl ?_
      refine x_iconst (pc2 := 122) (v := (-1)) (by decide) dX5_readSum_121 rfl ?_
      refine x_icmp_eq (pc2 := 125) 130 dX5_readSum_122 (by decide) rfl (fun c8 => ?_) (fun c8 => ?_)
      · replace ht := ht.1 c8
        refine x_iload_n (pc2 := 131) 1 (n := 1) (x := x1) rfl dX5_readSum_130 rfl ?_
        exact x_retZ rfl ht.1 dX5_readSum_131 ht.2
      · replace ht := ht.2 c8
        refine x_aload_n (pc2 := 126) 0 (n := 0) (x := a0) rfl dX5_readSum_125 rfl ?_
        refine x_iload_n (pc2 := 127) 2 (n := 2) (x := x2) rfl dX5_readSum_126 rfl ?_
        obtain ⟨k12, ht⟩ := ht
        refine x_callV (pc2 := 130) (As := [.int x2]) (rest := []) (b := a0) mv_X5_put ml_X5_88 k12 rfl rfl (Nat.le_of_ble_eq_true rfl) hd1 dX5_readSum_127 rfl (ht.mono (fun r9 h10 p11 ht' => ?_))
        clear ht
        obtain ⟨rfl, ht⟩ := ht'
        show Ex G d mX5_readSum 130 [(0, .ref a0), (1, .int x1), (2, .int x2), (3, .int x3)] [] h10 Q
        refine x_iload_n (pc2 := 131) 1 (n := 1) (x := x1) rfl dX5_readSum_130 rfl ?_
        exact x_retZ rfl ht.1 dX5_readSum_131 ht.2
    · replace ht := ht.2 c7
      refine x_aload_n (pc2 := 21) 0 (n := 0) (x := a0) rfl dX5_readSum_20 rfl ?_
      obtain ⟨k13, ht⟩ := ht
      obtain ⟨q14, e15, ht⟩ := ht
      refine y_getR (pc2 := 24) (κ := 5) (k := 4) fl_X5_26 (by decide) (by decide) k13 rfl e15 dX5_readSum_21 rfl ?_
      obtain ⟨k16, ht⟩ := ht
      refine y_getI (pc2 := 27) (κ := 8) (k := 2) fl_X5_68 (by decide) (by decide) k16 rfl dX5_readSum_24 rfl ?_
      refine x_iconst (pc2 := 28) (v := 3) (by decide) dX5_readSum_27 rfl ?_
      refine y_icmp_ne (pc2 := 31) 120 dX5_readSum_28 (by decide) rfl (fun c17 => ?_) (fun c17 => ?_)
      · replace ht := ht.1 c17
        refine x_iload_n (pc2 := 121) 2 (n := 2) (x := x2) rfl dX5_readSum_120 rfl ?_
        refine x_iconst (pc2 := 122) (v := (-1)) (by decide) dX5_readSum_121 rfl ?_
        refine x_icmp_eq (pc2 := 125) 130 dX5_readSum_122 (by decide) rfl (fun c18 => ?_) (fun c18 => ?_)
        · replace ht := ht.1 c18
          refine x_iload_n (pc2 := 131) 1 (n := 1) (x := x1) rfl dX5_readSum_130 rfl ?_
          exact x_retZ rfl ht.1 dX5_readSum_131 ht.2
        · replace ht := ht.2 c18
          refine x_aload_n (pc2 := 126) 0 (n := 0) (x := a0) rfl dX5_readSum_125 rfl ?_
          refine x_iload_n (pc2 := 127) 2 (n := 2) (x := x2) rfl dX5_readSum_126 rfl ?_
          refine x_callV (pc2 := 130) (As := [.int x2]) (rest := []) (b := a0) mv_X5_put ml_X5_88 k13 rfl rfl (Nat.le_of_ble_eq_true rfl) hd1 dX5_readSum_127 rfl (ht.mono (fun r19 h20 p21 ht' => ?_))
          clear ht
          obtain ⟨rfl, ht⟩ := ht'
          show Ex G d mX5_readSum 130 [(0, .ref a0), (1, .int x1), (2, .int x2), (3, .int x3)] [] h20 Q
          refine x_iload_n (pc2 := 131) 1 (n := 1) (x := x1) rfl dX5_readSum_130 rfl ?_
          exact x_retZ rfl ht.1 dX5_readSum_131 ht.2
      · replace ht := ht.2 c17
        refine x_aload_n (pc2 := 32) 0 (n := 0) (x := a0) rfl dX5_readSum_31 rfl ?_
        refine y_getR (pc2 := 35) (κ := 5) (k := 4) fl_X5_26 (by decide) (by decide) k13 rfl e15 dX5_readSum_32 rfl ?_
        refine y_getI (pc2 := 38) (κ := 8) (k := 4) fl_X5_71 (by decide) (by decide) k16 rfl dX5_readSum_35 rfl ?_
        refine x_callS (pc2 := 41) (As := [.int (hI h q14 4)]) (rest := []) ms_X4_arithmeticOf ml_X5_114 rfl rfl (Nat.le_of_ble_eq_true rfl) hd1 dX5_readSum_38 rfl (ht.mono (fun r22 h23 p24 ht' => ?_))
        clear ht
        obtain ⟨v25, rfl, ht⟩ := ht'
        show Ex G d mX5_readSum 41 [(0, .ref a0), (1, .int x1), (2, .int x2), (3, .int x3)] [.int v25] h23 Q
        refine x_istore (pc2 := 43) [1, 2, 3, 4, 0] (n := 4) (x := v25) (lv2 := [(0, .ref a0), (1, .int x1), (2, .int x2), (3, .int x3), (4, .int v25)]) (by decide) rfl dX5_readSum_41 rfl ?_
        refine x_iload (pc2 := 45) 4 (n := 4) (x := v25) rfl dX5_readSum_43 rfl ?_
        refine x_iconst (pc2 := 46) (v := (-1)) (by decide) dX5_readSum_45 rfl ?_
        refine y_icmp_ne (pc2 := 49) 52 dX5_readSum_46 (by decide) rfl (fun c26 => ?_) (fun c26 => ?_)
        · replace ht := ht.1 c26
          refine x_iload (pc2 := 54) 4 (n := 4) (x := v25) rfl dX5_readSum_52 rfl ?_
          refine x_bipush (pc2 := 56) (v := (-2)) (by decide) dX5_readSum_54 rfl ?_
          refine x_icmp_eq (pc2 := 59) 66 dX5_readSum_56 (by decide) rfl (fun c27 => ?_) (fun c27 => ?_)
          · replace ht := ht.1 c27
            refine x_iconst (pc2 := 67) (v := 1) (by decide) dX5_readSum_66 rfl ?_
            refine x_goto 71 dX5_readSum_67 (by decide) ?_
            exact ht
          · replace ht := ht.2 c27
            refine x_iload (pc2 := 61) 4 (n := 4) (x := v25) rfl dX5_readSum_59 rfl ?_
            refine x_bipush (pc2 := 63) (v := (-3)) (by decide) dX5_readSum_61 rfl ?_
            refine y_icmp_ne (pc2 := 66) 70 dX5_readSum_63 (by decide) rfl (fun c28 => ?_) (fun c28 => ?_)
            · replace ht := ht.1 c28
              refine x_iconst (pc2 := 71) (v := 0) (by decide) dX5_readSum_70 rfl ?_
              exact ht
            · replace ht := ht.2 c28
              refine x_iconst (pc2 := 67) (v := 1) (by decide) dX5_readSum_66 rfl ?_
              refine x_goto 71 dX5_readSum_67 (by decide) ?_
              exact ht
        · replace ht := ht.2 c26
          refine x_goto 120 dX5_readSum_49 (by decide) ?_
          refine x_iload_n (pc2 := 121) 2 (n := 2) (x := x2) rfl dX5_readSum_120 rfl ?_
          refine x_iconst (pc2 := 122) (v := (-1)) (by decide) dX5_readSum_121 rfl ?_
          refine x_icmp_eq (pc2 := 125) 130 dX5_readSum_122 (by decide) rfl (fun c29 => ?_) (fun c29 => ?_)
          · replace ht := ht.1 c29
            refine x_iload_n (pc2 := 131) 1 (n := 1) (x := x1) rfl dX5_readSum_130 rfl ?_
            exact x_retZ rfl ht.1 dX5_readSum_131 ht.2
          · replace ht := ht.2 c29
            refine x_aload_n (pc2 := 126) 0 (n := 0) (x := a0) rfl dX5_readSum_125 rfl ?_
            refine x_iload_n (pc2 := 127) 2 (n := 2) (x := x2) rfl dX5_readSum_126 rfl ?_
            refine x_callV (pc2 := 130) (As := [.int x2]) (rest := []) (b := a0) mv_X5_put ml_X5_88 (k13.up p24) rfl rfl (Nat.le_of_ble_eq_true rfl) hd1 dX5_readSum_127 rfl (ht.mono (fun r30 h31 p32 ht' => ?_))
            clear ht
            obtain ⟨rfl, ht⟩ := ht'
            show Ex G d mX5_readSum 130 [(0, .ref a0), (1, .int x1), (2, .int x2), (3, .int x3), (4, .int v25)] [] h31 Q
            refine x_iload_n (pc2 := 131) 1 (n := 1) (x := x1) rfl dX5_readSum_130 rfl ?_
            exact x_retZ rfl ht.1 dX5_readSum_131 ht.2
def T_X5_readSum_71 (G : GG) (d : Nat) (h : HP) (Q : Option Value → HP → Prop) (a0 : Nat) (x1 : Int32) (x2 : Int32) (x3 : Int32) (x4 : Int32) (sx0 : Int32) : Prop :=
  ((sx0 = 0 → Ex G d mX5_readSum 91 [(0, .ref a0), (1, .int x1), (2, .int x2), (3, .int x3), (4, .int x4), (5, .int sx0)] [] h Q) ∧ (¬ sx0 = 0 → ((x2 = (-1) → Ex G d mX5_readSum 91 [(0, .ref a0), (1, .int x1), (2, .int x4), (3, .int x3), (4, .int x4), (5, .int sx0)] [] h Q) ∧ (¬ x2 = (-1) → Kd G h a0 5 ∧ Cal G (d - 1) mX5_put [.ref a0, .int x2] h (fun r3 h4 => r3 = none ∧ Ex G d mX5_readSum 91 [(0, .ref a0), (1, .int x1), (2, .int x4), (3, .int x3), (4, .int x4), (5, .int sx0)] [] h4 Q)))))
set_option maxRecDepth 20000 in
theorem t_X5_readSum_71 {G : GG} {d : Nat} {h : HP} {Q : Option Value → HP → Prop} {a0 : Nat} {x1 : Int32} {x2 : Int32} {x3 : Int32} {x4 : Int32} {sx0 : Int32} (hd1 : 1 ≤ d) (ht : T_X5_readSum_71 G d h Q a0 x1 x2 x3 x4 sx0) : Ex G d mX5_readSum 71 [(0, .ref a0), (1, .int x1), (2, .int x2), (3, .int x3), (4, .int x4)] [.int sx0] h Q := by
  unfold T_X5_readSum_71 at ht
  refine x_istore (pc2 := 73) [1, 2, 3, 4, 5, 0] (n := 5) (x := sx0) (lv2 := [(0, .ref a0), (1, .int x1), (2, .int x2), (3, .int x3), (4, .int x4), (5, .int sx0)]) (by decide) rfl dX5_readSum_71 rfl ?_
  refine x_iload (pc2 := 75) 5 (n := 5) (x := sx0) rfl dX5_readSum_73 rfl ?_
  refine x_if_eq (pc2 := 78) 91 dX5_readSum_75 (by decide) rfl (fun c1 => ?_) (fun c1 => ?_)
  · replace ht := ht.1 c1
    exact ht
  · replace ht := ht.2 c1
    refine x_iload_n (pc2 := 79) 2 (n := 2) (x := x2) rfl dX5_readSum_78 rfl ?_
    refine x_iconst (pc2 := 80) (v := (-1)) (by decide) dX5_readSum_79 rfl ?_
    refine x_icmp_eq (pc2 := 83) 88 dX5_readSum_80 (by decide) rfl (fun c2 => ?_) (fun c2 => ?_)
    · replace ht := ht.1 c2
      refine x_iload (pc2 := 90) 4 (n := 4) (x := x4) rfl dX5_readSum_88 rfl ?_
      refine x_istore_n (pc2 := 91) [1, 2, 0, 3, 4, 5] (n := 2) (x := x4) (lv2 := [(0, .ref a0), (1, .int x1), (2, .int x4), (3, .int x3), (4, .int x4), (5, .int sx0)]) (by decide) rfl dX5_readSum_90 rfl ?_
      exact ht
    · replace ht := ht.2 c2
      refine x_aload_n (pc2 := 84) 0 (n := 0) (x := a0) rfl dX5_readSum_83 rfl ?_
      refine x_iload_n (pc2 := 85) 2 (n := 2) (x := x2) rfl dX5_readSum_84 rfl ?_
      obtain ⟨k6, ht⟩ := ht
      refine x_callV (pc2 := 88) (As := [.int x2]) (rest := []) (b := a0) mv_X5_put ml_X5_88 k6 rfl rfl (Nat.le_of_ble_eq_true rfl) hd1 dX5_readSum_85 rfl (ht.mono (fun r3 h4 p5 ht' => ?_))
      clear ht
      obtain ⟨rfl, ht⟩ := ht'
      show Ex G d mX5_readSum 88 [(0, .ref a0), (1, .int x1), (2, .int x2), (3, .int x3), (4, .int x4), (5, .int sx0)] [] h4 Q
      refine x_iload (pc2 := 90) 4 (n := 4) (x := x4) rfl dX5_readSum_88 rfl ?_
      refine x_istore_n (pc2 := 91) [1, 2, 0, 3, 4, 5] (n := 2) (x := x4) (lv2 := [(0, .ref a0), (1, .int x1), (2, .int x4), (3, .int x3), (4, .int x4), (5, .int sx0)]) (by decide) rfl dX5_readSum_90 rfl ?_
      exact ht
def T_X5_readSum_91 (G : GG) (d : Nat) (h : HP) (Q : Option Value → HP → Prop) (a0 : Nat) (x1 : Int32) (x2 : Int32) (x3 : Int32) (x4 : Int32) (x5 : Int32) : Prop :=
  Kd G h a0 5 ∧ ∃ q2, hR h a0 4 = some q2 ∧ Kd G h q2 8 ∧ Cal G (d - 1) mX8_next [.ref q2] h (fun r4 h5 => r4 = none ∧ Cal G (d - 1) mX5_readValue [.ref a0] h5 (fun r8 h9 => ∃ v11, r8 = some (.int v11) ∧ ((¬ x5 = 0 → Ex G d mX5_readSum 9 [(0, .ref a0), (1, .int v11), (2, .int x2), (3, .int (x3 + 1))] [] h9 Q) ∧ (x5 = 0 → Cal G (d - 1) mX5_put [.ref a0, .int x4] h9 (fun r13 h14 => r13 = none ∧ Ex G d mX5_readSum 9 [(0, .ref a0), (1, .int v11), (2, .int x2), (3, .int (x3 + 1))] [] h14 Q)))))
set_option maxRecDepth 20000 in
theorem t_X5_readSum_91 {G : GG} {d : Nat} {h : HP} {Q : Option Value → HP → Prop} {a0 : Nat} {x1 : Int32} {x2 : Int32} {x3 : Int32} {x4 : Int32} {x5 : Int32} (hd1 : 1 ≤ d) (ht : T_X5_readSum_91 G d h Q a0 x1 x2 x3 x4 x5) : Ex G d mX5_readSum 91 [(0, .ref a0), (1, .int x1), (2, .int x2), (3, .int x3), (4, .int x4), (5, .int x5)] [] h Q := by
  unfold T_X5_readSum_91 at ht
  refine x_aload_n (pc2 := 92) 0 (n := 0) (x := a0) rfl dX5_readSum_91 rfl ?_
  obtain ⟨k1, ht⟩ := ht
  obtain ⟨q2, e3, ht⟩ := ht
  refine y_getR (pc2 := 95) (κ := 5) (k := 4) fl_X5_26 (by decide) (by decide) k1 rfl e3 dX5_readSum_92 rfl ?_
  obtain ⟨k7, ht⟩ := ht
  refine x_callV (pc2 := 98) (As := []) (rest := []) (b := q2) mv_X8_next ml_X5_78 k7 rfl rfl (Nat.le_of_ble_eq_true rfl) hd1 dX5_readSum_95 rfl (ht.mono (fun r4 h5 p6 ht' => ?_))
  clear ht
  obtain ⟨rfl, ht⟩ := ht'
  show Ex G d mX5_readSum 98 [(0, .ref a0), (1, .int x1), (2, .int x2), (3, .int x3), (4, .int x4), (5, .int x5)] [] h5 Q
  refine x_aload_n (pc2 := 99) 0 (n := 0) (x := a0) rfl dX5_readSum_98 rfl ?_
  refine x_callV (pc2 := 102) (As := []) (rest := []) (b := a0) mv_X5_readValue ml_X5_111 (k1.up p6) rfl rfl (Nat.le_of_ble_eq_true rfl) hd1 dX5_readSum_99 rfl (ht.mono (fun r8 h9 p10 ht' => ?_))
  clear ht
  obtain ⟨v11, rfl, ht⟩ := ht'
  show Ex G d mX5_readSum 102 [(0, .ref a0), (1, .int x1), (2, .int x2), (3, .int x3), (4, .int x4), (5, .int x5)] [.int v11] h9 Q
  refine x_istore_n (pc2 := 103) [1, 0, 2, 3, 4, 5] (n := 1) (x := v11) (lv2 := [(0, .ref a0), (1, .int v11), (2, .int x2), (3, .int x3), (4, .int x4), (5, .int x5)]) (by decide) rfl dX5_readSum_102 rfl ?_
  refine x_iload (pc2 := 105) 5 (n := 5) (x := x5) rfl dX5_readSum_103 rfl ?_
  refine y_if_ne (pc2 := 108) 114 dX5_readSum_105 (by decide) rfl (fun c12 => ?_) (fun c12 => ?_)
  · replace ht := ht.1 c12
    refine x_iinc (pc2 := 117) 3 [1, 2, 3, 0, 4, 5] (i := 3) (x := x3) (v := (x3 + 1)) (lv2 := [(0, .ref a0), (1, .int v11), (2, .int x2), (3, .int (x3 + 1)), (4, .int x4), (5, .int x5)]) rfl (iinc_eq (by decide) _) (by decide) rfl dX5_readSum_114 rfl ?_
    refine x_goto 9 dX5_readSum_117 (by decide) ?_
    refine x_sub [0, 1, 2, 3] (lv2 := [(0, .ref a0), (1, .int v11), (2, .int x2), (3, .int (x3 + 1))]) rfl ?_
    exact ht
  · replace ht := ht.2 c12
    refine x_aload_n (pc2 := 109) 0 (n := 0) (x := a0) rfl dX5_readSum_108 rfl ?_
    refine x_iload (pc2 := 111) 4 (n := 4) (x := x4) rfl dX5_readSum_109 rfl ?_
    refine x_callV (pc2 := 114) (As := [.int x4]) (rest := []) (b := a0) mv_X5_put ml_X5_88 ((k1.up p6).up p10) rfl rfl (Nat.le_of_ble_eq_true rfl) hd1 dX5_readSum_111 rfl (ht.mono (fun r13 h14 p15 ht' => ?_))
    clear ht
    obtain ⟨rfl, ht⟩ := ht'
    show Ex G d mX5_readSum 114 [(0, .ref a0), (1, .int v11), (2, .int x2), (3, .int x3), (4, .int x4), (5, .int x5)] [] h14 Q
    refine x_iinc (pc2 := 117) 3 [1, 2, 3, 0, 4, 5] (i := 3) (x := x3) (v := (x3 + 1)) (lv2 := [(0, .ref a0), (1, .int v11), (2, .int x2), (3, .int (x3 + 1)), (4, .int x4), (5, .int x5)]) rfl (iinc_eq (by decide) _) (by decide) rfl dX5_readSum_114 rfl ?_
    refine x_goto 9 dX5_readSum_117 (by decide) ?_
    refine x_sub [0, 1, 2, 3] (lv2 := [(0, .ref a0), (1, .int v11), (2, .int x2), (3, .int (x3 + 1))]) rfl ?_
    exact ht
def T_X5_readValue (G : GG) (d : Nat) (h : HP) (Q : Option Value → HP → Prop) (a0 : Nat) : Prop :=
  Kd G h a0 5 ∧ ∃ q2, hR h a0 4 = some q2 ∧ Kd G h q2 8 ∧ ((¬ (hI h q2 2) = 2 → Ex G d mX5_readValue 16 [(0, .ref a0)] [.int 0] h Q) ∧ ((hI h q2 2) = 2 → Ex G d mX5_readValue 16 [(0, .ref a0)] [.int 1] h Q))
set_option maxRecDepth 20000 in
theorem t_X5_readValue {G : GG} {d : Nat} {h : HP} {Q : Option Value → HP → Prop} {a0 : Nat} (ht : T_X5_readValue G d h Q a0) : Ex G d mX5_readValue 0 [(0, .ref a0)] [] h Q := by
  unfold T_X5_readValue at ht
  refine x_aload_n (pc2 := 1) 0 (n := 0) (x := a0) rfl dX5_readValue_0 rfl ?_
  obtain ⟨k1, ht⟩ := ht
  obtain ⟨q2, e3, ht⟩ := ht
  refine y_getR (pc2 := 4) (κ := 5) (k := 4) fl_X5_26 (by decide) (by decide) k1 rfl e3 dX5_readValue_1 rfl ?_
  obtain ⟨k4, ht⟩ := ht
  refine y_getI (pc2 := 7) (κ := 8) (k := 2) fl_X5_68 (by decide) (by decide) k4 rfl dX5_readValue_4 rfl ?_
  refine x_iconst (pc2 := 8) (v := 2) (by decide) dX5_readValue_7 rfl ?_
  refine y_icmp_ne (pc2 := 11) 15 dX5_readValue_8 (by decide) rfl (fun c5 => ?_) (fun c5 => ?_)
  · replace ht := ht.1 c5
    refine x_iconst (pc2 := 16) (v := 0) (by decide) dX5_readValue_15 rfl ?_
    exact ht
  · replace ht := ht.2 c5
    refine x_iconst (pc2 := 12) (v := 1) (by decide) dX5_readValue_11 rfl ?_
    refine x_goto 16 dX5_readValue_12 (by decide) ?_
    exact ht
theorem e_X5_readValue {G : GG} {d : Nat} {h : HP} {Q : Option Value → HP → Prop} {a0 : Nat} (ht : T_X5_readValue G d h Q a0) : Cal G d mX5_readValue [.ref a0] h Q := cal_of rfl (Nat.le_of_ble_eq_true rfl) (t_X5_readValue ht)
def T_X5_readValue_16 (G : GG) (d : Nat) (h : HP) (Q : Option Value → HP → Prop) (a0 : Nat) (sx0 : Int32) : Prop :=
  Kd G h a0 5 ∧ ∃ q2, hR h a0 4 = some q2 ∧ Kd G h q2 8 ∧ ((¬ (hI h q2 2) = 1 → Ex G d mX5_readValue 55 [(0, .ref a0), (1, .int sx0)] [.int 0] h Q) ∧ ((hI h q2 2) = 1 → (((hI h q2 4) < 0 → Ex G d mX5_readValue 55 [(0, .ref a0), (1, .int sx0)] [.int 0] h Q) ∧ (¬ (hI h q2 4) < 0 → ((12 ≤ (hI h q2 4) → Ex G d mX5_readValue 55 [(0, .ref a0), (1, .int sx0)] [.int 0] h Q) ∧ (¬ 12 ≤ (hI h q2 4) → Ex G d mX5_readValue 55 [(0, .ref a0), (1, .int sx0)] [.int 1] h Q))))))
set_option maxRecDepth 20000 in
theorem t_X5_readValue_16 {G : GG} {d : Nat} {h : HP} {Q : Option Value → HP → Prop} {a0 : Nat} {sx0 : Int32} (ht : T_X5_readValue_16 G d h Q a0 sx0) : Ex G d mX5_readValue 16 [(0, .ref a0)] [.int sx0] h Q := by
  unfold T_X5_readValue_16 at ht
  refine x_istore_n (pc2 := 17) [1, 0] (n := 1) (x := sx0) (lv2 := [(0, .ref a0), (1, .int sx0)]) (by decide) rfl dX5_readValue_16 rfl ?_
  refine x_aload_n (pc2 := 18) 0 (n := 0) (x := a0) rfl dX5_readValue_17 rfl ?_
  obtain ⟨k1, ht⟩ := ht
  obtain ⟨q2, e3, ht⟩ := ht
  refine y_getR (pc2 := 21) (κ := 5) (k := 4) fl_X5_26 (by decide) (by decide) k1 rfl e3 dX5_readValue_18 rfl ?_
  obtain ⟨k4, ht⟩ := ht
  refine y_getI (pc2 := 24) (κ := 8) (k := 2) fl_X5_68 (by decide) (by decide) k4 rfl dX5_readValue_21 rfl ?_
  refine x_iconst (pc2 := 25) (v := 1) (by decide) dX5_readValue_24 rfl ?_
  refine y_icmp_ne (pc2 := 28) 54 dX5_readValue_25 (by decide) rfl (fun c5 => ?_) (fun c5 => ?_)
  · replace ht := ht.1 c5
    refine x_iconst (pc2 := 55) (v := 0) (by decide) dX5_readValue_54 rfl ?_
    exact ht
  · replace ht := ht.2 c5
    refine x_aload_n (pc2 := 29) 0 (n := 0) (x := a0) rfl dX5_readValue_28 rfl ?_
    refine y_getR (pc2 := 32) (κ := 5) (k := 4) fl_X5_26 (by decide) (by decide) k1 rfl e3 dX5_readValue_29 rfl ?_
    refine y_getI (pc2 := 35) (κ := 8) (k := 4) fl_X5_71 (by decide) (by decide) k4 rfl dX5_readValue_32 rfl ?_
    refine x_if_lt (pc2 := 38) 54 dX5_readValue_35 (by decide) rfl (fun c6 => ?_) (fun c6 => ?_)
    · replace ht := ht.1 c6
      refine x_iconst (pc2 := 55) (v := 0) (by decide) dX5_readValue_54 rfl ?_
      exact ht
    · replace ht := ht.2 c6
      refine x_aload_n (pc2 := 39) 0 (n := 0) (x := a0) rfl dX5_readValue_38 rfl ?_
      refine y_getR (pc2 := 42) (κ := 5) (k := 4) fl_X5_26 (by decide) (by decide) k1 rfl e3 dX5_readValue_39 rfl ?_
      refine y_getI (pc2 := 45) (κ := 8) (k := 4) fl_X5_71 (by decide) (by decide) k4 rfl dX5_readValue_42 rfl ?_
      refine x_bipush (pc2 := 47) (v := 12) (by decide) dX5_readValue_45 rfl ?_
      refine x_icmp_ge (pc2 := 50) 54 dX5_readValue_47 (by decide) rfl (fun c7 => ?_) (fun c7 => ?_)
      · replace ht := ht.1 c7
        refine x_iconst (pc2 := 55) (v := 0) (by decide) dX5_readValue_54 rfl ?_
        exact ht
      · replace ht := ht.2 c7
        refine x_iconst (pc2 := 51) (v := 1) (by decide) dX5_readValue_50 rfl ?_
        refine x_goto 55 dX5_readValue_51 (by decide) ?_
        exact ht
def T_X5_readValue_55 (G : GG) (d : Nat) (h : HP) (Q : Option Value → HP → Prop) (a0 : Nat) (x1 : Int32) (sx0 : Int32) : Prop :=
  ((¬ x1 = 0 → Ex G d mX5_readValue 73 [(0, .ref a0), (1, .int x1), (2, .int sx0)] [] h Q) ∧ (x1 = 0 → ((¬ sx0 = 0 → Ex G d mX5_readValue 73 [(0, .ref a0), (1, .int x1), (2, .int sx0)] [] h Q) ∧ (sx0 = 0 → Kd G h a0 5 ∧ ∃ q4, hR h a0 4 = some q4 ∧ Kd G h q4 8 ∧ Cal G (d - 1) mX8_fail [.ref q4, .int 0] h (fun r6 h7 => ∃ v10, r6 = some (.int v10) ∧ ((v10 = 0 ∨ v10 = 1) ∧ Q (some (.int v10)) h7))))))
set_option maxRecDepth 20000 in
theorem t_X5_readValue_55 {G : GG} {d : Nat} {h : HP} {Q : Option Value → HP → Prop} {a0 : Nat} {x1 : Int32} {sx0 : Int32} (hd1 : 1 ≤ d) (ht : T_X5_readValue_55 G d h Q a0 x1 sx0) : Ex G d mX5_readValue 55 [(0, .ref a0), (1, .int x1)] [.int sx0] h Q := by
  unfold T_X5_readValue_55 at ht
  refine x_istore_n (pc2 := 56) [1, 2, 0] (n := 2) (x := sx0) (lv2 := [(0, .ref a0), (1, .int x1), (2, .int sx0)]) (by decide) rfl dX5_readValue_55 rfl ?_
  refine x_iload_n (pc2 := 57) 1 (n := 1) (x := x1) rfl dX5_readValue_56 rfl ?_
  refine y_if_ne (pc2 := 60) 73 dX5_readValue_57 (by decide) rfl (fun c1 => ?_) (fun c1 => ?_)
  · replace ht := ht.1 c1
    exact ht
  · replace ht := ht.2 c1
    refine x_iload_n (pc2 := 61) 2 (n := 2) (x := sx0) rfl dX5_readValue_60 rfl ?_
    refine y_if_ne (pc2 := 64) 73 dX5_readValue_61 (by decide) rfl (fun c2 => ?_) (fun c2 => ?_)
    · replace ht := ht.1 c2
      exact ht
    · replace ht := ht.2 c2
      refine x_aload_n (pc2 := 65) 0 (n := 0) (x := a0) rfl dX5_readValue_64 rfl ?_
      obtain ⟨k3, ht⟩ := ht
      obtain ⟨q4, e5, ht⟩ := ht
      refine y_getR (pc2 := 68) (κ := 5) (k := 4) fl_X5_26 (by decide) (by decide) k3 rfl e5 dX5_readValue_65 rfl ?_
      refine x_iconst (pc2 := 69) (v := 0) (by decide) dX5_readValue_68 rfl ?_
      obtain ⟨k9, ht⟩ := ht
      refine x_callV (pc2 := 72) (As := [.int 0]) (rest := []) (b := q4) mv_X8_fail ml_X5_74 k9 rfl rfl (Nat.le_of_ble_eq_true rfl) hd1 dX5_readValue_69 rfl (ht.mono (fun r6 h7 p8 ht' => ?_))
      clear ht
      obtain ⟨v10, rfl, ht⟩ := ht'
      show Ex G d mX5_readValue 72 [(0, .ref a0), (1, .int x1), (2, .int sx0)] [.int v10] h7 Q
      exact x_retZ rfl ht.1 dX5_readValue_72 ht.2
def T_X5_readValue_73 (G : GG) (d : Nat) (h : HP) (Q : Option Value → HP → Prop) (a0 : Nat) (x1 : Int32) (x2 : Int32) : Prop :=
  ((x1 = 0 → Ex G d mX5_readValue 97 [(0, .ref a0), (1, .int x1), (2, .int x2)] [] h Q) ∧ (¬ x1 = 0 → Kd G h a0 5 ∧ ∃ q3, hR h a0 4 = some q3 ∧ Kd G h q3 8 ∧ ((¬ (hI h q3 4) = (-1) → Ex G d mX5_readValue 97 [(0, .ref a0), (1, .int x1), (2, .int x2)] [] h Q) ∧ ((hI h q3 4) = (-1) → Cal G (d - 1) mX8_fail [.ref q3, .int 1] h (fun r7 h8 => ∃ v10, r7 = some (.int v10) ∧ ((v10 = 0 ∨ v10 = 1) ∧ Q (some (.int v10)) h8))))))
set_option maxRecDepth 20000 in
theorem t_X5_readValue_73 {G : GG} {d : Nat} {h : HP} {Q : Option Value → HP → Prop} {a0 : Nat} {x1 : Int32} {x2 : Int32} (hd1 : 1 ≤ d) (ht : T_X5_readValue_73 G d h Q a0 x1 x2) : Ex G d mX5_readValue 73 [(0, .ref a0), (1, .int x1), (2, .int x2)] [] h Q := by
  unfold T_X5_readValue_73 at ht
  refine x_iload_n (pc2 := 74) 1 (n := 1) (x := x1) rfl dX5_readValue_73 rfl ?_
  refine x_if_eq (pc2 := 77) 97 dX5_readValue_74 (by decide) rfl (fun c1 => ?_) (fun c1 => ?_)
  · replace ht := ht.1 c1
    exact ht
  · replace ht := ht.2 c1
    refine x_aload_n (pc2 := 78) 0 (n := 0) (x := a0) rfl dX5_readValue_77 rfl ?_
    obtain ⟨k2, ht⟩ := ht
    obtain ⟨q3, e4, ht⟩ := ht
    refine y_getR (pc2 := 81) (κ := 5) (k := 4) fl_X5_26 (by decide) (by decide) k2 rfl e4 dX5_readValue_78 rfl ?_
    obtain ⟨k5, ht⟩ := ht
    refine y_getI (pc2 := 84) (κ := 8) (k := 4) fl_X5_71 (by decide) (by decide) k5 rfl dX5_readValue_81 rfl ?_
    refine x_iconst (pc2 := 85) (v := (-1)) (by decide) dX5_readValue_84 rfl ?_
    refine y_icmp_ne (pc2 := 88) 97 dX5_readValue_85 (by decide) rfl (fun c6 => ?_) (fun c6 => ?_)
    · replace ht := ht.1 c6
      exact ht
    · replace ht := ht.2 c6
      refine x_aload_n (pc2 := 89) 0 (n := 0) (x := a0) rfl dX5_readValue_88 rfl ?_
      refine y_getR (pc2 := 92) (κ := 5) (k := 4) fl_X5_26 (by decide) (by decide) k2 rfl e4 dX5_readValue_89 rfl ?_
      refine x_iconst (pc2 := 93) (v := 1) (by decide) dX5_readValue_92 rfl ?_
      refine x_callV (pc2 := 96) (As := [.int 1]) (rest := []) (b := q3) mv_X8_fail ml_X5_74 k5 rfl rfl (Nat.le_of_ble_eq_true rfl) hd1 dX5_readValue_93 rfl (ht.mono (fun r7 h8 p9 ht' => ?_))
      clear ht
      obtain ⟨v10, rfl, ht⟩ := ht'
      show Ex G d mX5_readValue 96 [(0, .ref a0), (1, .int x1), (2, .int x2)] [.int v10] h8 Q
      exact x_retZ rfl ht.1 dX5_readValue_96 ht.2
def T_X5_readValue_97 (G : GG) (d : Nat) (h : HP) (Q : Option Value → HP → Prop) (a0 : Nat) (x1 : Int32) (x2 : Int32) : Prop :=
  Kd G h a0 5 ∧ (((hI h a0 7) < 60 → ((x1 = 0 → ∃ q4, hR (sI h a0 7 ((hI h a0 7) + 1)) a0 4 = some q4 ∧ Kd G (sI h a0 7 ((hI h a0 7) + 1)) q4 8 ∧ Cal G (d - 1) mX5_put [.ref a0, .int ((-20) - (hI (sI h a0 7 ((hI h a0 7) + 1)) q4 4))] (sI h a0 7 ((hI h a0 7) + 1)) (fun r7 h8 => r7 = none ∧ ∃ q10, hR h8 a0 4 = some q10 ∧ Kd G h8 q10 8 ∧ Cal G (d - 1) mX8_next [.ref q10] h8 (fun r12 h13 => r12 = none ∧ Q (some (.int 1)) h13))) ∧ (¬ x1 = 0 → ∃ q16, hR (sI h a0 7 ((hI h a0 7) + 1)) a0 4 = some q16 ∧ Kd G (sI h a0 7 ((hI h a0 7) + 1)) q16 8 ∧ Cal G (d - 1) mX5_put [.ref a0, .int (hI (sI h a0 7 ((hI h a0 7) + 1)) q16 4)] (sI h a0 7 ((hI h a0 7) + 1)) (fun r19 h20 => r19 = none ∧ ∃ q22, hR h20 a0 4 = some q22 ∧ Kd G h20 q22 8 ∧ Cal G (d - 1) mX8_next [.ref q22] h20 (fun r24 h25 => r24 = none ∧ Q (some (.int 1)) h25))))) ∧ (¬ (hI h a0 7) < 60 → ∃ q28, hR h a0 4 = some q28 ∧ Kd G h q28 8 ∧ Cal G (d - 1) mX8_fail [.ref q28, .int 3] h (fun r30 h31 => ∃ v34, r30 = some (.int v34) ∧ ((v34 = 0 ∨ v34 = 1) ∧ Q (some (.int v34)) h31))))
set_option maxRecDepth 20000 in
theorem t_X5_readValue_97 {G : GG} {d : Nat} {h : HP} {Q : Option Value → HP → Prop} {a0 : Nat} {x1 : Int32} {x2 : Int32} (hd1 : 1 ≤ d) (ht : T_X5_readValue_97 G d h Q a0 x1 x2) : Ex G d mX5_readValue 97 [(0, .ref a0), (1, .int x1), (2, .int x2)] [] h Q := by
  unfold T_X5_readValue_97 at ht
  refine x_aload_n (pc2 := 98) 0 (n := 0) (x := a0) rfl dX5_readValue_97 rfl ?_
  obtain ⟨k1, ht⟩ := ht
  refine y_getI (pc2 := 101) (κ := 5) (k := 7) fl_X5_37 (by decide) (by decide) k1 rfl dX5_readValue_98 rfl ?_
  refine x_bipush (pc2 := 103) (v := 60) (by decide) dX5_readValue_101 rfl ?_
  refine x_icmp_lt (pc2 := 106) 115 dX5_readValue_103 (by decide) rfl (fun c2 => ?_) (fun c2 => ?_)
  · replace ht := ht.1 c2
    refine x_aload_n (pc2 := 116) 0 (n := 0) (x := a0) rfl dX5_readValue_115 rfl ?_
    refine x_dup (pc2 := 117) rfl dX5_readValue_116 rfl ?_
    refine y_getI (pc2 := 120) (κ := 5) (k := 7) fl_X5_37 (by decide) (by decide) k1 rfl dX5_readValue_117 rfl ?_
    refine x_iconst (pc2 := 121) (v := 1) (by decide) dX5_readValue_120 rfl ?_
    refine x_iadd (pc2 := 122) dX5_readValue_121 rfl ?_
    refine x_putI (pc2 := 125) (κ := 5) (k := 7) fl_X5_37 (by decide) (by decide) (Or.inl rfl) rfl k1 dX5_readValue_122 rfl ?_
    refine x_aload_n (pc2 := 126) 0 (n := 0) (x := a0) rfl dX5_readValue_125 rfl ?_
    refine x_iload_n (pc2 := 127) 1 (n := 1) (x := x1) rfl dX5_readValue_126 rfl ?_
    refine x_if_eq (pc2 := 130) 140 dX5_readValue_127 (by decide) rfl (fun c3 => ?_) (fun c3 => ?_)
    · replace ht := ht.1 c3
      refine x_bipush (pc2 := 142) (v := (-20)) (by decide) dX5_readValue_140 rfl ?_
      refine x_aload_n (pc2 := 143) 0 (n := 0) (x := a0) rfl dX5_readValue_142 rfl ?_
      obtain ⟨q4, e5, ht⟩ := ht
      refine y_getR (pc2 := 146) (κ := 5) (k := 4) fl_X5_26 (by decide) (by decide) k1.sI rfl e5 dX5_readValue_143 rfl ?_
      obtain ⟨k6, ht⟩ := ht
      refine y_getI (pc2 := 149) (κ := 8) (k := 4) fl_X5_71 (by decide) (by decide) k6 rfl dX5_readValue_146 rfl ?_
      refine x_isub (pc2 := 150) dX5_readValue_149 rfl ?_
      refine x_callV (pc2 := 153) (As := [.int ((-20) - (hI (sI h a0 7 ((hI h a0 7) + 1)) q4 4))]) (rest := []) (b := a0) mv_X5_put ml_X5_88 k1.sI rfl rfl (Nat.le_of_ble_eq_true rfl) hd1 dX5_readValue_150 rfl (ht.mono (fun r7 h8 p9 ht' => ?_))
      clear ht
      obtain ⟨rfl, ht⟩ := ht'
      show Ex G d mX5_readValue 153 [(0, .ref a0), (1, .int x1), (2, .int x2)] [] h8 Q
      refine x_aload_n (pc2 := 154) 0 (n := 0) (x := a0) rfl dX5_readValue_153 rfl ?_
      obtain ⟨q10, e11, ht⟩ := ht
      refine y_getR (pc2 := 157) (κ := 5) (k := 4) fl_X5_26 (by decide) (by decide) (k1.sI.up p9) rfl e11 dX5_readValue_154 rfl ?_
      obtain ⟨k15, ht⟩ := ht
      refine x_callV (pc2 := 160) (As := []) (rest := []) (b := q10) mv_X8_next ml_X5_78 k15 rfl rfl (Nat.le_of_ble_eq_true rfl) hd1 dX5_readValue_157 rfl (ht.mono (fun r12 h13 p14 ht' => ?_))
      clear ht
      obtain ⟨rfl, ht⟩ := ht'
      show Ex G d mX5_readValue 160 [(0, .ref a0), (1, .int x1), (2, .int x2)] [] h13 Q
      refine x_iconst (pc2 := 161) (v := 1) (by decide) dX5_readValue_160 rfl ?_
      exact x_retZ rfl (Or.inr rfl) dX5_readValue_161 ht
    · replace ht := ht.2 c3
      refine x_aload_n (pc2 := 131) 0 (n := 0) (x := a0) rfl dX5_readValue_130 rfl ?_
      obtain ⟨q16, e17, ht⟩ := ht
      refine y_getR (pc2 := 134) (κ := 5) (k := 4) fl_X5_26 (by decide) (by decide) k1.sI rfl e17 dX5_readValue_131 rfl ?_
      obtain ⟨k18, ht⟩ := ht
      refine y_getI (pc2 := 137) (κ := 8) (k := 4) fl_X5_71 (by decide) (by decide) k18 rfl dX5_readValue_134 rfl ?_
      refine x_goto 150 dX5_readValue_137 (by decide) ?_
      refine x_callV (pc2 := 153) (As := [.int (hI (sI h a0 7 ((hI h a0 7) + 1)) q16 4)]) (rest := []) (b := a0) mv_X5_put ml_X5_88 k1.sI rfl rfl (Nat.le_of_ble_eq_true rfl) hd1 dX5_readValue_150 rfl (ht.mono (fun r19 h20 p21 ht' => ?_))
      clear ht
      obtain ⟨rfl, ht⟩ := ht'
      show Ex G d mX5_readValue 153 [(0, .ref a0), (1, .int x1), (2, .int x2)] [] h20 Q
      refine x_aload_n (pc2 := 154) 0 (n := 0) (x := a0) rfl dX5_readValue_153 rfl ?_
      obtain ⟨q22, e23, ht⟩ := ht
      refine y_getR (pc2 := 157) (κ := 5) (k := 4) fl_X5_26 (by decide) (by decide) (k1.sI.up p21) rfl e23 dX5_readValue_154 rfl ?_
      obtain ⟨k27, ht⟩ := ht
      refine x_callV (pc2 := 160) (As := []) (rest := []) (b := q22) mv_X8_next ml_X5_78 k27 rfl rfl (Nat.le_of_ble_eq_true rfl) hd1 dX5_readValue_157 rfl (ht.mono (fun r24 h25 p26 ht' => ?_))
      clear ht
      obtain ⟨rfl, ht⟩ := ht'
      show Ex G d mX5_readValue 160 [(0, .ref a0), (1, .int x1), (2, .int x2)] [] h25 Q
      refine x_iconst (pc2 := 161) (v := 1) (by decide) dX5_readValue_160 rfl ?_
      exact x_retZ rfl (Or.inr rfl) dX5_readValue_161 ht
  · replace ht := ht.2 c2
    refine x_aload_n (pc2 := 107) 0 (n := 0) (x := a0) rfl dX5_readValue_106 rfl ?_
    obtain ⟨q28, e29, ht⟩ := ht
    refine y_getR (pc2 := 110) (κ := 5) (k := 4) fl_X5_26 (by decide) (by decide) k1 rfl e29 dX5_readValue_107 rfl ?_
    refine x_iconst (pc2 := 111) (v := 3) (by decide) dX5_readValue_110 rfl ?_
    obtain ⟨k33, ht⟩ := ht
    refine x_callV (pc2 := 114) (As := [.int 3]) (rest := []) (b := q28) mv_X8_fail ml_X5_74 k33 rfl rfl (Nat.le_of_ble_eq_true rfl) hd1 dX5_readValue_111 rfl (ht.mono (fun r30 h31 p32 ht' => ?_))
    clear ht
    obtain ⟨v34, rfl, ht⟩ := ht'
    show Ex G d mX5_readValue 114 [(0, .ref a0), (1, .int x1), (2, .int x2)] [.int v34] h31 Q
    exact x_retZ rfl ht.1 dX5_readValue_114 ht.2
def T_X5_put (G : GG) (d : Nat) (h : HP) (Q : Option Value → HP → Prop) (a0 : Nat) (x1 : Int32) : Prop :=
  Kd G h a0 5 ∧ ∃ q2, hR h a0 0 = some q2 ∧ Kd G h q2 14 ∧ (((Int32.ofNat (hN h q2)) ≤ (hI h a0 5) → Q none h) ∧ (¬ (Int32.ofNat (hN h q2)) ≤ (hI h a0 5) → vp_in (hI h a0 5) (hN h q2) ∧ ∀ h7, h7 = (sI (sI h q2 (hI h a0 5).toNatClampNeg x1) a0 5 ((hI (sI h q2 (hI h a0 5).toNatClampNeg x1) a0 5) + 1)) → Q none h7))
set_option maxRecDepth 20000 in
theorem t_X5_put {G : GG} {d : Nat} {h : HP} {Q : Option Value → HP → Prop} {a0 : Nat} {x1 : Int32} (ht : T_X5_put G d h Q a0 x1) : Ex G d mX5_put 0 [(0, .ref a0), (1, .int x1)] [] h Q := by
  unfold T_X5_put at ht
  refine x_aload_n (pc2 := 1) 0 (n := 0) (x := a0) rfl dX5_put_0 rfl ?_
  obtain ⟨k1, ht⟩ := ht
  refine y_getI (pc2 := 4) (κ := 5) (k := 5) fl_X5_30 (by decide) (by decide) k1 rfl dX5_put_1 rfl ?_
  refine x_aload_n (pc2 := 5) 0 (n := 0) (x := a0) rfl dX5_put_4 rfl ?_
  obtain ⟨q2, e3, ht⟩ := ht
  refine y_getR (pc2 := 8) (κ := 5) (k := 0) fl_X5_13 (by decide) (by decide) k1 rfl e3 dX5_put_5 rfl ?_
  obtain ⟨k4, ht⟩ := ht
  refine x_alen (pc2 := 9) (κ := 14) (by decide) k4 dX5_put_8 rfl ?_
  refine x_icmp_ge (pc2 := 12) 32 dX5_put_9 (by decide) rfl (fun c5 => ?_) (fun c5 => ?_)
  · replace ht := ht.1 c5
    exact x_retV rfl dX5_put_32 ht
  · replace ht := ht.2 c5
    refine x_aload_n (pc2 := 13) 0 (n := 0) (x := a0) rfl dX5_put_12 rfl ?_
    refine y_getR (pc2 := 16) (κ := 5) (k := 0) fl_X5_13 (by decide) (by decide) k1 rfl e3 dX5_put_13 rfl ?_
    refine x_aload_n (pc2 := 17) 0 (n := 0) (x := a0) rfl dX5_put_16 rfl ?_
    refine y_getI (pc2 := 20) (κ := 5) (k := 5) fl_X5_30 (by decide) (by decide) k1 rfl dX5_put_17 rfl ?_
    refine x_iload_n (pc2 := 21) 1 (n := 1) (x := x1) rfl dX5_put_20 rfl ?_
    obtain ⟨b6, ht⟩ := ht
    refine x_iast (pc2 := 22) k4 b6 dX5_put_21 rfl ?_
    refine x_aload_n (pc2 := 23) 0 (n := 0) (x := a0) rfl dX5_put_22 rfl ?_
    refine x_dup (pc2 := 24) rfl dX5_put_23 rfl ?_
    refine y_getI (pc2 := 27) (κ := 5) (k := 5) fl_X5_30 (by decide) (by decide) k1.sI rfl dX5_put_24 rfl ?_
    refine x_iconst (pc2 := 28) (v := 1) (by decide) dX5_put_27 rfl ?_
    refine x_iadd (pc2 := 29) dX5_put_28 rfl ?_
    refine x_putI (pc2 := 32) (κ := 5) (k := 5) fl_X5_30 (by decide) (by decide) (Or.inl rfl) rfl k1.sI dX5_put_29 rfl ?_
    refine nm_I (fun h7 e8 p9 => ?_)
    replace ht := ht h7 e8
    exact x_retV rfl dX5_put_32 ht
theorem e_X5_put {G : GG} {d : Nat} {h : HP} {Q : Option Value → HP → Prop} {a0 : Nat} {x1 : Int32} (ht : T_X5_put G d h Q a0 x1) : Cal G d mX5_put [.ref a0, .int x1] h Q := cal_of rfl (Nat.le_of_ble_eq_true rfl) (t_X5_put ht)
