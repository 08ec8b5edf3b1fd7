def T_X12_isText (G : GG) (d : Nat) (h : HP) (Q : Option Value → HP → Prop) (a0 : Nat) (x1 : Int32) (x2 : Int32) : Prop :=
  ((x2 < 0 → Q (some (.int 0)) h) ∧ (¬ x2 < 0 → Kd G h a0 12 ∧ ∃ q3, hR h a0 2 = some q3 ∧ Kd G h q3 14 ∧ vp_in x1 (hN h q3) ∧ (((hI h q3 x1.toNatClampNeg) ≤ x2 → Q (some (.int 0)) h) ∧ (¬ (hI h q3 x1.toNatClampNeg) ≤ x2 → Q (some (.int 1)) h))))
set_option maxRecDepth 20000 in
theorem t_X12_isText {G : GG} {d : Nat} {h : HP} {Q : Option Value → HP → Prop} {a0 : Nat} {x1 : Int32} {x2 : Int32} (ht : T_X12_isText G d h Q a0 x1 x2) : Ex G d mX12_isText 0 [(0, .ref a0), (1, .int x1), (2, .int x2)] [] h Q := by
  unfold T_X12_isText at ht
  refine x_iload_n (pc2 := 1) 2 (n := 2) (x := x2) rfl dX12_isText_0 rfl ?_
  refine x_if_lt (pc2 := 4) 18 dX12_isText_1 (by decide) rfl (fun c1 => ?_) (fun c1 => ?_)
  · replace ht := ht.1 c1
    refine x_iconst (pc2 := 19) (v := 0) (by decide) dX12_isText_18 rfl ?_
    exact x_retZ rfl (Or.inl rfl) dX12_isText_19 ht
  · replace ht := ht.2 c1
    refine x_iload_n (pc2 := 5) 2 (n := 2) (x := x2) rfl dX12_isText_4 rfl ?_
    refine x_aload_n (pc2 := 6) 0 (n := 0) (x := a0) rfl dX12_isText_5 rfl ?_
    obtain ⟨k2, ht⟩ := ht
    obtain ⟨q3, e4, ht⟩ := ht
    refine y_getR (pc2 := 9) (κ := 12) (k := 2) fl_X12_13 (by decide) (by decide) k2 rfl e4 dX12_isText_6 rfl ?_
    refine x_iload_n (pc2 := 10) 1 (n := 1) (x := x1) rfl dX12_isText_9 rfl ?_
    obtain ⟨k5, ht⟩ := ht
    obtain ⟨b6, ht⟩ := ht
    refine x_iald (pc2 := 11) k5 b6 dX12_isText_10 rfl ?_
    refine x_icmp_ge (pc2 := 14) 18 dX12_isText_11 (by decide) rfl (fun c7 => ?_) (fun c7 => ?_)
    · replace ht := ht.1 c7
      refine x_iconst (pc2 := 19) (v := 0) (by decide) dX12_isText_18 rfl ?_
      exact x_retZ rfl (Or.inl rfl) dX12_isText_19 ht
    · replace ht := ht.2 c7
      refine x_iconst (pc2 := 15) (v := 1) (by decide) dX12_isText_14 rfl ?_
      refine x_goto 19 dX12_isText_15 (by decide) ?_
      exact x_retZ rfl (Or.inr rfl) dX12_isText_19 ht
theorem e_X12_isText {G : GG} {d : Nat} {h : HP} {Q : Option Value → HP → Prop} {a0 : Nat} {x1 : Int32} {x2 : Int32} (ht : T_X12_isText G d h Q a0 x1 x2) : Cal G d mX12_isText [.ref a0, .int x1, .int x2] h Q := cal_of rfl (Nat.le_of_ble_eq_true rfl) (t_X12_isText ht)
def T_X12_push (G : GG) (d : Nat) (h : HP) (Q : Option Value → HP → Prop) (a0 : Nat) (y1 : Int64) : Prop :=
  Kd G h a0 12 ∧ ∃ q2, hR h a0 26 = some q2 ∧ Kd G h q2 15 ∧ vp_in (hI h a0 27) (hN h q2) ∧ ∀ h6, h6 = (sI (sL h q2 (hI h a0 27).toNatClampNeg y1) a0 27 ((hI (sL h q2 (hI h a0 27).toNatClampNeg y1) a0 27) + 1)) → Q none h6
set_option maxRecDepth 20000 in
theorem t_X12_push {G : GG} {d : Nat} {h : HP} {Q : Option Value → HP → Prop} {a0 : Nat} {y1 : Int64} (ht : T_X12_push G d h Q a0 y1) : Ex G d mX12_push 0 [(0, .ref a0), (1, .long y1)] [] h Q := by
  unfold T_X12_push at ht
  refine x_aload_n (pc2 := 1) 0 (n := 0) (x := a0) rfl dX12_push_0 rfl ?_
  obtain ⟨k1, ht⟩ := ht
  obtain ⟨q2, e3, ht⟩ := ht
  refine y_getR (pc2 := 4) (κ := 12) (k := 26) fl_X12_41 (by decide) (by decide) k1 rfl e3 dX12_push_1 rfl ?_
  refine x_aload_n (pc2 := 5) 0 (n := 0) (x := a0) rfl dX12_push_4 rfl ?_
  refine y_getI (pc2 := 8) (κ := 12) (k := 27) fl_X12_291 (by decide) (by decide) k1 rfl dX12_push_5 rfl ?_
  refine x_lload_n (pc2 := 9) 1 (n := 1) (x := y1) rfl dX12_push_8 rfl ?_
  obtain ⟨k4, ht⟩ := ht
  obtain ⟨b5, ht⟩ := ht
  refine x_last (pc2 := 10) k4 b5 dX12_push_9 rfl ?_
  refine x_aload_n (pc2 := 11) 0 (n := 0) (x := a0) rfl dX12_push_10 rfl ?_
  refine x_dup (pc2 := 12) rfl dX12_push_11 rfl ?_
  refine y_getI (pc2 := 15) (κ := 12) (k := 27) fl_X12_291 (by decide) (by decide) k1.sL rfl dX12_push_12 rfl ?_
  refine x_iconst (pc2 := 16) (v := 1) (by decide) dX12_push_15 rfl ?_
  refine x_iadd (pc2 := 17) dX12_push_16 rfl ?_
  refine x_putI (pc2 := 20) (κ := 12) (k := 27) fl_X12_291 (by decide) (by decide) (Or.inl rfl) rfl k1.sL dX12_push_17 rfl ?_
  refine nm_I (fun h6 e7 p8 => ?_)
  replace ht := ht h6 e7
  exact x_retV rfl dX12_push_20 ht
theorem e_X12_push {G : GG} {d : Nat} {h : HP} {Q : Option Value → HP → Prop} {a0 : Nat} {y1 : Int64} (ht : T_X12_push G d h Q a0 y1) : Cal G d mX12_push [.ref a0, .long y1] h Q := cal_of rfl (Nat.le_of_ble_eq_true rfl) (t_X12_push ht)
def T_X12_pop (G : GG) (d : Nat) (h : HP) (Q : Option Value → HP → Prop) (a0 : Nat) : Prop :=
  Kd G h a0 12 ∧ ∃ q2, hR (sI h a0 27 ((hI h a0 27) - 1)) a0 26 = some q2 ∧ Kd G (sI h a0 27 ((hI h a0 27) - 1)) q2 15 ∧ vp_in (hI (sI h a0 27 ((hI h a0 27) - 1)) a0 27) (hN (sI h a0 27 ((hI h a0 27) - 1)) q2) ∧ Q (some (.long (hL (sI h a0 27 ((hI h a0 27) - 1)) q2 (hI (sI h a0 27 ((hI h a0 27) - 1)) a0 27).toNatClampNeg))) (sI h a0 27 ((hI h a0 27) - 1))
set_option maxRecDepth 20000 in
theorem t_X12_pop {G : GG} {d : Nat} {h : HP} {Q : Option Value → HP → Prop} {a0 : Nat} (ht : T_X12_pop G d h Q a0) : Ex G d mX12_pop 0 [(0, .ref a0)] [] h Q := by
  unfold T_X12_pop at ht
  refine x_aload_n (pc2 := 1) 0 (n := 0) (x := a0) rfl dX12_pop_0 rfl ?_
  refine x_dup (pc2 := 2) rfl dX12_pop_1 rfl ?_
  obtain ⟨k1, ht⟩ := ht
  refine y_getI (pc2 := 5) (κ := 12) (k := 27) fl_X12_291 (by decide) (by decide) k1 rfl dX12_pop_2 rfl ?_
  refine x_iconst (pc2 := 6) (v := 1) (by decide) dX12_pop_5 rfl ?_
  refine x_isub (pc2 := 7) dX12_pop_6 rfl ?_
  refine x_putI (pc2 := 10) (κ := 12) (k := 27) fl_X12_291 (by decide) (by decide) (Or.inl rfl) rfl k1 dX12_pop_7 rfl ?_
  refine x_aload_n (pc2 := 11) 0 (n := 0) (x := a0) rfl dX12_pop_10 rfl ?_
  obtain ⟨q2, e3, ht⟩ := ht
  refine y_getR (pc2 := 14) (κ := 12) (k := 26) fl_X12_41 (by decide) (by decide) k1.sI rfl e3 dX12_pop_11 rfl ?_
  refine x_aload_n (pc2 := 15) 0 (n := 0) (x := a0) rfl dX12_pop_14 rfl ?_
  refine y_getI (pc2 := 18) (κ := 12) (k := 27) fl_X12_291 (by decide) (by decide) k1.sI rfl dX12_pop_15 rfl ?_
  obtain ⟨k4, ht⟩ := ht
  obtain ⟨b5, ht⟩ := ht
  refine x_lald (pc2 := 19) k4 b5 dX12_pop_18 rfl ?_
  exact x_retL rfl dX12_pop_19 ht
theorem e_X12_pop {G : GG} {d : Nat} {h : HP} {Q : Option Value → HP → Prop} {a0 : Nat} (ht : T_X12_pop G d h Q a0) : Cal G d mX12_pop [.ref a0] h Q := cal_of rfl (Nat.le_of_ble_eq_true rfl) (t_X12_pop ht)
def T_X12_one (G : GG) (d : Nat) (h : HP) (Q : Option Value → HP → Prop) (x0 : Int32) (y1 : Int64) (y3 : Int64) : Prop :=
  ((x0 = 2 → Q (some (.long (y1 + y3))) h) ∧ (¬ x0 = 2 → ((x0 = 3 → Q (some (.long (y1 - y3))) h) ∧ (¬ x0 = 3 → ((x0 = 4 → Q (some (.long (y1 * y3))) h) ∧ (¬ x0 = 4 → ((x0 = 5 → ((¬ (lg_cmp y3 0) = 0 → ¬ y3 = 0 ∧ Q (some (.long (y1 / y3))) h) ∧ ((lg_cmp y3 0) = 0 → Q (some (.long 0)) h))) ∧ (¬ x0 = 5 → ((x0 = 6 → ((0 ≤ (lg_cmp y1 y3) → Q (some (.long 0)) h) ∧ (¬ 0 ≤ (lg_cmp y1 y3) → Q (some (.long 1)) h))) ∧ (¬ x0 = 6 → ((x0 = 7 → ((0 < (lg_cmp y1 y3) → Q (some (.long 0)) h) ∧ (¬ 0 < (lg_cmp y1 y3) → Q (some (.long 1)) h))) ∧ (¬ x0 = 7 → ((x0 = 8 → ((¬ (lg_cmp y1 y3) = 0 → Q (some (.long 0)) h) ∧ ((lg_cmp y1 y3) = 0 → Q (some (.long 1)) h))) ∧ (¬ x0 = 8 → ((x0 = 9 → (((lg_cmp y1 y3) < 0 → Q (some (.long 0)) h) ∧ (¬ (lg_cmp y1 y3) < 0 → Q (some (.long 1)) h))) ∧ (¬ x0 = 9 → ((x0 = 10 → (((lg_cmp y1 y3) ≤ 0 → Q (some (.long 0)) h) ∧ (¬ (lg_cmp y1 y3) ≤ 0 → Q (some (.long 1)) h))) ∧ (¬ x0 = 10 → ((x0 = 11 → Q (some (.long (y1 ||| y3))) h) ∧ (¬ x0 = 11 → ((x0 = 12 → Q (some (.long (y1 &&& y3))) h) ∧ (¬ x0 = 12 → Q (some (.long (y1 ||| y3))) h))))))))))))))))))))))
set_option maxRecDepth 20000 in
theorem t_X12_one {G : GG} {d : Nat} {h : HP} {Q : Option Value → HP → Prop} {x0 : Int32} {y1 : Int64} {y3 : Int64} (ht : T_X12_one G d h Q x0 y1 y3) : Ex G d mX12_one 0 [(0, .int x0), (1, .long y1), (3, .long y3)] [] h Q := by
  unfold T_X12_one at ht
  refine x_iload_n (pc2 := 1) 0 (n := 0) (x := x0) rfl dX12_one_0 rfl ?_
  refine y_tcase (x := x0) 2 60 dX12_one_1 (by decide) (by decide) rfl (by decide) (fun c1 => ?_) (fun c1 => ?_)
  · replace ht := ht.1 c1
    refine x_lload_n (pc2 := 61) 1 (n := 1) (x := y1) rfl dX12_one_60 rfl ?_
    refine x_lload_n (pc2 := 62) 2 (n := 3) (x := y3) rfl dX12_one_61 rfl ?_
    refine x_ladd (pc2 := 63) dX12_one_62 rfl ?_
    exact x_retL rfl dX12_one_63 ht
  replace ht := ht.2 c1
  refine y_tcase (x := x0) 3 64 dX12_one_1 (by decide) (by decide) rfl (by decide) (fun c2 => ?_) (fun c2 => ?_)
  · replace ht := ht.1 c2
    refine x_lload_n (pc2 := 65) 1 (n := 1) (x := y1) rfl dX12_one_64 rfl ?_
    refine x_lload_n (pc2 := 66) 2 (n := 3) (x := y3) rfl dX12_one_65 rfl ?_
    refine x_lsub (pc2 := 67) dX12_one_66 rfl ?_
    exact x_retL rfl dX12_one_67 ht
  replace ht := ht.2 c2
  refine y_tcase (x := x0) 4 68 dX12_one_1 (by decide) (by decide) rfl (by decide) (fun c3 => ?_) (fun c3 => ?_)
  · replace ht := ht.1 c3
    refine x_lload_n (pc2 := 69) 1 (n := 1) (x := y1) rfl dX12_one_68 rfl ?_
    refine x_lload_n (pc2 := 70) 2 (n := 3) (x := y3) rfl dX12_one_69 rfl ?_
    refine x_lmul (pc2 := 71) dX12_one_70 rfl ?_
    exact x_retL rfl dX12_one_71 ht
  replace ht := ht.2 c3
  refine y_tcase (x := x0) 5 72 dX12_one_1 (by decide) (by decide) rfl (by decide) (fun c4 => ?_) (fun c4 => ?_)
  · replace ht := ht.1 c4
    refine x_lload_n (pc2 := 73) 2 (n := 3) (x := y3) rfl dX12_one_72 rfl ?_
    refine x_lconst (pc2 := 74) (v := 0) (by decide) dX12_one_73 rfl ?_
    refine x_lcmp (pc2 := 75) dX12_one_74 rfl ?_
    refine y_if_ne (pc2 := 78) 82 dX12_one_75 (by decide) rfl (fun c5 => ?_) (fun c5 => ?_)
    · replace ht := ht.1 c5
      refine x_lload_n (pc2 := 83) 1 (n := 1) (x := y1) rfl dX12_one_82 rfl ?_
      refine x_lload_n (pc2 := 84) 2 (n := 3) (x := y3) rfl dX12_one_83 rfl ?_
      obtain ⟨n6, ht⟩ := ht
      refine x_ldiv (pc2 := 85) n6 dX12_one_84 rfl ?_
      exact x_retL rfl dX12_one_85 ht
    · replace ht := ht.2 c5
      refine x_lconst (pc2 := 79) (v := 0) (by decide) dX12_one_78 rfl ?_
      refine x_goto 85 dX12_one_79 (by decide) ?_
      exact x_retL rfl dX12_one_85 ht
  replace ht := ht.2 c4
  refine y_tcase (x := x0) 6 86 dX12_one_1 (by decide) (by decide) rfl (by decide) (fun c7 => ?_) (fun c7 => ?_)
  · replace ht := ht.1 c7
    refine x_lload_n (pc2 := 87) 1 (n := 1) (x := y1) rfl dX12_one_86 rfl ?_
    refine x_lload_n (pc2 := 88) 2 (n := 3) (x := y3) rfl dX12_one_87 rfl ?_
    refine x_lcmp (pc2 := 89) dX12_one_88 rfl ?_
    refine x_if_ge (pc2 := 92) 96 dX12_one_89 (by decide) rfl (fun c8 => ?_) (fun c8 => ?_)
    · replace ht := ht.1 c8
      refine x_lconst (pc2 := 97) (v := 0) (by decide) dX12_one_96 rfl ?_
      exact x_retL rfl dX12_one_97 ht
    · replace ht := ht.2 c8
      refine x_lconst (pc2 := 93) (v := 1) (by decide) dX12_one_92 rfl ?_
      refine x_goto 97 dX12_one_93 (by decide) ?_
      exact x_retL rfl dX12_one_97 ht
  replace ht := ht.2 c7
  refine y_tcase (x := x0) 7 98 dX12_one_1 (by decide) (by decide) rfl (by decide) (fun c9 => ?_) (fun c9 => ?_)
  · replace ht := ht.1 c9
    refine x_lload_n (pc2 := 99) 1 (n := 1) (x := y1) rfl dX12_one_98 rfl ?_
    refine x_lload_n (pc2 := 100) 2 (n := 3) (x := y3) rfl dX12_one_99 rfl ?_
    refine x_lcmp (pc2 := 101) dX12_one_100 rfl ?_
    refine x_if_gt (pc2 := 104) 108 dX12_one_101 (by decide) rfl (fun c10 => ?_) (fun c10 => ?_)
    · replace ht := ht.1 c10
      refine x_lconst (pc2 := 109) (v := 0) (by decide) dX12_one_108 rfl ?_
      exact x_retL rfl dX12_one_109 ht
    · replace ht := ht.2 c10
      refine x_lconst (pc2 := 105) (v := 1) (by decide) dX12_one_104 rfl ?_
      refine x_goto 109 dX12_one_105 (by decide) ?_
      exact x_retL rfl dX12_one_109 ht
  replace ht := ht.2 c9
  refine y_tcase (x := x0) 8 110 dX12_one_1 (by decide) (by decide) rfl (by decide) (fun c11 => ?_) (fun c11 => ?_)
  · replace ht := ht.1 c11
    refine x_lload_n (pc2 := 111) 1 (n := 1) (x := y1) rfl dX12_one_110 rfl ?_
    refine x_lload_n (pc2 := 112) 2 (n := 3) (x := y3) rfl dX12_one_111 rfl ?_
    refine x_lcmp (pc2 := 113) dX12_one_112 rfl ?_
    refine y_if_ne (pc2 := 116) 120 dX12_one_113 (by decide) rfl (fun c12 => ?_) (fun c12 => ?_)
    · replace ht := ht.1 c12
      refine x_lconst (pc2 := 121) (v := 0) (by decide) dX12_one_120 rfl ?_
      exact x_retL rfl dX12_one_121 ht
    · replace ht := ht.2 c12
      refine x_lconst (pc2 := 117) (v := 1) (by decide) dX12_one_116 rfl ?_
      refine x_goto 121 dX12_one_117 (by decide) ?_
      exact x_retL rfl dX12_one_121 ht
  replace ht := ht.2 c11
  refine y_tcase (x := x0) 9 122 dX12_one_1 (by decide) (by decide) rfl (by decide) (fun c13 => ?_) (fun c13 => ?_)
  · replace ht := ht.1 c13
    refine x_lload_n (pc2 := 123) 1 (n := 1) (x := y1) rfl dX12_one_122 rfl ?_
    refine x_lload_n (pc2 := 124) 2 (n := 3) (x := y3) rfl dX12_one_123 rfl ?_
    refine x_lcmp (pc2 := 125) dX12_one_124 rfl ?_
    refine x_if_lt (pc2 := 128) 132 dX12_one_125 (by decide) rfl (fun c14 => ?_) (fun c14 => ?_)
    · replace ht := ht.1 c14
      refine x_lconst (pc2 := 133) (v := 0) (by decide) dX12_one_132 rfl ?_
      exact x_retL rfl dX12_one_133 ht
    · replace ht := ht.2 c14
      refine x_lconst (pc2 := 129) (v := 1) (by decide) dX12_one_128 rfl ?_
      refine x_goto 133 dX12_one_129 (by decide) ?_
      exact x_retL rfl dX12_one_133 ht
  replace ht := ht.2 c13
  refine y_tcase (x := x0) 10 134 dX12_one_1 (by decide) (by decide) rfl (by decide) (fun c15 => ?_) (fun c15 => ?_)
  · replace ht := ht.1 c15
    refine x_lload_n (pc2 := 135) 1 (n := 1) (x := y1) rfl dX12_one_134 rfl ?_
    refine x_lload_n (pc2 := 136) 2 (n := 3) (x := y3) rfl dX12_one_135 rfl ?_
    refine x_lcmp (pc2 := 137) dX12_one_136 rfl ?_
    refine x_if_le (pc2 := 140) 144 dX12_one_137 (by decide) rfl (fun c16 => ?_) (fun c16 => ?_)
    · replace ht := ht.1 c16
      refine x_lconst (pc2 := 145) (v := 0) (by decide) dX12_one_144 rfl ?_
      exact x_retL rfl dX12_one_145 ht
    · replace ht := ht.2 c16
      refine x_lconst (pc2 := 141) (v := 1) (by decide) dX12_one_140 rfl ?_
      refine x_goto 145 dX12_one_141 (by decide) ?_
      exact x_retL rfl dX12_one_145 ht
  replace ht := ht.2 c15
  refine y_tcase (x := x0) 11 150 dX12_one_1 (by decide) (by decide) rfl (by decide) (fun c17 => ?_) (fun c17 => ?_)
  · replace ht := ht.1 c17
    refine x_lload_n (pc2 := 151) 1 (n := 1) (x := y1) rfl dX12_one_150 rfl ?_
    refine x_lload_n (pc2 := 152) 2 (n := 3) (x := y3) rfl dX12_one_151 rfl ?_
    refine x_lor (pc2 := 153) dX12_one_152 rfl ?_
    exact x_retL rfl dX12_one_153 ht
  replace ht := ht.2 c17
  refine y_tcase (x := x0) 12 146 dX12_one_1 (by decide) (by decide) rfl (by decide) (fun c18 => ?_) (fun c18 => ?_)
  · replace ht := ht.1 c18
    refine x_lload_n (pc2 := 147) 1 (n := 1) (x := y1) rfl dX12_one_146 rfl ?_
    refine x_lload_n (pc2 := 148) 2 (n := 3) (x := y3) rfl dX12_one_147 rfl ?_
    refine x_land (pc2 := 149) dX12_one_148 rfl ?_
    exact x_retL rfl dX12_one_149 ht
  replace ht := ht.2 c18
  have wc1 := ne_ti (z := 2) rfl c1
  have wc2 := ne_ti (z := 3) rfl c2
  have wc3 := ne_ti (z := 4) rfl c3
  have wc4 := ne_ti (z := 5) rfl c4
  have wc7 := ne_ti (z := 6) rfl c7
  have wc9 := ne_ti (z := 7) rfl c9
  have wc11 := ne_ti (z := 8) rfl c11
  have wc13 := ne_ti (z := 9) rfl c13
  have wc15 := ne_ti (z := 10) rfl c15
  have wc17 := ne_ti (z := 11) rfl c17
  have wc18 := ne_ti (z := 12) rfl c18
  refine x_tableOut (x := x0) 150 dX12_one_1 (by omega) (by decide) ?_
  refine x_lload_n (pc2 := 151) 1 (n := 1) (x := y1) rfl dX12_one_150 rfl ?_
  refine x_lload_n (pc2 := 152) 2 (n := 3) (x := y3) rfl dX12_one_151 rfl ?_
  refine x_lor (pc2 := 153) dX12_one_152 rfl ?_
  exact x_retL rfl dX12_one_153 ht
theorem e_X12_one {G : GG} {d : Nat} {h : HP} {Q : Option Value → HP → Prop} {x0 : Int32} {y1 : Int64} {y3 : Int64} (ht : T_X12_one G d h Q x0 y1 y3) : Cal G d mX12_one [.int x0, .long y1, .long y3] h Q := cal_of rfl (Nat.le_of_ble_eq_true rfl) (t_X12_one ht)
def T_X12_reckons (G : GG) (d : Nat) (h : HP) (Q : Option Value → HP → Prop) (a0 : Nat) (x1 : Int32) (x2 : Int32) (x3 : Int32) : Prop :=
  Kd G h a0 12 ∧ Ex G d mX12_reckons 8 [(0, .ref a0), (1, .int x1), (2, .int x2), (3, .int x3), (4, .int x2)] [] (sI h a0 27 0) Q
set_option maxRecDepth 20000 in
theorem t_X12_reckons {G : GG} {d : Nat} {h : HP} {Q : Option Value → HP → Prop} {a0 : Nat} {x1 : Int32} {x2 : Int32} {x3 : Int32} (ht : T_X12_reckons G d h Q a0 x1 x2 x3) : Ex G d mX12_reckons 0 [(0, .ref a0), (1, .int x1), (2, .int x2), (3, .int x3)] [] h Q := by
  unfold T_X12_reckons at ht
  refine x_aload_n (pc2 := 1) 0 (n := 0) (x := a0) rfl dX12_reckons_0 rfl ?_
  refine x_iconst (pc2 := 2) (v := 0) (by decide) dX12_reckons_1 rfl ?_
  obtain ⟨k1, ht⟩ := ht
  refine x_putI (pc2 := 5) (κ := 12) (k := 27) fl_X12_291 (by decide) (by decide) (Or.inl rfl) rfl k1 dX12_reckons_2 rfl ?_
  refine x_iload_n (pc2 := 6) 2 (n := 2) (x := x2) rfl dX12_reckons_5 rfl ?_
  refine x_istore (pc2 := 8) [1, 2, 3, 4, 0] (n := 4) (x := x2) (lv2 := [(0, .ref a0), (1, .int x1), (2, .int x2), (3, .int x3), (4, .int x2)]) (by decide) rfl dX12_reckons_6 rfl ?_
  exact ht
theorem e_X12_reckons {G : GG} {d : Nat} {h : HP} {Q : Option Value → HP → Prop} {a0 : Nat} {x1 : Int32} {x2 : Int32} {x3 : Int32} (ht : T_X12_reckons G d h Q a0 x1 x2 x3) : Cal G d mX12_reckons [.ref a0, .int x1, .int x2, .int x3] h Q := cal_of rfl (Nat.le_of_ble_eq_true rfl) (t_X12_reckons ht)
def T_X12_reckons_8 (G : GG) (d : Nat) (h : HP) (Q : Option Value → HP → Prop) (a0 : Nat) (x1 : Int32) (x2 : Int32) (x3 : Int32) (x4 : Int32) : Prop :=
  ((x3 ≤ x4 → Kd G h a0 12 ∧ Cal G (d - 1) mX12_pop [.ref a0] h (fun r2 h3 => ∃ v6, r2 = some (.long v6) ∧ Q (some (.long v6)) h3)) ∧ (¬ x3 ≤ x4 → Kd G h a0 12 ∧ ∃ q8, hR h a0 3 = some q8 ∧ Kd G h q8 14 ∧ vp_in ((400 * x1) + x4) (hN h q8) ∧ vp_in ((400 * x1) + x4) (hN h q8) ∧ ((¬ ((hI h q8 ((400 * x1) + x4).toNatClampNeg) &&& 15) = 0 → ((¬ ((hI h q8 ((400 * x1) + x4).toNatClampNeg) &&& 15) = 1 → ((¬ ((hI h q8 ((400 * x1) + x4).toNatClampNeg) &&& 15) = 11 → Cal G (d - 1) mX12_pop [.ref a0] h (fun r16 h17 => ∃ v19, r16 = some (.long v19) ∧ Cal G (d - 1) mX12_pop [.ref a0] h17 (fun r20 h21 => ∃ v23, r20 = some (.long v23) ∧ Cal G (d - 1) mX12_one [.int ((hI h q8 ((400 * x1) + x4).toNatClampNeg) &&& 15), .long v23, .long v19] h21 (fun r24 h25 => ∃ v27, r24 = some (.long v27) ∧ Cal G (d - 1) mX12_push [.ref a0, .long v27] h25 (fun r28 h29 => r28 = none ∧ Ex G d mX12_reckons 8 [(0, .ref a0), (1, .int x1), (2, .int x2), (3, .int x3), (4, .int (x4 + 1))] [] h29 Q))))) ∧ (((hI h q8 ((400 * x1) + x4).toNatClampNeg) &&& 15) = 11 → Cal G (d - 1) mX12_pop [.ref a0] h (fun r31 h32 => ∃ v34, r31 = some (.long v34) ∧ Cal G (d - 1) mX12_push [.ref a0, .long (1 - v34)] h32 (fun r35 h36 => r35 = none ∧ Ex G d mX12_reckons 8 [(0, .ref a0), (1, .int x1), (2, .int x2), (3, .int x3), (4, .int (x4 + 1))] [] h36 Q))))) ∧ (((hI h q8 ((400 * x1) + x4).toNatClampNeg) &&& 15) = 1 → ∃ q38, hR h a0 28 = some q38 ∧ Kd G h q38 15 ∧ vp_in ((hI h q8 ((400 * x1) + x4).toNatClampNeg) >>> (4 &&& 31)) (hN h q38) ∧ Cal G (d - 1) mX12_push [.ref a0, .long (hL h q38 ((hI h q8 ((400 * x1) + x4).toNatClampNeg) >>> (4 &&& 31)).toNatClampNeg)] h (fun r42 h43 => r42 = none ∧ Ex G d mX12_reckons 8 [(0, .ref a0), (1, .int x1), (2, .int x2), (3, .int x3), (4, .int (x4 + 1))] [] h43 Q)))) ∧ (((hI h q8 ((400 * x1) + x4).toNatClampNeg) &&& 15) = 0 → Cal G (d - 1) mX12_push [.ref a0, .long (((hI h q8 ((400 * x1) + x4).toNatClampNeg) >>> (4 &&& 31)).toInt64)] h (fun r45 h46 => r45 = none ∧ Ex G d mX12_reckons 8 [(0, .ref a0), (1, .int x1), (2, .int x2), (3, .int x3), (4, .int (x4 + 1))] [] h46 Q)))))
set_option maxRecDepth 20000 in
theorem t_X12_reckons_8 {G : GG} {d : Nat} {h : HP} {Q : Option Value → HP → Prop} {a0 : Nat} {x1 : Int32} {x2 : Int32} {x3 : Int32} {x4 : Int32} (hd1 : 1 ≤ d) (ht : T_X12_reckons_8 G d h Q a0 x1 x2 x3 x4) : Ex G d mX12_reckons 8 [(0, .ref a0), (1, .int x1), (2, .int x2), (3, .int x3), (4, .int x4)] [] h Q := by
  unfold T_X12_reckons_8 at ht
  refine x_iload (pc2 := 10) 4 (n := 4) (x := x4) rfl dX12_reckons_8 rfl ?_
  refine x_iload_n (pc2 := 11) 3 (n := 3) (x := x3) rfl dX12_reckons_10 rfl ?_
  refine x_icmp_ge (pc2 := 14) 135 dX12_reckons_11 (by decide) rfl (fun c1 => ?_) (fun c1 => ?_)
  · replace ht := ht.1 c1
    refine x_aload_n (pc2 := 136) 0 (n := 0) (x := a0) rfl dX12_reckons_135 rfl ?_
    obtain ⟨k5, ht⟩ := ht
    refine x_callV (pc2 := 139) (As := []) (rest := []) (b := a0) mv_X12_pop ml_X12_298 k5 rfl rfl (Nat.le_of_ble_eq_true rfl) hd1 dX12_reckons_136 rfl (ht.mono (fun r2 h3 p4 ht' => ?_))
    clear ht
    obtain ⟨v6, rfl, ht⟩ := ht'
    show Ex G d mX12_reckons 139 [(0, .ref a0), (1, .int x1), (2, .int x2), (3, .int x3), (4, .int x4)] [.long v6] h3 Q
    exact x_retL rfl dX12_reckons_139 ht
  · replace ht := ht.2 c1
    refine x_aload_n (pc2 := 15) 0 (n := 0) (x := a0) rfl dX12_reckons_14 rfl ?_
    obtain ⟨k7, ht⟩ := ht
    obtain ⟨q8, e9, ht⟩ := ht
    refine y_getR (pc2 := 18) (κ := 12) (k := 3) fl_X12_17 (by decide) (by decide) k7 rfl e9 dX12_reckons_15 rfl ?_
    refine x_sipush (pc2 := 21) (v := 400) (by decide) dX12_reckons_18 rfl ?_
    refine x_iload_n (pc2 := 22) 1 (n := 1) (x := x1) rfl dX12_reckons_21 rfl ?_
    refine x_imul (pc2 := 23) dX12_reckons_22 rfl ?_
    refine x_iload (pc2 := 25) 4 (n := 4) (x := x4) rfl dX12_reckons_23 rfl ?_
    refine x_iadd (pc2 := 26) dX12_reckons_25 rfl ?_
    obtain ⟨k10, ht⟩ := ht
    obtain ⟨b11, ht⟩ := ht
    refine x_iald (pc2 := 27) k10 b11 dX12_reckons_26 rfl ?_
    refine x_bipush (pc2 := 29) (v := 15) (by decide) dX12_reckons_27 rfl ?_
    refine x_iand (pc2 := 30) dX12_reckons_29 rfl ?_
    refine x_istore (pc2 := 32) [1, 2, 3, 4, 5, 0] (n := 5) (x := ((hI h q8 ((400 * x1) + x4).toNatClampNeg) &&& 15)) (lv2 := [(0, .ref a0), (1, .int x1), (2, .int x2), (3, .int x3), (4, .int x4), (5, .int ((hI h q8 ((400 * x1) + x4).toNatClampNeg) &&& 15))]) (by decide) rfl dX12_reckons_30 rfl ?_
    refine x_aload_n (pc2 := 33) 0 (n := 0) (x := a0) rfl dX12_reckons_32 rfl ?_
    refine y_getR (pc2 := 36) (κ := 12) (k := 3) fl_X12_17 (by decide) (by decide) k7 rfl e9 dX12_reckons_33 rfl ?_
    refine x_sipush (pc2 := 39) (v := 400) (by decide) dX12_reckons_36 rfl ?_
    refine x_iload_n (pc2 := 40) 1 (n := 1) (x := x1) rfl dX12_reckons_39 rfl ?_
    refine x_imul (pc2 := 41) dX12_reckons_40 rfl ?_
    refine x_iload (pc2 := 43) 4 (n := 4) (x := x4) rfl dX12_reckons_41 rfl ?_
    refine x_iadd (pc2 := 44) dX12_reckons_43 rfl ?_
    obtain ⟨b12, ht⟩ := ht
    refine x_iald (pc2 := 45) k10 b12 dX12_reckons_44 rfl ?_
    refine x_iconst (pc2 := 46) (v := 4) (by decide) dX12_reckons_45 rfl ?_
    refine x_ishr (pc2 := 47) dX12_reckons_46 rfl ?_
    refine x_istore (pc2 := 49) [1, 2, 3, 4, 5, 6, 0] (n := 6) (x := ((hI h q8 ((400 * x1) + x4).toNatClampNeg) >>> (4 &&& 31))) (lv2 := [(0, .ref a0), (1, .int x1), (2, .int x2), (3, .int x3), (4, .int x4), (5, .int ((hI h q8 ((400 * x1) + x4).toNatClampNeg) &&& 15)), (6, .int ((hI h q8 ((400 * x1) + x4).toNatClampNeg) >>> (4 &&& 31)))]) (by decide) rfl dX12_reckons_47 rfl ?_
    refine x_iload (pc2 := 51) 5 (n := 5) (x := ((hI h q8 ((400 * x1) + x4).toNatClampNeg) &&& 15)) rfl dX12_reckons_49 rfl ?_
    refine y_if_ne (pc2 := 54) 64 dX12_reckons_51 (by decide) rfl (fun c13 => ?_) (fun c13 => ?_)
    · replace ht := ht.1 c13
      refine x_iload (pc2 := 66) 5 (n := 5) (x := ((hI h q8 ((400 * x1) + x4).toNatClampNeg) &&& 15)) rfl dX12_reckons_64 rfl ?_
      refine x_iconst (pc2 := 67) (v := 1) (by decide) dX12_reckons_66 rfl ?_
      refine y_icmp_ne (pc2 := 70) 84 dX12_reckons_67 (by decide) rfl (fun c14 => ?_) (fun c14 => ?_)
      · replace ht := ht.1 c14
        refine x_iload (pc2 := 86) 5 (n := 5) (x := ((hI h q8 ((400 * x1) + x4).toNatClampNeg) &&& 15)) rfl dX12_reckons_84 rfl ?_
        refine x_bipush (pc2 := 88) (v := 11) (by decide) dX12_reckons_86 rfl ?_
        refine y_icmp_ne (pc2 := 91) 104 dX12_reckons_88 (by decide) rfl (fun c15 => ?_) (fun c15 => ?_)
        · replace ht := ht.1 c15
          refine x_aload_n (pc2 := 105) 0 (n := 0) (x := a0) rfl dX12_reckons_104 rfl ?_
          refine x_callV (pc2 := 108) (As := []) (rest := []) (b := a0) mv_X12_pop ml_X12_298 k7 rfl rfl (Nat.le_of_ble_eq_true rfl) hd1 dX12_reckons_105 rfl (ht.mono (fun r16 h17 p18 ht' => ?_))
          clear ht
          obtain ⟨v19, rfl, ht⟩ := ht'
          show Ex G d mX12_reckons 108 [(0, .ref a0), (1, .int x1), (2, .int x2), (3, .int x3), (4, .int x4), (5, .int ((hI h q8 ((400 * x1) + x4).toNatClampNeg) &&& 15)), (6, .int ((hI h q8 ((400 * x1) + x4).toNatClampNeg) >>> (4 &&& 31)))] [.long v19] h17 Q
          refine x_lstore (pc2 := 110) [1, 2, 3, 4, 5, 6, 7, 0] (n := 7) (x := v19) (lv2 := [(0, .ref a0), (1, .int x1), (2, .int x2), (3, .int x3), (4, .int x4), (5, .int ((hI h q8 ((400 * x1) + x4).toNatClampNeg) &&& 15)), (6, .int ((hI h q8 ((400 * x1) + x4).toNatClampNeg) >>> (4 &&& 31))), (7, .long v19)]) (by decide) rfl dX12_reckons_108 rfl ?_
          refine x_aload_n (pc2 := 111) 0 (n := 0) (x := a0) rfl dX12_reckons_110 rfl ?_
          refine x_callV (pc2 := 114) (As := []) (rest := []) (b := a0) mv_X12_pop ml_X12_298 (k7.up p18) rfl rfl (Nat.le_of_ble_eq_true rfl) hd1 dX12_reckons_111 rfl (ht.mono (fun r20 h21 p22 ht' => ?_))
          clear ht
          obtain ⟨v23, rfl, ht⟩ := ht'
          show Ex G d mX12_reckons 114 [(0, .ref a0), (1, .int x1), (2, .int x2), (3, .int x3), (4, .int x4), (5, .int ((hI h q8 ((400 * x1) + x4).toNatClampNeg) &&& 15)), (6, .int ((hI h q8 ((400 * x1) + x4).toNatClampNeg) >>> (4 &&& 31))), (7, .long v19)] [.long v23] h21 Q
          refine x_lstore (pc2 := 116) [1, 2, 3, 4, 5, 6, 7, 8, 0] (n := 9) (x := v23) (lv2 := [(0, .ref a0), (1, .int x1), (2, .int x2), (3, .int x3), (4, .int x4), (5, .int ((hI h q8 ((400 * x1) + x4).toNatClampNeg) &&& 15)), (6, .int ((hI h q8 ((400 * x1) + x4).toNatClampNeg) >>> (4 &&& 31))), (7, .long v19), (9, .long v23)]) (by decide) rfl dX12_reckons_114 rfl ?_
          refine x_aload_n (pc2 := 117) 0 (n := 0) (x := a0) rfl dX12_reckons_116 rfl ?_
          refine x_iload (pc2 := 119) 5 (n := 5) (x := ((hI h q8 ((400 * x1) + x4).toNatClampNeg) &&& 15)) rfl dX12_reckons_117 rfl ?_
          refine x_lload (pc2 := 121) 8 (n := 9) (x := v23) rfl dX12_reckons_119 rfl ?_
          refine x_lload (pc2 := 123) 7 (n := 7) (x := v19) rfl dX12_reckons_121 rfl ?_
          refine x_callS (pc2 := 126) (As := [.int ((hI h q8 ((400 * x1) + x4).toNatClampNeg) &&& 15), .long v23, .long v19]) (rest := [.ref a0]) ms_X12_one ml_X12_302 rfl rfl (Nat.le_of_ble_eq_true rfl) hd1 dX12_reckons_123 rfl (ht.mono (fun r24 h25 p26 ht' => ?_))
          clear ht
          obtain ⟨v27, rfl, ht⟩ := ht'
          show Ex G d mX12_reckons 126 [(0, .ref a0), (1, .int x1), (2, .int x2), (3, .int x3), (4, .int x4), (5, .int ((hI h q8 ((400 * x1) + x4).toNatClampNeg) &&& 15)), (6, .int ((hI h q8 ((400 * x1) + x4).toNatClampNeg) >>> (4 &&& 31))), (7, .long v19), (9, .long v23)] [.long v27, .ref a0] h25 Q
          refine x_callV (pc2 := 129) (As := [.long v27]) (rest := []) (b := a0) mv_X12_push ml_X12_294 (((k7.up p18).up p22).up p26) rfl rfl (Nat.le_of_ble_eq_true rfl) hd1 dX12_reckons_126 rfl (ht.mono (fun r28 h29 p30 ht' => ?_))
          clear ht
          obtain ⟨rfl, ht⟩ := ht'
          show Ex G d mX12_reckons 129 [(0, .ref a0), (1, .int x1), (2, .int x2), (3, .int x3), (4, .int x4), (5, .int ((hI h q8 ((400 * x1) + x4).toNatClampNeg) &&& 15)), (6, .int ((hI h q8 ((400 * x1) + x4).toNatClampNeg) >>> (4 &&& 31))), (7, .long v19), (9, .long v23)] [] h29 Q
          refine x_iinc (pc2 := 132) 4 [1, 2, 3, 4, 0, 5, 6, 7, 8] (i := 4) (x := x4) (v := (x4 + 1)) (lv2 := [(0, .ref a0), (1, .int x1), (2, .int x2), (3, .int x3), (4, .int (x4 + 1)), (5, .int ((hI h q8 ((400 * x1) + x4).toNatClampNeg) &&& 15)), (6, .int ((hI h q8 ((400 * x1) + x4).toNatClampNeg) >>> (4 &&& 31))), (7, .long v19), (9, .long v23)]) rfl (iinc_eq (by decide) _) (by decide) rfl dX12_reckons_129 rfl ?_
          refine x_goto 8 dX12_reckons_132 (by decide) ?_
          refine x_sub [0, 1, 2, 3, 4] (lv2 := [(0, .ref a0), (1, .int x1), (2, .int x2), (3, .int x3), (4, .int (x4 + 1))]) rfl ?_
          exact ht
        · replace ht := ht.2 c15
          refine x_aload_n (pc2 := 92) 0 (n := 0) (x := a0) rfl dX12_reckons_91 rfl ?_
          refine x_lconst (pc2 := 93) (v := 1) (by decide) dX12_reckons_92 rfl ?_
          refine x_aload_n (pc2 := 94) 0 (n := 0) (x := a0) rfl dX12_reckons_93 rfl ?_
          refine x_callV (pc2 := 97) (As := []) (rest := [.long 1, .ref a0]) (b := a0) mv_X12_pop ml_X12_298 k7 rfl rfl (Nat.le_of_ble_eq_true rfl) hd1 dX12_reckons_94 rfl (ht.mono (fun r31 h32 p33 ht' => ?_))
          clear ht
          obtain ⟨v34, rfl, ht⟩ := ht'
          show Ex G d mX12_reckons 97 [(0, .ref a0), (1, .int x1), (2, .int x2), (3, .int x3), (4, .int x4), (5, .int ((hI h q8 ((400 * x1) + x4).toNatClampNeg) &&& 15)), (6, .int ((hI h q8 ((400 * x1) + x4).toNatClampNeg) >>> (4 &&& 31)))] [.long v34, .long 1, .ref a0] h32 Q
          refine x_lsub (pc2 := 98) dX12_reckons_97 rfl ?_
          refine x_callV (pc2 := 101) (As := [.long (1 - v34)]) (rest := []) (b := a0) mv_X12_push ml_X12_294 (k7.up p33) rfl rfl (Nat.le_of_ble_eq_true rfl) hd1 dX12_reckons_98 rfl (ht.mono (fun r35 h36 p37 ht' => ?_))
          clear ht
          obtain ⟨rfl, ht⟩ := ht'
          show Ex G d mX12_reckons 101 [(0, .ref a0), (1, .int x1), (2, .int x2), (3, .int x3), (4, .int x4), (5, .int ((hI h q8 ((400 * x1) + x4).toNatClampNeg) &&& 15)), (6, .int ((hI h q8 ((400 * x1) + x4).toNatClampNeg) >>> (4 &&& 31)))] [] h36 Q
          refine x_goto 129 dX12_reckons_101 (by decide) ?_
          refine x_iinc (pc2 := 132) 4 [1, 2, 3, 4, 0, 5, 6] (i := 4) (x := x4) (v := (x4 + 1)) (lv2 := [(0, .ref a0), (1, .int x1), (2, .int x2), (3, .int x3), (4, .int (x4 + 1)), (5, .int ((hI h q8 ((400 * x1) + x4).toNatClampNeg) &&& 15)), (6, .int ((hI h q8 ((400 * x1) + x4).toNatClampNeg) >>> (4 &&& 31)))]) rfl (iinc_eq (by decide) _) (by decide) rfl dX12_reckons_129 rfl ?_
          refine x_goto 8 dX12_reckons_132 (by decide) ?_
          refine x_sub [0, 1, 2, 3, 4] (lv2 := [(0, .ref a0), (1, .int x1), (2, .int x2), (3, .int x3), (4, .int (x4 + 1))]) rfl ?_
          exact ht
      · replace ht := ht.2 c14
        refine x_aload_n (pc2 := 71) 0 (n := 0) (x := a0) rfl dX12_reckons_70 rfl ?_
        refine x_aload_n (pc2 := 72) 0 (n := 0) (x := a0) rfl dX12_reckons_71 rfl ?_
        obtain ⟨q38, e39, ht⟩ := ht
        refine y_getR (pc2 := 75) (κ := 12) (k := 28) fl_X12_45 (by decide) (by decide) k7 rfl e39 dX12_reckons_72 rfl ?_
        refine x_iload (pc2 := 77) 6 (n := 6) (x := ((hI h q8 ((400 * x1) + x4).toNatClampNeg) >>> (4 &&& 31))) rfl dX12_reckons_75 rfl ?_
        obtain ⟨k40, ht⟩ := ht
        obtain ⟨b41, ht⟩ := ht
        refine x_lald (pc2 := 78) k40 b41 dX12_reckons_77 rfl ?_
        refine x_callV (pc2 := 81) (As := [.long (hL h q38 ((hI h q8 ((400 * x1) + x4).toNatClampNeg) >>> (4 &&& 31)).toNatClampNeg)]) (rest := []) (b := a0) mv_X12_push ml_X12_294 k7 rfl rfl (Nat.le_of_ble_eq_true rfl) hd1 dX12_reckons_78 rfl (ht.mono (fun r42 h43 p44 ht' => ?_))
        clear ht
        obtain ⟨rfl, ht⟩ := ht'
        show Ex G d mX12_reckons 81 [(0, .ref a0), (1, .int x1), (2, .int x2), (3, .int x3), (4, .int x4), (5, .int ((hI h q8 ((400 * x1) + x4).toNatClampNeg) &&& 15)), (6, .int ((hI h q8 ((400 * x1) + x4).toNatClampNeg) >>> (4 &&& 31)))] [] h43 Q
        refine x_goto 129 dX12_reckons_81 (by decide) ?_
        refine x_iinc (pc2 := 132) 4 [1, 2, 3, 4, 0, 5, 6] (i := 4) (x := x4) (v := (x4 + 1)) (lv2 := [(0, .ref a0), (1, .int x1), (2, .int x2), (3, .int x3), (4, .int (x4 + 1)), (5, .int ((hI h q8 ((400 * x1) + x4).toNatClampNeg) &&& 15)), (6, .int ((hI h q8 ((400 * x1) + x4).toNatClampNeg) >>> (4 &&& 31)))]) rfl (iinc_eq (by decide) _) (by decide) rfl dX12_reckons_129 rfl ?_
        refine x_goto 8 dX12_reckons_132 (by decide) ?_
        refine x_sub [0, 1, 2, 3, 4] (lv2 := [(0, .ref a0), (1, .int x1), (2, .int x2), (3, .int x3), (4, .int (x4 + 1))]) rfl ?_
        exact ht
    · replace ht := ht.2 c13
      refine x_aload_n (pc2 := 55) 0 (n := 0) (x := a0) rfl dX12_reckons_54 rfl ?_
      refine x_iload (pc2 := 57) 6 (n := 6) (x := ((hI h q8 ((400 * x1) + x4).toNatClampNeg) >>> (4 &&& 31))) rfl dX12_reckons_55 rfl ?_
      refine x_i2l (pc2 := 58) dX12_reckons_57 rfl ?_
      refine x_callV (pc2 := 61) (As := [.long (((hI h q8 ((400 * x1) + x4).toNatClampNeg) >>> (4 &&& 31)).toInt64)]) (rest := []) (b := a0) mv_X12_push ml_X12_294 k7 rfl rfl (Nat.le_of_ble_eq_true rfl) hd1 dX12_reckons_58 rfl (ht.mono (fun r45 h46 p47 ht' => ?_))
      clear ht
      obtain ⟨rfl, ht⟩ := ht'
      show Ex G d mX12_reckons 61 [(0, .ref a0), (1, .int x1), (2, .int x2), (3, .int x3), (4, .int x4), (5, .int ((hI h q8 ((400 * x1) + x4).toNatClampNeg) &&& 15)), (6, .int ((hI h q8 ((400 * x1) + x4).toNatClampNeg) >>> (4 &&& 31)))] [] h46 Q
      refine x_goto 129 dX12_reckons_61 (by decide) ?_
      refine x_iinc (pc2 := 132) 4 [1, 2, 3, 4, 0, 5, 6] (i := 4) (x := x4) (v := (x4 + 1)) (lv2 := [(0, .ref a0), (1, .int x1), (2, .int x2), (3, .int x3), (4, .int (x4 + 1)), (5, .int ((hI h q8 ((400 * x1) + x4).toNatClampNeg) &&& 15)), (6, .int ((hI h q8 ((400 * x1) + x4).toNatClampNeg) >>> (4 &&& 31)))]) rfl (iinc_eq (by decide) _) (by decide) rfl dX12_reckons_129 rfl ?_
      refine x_goto 8 dX12_reckons_132 (by decide) ?_
      refine x_sub [0, 1, 2, 3, 4] (lv2 := [(0, .ref a0), (1, .int x1), (2, .int x2), (3, .int x3), (4, .int (x4 + 1))]) rfl ?_
      exact ht
def T_X12_isHolding (G : GG) (d : Nat) (h : HP) (Q : Option Value → HP → Prop) (a0 : Nat) (x1 : Int32) (x2 : Int32) : Prop :=
  Kd G h a0 12 ∧ ∃ q2, hR h a0 5 = some q2 ∧ Kd G h q2 14 ∧ vp_in (((60 * x1) + (5 * x2)) + 3) (hN h q2) ∧ (((hI h q2 (((60 * x1) + (5 * x2)) + 3).toNatClampNeg) < 0 → Q (some (.int 1)) h) ∧ (¬ (hI h q2 (((60 * x1) + (5 * x2)) + 3).toNatClampNeg) < 0 → vp_in (((60 * x1) + (5 * x2)) + 3) (hN h q2) ∧ vp_in (((60 * x1) + (5 * x2)) + 4) (hN h q2) ∧ Cal G (d - 1) mX12_reckons [.ref a0, .int x1, .int (hI h q2 (((60 * x1) + (5 * x2)) + 3).toNatClampNeg), .int (hI h q2 (((60 * x1) + (5 * x2)) + 4).toNatClampNeg)] h (fun r9 h10 => ∃ v12, r9 = some (.long v12) ∧ ((¬ (lg_cmp v12 1) = 0 → Q (some (.int 0)) h10) ∧ ((lg_cmp v12 1) = 0 → Q (some (.int 1)) h10)))))
set_option maxRecDepth 20000 in
theorem t_X12_isHolding {G : GG} {d : Nat} {h : HP} {Q : Option Value → HP → Prop} {a0 : Nat} {x1 : Int32} {x2 : Int32} (hd1 : 1 ≤ d) (ht : T_X12_isHolding G d h Q a0 x1 x2) : Ex G d mX12_isHolding 0 [(0, .ref a0), (1, .int x1), (2, .int x2)] [] h Q := by
  unfold T_X12_isHolding at ht
  refine x_bipush (pc2 := 2) (v := 60) (by decide) dX12_isHolding_0 rfl ?_
  refine x_iload_n (pc2 := 3) 1 (n := 1) (x := x1) rfl dX12_isHolding_2 rfl ?_
  refine x_imul (pc2 := 4) dX12_isHolding_3 rfl ?_
  refine x_iconst (pc2 := 5) (v := 5) (by decide) dX12_isHolding_4 rfl ?_
  refine x_iload_n (pc2 := 6) 2 (n := 2) (x := x2) rfl dX12_isHolding_5 rfl ?_
  refine x_imul (pc2 := 7) dX12_isHolding_6 rfl ?_
  refine x_iadd (pc2 := 8) dX12_isHolding_7 rfl ?_
  refine x_istore_n (pc2 := 9) [1, 2, 3, 0] (n := 3) (x := ((60 * x1) + (5 * x2))) (lv2 := [(0, .ref a0), (1, .int x1), (2, .int x2), (3, .int ((60 * x1) + (5 * x2)))]) (by decide) rfl dX12_isHolding_8 rfl ?_
  refine x_aload_n (pc2 := 10) 0 (n := 0) (x := a0) rfl dX12_isHolding_9 rfl ?_
  obtain ⟨k1, ht⟩ := ht
  obtain ⟨q2, e3, ht⟩ := ht
  refine y_getR (pc2 := 13) (κ := 12) (k := 5) fl_X12_23 (by decide) (by decide) k1 rfl e3 dX12_isHolding_10 rfl ?_
  refine x_iload_n (pc2 := 14) 3 (n := 3) (x := ((60 * x1) + (5 * x2))) rfl dX12_isHolding_13 rfl ?_
  refine x_iconst (pc2 := 15) (v := 3) (by decide) dX12_isHolding_14 rfl ?_
  refine x_iadd (pc2 := 16) dX12_isHolding_15 rfl ?_
  obtain ⟨k4, ht⟩ := ht
  obtain ⟨b5, ht⟩ := ht
  refine x_iald (pc2 := 17) k4 b5 dX12_isHolding_16 rfl ?_
  refine x_if_lt (pc2 := 20) 46 dX12_isHolding_17 (by decide) rfl (fun c6 => ?_) (fun c6 => ?_)
  · replace ht := ht.1 c6
    refine x_iconst (pc2 := 47) (v := 1) (by decide) dX12_isHolding_46 rfl ?_
    refine x_goto 51 dX12_isHolding_47 (by decide) ?_
    exact x_retZ rfl (Or.inr rfl) dX12_isHolding_51 ht
  · replace ht := ht.2 c6
    refine x_aload_n (pc2 := 21) 0 (n := 0) (x := a0) rfl dX12_isHolding_20 rfl ?_
    refine x_iload_n (pc2 := 22) 1 (n := 1) (x := x1) rfl dX12_isHolding_21 rfl ?_
    refine x_aload_n (pc2 := 23) 0 (n := 0) (x := a0) rfl dX12_isHolding_22 rfl ?_
    refine y_getR (pc2 := 26) (κ := 12) (k := 5) fl_X12_23 (by decide) (by decide) k1 rfl e3 dX12_isHolding_23 rfl ?_
    refine x_iload_n (pc2 := 27) 3 (n := 3) (x := ((60 * x1) + (5 * x2))) rfl dX12_isHolding_26 rfl ?_
    refine x_iconst (pc2 := 28) (v := 3) (by decide) dX12_isHolding_27 rfl ?_
    refine x_iadd (pc2 := 29) dX12_isHolding_28 rfl ?_
    obtain ⟨b7, ht⟩ := ht
    refine x_iald (pc2 := 30) k4 b7 dX12_isHolding_29 rfl ?_
    refine x_aload_n (pc2 := 31) 0 (n := 0) (x := a0) rfl dX12_isHolding_30 rfl ?_
    refine y_getR (pc2 := 34) (κ := 12) (k := 5) fl_X12_23 (by decide) (by decide) k1 rfl e3 dX12_isHolding_31 rfl ?_
    refine x_iload_n (pc2 := 35) 3 (n := 3) (x := ((60 * x1) + (5 * x2))) rfl dX12_isHolding_34 rfl ?_
    refine x_iconst (pc2 := 36) (v := 4) (by decide) dX12_isHolding_35 rfl ?_
    refine x_iadd (pc2 := 37) dX12_isHolding_36 rfl ?_
    obtain ⟨b8, ht⟩ := ht
    refine x_iald (pc2 := 38) k4 b8 dX12_isHolding_37 rfl ?_
    refine x_callV (pc2 := 41) (As := [.int x1, .int (hI h q2 (((60 * x1) + (5 * x2)) + 3).toNatClampNeg), .int (hI h q2 (((60 * x1) + (5 * x2)) + 4).toNatClampNeg)]) (rest := []) (b := a0) mv_X12_reckons ml_X12_306 k1 rfl rfl (Nat.le_of_ble_eq_true rfl) hd1 dX12_isHolding_38 rfl (ht.mono (fun r9 h10 p11 ht' => ?_))
    clear ht
    obtain ⟨v12, rfl, ht⟩ := ht'
    show Ex G d mX12_isHolding 41 [(0, .ref a0), (1, .int x1), (2, .int x2), (3, .int ((60 * x1) + (5 * x2)))] [.long v12] h10 Q
    refine x_lconst (pc2 := 42) (v := 1) (by decide) dX12_isHolding_41 rfl ?_
    refine x_lcmp (pc2 := 43) dX12_isHolding_42 rfl ?_
    refine y_if_ne (pc2 := 46) 50 dX12_isHolding_43 (by decide) rfl (fun c13 => ?_) (fun c13 => ?_)
    · replace ht := ht.1 c13
      refine x_iconst (pc2 := 51) (v := 0) (by decide) dX12_isHolding_50 rfl ?_
      exact x_retZ rfl (Or.inl rfl) dX12_isHolding_51 ht
    · replace ht := ht.2 c13
      refine x_iconst (pc2 := 47) (v := 1) (by decide) dX12_isHolding_46 rfl ?_
      refine x_goto 51 dX12_isHolding_47 (by decide) ?_
      exact x_retZ rfl (Or.inr rfl) dX12_isHolding_51 ht
theorem e_X12_isHolding {G : GG} {d : Nat} {h : HP} {Q : Option Value → HP → Prop} {a0 : Nat} {x1 : Int32} {x2 : Int32} (hd1 : 1 ≤ d) (ht : T_X12_isHolding G d h Q a0 x1 x2) : Cal G d mX12_isHolding [.ref a0, .int x1, .int x2] h Q := cal_of rfl (Nat.le_of_ble_eq_true rfl) (t_X12_isHolding hd1 ht)
def T_X12_summed (G : GG) (d : Nat) (h : HP) (Q : Option Value → HP → Prop) (a0 : Nat) (x1 : Int32) (x2 : Int32) : Prop :=
  Kd G h a0 12 ∧ ∃ q2, hR h a0 5 = some q2 ∧ Kd G h q2 14 ∧ vp_in (((60 * x1) + (5 * x2)) + 1) (hN h q2) ∧ vp_in (((60 * x1) + (5 * x2)) + 2) (hN h q2) ∧ Cal G (d - 1) mX12_reckons [.ref a0, .int x1, .int (hI h q2 (((60 * x1) + (5 * x2)) + 1).toNatClampNeg), .int (hI h q2 (((60 * x1) + (5 * x2)) + 2).toNatClampNeg)] h (fun r7 h8 => ∃ v10, r7 = some (.long v10) ∧ Q (some (.long v10)) h8)
set_option maxRecDepth 20000 in
theorem t_X12_summed {G : GG} {d : Nat} {h : HP} {Q : Option Value → HP → Prop} {a0 : Nat} {x1 : Int32} {x2 : Int32} (hd1 : 1 ≤ d) (ht : T_X12_summed G d h Q a0 x1 x2) : Ex G d mX12_summed 0 [(0, .ref a0), (1, .int x1), (2, .int x2)] [] h Q := by
  unfold T_X12_summed at ht
  refine x_aload_n (pc2 := 1) 0 (n := 0) (x := a0) rfl dX12_summed_0 rfl ?_
  refine x_iload_n (pc2 := 2) 1 (n := 1) (x := x1) rfl dX12_summed_1 rfl ?_
  refine x_aload_n (pc2 := 3) 0 (n := 0) (x := a0) rfl dX12_summed_2 rfl ?_
  obtain ⟨k1, ht⟩ := ht
  obtain ⟨q2, e3, ht⟩ := ht
  refine y_getR (pc2 := 6) (κ := 12) (k := 5) fl_X12_23 (by decide) (by decide) k1 rfl e3 dX12_summed_3 rfl ?_
  refine x_bipush (pc2 := 8) (v := 60) (by decide) dX12_summed_6 rfl ?_
  refine x_iload_n (pc2 := 9) 1 (n := 1) (x := x1) rfl dX12_summed_8 rfl ?_
  refine x_imul (pc2 := 10) dX12_summed_9 rfl ?_
  refine x_iconst (pc2 := 11) (v := 5) (by decide) dX12_summed_10 rfl ?_
  refine x_iload_n (pc2 := 12) 2 (n := 2) (x := x2) rfl dX12_summed_11 rfl ?_
  refine x_imul (pc2 := 13) dX12_summed_12 rfl ?_
  refine x_iadd (pc2 := 14) dX12_summed_13 rfl ?_
  refine x_iconst (pc2 := 15) (v := 1) (by decide) dX12_summed_14 rfl ?_
  refine x_iadd (pc2 := 16) dX12_summed_15 rfl ?_
  obtain ⟨k4, ht⟩ := ht
  obtain ⟨b5, ht⟩ := ht
  refine x_iald (pc2 := 17) k4 b5 dX12_summed_16 rfl ?_
  refine x_aload_n (pc2 := 18) 0 (n := 0) (x := a0) rfl dX12_summed_17 rfl ?_
  refine y_getR (pc2 := 21) (κ := 12) (k := 5) fl_X12_23 (by decide) (by decide) k1 rfl e3 dX12_summed_18 rfl ?_
  refine x_bipush (pc2 := 23) (v := 60) (by decide) dX12_summed_21 rfl ?_
  refine x_iload_n (pc2 := 24) 1 (n := 1) (x := x1) rfl dX12_summed_23 rfl ?_
  refine x_imul (pc2 := 25) dX12_summed_24 rfl ?_
  refine x_iconst (pc2 := 26) (v := 5) (by decide) dX12_summed_25 rfl ?_
  refine x_iload_n (pc2 := 27) 2 (n := 2) (x := x2) rfl dX12_summed_26 rfl ?_
  refine x_imul (pc2 := 28) dX12_summed_27 rfl ?_
  refine x_iadd (pc2 := 29) dX12_summed_28 rfl ?_
  refine x_iconst (pc2 := 30) (v := 2) (by decide) dX12_summed_29 rfl ?_
  refine x_iadd (pc2 := 31) dX12_summed_30 rfl ?_
  obtain ⟨b6, ht⟩ := ht
  refine x_iald (pc2 := 32) k4 b6 dX12_summed_31 rfl ?_
  refine x_callV (pc2 := 35) (As := [.int x1, .int (hI h q2 (((60 * x1) + (5 * x2)) + 1).toNatClampNeg), .int (hI h q2 (((60 * x1) + (5 * x2)) + 2).toNatClampNeg)]) (rest := []) (b := a0) mv_X12_reckons ml_X12_306 k1 rfl rfl (Nat.le_of_ble_eq_true rfl) hd1 dX12_summed_32 rfl (ht.mono (fun r7 h8 p9 ht' => ?_))
  clear ht
  obtain ⟨v10, rfl, ht⟩ := ht'
  show Ex G d mX12_summed 35 [(0, .ref a0), (1, .int x1), (2, .int x2)] [.long v10] h8 Q
  exact x_retL rfl dX12_summed_35 ht
theorem e_X12_summed {G : GG} {d : Nat} {h : HP} {Q : Option Value → HP → Prop} {a0 : Nat} {x1 : Int32} {x2 : Int32} (hd1 : 1 ≤ d) (ht : T_X12_summed G d h Q a0 x1 x2) : Cal G d mX12_summed [.ref a0, .int x1, .int x2] h Q := cal_of rfl (Nat.le_of_ble_eq_true rfl) (t_X12_summed hd1 ht)
def T_X12_placeOf (G : GG) (d : Nat) (h : HP) (Q : Option Value → HP → Prop) (x0 : Int32) : Prop :=
  Q (some (.int (1608 + (12 * x0)))) h
set_option maxRecDepth 20000 in
theorem t_X12_placeOf {G : GG} {d : Nat} {h : HP} {Q : Option Value → HP → Prop} {x0 : Int32} (ht : T_X12_placeOf G d h Q x0) : Ex G d mX12_placeOf 0 [(0, .int x0)] [] h Q := by
  unfold T_X12_placeOf at ht
  refine x_sipush (pc2 := 3) (v := 1608) (by decide) dX12_placeOf_0 rfl ?_
  refine x_bipush (pc2 := 5) (v := 12) (by decide) dX12_placeOf_3 rfl ?_
  refine x_iload_n (pc2 := 6) 0 (n := 0) (x := x0) rfl dX12_placeOf_5 rfl ?_
  refine x_imul (pc2 := 7) dX12_placeOf_6 rfl ?_
  refine x_iadd (pc2 := 8) dX12_placeOf_7 rfl ?_
  exact x_ret (ty := .int) rfl rfl dX12_placeOf_8 ht
theorem e_X12_placeOf {G : GG} {d : Nat} {h : HP} {Q : Option Value → HP → Prop} {x0 : Int32} (ht : T_X12_placeOf G d h Q x0) : Cal G d mX12_placeOf [.int x0] h Q := cal_of rfl (Nat.le_of_ble_eq_true rfl) (t_X12_placeOf ht)
def T_X12_of (G : GG) (d : Nat) (h : HP) (Q : Option Value → HP → Prop) (a0 : Nat) (x1 : Int32) (x2 : Int32) : Prop :=
  Kd G h a0 12 ∧ ∃ q2, hR h a0 29 = some q2 ∧ Cal G (d - 1) mX12_placeOf [.int x1] h (fun r4 h5 => ∃ v7, r4 = some (.int v7) ∧ Kd G h5 q2 14 ∧ vp_in (v7 + x2) (hN h5 q2) ∧ Q (some (.int (hI h5 q2 (v7 + x2).toNatClampNeg))) h5)
set_option maxRecDepth 20000 in
theorem t_X12_of {G : GG} {d : Nat} {h : HP} {Q : Option Value → HP → Prop} {a0 : Nat} {x1 : Int32} {x2 : Int32} (hd1 : 1 ≤ d) (ht : T_X12_of G d h Q a0 x1 x2) : Ex G d mX12_of 0 [(0, .ref a0), (1, .int x1), (2, .int x2)] [] h Q := by
  unfold T_X12_of at ht
  refine x_aload_n (pc2 := 1) 0 (n := 0) (x := a0) rfl dX12_of_0 rfl ?_
  obtain ⟨k1, ht⟩ := ht
  obtain ⟨q2, e3, ht⟩ := ht
  refine y_getR (pc2 := 4) (κ := 12) (k := 29) fl_X12_48 (by decide) (by decide) k1 rfl e3 dX12_of_1 rfl ?_
  refine x_iload_n (pc2 := 5) 1 (n := 1) (x := x1) rfl dX12_of_4 rfl ?_
  refine x_callS (pc2 := 8) (As := [.int x1]) (rest := [.ref q2]) ms_X12_placeOf ml_X12_284 rfl rfl (Nat.le_of_ble_eq_true rfl) hd1 dX12_of_5 rfl (ht.mono (fun r4 h5 p6 ht' => ?_))
  clear ht
  obtain ⟨v7, rfl, ht⟩ := ht'
  show Ex G d mX12_of 8 [(0, .ref a0), (1, .int x1), (2, .int x2)] [.int v7, .ref q2] h5 Q
  refine x_iload_n (pc2 := 9) 2 (n := 2) (x := x2) rfl dX12_of_8 rfl ?_
  refine x_iadd (pc2 := 10) dX12_of_9 rfl ?_
  obtain ⟨k8, ht⟩ := ht
  obtain ⟨b9, ht⟩ := ht
  refine x_iald (pc2 := 11) k8 b9 dX12_of_10 rfl ?_
  exact x_ret (ty := .int) rfl rfl dX12_of_11 ht
theorem e_X12_of {G : GG} {d : Nat} {h : HP} {Q : Option Value → HP → Prop} {a0 : Nat} {x1 : Int32} {x2 : Int32} (hd1 : 1 ≤ d) (ht : T_X12_of G d h Q a0 x1 x2) : Cal G d mX12_of [.ref a0, .int x1, .int x2] h Q := cal_of rfl (Nat.le_of_ble_eq_true rfl) (t_X12_of hd1 ht)
def T_X12_isThing (G : GG) (d : Nat) (h : HP) (Q : Option Value → HP → Prop) (a0 : Nat) (x1 : Int32) : Prop :=
  ((x1 < 0 → Q (some (.int 0)) h) ∧ (¬ x1 < 0 → ((30 ≤ x1 → Q (some (.int 0)) h) ∧ (¬ 30 ≤ x1 → Kd G h a0 12 ∧ Cal G (d - 1) mX12_of [.ref a0, .int x1, .int 0] h (fun r3 h4 => ∃ v7, r3 = some (.int v7) ∧ ((¬ v7 = 1 → Q (some (.int 0)) h4) ∧ (v7 = 1 → Q (some (.int 1)) h4)))))))
set_option maxRecDepth 20000 in
theorem t_X12_isThing {G : GG} {d : Nat} {h : HP} {Q : Option Value → HP → Prop} {a0 : Nat} {x1 : Int32} (hd1 : 1 ≤ d) (ht : T_X12_isThing G d h Q a0 x1) : Ex G d mX12_isThing 0 [(0, .ref a0), (1, .int x1)] [] h Q := by
  unfold T_X12_isThing at ht
  refine x_iload_n (pc2 := 1) 1 (n := 1) (x := x1) rfl dX12_isThing_0 rfl ?_
  refine x_if_lt (pc2 := 4) 24 dX12_isThing_1 (by decide) rfl (fun c1 => ?_) (fun c1 => ?_)
  · replace ht := ht.1 c1
    refine x_iconst (pc2 := 25) (v := 0) (by decide) dX12_isThing_24 rfl ?_
    exact x_retZ rfl (Or.inl rfl) dX12_isThing_25 ht
  · replace ht := ht.2 c1
    refine x_iload_n (pc2 := 5) 1 (n := 1) (x := x1) rfl dX12_isThing_4 rfl ?_
    refine x_bipush (pc2 := 7) (v := 30) (by decide) dX12_isThing_5 rfl ?_
    refine x_icmp_ge (pc2 := 10) 24 dX12_isThing_7 (by decide) rfl (fun c2 => ?_) (fun c2 => ?_)
    · replace ht := ht.1 c2
      refine x_iconst (pc2 := 25) (v := 0) (by decide) dX12_isThing_24 rfl ?_
      exact x_retZ rfl (Or.inl rfl) dX12_isThing_25 ht
    · replace ht := ht.2 c2
      refine x_aload_n (pc2 := 11) 0 (n := 0) (x := a0) rfl dX12_isThing_10 rfl ?_
      refine x_iload_n (pc2 := 12) 1 (n := 1) (x := x1) rfl dX12_isThing_11 rfl ?_
      refine x_iconst (pc2 := 13) (v := 0) (by decide) dX12_isThing_12 rfl ?_
      obtain ⟨k6, ht⟩ := ht
      refine x_callV (pc2 := 16) (As := [.int x1, .int 0]) (rest := []) (b := a0) mv_X12_of ml_X12_310 k6 rfl rfl (Nat.le_of_ble_eq_true rfl) hd1 dX12_isThing_13 rfl (ht.mono (fun r3 h4 p5 ht' => ?_))
      clear ht
      obtain ⟨v7, rfl, ht⟩ := ht'
      show Ex G d mX12_isThing 16 [(0, .ref a0), (1, .int x1)] [.int v7] h4 Q
      refine x_iconst (pc2 := 17) (v := 1) (by decide) dX12_isThing_16 rfl ?_
      refine y_icmp_ne (pc2 := 20) 24 dX12_isThing_17 (by decide) rfl (fun c8 => ?_) (fun c8 => ?_)
      · replace ht := ht.1 c8
        refine x_iconst (pc2 := 25) (v := 0) (by decide) dX12_isThing_24 rfl ?_
        exact x_retZ rfl (Or.inl rfl) dX12_isThing_25 ht
      · replace ht := ht.2 c8
        refine x_iconst (pc2 := 21) (v := 1) (by decide) dX12_isThing_20 rfl ?_
        refine x_goto 25 dX12_isThing_21 (by decide) ?_
        exact x_retZ rfl (Or.inr rfl) dX12_isThing_25 ht
theorem e_X12_isThing {G : GG} {d : Nat} {h : HP} {Q : Option Value → HP → Prop} {a0 : Nat} {x1 : Int32} (hd1 : 1 ≤ d) (ht : T_X12_isThing G d h Q a0 x1) : Cal G d mX12_isThing [.ref a0, .int x1] h Q := cal_of rfl (Nat.le_of_ble_eq_true rfl) (t_X12_isThing hd1 ht)
def T_X12_isWall (G : GG) (d : Nat) (h : HP) (Q : Option Value → HP → Prop) (a0 : Nat) (x1 : Int32) : Prop :=
  ((x1 < 6 → Q (some (.int 0)) h) ∧ (¬ x1 < 6 → Kd G h a0 12 ∧ Cal G (d - 1) mX12_isThing [.ref a0, .int x1] h (fun r2 h3 => ∃ v6, r2 = some (.int v6) ∧ ((v6 = 0 → Q (some (.int 0)) h3) ∧ (¬ v6 = 0 → Q (some (.int 1)) h3)))))
set_option maxRecDepth 20000 in
theorem t_X12_isWall {G : GG} {d : Nat} {h : HP} {Q : Option Value → HP → Prop} {a0 : Nat} {x1 : Int32} (hd1 : 1 ≤ d) (ht : T_X12_isWall G d h Q a0 x1) : Ex G d mX12_isWall 0 [(0, .ref a0), (1, .int x1)] [] h Q := by
  unfold T_X12_isWall at ht
  refine x_iload_n (pc2 := 1) 1 (n := 1) (x := x1) rfl dX12_isWall_0 rfl ?_
  refine x_bipush (pc2 := 3) (v := 6) (by decide) dX12_isWall_1 rfl ?_
  refine x_icmp_lt (pc2 := 6) 18 dX12_isWall_3 (by decide) rfl (fun c1 => ?_) (fun c1 => ?_)
  · replace ht := ht.1 c1
    refine x_iconst (pc2 := 19) (v := 0) (by decide) dX12_isWall_18 rfl ?_
    exact x_retZ rfl (Or.inl rfl) dX12_isWall_19 ht
  · replace ht := ht.2 c1
    refine x_aload_n (pc2 := 7) 0 (n := 0) (x := a0) rfl dX12_isWall_6 rfl ?_
    refine x_iload_n (pc2 := 8) 1 (n := 1) (x := x1) rfl dX12_isWall_7 rfl ?_
    obtain ⟨k5, ht⟩ := ht
    refine x_callV (pc2 := 11) (As := [.int x1]) (rest := []) (b := a0) mv_X12_isThing ml_X12_314 k5 rfl rfl (Nat.le_of_ble_eq_true rfl) hd1 dX12_isWall_8 rfl (ht.mono (fun r2 h3 p4 ht' => ?_))
    clear ht
    obtain ⟨v6, rfl, ht⟩ := ht'
    show Ex G d mX12_isWall 11 [(0, .ref a0), (1, .int x1)] [.int v6] h3 Q
    refine x_if_eq (pc2 := 14) 18 dX12_isWall_11 (by decide) rfl (fun c7 => ?_) (fun c7 => ?_)
    · replace ht := ht.1 c7
      refine x_iconst (pc2 := 19) (v := 0) (by decide) dX12_isWall_18 rfl ?_
      exact x_retZ rfl (Or.inl rfl) dX12_isWall_19 ht
    · replace ht := ht.2 c7
      refine x_iconst (pc2 := 15) (v := 1) (by decide) dX12_isWall_14 rfl ?_
      refine x_goto 19 dX12_isWall_15 (by decide) ?_
      exact x_retZ rfl (Or.inr rfl) dX12_isWall_19 ht
theorem e_X12_isWall {G : GG} {d : Nat} {h : HP} {Q : Option Value → HP → Prop} {a0 : Nat} {x1 : Int32} (hd1 : 1 ≤ d) (ht : T_X12_isWall G d h Q a0 x1) : Cal G d mX12_isWall [.ref a0, .int x1] h Q := cal_of rfl (Nat.le_of_ble_eq_true rfl) (t_X12_isWall hd1 ht)
def T_X12_isFamily (G : GG) (d : Nat) (h : HP) (Q : Option Value → HP → Prop) (x0 : Int32) : Prop :=
  ((x0 < 0 → Q (some (.int 0)) h) ∧ (¬ x0 < 0 → ((12 ≤ x0 → Q (some (.int 0)) h) ∧ (¬ 12 ≤ x0 → Q (some (.int 1)) h))))
set_option maxRecDepth 20000 in
theorem t_X12_isFamily {G : GG} {d : Nat} {h : HP} {Q : Option Value → HP → Prop} {x0 : Int32} (ht : T_X12_isFamily G d h Q x0) : Ex G d mX12_isFamily 0 [(0, .int x0)] [] h Q := by
  unfold T_X12_isFamily at ht
  refine x_iload_n (pc2 := 1) 0 (n := 0) (x := x0) rfl dX12_isFamily_0 rfl ?_
  refine x_if_lt (pc2 := 4) 14 dX12_isFamily_1 (by decide) rfl (fun c1 => ?_) (fun c1 => ?_)
  · replace ht := ht.1 c1
    refine x_iconst (pc2 := 15) (v := 0) (by decide) dX12_isFamily_14 rfl ?_
    exact x_retZ rfl (Or.inl rfl) dX12_isFamily_15 ht
  · replace ht := ht.2 c1
    refine x_iload_n (pc2 := 5) 0 (n := 0) (x := x0) rfl dX12_isFamily_4 rfl ?_
    refine x_bipush (pc2 := 7) (v := 12) (by decide) dX12_isFamily_5 rfl ?_
    refine x_icmp_ge (pc2 := 10) 14 dX12_isFamily_7 (by decide) rfl (fun c2 => ?_) (fun c2 => ?_)
    · replace ht := ht.1 c2
      refine x_iconst (pc2 := 15) (v := 0) (by decide) dX12_isFamily_14 rfl ?_
      exact x_retZ rfl (Or.inl rfl) dX12_isFamily_15 ht
    · replace ht := ht.2 c2
      refine x_iconst (pc2 := 11) (v := 1) (by decide) dX12_isFamily_10 rfl ?_
      refine x_goto 15 dX12_isFamily_11 (by decide) ?_
      exact x_retZ rfl (Or.inr rfl) dX12_isFamily_15 ht
theorem e_X12_isFamily {G : GG} {d : Nat} {h : HP} {Q : Option Value → HP → Prop} {x0 : Int32} (ht : T_X12_isFamily G d h Q x0) : Cal G d mX12_isFamily [.int x0] h Q := cal_of rfl (Nat.le_of_ble_eq_true rfl) (t_X12_isFamily ht)
def T_X12_comes (G : GG) (d : Nat) (h : HP) (Q : Option Value → HP → Prop) (a0 : Nat) (x1 : Int32) (x2 : Int32) (x3 : Int32) (x4 : Int32) (x5 : Int32) (x6 : Int32) : Prop :=
  Cal G (d - 1) mX12_placeOf [.int x1] h (fun r1 h2 => ∃ v4, r1 = some (.int v4) ∧ Kd G h2 a0 12 ∧ ∃ q6, hR h2 a0 29 = some q6 ∧ Kd G h2 q6 14 ∧ vp_in v4 (hN h2 q6) ∧ vp_in (v4 + 1) (hN (sI h2 q6 v4.toNatClampNeg 1) q6) ∧ vp_in (v4 + 2) (hN (sI (sI h2 q6 v4.toNatClampNeg 1) q6 (v4 + 1).toNatClampNeg x2) q6) ∧ ∀ h12, h12 = (sI (sI (sI h2 q6 v4.toNatClampNeg 1) q6 (v4 + 1).toNatClampNeg x2) q6 (v4 + 2).toNatClampNeg x3) → vp_in (v4 + 3) (hN h12 q6) ∧ vp_in (v4 + 4) (hN (sI h12 q6 (v4 + 3).toNatClampNeg x4) q6) ∧ vp_in (v4 + 5) (hN (sI (sI h12 q6 (v4 + 3).toNatClampNeg x4) q6 (v4 + 4).toNatClampNeg x5) q6) ∧ ∀ h18, h18 = (sI (sI (sI h12 q6 (v4 + 3).toNatClampNeg x4) q6 (v4 + 4).toNatClampNeg x5) q6 (v4 + 5).toNatClampNeg x6) → vp_in (v4 + 6) (hN h18 q6) ∧ vp_in (v4 + 7) (hN (sI h18 q6 (v4 + 6).toNatClampNeg (-1)) q6) ∧ vp_in (v4 + 8) (hN (sI (sI h18 q6 (v4 + 6).toNatClampNeg (-1)) q6 (v4 + 7).toNatClampNeg (-1)) q6) ∧ ∀ h24, h24 = (sI (sI (sI h18 q6 (v4 + 6).toNatClampNeg (-1)) q6 (v4 + 7).toNatClampNeg (-1)) q6 (v4 + 8).toNatClampNeg (-1)) → vp_in (v4 + 9) (hN h24 q6) ∧ vp_in (v4 + 10) (hN (sI h24 q6 (v4 + 9).toNatClampNeg (-1)) q6) ∧ Q none (sI (sI h24 q6 (v4 + 9).toNatClampNeg (-1)) q6 (v4 + 10).toNatClampNeg 0))
set_option maxRecDepth 20000 in
theorem t_X12_comes {G : GG} {d : Nat} {h : HP} {Q : Option Value → HP → Prop} {a0 : Nat} {x1 : Int32} {x2 : Int32} {x3 : Int32} {x4 : Int32} {x5 : Int32} {x6 : Int32} (hd1 : 1 ≤ d) (ht : T_X12_comes G d h Q a0 x1 x2 x3 x4 x5 x6) : Ex G d mX12_comes 0 [(0, .ref a0), (1, .int x1), (2, .int x2), (3, .int x3), (4, .int x4), (5, .int x5), (6, .int x6)] [] h Q := by
  unfold T_X12_comes at ht
  refine x_iload_n (pc2 := 1) 1 (n := 1) (x := x1) rfl dX12_comes_0 rfl ?_
  refine x_callS (pc2 := 4) (As := [.int x1]) (rest := []) ms_X12_placeOf ml_X12_284 rfl rfl (Nat.le_of_ble_eq_true rfl) hd1 dX12_comes_1 rfl (ht.mono (fun r1 h2 p3 ht' => ?_))
  clear ht
  obtain ⟨v4, rfl, ht⟩ := ht'
  show Ex G d mX12_comes 4 [(0, .ref a0), (1, .int x1), (2, .int x2), (3, .int x3), (4, .int x4), (5, .int x5), (6, .int x6)] [.int v4] h2 Q
  refine x_istore (pc2 := 6) [1, 2, 3, 4, 5, 6, 7, 0] (n := 7) (x := v4) (lv2 := [(0, .ref a0), (1, .int x1), (2, .int x2), (3, .int x3), (4, .int x4), (5, .int x5), (6, .int x6), (7, .int v4)]) (by decide) rfl dX12_comes_4 rfl ?_
  refine x_aload_n (pc2 := 7) 0 (n := 0) (x := a0) rfl dX12_comes_6 rfl ?_
  obtain ⟨k5, ht⟩ := ht
  obtain ⟨q6, e7, ht⟩ := ht
  refine y_getR (pc2 := 10) (κ := 12) (k := 29) fl_X12_48 (by decide) (by decide) k5 rfl e7 dX12_comes_7 rfl ?_
  refine x_iload (pc2 := 12) 7 (n := 7) (x := v4) rfl dX12_comes_10 rfl ?_
  refine x_iconst (pc2 := 13) (v := 1) (by decide) dX12_comes_12 rfl ?_
  obtain ⟨k8, ht⟩ := ht
  obtain ⟨b9, ht⟩ := ht
  refine x_iast (pc2 := 14) k8 b9 dX12_comes_13 rfl ?_
  refine x_aload_n (pc2 := 15) 0 (n := 0) (x := a0) rfl dX12_comes_14 rfl ?_
  refine y_getR (pc2 := 18) (κ := 12) (k := 29) fl_X12_48 (by decide) (by decide) k5.sI rfl ((hR_sI _ _ _ _ _ _).trans e7) dX12_comes_15 rfl ?_
  refine x_iload (pc2 := 20) 7 (n := 7) (x := v4) rfl dX12_comes_18 rfl ?_
  refine x_iconst (pc2 := 21) (v := 1) (by decide) dX12_comes_20 rfl ?_
  refine x_iadd (pc2 := 22) dX12_comes_21 rfl ?_
  refine x_iload_n (pc2 := 23) 2 (n := 2) (x := x2) rfl dX12_comes_22 rfl ?_
  obtain ⟨b10, ht⟩ := ht
  refine x_iast (pc2 := 24) k8.sI b10 dX12_comes_23 rfl ?_
  refine x_aload_n (pc2 := 25) 0 (n := 0) (x := a0) rfl dX12_comes_24 rfl ?_
  refine y_getR (pc2 := 28) (κ := 12) (k := 29) fl_X12_48 (by decide) (by decide) k5.sI.sI rfl ((hR_sI _ _ _ _ _ _).trans ((hR_sI _ _ _ _ _ _).trans e7)) dX12_comes_25 rfl ?_
  refine x_iload (pc2 := 30) 7 (n := 7) (x := v4) rfl dX12_comes_28 rfl ?_
  refine x_iconst (pc2 := 31) (v := 2) (by decide) dX12_comes_30 rfl ?_
  refine x_iadd (pc2 := 32) dX12_comes_31 rfl ?_
  refine x_iload_n (pc2 := 33) 3 (n := 3) (x := x3) rfl dX12_comes_32 rfl ?_
  obtain ⟨b11, ht⟩ := ht
  refine x_iast (pc2 := 34) k8.sI.sI b11 dX12_comes_33 rfl ?_
  refine nm_I (fun h12 e13 p14 => ?_)
  replace ht := ht h12 e13
  refine x_aload_n (pc2 := 35) 0 (n := 0) (x := a0) rfl dX12_comes_34 rfl ?_
  refine y_getR (pc2 := 38) (κ := 12) (k := 29) fl_X12_48 (by decide) (by decide) (k5.sI.sI.up p14) rfl (by rw [e13]; exact ((hR_sI _ _ _ _ _ _).trans ((hR_sI _ _ _ _ _ _).trans ((hR_sI _ _ _ _ _ _).trans e7)))) dX12_comes_35 rfl ?_
  refine x_iload (pc2 := 40) 7 (n := 7) (x := v4) rfl dX12_comes_38 rfl ?_
  refine x_iconst (pc2 := 41) (v := 3) (by decide) dX12_comes_40 rfl ?_
  refine x_iadd (pc2 := 42) dX12_comes_41 rfl ?_
  refine x_iload (pc2 := 44) 4 (n := 4) (x := x4) rfl dX12_comes_42 rfl ?_
  obtain ⟨b15, ht⟩ := ht
  refine x_iast (pc2 := 45) (k8.sI.sI.up p14) b15 dX12_comes_44 rfl ?_
  refine x_aload_n (pc2 := 46) 0 (n := 0) (x := a0) rfl dX12_comes_45 rfl ?_
  refine y_getR (pc2 := 49) (κ := 12) (k := 29) fl_X12_48 (by decide) (by decide) (k5.sI.sI.up p14).sI rfl ((hR_sI _ _ _ _ _ _).trans (by rw [e13]; exact ((hR_sI _ _ _ _ _ _).trans ((hR_sI _ _ _ _ _ _).trans ((hR_sI _ _ _ _ _ _).trans e7))))) dX12_comes_46 rfl ?_
  refine x_iload (pc2 := 51) 7 (n := 7) (x := v4) rfl dX12_comes_49 rfl ?_
  refine x_iconst (pc2 := 52) (v := 4) (by decide) dX12_comes_51 rfl ?_
  refine x_iadd (pc2 := 53) dX12_comes_52 rfl ?_
  refine x_iload (pc2 := 55) 5 (n := 5) (x := x5) rfl dX12_comes_53 rfl ?_
  obtain ⟨b16, ht⟩ := ht
  refine x_iast (pc2 := 56) (k8.sI.sI.up p14).sI b16 dX12_comes_55 rfl ?_
  refine x_aload_n (pc2 := 57) 0 (n := 0) (x := a0) rfl dX12_comes_56 rfl ?_
  refine y_getR (pc2 := 60) (κ := 12) (k := 29) fl_X12_48 (by decide) (by decide) (k5.sI.sI.up p14).sI.sI rfl ((hR_sI _ _ _ _ _ _).trans ((hR_sI _ _ _ _ _ _).trans (by rw [e13]; exact ((hR_sI _ _ _ _ _ _).trans ((hR_sI _ _ _ _ _ _).trans ((hR_sI _ _ _ _ _ _).trans e7)))))) dX12_comes_57 rfl ?_
  refine x_iload (pc2 := 62) 7 (n := 7) (x := v4) rfl dX12_comes_60 rfl ?_
  refine x_iconst (pc2 := 63) (v := 5) (by decide) dX12_comes_62 rfl ?_
  refine x_iadd (pc2 := 64) dX12_comes_63 rfl ?_
  refine x_iload (pc2 := 66) 6 (n := 6) (x := x6) rfl dX12_comes_64 rfl ?_
  obtain ⟨b17, ht⟩ := ht
  refine x_iast (pc2 := 67) (k8.sI.sI.up p14).sI.sI b17 dX12_comes_66 rfl ?_
  refine nm_I (fun h18 e19 p20 => ?_)
  replace ht := ht h18 e19
  refine x_aload_n (pc2 := 68) 0 (n := 0) (x := a0) rfl dX12_comes_67 rfl ?_
  refine y_getR (pc2 := 71) (κ := 12) (k := 29) fl_X12_48 (by decide) (by decide) ((k5.sI.sI.up p14).sI.sI.up p20) rfl (by rw [e19]; exact ((hR_sI _ _ _ _ _ _).trans ((hR_sI _ _ _ _ _ _).trans ((hR_sI _ _ _ _ _ _).trans (by rw [e13]; exact ((hR_sI _ _ _ _ _ _).trans ((hR_sI _ _ _ _ _ _).trans ((hR_sI _ _ _ _ _ _).trans e7)))))))) dX12_comes_68 rfl ?_
  refine x_iload (pc2 := 73) 7 (n := 7) (x := v4) rfl dX12_comes_71 rfl ?_
  refine x_bipush (pc2 := 75) (v := 6) (by decide) dX12_comes_73 rfl ?_
  refine x_iadd (pc2 := 76) dX12_comes_75 rfl ?_
  refine x_iconst (pc2 := 77) (v := (-1)) (by decide) dX12_comes_76 rfl ?_
  obtain ⟨b21, ht⟩ := ht
  refine x_iast (pc2 := 78) ((k8.sI.sI.up p14).sI.sI.up p20) b21 dX12_comes_77 rfl ?_
  refine x_aload_n (pc2 := 79) 0 (n := 0) (x := a0) rfl dX12_comes_78 rfl ?_
  refine y_getR (pc2 := 82) (κ := 12) (k := 29) fl_X12_48 (by decide) (by decide) ((k5.sI.sI.up p14).sI.sI.up p20).sI rfl ((hR_sI _ _ _ _ _ _).trans (by rw [e19]; exact ((hR_sI _ _ _ _ _ _).trans ((hR_sI _ _ _ _ _ _).trans ((hR_sI _ _ _ _ _ _).trans (by rw [e13]; exact ((hR_sI _ _ _ _ _ _).trans ((hR_sI _ _ _ _ _ _).trans ((hR_sI _ _ _ _ _ _).trans e7))))))))) dX12_comes_79 rfl ?_
  refine x_iload (pc2 := 84) 7 (n := 7) (x := v4) rfl dX12_comes_82 rfl ?_
  refine x_bipush (pc2 := 86) (v := 7) (by decide) dX12_comes_84 rfl ?_
  refine x_iadd (pc2 := 87) dX12_comes_86 rfl ?_
  refine x_iconst (pc2 := 88) (v := (-1)) (by decide) dX12_comes_87 rfl ?_
  obtain ⟨b22, ht⟩ := ht
  refine x_iast (pc2 := 89) ((k8.sI.sI.up p14).sI.sI.up p20).sI b22 dX12_comes_88 rfl ?_
  refine x_aload_n (pc2 := 90) 0 (n := 0) (x := a0) rfl dX12_comes_89 rfl ?_
  refine y_getR (pc2 := 93) (κ := 12) (k := 29) fl_X12_48 (by decide) (by decide) ((k5.sI.sI.up p14).sI.sI.up p20).sI.sI rfl ((hR_sI _ _ _ _ _ _).trans ((hR_sI _ _ _ _ _ _).trans (by rw [e19]; exact ((hR_sI _ _ _ _ _ _).trans ((hR_sI _ _ _ _ _ _).trans ((hR_sI _ _ _ _ _ _).trans (by rw [e13]; exact ((hR_sI _ _ _ _ _ _).trans ((hR_sI _ _ _ _ _ _).trans ((hR_sI _ _ _ _ _ _).trans e7)))))))))) dX12_comes_90 rfl ?_
  refine x_iload (pc2 := 95) 7 (n := 7) (x := v4) rfl dX12_comes_93 rfl ?_
  refine x_bipush (pc2 := 97) (v := 8) (by decide) dX12_comes_95 rfl ?_
  refine x_iadd (pc2 := 98) dX12_comes_97 rfl ?_
  refine x_iconst (pc2 := 99) (v := (-1)) (by decide) dX12_comes_98 rfl ?_
  obtain ⟨b23, ht⟩ := ht
  refine x_iast (pc2 := 100) ((k8.sI.sI.up p14).sI.sI.up p20).sI.sI b23 dX12_comes_99 rfl ?_
  refine nm_I (fun h24 e25 p26 => ?_)
  replace ht := ht h24 e25
  refine x_aload_n (pc2 := 101) 0 (n := 0) (x := a0) rfl dX12_comes_100 rfl ?_
  refine y_getR (pc2 := 104) (κ := 12) (k := 29) fl_X12_48 (by decide) (by decide) (((k5.sI.sI.up p14).sI.sI.up p20).sI.sI.up p26) rfl (by rw [e25]; exact ((hR_sI _ _ _ _ _ _).trans ((hR_sI _ _ _ _ _ _).trans ((hR_sI _ _ _ _ _ _).trans (by rw [e19]; exact ((hR_sI _ _ _ _ _ _).trans ((hR_sI _ _ _ _ _ _).trans ((hR_sI _ _ _ _ _ _).trans (by rw [e13]; exact ((hR_sI _ _ _ _ _ _).trans ((hR_sI _ _ _ _ _ _).trans ((hR_sI _ _ _ _ _ _).trans e7)))))))))))) dX12_comes_101 rfl ?_
  refine x_iload (pc2 := 106) 7 (n := 7) (x := v4) rfl dX12_comes_104 rfl ?_
  refine x_bipush (pc2 := 108) (v := 9) (by decide) dX12_comes_106 rfl ?_
  refine x_iadd (pc2 := 109) dX12_comes_108 rfl ?_
  refine x_iconst (pc2 := 110) (v := (-1)) (by decide) dX12_comes_109 rfl ?_
  obtain ⟨b27, ht⟩ := ht
  refine x_iast (pc2 := 111) (((k8.sI.sI.up p14).sI.sI.up p20).sI.sI.up p26) b27 dX12_comes_110 rfl ?_
  refine x_aload_n (pc2 := 112) 0 (n := 0) (x := a0) rfl dX12_comes_111 rfl ?_
  refine y_getR (pc2 := 115) (κ := 12) (k := 29) fl_X12_48 (by decide) (by decide) (((k5.sI.sI.up p14).sI.sI.up p20).sI.sI.up p26).sI rfl ((hR_sI _ _ _ _ _ _).trans (by rw [e25]; exact ((hR_sI _ _ _ _ _ _).trans ((hR_sI _ _ _ _ _ _).trans ((hR_sI _ _ _ _ _ _).trans (by rw [e19]; exact ((hR_sI _ _ _ _ _ _).trans ((hR_sI _ _ _ _ _ _).trans ((hR_sI _ _ _ _ _ _).trans (by rw [e13]; exact ((hR_sI _ _ _ _ _ _).trans ((hR_sI _ _ _ _ _ _).trans ((hR_sI _ _ _ _ _ _).trans e7))))))))))))) dX12_comes_112 rfl ?_
  refine x_iload (pc2 := 117) 7 (n := 7) (x := v4) rfl dX12_comes_115 rfl ?_
  refine x_bipush (pc2 := 119) (v := 10) (by decide) dX12_comes_117 rfl ?_
  refine x_iadd (pc2 := 120) dX12_comes_119 rfl ?_
  refine x_iconst (pc2 := 121) (v := 0) (by decide) dX12_comes_120 rfl ?_
  obtain ⟨b28, ht⟩ := ht
  refine x_iast (pc2 := 122) (((k8.sI.sI.up p14).sI.sI.up p20).sI.sI.up p26).sI b28 dX12_comes_121 rfl ?_
  exact x_retV rfl dX12_comes_122 ht
theorem e_X12_comes {G : GG} {d : Nat} {h : HP} {Q : Option Value → HP → Prop} {a0 : Nat} {x1 : Int32} {x2 : Int32} {x3 : Int32} {x4 : Int32} {x5 : Int32} {x6 : Int32} (hd1 : 1 ≤ d) (ht : T_X12_comes G d h Q a0 x1 x2 x3 x4 x5 x6) : Cal G d mX12_comes [.ref a0, .int x1, .int x2, .int x3, .int x4, .int x5, .int x6] h Q := cal_of rfl (Nat.le_of_ble_eq_true rfl) (t_X12_comes hd1 ht)
def T_X12_areClear (G : GG) (d : Nat) (h : HP) (Q : Option Value → HP → Prop) (x0 : Int32) (x1 : Int32) (x2 : Int32) (x3 : Int32) (x4 : Int32) (x5 : Int32) (x6 : Int32) (x7 : Int32) : Prop :=
  ((x2 < x4 → Q (some (.int 1)) h) ∧ (¬ x2 < x4 → ((x6 < x0 → Q (some (.int 1)) h) ∧ (¬ x6 < x0 → ((x3 < x5 → Q (some (.int 1)) h) ∧ (¬ x3 < x5 → ((x1 ≤ x7 → Q (some (.int 0)) h) ∧ (¬ x1 ≤ x7 → Q (some (.int 1)) h))))))))
set_option maxRecDepth 20000 in
theorem t_X12_areClear {G : GG} {d : Nat} {h : HP} {Q : Option Value → HP → Prop} {x0 : Int32} {x1 : Int32} {x2 : Int32} {x3 : Int32} {x4 : Int32} {x5 : Int32} {x6 : Int32} {x7 : Int32} (ht : T_X12_areClear G d h Q x0 x1 x2 x3 x4 x5 x6 x7) : Ex G d mX12_areClear 0 [(0, .int x0), (1, .int x1), (2, .int x2), (3, .int x3), (4, .int x4), (5, .int x5), (6, .int x6), (7, .int x7)] [] h Q := by
  unfold T_X12_areClear at ht
  refine x_iload_n (pc2 := 1) 2 (n := 2) (x := x2) rfl dX12_areClear_0 rfl ?_
  refine x_iload (pc2 := 3) 4 (n := 4) (x := x4) rfl dX12_areClear_1 rfl ?_
  refine x_icmp_lt (pc2 := 6) 24 dX12_areClear_3 (by decide) rfl (fun c1 => ?_) (fun c1 => ?_)
  · replace ht := ht.1 c1
    refine x_iconst (pc2 := 25) (v := 1) (by decide) dX12_areClear_24 rfl ?_
    refine x_goto 29 dX12_areClear_25 (by decide) ?_
    exact x_retZ rfl (Or.inr rfl) dX12_areClear_29 ht
  · replace ht := ht.2 c1
    refine x_iload (pc2 := 8) 6 (n := 6) (x := x6) rfl dX12_areClear_6 rfl ?_
    refine x_iload_n (pc2 := 9) 0 (n := 0) (x := x0) rfl dX12_areClear_8 rfl ?_
    refine x_icmp_lt (pc2 := 12) 24 dX12_areClear_9 (by decide) rfl (fun c2 => ?_) (fun c2 => ?_)
    · replace ht := ht.1 c2
      refine x_iconst (pc2 := 25) (v := 1) (by decide) dX12_areClear_24 rfl ?_
      refine x_goto 29 dX12_areClear_25 (by decide) ?_
      exact x_retZ rfl (Or.inr rfl) dX12_areClear_29 ht
    · replace ht := ht.2 c2
      refine x_iload_n (pc2 := 13) 3 (n := 3) (x := x3) rfl dX12_areClear_12 rfl ?_
      refine x_iload (pc2 := 15) 5 (n := 5) (x := x5) rfl dX12_areClear_13 rfl ?_
      refine x_icmp_lt (pc2 := 18) 24 dX12_areClear_15 (by decide) rfl (fun c3 => ?_) (fun c3 => ?_)
      · replace ht := ht.1 c3
        refine x_iconst (pc2 := 25) (v := 1) (by decide) dX12_areClear_24 rfl ?_
        refine x_goto 29 dX12_areClear_25 (by decide) ?_
        exact x_retZ rfl (Or.inr rfl) dX12_areClear_29 ht
      · replace ht := ht.2 c3
        refine x_iload (pc2 := 20) 7 (n := 7) (x := x7) rfl dX12_areClear_18 rfl ?_
        refine x_iload_n (pc2 := 21) 1 (n := 1) (x := x1) rfl dX12_areClear_20 rfl ?_
        refine x_icmp_ge (pc2 := 24) 28 dX12_areClear_21 (by decide) rfl (fun c4 => ?_) (fun c4 => ?_)
        · replace ht := ht.1 c4
          refine x_iconst (pc2 := 29) (v := 0) (by decide) dX12_areClear_28 rfl ?_
          exact x_retZ rfl (Or.inl rfl) dX12_areClear_29 ht
        · replace ht := ht.2 c4
          refine x_iconst (pc2 := 25) (v := 1) (by decide) dX12_areClear_24 rfl ?_
          refine x_goto 29 dX12_areClear_25 (by decide) ?_
          exact x_retZ rfl (Or.inr rfl) dX12_areClear_29 ht
theorem e_X12_areClear {G : GG} {d : Nat} {h : HP} {Q : Option Value → HP → Prop} {x0 : Int32} {x1 : Int32} {x2 : Int32} {x3 : Int32} {x4 : Int32} {x5 : Int32} {x6 : Int32} {x7 : Int32} (ht : T_X12_areClear G d h Q x0 x1 x2 x3 x4 x5 x6 x7) : Cal G d mX12_areClear [.int x0, .int x1, .int x2, .int x3, .int x4, .int x5, .int x6, .int x7] h Q := cal_of rfl (Nat.le_of_ble_eq_true rfl) (t_X12_areClear ht)
def T_X12_isOuter (G : GG) (d : Nat) (h : HP) (Q : Option Value → HP → Prop) (a0 : Nat) (x1 : Int32) : Prop :=
  Kd G h a0 12 ∧ Cal G (d - 1) mX12_of [.ref a0, .int x1, .int 6] h (fun r1 h2 => ∃ v5, r1 = some (.int v5) ∧ ((¬ v5 = (-1) → Q (some (.int 0)) h2) ∧ (v5 = (-1) → Q (some (.int 1)) h2)))
set_option maxRecDepth 20000 in
theorem t_X12_isOuter {G : GG} {d : Nat} {h : HP} {Q : Option Value → HP → Prop} {a0 : Nat} {x1 : Int32} (hd1 : 1 ≤ d) (ht : T_X12_isOuter G d h Q a0 x1) : Ex G d mX12_isOuter 0 [(0, .ref a0), (1, .int x1)] [] h Q := by
  unfold T_X12_isOuter at ht
  refine x_aload_n (pc2 := 1) 0 (n := 0) (x := a0) rfl dX12_isOuter_0 rfl ?_
  refine x_iload_n (pc2 := 2) 1 (n := 1) (x := x1) rfl dX12_isOuter_1 rfl ?_
  refine x_bipush (pc2 := 4) (v := 6) (by decide) dX12_isOuter_2 rfl ?_
  obtain ⟨k4, ht⟩ := ht
  refine x_callV (pc2 := 7) (As := [.int x1, .int 6]) (rest := []) (b := a0) mv_X12_of ml_X12_310 k4 rfl rfl (Nat.le_of_ble_eq_true rfl) hd1 dX12_isOuter_4 rfl (ht.mono (fun r1 h2 p3 ht' => ?_))
  clear ht
  obtain ⟨v5, rfl, ht⟩ := ht'
  show Ex G d mX12_isOuter 7 [(0, .ref a0), (1, .int x1)] [.int v5] h2 Q
  refine x_iconst (pc2 := 8) (v := (-1)) (by decide) dX12_isOuter_7 rfl ?_
  refine y_icmp_ne (pc2 := 11) 15 dX12_isOuter_8 (by decide) rfl (fun c6 => ?_) (fun c6 => ?_)
  · replace ht := ht.1 c6
    refine x_iconst (pc2 := 16) (v := 0) (by decide) dX12_isOuter_15 rfl ?_
    exact x_retZ rfl (Or.inl rfl) dX12_isOuter_16 ht
  · replace ht := ht.2 c6
    refine x_iconst (pc2 := 12) (v := 1) (by decide) dX12_isOuter_11 rfl ?_
    refine x_goto 16 dX12_isOuter_12 (by decide) ?_
    exact x_retZ rfl (Or.inr rfl) dX12_isOuter_16 ht
theorem e_X12_isOuter {G : GG} {d : Nat} {h : HP} {Q : Option Value → HP → Prop} {a0 : Nat} {x1 : Int32} (hd1 : 1 ≤ d) (ht : T_X12_isOuter G d h Q a0 x1) : Cal G d mX12_isOuter [.ref a0, .int x1] h Q := cal_of rfl (Nat.le_of_ble_eq_true rfl) (t_X12_isOuter hd1 ht)
def T_X12_cellsOf (G : GG) (d : Nat) (h : HP) (Q : Option Value → HP → Prop) (a0 : Nat) (x1 : Int32) : Prop :=
  Kd G h a0 12 ∧ Cal G (d - 1) mX12_of [.ref a0, .int x1, .int 3] h (fun r1 h2 => ∃ v5, r1 = some (.int v5) ∧ Cal G (d - 1) mX12_of [.ref a0, .int x1, .int 1] h2 (fun r6 h7 => ∃ v9, r6 = some (.int v9) ∧ Cal G (d - 1) mX12_of [.ref a0, .int x1, .int 4] h7 (fun r10 h11 => ∃ v13, r10 = some (.int v13) ∧ Cal G (d - 1) mX12_of [.ref a0, .int x1, .int 2] h11 (fun r14 h15 => ∃ v17, r14 = some (.int v17) ∧ Q (some (.int ((v5 - v9) * (v13 - v17)))) h15))))
set_option maxRecDepth 20000 in
theorem t_X12_cellsOf {G : GG} {d : Nat} {h : HP} {Q : Option Value → HP → Prop} {a0 : Nat} {x1 : Int32} (hd1 : 1 ≤ d) (ht : T_X12_cellsOf G d h Q a0 x1) : Ex G d mX12_cellsOf 0 [(0, .ref a0), (1, .int x1)] [] h Q := by
  unfold T_X12_cellsOf at ht
  refine x_aload_n (pc2 := 1) 0 (n := 0) (x := a0) rfl dX12_cellsOf_0 rfl ?_
  refine x_iload_n (pc2 := 2) 1 (n := 1) (x := x1) rfl dX12_cellsOf_1 rfl ?_
  refine x_iconst (pc2 := 3) (v := 3) (by decide) dX12_cellsOf_2 rfl ?_
  obtain ⟨k4, ht⟩ := ht
  refine x_callV (pc2 := 6) (As := [.int x1, .int 3]) (rest := []) (b := a0) mv_X12_of ml_X12_310 k4 rfl rfl (Nat.le_of_ble_eq_true rfl) hd1 dX12_cellsOf_3 rfl (ht.mono (fun r1 h2 p3 ht' => ?_))
  clear ht
  obtain ⟨v5, rfl, ht⟩ := ht'
  show Ex G d mX12_cellsOf 6 [(0, .ref a0), (1, .int x1)] [.int v5] h2 Q
  refine x_aload_n (pc2 := 7) 0 (n := 0) (x := a0) rfl dX12_cellsOf_6 rfl ?_
  refine x_iload_n (pc2 := 8) 1 (n := 1) (x := x1) rfl dX12_cellsOf_7 rfl ?_
  refine x_iconst (pc2 := 9) (v := 1) (by decide) dX12_cellsOf_8 rfl ?_
  refine x_callV (pc2 := 12) (As := [.int x1, .int 1]) (rest := [.int v5]) (b := a0) mv_X12_of ml_X12_310 (k4.up p3) rfl rfl (Nat.le_of_ble_eq_true rfl) hd1 dX12_cellsOf_9 rfl (ht.mono (fun r6 h7 p8 ht' => ?_))
  clear ht
  obtain ⟨v9, rfl, ht⟩ := ht'
  show Ex G d mX12_cellsOf 12 [(0, .ref a0), (1, .int x1)] [.int v9, .int v5] h7 Q
  refine x_isub (pc2 := 13) dX12_cellsOf_12 rfl ?_
  refine x_aload_n (pc2 := 14) 0 (n := 0) (x := a0) rfl dX12_cellsOf_13 rfl ?_
  refine x_iload_n (pc2 := 15) 1 (n := 1) (x := x1) rfl dX12_cellsOf_14 rfl ?_
  refine x_iconst (pc2 := 16) (v := 4) (by decide) dX12_cellsOf_15 rfl ?_
  refine x_callV (pc2 := 19) (As := [.int x1, .int 4]) (rest := [.int (v5 - v9)]) (b := a0) mv_X12_of ml_X12_310 ((k4.up p3).up p8) rfl rfl (Nat.le_of_ble_eq_true rfl) hd1 dX12_cellsOf_16 rfl (ht.mono (fun r10 h11 p12 ht' => ?_))
  clear ht
  obtain ⟨v13, rfl, ht⟩ := ht'
  show Ex G d mX12_cellsOf 19 [(0, .ref a0), (1, .int x1)] [.int v13, .int (v5 - v9)] h11 Q
  refine x_aload_n (pc2 := 20) 0 (n := 0) (x := a0) rfl dX12_cellsOf_19 rfl ?_
  refine x_iload_n (pc2 := 21) 1 (n := 1) (x := x1) rfl dX12_cellsOf_20 rfl ?_
  refine x_iconst (pc2 := 22) (v := 2) (by decide) dX12_cellsOf_21 rfl ?_
  refine x_callV (pc2 := 25) (As := [.int x1, .int 2]) (rest := [.int v13, .int (v5 - v9)]) (b := a0) mv_X12_of ml_X12_310 (((k4.up p3).up p8).up p12) rfl rfl (Nat.le_of_ble_eq_true rfl) hd1 dX12_cellsOf_22 rfl (ht.mono (fun r14 h15 p16 ht' => ?_))
  clear ht
  obtain ⟨v17, rfl, ht⟩ := ht'
  show Ex G d mX12_cellsOf 25 [(0, .ref a0), (1, .int x1)] [.int v17, .int v13, .int (v5 - v9)] h15 Q
  refine x_isub (pc2 := 26) dX12_cellsOf_25 rfl ?_
  refine x_imul (pc2 := 27) dX12_cellsOf_26 rfl ?_
  exact x_ret (ty := .int) rfl rfl dX12_cellsOf_27 ht
theorem e_X12_cellsOf {G : GG} {d : Nat} {h : HP} {Q : Option Value → HP → Prop} {a0 : Nat} {x1 : Int32} (hd1 : 1 ≤ d) (ht : T_X12_cellsOf G d h Q a0 x1) : Cal G d mX12_cellsOf [.ref a0, .int x1] h Q := cal_of rfl (Nat.le_of_ble_eq_true rfl) (t_X12_cellsOf hd1 ht)
def T_X12_hasCell (G : GG) (d : Nat) (h : HP) (Q : Option Value → HP → Prop) (a0 : Nat) (x1 : Int32) (x2 : Int32) (x3 : Int32) : Prop :=
  Kd G h a0 12 ∧ Cal G (d - 1) mX12_of [.ref a0, .int x1, .int 1] h (fun r1 h2 => ∃ v5, r1 = some (.int v5) ∧ ((x2 < v5 → Q (some (.int 0)) h2) ∧ (¬ x2 < v5 → Cal G (d - 1) mX12_of [.ref a0, .int x1, .int 3] h2 (fun r7 h8 => ∃ v10, r7 = some (.int v10) ∧ ((v10 ≤ x2 → Q (some (.int 0)) h8) ∧ (¬ v10 ≤ x2 → Cal G (d - 1) mX12_of [.ref a0, .int x1, .int 2] h8 (fun r12 h13 => ∃ v15, r12 = some (.int v15) ∧ ((x3 < v15 → Q (some (.int 0)) h13) ∧ (¬ x3 < v15 → Cal G (d - 1) mX12_of [.ref a0, .int x1, .int 4] h13 (fun r17 h18 => ∃ v20, r17 = some (.int v20) ∧ ((v20 ≤ x3 → Q (some (.int 0)) h18) ∧ (¬ v20 ≤ x3 → Q (some (.int 1)) h18))))))))))))
set_option maxRecDepth 20000 in
theorem t_X12_hasCell {G : GG} {d : Nat} {h : HP} {Q : Option Value → HP → Prop} {a0 : Nat} {x1 : Int32} {x2 : Int32} {x3 : Int32} (hd1 : 1 ≤ d) (ht : T_X12_hasCell G d h Q a0 x1 x2 x3) : Ex G d mX12_hasCell 0 [(0, .ref a0), (1, .int x1), (2, .int x2), (3, .int x3)] [] h Q := by
  unfold T_X12_hasCell at ht
  refine x_iload_n (pc2 := 1) 2 (n := 2) (x := x2) rfl dX12_hasCell_0 rfl ?_
  refine x_aload_n (pc2 := 2) 0 (n := 0) (x := a0) rfl dX12_hasCell_1 rfl ?_
  refine x_iload_n (pc2 := 3) 1 (n := 1) (x := x1) rfl dX12_hasCell_2 rfl ?_
  refine x_iconst (pc2 := 4) (v := 1) (by decide) dX12_hasCell_3 rfl ?_
  obtain ⟨k4, ht⟩ := ht
  refine x_callV (pc2 := 7) (As := [.int x1, .int 1]) (rest := [.int x2]) (b := a0) mv_X12_of ml_X12_310 k4 rfl rfl (Nat.le_of_ble_eq_true rfl) hd1 dX12_hasCell_4 rfl (ht.mono (fun r1 h2 p3 ht' => ?_))
  clear ht
  obtain ⟨v5, rfl, ht⟩ := ht'
  show Ex G d mX12_hasCell 7 [(0, .ref a0), (1, .int x1), (2, .int x2), (3, .int x3)] [.int v5, .int x2] h2 Q
  refine x_icmp_lt (pc2 := 10) 44 dX12_hasCell_7 (by decide) rfl (fun c6 => ?_) (fun c6 => ?_)
  · replace ht := ht.1 c6
    refine x_iconst (pc2 := 45) (v := 0) (by decide) dX12_hasCell_44 rfl ?_
    exact x_retZ rfl (Or.inl rfl) dX12_hasCell_45 ht
  · replace ht := ht.2 c6
    refine x_iload_n (pc2 := 11) 2 (n := 2) (x := x2) rfl dX12_hasCell_10 rfl ?_
    refine x_aload_n (pc2 := 12) 0 (n := 0) (x := a0) rfl dX12_hasCell_11 rfl ?_
    refine x_iload_n (pc2 := 13) 1 (n := 1) (x := x1) rfl dX12_hasCell_12 rfl ?_
    refine x_iconst (pc2 := 14) (v := 3) (by decide) dX12_hasCell_13 rfl ?_
    refine x_callV (pc2 := 17) (As := [.int x1, .int 3]) (rest := [.int x2]) (b := a0) mv_X12_of ml_X12_310 (k4.up p3) rfl rfl (Nat.le_of_ble_eq_true rfl) hd1 dX12_hasCell_14 rfl (ht.mono (fun r7 h8 p9 ht' => ?_))
    clear ht
    obtain ⟨v10, rfl, ht⟩ := ht'
    show Ex G d mX12_hasCell 17 [(0, .ref a0), (1, .int x1), (2, .int x2), (3, .int x3)] [.int v10, .int x2] h8 Q
    refine x_icmp_ge (pc2 := 20) 44 dX12_hasCell_17 (by decide) rfl (fun c11 => ?_) (fun c11 => ?_)
    · replace ht := ht.1 c11
      refine x_iconst (pc2 := 45) (v := 0) (by decide) dX12_hasCell_44 rfl ?_
      exact x_retZ rfl (Or.inl rfl) dX12_hasCell_45 ht
    · replace ht := ht.2 c11
      refine x_iload_n (pc2 := 21) 3 (n := 3) (x := x3) rfl dX12_hasCell_20 rfl ?_
      refine x_aload_n (pc2 := 22) 0 (n := 0) (x := a0) rfl dX12_hasCell_21 rfl ?_
      refine x_iload_n (pc2 := 23) 1 (n := 1) (x := x1) rfl dX12_hasCell_22 rfl ?_
      refine x_iconst (pc2 := 24) (v := 2) (by decide) dX12_hasCell_23 rfl ?_
      refine x_callV (pc2 := 27) (As := [.int x1, .int 2]) (rest := [.int x3]) (b := a0) mv_X12_of ml_X12_310 ((k4.up p3).up p9) rfl rfl (Nat.le_of_ble_eq_true rfl) hd1 dX12_hasCell_24 rfl (ht.mono (fun r12 h13 p14 ht' => ?_))
      clear ht
      obtain ⟨v15, rfl, ht⟩ := ht'
      show Ex G d mX12_hasCell 27 [(0, .ref a0), (1, .int x1), (2, .int x2), (3, .int x3)] [.int v15, .int x3] h13 Q
      refine x_icmp_lt (pc2 := 30) 44 dX12_hasCell_27 (by decide) rfl (fun c16 => ?_) (fun c16 => ?_)
      · replace ht := ht.1 c16
        refine x_iconst (pc2 := 45) (v := 0) (by decide) dX12_hasCell_44 rfl ?_
        exact x_retZ rfl (Or.inl rfl) dX12_hasCell_45 ht
      · replace ht := ht.2 c16
        refine x_iload_n (pc2 := 31) 3 (n := 3) (x := x3) rfl dX12_hasCell_30 rfl ?_
        refine x_aload_n (pc2 := 32) 0 (n := 0) (x := a0) rfl dX12_hasCell_31 rfl ?_
        refine x_iload_n (pc2 := 33) 1 (n := 1) (x := x1) rfl dX12_hasCell_32 rfl ?_
        refine x_iconst (pc2 := 34) (v := 4) (by decide) dX12_hasCell_33 rfl ?_
        refine x_callV (pc2 := 37) (As := [.int x1, .int 4]) (rest := [.int x3]) (b := a0) mv_X12_of ml_X12_310 (((k4.up p3).up p9).up p14) rfl rfl (Nat.le_of_ble_eq_true rfl) hd1 dX12_hasCell_34 rfl (ht.mono (fun r17 h18 p19 ht' => ?_))
        clear ht
        obtain ⟨v20, rfl, ht⟩ := ht'
        show Ex G d mX12_hasCell 37 [(0, .ref a0), (1, .int x1), (2, .int x2), (3, .int x3)] [.int v20, .int x3] h18 Q
        refine x_icmp_ge (pc2 := 40) 44 dX12_hasCell_37 (by decide) rfl (fun c21 => ?_) (fun c21 => ?_)
        · replace ht := ht.1 c21
          refine x_iconst (pc2 := 45) (v := 0) (by decide) dX12_hasCell_44 rfl ?_
          exact x_retZ rfl (Or.inl rfl) dX12_hasCell_45 ht
        · replace ht := ht.2 c21
          refine x_iconst (pc2 := 41) (v := 1) (by decide) dX12_hasCell_40 rfl ?_
          refine x_goto 45 dX12_hasCell_41 (by decide) ?_
          exact x_retZ rfl (Or.inr rfl) dX12_hasCell_45 ht
theorem e_X12_hasCell {G : GG} {d : Nat} {h : HP} {Q : Option Value → HP → Prop} {a0 : Nat} {x1 : Int32} {x2 : Int32} {x3 : Int32} (hd1 : 1 ≤ d) (ht : T_X12_hasCell G d h Q a0 x1 x2 x3) : Cal G d mX12_hasCell [.ref a0, .int x1, .int x2, .int x3] h Q := cal_of rfl (Nat.le_of_ble_eq_true rfl) (t_X12_hasCell hd1 ht)
def T_X12_liesIn (G : GG) (d : Nat) (h : HP) (Q : Option Value → HP → Prop) (a0 : Nat) (x1 : Int32) (x2 : Int32) : Prop :=
  Kd G h a0 12 ∧ Cal G (d - 1) mX12_of [.ref a0, .int x1, .int 6] h (fun r1 h2 => ∃ v5, r1 = some (.int v5) ∧ Ex G d mX12_liesIn 8 [(0, .ref a0), (1, .int x1), (2, .int x2), (3, .int v5)] [] h2 Q)
set_option maxRecDepth 20000 in
theorem t_X12_liesIn {G : GG} {d : Nat} {h : HP} {Q : Option Value → HP → Prop} {a0 : Nat} {x1 : Int32} {x2 : Int32} (hd1 : 1 ≤ d) (ht : T_X12_liesIn G d h Q a0 x1 x2) : Ex G d mX12_liesIn 0 [(0, .ref a0), (1, .int x1), (2, .int x2)] [] h Q := by
  unfold T_X12_liesIn at ht
  refine x_aload_n (pc2 := 1) 0 (n := 0) (x := a0) rfl dX12_liesIn_0 rfl ?_
  refine x_iload_n (pc2 := 2) 1 (n := 1) (x := x1) rfl dX12_liesIn_1 rfl ?_
  refine x_bipush (pc2 := 4) (v := 6) (by decide) dX12_liesIn_2 rfl ?_
  obtain ⟨k4, ht⟩ := ht
  refine x_callV (pc2 := 7) (As := [.int x1, .int 6]) (rest := []) (b := a0) mv_X12_of ml_X12_310 k4 rfl rfl (Nat.le_of_ble_eq_true rfl) hd1 dX12_liesIn_4 rfl (ht.mono (fun r1 h2 p3 ht' => ?_))
  clear ht
  obtain ⟨v5, rfl, ht⟩ := ht'
  show Ex G d mX12_liesIn 7 [(0, .ref a0), (1, .int x1), (2, .int x2)] [.int v5] h2 Q
  refine x_istore_n (pc2 := 8) [1, 2, 3, 0] (n := 3) (x := v5) (lv2 := [(0, .ref a0), (1, .int x1), (2, .int x2), (3, .int v5)]) (by decide) rfl dX12_liesIn_7 rfl ?_
  exact ht
theorem e_X12_liesIn {G : GG} {d : Nat} {h : HP} {Q : Option Value → HP → Prop} {a0 : Nat} {x1 : Int32} {x2 : Int32} (hd1 : 1 ≤ d) (ht : T_X12_liesIn G d h Q a0 x1 x2) : Cal G d mX12_liesIn [.ref a0, .int x1, .int x2] h Q := cal_of rfl (Nat.le_of_ble_eq_true rfl) (t_X12_liesIn hd1 ht)
def T_X12_liesIn_8 (G : GG) (d : Nat) (h : HP) (Q : Option Value → HP → Prop) (a0 : Nat) (x1 : Int32) (x2 : Int32) (x3 : Int32) : Prop :=
  ((x3 = (-1) → ((¬ x3 = x2 → Q (some (.int 0)) h) ∧ (x3 = x2 → Q (some (.int 1)) h))) ∧ (¬ x3 = (-1) → ((x3 = x2 → ((¬ x3 = x2 → Q (some (.int 0)) h) ∧ (x3 = x2 → Q (some (.int 1)) h))) ∧ (¬ x3 = x2 → Kd G h a0 12 ∧ Cal G (d - 1) mX12_of [.ref a0, .int x3, .int 6] h (fun r5 h6 => ∃ v9, r5 = some (.int v9) ∧ Ex G d mX12_liesIn 8 [(0, .ref a0), (1, .int x1), (2, .int x2), (3, .int v9)] [] h6 Q)))))
set_option maxRecDepth 20000 in
theorem t_X12_liesIn_8 {G : GG} {d : Nat} {h : HP} {Q : Option Value → HP → Prop} {a0 : Nat} {x1 : Int32} {x2 : Int32} {x3 : Int32} (hd1 : 1 ≤ d) (ht : T_X12_liesIn_8 G d h Q a0 x1 x2 x3) : Ex G d mX12_liesIn 8 [(0, .ref a0), (1, .int x1), (2, .int x2), (3, .int x3)] [] h Q := by
  unfold T_X12_liesIn_8 at ht
  refine x_iload_n (pc2 := 9) 3 (n := 3) (x := x3) rfl dX12_liesIn_8 rfl ?_
  refine x_iconst (pc2 := 10) (v := (-1)) (by decide) dX12_liesIn_9 rfl ?_
  refine x_icmp_eq (pc2 := 13) 29 dX12_liesIn_10 (by decide) rfl (fun c1 => ?_) (fun c1 => ?_)
  · replace ht := ht.1 c1
    refine x_iload_n (pc2 := 30) 3 (n := 3) (x := x3) rfl dX12_liesIn_29 rfl ?_
    refine x_iload_n (pc2 := 31) 2 (n := 2) (x := x2) rfl dX12_liesIn_30 rfl ?_
    refine y_icmp_ne (pc2 := 34) 38 dX12_liesIn_31 (by decide) rfl (fun c2 => ?_) (fun c2 => ?_)
    · replace ht := ht.1 c2
      refine x_iconst (pc2 := 39) (v := 0) (by decide) dX12_liesIn_38 rfl ?_
      exact x_retZ rfl (Or.inl rfl) dX12_liesIn_39 ht
    · replace ht := ht.2 c2
      refine x_iconst (pc2 := 35) (v := 1) (by decide) dX12_liesIn_34 rfl ?_
      refine x_goto 39 dX12_liesIn_35 (by decide) ?_
      exact x_retZ rfl (Or.inr rfl) dX12_liesIn_39 ht
  · replace ht := ht.2 c1
    refine x_iload_n (pc2 := 14) 3 (n := 3) (x := x3) rfl dX12_liesIn_13 rfl ?_
    refine x_iload_n (pc2 := 15) 2 (n := 2) (x := x2) rfl dX12_liesIn_14 rfl ?_
    refine x_icmp_eq (pc2 := 18) 29 dX12_liesIn_15 (by decide) rfl (fun c3 => ?_) (fun c3 => ?_)
    · replace ht := ht.1 c3
      refine x_iload_n (pc2 := 30) 3 (n := 3) (x := x3) rfl dX12_liesIn_29 rfl ?_
      refine x_iload_n (pc2 := 31) 2 (n := 2) (x := x2) rfl dX12_liesIn_30 rfl ?_
      refine y_icmp_ne (pc2 := 34) 38 dX12_liesIn_31 (by decide) rfl (fun c4 => ?_) (fun c4 => ?_)
      · replace ht := ht.1 c4
        refine x_iconst (pc2 := 39) (v := 0) (by decide) dX12_liesIn_38 rfl ?_
        exact x_retZ rfl (Or.inl rfl) dX12_liesIn_39 ht
      · replace ht := ht.2 c4
        refine x_iconst (pc2 := 35) (v := 1) (by decide) dX12_liesIn_34 rfl ?_
        refine x_goto 39 dX12_liesIn_35 (by decide) ?_
        exact x_retZ rfl (Or.inr rfl) dX12_liesIn_39 ht
    · replace ht := ht.2 c3
      refine x_aload_n (pc2 := 19) 0 (n := 0) (x := a0) rfl dX12_liesIn_18 rfl ?_
      refine x_iload_n (pc2 := 20) 3 (n := 3) (x := x3) rfl dX12_liesIn_19 rfl ?_
      refine x_bipush (pc2 := 22) (v := 6) (by decide) dX12_liesIn_20 rfl ?_
      obtain ⟨k8, ht⟩ := ht
      refine x_callV (pc2 := 25) (As := [.int x3, .int 6]) (rest := []) (b := a0) mv_X12_of ml_X12_310 k8 rfl rfl (Nat.le_of_ble_eq_true rfl) hd1 dX12_liesIn_22 rfl (ht.mono (fun r5 h6 p7 ht' => ?_))
      clear ht
      obtain ⟨v9, rfl, ht⟩ := ht'
      show Ex G d mX12_liesIn 25 [(0, .ref a0), (1, .int x1), (2, .int x2), (3, .int x3)] [.int v9] h6 Q
      refine x_istore_n (pc2 := 26) [1, 2, 3, 0] (n := 3) (x := v9) (lv2 := [(0, .ref a0), (1, .int x1), (2, .int x2), (3, .int v9)]) (by decide) rfl dX12_liesIn_25 rfl ?_
      refine x_goto 8 dX12_liesIn_26 (by decide) ?_
      exact ht
def T_X12_deepOf (G : GG) (d : Nat) (h : HP) (Q : Option Value → HP → Prop) (a0 : Nat) (x1 : Int32) : Prop :=
  Ex G d mX12_deepOf 5 [(0, .ref a0), (1, .int x1), (2, .int 0), (3, .int 6)] [] h Q
set_option maxRecDepth 20000 in
theorem t_X12_deepOf {G : GG} {d : Nat} {h : HP} {Q : Option Value → HP → Prop} {a0 : Nat} {x1 : Int32} (ht : T_X12_deepOf G d h Q a0 x1) : Ex G d mX12_deepOf 0 [(0, .ref a0), (1, .int x1)] [] h Q := by
  unfold T_X12_deepOf at ht
  refine x_iconst (pc2 := 1) (v := 0) (by decide) dX12_deepOf_0 rfl ?_
  refine x_istore_n (pc2 := 2) [1, 2, 0] (n := 2) (x := 0) (lv2 := [(0, .ref a0), (1, .int x1), (2, .int 0)]) (by decide) rfl dX12_deepOf_1 rfl ?_
  refine x_bipush (pc2 := 4) (v := 6) (by decide) dX12_deepOf_2 rfl ?_
  refine x_istore_n (pc2 := 5) [1, 2, 3, 0] (n := 3) (x := 6) (lv2 := [(0, .ref a0), (1, .int x1), (2, .int 0), (3, .int 6)]) (by decide) rfl dX12_deepOf_4 rfl ?_
  exact ht
theorem e_X12_deepOf {G : GG} {d : Nat} {h : HP} {Q : Option Value → HP → Prop} {a0 : Nat} {x1 : Int32} (ht : T_X12_deepOf G d h Q a0 x1) : Cal G d mX12_deepOf [.ref a0, .int x1] h Q := cal_of rfl (Nat.le_of_ble_eq_true rfl) (t_X12_deepOf ht)
def T_X12_deepOf_5 (G : GG) (d : Nat) (h : HP) (Q : Option Value → HP → Prop) (a0 : Nat) (x1 : Int32) (x2 : Int32) (x3 : Int32) : Prop :=
  ((54 ≤ x3 → Q (some (.int x2)) h) ∧ (¬ 54 ≤ x3 → Kd G h a0 12 ∧ Cal G (d - 1) mX12_of [.ref a0, .int x3, .int 0] h (fun r2 h3 => ∃ v6, r2 = some (.int v6) ∧ ((¬ v6 = 1 → Ex G d mX12_deepOf 5 [(0, .ref a0), (1, .int x1), (2, .int (x2 + 0)), (3, .int (x3 + 1))] [] h3 Q) ∧ (v6 = 1 → Cal G (d - 1) mX12_liesIn [.ref a0, .int x3, .int x1] h3 (fun r8 h9 => ∃ v11, r8 = some (.int v11) ∧ ((v11 = 0 → Ex G d mX12_deepOf 5 [(0, .ref a0), (1, .int x1), (2, .int (x2 + 0)), (3, .int (x3 + 1))] [] h9 Q) ∧ (¬ v11 = 0 → Ex G d mX12_deepOf 5 [(0, .ref a0), (1, .int x1), (2, .int (x2 + 1)), (3, .int (x3 + 1))] [] h9 Q))))))))
set_option maxRecDepth 20000 in
theorem t_X12_deepOf_5 {G : GG} {d : Nat} {h : HP} {Q : Option Value → HP → Prop} {a0 : Nat} {x1 : Int32} {x2 : Int32} {x3 : Int32} (hd1 : 1 ≤ d) (ht : T_X12_deepOf_5 G d h Q a0 x1 x2 x3) : Ex G d mX12_deepOf 5 [(0, .ref a0), (1, .int x1), (2, .int x2), (3, .int x3)] [] h Q := by
  unfold T_X12_deepOf_5 at ht
  refine x_iload_n (pc2 := 6) 3 (n := 3) (x := x3) rfl dX12_deepOf_5 rfl ?_
  refine x_bipush (pc2 := 8) (v := 54) (by decide) dX12_deepOf_6 rfl ?_
  refine x_icmp_ge (pc2 := 11) 44 dX12_deepOf_8 (by decide) rfl (fun c1 => ?_) (fun c1 => ?_)
  · replace ht := ht.1 c1
    refine x_iload_n (pc2 := 45) 2 (n := 2) (x := x2) rfl dX12_deepOf_44 rfl ?_
    exact x_ret (ty := .int) rfl rfl dX12_deepOf_45 ht
  · replace ht := ht.2 c1
    refine x_iload_n (pc2 := 12) 2 (n := 2) (x := x2) rfl dX12_deepOf_11 rfl ?_
    refine x_aload_n (pc2 := 13) 0 (n := 0) (x := a0) rfl dX12_deepOf_12 rfl ?_
    refine x_iload_n (pc2 := 14) 3 (n := 3) (x := x3) rfl dX12_deepOf_13 rfl ?_
    refine x_iconst (pc2 := 15) (v := 0) (by decide) dX12_deepOf_14 rfl ?_
    obtain ⟨k5, ht⟩ := ht
    refine x_callV (pc2 := 18) (As := [.int x3, .int 0]) (rest := [.int x2]) (b := a0) mv_X12_of ml_X12_310 k5 rfl rfl (Nat.le_of_ble_eq_true rfl) hd1 dX12_deepOf_15 rfl (ht.mono (fun r2 h3 p4 ht' => ?_))
    clear ht
    obtain ⟨v6, rfl, ht⟩ := ht'
    show Ex G d mX12_deepOf 18 [(0, .ref a0), (1, .int x1), (2, .int x2), (3, .int x3)] [.int v6, .int x2] h3 Q
    refine x_iconst (pc2 := 19) (v := 1) (by decide) dX12_deepOf_18 rfl ?_
    refine y_icmp_ne (pc2 := 22) 35 dX12_deepOf_19 (by decide) rfl (fun c7 => ?_) (fun c7 => ?_)
    · replace ht := ht.1 c7
      refine x_iconst (pc2 := 36) (v := 0) (by decide) dX12_deepOf_35 rfl ?_
      refine x_iadd (pc2 := 37) dX12_deepOf_36 rfl ?_
      refine x_istore_n (pc2 := 38) [1, 2, 0, 3] (n := 2) (x := (x2 + 0)) (lv2 := [(0, .ref a0), (1, .int x1), (2, .int (x2 + 0)), (3, .int x3)]) (by decide) rfl dX12_deepOf_37 rfl ?_
      refine x_iinc (pc2 := 41) 3 [1, 2, 3, 0] (i := 3) (x := x3) (v := (x3 + 1)) (lv2 := [(0, .ref a0), (1, .int x1), (2, .int (x2 + 0)), (3, .int (x3 + 1))]) rfl (iinc_eq (by decide) _) (by decide) rfl dX12_deepOf_38 rfl ?_
      refine x_goto 5 dX12_deepOf_41 (by decide) ?_
      exact ht
    · replace ht := ht.2 c7
      refine x_aload_n (pc2 := 23) 0 (n := 0) (x := a0) rfl dX12_deepOf_22 rfl ?_
      refine x_iload_n (pc2 := 24) 3 (n := 3) (x := x3) rfl dX12_deepOf_23 rfl ?_
      refine x_iload_n (pc2 := 25) 1 (n := 1) (x := x1) rfl dX12_deepOf_24 rfl ?_
      refine x_callV (pc2 := 28) (As := [.int x3, .int x1]) (rest := [.int x2]) (b := a0) mv_X12_liesIn ml_X12_317 (k5.up p4) rfl rfl (Nat.le_of_ble_eq_true rfl) hd1 dX12_deepOf_25 rfl (ht.mono (fun r8 h9 p10 ht' => ?_))
      clear ht
      obtain ⟨v11, rfl, ht⟩ := ht'
      show Ex G d mX12_deepOf 28 [(0, .ref a0), (1, .int x1), (2, .int x2), (3, .int x3)] [.int v11, .int x2] h9 Q
      refine x_if_eq (pc2 := 31) 35 dX12_deepOf_28 (by decide) rfl (fun c12 => ?_) (fun c12 => ?_)
      · replace ht := ht.1 c12
        refine x_iconst (pc2 := 36) (v := 0) (by decide) dX12_deepOf_35 rfl ?_
        refine x_iadd (pc2 := 37) dX12_deepOf_36 rfl ?_
        refine x_istore_n (pc2 := 38) [1, 2, 0, 3] (n := 2) (x := (x2 + 0)) (lv2 := [(0, .ref a0), (1, .int x1), (2, .int (x2 + 0)), (3, .int x3)]) (by decide) rfl dX12_deepOf_37 rfl ?_
        refine x_iinc (pc2 := 41) 3 [1, 2, 3, 0] (i := 3) (x := x3) (v := (x3 + 1)) (lv2 := [(0, .ref a0), (1, .int x1), (2, .int (x2 + 0)), (3, .int (x3 + 1))]) rfl (iinc_eq (by decide) _) (by decide) rfl dX12_deepOf_38 rfl ?_
        refine x_goto 5 dX12_deepOf_41 (by decide) ?_
        exact ht
      · replace ht := ht.2 c12
        refine x_iconst (pc2 := 32) (v := 1) (by decide) dX12_deepOf_31 rfl ?_
        refine x_goto 36 dX12_deepOf_32 (by decide) ?_
        refine x_iadd (pc2 := 37) dX12_deepOf_36 rfl ?_
        refine x_istore_n (pc2 := 38) [1, 2, 0, 3] (n := 2) (x := (x2 + 1)) (lv2 := [(0, .ref a0), (1, .int x1), (2, .int (x2 + 1)), (3, .int x3)]) (by decide) rfl dX12_deepOf_37 rfl ?_
        refine x_iinc (pc2 := 41) 3 [1, 2, 3, 0] (i := 3) (x := x3) (v := (x3 + 1)) (lv2 := [(0, .ref a0), (1, .int x1), (2, .int (x2 + 1)), (3, .int (x3 + 1))]) rfl (iinc_eq (by decide) _) (by decide) rfl dX12_deepOf_38 rfl ?_
        refine x_goto 5 dX12_deepOf_41 (by decide) ?_
        exact ht
def T_X12_isRiver (G : GG) (d : Nat) (h : HP) (Q : Option Value → HP → Prop) (a0 : Nat) (x1 : Int32) (x2 : Int32) : Prop :=
  Kd G h a0 12 ∧ ∃ q2, hR h a0 29 = some q2 ∧ Kd G h q2 14 ∧ vp_in 0 (hN h q2) ∧ Cal G (d - 1) mX12_in [.long (x1.toInt64), .long 0, .long (((hI h q2 0) - 1).toInt64)] h (fun r6 h7 => ∃ v9, r6 = some (.int v9) ∧ ((v9 = 0 → Q (some (.int 0)) h7) ∧ (¬ v9 = 0 → ∃ q11, hR h7 a0 29 = some q11 ∧ Kd G h7 q11 14 ∧ vp_in 1 (hN h7 q11) ∧ Cal G (d - 1) mX12_in [.long (x2.toInt64), .long 0, .long (((hI h7 q11 1) - 1).toInt64)] h7 (fun r15 h16 => ∃ v18, r15 = some (.int v18) ∧ ((v18 = 0 → Q (some (.int 0)) h16) ∧ (¬ v18 = 0 → ∃ q20, hR h16 a0 29 = some q20 ∧ Kd G h16 q20 14 ∧ vp_in ((8 + (40 * x2)) + x1) (hN h16 q20) ∧ ((((hI h16 q20 ((8 + (40 * x2)) + x1).toNatClampNeg) &&& 128) = 0 → Q (some (.int 0)) h16) ∧ (¬ ((hI h16 q20 ((8 + (40 * x2)) + x1).toNatClampNeg) &&& 128) = 0 → Q (some (.int 1)) h16))))))))
set_option maxRecDepth 20000 in
theorem t_X12_isRiver {G : GG} {d : Nat} {h : HP} {Q : Option Value → HP → Prop} {a0 : Nat} {x1 : Int32} {x2 : Int32} (hd1 : 1 ≤ d) (ht : T_X12_isRiver G d h Q a0 x1 x2) : Ex G d mX12_isRiver 0 [(0, .ref a0), (1, .int x1), (2, .int x2)] [] h Q := by
  unfold T_X12_isRiver at ht
  refine x_iload_n (pc2 := 1) 1 (n := 1) (x := x1) rfl dX12_isRiver_0 rfl ?_
  refine x_i2l (pc2 := 2) dX12_isRiver_1 rfl ?_
  refine x_lconst (pc2 := 3) (v := 0) (by decide) dX12_isRiver_2 rfl ?_
  refine x_aload_n (pc2 := 4) 0 (n := 0) (x := a0) rfl dX12_isRiver_3 rfl ?_
  obtain ⟨k1, ht⟩ := ht
  obtain ⟨q2, e3, ht⟩ := ht
  refine y_getR (pc2 := 7) (κ := 12) (k := 29) fl_X12_48 (by decide) (by decide) k1 rfl e3 dX12_isRiver_4 rfl ?_
  refine x_iconst (pc2 := 8) (v := 0) (by decide) dX12_isRiver_7 rfl ?_
  obtain ⟨k4, ht⟩ := ht
  obtain ⟨b5, ht⟩ := ht
  refine z_iald (pc2 := 9) (k := 0) (by decide) k4 b5 dX12_isRiver_8 rfl ?_
  refine x_iconst (pc2 := 10) (v := 1) (by decide) dX12_isRiver_9 rfl ?_
  refine x_isub (pc2 := 11) dX12_isRiver_10 rfl ?_
  refine x_i2l (pc2 := 12) dX12_isRiver_11 rfl ?_
  refine x_callS (pc2 := 15) (As := [.long (x1.toInt64), .long 0, .long (((hI h q2 0) - 1).toInt64)]) (rest := []) ms_X12_in ml_X12_112 rfl rfl (Nat.le_of_ble_eq_true rfl) hd1 dX12_isRiver_12 rfl (ht.mono (fun r6 h7 p8 ht' => ?_))
  clear ht
  obtain ⟨v9, rfl, ht⟩ := ht'
  show Ex G d mX12_isRiver 15 [(0, .ref a0), (1, .int x1), (2, .int x2)] [.int v9] h7 Q
  refine x_if_eq (pc2 := 18) 61 dX12_isRiver_15 (by decide) rfl (fun c10 => ?_) (fun c10 => ?_)
  · replace ht := ht.1 c10
    refine x_iconst (pc2 := 62) (v := 0) (by decide) dX12_isRiver_61 rfl ?_
    exact x_retZ rfl (Or.inl rfl) dX12_isRiver_62 ht
  · replace ht := ht.2 c10
    refine x_iload_n (pc2 := 19) 2 (n := 2) (x := x2) rfl dX12_isRiver_18 rfl ?_
    refine x_i2l (pc2 := 20) dX12_isRiver_19 rfl ?_
    refine x_lconst (pc2 := 21) (v := 0) (by decide) dX12_isRiver_20 rfl ?_
    refine x_aload_n (pc2 := 22) 0 (n := 0) (x := a0) rfl dX12_isRiver_21 rfl ?_
    obtain ⟨q11, e12, ht⟩ := ht
    refine y_getR (pc2 := 25) (κ := 12) (k := 29) fl_X12_48 (by decide) (by decide) (k1.up p8) rfl e12 dX12_isRiver_22 rfl ?_
    refine x_iconst (pc2 := 26) (v := 1) (by decide) dX12_isRiver_25 rfl ?_
    obtain ⟨k13, ht⟩ := ht
    obtain ⟨b14, ht⟩ := ht
    refine z_iald (pc2 := 27) (k := 1) (by decide) k13 b14 dX12_isRiver_26 rfl ?_
    refine x_iconst (pc2 := 28) (v := 1) (by decide) dX12_isRiver_27 rfl ?_
    refine x_isub (pc2 := 29) dX12_isRiver_28 rfl ?_
    refine x_i2l (pc2 := 30) dX12_isRiver_29 rfl ?_
    refine x_callS (pc2 := 33) (As := [.long (x2.toInt64), .long 0, .long (((hI h7 q11 1) - 1).toInt64)]) (rest := []) ms_X12_in ml_X12_112 rfl rfl (Nat.le_of_ble_eq_true rfl) hd1 dX12_isRiver_30 rfl (ht.mono (fun r15 h16 p17 ht' => ?_))
    clear ht
    obtain ⟨v18, rfl, ht⟩ := ht'
    show Ex G d mX12_isRiver 33 [(0, .ref a0), (1, .int x1), (2, .int x2)] [.int v18] h16 Q
    refine x_if_eq (pc2 := 36) 61 dX12_isRiver_33 (by decide) rfl (fun c19 => ?_) (fun c19 => ?_)
    · replace ht := ht.1 c19
      refine x_iconst (pc2 := 62) (v := 0) (by decide) dX12_isRiver_61 rfl ?_
      exact x_retZ rfl (Or.inl rfl) dX12_isRiver_62 ht
    · replace ht := ht.2 c19
      refine x_aload_n (pc2 := 37) 0 (n := 0) (x := a0) rfl dX12_isRiver_36 rfl ?_
      obtain ⟨q20, e21, ht⟩ := ht
      refine y_getR (pc2 := 40) (κ := 12) (k := 29) fl_X12_48 (by decide) (by decide) ((k1.up p8).up p17) rfl e21 dX12_isRiver_37 rfl ?_
      refine x_bipush (pc2 := 42) (v := 8) (by decide) dX12_isRiver_40 rfl ?_
      refine x_bipush (pc2 := 44) (v := 40) (by decide) dX12_isRiver_42 rfl ?_
      refine x_iload_n (pc2 := 45) 2 (n := 2) (x := x2) rfl dX12_isRiver_44 rfl ?_
      refine x_imul (pc2 := 46) dX12_isRiver_45 rfl ?_
      refine x_iadd (pc2 := 47) dX12_isRiver_46 rfl ?_
      refine x_iload_n (pc2 := 48) 1 (n := 1) (x := x1) rfl dX12_isRiver_47 rfl ?_
      refine x_iadd (pc2 := 49) dX12_isRiver_48 rfl ?_
      obtain ⟨k22, ht⟩ := ht
      obtain ⟨b23, ht⟩ := ht
      refine x_iald (pc2 := 50) k22 b23 dX12_isRiver_49 rfl ?_
      refine x_sipush (pc2 := 53) (v := 128) (by decide) dX12_isRiver_50 rfl ?_
      refine x_iand (pc2 := 54) dX12_isRiver_53 rfl ?_
      refine x_if_eq (pc2 := 57) 61 dX12_isRiver_54 (by decide) rfl (fun c24 => ?_) (fun c24 => ?_)
      · replace ht := ht.1 c24
        refine x_iconst (pc2 := 62) (v := 0) (by decide) dX12_isRiver_61 rfl ?_
        exact x_retZ rfl (Or.inl rfl) dX12_isRiver_62 ht
      · replace ht := ht.2 c24
        refine x_iconst (pc2 := 58) (v := 1) (by decide) dX12_isRiver_57 rfl ?_
        refine x_goto 62 dX12_isRiver_58 (by decide) ?_
        exact x_retZ rfl (Or.inr rfl) dX12_isRiver_62 ht
theorem e_X12_isRiver {G : GG} {d : Nat} {h : HP} {Q : Option Value → HP → Prop} {a0 : Nat} {x1 : Int32} {x2 : Int32} (hd1 : 1 ≤ d) (ht : T_X12_isRiver G d h Q a0 x1 x2) : Cal G d mX12_isRiver [.ref a0, .int x1, .int x2] h Q := cal_of rfl (Nat.le_of_ble_eq_true rfl) (t_X12_isRiver hd1 ht)
def T_X12_likeOf (G : GG) (d : Nat) (h : HP) (Q : Option Value → HP → Prop) (a0 : Nat) (x1 : Int32) (x2 : Int32) : Prop :=
  ((x2 < 6 → Q (some (.int 0)) h) ∧ (¬ x2 < 6 → Kd G h a0 12 ∧ Cal G (d - 1) mX12_of [.ref a0, .int x2, .int 5] h (fun r2 h3 => ∃ v6, r2 = some (.int v6) ∧ ((¬ v6 = x1 → ∃ q8, hR h3 a0 29 = some q8 ∧ Cal G (d - 1) mX12_of [.ref a0, .int x2, .int 5] h3 (fun r10 h11 => ∃ v13, r10 = some (.int v13) ∧ Kd G h11 q8 14 ∧ vp_in ((2256 + (12 * x1)) + v13) (hN h11 q8) ∧ Q (some (.int (hI h11 q8 ((2256 + (12 * x1)) + v13).toNatClampNeg))) h11)) ∧ (v6 = x1 → Q (some (.int 0)) h3)))))
set_option maxRecDepth 20000 in
theorem t_X12_likeOf {G : GG} {d : Nat} {h : HP} {Q : Option Value → HP → Prop} {a0 : Nat} {x1 : Int32} {x2 : Int32} (hd1 : 1 ≤ d) (ht : T_X12_likeOf G d h Q a0 x1 x2) : Ex G d mX12_likeOf 0 [(0, .ref a0), (1, .int x1), (2, .int x2)] [] h Q := by
  unfold T_X12_likeOf at ht
  refine x_iload_n (pc2 := 1) 2 (n := 2) (x := x2) rfl dX12_likeOf_0 rfl ?_
  refine x_bipush (pc2 := 3) (v := 6) (by decide) dX12_likeOf_1 rfl ?_
  refine x_icmp_lt (pc2 := 6) 16 dX12_likeOf_3 (by decide) rfl (fun c1 => ?_) (fun c1 => ?_)
  · replace ht := ht.1 c1
    refine x_iconst (pc2 := 17) (v := 0) (by decide) dX12_likeOf_16 rfl ?_
    refine x_goto 40 dX12_likeOf_17 (by decide) ?_
    exact x_ret (ty := .int) rfl rfl dX12_likeOf_40 ht
  · replace ht := ht.2 c1
    refine x_aload_n (pc2 := 7) 0 (n := 0) (x := a0) rfl dX12_likeOf_6 rfl ?_
    refine x_iload_n (pc2 := 8) 2 (n := 2) (x := x2) rfl dX12_likeOf_7 rfl ?_
    refine x_iconst (pc2 := 9) (v := 5) (by decide) dX12_likeOf_8 rfl ?_
    obtain ⟨k5, ht⟩ := ht
    refine x_callV (pc2 := 12) (As := [.int x2, .int 5]) (rest := []) (b := a0) mv_X12_of ml_X12_310 k5 rfl rfl (Nat.le_of_ble_eq_true rfl) hd1 dX12_likeOf_9 rfl (ht.mono (fun r2 h3 p4 ht' => ?_))
    clear ht
    obtain ⟨v6, rfl, ht⟩ := ht'
    show Ex G d mX12_likeOf 12 [(0, .ref a0), (1, .int x1), (2, .int x2)] [.int v6] h3 Q
    refine x_iload_n (pc2 := 13) 1 (n := 1) (x := x1) rfl dX12_likeOf_12 rfl ?_
    refine y_icmp_ne (pc2 := 16) 20 dX12_likeOf_13 (by decide) rfl (fun c7 => ?_) (fun c7 => ?_)
    · replace ht := ht.1 c7
      refine x_aload_n (pc2 := 21) 0 (n := 0) (x := a0) rfl dX12_likeOf_20 rfl ?_
      obtain ⟨q8, e9, ht⟩ := ht
      refine y_getR (pc2 := 24) (κ := 12) (k := 29) fl_X12_48 (by decide) (by decide) (k5.up p4) rfl e9 dX12_likeOf_21 rfl ?_
      refine x_sipush (pc2 := 27) (v := 2256) (by decide) dX12_likeOf_24 rfl ?_
      refine x_bipush (pc2 := 29) (v := 12) (by decide) dX12_likeOf_27 rfl ?_
      refine x_iload_n (pc2 := 30) 1 (n := 1) (x := x1) rfl dX12_likeOf_29 rfl ?_
      refine x_imul (pc2 := 31) dX12_likeOf_30 rfl ?_
      refine x_iadd (pc2 := 32) dX12_likeOf_31 rfl ?_
      refine x_aload_n (pc2 := 33) 0 (n := 0) (x := a0) rfl dX12_likeOf_32 rfl ?_
      refine x_iload_n (pc2 := 34) 2 (n := 2) (x := x2) rfl dX12_likeOf_33 rfl ?_
      refine x_iconst (pc2 := 35) (v := 5) (by decide) dX12_likeOf_34 rfl ?_
      refine x_callV (pc2 := 38) (As := [.int x2, .int 5]) (rest := [.int (2256 + (12 * x1)), .ref q8]) (b := a0) mv_X12_of ml_X12_310 (k5.up p4) rfl rfl (Nat.le_of_ble_eq_true rfl) hd1 dX12_likeOf_35 rfl (ht.mono (fun r10 h11 p12 ht' => ?_))
      clear ht
      obtain ⟨v13, rfl, ht⟩ := ht'
      show Ex G d mX12_likeOf 38 [(0, .ref a0), (1, .int x1), (2, .int x2)] [.int v13, .int (2256 + (12 * x1)), .ref q8] h11 Q
      refine x_iadd (pc2 := 39) dX12_likeOf_38 rfl ?_
      obtain ⟨k14, ht⟩ := ht
      obtain ⟨b15, ht⟩ := ht
      refine x_iald (pc2 := 40) k14 b15 dX12_likeOf_39 rfl ?_
      exact x_ret (ty := .int) rfl rfl dX12_likeOf_40 ht
    · replace ht := ht.2 c7
      refine x_iconst (pc2 := 17) (v := 0) (by decide) dX12_likeOf_16 rfl ?_
      refine x_goto 40 dX12_likeOf_17 (by decide) ?_
      exact x_ret (ty := .int) rfl rfl dX12_likeOf_40 ht
theorem e_X12_likeOf {G : GG} {d : Nat} {h : HP} {Q : Option Value → HP → Prop} {a0 : Nat} {x1 : Int32} {x2 : Int32} (hd1 : 1 ≤ d) (ht : T_X12_likeOf G d h Q a0 x1 x2) : Cal G d mX12_likeOf [.ref a0, .int x1, .int x2] h Q := cal_of rfl (Nat.le_of_ble_eq_true rfl) (t_X12_likeOf hd1 ht)
def T_X12_wallsOf (G : GG) (d : Nat) (h : HP) (Q : Option Value → HP → Prop) (a0 : Nat) (x1 : Int32) : Prop :=
  Ex G d mX12_wallsOf 5 [(0, .ref a0), (1, .int x1), (2, .int 0), (3, .int 6)] [] h Q
set_option maxRecDepth 20000 in
theorem t_X12_wallsOf {G : GG} {d : Nat} {h : HP} {Q : Option Value → HP → Prop} {a0 : Nat} {x1 : Int32} (ht : T_X12_wallsOf G d h Q a0 x1) : Ex G d mX12_wallsOf 0 [(0, .ref a0), (1, .int x1)] [] h Q := by
  unfold T_X12_wallsOf at ht
  refine x_iconst (pc2 := 1) (v := 0) (by decide) dX12_wallsOf_0 rfl ?_
  refine x_istore_n (pc2 := 2) [1, 2, 0] (n := 2) (x := 0) (lv2 := [(0, .ref a0), (1, .int x1), (2, .int 0)]) (by decide) rfl dX12_wallsOf_1 rfl ?_
  refine x_bipush (pc2 := 4) (v := 6) (by decide) dX12_wallsOf_2 rfl ?_
  refine x_istore_n (pc2 := 5) [1, 2, 3, 0] (n := 3) (x := 6) (lv2 := [(0, .ref a0), (1, .int x1), (2, .int 0), (3, .int 6)]) (by decide) rfl dX12_wallsOf_4 rfl ?_
  exact ht
theorem e_X12_wallsOf {G : GG} {d : Nat} {h : HP} {Q : Option Value → HP → Prop} {a0 : Nat} {x1 : Int32} (ht : T_X12_wallsOf G d h Q a0 x1) : Cal G d mX12_wallsOf [.ref a0, .int x1] h Q := cal_of rfl (Nat.le_of_ble_eq_true rfl) (t_X12_wallsOf ht)
def T_X12_wallsOf_5 (G : GG) (d : Nat) (h : HP) (Q : Option Value → HP → Prop) (a0 : Nat) (x1 : Int32) (x2 : Int32) (x3 : Int32) : Prop :=
  ((54 ≤ x3 → Q (some (.int x2)) h) ∧ (¬ 54 ≤ x3 → Kd G h a0 12 ∧ Cal G (d - 1) mX12_of [.ref a0, .int x3, .int 0] h (fun r2 h3 => ∃ v6, r2 = some (.int v6) ∧ ((¬ v6 = 1 → Ex G d mX12_wallsOf 5 [(0, .ref a0), (1, .int x1), (2, .int (x2 + 0)), (3, .int (x3 + 1))] [] h3 Q) ∧ (v6 = 1 → Cal G (d - 1) mX12_of [.ref a0, .int x3, .int 5] h3 (fun r8 h9 => ∃ v11, r8 = some (.int v11) ∧ ((¬ v11 = x1 → Ex G d mX12_wallsOf 5 [(0, .ref a0), (1, .int x1), (2, .int (x2 + 0)), (3, .int (x3 + 1))] [] h9 Q) ∧ (v11 = x1 → Ex G d mX12_wallsOf 5 [(0, .ref a0), (1, .int x1), (2, .int (x2 + 1)), (3, .int (x3 + 1))] [] h9 Q))))))))
set_option maxRecDepth 20000 in
theorem t_X12_wallsOf_5 {G : GG} {d : Nat} {h : HP} {Q : Option Value → HP → Prop} {a0 : Nat} {x1 : Int32} {x2 : Int32} {x3 : Int32} (hd1 : 1 ≤ d) (ht : T_X12_wallsOf_5 G d h Q a0 x1 x2 x3) : Ex G d mX12_wallsOf 5 [(0, .ref a0), (1, .int x1), (2, .int x2), (3, .int x3)] [] h Q := by
  unfold T_X12_wallsOf_5 at ht
  refine x_iload_n (pc2 := 6) 3 (n := 3) (x := x3) rfl dX12_wallsOf_5 rfl ?_
  refine x_bipush (pc2 := 8) (v := 54) (by decide) dX12_wallsOf_6 rfl ?_
  refine x_icmp_ge (pc2 := 11) 45 dX12_wallsOf_8 (by decide) rfl (fun c1 => ?_) (fun c1 => ?_)
  · replace ht := ht.1 c1
    refine x_iload_n (pc2 := 46) 2 (n := 2) (x := x2) rfl dX12_wallsOf_45 rfl ?_
    exact x_ret (ty := .int) rfl rfl dX12_wallsOf_46 ht
  · replace ht := ht.2 c1
    refine x_iload_n (pc2 := 12) 2 (n := 2) (x := x2) rfl dX12_wallsOf_11 rfl ?_
    refine x_aload_n (pc2 := 13) 0 (n := 0) (x := a0) rfl dX12_wallsOf_12 rfl ?_
    refine x_iload_n (pc2 := 14) 3 (n := 3) (x := x3) rfl dX12_wallsOf_13 rfl ?_
    refine x_iconst (pc2 := 15) (v := 0) (by decide) dX12_wallsOf_14 rfl ?_
    obtain ⟨k5, ht⟩ := ht
    refine x_callV (pc2 := 18) (As := [.int x3, .int 0]) (rest := [.int x2]) (b := a0) mv_X12_of ml_X12_310 k5 rfl rfl (Nat.le_of_ble_eq_true rfl) hd1 dX12_wallsOf_15 rfl (ht.mono (fun r2 h3 p4 ht' => ?_))
    clear ht
    obtain ⟨v6, rfl, ht⟩ := ht'
    show Ex G d mX12_wallsOf 18 [(0, .ref a0), (1, .int x1), (2, .int x2), (3, .int x3)] [.int v6, .int x2] h3 Q
    refine x_iconst (pc2 := 19) (v := 1) (by decide) dX12_wallsOf_18 rfl ?_
    refine y_icmp_ne (pc2 := 22) 36 dX12_wallsOf_19 (by decide) rfl (fun c7 => ?_) (fun c7 => ?_)
    · replace ht := ht.1 c7
      refine x_iconst (pc2 := 37) (v := 0) (by decide) dX12_wallsOf_36 rfl ?_
      refine x_iadd (pc2 := 38) dX12_wallsOf_37 rfl ?_
      refine x_istore_n (pc2 := 39) [1, 2, 0, 3] (n := 2) (x := (x2 + 0)) (lv2 := [(0, .ref a0), (1, .int x1), (2, .int (x2 + 0)), (3, .int x3)]) (by decide) rfl dX12_wallsOf_38 rfl ?_
      refine x_iinc (pc2 := 42) 3 [1, 2, 3, 0] (i := 3) (x := x3) (v := (x3 + 1)) (lv2 := [(0, .ref a0), (1, .int x1), (2, .int (x2 + 0)), (3, .int (x3 + 1))]) rfl (iinc_eq (by decide) _) (by decide) rfl dX12_wallsOf_39 rfl ?_
      refine x_goto 5 dX12_wallsOf_42 (by decide) ?_
      exact ht
    · replace ht := ht.2 c7
      refine x_aload_n (pc2 := 23) 0 (n := 0) (x := a0) rfl dX12_wallsOf_22 rfl ?_
      refine x_iload_n (pc2 := 24) 3 (n := 3) (x := x3) rfl dX12_wallsOf_23 rfl ?_
      refine x_iconst (pc2 := 25) (v := 5) (by decide) dX12_wallsOf_24 rfl ?_
      refine x_callV (pc2 := 28) (As := [.int x3, .int 5]) (rest := [.int x2]) (b := a0) mv_X12_of ml_X12_310 (k5.up p4) rfl rfl (Nat.le_of_ble_eq_true rfl) hd1 dX12_wallsOf_25 rfl (ht.mono (fun r8 h9 p10 ht' => ?_))
      clear ht
      obtain ⟨v11, rfl, ht⟩ := ht'
      show Ex G d mX12_wallsOf 28 [(0, .ref a0), (1, .int x1), (2, .int x2), (3, .int x3)] [.int v11, .int x2] h9 Q
      refine x_iload_n (pc2 := 29) 1 (n := 1) (x := x1) rfl dX12_wallsOf_28 rfl ?_
      refine y_icmp_ne (pc2 := 32) 36 dX12_wallsOf_29 (by decide) rfl (fun c12 => ?_) (fun c12 => ?_)
      · replace ht := ht.1 c12
        refine x_iconst (pc2 := 37) (v := 0) (by decide) dX12_wallsOf_36 rfl ?_
        refine x_iadd (pc2 := 38) dX12_wallsOf_37 rfl ?_
        refine x_istore_n (pc2 := 39) [1, 2, 0, 3] (n := 2) (x := (x2 + 0)) (lv2 := [(0, .ref a0), (1, .int x1), (2, .int (x2 + 0)), (3, .int x3)]) (by decide) rfl dX12_wallsOf_38 rfl ?_
        refine x_iinc (pc2 := 42) 3 [1, 2, 3, 0] (i := 3) (x := x3) (v := (x3 + 1)) (lv2 := [(0, .ref a0), (1, .int x1), (2, .int (x2 + 0)), (3, .int (x3 + 1))]) rfl (iinc_eq (by decide) _) (by decide) rfl dX12_wallsOf_39 rfl ?_
        refine x_goto 5 dX12_wallsOf_42 (by decide) ?_
        exact ht
      · replace ht := ht.2 c12
        refine x_iconst (pc2 := 33) (v := 1) (by decide) dX12_wallsOf_32 rfl ?_
        refine x_goto 37 dX12_wallsOf_33 (by decide) ?_
        refine x_iadd (pc2 := 38) dX12_wallsOf_37 rfl ?_
        refine x_istore_n (pc2 := 39) [1, 2, 0, 3] (n := 2) (x := (x2 + 1)) (lv2 := [(0, .ref a0), (1, .int x1), (2, .int (x2 + 1)), (3, .int x3)]) (by decide) rfl dX12_wallsOf_38 rfl ?_
        refine x_iinc (pc2 := 42) 3 [1, 2, 3, 0] (i := 3) (x := x3) (v := (x3 + 1)) (lv2 := [(0, .ref a0), (1, .int x1), (2, .int (x2 + 1)), (3, .int (x3 + 1))]) rfl (iinc_eq (by decide) _) (by decide) rfl dX12_wallsOf_39 rfl ?_
        refine x_goto 5 dX12_wallsOf_42 (by decide) ?_
        exact ht
def T_X12_thinks (G : GG) (d : Nat) (h : HP) (Q : Option Value → HP → Prop) (a0 : Nat) (x1 : Int32) (x2 : Int32) (x3 : Int32) (x4 : Int32) (x5 : Int32) (x6 : Int32) : Prop :=
  Kd G h a0 12 ∧ Q none (sI (sI (sI (sI (sI (sI h a0 31 x1) a0 32 x2) a0 33 x3) a0 34 x4) a0 35 x5) a0 36 x6)
set_option maxRecDepth 20000 in
theorem t_X12_thinks {G : GG} {d : Nat} {h : HP} {Q : Option Value → HP → Prop} {a0 : Nat} {x1 : Int32} {x2 : Int32} {x3 : Int32} {x4 : Int32} {x5 : Int32} {x6 : Int32} (ht : T_X12_thinks G d h Q a0 x1 x2 x3 x4 x5 x6) : Ex G d mX12_thinks 0 [(0, .ref a0), (1, .int x1), (2, .int x2), (3, .int x3), (4, .int x4), (5, .int x5), (6, .int x6)] [] h Q := by
  unfold T_X12_thinks at ht
  refine x_aload_n (pc2 := 1) 0 (n := 0) (x := a0) rfl dX12_thinks_0 rfl ?_
  refine x_iload_n (pc2 := 2) 1 (n := 1) (x := x1) rfl dX12_thinks_1 rfl ?_
  obtain ⟨k1, ht⟩ := ht
  refine x_putI (pc2 := 5) (κ := 12) (k := 31) fl_X12_320 (by decide) (by decide) (Or.inl rfl) rfl k1 dX12_thinks_2 rfl ?_
  refine x_aload_n (pc2 := 6) 0 (n := 0) (x := a0) rfl dX12_thinks_5 rfl ?_
  refine x_iload_n (pc2 := 7) 2 (n := 2) (x := x2) rfl dX12_thinks_6 rfl ?_
  refine x_putI (pc2 := 10) (κ := 12) (k := 32) fl_X12_323 (by decide) (by decide) (Or.inl rfl) rfl k1.sI dX12_thinks_7 rfl ?_
  refine x_aload_n (pc2 := 11) 0 (n := 0) (x := a0) rfl dX12_thinks_10 rfl ?_
  refine x_iload_n (pc2 := 12) 3 (n := 3) (x := x3) rfl dX12_thinks_11 rfl ?_
  refine x_putI (pc2 := 15) (κ := 12) (k := 33) fl_X12_326 (by decide) (by decide) (Or.inl rfl) rfl k1.sI.sI dX12_thinks_12 rfl ?_
  refine x_aload_n (pc2 := 16) 0 (n := 0) (x := a0) rfl dX12_thinks_15 rfl ?_
  refine x_iload (pc2 := 18) 4 (n := 4) (x := x4) rfl dX12_thinks_16 rfl ?_
  refine x_putI (pc2 := 21) (κ := 12) (k := 34) fl_X12_329 (by decide) (by decide) (Or.inl rfl) rfl k1.sI.sI.sI dX12_thinks_18 rfl ?_
  refine x_aload_n (pc2 := 22) 0 (n := 0) (x := a0) rfl dX12_thinks_21 rfl ?_
  refine x_iload (pc2 := 24) 5 (n := 5) (x := x5) rfl dX12_thinks_22 rfl ?_
  refine x_putI (pc2 := 27) (κ := 12) (k := 35) fl_X12_332 (by decide) (by decide) (Or.inl rfl) rfl k1.sI.sI.sI.sI dX12_thinks_24 rfl ?_
  refine x_aload_n (pc2 := 28) 0 (n := 0) (x := a0) rfl dX12_thinks_27 rfl ?_
  refine x_iload (pc2 := 30) 6 (n := 6) (x := x6) rfl dX12_thinks_28 rfl ?_
  refine x_putI (pc2 := 33) (κ := 12) (k := 36) fl_X12_335 (by decide) (by decide) (Or.inl rfl) rfl k1.sI.sI.sI.sI.sI dX12_thinks_30 rfl ?_
  exact x_retV rfl dX12_thinks_33 ht
theorem e_X12_thinks {G : GG} {d : Nat} {h : HP} {Q : Option Value → HP → Prop} {a0 : Nat} {x1 : Int32} {x2 : Int32} {x3 : Int32} {x4 : Int32} {x5 : Int32} {x6 : Int32} (ht : T_X12_thinks G d h Q a0 x1 x2 x3 x4 x5 x6) : Cal G d mX12_thinks [.ref a0, .int x1, .int x2, .int x3, .int x4, .int x5, .int x6] h Q := cal_of rfl (Nat.le_of_ble_eq_true rfl) (t_X12_thinks ht)
def T_X12_hasThing (G : GG) (d : Nat) (h : HP) (Q : Option Value → HP → Prop) (a0 : Nat) (x1 : Int32) (y2 : Int64) : Prop :=
  Kd G h a0 12 ∧ Cal G (d - 1) mX12_of [.ref a0, .int x1, .int 1] h (fun r1 h2 => ∃ v5, r1 = some (.int v5) ∧ (((lg_cmp ((v5 - (hI h2 a0 31)).toInt64) y2) < 0 → Q (some (.int 0)) h2) ∧ (¬ (lg_cmp ((v5 - (hI h2 a0 31)).toInt64) y2) < 0 → Cal G (d - 1) mX12_of [.ref a0, .int x1, .int 2] h2 (fun r7 h8 => ∃ v10, r7 = some (.int v10) ∧ (((lg_cmp ((v10 - (hI h8 a0 32)).toInt64) y2) < 0 → Q (some (.int 0)) h8) ∧ (¬ (lg_cmp ((v10 - (hI h8 a0 32)).toInt64) y2) < 0 → Cal G (d - 1) mX12_of [.ref a0, .int x1, .int 3] h8 (fun r12 h13 => ∃ v15, r12 = some (.int v15) ∧ (((lg_cmp (((hI h8 a0 33) - v15).toInt64) y2) < 0 → Q (some (.int 0)) h13) ∧ (¬ (lg_cmp (((hI h8 a0 33) - v15).toInt64) y2) < 0 → Cal G (d - 1) mX12_of [.ref a0, .int x1, .int 4] h13 (fun r17 h18 => ∃ v20, r17 = some (.int v20) ∧ (((lg_cmp (((hI h13 a0 34) - v20).toInt64) y2) < 0 → Q (some (.int 0)) h18) ∧ (¬ (lg_cmp (((hI h13 a0 34) - v20).toInt64) y2) < 0 → Q (some (.int 1)) h18))))))))))))
set_option maxRecDepth 20000 in
theorem t_X12_hasThing {G : GG} {d : Nat} {h : HP} {Q : Option Value → HP → Prop} {a0 : Nat} {x1 : Int32} {y2 : Int64} (hd1 : 1 ≤ d) (ht : T_X12_hasThing G d h Q a0 x1 y2) : Ex G d mX12_hasThing 0 [(0, .ref a0), (1, .int x1), (2, .long y2)] [] h Q := by
  unfold T_X12_hasThing at ht
  refine x_aload_n (pc2 := 1) 0 (n := 0) (x := a0) rfl dX12_hasThing_0 rfl ?_
  refine x_iload_n (pc2 := 2) 1 (n := 1) (x := x1) rfl dX12_hasThing_1 rfl ?_
  refine x_iconst (pc2 := 3) (v := 1) (by decide) dX12_hasThing_2 rfl ?_
  obtain ⟨k4, ht⟩ := ht
  refine x_callV (pc2 := 6) (As := [.int x1, .int 1]) (rest := []) (b := a0) mv_X12_of ml_X12_310 k4 rfl rfl (Nat.le_of_ble_eq_true rfl) hd1 dX12_hasThing_3 rfl (ht.mono (fun r1 h2 p3 ht' => ?_))
  clear ht
  obtain ⟨v5, rfl, ht⟩ := ht'
  show Ex G d mX12_hasThing 6 [(0, .ref a0), (1, .int x1), (2, .long y2)] [.int v5] h2 Q
  refine x_aload_n (pc2 := 7) 0 (n := 0) (x := a0) rfl dX12_hasThing_6 rfl ?_
  refine y_getI (pc2 := 10) (κ := 12) (k := 31) fl_X12_320 (by decide) (by decide) (k4.up p3) rfl dX12_hasThing_7 rfl ?_
  refine x_isub (pc2 := 11) dX12_hasThing_10 rfl ?_
  refine x_i2l (pc2 := 12) dX12_hasThing_11 rfl ?_
  refine x_lload_n (pc2 := 13) 2 (n := 2) (x := y2) rfl dX12_hasThing_12 rfl ?_
  refine x_lcmp (pc2 := 14) dX12_hasThing_13 rfl ?_
  refine x_if_lt (pc2 := 17) 72 dX12_hasThing_14 (by decide) rfl (fun c6 => ?_) (fun c6 => ?_)
  · replace ht := ht.1 c6
    refine x_iconst (pc2 := 73) (v := 0) (by decide) dX12_hasThing_72 rfl ?_
    exact x_retZ rfl (Or.inl rfl) dX12_hasThing_73 ht
  · replace ht := ht.2 c6
    refine x_aload_n (pc2 := 18) 0 (n := 0) (x := a0) rfl dX12_hasThing_17 rfl ?_
    refine x_iload_n (pc2 := 19) 1 (n := 1) (x := x1) rfl dX12_hasThing_18 rfl ?_
    refine x_iconst (pc2 := 20) (v := 2) (by decide) dX12_hasThing_19 rfl ?_
    refine x_callV (pc2 := 23) (As := [.int x1, .int 2]) (rest := []) (b := a0) mv_X12_of ml_X12_310 (k4.up p3) rfl rfl (Nat.le_of_ble_eq_true rfl) hd1 dX12_hasThing_20 rfl (ht.mono (fun r7 h8 p9 ht' => ?_))
    clear ht
    obtain ⟨v10, rfl, ht⟩ := ht'
    show Ex G d mX12_hasThing 23 [(0, .ref a0), (1, .int x1), (2, .long y2)] [.int v10] h8 Q
    refine x_aload_n (pc2 := 24) 0 (n := 0) (x := a0) rfl dX12_hasThing_23 rfl ?_
    refine y_getI (pc2 := 27) (κ := 12) (k := 32) fl_X12_323 (by decide) (by decide) ((k4.up p3).up p9) rfl dX12_hasThing_24 rfl ?_
    refine x_isub (pc2 := 28) dX12_hasThing_27 rfl ?_
    refine x_i2l (pc2 := 29) dX12_hasThing_28 rfl ?_
    refine x_lload_n (pc2 := 30) 2 (n := 2) (x := y2) rfl dX12_hasThing_29 rfl ?_
    refine x_lcmp (pc2 := 31) dX12_hasThing_30 rfl ?_
    refine x_if_lt (pc2 := 34) 72 dX12_hasThing_31 (by decide) rfl (fun c11 => ?_) (fun c11 => ?_)
    · replace ht := ht.1 c11
      refine x_iconst (pc2 := 73) (v := 0) (by decide) dX12_hasThing_72 rfl ?_
      exact x_retZ rfl (Or.inl rfl) dX12_hasThing_73 ht
    · replace ht := ht.2 c11
      refine x_aload_n (pc2 := 35) 0 (n := 0) (x := a0) rfl dX12_hasThing_34 rfl ?_
      refine y_getI (pc2 := 38) (κ := 12) (k := 33) fl_X12_326 (by decide) (by decide) ((k4.up p3).up p9) rfl dX12_hasThing_35 rfl ?_
      refine x_aload_n (pc2 := 39) 0 (n := 0) (x := a0) rfl dX12_hasThing_38 rfl ?_
      refine x_iload_n (pc2 := 40) 1 (n := 1) (x := x1) rfl dX12_hasThing_39 rfl ?_
      refine x_iconst (pc2 := 41) (v := 3) (by decide) dX12_hasThing_40 rfl ?_
      refine x_callV (pc2 := 44) (As := [.int x1, .int 3]) (rest := [.int (hI h8 a0 33)]) (b := a0) mv_X12_of ml_X12_310 ((k4.up p3).up p9) rfl rfl (Nat.le_of_ble_eq_true rfl) hd1 dX12_hasThing_41 rfl (ht.mono (fun r12 h13 p14 ht' => ?_))
      clear ht
      obtain ⟨v15, rfl, ht⟩ := ht'
      show Ex G d mX12_hasThing 44 [(0, .ref a0), (1, .int x1), (2, .long y2)] [.int v15, .int (hI h8 a0 33)] h13 Q
      refine x_isub (pc2 := 45) dX12_hasThing_44 rfl ?_
      refine x_i2l (pc2 := 46) dX12_hasThing_45 rfl ?_
      refine x_lload_n (pc2 := 47) 2 (n := 2) (x := y2) rfl dX12_hasThing_46 rfl ?_
      refine x_lcmp (pc2 := 48) dX12_hasThing_47 rfl ?_
      refine x_if_lt (pc2 := 51) 72 dX12_hasThing_48 (by decide) rfl (fun c16 => ?_) (fun c16 => ?_)
      · replace ht := ht.1 c16
        refine x_iconst (pc2 := 73) (v := 0) (by decide) dX12_hasThing_72 rfl ?_
        exact x_retZ rfl (Or.inl rfl) dX12_hasThing_73 ht
      · replace ht := ht.2 c16
        refine x_aload_n (pc2 := 52) 0 (n := 0) (x := a0) rfl dX12_hasThing_51 rfl ?_
        refine y_getI (pc2 := 55) (κ := 12) (k := 34) fl_X12_329 (by decide) (by decide) (((k4.up p3).up p9).up p14) rfl dX12_hasThing_52 rfl ?_
        refine x_aload_n (pc2 := 56) 0 (n := 0) (x := a0) rfl dX12_hasThing_55 rfl ?_
        refine x_iload_n (pc2 := 57) 1 (n := 1) (x := x1) rfl dX12_hasThing_56 rfl ?_
        refine x_iconst (pc2 := 58) (v := 4) (by decide) dX12_hasThing_57 rfl ?_
        refine x_callV (pc2 := 61) (As := [.int x1, .int 4]) (rest := [.int (hI h13 a0 34)]) (b := a0) mv_X12_of ml_X12_310 (((k4.up p3).up p9).up p14) rfl rfl (Nat.le_of_ble_eq_true rfl) hd1 dX12_hasThing_58 rfl (ht.mono (fun r17 h18 p19 ht' => ?_))
        clear ht
        obtain ⟨v20, rfl, ht⟩ := ht'
        show Ex G d mX12_hasThing 61 [(0, .ref a0), (1, .int x1), (2, .long y2)] [.int v20, .int (hI h13 a0 34)] h18 Q
        refine x_isub (pc2 := 62) dX12_hasThing_61 rfl ?_
        refine x_i2l (pc2 := 63) dX12_hasThing_62 rfl ?_
        refine x_lload_n (pc2 := 64) 2 (n := 2) (x := y2) rfl dX12_hasThing_63 rfl ?_
        refine x_lcmp (pc2 := 65) dX12_hasThing_64 rfl ?_
        refine x_if_lt (pc2 := 68) 72 dX12_hasThing_65 (by decide) rfl (fun c21 => ?_) (fun c21 => ?_)
        · replace ht := ht.1 c21
          refine x_iconst (pc2 := 73) (v := 0) (by decide) dX12_hasThing_72 rfl ?_
          exact x_retZ rfl (Or.inl rfl) dX12_hasThing_73 ht
        · replace ht := ht.2 c21
          refine x_iconst (pc2 := 69) (v := 1) (by decide) dX12_hasThing_68 rfl ?_
          refine x_goto 73 dX12_hasThing_69 (by decide) ?_
          exact x_retZ rfl (Or.inr rfl) dX12_hasThing_73 ht
theorem e_X12_hasThing {G : GG} {d : Nat} {h : HP} {Q : Option Value → HP → Prop} {a0 : Nat} {x1 : Int32} {y2 : Int64} (hd1 : 1 ≤ d) (ht : T_X12_hasThing G d h Q a0 x1 y2) : Cal G d mX12_hasThing [.ref a0, .int x1, .long y2] h Q := cal_of rfl (Nat.le_of_ble_eq_true rfl) (t_X12_hasThing hd1 ht)
def T_X12_isFit (G : GG) (d : Nat) (h : HP) (Q : Option Value → HP → Prop) (a0 : Nat) : Prop :=
  Kd G h a0 12 ∧ (((hI h a0 31) < 0 → Q (some (.int 0)) h) ∧ (¬ (hI h a0 31) < 0 → (((hI h a0 32) < 0 → Q (some (.int 0)) h) ∧ (¬ (hI h a0 32) < 0 → ∃ q4, hR h a0 29 = some q4 ∧ Kd G h q4 14 ∧ vp_in 0 (hN h q4) ∧ (((hI h q4 0) < (hI h a0 33) → Q (some (.int 0)) h) ∧ (¬ (hI h q4 0) < (hI h a0 33) → vp_in 1 (hN h q4) ∧ (((hI h q4 1) < (hI h a0 34) → Q (some (.int 0)) h) ∧ (¬ (hI h q4 1) < (hI h a0 34) → (((hI h a0 33) ≤ (hI h a0 31) → Q (some (.int 0)) h) ∧ (¬ (hI h a0 33) ≤ (hI h a0 31) → (((hI h a0 32) < (hI h a0 34) → (((hI h a0 35) = (hI h a0 36) → Q (some (.int 0)) h) ∧ (¬ (hI h a0 35) = (hI h a0 36) → Cal G (d - 1) mX12_isOuter [.ref a0, .int (hI h a0 35)] h (fun r14 h15 => ∃ v17, r14 = some (.int v17) ∧ ((v17 = 0 → Q (some (.int 0)) h15) ∧ (¬ v17 = 0 → (((hI h15 a0 36) = (-1) → Ex G d mX12_isFit 107 [(0, .ref a0)] [] h15 Q) ∧ (¬ (hI h15 a0 36) = (-1) → Cal G (d - 1) mX12_isOuter [.ref a0, .int (hI h15 a0 36)] h15 (fun r20 h21 => ∃ v23, r20 = some (.int v23) ∧ ((¬ v23 = 0 → Ex G d mX12_isFit 107 [(0, .ref a0)] [] h21 Q) ∧ (v23 = 0 → Q (some (.int 0)) h21))))))))))) ∧ (¬ (hI h a0 32) < (hI h a0 34) → Q (some (.int 0)) h))))))))))))
set_option maxRecDepth 20000 in
theorem t_X12_isFit {G : GG} {d : Nat} {h : HP} {Q : Option Value → HP → Prop} {a0 : Nat} (hd1 : 1 ≤ d) (ht : T_X12_isFit G d h Q a0) : Ex G d mX12_isFit 0 [(0, .ref a0)] [] h Q := by
  unfold T_X12_isFit at ht
  refine x_aload_n (pc2 := 1) 0 (n := 0) (x := a0) rfl dX12_isFit_0 rfl ?_
  obtain ⟨k1, ht⟩ := ht
  refine y_getI (pc2 := 4) (κ := 12) (k := 31) fl_X12_320 (by decide) (by decide) k1 rfl dX12_isFit_1 rfl ?_
  refine x_if_lt (pc2 := 7) 62 dX12_isFit_4 (by decide) rfl (fun c2 => ?_) (fun c2 => ?_)
  · replace ht := ht.1 c2
    refine x_iconst (pc2 := 63) (v := 0) (by decide) dX12_isFit_62 rfl ?_
    exact x_retZ rfl (Or.inl rfl) dX12_isFit_63 ht
  · replace ht := ht.2 c2
    refine x_aload_n (pc2 := 8) 0 (n := 0) (x := a0) rfl dX12_isFit_7 rfl ?_
    refine y_getI (pc2 := 11) (κ := 12) (k := 32) fl_X12_323 (by decide) (by decide) k1 rfl dX12_isFit_8 rfl ?_
    refine x_if_lt (pc2 := 14) 62 dX12_isFit_11 (by decide) rfl (fun c3 => ?_) (fun c3 => ?_)
    · replace ht := ht.1 c3
      refine x_iconst (pc2 := 63) (v := 0) (by decide) dX12_isFit_62 rfl ?_
      exact x_retZ rfl (Or.inl rfl) dX12_isFit_63 ht
    · replace ht := ht.2 c3
      refine x_aload_n (pc2 := 15) 0 (n := 0) (x := a0) rfl dX12_isFit_14 rfl ?_
      refine y_getI (pc2 := 18) (κ := 12) (k := 33) fl_X12_326 (by decide) (by decide) k1 rfl dX12_isFit_15 rfl ?_
      refine x_aload_n (pc2 := 19) 0 (n := 0) (x := a0) rfl dX12_isFit_18 rfl ?_
      obtain ⟨q4, e5, ht⟩ := ht
      refine y_getR (pc2 := 22) (κ := 12) (k := 29) fl_X12_48 (by decide) (by decide) k1 rfl e5 dX12_isFit_19 rfl ?_
      refine x_iconst (pc2 := 23) (v := 0) (by decide) dX12_isFit_22 rfl ?_
      obtain ⟨k6, ht⟩ := ht
      obtain ⟨b7, ht⟩ := ht
      refine z_iald (pc2 := 24) (k := 0) (by decide) k6 b7 dX12_isFit_23 rfl ?_
      refine x_icmp_gt (pc2 := 27) 62 dX12_isFit_24 (by decide) rfl (fun c8 => ?_) (fun c8 => ?_)
      · replace ht := ht.1 c8
        refine x_iconst (pc2 := 63) (v := 0) (by decide) dX12_isFit_62 rfl ?_
        exact x_retZ rfl (Or.inl rfl) dX12_isFit_63 ht
      · replace ht := ht.2 c8
        refine x_aload_n (pc2 := 28) 0 (n := 0) (x := a0) rfl dX12_isFit_27 rfl ?_
        refine y_getI (pc2 := 31) (κ := 12) (k := 34) fl_X12_329 (by decide) (by decide) k1 rfl dX12_isFit_28 rfl ?_
        refine x_aload_n (pc2 := 32) 0 (n := 0) (x := a0) rfl dX12_isFit_31 rfl ?_
        refine y_getR (pc2 := 35) (κ := 12) (k := 29) fl_X12_48 (by decide) (by decide) k1 rfl e5 dX12_isFit_32 rfl ?_
        refine x_iconst (pc2 := 36) (v := 1) (by decide) dX12_isFit_35 rfl ?_
        obtain ⟨b9, ht⟩ := ht
        refine z_iald (pc2 := 37) (k := 1) (by decide) k6 b9 dX12_isFit_36 rfl ?_
        refine x_icmp_gt (pc2 := 40) 62 dX12_isFit_37 (by decide) rfl (fun c10 => ?_) (fun c10 => ?_)
        · replace ht := ht.1 c10
          refine x_iconst (pc2 := 63) (v := 0) (by decide) dX12_isFit_62 rfl ?_
          exact x_retZ rfl (Or.inl rfl) dX12_isFit_63 ht
        · replace ht := ht.2 c10
          refine x_aload_n (pc2 := 41) 0 (n := 0) (x := a0) rfl dX12_isFit_40 rfl ?_
          refine y_getI (pc2 := 44) (κ := 12) (k := 31) fl_X12_320 (by decide) (by decide) k1 rfl dX12_isFit_41 rfl ?_
          refine x_aload_n (pc2 := 45) 0 (n := 0) (x := a0) rfl dX12_isFit_44 rfl ?_
          refine y_getI (pc2 := 48) (κ := 12) (k := 33) fl_X12_326 (by decide) (by decide) k1 rfl dX12_isFit_45 rfl ?_
          refine x_icmp_ge (pc2 := 51) 62 dX12_isFit_48 (by decide) rfl (fun c11 => ?_) (fun c11 => ?_)
          · replace ht := ht.1 c11
            refine x_iconst (pc2 := 63) (v := 0) (by decide) dX12_isFit_62 rfl ?_
            exact x_retZ rfl (Or.inl rfl) dX12_isFit_63 ht
          · replace ht := ht.2 c11
            refine x_aload_n (pc2 := 52) 0 (n := 0) (x := a0) rfl dX12_isFit_51 rfl ?_
            refine y_getI (pc2 := 55) (κ := 12) (k := 32) fl_X12_323 (by decide) (by decide) k1 rfl dX12_isFit_52 rfl ?_
            refine x_aload_n (pc2 := 56) 0 (n := 0) (x := a0) rfl dX12_isFit_55 rfl ?_
            refine y_getI (pc2 := 59) (κ := 12) (k := 34) fl_X12_329 (by decide) (by decide) k1 rfl dX12_isFit_56 rfl ?_
            refine x_icmp_lt (pc2 := 62) 64 dX12_isFit_59 (by decide) rfl (fun c12 => ?_) (fun c12 => ?_)
            · replace ht := ht.1 c12
              refine x_aload_n (pc2 := 65) 0 (n := 0) (x := a0) rfl dX12_isFit_64 rfl ?_
              refine y_getI (pc2 := 68) (κ := 12) (k := 35) fl_X12_332 (by decide) (by decide) k1 rfl dX12_isFit_65 rfl ?_
              refine x_aload_n (pc2 := 69) 0 (n := 0) (x := a0) rfl dX12_isFit_68 rfl ?_
              refine y_getI (pc2 := 72) (κ := 12) (k := 36) fl_X12_335 (by decide) (by decide) k1 rfl dX12_isFit_69 rfl ?_
              refine x_icmp_eq (pc2 := 75) 105 dX12_isFit_72 (by decide) rfl (fun c13 => ?_) (fun c13 => ?_)
              · replace ht := ht.1 c13
                refine x_iconst (pc2 := 106) (v := 0) (by decide) dX12_isFit_105 rfl ?_
                exact x_retZ rfl (Or.inl rfl) dX12_isFit_106 ht
              · replace ht := ht.2 c13
                refine x_aload_n (pc2 := 76) 0 (n := 0) (x := a0) rfl dX12_isFit_75 rfl ?_
                refine x_aload_n (pc2 := 77) 0 (n := 0) (x := a0) rfl dX12_isFit_76 rfl ?_
                refine y_getI (pc2 := 80) (κ := 12) (k := 35) fl_X12_332 (by decide) (by decide) k1 rfl dX12_isFit_77 rfl ?_
                refine x_callV (pc2 := 83) (As := [.int (hI h a0 35)]) (rest := []) (b := a0) mv_X12_isOuter ml_X12_338 k1 rfl rfl (Nat.le_of_ble_eq_true rfl) hd1 dX12_isFit_80 rfl (ht.mono (fun r14 h15 p16 ht' => ?_))
                clear ht
                obtain ⟨v17, rfl, ht⟩ := ht'
                show Ex G d mX12_isFit 83 [(0, .ref a0)] [.int v17] h15 Q
                refine x_if_eq (pc2 := 86) 105 dX12_isFit_83 (by decide) rfl (fun c18 => ?_) (fun c18 => ?_)
                · replace ht := ht.1 c18
                  refine x_iconst (pc2 := 106) (v := 0) (by decide) dX12_isFit_105 rfl ?_
                  exact x_retZ rfl (Or.inl rfl) dX12_isFit_106 ht
                · replace ht := ht.2 c18
                  refine x_aload_n (pc2 := 87) 0 (n := 0) (x := a0) rfl dX12_isFit_86 rfl ?_
                  refine y_getI (pc2 := 90) (κ := 12) (k := 36) fl_X12_335 (by decide) (by decide) (k1.up p16) rfl dX12_isFit_87 rfl ?_
                  refine x_iconst (pc2 := 91) (v := (-1)) (by decide) dX12_isFit_90 rfl ?_
                  refine x_icmp_eq (pc2 := 94) 107 dX12_isFit_91 (by decide) rfl (fun c19 => ?_) (fun c19 => ?_)
                  · replace ht := ht.1 c19
                    exact ht
                  · replace ht := ht.2 c19
                    refine x_aload_n (pc2 := 95) 0 (n := 0) (x := a0) rfl dX12_isFit_94 rfl ?_
                    refine x_aload_n (pc2 := 96) 0 (n := 0) (x := a0) rfl dX12_isFit_95 rfl ?_
                    refine y_getI (pc2 := 99) (κ := 12) (k := 36) fl_X12_335 (by decide) (by decide) (k1.up p16) rfl dX12_isFit_96 rfl ?_
                    refine x_callV (pc2 := 102) (As := [.int (hI h15 a0 36)]) (rest := []) (b := a0) mv_X12_isOuter ml_X12_338 (k1.up p16) rfl rfl (Nat.le_of_ble_eq_true rfl) hd1 dX12_isFit_99 rfl (ht.mono (fun r20 h21 p22 ht' => ?_))
                    clear ht
                    obtain ⟨v23, rfl, ht⟩ := ht'
                    show Ex G d mX12_isFit 102 [(0, .ref a0)] [.int v23] h21 Q
                    refine y_if_ne (pc2 := 105) 107 dX12_isFit_102 (by decide) rfl (fun c24 => ?_) (fun c24 => ?_)
                    · replace ht := ht.1 c24
                      exact ht
                    · replace ht := ht.2 c24
                      refine x_iconst (pc2 := 106) (v := 0) (by decide) dX12_isFit_105 rfl ?_
                      exact x_retZ rfl (Or.inl rfl) dX12_isFit_106 ht
            · replace ht := ht.2 c12
              refine x_iconst (pc2 := 63) (v := 0) (by decide) dX12_isFit_62 rfl ?_
              exact x_retZ rfl (Or.inl rfl) dX12_isFit_63 ht
theorem e_X12_isFit {G : GG} {d : Nat} {h : HP} {Q : Option Value → HP → Prop} {a0 : Nat} (hd1 : 1 ≤ d) (ht : T_X12_isFit G d h Q a0) : Cal G d mX12_isFit [.ref a0] h Q := cal_of rfl (Nat.le_of_ble_eq_true rfl) (t_X12_isFit hd1 ht)
def T_X12_isFit_107 (G : GG) (d : Nat) (h : HP) (Q : Option Value → HP → Prop) (a0 : Nat) : Prop :=
  Kd G h a0 12 ∧ Cal G (d - 1) mX12_hasThing [.ref a0, .int (hI h a0 35), .long 0] h (fun r2 h3 => ∃ v5, r2 = some (.int v5) ∧ ((v5 = 0 → Q (some (.int 0)) h3) ∧ (¬ v5 = 0 → (((hI h3 a0 36) = (-1) → Q (some (.int 1)) h3) ∧ (¬ (hI h3 a0 36) = (-1) → Cal G (d - 1) mX12_hasThing [.ref a0, .int (hI h3 a0 36), .long 0] h3 (fun r8 h9 => ∃ v11, r8 = some (.int v11) ∧ ((v11 = 0 → Q (some (.int 0)) h9) ∧ (¬ v11 = 0 → Q (some (.int 1)) h9))))))))
set_option maxRecDepth 20000 in
theorem t_X12_isFit_107 {G : GG} {d : Nat} {h : HP} {Q : Option Value → HP → Prop} {a0 : Nat} (hd1 : 1 ≤ d) (ht : T_X12_isFit_107 G d h Q a0) : Ex G d mX12_isFit 107 [(0, .ref a0)] [] h Q := by
  unfold T_X12_isFit_107 at ht
  refine x_aload_n (pc2 := 108) 0 (n := 0) (x := a0) rfl dX12_isFit_107 rfl ?_
  refine x_aload_n (pc2 := 109) 0 (n := 0) (x := a0) rfl dX12_isFit_108 rfl ?_
  obtain ⟨k1, ht⟩ := ht
  refine y_getI (pc2 := 112) (κ := 12) (k := 35) fl_X12_332 (by decide) (by decide) k1 rfl dX12_isFit_109 rfl ?_
  refine x_lconst (pc2 := 113) (v := 0) (by decide) dX12_isFit_112 rfl ?_
  refine x_callV (pc2 := 116) (As := [.int (hI h a0 35), .long 0]) (rest := []) (b := a0) mv_X12_hasThing ml_X12_341 k1 rfl rfl (Nat.le_of_ble_eq_true rfl) hd1 dX12_isFit_113 rfl (ht.mono (fun r2 h3 p4 ht' => ?_))
  clear ht
  obtain ⟨v5, rfl, ht⟩ := ht'
  show Ex G d mX12_isFit 116 [(0, .ref a0)] [.int v5] h3 Q
  refine x_if_eq (pc2 := 119) 143 dX12_isFit_116 (by decide) rfl (fun c6 => ?_) (fun c6 => ?_)
  · replace ht := ht.1 c6
    refine x_iconst (pc2 := 144) (v := 0) (by decide) dX12_isFit_143 rfl ?_
    exact x_retZ rfl (Or.inl rfl) dX12_isFit_144 ht
  · replace ht := ht.2 c6
    refine x_aload_n (pc2 := 120) 0 (n := 0) (x := a0) rfl dX12_isFit_119 rfl ?_
    refine y_getI (pc2 := 123) (κ := 12) (k := 36) fl_X12_335 (by decide) (by decide) (k1.up p4) rfl dX12_isFit_120 rfl ?_
    refine x_iconst (pc2 := 124) (v := (-1)) (by decide) dX12_isFit_123 rfl ?_
    refine x_icmp_eq (pc2 := 127) 139 dX12_isFit_124 (by decide) rfl (fun c7 => ?_) (fun c7 => ?_)
    · replace ht := ht.1 c7
      refine x_iconst (pc2 := 140) (v := 1) (by decide) dX12_isFit_139 rfl ?_
      refine x_goto 144 dX12_isFit_140 (by decide) ?_
      exact x_retZ rfl (Or.inr rfl) dX12_isFit_144 ht
    · replace ht := ht.2 c7
      refine x_aload_n (pc2 := 128) 0 (n := 0) (x := a0) rfl dX12_isFit_127 rfl ?_
      refine x_aload_n (pc2 := 129) 0 (n := 0) (x := a0) rfl dX12_isFit_128 rfl ?_
      refine y_getI (pc2 := 132) (κ := 12) (k := 36) fl_X12_335 (by decide) (by decide) (k1.up p4) rfl dX12_isFit_129 rfl ?_
      refine x_lconst (pc2 := 133) (v := 0) (by decide) dX12_isFit_132 rfl ?_
      refine x_callV (pc2 := 136) (As := [.int (hI h3 a0 36), .long 0]) (rest := []) (b := a0) mv_X12_hasThing ml_X12_341 (k1.up p4) rfl rfl (Nat.le_of_ble_eq_true rfl) hd1 dX12_isFit_133 rfl (ht.mono (fun r8 h9 p10 ht' => ?_))
      clear ht
      obtain ⟨v11, rfl, ht⟩ := ht'
      show Ex G d mX12_isFit 136 [(0, .ref a0)] [.int v11] h9 Q
      refine x_if_eq (pc2 := 139) 143 dX12_isFit_136 (by decide) rfl (fun c12 => ?_) (fun c12 => ?_)
      · replace ht := ht.1 c12
        refine x_iconst (pc2 := 144) (v := 0) (by decide) dX12_isFit_143 rfl ?_
        exact x_retZ rfl (Or.inl rfl) dX12_isFit_144 ht
      · replace ht := ht.2 c12
        refine x_iconst (pc2 := 140) (v := 1) (by decide) dX12_isFit_139 rfl ?_
        refine x_goto 144 dX12_isFit_140 (by decide) ?_
        exact x_retZ rfl (Or.inr rfl) dX12_isFit_144 ht
def T_X12_wordsFor (G : GG) (d : Nat) (h : HP) (Q : Option Value → HP → Prop) (a0 : Nat) (x1 : Int32) : Prop :=
  Ex G d mX12_wordsFor 2 [(0, .ref a0), (1, .int x1), (2, .int 0)] [] h Q
set_option maxRecDepth 20000 in
theorem t_X12_wordsFor {G : GG} {d : Nat} {h : HP} {Q : Option Value → HP → Prop} {a0 : Nat} {x1 : Int32} (ht : T_X12_wordsFor G d h Q a0 x1) : Ex G d mX12_wordsFor 0 [(0, .ref a0), (1, .int x1)] [] h Q := by
  unfold T_X12_wordsFor at ht
  refine x_iconst (pc2 := 1) (v := 0) (by decide) dX12_wordsFor_0 rfl ?_
  refine x_istore_n (pc2 := 2) [1, 2, 0] (n := 2) (x := 0) (lv2 := [(0, .ref a0), (1, .int x1), (2, .int 0)]) (by decide) rfl dX12_wordsFor_1 rfl ?_
  exact ht
theorem e_X12_wordsFor {G : GG} {d : Nat} {h : HP} {Q : Option Value → HP → Prop} {a0 : Nat} {x1 : Int32} (ht : T_X12_wordsFor G d h Q a0 x1) : Cal G d mX12_wordsFor [.ref a0, .int x1] h Q := cal_of rfl (Nat.le_of_ble_eq_true rfl) (t_X12_wordsFor ht)
def T_X12_wordsFor_2 (G : GG) (d : Nat) (h : HP) (Q : Option Value → HP → Prop) (a0 : Nat) (x1 : Int32) (x2 : Int32) : Prop :=
  ((12 ≤ x2 → Kd G h a0 12 ∧ ∃ q3, hR h a0 28 = some q3 ∧ Kd G h q3 15 ∧ vp_in 1 (hN h q3) ∧ vp_in 2 (hN (sL h q3 1 (((hI h a0 33) - (hI h a0 31)).toInt64)) q3) ∧ ∀ h8, h8 = (sL (sL h q3 1 (((hI h a0 33) - (hI h a0 31)).toInt64)) q3 2 (((hI (sL h q3 1 (((hI h a0 33) - (hI h a0 31)).toInt64)) a0 34) - (hI (sL h q3 1 (((hI h a0 33) - (hI h a0 31)).toInt64)) a0 32)).toInt64)) → vp_in 1 (hN h8 q3) ∧ vp_in 2 (hN h8 q3) ∧ vp_in 0 (hN h8 q3) ∧ Ex G d mX12_wordsFor 81 [(0, .ref a0), (1, .int x1), (2, .int (hI (sL h8 q3 0 (2 * ((hL h8 q3 1) + (hL h8 q3 2)))) a0 32))] [] (sL h8 q3 0 (2 * ((hL h8 q3 1) + (hL h8 q3 2)))) Q) ∧ (¬ 12 ≤ x2 → Kd G h a0 12 ∧ ∃ q15, hR h a0 28 = some q15 ∧ Kd G h q15 15 ∧ vp_in x2 (hN h q15) ∧ Ex G d mX12_wordsFor 2 [(0, .ref a0), (1, .int x1), (2, .int (x2 + 1))] [] (sL h q15 x2.toNatClampNeg 0) Q))
set_option maxRecDepth 20000 in
theorem t_X12_wordsFor_2 {G : GG} {d : Nat} {h : HP} {Q : Option Value → HP → Prop} {a0 : Nat} {x1 : Int32} {x2 : Int32} (ht : T_X12_wordsFor_2 G d h Q a0 x1 x2) : Ex G d mX12_wordsFor 2 [(0, .ref a0), (1, .int x1), (2, .int x2)] [] h Q := by
  unfold T_X12_wordsFor_2 at ht
  refine x_iload_n (pc2 := 3) 2 (n := 2) (x := x2) rfl dX12_wordsFor_2 rfl ?_
  refine x_bipush (pc2 := 5) (v := 12) (by decide) dX12_wordsFor_3 rfl ?_
  refine x_icmp_ge (pc2 := 8) 21 dX12_wordsFor_5 (by decide) rfl (fun c1 => ?_) (fun c1 => ?_)
  · replace ht := ht.1 c1
    refine x_aload_n (pc2 := 22) 0 (n := 0) (x := a0) rfl dX12_wordsFor_21 rfl ?_
    obtain ⟨k2, ht⟩ := ht
    obtain ⟨q3, e4, ht⟩ := ht
    refine y_getR (pc2 := 25) (κ := 12) (k := 28) fl_X12_45 (by decide) (by decide) k2 rfl e4 dX12_wordsFor_22 rfl ?_
    refine x_iconst (pc2 := 26) (v := 1) (by decide) dX12_wordsFor_25 rfl ?_
    refine x_aload_n (pc2 := 27) 0 (n := 0) (x := a0) rfl dX12_wordsFor_26 rfl ?_
    refine y_getI (pc2 := 30) (κ := 12) (k := 33) fl_X12_326 (by decide) (by decide) k2 rfl dX12_wordsFor_27 rfl ?_
    refine x_aload_n (pc2 := 31) 0 (n := 0) (x := a0) rfl dX12_wordsFor_30 rfl ?_
    refine y_getI (pc2 := 34) (κ := 12) (k := 31) fl_X12_320 (by decide) (by decide) k2 rfl dX12_wordsFor_31 rfl ?_
    refine x_isub (pc2 := 35) dX12_wordsFor_34 rfl ?_
    refine x_i2l (pc2 := 36) dX12_wordsFor_35 rfl ?_
    obtain ⟨k5, ht⟩ := ht
    obtain ⟨b6, ht⟩ := ht
    refine z_last (pc2 := 37) (k := 1) (by decide) k5 b6 dX12_wordsFor_36 rfl ?_
    refine x_aload_n (pc2 := 38) 0 (n := 0) (x := a0) rfl dX12_wordsFor_37 rfl ?_
    refine y_getR (pc2 := 41) (κ := 12) (k := 28) fl_X12_45 (by decide) (by decide) k2.sL rfl ((hR_sL _ _ _ _ _ _).trans e4) dX12_wordsFor_38 rfl ?_
    refine x_iconst (pc2 := 42) (v := 2) (by decide) dX12_wordsFor_41 rfl ?_
    refine x_aload_n (pc2 := 43) 0 (n := 0) (x := a0) rfl dX12_wordsFor_42 rfl ?_
    refine y_getI (pc2 := 46) (κ := 12) (k := 34) fl_X12_329 (by decide) (by decide) k2.sL rfl dX12_wordsFor_43 rfl ?_
    refine x_aload_n (pc2 := 47) 0 (n := 0) (x := a0) rfl dX12_wordsFor_46 rfl ?_
    refine y_getI (pc2 := 50) (κ := 12) (k := 32) fl_X12_323 (by decide) (by decide) k2.sL rfl dX12_wordsFor_47 rfl ?_
    refine x_isub (pc2 := 51) dX12_wordsFor_50 rfl ?_
    refine x_i2l (pc2 := 52) dX12_wordsFor_51 rfl ?_
    obtain ⟨b7, ht⟩ := ht
    refine z_last (pc2 := 53) (k := 2) (by decide) k5.sL b7 dX12_wordsFor_52 rfl ?_
    refine nm_L (fun h8 e9 p10 => ?_)
    replace ht := ht h8 e9
    refine x_aload_n (pc2 := 54) 0 (n := 0) (x := a0) rfl dX12_wordsFor_53 rfl ?_
    refine y_getR (pc2 := 57) (κ := 12) (k := 28) fl_X12_45 (by decide) (by decide) (k2.sL.up p10) rfl (by rw [e9]; exact ((hR_sL _ _ _ _ _ _).trans ((hR_sL _ _ _ _ _ _).trans e4))) dX12_wordsFor_54 rfl ?_
    refine x_iconst (pc2 := 58) (v := 0) (by decide) dX12_wordsFor_57 rfl ?_
    refine x_ldc2 (pc2 := 61) (v := 2) ct_X12_345 dX12_wordsFor_58 rfl ?_
    refine x_aload_n (pc2 := 62) 0 (n := 0) (x := a0) rfl dX12_wordsFor_61 rfl ?_
    refine y_getR (pc2 := 65) (κ := 12) (k := 28) fl_X12_45 (by decide) (by decide) (k2.sL.up p10) rfl (by rw [e9]; exact ((hR_sL _ _ _ _ _ _).trans ((hR_sL _ _ _ _ _ _).trans e4))) dX12_wordsFor_62 rfl ?_
    refine x_iconst (pc2 := 66) (v := 1) (by decide) dX12_wordsFor_65 rfl ?_
    obtain ⟨b11, ht⟩ := ht
    refine z_lald (pc2 := 67) (k := 1) (by decide) (k5.sL.up p10) b11 dX12_wordsFor_66 rfl ?_
    refine x_aload_n (pc2 := 68) 0 (n := 0) (x := a0) rfl dX12_wordsFor_67 rfl ?_
    refine y_getR (pc2 := 71) (κ := 12) (k := 28) fl_X12_45 (by decide) (by decide) (k2.sL.up p10) rfl (by rw [e9]; exact ((hR_sL _ _ _ _ _ _).trans ((hR_sL _ _ _ _ _ _).trans e4))) dX12_wordsFor_68 rfl ?_
    refine x_iconst (pc2 := 72) (v := 2) (by decide) dX12_wordsFor_71 rfl ?_
    obtain ⟨b12, ht⟩ := ht
    refine z_lald (pc2 := 73) (k := 2) (by decide) (k5.sL.up p10) b12 dX12_wordsFor_72 rfl ?_
    refine x_ladd (pc2 := 74) dX12_wordsFor_73 rfl ?_
    refine x_lmul (pc2 := 75) dX12_wordsFor_74 rfl ?_
    obtain ⟨b13, ht⟩ := ht
    refine z_last (pc2 := 76) (k := 0) (by decide) (k5.sL.up p10) b13 dX12_wordsFor_75 rfl ?_
    refine x_aload_n (pc2 := 77) 0 (n := 0) (x := a0) rfl dX12_wordsFor_76 rfl ?_
    refine y_getI (pc2 := 80) (κ := 12) (k := 32) fl_X12_323 (by decide) (by decide) (k2.sL.up p10).sL rfl dX12_wordsFor_77 rfl ?_
    refine x_istore_n (pc2 := 81) [1, 2, 0] (n := 2) (x := (hI (sL h8 q3 0 (2 * ((hL h8 q3 1) + (hL h8 q3 2)))) a0 32)) (lv2 := [(0, .ref a0), (1, .int x1), (2, .int (hI (sL h8 q3 0 (2 * ((hL h8 q3 1) + (hL h8 q3 2)))) a0 32))]) (by decide) rfl dX12_wordsFor_80 rfl ?_
    exact ht
  · replace ht := ht.2 c1
    refine x_aload_n (pc2 := 9) 0 (n := 0) (x := a0) rfl dX12_wordsFor_8 rfl ?_
    obtain ⟨k14, ht⟩ := ht
    obtain ⟨q15, e16, ht⟩ := ht
    refine y_getR (pc2 := 12) (κ := 12) (k := 28) fl_X12_45 (by decide) (by decide) k14 rfl e16 dX12_wordsFor_9 rfl ?_
    refine x_iload_n (pc2 := 13) 2 (n := 2) (x := x2) rfl dX12_wordsFor_12 rfl ?_
    refine x_lconst (pc2 := 14) (v := 0) (by decide) dX12_wordsFor_13 rfl ?_
    obtain ⟨k17, ht⟩ := ht
    obtain ⟨b18, ht⟩ := ht
    refine x_last (pc2 := 15) k17 b18 dX12_wordsFor_14 rfl ?_
    refine x_iinc (pc2 := 18) 2 [1, 2, 0] (i := 2) (x := x2) (v := (x2 + 1)) (lv2 := [(0, .ref a0), (1, .int x1), (2, .int (x2 + 1))]) rfl (iinc_eq (by decide) _) (by decide) rfl dX12_wordsFor_15 rfl ?_
    refine x_goto 2 dX12_wordsFor_18 (by decide) ?_
    exact ht
def T_X12_wordsFor_81 (G : GG) (d : Nat) (h : HP) (Q : Option Value → HP → Prop) (a0 : Nat) (x1 : Int32) (x2 : Int32) : Prop :=
  Kd G h a0 12 ∧ (((hI h a0 34) ≤ x2 → ∃ q3, hR h a0 28 = some q3 ∧ Cal G (d - 1) mX12_deepOf [.ref a0, .int (hI h a0 35)] h (fun r5 h6 => ∃ v8, r5 = some (.int v8) ∧ (((hI h6 a0 35) < 6 → Ex G d mX12_wordsFor 256 [(0, .ref a0), (1, .int x1), (2, .int x2)] [.int 0, .int v8, .int 7, .ref q3] h6 Q) ∧ (¬ (hI h6 a0 35) < 6 → Ex G d mX12_wordsFor 256 [(0, .ref a0), (1, .int x1), (2, .int x2)] [.int 1, .int v8, .int 7, .ref q3] h6 Q)))) ∧ (¬ (hI h a0 34) ≤ x2 → Ex G d mX12_wordsFor 94 [(0, .ref a0), (1, .int x1), (2, .int x2), (3, .int (hI h a0 31))] [] h Q))
set_option maxRecDepth 20000 in
theorem t_X12_wordsFor_81 {G : GG} {d : Nat} {h : HP} {Q : Option Value → HP → Prop} {a0 : Nat} {x1 : Int32} {x2 : Int32} (hd1 : 1 ≤ d) (ht : T_X12_wordsFor_81 G d h Q a0 x1 x2) : Ex G d mX12_wordsFor 81 [(0, .ref a0), (1, .int x1), (2, .int x2)] [] h Q := by
  unfold T_X12_wordsFor_81 at ht
  refine x_iload_n (pc2 := 82) 2 (n := 2) (x := x2) rfl dX12_wordsFor_81 rfl ?_
  refine x_aload_n (pc2 := 83) 0 (n := 0) (x := a0) rfl dX12_wordsFor_82 rfl ?_
  obtain ⟨k1, ht⟩ := ht
  refine y_getI (pc2 := 86) (κ := 12) (k := 34) fl_X12_329 (by decide) (by decide) k1 rfl dX12_wordsFor_83 rfl ?_
  refine x_icmp_ge (pc2 := 89) 228 dX12_wordsFor_86 (by decide) rfl (fun c2 => ?_) (fun c2 => ?_)
  · replace ht := ht.1 c2
    refine x_aload_n (pc2 := 229) 0 (n := 0) (x := a0) rfl dX12_wordsFor_228 rfl ?_
    obtain ⟨q3, e4, ht⟩ := ht
    refine y_getR (pc2 := 232) (κ := 12) (k := 28) fl_X12_45 (by decide) (by decide) k1 rfl e4 dX12_wordsFor_229 rfl ?_
    refine x_bipush (pc2 := 234) (v := 7) (by decide) dX12_wordsFor_232 rfl ?_
    refine x_aload_n (pc2 := 235) 0 (n := 0) (x := a0) rfl dX12_wordsFor_234 rfl ?_
    refine x_aload_n (pc2 := 236) 0 (n := 0) (x := a0) rfl dX12_wordsFor_235 rfl ?_
    refine y_getI (pc2 := 239) (κ := 12) (k := 35) fl_X12_332 (by decide) (by decide) k1 rfl dX12_wordsFor_236 rfl ?_
    refine x_callV (pc2 := 242) (As := [.int (hI h a0 35)]) (rest := [.int 7, .ref q3]) (b := a0) mv_X12_deepOf ml_X12_351 k1 rfl rfl (Nat.le_of_ble_eq_true rfl) hd1 dX12_wordsFor_239 rfl (ht.mono (fun r5 h6 p7 ht' => ?_))
    clear ht
    obtain ⟨v8, rfl, ht⟩ := ht'
    show Ex G d mX12_wordsFor 242 [(0, .ref a0), (1, .int x1), (2, .int x2)] [.int v8, .int 7, .ref q3] h6 Q
    refine x_aload_n (pc2 := 243) 0 (n := 0) (x := a0) rfl dX12_wordsFor_242 rfl ?_
    refine y_getI (pc2 := 246) (κ := 12) (k := 35) fl_X12_332 (by decide) (by decide) (k1.up p7) rfl dX12_wordsFor_243 rfl ?_
    refine x_bipush (pc2 := 248) (v := 6) (by decide) dX12_wordsFor_246 rfl ?_
    refine x_icmp_lt (pc2 := 251) 255 dX12_wordsFor_248 (by decide) rfl (fun c9 => ?_) (fun c9 => ?_)
    · replace ht := ht.1 c9
      refine x_iconst (pc2 := 256) (v := 0) (by decide) dX12_wordsFor_255 rfl ?_
      exact ht
    · replace ht := ht.2 c9
      refine x_iconst (pc2 := 252) (v := 1) (by decide) dX12_wordsFor_251 rfl ?_
      refine x_goto 256 dX12_wordsFor_252 (by decide) ?_
      exact ht
  · replace ht := ht.2 c2
    refine x_aload_n (pc2 := 90) 0 (n := 0) (x := a0) rfl dX12_wordsFor_89 rfl ?_
    refine y_getI (pc2 := 93) (κ := 12) (k := 31) fl_X12_320 (by decide) (by decide) k1 rfl dX12_wordsFor_90 rfl ?_
    refine x_istore_n (pc2 := 94) [1, 2, 3, 0] (n := 3) (x := (hI h a0 31)) (lv2 := [(0, .ref a0), (1, .int x1), (2, .int x2), (3, .int (hI h a0 31))]) (by decide) rfl dX12_wordsFor_93 rfl ?_
    exact ht
def T_X12_wordsFor_94 (G : GG) (d : Nat) (h : HP) (Q : Option Value → HP → Prop) (a0 : Nat) (x1 : Int32) (x2 : Int32) (x3 : Int32) : Prop :=
  Kd G h a0 12 ∧ (((hI h a0 33) ≤ x3 → Ex G d mX12_wordsFor 81 [(0, .ref a0), (1, .int x1), (2, .int (x2 + 1))] [] h Q) ∧ (¬ (hI h a0 33) ≤ x3 → Cal G (d - 1) mX12_hasCell [.ref a0, .int (hI h a0 35), .int x3, .int x2] h (fun r3 h4 => ∃ v6, r3 = some (.int v6) ∧ ((¬ v6 = 0 → Ex G d mX12_wordsFor 94 [(0, .ref a0), (1, .int x1), (2, .int x2), (3, .int (x3 + 1))] [] h4 Q) ∧ (v6 = 0 → (((hI h4 a0 36) = (-1) → Ex G d mX12_wordsFor 139 [(0, .ref a0), (1, .int x1), (2, .int x2), (3, .int x3)] [] h4 Q) ∧ (¬ (hI h4 a0 36) = (-1) → Cal G (d - 1) mX12_hasCell [.ref a0, .int (hI h4 a0 36), .int x3, .int x2] h4 (fun r9 h10 => ∃ v12, r9 = some (.int v12) ∧ ((v12 = 0 → Ex G d mX12_wordsFor 139 [(0, .ref a0), (1, .int x1), (2, .int x2), (3, .int x3)] [] h10 Q) ∧ (¬ v12 = 0 → Ex G d mX12_wordsFor 94 [(0, .ref a0), (1, .int x1), (2, .int x2), (3, .int (x3 + 1))] [] h10 Q))))))))))
set_option maxRecDepth 20000 in
theorem t_X12_wordsFor_94 {G : GG} {d : Nat} {h : HP} {Q : Option Value → HP → Prop} {a0 : Nat} {x1 : Int32} {x2 : Int32} {x3 : Int32} (hd1 : 1 ≤ d) (ht : T_X12_wordsFor_94 G d h Q a0 x1 x2 x3) : Ex G d mX12_wordsFor 94 [(0, .ref a0), (1, .int x1), (2, .int x2), (3, .int x3)] [] h Q := by
  unfold T_X12_wordsFor_94 at ht
  refine x_iload_n (pc2 := 95) 3 (n := 3) (x := x3) rfl dX12_wordsFor_94 rfl ?_
  refine x_aload_n (pc2 := 96) 0 (n := 0) (x := a0) rfl dX12_wordsFor_95 rfl ?_
  obtain ⟨k1, ht⟩ := ht
  refine y_getI (pc2 := 99) (κ := 12) (k := 33) fl_X12_326 (by decide) (by decide) k1 rfl dX12_wordsFor_96 rfl ?_
  refine x_icmp_ge (pc2 := 102) 222 dX12_wordsFor_99 (by decide) rfl (fun c2 => ?_) (fun c2 => ?_)
  · replace ht := ht.1 c2
    refine x_iinc (pc2 := 225) 2 [1, 2, 0, 3] (i := 2) (x := x2) (v := (x2 + 1)) (lv2 := [(0, .ref a0), (1, .int x1), (2, .int (x2 + 1)), (3, .int x3)]) rfl (iinc_eq (by decide) _) (by decide) rfl dX12_wordsFor_222 rfl ?_
    refine x_goto 81 dX12_wordsFor_225 (by decide) ?_
    refine x_sub [0, 1, 2] (lv2 := [(0, .ref a0), (1, .int x1), (2, .int (x2 + 1))]) rfl ?_
    exact ht
  · replace ht := ht.2 c2
    refine x_aload_n (pc2 := 103) 0 (n := 0) (x := a0) rfl dX12_wordsFor_102 rfl ?_
    refine x_aload_n (pc2 := 104) 0 (n := 0) (x := a0) rfl dX12_wordsFor_103 rfl ?_
    refine y_getI (pc2 := 107) (κ := 12) (k := 35) fl_X12_332 (by decide) (by decide) k1 rfl dX12_wordsFor_104 rfl ?_
    refine x_iload_n (pc2 := 108) 3 (n := 3) (x := x3) rfl dX12_wordsFor_107 rfl ?_
    refine x_iload_n (pc2 := 109) 2 (n := 2) (x := x2) rfl dX12_wordsFor_108 rfl ?_
    refine x_callV (pc2 := 112) (As := [.int (hI h a0 35), .int x3, .int x2]) (rest := []) (b := a0) mv_X12_hasCell ml_X12_347 k1 rfl rfl (Nat.le_of_ble_eq_true rfl) hd1 dX12_wordsFor_109 rfl (ht.mono (fun r3 h4 p5 ht' => ?_))
    clear ht
    obtain ⟨v6, rfl, ht⟩ := ht'
    show Ex G d mX12_wordsFor 112 [(0, .ref a0), (1, .int x1), (2, .int x2), (3, .int x3)] [.int v6] h4 Q
    refine y_if_ne (pc2 := 115) 216 dX12_wordsFor_112 (by decide) rfl (fun c7 => ?_) (fun c7 => ?_)
    · replace ht := ht.1 c7
      refine x_iinc (pc2 := 219) 3 [1, 2, 3, 0] (i := 3) (x := x3) (v := (x3 + 1)) (lv2 := [(0, .ref a0), (1, .int x1), (2, .int x2), (3, .int (x3 + 1))]) rfl (iinc_eq (by decide) _) (by decide) rfl dX12_wordsFor_216 rfl ?_
      refine x_goto 94 dX12_wordsFor_219 (by decide) ?_
      exact ht
    · replace ht := ht.2 c7
      refine x_aload_n (pc2 := 116) 0 (n := 0) (x := a0) rfl dX12_wordsFor_115 rfl ?_
      refine y_getI (pc2 := 119) (κ := 12) (k := 36) fl_X12_335 (by decide) (by decide) (k1.up p5) rfl dX12_wordsFor_116 rfl ?_
      refine x_iconst (pc2 := 120) (v := (-1)) (by decide) dX12_wordsFor_119 rfl ?_
      refine x_icmp_eq (pc2 := 123) 139 dX12_wordsFor_120 (by decide) rfl (fun c8 => ?_) (fun c8 => ?_)
      · replace ht := ht.1 c8
        exact ht
      · replace ht := ht.2 c8
        refine x_aload_n (pc2 := 124) 0 (n := 0) (x := a0) rfl dX12_wordsFor_123 rfl ?_
        refine x_aload_n (pc2 := 125) 0 (n := 0) (x := a0) rfl dX12_wordsFor_124 rfl ?_
        refine y_getI (pc2 := 128) (κ := 12) (k := 36) fl_X12_335 (by decide) (by decide) (k1.up p5) rfl dX12_wordsFor_125 rfl ?_
        refine x_iload_n (pc2 := 129) 3 (n := 3) (x := x3) rfl dX12_wordsFor_128 rfl ?_
        refine x_iload_n (pc2 := 130) 2 (n := 2) (x := x2) rfl dX12_wordsFor_129 rfl ?_
        refine x_callV (pc2 := 133) (As := [.int (hI h4 a0 36), .int x3, .int x2]) (rest := []) (b := a0) mv_X12_hasCell ml_X12_347 (k1.up p5) rfl rfl (Nat.le_of_ble_eq_true rfl) hd1 dX12_wordsFor_130 rfl (ht.mono (fun r9 h10 p11 ht' => ?_))
        clear ht
        obtain ⟨v12, rfl, ht⟩ := ht'
        show Ex G d mX12_wordsFor 133 [(0, .ref a0), (1, .int x1), (2, .int x2), (3, .int x3)] [.int v12] h10 Q
        refine x_if_eq (pc2 := 136) 139 dX12_wordsFor_133 (by decide) rfl (fun c13 => ?_) (fun c13 => ?_)
        · replace ht := ht.1 c13
          exact ht
        · replace ht := ht.2 c13
          refine x_goto 216 dX12_wordsFor_136 (by decide) ?_
          refine x_iinc (pc2 := 219) 3 [1, 2, 3, 0] (i := 3) (x := x3) (v := (x3 + 1)) (lv2 := [(0, .ref a0), (1, .int x1), (2, .int x2), (3, .int (x3 + 1))]) rfl (iinc_eq (by decide) _) (by decide) rfl dX12_wordsFor_216 rfl ?_
          refine x_goto 94 dX12_wordsFor_219 (by decide) ?_
          exact ht
def T_X12_wordsFor_139 (G : GG) (d : Nat) (h : HP) (Q : Option Value → HP → Prop) (a0 : Nat) (x1 : Int32) (x2 : Int32) (x3 : Int32) : Prop :=
  Kd G h a0 12 ∧ ∃ q2, hR h a0 29 = some q2 ∧ Kd G h q2 14 ∧ vp_in ((8 + (40 * x2)) + x3) (hN h q2) ∧ ∃ q6, hR h a0 28 = some q6 ∧ Kd G h q6 15 ∧ vp_in 3 (hN h q6) ∧ vp_in 3 (hN h q6) ∧ vp_in 4 (hN (sL h q6 3 ((hL h q6 3) + 1)) q6) ∧ vp_in 4 (hN (sL h q6 3 ((hL h q6 3) + 1)) q6) ∧ ∀ h13, h13 = (sL (sL h q6 3 ((hL h q6 3) + 1)) q6 4 ((hL (sL h q6 3 ((hL h q6 3) + 1)) q6 4) + ((irm (hI h q2 ((8 + (40 * x2)) + x3).toNatClampNeg) 128).toInt64))) → vp_in 5 (hN h13 q6) ∧ vp_in 5 (hN h13 q6) ∧ ∀ h18, h18 = (sL h13 q6 5 ((hL h13 q6 5) + (((hI h q2 ((8 + (40 * x2)) + x3).toNatClampNeg) / 256).toInt64))) → vp_in 6 (hN h18 q6) ∧ vp_in 6 (hN h18 q6) ∧ ∀ h23, h23 = (sL h18 q6 6 ((hL h18 q6 6) + ((irm ((hI h q2 ((8 + (40 * x2)) + x3).toNatClampNeg) / 128) 2).toInt64))) → Ex G d mX12_wordsFor 94 [(0, .ref a0), (1, .int x1), (2, .int x2), (3, .int (x3 + 1))] [] h23 Q
set_option maxRecDepth 20000 in
theorem t_X12_wordsFor_139 {G : GG} {d : Nat} {h : HP} {Q : Option Value → HP → Prop} {a0 : Nat} {x1 : Int32} {x2 : Int32} {x3 : Int32} (ht : T_X12_wordsFor_139 G d h Q a0 x1 x2 x3) : Ex G d mX12_wordsFor 139 [(0, .ref a0), (1, .int x1), (2, .int x2), (3, .int x3)] [] h Q := by
  unfold T_X12_wordsFor_139 at ht
  refine x_aload_n (pc2 := 140) 0 (n := 0) (x := a0) rfl dX12_wordsFor_139 rfl ?_
  obtain ⟨k1, ht⟩ := ht
  obtain ⟨q2, e3, ht⟩ := ht
  refine y_getR (pc2 := 143) (κ := 12) (k := 29) fl_X12_48 (by decide) (by decide) k1 rfl e3 dX12_wordsFor_140 rfl ?_
  refine x_bipush (pc2 := 145) (v := 8) (by decide) dX12_wordsFor_143 rfl ?_
  refine x_bipush (pc2 := 147) (v := 40) (by decide) dX12_wordsFor_145 rfl ?_
  refine x_iload_n (pc2 := 148) 2 (n := 2) (x := x2) rfl dX12_wordsFor_147 rfl ?_
  refine x_imul (pc2 := 149) dX12_wordsFor_148 rfl ?_
  refine x_iadd (pc2 := 150) dX12_wordsFor_149 rfl ?_
  refine x_iload_n (pc2 := 151) 3 (n := 3) (x := x3) rfl dX12_wordsFor_150 rfl ?_
  refine x_iadd (pc2 := 152) dX12_wordsFor_151 rfl ?_
  obtain ⟨k4, ht⟩ := ht
  obtain ⟨b5, ht⟩ := ht
  refine x_iald (pc2 := 153) k4 b5 dX12_wordsFor_152 rfl ?_
  refine x_istore (pc2 := 155) [1, 2, 3, 4, 0] (n := 4) (x := (hI h q2 ((8 + (40 * x2)) + x3).toNatClampNeg)) (lv2 := [(0, .ref a0), (1, .int x1), (2, .int x2), (3, .int x3), (4, .int (hI h q2 ((8 + (40 * x2)) + x3).toNatClampNeg))]) (by decide) rfl dX12_wordsFor_153 rfl ?_
  refine x_aload_n (pc2 := 156) 0 (n := 0) (x := a0) rfl dX12_wordsFor_155 rfl ?_
  obtain ⟨q6, e7, ht⟩ := ht
  refine y_getR (pc2 := 159) (κ := 12) (k := 28) fl_X12_45 (by decide) (by decide) k1 rfl e7 dX12_wordsFor_156 rfl ?_
  refine x_iconst (pc2 := 160) (v := 3) (by decide) dX12_wordsFor_159 rfl ?_
  refine x_dup2 (pc2 := 161) rfl rfl dX12_wordsFor_160 rfl ?_
  obtain ⟨k8, ht⟩ := ht
  obtain ⟨b9, ht⟩ := ht
  refine z_lald (pc2 := 162) (k := 3) (by decide) k8 b9 dX12_wordsFor_161 rfl ?_
  refine x_lconst (pc2 := 163) (v := 1) (by decide) dX12_wordsFor_162 rfl ?_
  refine x_ladd (pc2 := 164) dX12_wordsFor_163 rfl ?_
  obtain ⟨b10, ht⟩ := ht
  refine z_last (pc2 := 165) (k := 3) (by decide) k8 b10 dX12_wordsFor_164 rfl ?_
  refine x_aload_n (pc2 := 166) 0 (n := 0) (x := a0) rfl dX12_wordsFor_165 rfl ?_
  refine y_getR (pc2 := 169) (κ := 12) (k := 28) fl_X12_45 (by decide) (by decide) k1.sL rfl ((hR_sL _ _ _ _ _ _).trans e7) dX12_wordsFor_166 rfl ?_
  refine x_iconst (pc2 := 170) (v := 4) (by decide) dX12_wordsFor_169 rfl ?_
  refine x_dup2 (pc2 := 171) rfl rfl dX12_wordsFor_170 rfl ?_
  obtain ⟨b11, ht⟩ := ht
  refine z_lald (pc2 := 172) (k := 4) (by decide) k8.sL b11 dX12_wordsFor_171 rfl ?_
  refine x_iload (pc2 := 174) 4 (n := 4) (x := (hI h q2 ((8 + (40 * x2)) + x3).toNatClampNeg)) rfl dX12_wordsFor_172 rfl ?_
  refine x_sipush (pc2 := 177) (v := 128) (by decide) dX12_wordsFor_174 rfl ?_
  refine y_irem (pc2 := 178) (by decide) dX12_wordsFor_177 rfl ?_
  refine x_i2l (pc2 := 179) dX12_wordsFor_178 rfl ?_
  refine x_ladd (pc2 := 180) dX12_wordsFor_179 rfl ?_
  obtain ⟨b12, ht⟩ := ht
  refine z_last (pc2 := 181) (k := 4) (by decide) k8.sL b12 dX12_wordsFor_180 rfl ?_
  refine nm_L (fun h13 e14 p15 => ?_)
  replace ht := ht h13 e14
  refine x_aload_n (pc2 := 182) 0 (n := 0) (x := a0) rfl dX12_wordsFor_181 rfl ?_
  refine y_getR (pc2 := 185) (κ := 12) (k := 28) fl_X12_45 (by decide) (by decide) (k1.sL.up p15) rfl (by rw [e14]; exact ((hR_sL _ _ _ _ _ _).trans ((hR_sL _ _ _ _ _ _).trans e7))) dX12_wordsFor_182 rfl ?_
  refine x_iconst (pc2 := 186) (v := 5) (by decide) dX12_wordsFor_185 rfl ?_
  refine x_dup2 (pc2 := 187) rfl rfl dX12_wordsFor_186 rfl ?_
  obtain ⟨b16, ht⟩ := ht
  refine z_lald (pc2 := 188) (k := 5) (by decide) (k8.sL.up p15) b16 dX12_wordsFor_187 rfl ?_
  refine x_iload (pc2 := 190) 4 (n := 4) (x := (hI h q2 ((8 + (40 * x2)) + x3).toNatClampNeg)) rfl dX12_wordsFor_188 rfl ?_
  refine x_sipush (pc2 := 193) (v := 256) (by decide) dX12_wordsFor_190 rfl ?_
  refine x_idiv (pc2 := 194) (by decide) dX12_wordsFor_193 rfl ?_
  refine x_i2l (pc2 := 195) dX12_wordsFor_194 rfl ?_
  refine x_ladd (pc2 := 196) dX12_wordsFor_195 rfl ?_
  obtain ⟨b17, ht⟩ := ht
  refine z_last (pc2 := 197) (k := 5) (by decide) (k8.sL.up p15) b17 dX12_wordsFor_196 rfl ?_
  refine nm_L (fun h18 e19 p20 => ?_)
  replace ht := ht h18 e19
  refine x_aload_n (pc2 := 198) 0 (n := 0) (x := a0) rfl dX12_wordsFor_197 rfl ?_
  refine y_getR (pc2 := 201) (κ := 12) (k := 28) fl_X12_45 (by decide) (by decide) ((k1.sL.up p15).up p20) rfl (by rw [e19]; exact ((hR_sL _ _ _ _ _ _).trans (by rw [e14]; exact ((hR_sL _ _ _ _ _ _).trans ((hR_sL _ _ _ _ _ _).trans e7))))) dX12_wordsFor_198 rfl ?_
  refine x_bipush (pc2 := 203) (v := 6) (by decide) dX12_wordsFor_201 rfl ?_
  refine x_dup2 (pc2 := 204) rfl rfl dX12_wordsFor_203 rfl ?_
  obtain ⟨b21, ht⟩ := ht
  refine z_lald (pc2 := 205) (k := 6) (by decide) ((k8.sL.up p15).up p20) b21 dX12_wordsFor_204 rfl ?_
  refine x_iload (pc2 := 207) 4 (n := 4) (x := (hI h q2 ((8 + (40 * x2)) + x3).toNatClampNeg)) rfl dX12_wordsFor_205 rfl ?_
  refine x_sipush (pc2 := 210) (v := 128) (by decide) dX12_wordsFor_207 rfl ?_
  refine x_idiv (pc2 := 211) (by decide) dX12_wordsFor_210 rfl ?_
  refine x_iconst (pc2 := 212) (v := 2) (by decide) dX12_wordsFor_211 rfl ?_
  refine y_irem (pc2 := 213) (by decide) dX12_wordsFor_212 rfl ?_
  refine x_i2l (pc2 := 214) dX12_wordsFor_213 rfl ?_
  refine x_ladd (pc2 := 215) dX12_wordsFor_214 rfl ?_
  obtain ⟨b22, ht⟩ := ht
  refine z_last (pc2 := 216) (k := 6) (by decide) ((k8.sL.up p15).up p20) b22 dX12_wordsFor_215 rfl ?_
  refine nm_L (fun h23 e24 p25 => ?_)
  replace ht := ht h23 e24
  refine x_iinc (pc2 := 219) 3 [1, 2, 3, 0, 4] (i := 3) (x := x3) (v := (x3 + 1)) (lv2 := [(0, .ref a0), (1, .int x1), (2, .int x2), (3, .int (x3 + 1)), (4, .int (hI h q2 ((8 + (40 * x2)) + x3).toNatClampNeg))]) rfl (iinc_eq (by decide) _) (by decide) rfl dX12_wordsFor_216 rfl ?_
  refine x_goto 94 dX12_wordsFor_219 (by decide) ?_
  refine x_sub [0, 1, 2, 3] (lv2 := [(0, .ref a0), (1, .int x1), (2, .int x2), (3, .int (x3 + 1))]) rfl ?_
  exact ht
def T_X12_wordsFor_256 (G : GG) (d : Nat) (h : HP) (Q : Option Value → HP → Prop) (a0 : Nat) (x1 : Int32) (x2 : Int32) (sa0 : Nat) (sx1 : Int32) (sx2 : Int32) (sx3 : Int32) : Prop :=
  Kd G h sa0 15 ∧ vp_in sx1 (hN h sa0) ∧ Kd G (sL h sa0 sx1.toNatClampNeg ((sx2 + sx3).toInt64)) a0 12 ∧ ∃ q4, hR (sL h sa0 sx1.toNatClampNeg ((sx2 + sx3).toInt64)) a0 28 = some q4 ∧ Cal G (d - 1) mX12_likeOf [.ref a0, .int x1, .int (hI (sL h sa0 sx1.toNatClampNeg ((sx2 + sx3).toInt64)) a0 35)] (sL h sa0 sx1.toNatClampNeg ((sx2 + sx3).toInt64)) (fun r6 h7 => ∃ v9, r6 = some (.int v9) ∧ Kd G h7 q4 15 ∧ vp_in 8 (hN h7 q4) ∧ (((hI (sL h7 q4 8 (v9.toInt64)) a0 36) = (-1) → Ex G d mX12_wordsFor 346 [(0, .ref a0), (1, .int x1), (2, .int x2)] [] (sL h7 q4 8 (v9.toInt64)) Q) ∧ (¬ (hI (sL h7 q4 8 (v9.toInt64)) a0 36) = (-1) → ∃ q13, hR (sL h7 q4 8 (v9.toInt64)) a0 28 = some q13 ∧ Kd G (sL h7 q4 8 (v9.toInt64)) q13 15 ∧ vp_in 7 (hN (sL h7 q4 8 (v9.toInt64)) q13) ∧ Cal G (d - 1) mX12_deepOf [.ref a0, .int (hI (sL h7 q4 8 (v9.toInt64)) a0 36)] (sL h7 q4 8 (v9.toInt64)) (fun r17 h18 => ∃ v20, r17 = some (.int v20) ∧ (((hI h18 a0 36) < 6 → Ex G d mX12_wordsFor 314 [(0, .ref a0), (1, .int x1), (2, .int x2)] [.int 0, .int v20, .long (hL (sL h7 q4 8 (v9.toInt64)) q13 7), .int 7, .ref q13] h18 Q) ∧ (¬ (hI h18 a0 36) < 6 → Ex G d mX12_wordsFor 314 [(0, .ref a0), (1, .int x1), (2, .int x2)] [.int 1, .int v20, .long (hL (sL h7 q4 8 (v9.toInt64)) q13 7), .int 7, .ref q13] h18 Q))))))
set_option maxRecDepth 20000 in
theorem t_X12_wordsFor_256 {G : GG} {d : Nat} {h : HP} {Q : Option Value → HP → Prop} {a0 : Nat} {x1 : Int32} {x2 : Int32} {sa0 : Nat} {sx1 : Int32} {sx2 : Int32} {sx3 : Int32} (hd1 : 1 ≤ d) (ht : T_X12_wordsFor_256 G d h Q a0 x1 x2 sa0 sx1 sx2 sx3) : Ex G d mX12_wordsFor 256 [(0, .ref a0), (1, .int x1), (2, .int x2)] [.int sx3, .int sx2, .int sx1, .ref sa0] h Q := by
  unfold T_X12_wordsFor_256 at ht
  refine x_iadd (pc2 := 257) dX12_wordsFor_256 rfl ?_
  refine x_i2l (pc2 := 258) dX12_wordsFor_257 rfl ?_
  obtain ⟨k1, ht⟩ := ht
  obtain ⟨b2, ht⟩ := ht
  refine x_last (pc2 := 259) k1 b2 dX12_wordsFor_258 rfl ?_
  refine x_aload_n (pc2 := 260) 0 (n := 0) (x := a0) rfl dX12_wordsFor_259 rfl ?_
  obtain ⟨k3, ht⟩ := ht
  obtain ⟨q4, e5, ht⟩ := ht
  refine y_getR (pc2 := 263) (κ := 12) (k := 28) fl_X12_45 (by decide) (by decide) k3 rfl e5 dX12_wordsFor_260 rfl ?_
  refine x_bipush (pc2 := 265) (v := 8) (by decide) dX12_wordsFor_263 rfl ?_
  refine x_aload_n (pc2 := 266) 0 (n := 0) (x := a0) rfl dX12_wordsFor_265 rfl ?_
  refine x_iload_n (pc2 := 267) 1 (n := 1) (x := x1) rfl dX12_wordsFor_266 rfl ?_
  refine x_aload_n (pc2 := 268) 0 (n := 0) (x := a0) rfl dX12_wordsFor_267 rfl ?_
  refine y_getI (pc2 := 271) (κ := 12) (k := 35) fl_X12_332 (by decide) (by decide) k3 rfl dX12_wordsFor_268 rfl ?_
  refine x_callV (pc2 := 274) (As := [.int x1, .int (hI (sL h sa0 sx1.toNatClampNeg ((sx2 + sx3).toInt64)) a0 35)]) (rest := [.int 8, .ref q4]) (b := a0) mv_X12_likeOf ml_X12_354 k3 rfl rfl (Nat.le_of_ble_eq_true rfl) hd1 dX12_wordsFor_271 rfl (ht.mono (fun r6 h7 p8 ht' => ?_))
  clear ht
  obtain ⟨v9, rfl, ht⟩ := ht'
  show Ex G d mX12_wordsFor 274 [(0, .ref a0), (1, .int x1), (2, .int x2)] [.int v9, .int 8, .ref q4] h7 Q
  refine x_i2l (pc2 := 275) dX12_wordsFor_274 rfl ?_
  obtain ⟨k10, ht⟩ := ht
  obtain ⟨b11, ht⟩ := ht
  refine z_last (pc2 := 276) (k := 8) (by decide) k10 b11 dX12_wordsFor_275 rfl ?_
  refine x_aload_n (pc2 := 277) 0 (n := 0) (x := a0) rfl dX12_wordsFor_276 rfl ?_
  refine y_getI (pc2 := 280) (κ := 12) (k := 36) fl_X12_335 (by decide) (by decide) (k3.up p8).sL rfl dX12_wordsFor_277 rfl ?_
  refine x_iconst (pc2 := 281) (v := (-1)) (by decide) dX12_wordsFor_280 rfl ?_
  refine x_icmp_eq (pc2 := 284) 346 dX12_wordsFor_281 (by decide) rfl (fun c12 => ?_) (fun c12 => ?_)
  · replace ht := ht.1 c12
    exact ht
  · replace ht := ht.2 c12
    refine x_aload_n (pc2 := 285) 0 (n := 0) (x := a0) rfl dX12_wordsFor_284 rfl ?_
    obtain ⟨q13, e14, ht⟩ := ht
    refine y_getR (pc2 := 288) (κ := 12) (k := 28) fl_X12_45 (by decide) (by decide) (k3.up p8).sL rfl e14 dX12_wordsFor_285 rfl ?_
    refine x_bipush (pc2 := 290) (v := 7) (by decide) dX12_wordsFor_288 rfl ?_
    refine x_dup2 (pc2 := 291) rfl rfl dX12_wordsFor_290 rfl ?_
    obtain ⟨k15, ht⟩ := ht
    obtain ⟨b16, ht⟩ := ht
    refine z_lald (pc2 := 292) (k := 7) (by decide) k15 b16 dX12_wordsFor_291 rfl ?_
    refine x_aload_n (pc2 := 293) 0 (n := 0) (x := a0) rfl dX12_wordsFor_292 rfl ?_
    refine x_aload_n (pc2 := 294) 0 (n := 0) (x := a0) rfl dX12_wordsFor_293 rfl ?_
    refine y_getI (pc2 := 297) (κ := 12) (k := 36) fl_X12_335 (by decide) (by decide) (k3.up p8).sL rfl dX12_wordsFor_294 rfl ?_
    refine x_callV (pc2 := 300) (As := [.int (hI (sL h7 q4 8 (v9.toInt64)) a0 36)]) (rest := [.long (hL (sL h7 q4 8 (v9.toInt64)) q13 7), .int 7, .ref q13]) (b := a0) mv_X12_deepOf ml_X12_351 (k3.up p8).sL rfl rfl (Nat.le_of_ble_eq_true rfl) hd1 dX12_wordsFor_297 rfl (ht.mono (fun r17 h18 p19 ht' => ?_))
    clear ht
    obtain ⟨v20, rfl, ht⟩ := ht'
    show Ex G d mX12_wordsFor 300 [(0, .ref a0), (1, .int x1), (2, .int x2)] [.int v20, .long (hL (sL h7 q4 8 (v9.toInt64)) q13 7), .int 7, .ref q13] h18 Q
    refine x_aload_n (pc2 := 301) 0 (n := 0) (x := a0) rfl dX12_wordsFor_300 rfl ?_
    refine y_getI (pc2 := 304) (κ := 12) (k := 36) fl_X12_335 (by decide) (by decide) ((k3.up p8).sL.up p19) rfl dX12_wordsFor_301 rfl ?_
    refine x_bipush (pc2 := 306) (v := 6) (by decide) dX12_wordsFor_304 rfl ?_
    refine x_icmp_lt (pc2 := 309) 313 dX12_wordsFor_306 (by decide) rfl (fun c21 => ?_) (fun c21 => ?_)
    · replace ht := ht.1 c21
      refine x_iconst (pc2 := 314) (v := 0) (by decide) dX12_wordsFor_313 rfl ?_
      exact ht
    · replace ht := ht.2 c21
      refine x_iconst (pc2 := 310) (v := 1) (by decide) dX12_wordsFor_309 rfl ?_
      refine x_goto 314 dX12_wordsFor_310 (by decide) ?_
      exact ht
def T_X12_wordsFor_314 (G : GG) (d : Nat) (h : HP) (Q : Option Value → HP → Prop) (a0 : Nat) (x1 : Int32) (x2 : Int32) (sa0 : Nat) (sx1 : Int32) (sy2 : Int64) (sx3 : Int32) (sx4 : Int32) : Prop :=
  Kd G h sa0 15 ∧ vp_in sx1 (hN h sa0) ∧ Kd G (sL h sa0 sx1.toNatClampNeg (sy2 + ((sx3 + sx4).toInt64))) a0 12 ∧ ∃ q4, hR (sL h sa0 sx1.toNatClampNeg (sy2 + ((sx3 + sx4).toInt64))) a0 28 = some q4 ∧ Kd G (sL h sa0 sx1.toNatClampNeg (sy2 + ((sx3 + sx4).toInt64))) q4 15 ∧ vp_in 8 (hN (sL h sa0 sx1.toNatClampNeg (sy2 + ((sx3 + sx4).toInt64))) q4) ∧ Cal G (d - 1) mX12_likeOf [.ref a0, .int x1, .int (hI (sL h sa0 sx1.toNatClampNeg (sy2 + ((sx3 + sx4).toInt64))) a0 36)] (sL h sa0 sx1.toNatClampNeg (sy2 + ((sx3 + sx4).toInt64))) (fun r8 h9 => ∃ v11, r8 = some (.int v11) ∧ vp_in 8 (hN h9 q4) ∧ ∀ h13, h13 = (sL h9 q4 8 ((hL (sL h sa0 sx1.toNatClampNeg (sy2 + ((sx3 + sx4).toInt64))) q4 8) + (v11.toInt64))) → ∃ q16, hR h13 a0 28 = some q16 ∧ Kd G h13 q16 15 ∧ vp_in 11 (hN h13 q16) ∧ Ex G d mX12_wordsFor 346 [(0, .ref a0), (1, .int x1), (2, .int x2)] [] (sL h13 q16 11 1) Q)
set_option maxRecDepth 20000 in
theorem t_X12_wordsFor_314 {G : GG} {d : Nat} {h : HP} {Q : Option Value → HP → Prop} {a0 : Nat} {x1 : Int32} {x2 : Int32} {sa0 : Nat} {sx1 : Int32} {sy2 : Int64} {sx3 : Int32} {sx4 : Int32} (hd1 : 1 ≤ d) (ht : T_X12_wordsFor_314 G d h Q a0 x1 x2 sa0 sx1 sy2 sx3 sx4) : Ex G d mX12_wordsFor 314 [(0, .ref a0), (1, .int x1), (2, .int x2)] [.int sx4, .int sx3, .long sy2, .int sx1, .ref sa0] h Q := by
  unfold T_X12_wordsFor_314 at ht
  refine x_iadd (pc2 := 315) dX12_wordsFor_314 rfl ?_
  refine x_i2l (pc2 := 316) dX12_wordsFor_315 rfl ?_
  refine x_ladd (pc2 := 317) dX12_wordsFor_316 rfl ?_
  obtain ⟨k1, ht⟩ := ht
  obtain ⟨b2, ht⟩ := ht
  refine x_last (pc2 := 318) k1 b2 dX12_wordsFor_317 rfl ?_
  refine x_aload_n (pc2 := 319) 0 (n := 0) (x := a0) rfl dX12_wordsFor_318 rfl ?_
  obtain ⟨k3, ht⟩ := ht
  obtain ⟨q4, e5, ht⟩ := ht
  refine y_getR (pc2 := 322) (κ := 12) (k := 28) fl_X12_45 (by decide) (by decide) k3 rfl e5 dX12_wordsFor_319 rfl ?_
  refine x_bipush (pc2 := 324) (v := 8) (by decide) dX12_wordsFor_322 rfl ?_
  refine x_dup2 (pc2 := 325) rfl rfl dX12_wordsFor_324 rfl ?_
  obtain ⟨k6, ht⟩ := ht
  obtain ⟨b7, ht⟩ := ht
  refine z_lald (pc2 := 326) (k := 8) (by decide) k6 b7 dX12_wordsFor_325 rfl ?_
  refine x_aload_n (pc2 := 327) 0 (n := 0) (x := a0) rfl dX12_wordsFor_326 rfl ?_
  refine x_iload_n (pc2 := 328) 1 (n := 1) (x := x1) rfl dX12_wordsFor_327 rfl ?_
  refine x_aload_n (pc2 := 329) 0 (n := 0) (x := a0) rfl dX12_wordsFor_328 rfl ?_
  refine y_getI (pc2 := 332) (κ := 12) (k := 36) fl_X12_335 (by decide) (by decide) k3 rfl dX12_wordsFor_329 rfl ?_
  refine x_callV (pc2 := 335) (As := [.int x1, .int (hI (sL h sa0 sx1.toNatClampNeg (sy2 + ((sx3 + sx4).toInt64))) a0 36)]) (rest := [.long (hL (sL h sa0 sx1.toNatClampNeg (sy2 + ((sx3 + sx4).toInt64))) q4 8), .int 8, .ref q4]) (b := a0) mv_X12_likeOf ml_X12_354 k3 rfl rfl (Nat.le_of_ble_eq_true rfl) hd1 dX12_wordsFor_332 rfl (ht.mono (fun r8 h9 p10 ht' => ?_))
  clear ht
  obtain ⟨v11, rfl, ht⟩ := ht'
  show Ex G d mX12_wordsFor 335 [(0, .ref a0), (1, .int x1), (2, .int x2)] [.int v11, .long (hL (sL h sa0 sx1.toNatClampNeg (sy2 + ((sx3 + sx4).toInt64))) q4 8), .int 8, .ref q4] h9 Q
  refine x_i2l (pc2 := 336) dX12_wordsFor_335 rfl ?_
  refine x_ladd (pc2 := 337) dX12_wordsFor_336 rfl ?_
  obtain ⟨b12, ht⟩ := ht
  refine z_last (pc2 := 338) (k := 8) (by decide) (k6.up p10) b12 dX12_wordsFor_337 rfl ?_
  refine nm_L (fun h13 e14 p15 => ?_)
  replace ht := ht h13 e14
  refine x_aload_n (pc2 := 339) 0 (n := 0) (x := a0) rfl dX12_wordsFor_338 rfl ?_
  obtain ⟨q16, e17, ht⟩ := ht
  refine y_getR (pc2 := 342) (κ := 12) (k := 28) fl_X12_45 (by decide) (by decide) ((k3.up p10).up p15) rfl e17 dX12_wordsFor_339 rfl ?_
  refine x_bipush (pc2 := 344) (v := 11) (by decide) dX12_wordsFor_342 rfl ?_
  refine x_lconst (pc2 := 345) (v := 1) (by decide) dX12_wordsFor_344 rfl ?_
  obtain ⟨k18, ht⟩ := ht
  obtain ⟨b19, ht⟩ := ht
  refine z_last (pc2 := 346) (k := 11) (by decide) k18 b19 dX12_wordsFor_345 rfl ?_
  exact ht
def T_X12_wordsFor_346 (G : GG) (d : Nat) (h : HP) (Q : Option Value → HP → Prop) (a0 : Nat) (x1 : Int32) (x2 : Int32) : Prop :=
  Kd G h a0 12 ∧ ∃ q2, hR h a0 28 = some q2 ∧ Cal G (d - 1) mX12_wallsOf [.ref a0, .int x1] h (fun r4 h5 => ∃ v7, r4 = some (.int v7) ∧ Kd G h5 q2 15 ∧ vp_in 9 (hN h5 q2) ∧ ∃ q10, hR (sL h5 q2 9 (v7.toInt64)) a0 28 = some q10 ∧ ∃ q12, hR (sL h5 q2 9 (v7.toInt64)) a0 29 = some q12 ∧ Kd G (sL h5 q2 9 (v7.toInt64)) q12 14 ∧ vp_in 3 (hN (sL h5 q2 9 (v7.toInt64)) q12) ∧ Kd G (sL h5 q2 9 (v7.toInt64)) q10 15 ∧ vp_in 10 (hN (sL h5 q2 9 (v7.toInt64)) q10) ∧ Q none (sL (sL h5 q2 9 (v7.toInt64)) q10 10 ((hI (sL h5 q2 9 (v7.toInt64)) q12 3).toInt64)))
set_option maxRecDepth 20000 in
theorem t_X12_wordsFor_346 {G : GG} {d : Nat} {h : HP} {Q : Option Value → HP → Prop} {a0 : Nat} {x1 : Int32} {x2 : Int32} (hd1 : 1 ≤ d) (ht : T_X12_wordsFor_346 G d h Q a0 x1 x2) : Ex G d mX12_wordsFor 346 [(0, .ref a0), (1, .int x1), (2, .int x2)] [] h Q := by
  unfold T_X12_wordsFor_346 at ht
  refine x_aload_n (pc2 := 347) 0 (n := 0) (x := a0) rfl dX12_wordsFor_346 rfl ?_
  obtain ⟨k1, ht⟩ := ht
  obtain ⟨q2, e3, ht⟩ := ht
  refine y_getR (pc2 := 350) (κ := 12) (k := 28) fl_X12_45 (by decide) (by decide) k1 rfl e3 dX12_wordsFor_347 rfl ?_
  refine x_bipush (pc2 := 352) (v := 9) (by decide) dX12_wordsFor_350 rfl ?_
  refine x_aload_n (pc2 := 353) 0 (n := 0) (x := a0) rfl dX12_wordsFor_352 rfl ?_
  refine x_iload_n (pc2 := 354) 1 (n := 1) (x := x1) rfl dX12_wordsFor_353 rfl ?_
  refine x_callV (pc2 := 357) (As := [.int x1]) (rest := [.int 9, .ref q2]) (b := a0) mv_X12_wallsOf ml_X12_357 k1 rfl rfl (Nat.le_of_ble_eq_true rfl) hd1 dX12_wordsFor_354 rfl (ht.mono (fun r4 h5 p6 ht' => ?_))
  clear ht
  obtain ⟨v7, rfl, ht⟩ := ht'
  show Ex G d mX12_wordsFor 357 [(0, .ref a0), (1, .int x1), (2, .int x2)] [.int v7, .int 9, .ref q2] h5 Q
  refine x_i2l (pc2 := 358) dX12_wordsFor_357 rfl ?_
  obtain ⟨k8, ht⟩ := ht
  obtain ⟨b9, ht⟩ := ht
  refine z_last (pc2 := 359) (k := 9) (by decide) k8 b9 dX12_wordsFor_358 rfl ?_
  refine x_aload_n (pc2 := 360) 0 (n := 0) (x := a0) rfl dX12_wordsFor_359 rfl ?_
  obtain ⟨q10, e11, ht⟩ := ht
  refine y_getR (pc2 := 363) (κ := 12) (k := 28) fl_X12_45 (by decide) (by decide) (k1.up p6).sL rfl e11 dX12_wordsFor_360 rfl ?_
  refine x_bipush (pc2 := 365) (v := 10) (by decide) dX12_wordsFor_363 rfl ?_
  refine x_aload_n (pc2 := 366) 0 (n := 0) (x := a0) rfl dX12_wordsFor_365 rfl ?_
  obtain ⟨q12, e13, ht⟩ := ht
  refine y_getR (pc2 := 369) (κ := 12) (k := 29) fl_X12_48 (by decide) (by decide) (k1.up p6).sL rfl e13 dX12_wordsFor_366 rfl ?_
  refine x_iconst (pc2 := 370) (v := 3) (by decide) dX12_wordsFor_369 rfl ?_
  obtain ⟨k14, ht⟩ := ht
  obtain ⟨b15, ht⟩ := ht
  refine z_iald (pc2 := 371) (k := 3) (by decide) k14 b15 dX12_wordsFor_370 rfl ?_
  refine x_i2l (pc2 := 372) dX12_wordsFor_371 rfl ?_
  obtain ⟨k16, ht⟩ := ht
  obtain ⟨b17, ht⟩ := ht
  refine z_last (pc2 := 373) (k := 10) (by decide) k16 b17 dX12_wordsFor_372 rfl ?_
  exact x_retV rfl dX12_wordsFor_373 ht
def T_X12_farBy (G : GG) (d : Nat) (h : HP) (Q : Option Value → HP → Prop) (a0 : Nat) (x1 : Int32) : Prop :=
  Ex G d mX12_farBy 2 [(0, .ref a0), (1, .int x1), (2, .int 0)] [] h Q
set_option maxRecDepth 20000 in
theorem t_X12_farBy {G : GG} {d : Nat} {h : HP} {Q : Option Value → HP → Prop} {a0 : Nat} {x1 : Int32} (ht : T_X12_farBy G d h Q a0 x1) : Ex G d mX12_farBy 0 [(0, .ref a0), (1, .int x1)] [] h Q := by
  unfold T_X12_farBy at ht
  refine x_iconst (pc2 := 1) (v := 0) (by decide) dX12_farBy_0 rfl ?_
  refine x_istore_n (pc2 := 2) [1, 2, 0] (n := 2) (x := 0) (lv2 := [(0, .ref a0), (1, .int x1), (2, .int 0)]) (by decide) rfl dX12_farBy_1 rfl ?_
  exact ht
theorem e_X12_farBy {G : GG} {d : Nat} {h : HP} {Q : Option Value → HP → Prop} {a0 : Nat} {x1 : Int32} (ht : T_X12_farBy G d h Q a0 x1) : Cal G d mX12_farBy [.ref a0, .int x1] h Q := cal_of rfl (Nat.le_of_ble_eq_true rfl) (t_X12_farBy ht)
def T_X12_farBy_2 (G : GG) (d : Nat) (h : HP) (Q : Option Value → HP → Prop) (a0 : Nat) (x1 : Int32) (x2 : Int32) : Prop :=
  Kd G h a0 12 ∧ ∃ q2, hR h a0 6 = some q2 ∧ Kd G h q2 14 ∧ vp_in x1 (hN h q2) ∧ (((hI h q2 x1.toNatClampNeg) ≤ x2 → Q (some (.long 1)) h) ∧ (¬ (hI h q2 x1.toNatClampNeg) ≤ x2 → ∃ q7, hR h a0 5 = some q7 ∧ Kd G h q7 14 ∧ vp_in ((60 * x1) + (5 * x2)) (hN h q7) ∧ ((¬ (hI h q7 ((60 * x1) + (5 * x2)).toNatClampNeg) = 0 → Ex G d mX12_farBy 2 [(0, .ref a0), (1, .int x1), (2, .int (x2 + 1))] [] h Q) ∧ ((hI h q7 ((60 * x1) + (5 * x2)).toNatClampNeg) = 0 → Cal G (d - 1) mX12_isHolding [.ref a0, .int x1, .int x2] h (fun r12 h13 => ∃ v15, r12 = some (.int v15) ∧ ((v15 = 0 → Ex G d mX12_farBy 2 [(0, .ref a0), (1, .int x1), (2, .int (x2 + 1))] [] h13 Q) ∧ (¬ v15 = 0 → Cal G (d - 1) mX12_summed [.ref a0, .int x1, .int x2] h13 (fun r17 h18 => ∃ v20, r17 = some (.long v20) ∧ Cal G (d - 1) mX12_bounded [.long v20, .long 1, .long 40] h18 (fun r21 h22 => ∃ v24, r21 = some (.long v24) ∧ Q (some (.long v24)) h22)))))))))
set_option maxRecDepth 20000 in
theorem t_X12_farBy_2 {G : GG} {d : Nat} {h : HP} {Q : Option Value → HP → Prop} {a0 : Nat} {x1 : Int32} {x2 : Int32} (hd1 : 1 ≤ d) (ht : T_X12_farBy_2 G d h Q a0 x1 x2) : Ex G d mX12_farBy 2 [(0, .ref a0), (1, .int x1), (2, .int x2)] [] h Q := by
  unfold T_X12_farBy_2 at ht
  refine x_iload_n (pc2 := 3) 2 (n := 2) (x := x2) rfl dX12_farBy_2 rfl ?_
  refine x_aload_n (pc2 := 4) 0 (n := 0) (x := a0) rfl dX12_farBy_3 rfl ?_
  obtain ⟨k1, ht⟩ := ht
  obtain ⟨q2, e3, ht⟩ := ht
  refine y_getR (pc2 := 7) (κ := 12) (k := 6) fl_X12_26 (by decide) (by decide) k1 rfl e3 dX12_farBy_4 rfl ?_
  refine x_iload_n (pc2 := 8) 1 (n := 1) (x := x1) rfl dX12_farBy_7 rfl ?_
  obtain ⟨k4, ht⟩ := ht
  obtain ⟨b5, ht⟩ := ht
  refine x_iald (pc2 := 9) k4 b5 dX12_farBy_8 rfl ?_
  refine x_icmp_ge (pc2 := 12) 57 dX12_farBy_9 (by decide) rfl (fun c6 => ?_) (fun c6 => ?_)
  · replace ht := ht.1 c6
    refine x_lconst (pc2 := 58) (v := 1) (by decide) dX12_farBy_57 rfl ?_
    exact x_retL rfl dX12_farBy_58 ht
  · replace ht := ht.2 c6
    refine x_aload_n (pc2 := 13) 0 (n := 0) (x := a0) rfl dX12_farBy_12 rfl ?_
    obtain ⟨q7, e8, ht⟩ := ht
    refine y_getR (pc2 := 16) (κ := 12) (k := 5) fl_X12_23 (by decide) (by decide) k1 rfl e8 dX12_farBy_13 rfl ?_
    refine x_bipush (pc2 := 18) (v := 60) (by decide) dX12_farBy_16 rfl ?_
    refine x_iload_n (pc2 := 19) 1 (n := 1) (x := x1) rfl dX12_farBy_18 rfl ?_
    refine x_imul (pc2 := 20) dX12_farBy_19 rfl ?_
    refine x_iconst (pc2 := 21) (v := 5) (by decide) dX12_farBy_20 rfl ?_
    refine x_iload_n (pc2 := 22) 2 (n := 2) (x := x2) rfl dX12_farBy_21 rfl ?_
    refine x_imul (pc2 := 23) dX12_farBy_22 rfl ?_
    refine x_iadd (pc2 := 24) dX12_farBy_23 rfl ?_
    obtain ⟨k9, ht⟩ := ht
    obtain ⟨b10, ht⟩ := ht
    refine x_iald (pc2 := 25) k9 b10 dX12_farBy_24 rfl ?_
    refine y_if_ne (pc2 := 28) 51 dX12_farBy_25 (by decide) rfl (fun c11 => ?_) (fun c11 => ?_)
    · replace ht := ht.1 c11
      refine x_iinc (pc2 := 54) 2 [1, 2, 0] (i := 2) (x := x2) (v := (x2 + 1)) (lv2 := [(0, .ref a0), (1, .int x1), (2, .int (x2 + 1))]) rfl (iinc_eq (by decide) _) (by decide) rfl dX12_farBy_51 rfl ?_
      refine x_goto 2 dX12_farBy_54 (by decide) ?_
      exact ht
    · replace ht := ht.2 c11
      refine x_aload_n (pc2 := 29) 0 (n := 0) (x := a0) rfl dX12_farBy_28 rfl ?_
      refine x_iload_n (pc2 := 30) 1 (n := 1) (x := x1) rfl dX12_farBy_29 rfl ?_
      refine x_iload_n (pc2 := 31) 2 (n := 2) (x := x2) rfl dX12_farBy_30 rfl ?_
      refine x_callV (pc2 := 34) (As := [.int x1, .int x2]) (rest := []) (b := a0) mv_X12_isHolding ml_X12_360 k1 rfl rfl (Nat.le_of_ble_eq_true rfl) hd1 dX12_farBy_31 rfl (ht.mono (fun r12 h13 p14 ht' => ?_))
      clear ht
      obtain ⟨v15, rfl, ht⟩ := ht'
      show Ex G d mX12_farBy 34 [(0, .ref a0), (1, .int x1), (2, .int x2)] [.int v15] h13 Q
      refine x_if_eq (pc2 := 37) 51 dX12_farBy_34 (by decide) rfl (fun c16 => ?_) (fun c16 => ?_)
      · replace ht := ht.1 c16
        refine x_iinc (pc2 := 54) 2 [1, 2, 0] (i := 2) (x := x2) (v := (x2 + 1)) (lv2 := [(0, .ref a0), (1, .int x1), (2, .int (x2 + 1))]) rfl (iinc_eq (by decide) _) (by decide) rfl dX12_farBy_51 rfl ?_
        refine x_goto 2 dX12_farBy_54 (by decide) ?_
        exact ht
      · replace ht := ht.2 c16
        refine x_aload_n (pc2 := 38) 0 (n := 0) (x := a0) rfl dX12_farBy_37 rfl ?_
        refine x_iload_n (pc2 := 39) 1 (n := 1) (x := x1) rfl dX12_farBy_38 rfl ?_
        refine x_iload_n (pc2 := 40) 2 (n := 2) (x := x2) rfl dX12_farBy_39 rfl ?_
        refine x_callV (pc2 := 43) (As := [.int x1, .int x2]) (rest := []) (b := a0) mv_X12_summed ml_X12_363 (k1.up p14) rfl rfl (Nat.le_of_ble_eq_true rfl) hd1 dX12_farBy_40 rfl (ht.mono (fun r17 h18 p19 ht' => ?_))
        clear ht
        obtain ⟨v20, rfl, ht⟩ := ht'
        show Ex G d mX12_farBy 43 [(0, .ref a0), (1, .int x1), (2, .int x2)] [.long v20] h18 Q
        refine x_lconst (pc2 := 44) (v := 1) (by decide) dX12_farBy_43 rfl ?_
        refine x_ldc2 (pc2 := 47) (v := 40) ct_X12_367 dX12_farBy_44 rfl ?_
        refine x_callS (pc2 := 50) (As := [.long v20, .long 1, .long 40]) (rest := []) ms_X12_bounded ml_X12_369 rfl rfl (Nat.le_of_ble_eq_true rfl) hd1 dX12_farBy_47 rfl (ht.mono (fun r21 h22 p23 ht' => ?_))
        clear ht
        obtain ⟨v24, rfl, ht⟩ := ht'
        show Ex G d mX12_farBy 50 [(0, .ref a0), (1, .int x1), (2, .int x2)] [.long v24] h22 Q
        exact x_retL rfl dX12_farBy_50 ht
def T_X12_mayBy (G : GG) (d : Nat) (h : HP) (Q : Option Value → HP → Prop) (a0 : Nat) (x1 : Int32) : Prop :=
  Ex G d mX12_mayBy 7 [(0, .ref a0), (1, .int x1), (2, .int 0), (3, .int 0), (4, .int 0)] [] h Q
set_option maxRecDepth 20000 in
theorem t_X12_mayBy {G : GG} {d : Nat} {h : HP} {Q : Option Value → HP → Prop} {a0 : Nat} {x1 : Int32} (ht : T_X12_mayBy G d h Q a0 x1) : Ex G d mX12_mayBy 0 [(0, .ref a0), (1, .int x1)] [] h Q := by
  unfold T_X12_mayBy at ht
  refine x_iconst (pc2 := 1) (v := 0) (by decide) dX12_mayBy_0 rfl ?_
  refine x_istore_n (pc2 := 2) [1, 2, 0] (n := 2) (x := 0) (lv2 := [(0, .ref a0), (1, .int x1), (2, .int 0)]) (by decide) rfl dX12_mayBy_1 rfl ?_
  refine x_iconst (pc2 := 3) (v := 0) (by decide) dX12_mayBy_2 rfl ?_
  refine x_istore_n (pc2 := 4) [1, 2, 3, 0] (n := 3) (x := 0) (lv2 := [(0, .ref a0), (1, .int x1), (2, .int 0), (3, .int 0)]) (by decide) rfl dX12_mayBy_3 rfl ?_
  refine x_iconst (pc2 := 5) (v := 0) (by decide) dX12_mayBy_4 rfl ?_
  refine x_istore (pc2 := 7) [1, 2, 3, 4, 0] (n := 4) (x := 0) (lv2 := [(0, .ref a0), (1, .int x1), (2, .int 0), (3, .int 0), (4, .int 0)]) (by decide) rfl dX12_mayBy_5 rfl ?_
  exact ht
theorem e_X12_mayBy {G : GG} {d : Nat} {h : HP} {Q : Option Value → HP → Prop} {a0 : Nat} {x1 : Int32} (ht : T_X12_mayBy G d h Q a0 x1) : Cal G d mX12_mayBy [.ref a0, .int x1] h Q := cal_of rfl (Nat.le_of_ble_eq_true rfl) (t_X12_mayBy ht)
def T_X12_mayBy_7 (G : GG) (d : Nat) (h : HP) (Q : Option Value → HP → Prop) (a0 : Nat) (x1 : Int32) (x2 : Int32) (x3 : Int32) (x4 : Int32) : Prop :=
  Kd G h a0 12 ∧ ∃ q2, hR h a0 6 = some q2 ∧ Kd G h q2 14 ∧ vp_in x1 (hN h q2) ∧ (((hI h q2 x1.toNatClampNeg) ≤ x4 → ((¬ x3 = 0 → Q (some (.int 1)) h) ∧ (x3 = 0 → ((¬ x2 = 0 → Q (some (.int 0)) h) ∧ (x2 = 0 → Q (some (.int 1)) h))))) ∧ (¬ (hI h q2 x1.toNatClampNeg) ≤ x4 → ∃ q9, hR h a0 5 = some q9 ∧ Kd G h q9 14 ∧ vp_in ((60 * x1) + (5 * x4)) (hN h q9) ∧ ((¬ (hI h q9 ((60 * x1) + (5 * x4)).toNatClampNeg) = 0 → Cal G (d - 1) mX12_isHolding [.ref a0, .int x1, .int x4] h (fun r14 h15 => ∃ v17, r14 = some (.int v17) ∧ ((¬ (hI h q9 ((60 * x1) + (5 * x4)).toNatClampNeg) = 2 → ((¬ (hI h q9 ((60 * x1) + (5 * x4)).toNatClampNeg) = 1 → Ex G d mX12_mayBy 76 [(0, .ref a0), (1, .int x1), (2, .int x2), (3, .int x3), (4, .int x4), (5, .int (hI h q9 ((60 * x1) + (5 * x4)).toNatClampNeg)), (6, .int v17)] [.int 0, .int x2] h15 Q) ∧ ((hI h q9 ((60 * x1) + (5 * x4)).toNatClampNeg) = 1 → Ex G d mX12_mayBy 76 [(0, .ref a0), (1, .int x1), (2, .int x2), (3, .int x3), (4, .int x4), (5, .int (hI h q9 ((60 * x1) + (5 * x4)).toNatClampNeg)), (6, .int v17)] [.int 1, .int x2] h15 Q))) ∧ ((hI h q9 ((60 * x1) + (5 * x4)).toNatClampNeg) = 2 → ((v17 = 0 → ((¬ (hI h q9 ((60 * x1) + (5 * x4)).toNatClampNeg) = 1 → Ex G d mX12_mayBy 76 [(0, .ref a0), (1, .int x1), (2, .int x2), (3, .int x3), (4, .int x4), (5, .int (hI h q9 ((60 * x1) + (5 * x4)).toNatClampNeg)), (6, .int v17)] [.int 0, .int x2] h15 Q) ∧ ((hI h q9 ((60 * x1) + (5 * x4)).toNatClampNeg) = 1 → Ex G d mX12_mayBy 76 [(0, .ref a0), (1, .int x1), (2, .int x2), (3, .int x3), (4, .int x4), (5, .int (hI h q9 ((60 * x1) + (5 * x4)).toNatClampNeg)), (6, .int v17)] [.int 1, .int x2] h15 Q))) ∧ (¬ v17 = 0 → Q (some (.int 0)) h15)))))) ∧ ((hI h q9 ((60 * x1) + (5 * x4)).toNatClampNeg) = 0 → Ex G d mX12_mayBy 7 [(0, .ref a0), (1, .int x1), (2, .int x2), (3, .int x3), (4, .int (x4 + 1))] [] h Q))))
set_option maxRecDepth 20000 in
theorem t_X12_mayBy_7 {G : GG} {d : Nat} {h : HP} {Q : Option Value → HP → Prop} {a0 : Nat} {x1 : Int32} {x2 : Int32} {x3 : Int32} {x4 : Int32} (hd1 : 1 ≤ d) (ht : T_X12_mayBy_7 G d h Q a0 x1 x2 x3 x4) : Ex G d mX12_mayBy 7 [(0, .ref a0), (1, .int x1), (2, .int x2), (3, .int x3), (4, .int x4)] [] h Q := by
  unfold T_X12_mayBy_7 at ht
  refine x_iload (pc2 := 9) 4 (n := 4) (x := x4) rfl dX12_mayBy_7 rfl ?_
  refine x_aload_n (pc2 := 10) 0 (n := 0) (x := a0) rfl dX12_mayBy_9 rfl ?_
  obtain ⟨k1, ht⟩ := ht
  obtain ⟨q2, e3, ht⟩ := ht
  refine y_getR (pc2 := 13) (κ := 12) (k := 6) fl_X12_26 (by decide) (by decide) k1 rfl e3 dX12_mayBy_10 rfl ?_
  refine x_iload_n (pc2 := 14) 1 (n := 1) (x := x1) rfl dX12_mayBy_13 rfl ?_
  obtain ⟨k4, ht⟩ := ht
  obtain ⟨b5, ht⟩ := ht
  refine x_iald (pc2 := 15) k4 b5 dX12_mayBy_14 rfl ?_
  refine x_icmp_ge (pc2 := 18) 103 dX12_mayBy_15 (by decide) rfl (fun c6 => ?_) (fun c6 => ?_)
  · replace ht := ht.1 c6
    refine x_iload_n (pc2 := 104) 3 (n := 3) (x := x3) rfl dX12_mayBy_103 rfl ?_
    refine y_if_ne (pc2 := 107) 111 dX12_mayBy_104 (by decide) rfl (fun c7 => ?_) (fun c7 => ?_)
    · replace ht := ht.1 c7
      refine x_iconst (pc2 := 112) (v := 1) (by decide) dX12_mayBy_111 rfl ?_
      refine x_goto 116 dX12_mayBy_112 (by decide) ?_
      exact x_retZ rfl (Or.inr rfl) dX12_mayBy_116 ht
    · replace ht := ht.2 c7
      refine x_iload_n (pc2 := 108) 2 (n := 2) (x := x2) rfl dX12_mayBy_107 rfl ?_
      refine y_if_ne (pc2 := 111) 115 dX12_mayBy_108 (by decide) rfl (fun c8 => ?_) (fun c8 => ?_)
      · replace ht := ht.1 c8
        refine x_iconst (pc2 := 116) (v := 0) (by decide) dX12_mayBy_115 rfl ?_
        exact x_retZ rfl (Or.inl rfl) dX12_mayBy_116 ht
      · replace ht := ht.2 c8
        refine x_iconst (pc2 := 112) (v := 1) (by decide) dX12_mayBy_111 rfl ?_
        refine x_goto 116 dX12_mayBy_112 (by decide) ?_
        exact x_retZ rfl (Or.inr rfl) dX12_mayBy_116 ht
  · replace ht := ht.2 c6
    refine x_aload_n (pc2 := 19) 0 (n := 0) (x := a0) rfl dX12_mayBy_18 rfl ?_
    obtain ⟨q9, e10, ht⟩ := ht
    refine y_getR (pc2 := 22) (κ := 12) (k := 5) fl_X12_23 (by decide) (by decide) k1 rfl e10 dX12_mayBy_19 rfl ?_
    refine x_bipush (pc2 := 24) (v := 60) (by decide) dX12_mayBy_22 rfl ?_
    refine x_iload_n (pc2 := 25) 1 (n := 1) (x := x1) rfl dX12_mayBy_24 rfl ?_
    refine x_imul (pc2 := 26) dX12_mayBy_25 rfl ?_
    refine x_iconst (pc2 := 27) (v := 5) (by decide) dX12_mayBy_26 rfl ?_
    refine x_iload (pc2 := 29) 4 (n := 4) (x := x4) rfl dX12_mayBy_27 rfl ?_
    refine x_imul (pc2 := 30) dX12_mayBy_29 rfl ?_
    refine x_iadd (pc2 := 31) dX12_mayBy_30 rfl ?_
    obtain ⟨k11, ht⟩ := ht
    obtain ⟨b12, ht⟩ := ht
    refine x_iald (pc2 := 32) k11 b12 dX12_mayBy_31 rfl ?_
    refine x_istore (pc2 := 34) [1, 2, 3, 4, 5, 0] (n := 5) (x := (hI h q9 ((60 * x1) + (5 * x4)).toNatClampNeg)) (lv2 := [(0, .ref a0), (1, .int x1), (2, .int x2), (3, .int x3), (4, .int x4), (5, .int (hI h q9 ((60 * x1) + (5 * x4)).toNatClampNeg))]) (by decide) rfl dX12_mayBy_32 rfl ?_
    refine x_iload (pc2 := 36) 5 (n := 5) (x := (hI h q9 ((60 * x1) + (5 * x4)).toNatClampNeg)) rfl dX12_mayBy_34 rfl ?_
    refine y_if_ne (pc2 := 39) 42 dX12_mayBy_36 (by decide) rfl (fun c13 => ?_) (fun c13 => ?_)
    · replace ht := ht.1 c13
      refine x_aload_n (pc2 := 43) 0 (n := 0) (x := a0) rfl dX12_mayBy_42 rfl ?_
      refine x_iload_n (pc2 := 44) 1 (n := 1) (x := x1) rfl dX12_mayBy_43 rfl ?_
      refine x_iload (pc2 := 46) 4 (n := 4) (x := x4) rfl dX12_mayBy_44 rfl ?_
      refine x_callV (pc2 := 49) (As := [.int x1, .int x4]) (rest := []) (b := a0) mv_X12_isHolding ml_X12_360 k1 rfl rfl (Nat.le_of_ble_eq_true rfl) hd1 dX12_mayBy_46 rfl (ht.mono (fun r14 h15 p16 ht' => ?_))
      clear ht
      obtain ⟨v17, rfl, ht⟩ := ht'
      show Ex G d mX12_mayBy 49 [(0, .ref a0), (1, .int x1), (2, .int x2), (3, .int x3), (4, .int x4), (5, .int (hI h q9 ((60 * x1) + (5 * x4)).toNatClampNeg))] [.int v17] h15 Q
      refine x_istore (pc2 := 51) [1, 2, 3, 4, 5, 6, 0] (n := 6) (x := v17) (lv2 := [(0, .ref a0), (1, .int x1), (2, .int x2), (3, .int x3), (4, .int x4), (5, .int (hI h q9 ((60 * x1) + (5 * x4)).toNatClampNeg)), (6, .int v17)]) (by decide) rfl dX12_mayBy_49 rfl ?_
      refine x_iload (pc2 := 53) 5 (n := 5) (x := (hI h q9 ((60 * x1) + (5 * x4)).toNatClampNeg)) rfl dX12_mayBy_51 rfl ?_
      refine x_iconst (pc2 := 54) (v := 2) (by decide) dX12_mayBy_53 rfl ?_
      refine y_icmp_ne (pc2 := 57) 64 dX12_mayBy_54 (by decide) rfl (fun c18 => ?_) (fun c18 => ?_)
      · replace ht := ht.1 c18
        refine x_iload_n (pc2 := 65) 2 (n := 2) (x := x2) rfl dX12_mayBy_64 rfl ?_
        refine x_iload (pc2 := 67) 5 (n := 5) (x := (hI h q9 ((60 * x1) + (5 * x4)).toNatClampNeg)) rfl dX12_mayBy_65 rfl ?_
        refine x_iconst (pc2 := 68) (v := 1) (by decide) dX12_mayBy_67 rfl ?_
        refine y_icmp_ne (pc2 := 71) 75 dX12_mayBy_68 (by decide) rfl (fun c19 => ?_) (fun c19 => ?_)
        · replace ht := ht.1 c19
          refine x_iconst (pc2 := 76) (v := 0) (by decide) dX12_mayBy_75 rfl ?_
          exact ht
        · replace ht := ht.2 c19
          refine x_iconst (pc2 := 72) (v := 1) (by decide) dX12_mayBy_71 rfl ?_
          refine x_goto 76 dX12_mayBy_72 (by decide) ?_
          exact ht
      · replace ht := ht.2 c18
        refine x_iload (pc2 := 59) 6 (n := 6) (x := v17) rfl dX12_mayBy_57 rfl ?_
        refine x_if_eq (pc2 := 62) 64 dX12_mayBy_59 (by decide) rfl (fun c20 => ?_) (fun c20 => ?_)
        · replace ht := ht.1 c20
          refine x_iload_n (pc2 := 65) 2 (n := 2) (x := x2) rfl dX12_mayBy_64 rfl ?_
          refine x_iload (pc2 := 67) 5 (n := 5) (x := (hI h q9 ((60 * x1) + (5 * x4)).toNatClampNeg)) rfl dX12_mayBy_65 rfl ?_
          refine x_iconst (pc2 := 68) (v := 1) (by decide) dX12_mayBy_67 rfl ?_
          refine y_icmp_ne (pc2 := 71) 75 dX12_mayBy_68 (by decide) rfl (fun c21 => ?_) (fun c21 => ?_)
          · replace ht := ht.1 c21
            refine x_iconst (pc2 := 76) (v := 0) (by decide) dX12_mayBy_75 rfl ?_
            exact ht
          · replace ht := ht.2 c21
            refine x_iconst (pc2 := 72) (v := 1) (by decide) dX12_mayBy_71 rfl ?_
            refine x_goto 76 dX12_mayBy_72 (by decide) ?_
            exact ht
        · replace ht := ht.2 c20
          refine x_iconst (pc2 := 63) (v := 0) (by decide) dX12_mayBy_62 rfl ?_
          exact x_retZ rfl (Or.inl rfl) dX12_mayBy_63 ht
    · replace ht := ht.2 c13
      refine x_goto 97 dX12_mayBy_39 (by decide) ?_
      refine x_iinc (pc2 := 100) 4 [1, 2, 3, 4, 0, 5] (i := 4) (x := x4) (v := (x4 + 1)) (lv2 := [(0, .ref a0), (1, .int x1), (2, .int x2), (3, .int x3), (4, .int (x4 + 1)), (5, .int (hI h q9 ((60 * x1) + (5 * x4)).toNatClampNeg))]) rfl (iinc_eq (by decide) _) (by decide) rfl dX12_mayBy_97 rfl ?_
      refine x_goto 7 dX12_mayBy_100 (by decide) ?_
      refine x_sub [0, 1, 2, 3, 4] (lv2 := [(0, .ref a0), (1, .int x1), (2, .int x2), (3, .int x3), (4, .int (x4 + 1))]) rfl ?_
      exact ht
def T_X12_mayBy_76 (G : GG) (d : Nat) (h : HP) (Q : Option Value → HP → Prop) (a0 : Nat) (x1 : Int32) (x2 : Int32) (x3 : Int32) (x4 : Int32) (x5 : Int32) (x6 : Int32) (sx0 : Int32) (sx1 : Int32) : Prop :=
  ((¬ x5 = 1 → Ex G d mX12_mayBy 7 [(0, .ref a0), (1, .int x1), (2, .int (sx0 ||| sx1)), (3, .int (x3 ||| 0)), (4, .int (x4 + 1))] [] h Q) ∧ (x5 = 1 → ((x6 = 0 → Ex G d mX12_mayBy 7 [(0, .ref a0), (1, .int x1), (2, .int (sx0 ||| sx1)), (3, .int (x3 ||| 0)), (4, .int (x4 + 1))] [] h Q) ∧ (¬ x6 = 0 → Ex G d mX12_mayBy 7 [(0, .ref a0), (1, .int x1), (2, .int (sx0 ||| sx1)), (3, .int (x3 ||| 1)), (4, .int (x4 + 1))] [] h Q))))
set_option maxRecDepth 20000 in
theorem t_X12_mayBy_76 {G : GG} {d : Nat} {h : HP} {Q : Option Value → HP → Prop} {a0 : Nat} {x1 : Int32} {x2 : Int32} {x3 : Int32} {x4 : Int32} {x5 : Int32} {x6 : Int32} {sx0 : Int32} {sx1 : Int32} (ht : T_X12_mayBy_76 G d h Q a0 x1 x2 x3 x4 x5 x6 sx0 sx1) : Ex G d mX12_mayBy 76 [(0, .ref a0), (1, .int x1), (2, .int x2), (3, .int x3), (4, .int x4), (5, .int x5), (6, .int x6)] [.int sx1, .int sx0] h Q := by
  unfold T_X12_mayBy_76 at ht
  refine x_ior (pc2 := 77) dX12_mayBy_76 rfl ?_
  refine x_istore_n (pc2 := 78) [1, 2, 0, 3, 4, 5, 6] (n := 2) (x := (sx0 ||| sx1)) (lv2 := [(0, .ref a0), (1, .int x1), (2, .int (sx0 ||| sx1)), (3, .int x3), (4, .int x4), (5, .int x5), (6, .int x6)]) (by decide) rfl dX12_mayBy_77 rfl ?_
  refine x_iload_n (pc2 := 79) 3 (n := 3) (x := x3) rfl dX12_mayBy_78 rfl ?_
  refine x_iload (pc2 := 81) 5 (n := 5) (x := x5) rfl dX12_mayBy_79 rfl ?_
  refine x_iconst (pc2 := 82) (v := 1) (by decide) dX12_mayBy_81 rfl ?_
  refine y_icmp_ne (pc2 := 85) 94 dX12_mayBy_82 (by decide) rfl (fun c1 => ?_) (fun c1 => ?_)
  · replace ht := ht.1 c1
    refine x_iconst (pc2 := 95) (v := 0) (by decide) dX12_mayBy_94 rfl ?_
    refine x_ior (pc2 := 96) dX12_mayBy_95 rfl ?_
    refine x_istore_n (pc2 := 97) [1, 2, 3, 0, 4, 5, 6] (n := 3) (x := (x3 ||| 0)) (lv2 := [(0, .ref a0), (1, .int x1), (2, .int (sx0 ||| sx1)), (3, .int (x3 ||| 0)), (4, .int x4), (5, .int x5), (6, .int x6)]) (by decide) rfl dX12_mayBy_96 rfl ?_
    refine x_iinc (pc2 := 100) 4 [1, 2, 3, 4, 0, 5, 6] (i := 4) (x := x4) (v := (x4 + 1)) (lv2 := [(0, .ref a0), (1, .int x1), (2, .int (sx0 ||| sx1)), (3, .int (x3 ||| 0)), (4, .int (x4 + 1)), (5, .int x5), (6, .int x6)]) rfl (iinc_eq (by decide) _) (by decide) rfl dX12_mayBy_97 rfl ?_
    refine x_goto 7 dX12_mayBy_100 (by decide) ?_
    refine x_sub [0, 1, 2, 3, 4] (lv2 := [(0, .ref a0), (1, .int x1), (2, .int (sx0 ||| sx1)), (3, .int (x3 ||| 0)), (4, .int (x4 + 1))]) rfl ?_
    exact ht
  · replace ht := ht.2 c1
    refine x_iload (pc2 := 87) 6 (n := 6) (x := x6) rfl dX12_mayBy_85 rfl ?_
    refine x_if_eq (pc2 := 90) 94 dX12_mayBy_87 (by decide) rfl (fun c2 => ?_) (fun c2 => ?_)
    · replace ht := ht.1 c2
      refine x_iconst (pc2 := 95) (v := 0) (by decide) dX12_mayBy_94 rfl ?_
      refine x_ior (pc2 := 96) dX12_mayBy_95 rfl ?_
      refine x_istore_n (pc2 := 97) [1, 2, 3, 0, 4, 5, 6] (n := 3) (x := (x3 ||| 0)) (lv2 := [(0, .ref a0), (1, .int x1), (2, .int (sx0 ||| sx1)), (3, .int (x3 ||| 0)), (4, .int x4), (5, .int x5), (6, .int x6)]) (by decide) rfl dX12_mayBy_96 rfl ?_
      refine x_iinc (pc2 := 100) 4 [1, 2, 3, 4, 0, 5, 6] (i := 4) (x := x4) (v := (x4 + 1)) (lv2 := [(0, .ref a0), (1, .int x1), (2, .int (sx0 ||| sx1)), (3, .int (x3 ||| 0)), (4, .int (x4 + 1)), (5, .int x5), (6, .int x6)]) rfl (iinc_eq (by decide) _) (by decide) rfl dX12_mayBy_97 rfl ?_
      refine x_goto 7 dX12_mayBy_100 (by decide) ?_
      refine x_sub [0, 1, 2, 3, 4] (lv2 := [(0, .ref a0), (1, .int x1), (2, .int (sx0 ||| sx1)), (3, .int (x3 ||| 0)), (4, .int (x4 + 1))]) rfl ?_
      exact ht
    · replace ht := ht.2 c2
      refine x_iconst (pc2 := 91) (v := 1) (by decide) dX12_mayBy_90 rfl ?_
      refine x_goto 95 dX12_mayBy_91 (by decide) ?_
      refine x_ior (pc2 := 96) dX12_mayBy_95 rfl ?_
      refine x_istore_n (pc2 := 97) [1, 2, 3, 0, 4, 5, 6] (n := 3) (x := (x3 ||| 1)) (lv2 := [(0, .ref a0), (1, .int x1), (2, .int (sx0 ||| sx1)), (3, .int (x3 ||| 1)), (4, .int x4), (5, .int x5), (6, .int x6)]) (by decide) rfl dX12_mayBy_96 rfl ?_
      refine x_iinc (pc2 := 100) 4 [1, 2, 3, 4, 0, 5, 6] (i := 4) (x := x4) (v := (x4 + 1)) (lv2 := [(0, .ref a0), (1, .int x1), (2, .int (sx0 ||| sx1)), (3, .int (x3 ||| 1)), (4, .int (x4 + 1)), (5, .int x5), (6, .int x6)]) rfl (iinc_eq (by decide) _) (by decide) rfl dX12_mayBy_97 rfl ?_
      refine x_goto 7 dX12_mayBy_100 (by decide) ?_
      refine x_sub [0, 1, 2, 3, 4] (lv2 := [(0, .ref a0), (1, .int x1), (2, .int (sx0 ||| sx1)), (3, .int (x3 ||| 1)), (4, .int (x4 + 1))]) rfl ?_
      exact ht
def T_X12_goesOverRiver (G : GG) (d : Nat) (h : HP) (Q : Option Value → HP → Prop) (a0 : Nat) : Prop :=
  Kd G h a0 12 ∧ Ex G d mX12_goesOverRiver 5 [(0, .ref a0), (1, .int (hI h a0 31))] [] h Q
set_option maxRecDepth 20000 in
theorem t_X12_goesOverRiver {G : GG} {d : Nat} {h : HP} {Q : Option Value → HP → Prop} {a0 : Nat} (ht : T_X12_goesOverRiver G d h Q a0) : Ex G d mX12_goesOverRiver 0 [(0, .ref a0)] [] h Q := by
  unfold T_X12_goesOverRiver at ht
  refine x_aload_n (pc2 := 1) 0 (n := 0) (x := a0) rfl dX12_goesOverRiver_0 rfl ?_
  obtain ⟨k1, ht⟩ := ht
  refine y_getI (pc2 := 4) (κ := 12) (k := 31) fl_X12_320 (by decide) (by decide) k1 rfl dX12_goesOverRiver_1 rfl ?_
  refine x_istore_n (pc2 := 5) [1, 0] (n := 1) (x := (hI h a0 31)) (lv2 := [(0, .ref a0), (1, .int (hI h a0 31))]) (by decide) rfl dX12_goesOverRiver_4 rfl ?_
  exact ht
theorem e_X12_goesOverRiver {G : GG} {d : Nat} {h : HP} {Q : Option Value → HP → Prop} {a0 : Nat} (ht : T_X12_goesOverRiver G d h Q a0) : Cal G d mX12_goesOverRiver [.ref a0] h Q := cal_of rfl (Nat.le_of_ble_eq_true rfl) (t_X12_goesOverRiver ht)
def T_X12_goesOverRiver_5 (G : GG) (d : Nat) (h : HP) (Q : Option Value → HP → Prop) (a0 : Nat) (x1 : Int32) : Prop :=
  Kd G h a0 12 ∧ (((hI h a0 33) ≤ x1 → Ex G d mX12_goesOverRiver 78 [(0, .ref a0), (1, .int (hI h a0 32))] [] h Q) ∧ (¬ (hI h a0 33) ≤ x1 → Cal G (d - 1) mX12_isRiver [.ref a0, .int x1, .int (hI h a0 32)] h (fun r3 h4 => ∃ v6, r3 = some (.int v6) ∧ ((v6 = 0 → Ex G d mX12_goesOverRiver 39 [(0, .ref a0), (1, .int x1)] [] h4 Q) ∧ (¬ v6 = 0 → Cal G (d - 1) mX12_isRiver [.ref a0, .int x1, .int ((hI h4 a0 32) - 1)] h4 (fun r8 h9 => ∃ v11, r8 = some (.int v11) ∧ ((¬ v11 = 0 → Q (some (.int 1)) h9) ∧ (v11 = 0 → Ex G d mX12_goesOverRiver 39 [(0, .ref a0), (1, .int x1)] [] h9 Q))))))))
set_option maxRecDepth 20000 in
theorem t_X12_goesOverRiver_5 {G : GG} {d : Nat} {h : HP} {Q : Option Value → HP → Prop} {a0 : Nat} {x1 : Int32} (hd1 : 1 ≤ d) (ht : T_X12_goesOverRiver_5 G d h Q a0 x1) : Ex G d mX12_goesOverRiver 5 [(0, .ref a0), (1, .int x1)] [] h Q := by
  unfold T_X12_goesOverRiver_5 at ht
  refine x_iload_n (pc2 := 6) 1 (n := 1) (x := x1) rfl dX12_goesOverRiver_5 rfl ?_
  refine x_aload_n (pc2 := 7) 0 (n := 0) (x := a0) rfl dX12_goesOverRiver_6 rfl ?_
  obtain ⟨k1, ht⟩ := ht
  refine y_getI (pc2 := 10) (κ := 12) (k := 33) fl_X12_326 (by decide) (by decide) k1 rfl dX12_goesOverRiver_7 rfl ?_
  refine x_icmp_ge (pc2 := 13) 73 dX12_goesOverRiver_10 (by decide) rfl (fun c2 => ?_) (fun c2 => ?_)
  · replace ht := ht.1 c2
    refine x_aload_n (pc2 := 74) 0 (n := 0) (x := a0) rfl dX12_goesOverRiver_73 rfl ?_
    refine y_getI (pc2 := 77) (κ := 12) (k := 32) fl_X12_323 (by decide) (by decide) k1 rfl dX12_goesOverRiver_74 rfl ?_
    refine x_istore_n (pc2 := 78) [1, 0] (n := 1) (x := (hI h a0 32)) (lv2 := [(0, .ref a0), (1, .int (hI h a0 32))]) (by decide) rfl dX12_goesOverRiver_77 rfl ?_
    exact ht
  · replace ht := ht.2 c2
    refine x_aload_n (pc2 := 14) 0 (n := 0) (x := a0) rfl dX12_goesOverRiver_13 rfl ?_
    refine x_iload_n (pc2 := 15) 1 (n := 1) (x := x1) rfl dX12_goesOverRiver_14 rfl ?_
    refine x_aload_n (pc2 := 16) 0 (n := 0) (x := a0) rfl dX12_goesOverRiver_15 rfl ?_
    refine y_getI (pc2 := 19) (κ := 12) (k := 32) fl_X12_323 (by decide) (by decide) k1 rfl dX12_goesOverRiver_16 rfl ?_
    refine x_callV (pc2 := 22) (As := [.int x1, .int (hI h a0 32)]) (rest := []) (b := a0) mv_X12_isRiver ml_X12_373 k1 rfl rfl (Nat.le_of_ble_eq_true rfl) hd1 dX12_goesOverRiver_19 rfl (ht.mono (fun r3 h4 p5 ht' => ?_))
    clear ht
    obtain ⟨v6, rfl, ht⟩ := ht'
    show Ex G d mX12_goesOverRiver 22 [(0, .ref a0), (1, .int x1)] [.int v6] h4 Q
    refine x_if_eq (pc2 := 25) 39 dX12_goesOverRiver_22 (by decide) rfl (fun c7 => ?_) (fun c7 => ?_)
    · replace ht := ht.1 c7
      exact ht
    · replace ht := ht.2 c7
      refine x_aload_n (pc2 := 26) 0 (n := 0) (x := a0) rfl dX12_goesOverRiver_25 rfl ?_
      refine x_iload_n (pc2 := 27) 1 (n := 1) (x := x1) rfl dX12_goesOverRiver_26 rfl ?_
      refine x_aload_n (pc2 := 28) 0 (n := 0) (x := a0) rfl dX12_goesOverRiver_27 rfl ?_
      refine y_getI (pc2 := 31) (κ := 12) (k := 32) fl_X12_323 (by decide) (by decide) (k1.up p5) rfl dX12_goesOverRiver_28 rfl ?_
      refine x_iconst (pc2 := 32) (v := 1) (by decide) dX12_goesOverRiver_31 rfl ?_
      refine x_isub (pc2 := 33) dX12_goesOverRiver_32 rfl ?_
      refine x_callV (pc2 := 36) (As := [.int x1, .int ((hI h4 a0 32) - 1)]) (rest := []) (b := a0) mv_X12_isRiver ml_X12_373 (k1.up p5) rfl rfl (Nat.le_of_ble_eq_true rfl) hd1 dX12_goesOverRiver_33 rfl (ht.mono (fun r8 h9 p10 ht' => ?_))
      clear ht
      obtain ⟨v11, rfl, ht⟩ := ht'
      show Ex G d mX12_goesOverRiver 36 [(0, .ref a0), (1, .int x1)] [.int v11] h9 Q
      refine y_if_ne (pc2 := 39) 65 dX12_goesOverRiver_36 (by decide) rfl (fun c12 => ?_) (fun c12 => ?_)
      · replace ht := ht.1 c12
        refine x_iconst (pc2 := 66) (v := 1) (by decide) dX12_goesOverRiver_65 rfl ?_
        exact x_retZ rfl (Or.inr rfl) dX12_goesOverRiver_66 ht
      · replace ht := ht.2 c12
        exact ht
def T_X12_goesOverRiver_39 (G : GG) (d : Nat) (h : HP) (Q : Option Value → HP → Prop) (a0 : Nat) (x1 : Int32) : Prop :=
  Kd G h a0 12 ∧ Cal G (d - 1) mX12_isRiver [.ref a0, .int x1, .int ((hI h a0 34) - 1)] h (fun r2 h3 => ∃ v5, r2 = some (.int v5) ∧ ((v5 = 0 → Ex G d mX12_goesOverRiver 5 [(0, .ref a0), (1, .int (x1 + 1))] [] h3 Q) ∧ (¬ v5 = 0 → Cal G (d - 1) mX12_isRiver [.ref a0, .int x1, .int (hI h3 a0 34)] h3 (fun r7 h8 => ∃ v10, r7 = some (.int v10) ∧ ((v10 = 0 → Ex G d mX12_goesOverRiver 5 [(0, .ref a0), (1, .int (x1 + 1))] [] h8 Q) ∧ (¬ v10 = 0 → Q (some (.int 1)) h8))))))
set_option maxRecDepth 20000 in
theorem t_X12_goesOverRiver_39 {G : GG} {d : Nat} {h : HP} {Q : Option Value → HP → Prop} {a0 : Nat} {x1 : Int32} (hd1 : 1 ≤ d) (ht : T_X12_goesOverRiver_39 G d h Q a0 x1) : Ex G d mX12_goesOverRiver 39 [(0, .ref a0), (1, .int x1)] [] h Q := by
  unfold T_X12_goesOverRiver_39 at ht
  refine x_aload_n (pc2 := 40) 0 (n := 0) (x := a0) rfl dX12_goesOverRiver_39 rfl ?_
  refine x_iload_n (pc2 := 41) 1 (n := 1) (x := x1) rfl dX12_goesOverRiver_40 rfl ?_
  refine x_aload_n (pc2 := 42) 0 (n := 0) (x := a0) rfl dX12_goesOverRiver_41 rfl ?_
  obtain ⟨k1, ht⟩ := ht
  refine y_getI (pc2 := 45) (κ := 12) (k := 34) fl_X12_329 (by decide) (by decide) k1 rfl dX12_goesOverRiver_42 rfl ?_
  refine x_iconst (pc2 := 46) (v := 1) (by decide) dX12_goesOverRiver_45 rfl ?_
  refine x_isub (pc2 := 47) dX12_goesOverRiver_46 rfl ?_
  refine x_callV (pc2 := 50) (As := [.int x1, .int ((hI h a0 34) - 1)]) (rest := []) (b := a0) mv_X12_isRiver ml_X12_373 k1 rfl rfl (Nat.le_of_ble_eq_true rfl) hd1 dX12_goesOverRiver_47 rfl (ht.mono (fun r2 h3 p4 ht' => ?_))
  clear ht
  obtain ⟨v5, rfl, ht⟩ := ht'
  show Ex G d mX12_goesOverRiver 50 [(0, .ref a0), (1, .int x1)] [.int v5] h3 Q
  refine x_if_eq (pc2 := 53) 67 dX12_goesOverRiver_50 (by decide) rfl (fun c6 => ?_) (fun c6 => ?_)
  · replace ht := ht.1 c6
    refine x_iinc (pc2 := 70) 1 [1, 0] (i := 1) (x := x1) (v := (x1 + 1)) (lv2 := [(0, .ref a0), (1, .int (x1 + 1))]) rfl (iinc_eq (by decide) _) (by decide) rfl dX12_goesOverRiver_67 rfl ?_
    refine x_goto 5 dX12_goesOverRiver_70 (by decide) ?_
    exact ht
  · replace ht := ht.2 c6
    refine x_aload_n (pc2 := 54) 0 (n := 0) (x := a0) rfl dX12_goesOverRiver_53 rfl ?_
    refine x_iload_n (pc2 := 55) 1 (n := 1) (x := x1) rfl dX12_goesOverRiver_54 rfl ?_
    refine x_aload_n (pc2 := 56) 0 (n := 0) (x := a0) rfl dX12_goesOverRiver_55 rfl ?_
    refine y_getI (pc2 := 59) (κ := 12) (k := 34) fl_X12_329 (by decide) (by decide) (k1.up p4) rfl dX12_goesOverRiver_56 rfl ?_
    refine x_callV (pc2 := 62) (As := [.int x1, .int (hI h3 a0 34)]) (rest := []) (b := a0) mv_X12_isRiver ml_X12_373 (k1.up p4) rfl rfl (Nat.le_of_ble_eq_true rfl) hd1 dX12_goesOverRiver_59 rfl (ht.mono (fun r7 h8 p9 ht' => ?_))
    clear ht
    obtain ⟨v10, rfl, ht⟩ := ht'
    show Ex G d mX12_goesOverRiver 62 [(0, .ref a0), (1, .int x1)] [.int v10] h8 Q
    refine x_if_eq (pc2 := 65) 67 dX12_goesOverRiver_62 (by decide) rfl (fun c11 => ?_) (fun c11 => ?_)
    · replace ht := ht.1 c11
      refine x_iinc (pc2 := 70) 1 [1, 0] (i := 1) (x := x1) (v := (x1 + 1)) (lv2 := [(0, .ref a0), (1, .int (x1 + 1))]) rfl (iinc_eq (by decide) _) (by decide) rfl dX12_goesOverRiver_67 rfl ?_
      refine x_goto 5 dX12_goesOverRiver_70 (by decide) ?_
      exact ht
    · replace ht := ht.2 c11
      refine x_iconst (pc2 := 66) (v := 1) (by decide) dX12_goesOverRiver_65 rfl ?_
      exact x_retZ rfl (Or.inr rfl) dX12_goesOverRiver_66 ht
def T_X12_goesOverRiver_78 (G : GG) (d : Nat) (h : HP) (Q : Option Value → HP → Prop) (a0 : Nat) (x1 : Int32) : Prop :=
  Kd G h a0 12 ∧ (((hI h a0 34) ≤ x1 → Q (some (.int 0)) h) ∧ (¬ (hI h a0 34) ≤ x1 → Cal G (d - 1) mX12_isRiver [.ref a0, .int (hI h a0 31), .int x1] h (fun r3 h4 => ∃ v6, r3 = some (.int v6) ∧ ((v6 = 0 → Ex G d mX12_goesOverRiver 112 [(0, .ref a0), (1, .int x1)] [] h4 Q) ∧ (¬ v6 = 0 → Cal G (d - 1) mX12_isRiver [.ref a0, .int ((hI h4 a0 31) - 1), .int x1] h4 (fun r8 h9 => ∃ v11, r8 = some (.int v11) ∧ ((¬ v11 = 0 → Q (some (.int 1)) h9) ∧ (v11 = 0 → Ex G d mX12_goesOverRiver 112 [(0, .ref a0), (1, .int x1)] [] h9 Q))))))))
set_option maxRecDepth 20000 in
theorem t_X12_goesOverRiver_78 {G : GG} {d : Nat} {h : HP} {Q : Option Value → HP → Prop} {a0 : Nat} {x1 : Int32} (hd1 : 1 ≤ d) (ht : T_X12_goesOverRiver_78 G d h Q a0 x1) : Ex G d mX12_goesOverRiver 78 [(0, .ref a0), (1, .int x1)] [] h Q := by
  unfold T_X12_goesOverRiver_78 at ht
  refine x_iload_n (pc2 := 79) 1 (n := 1) (x := x1) rfl dX12_goesOverRiver_78 rfl ?_
  refine x_aload_n (pc2 := 80) 0 (n := 0) (x := a0) rfl dX12_goesOverRiver_79 rfl ?_
  obtain ⟨k1, ht⟩ := ht
  refine y_getI (pc2 := 83) (κ := 12) (k := 34) fl_X12_329 (by decide) (by decide) k1 rfl dX12_goesOverRiver_80 rfl ?_
  refine x_icmp_ge (pc2 := 86) 146 dX12_goesOverRiver_83 (by decide) rfl (fun c2 => ?_) (fun c2 => ?_)
  · replace ht := ht.1 c2
    refine x_iconst (pc2 := 147) (v := 0) (by decide) dX12_goesOverRiver_146 rfl ?_
    exact x_retZ rfl (Or.inl rfl) dX12_goesOverRiver_147 ht
  · replace ht := ht.2 c2
    refine x_aload_n (pc2 := 87) 0 (n := 0) (x := a0) rfl dX12_goesOverRiver_86 rfl ?_
    refine x_aload_n (pc2 := 88) 0 (n := 0) (x := a0) rfl dX12_goesOverRiver_87 rfl ?_
    refine y_getI (pc2 := 91) (κ := 12) (k := 31) fl_X12_320 (by decide) (by decide) k1 rfl dX12_goesOverRiver_88 rfl ?_
    refine x_iload_n (pc2 := 92) 1 (n := 1) (x := x1) rfl dX12_goesOverRiver_91 rfl ?_
    refine x_callV (pc2 := 95) (As := [.int (hI h a0 31), .int x1]) (rest := []) (b := a0) mv_X12_isRiver ml_X12_373 k1 rfl rfl (Nat.le_of_ble_eq_true rfl) hd1 dX12_goesOverRiver_92 rfl (ht.mono (fun r3 h4 p5 ht' => ?_))
    clear ht
    obtain ⟨v6, rfl, ht⟩ := ht'
    show Ex G d mX12_goesOverRiver 95 [(0, .ref a0), (1, .int x1)] [.int v6] h4 Q
    refine x_if_eq (pc2 := 98) 112 dX12_goesOverRiver_95 (by decide) rfl (fun c7 => ?_) (fun c7 => ?_)
    · replace ht := ht.1 c7
      exact ht
    · replace ht := ht.2 c7
      refine x_aload_n (pc2 := 99) 0 (n := 0) (x := a0) rfl dX12_goesOverRiver_98 rfl ?_
      refine x_aload_n (pc2 := 100) 0 (n := 0) (x := a0) rfl dX12_goesOverRiver_99 rfl ?_
      refine y_getI (pc2 := 103) (κ := 12) (k := 31) fl_X12_320 (by decide) (by decide) (k1.up p5) rfl dX12_goesOverRiver_100 rfl ?_
      refine x_iconst (pc2 := 104) (v := 1) (by decide) dX12_goesOverRiver_103 rfl ?_
      refine x_isub (pc2 := 105) dX12_goesOverRiver_104 rfl ?_
      refine x_iload_n (pc2 := 106) 1 (n := 1) (x := x1) rfl dX12_goesOverRiver_105 rfl ?_
      refine x_callV (pc2 := 109) (As := [.int ((hI h4 a0 31) - 1), .int x1]) (rest := []) (b := a0) mv_X12_isRiver ml_X12_373 (k1.up p5) rfl rfl (Nat.le_of_ble_eq_true rfl) hd1 dX12_goesOverRiver_106 rfl (ht.mono (fun r8 h9 p10 ht' => ?_))
      clear ht
      obtain ⟨v11, rfl, ht⟩ := ht'
      show Ex G d mX12_goesOverRiver 109 [(0, .ref a0), (1, .int x1)] [.int v11] h9 Q
      refine y_if_ne (pc2 := 112) 138 dX12_goesOverRiver_109 (by decide) rfl (fun c12 => ?_) (fun c12 => ?_)
      · replace ht := ht.1 c12
        refine x_iconst (pc2 := 139) (v := 1) (by decide) dX12_goesOverRiver_138 rfl ?_
        exact x_retZ rfl (Or.inr rfl) dX12_goesOverRiver_139 ht
      · replace ht := ht.2 c12
        exact ht
def T_X12_goesOverRiver_112 (G : GG) (d : Nat) (h : HP) (Q : Option Value → HP → Prop) (a0 : Nat) (x1 : Int32) : Prop :=
  Kd G h a0 12 ∧ Cal G (d - 1) mX12_isRiver [.ref a0, .int ((hI h a0 33) - 1), .int x1] h (fun r2 h3 => ∃ v5, r2 = some (.int v5) ∧ ((v5 = 0 → Ex G d mX12_goesOverRiver 78 [(0, .ref a0), (1, .int (x1 + 1))] [] h3 Q) ∧ (¬ v5 = 0 → Cal G (d - 1) mX12_isRiver [.ref a0, .int (hI h3 a0 33), .int x1] h3 (fun r7 h8 => ∃ v10, r7 = some (.int v10) ∧ ((v10 = 0 → Ex G d mX12_goesOverRiver 78 [(0, .ref a0), (1, .int (x1 + 1))] [] h8 Q) ∧ (¬ v10 = 0 → Q (some (.int 1)) h8))))))
set_option maxRecDepth 20000 in
theorem t_X12_goesOverRiver_112 {G : GG} {d : Nat} {h : HP} {Q : Option Value → HP → Prop} {a0 : Nat} {x1 : Int32} (hd1 : 1 ≤ d) (ht : T_X12_goesOverRiver_112 G d h Q a0 x1) : Ex G d mX12_goesOverRiver 112 [(0, .ref a0), (1, .int x1)] [] h Q := by
  unfold T_X12_goesOverRiver_112 at ht
  refine x_aload_n (pc2 := 113) 0 (n := 0) (x := a0) rfl dX12_goesOverRiver_112 rfl ?_
  refine x_aload_n (pc2 := 114) 0 (n := 0) (x := a0) rfl dX12_goesOverRiver_113 rfl ?_
  obtain ⟨k1, ht⟩ := ht
  refine y_getI (pc2 := 117) (κ := 12) (k := 33) fl_X12_326 (by decide) (by decide) k1 rfl dX12_goesOverRiver_114 rfl ?_
  refine x_iconst (pc2 := 118) (v := 1) (by decide) dX12_goesOverRiver_117 rfl ?_
  refine x_isub (pc2 := 119) dX12_goesOverRiver_118 rfl ?_
  refine x_iload_n (pc2 := 120) 1 (n := 1) (x := x1) rfl dX12_goesOverRiver_119 rfl ?_
  refine x_callV (pc2 := 123) (As := [.int ((hI h a0 33) - 1), .int x1]) (rest := []) (b := a0) mv_X12_isRiver ml_X12_373 k1 rfl rfl (Nat.le_of_ble_eq_true rfl) hd1 dX12_goesOverRiver_120 rfl (ht.mono (fun r2 h3 p4 ht' => ?_))
  clear ht
  obtain ⟨v5, rfl, ht⟩ := ht'
  show Ex G d mX12_goesOverRiver 123 [(0, .ref a0), (1, .int x1)] [.int v5] h3 Q
  refine x_if_eq (pc2 := 126) 140 dX12_goesOverRiver_123 (by decide) rfl (fun c6 => ?_) (fun c6 => ?_)
  · replace ht := ht.1 c6
    refine x_iinc (pc2 := 143) 1 [1, 0] (i := 1) (x := x1) (v := (x1 + 1)) (lv2 := [(0, .ref a0), (1, .int (x1 + 1))]) rfl (iinc_eq (by decide) _) (by decide) rfl dX12_goesOverRiver_140 rfl ?_
    refine x_goto 78 dX12_goesOverRiver_143 (by decide) ?_
    exact ht
  · replace ht := ht.2 c6
    refine x_aload_n (pc2 := 127) 0 (n := 0) (x := a0) rfl dX12_goesOverRiver_126 rfl ?_
    refine x_aload_n (pc2 := 128) 0 (n := 0) (x := a0) rfl dX12_goesOverRiver_127 rfl ?_
    refine y_getI (pc2 := 131) (κ := 12) (k := 33) fl_X12_326 (by decide) (by decide) (k1.up p4) rfl dX12_goesOverRiver_128 rfl ?_
    refine x_iload_n (pc2 := 132) 1 (n := 1) (x := x1) rfl dX12_goesOverRiver_131 rfl ?_
    refine x_callV (pc2 := 135) (As := [.int (hI h3 a0 33), .int x1]) (rest := []) (b := a0) mv_X12_isRiver ml_X12_373 (k1.up p4) rfl rfl (Nat.le_of_ble_eq_true rfl) hd1 dX12_goesOverRiver_132 rfl (ht.mono (fun r7 h8 p9 ht' => ?_))
    clear ht
    obtain ⟨v10, rfl, ht⟩ := ht'
    show Ex G d mX12_goesOverRiver 135 [(0, .ref a0), (1, .int x1)] [.int v10] h8 Q
    refine x_if_eq (pc2 := 138) 140 dX12_goesOverRiver_135 (by decide) rfl (fun c11 => ?_) (fun c11 => ?_)
    · replace ht := ht.1 c11
      refine x_iinc (pc2 := 143) 1 [1, 0] (i := 1) (x := x1) (v := (x1 + 1)) (lv2 := [(0, .ref a0), (1, .int (x1 + 1))]) rfl (iinc_eq (by decide) _) (by decide) rfl dX12_goesOverRiver_140 rfl ?_
      refine x_goto 78 dX12_goesOverRiver_143 (by decide) ?_
      exact ht
    · replace ht := ht.2 c11
      refine x_iconst (pc2 := 139) (v := 1) (by decide) dX12_goesOverRiver_138 rfl ?_
      exact x_retZ rfl (Or.inr rfl) dX12_goesOverRiver_139 ht
def T_X12_isClear (G : GG) (d : Nat) (h : HP) (Q : Option Value → HP → Prop) (a0 : Nat) : Prop :=
  Ex G d mX12_isClear 2 [(0, .ref a0), (1, .int 0)] [] h Q
set_option maxRecDepth 20000 in
theorem t_X12_isClear {G : GG} {d : Nat} {h : HP} {Q : Option Value → HP → Prop} {a0 : Nat} (ht : T_X12_isClear G d h Q a0) : Ex G d mX12_isClear 0 [(0, .ref a0)] [] h Q := by
  unfold T_X12_isClear at ht
  refine x_iconst (pc2 := 1) (v := 0) (by decide) dX12_isClear_0 rfl ?_
  refine x_istore_n (pc2 := 2) [1, 0] (n := 1) (x := 0) (lv2 := [(0, .ref a0), (1, .int 0)]) (by decide) rfl dX12_isClear_1 rfl ?_
  exact ht
theorem e_X12_isClear {G : GG} {d : Nat} {h : HP} {Q : Option Value → HP → Prop} {a0 : Nat} (ht : T_X12_isClear G d h Q a0) : Cal G d mX12_isClear [.ref a0] h Q := cal_of rfl (Nat.le_of_ble_eq_true rfl) (t_X12_isClear ht)
def T_X12_isClear_2 (G : GG) (d : Nat) (h : HP) (Q : Option Value → HP → Prop) (a0 : Nat) (x1 : Int32) : Prop :=
  ((54 ≤ x1 → Q (some (.int 1)) h) ∧ (¬ 54 ≤ x1 → Kd G h a0 12 ∧ Cal G (d - 1) mX12_of [.ref a0, .int x1, .int 0] h (fun r2 h3 => ∃ v6, r2 = some (.int v6) ∧ ((¬ v6 = 1 → Ex G d mX12_isClear 2 [(0, .ref a0), (1, .int (x1 + 1))] [] h3 Q) ∧ (v6 = 1 → Cal G (d - 1) mX12_isOuter [.ref a0, .int x1] h3 (fun r8 h9 => ∃ v11, r8 = some (.int v11) ∧ ((v11 = 0 → Ex G d mX12_isClear 2 [(0, .ref a0), (1, .int (x1 + 1))] [] h9 Q) ∧ (¬ v11 = 0 → ((x1 = (hI h9 a0 35) → Ex G d mX12_isClear 2 [(0, .ref a0), (1, .int (x1 + 1))] [] h9 Q) ∧ (¬ x1 = (hI h9 a0 35) → ((x1 = (hI h9 a0 36) → Ex G d mX12_isClear 2 [(0, .ref a0), (1, .int (x1 + 1))] [] h9 Q) ∧ (¬ x1 = (hI h9 a0 36) → Cal G (d - 1) mX12_of [.ref a0, .int x1, .int 1] h9 (fun r15 h16 => ∃ v18, r15 = some (.int v18) ∧ Cal G (d - 1) mX12_of [.ref a0, .int x1, .int 2] h16 (fun r19 h20 => ∃ v22, r19 = some (.int v22) ∧ Cal G (d - 1) mX12_of [.ref a0, .int x1, .int 3] h20 (fun r23 h24 => ∃ v26, r23 = some (.int v26) ∧ Cal G (d - 1) mX12_of [.ref a0, .int x1, .int 4] h24 (fun r27 h28 => ∃ v30, r27 = some (.int v30) ∧ Cal G (d - 1) mX12_areClear [.int (hI h9 a0 31), .int (hI h9 a0 32), .int (hI h9 a0 33), .int (hI h9 a0 34), .int v18, .int v22, .int v26, .int v30] h28 (fun r31 h32 => ∃ v34, r31 = some (.int v34) ∧ ((¬ v34 = 0 → Ex G d mX12_isClear 2 [(0, .ref a0), (1, .int (x1 + 1))] [] h32 Q) ∧ (v34 = 0 → Q (some (.int 0)) h32)))))))))))))))))))
set_option maxRecDepth 20000 in
theorem t_X12_isClear_2 {G : GG} {d : Nat} {h : HP} {Q : Option Value → HP → Prop} {a0 : Nat} {x1 : Int32} (hd1 : 1 ≤ d) (ht : T_X12_isClear_2 G d h Q a0 x1) : Ex G d mX12_isClear 2 [(0, .ref a0), (1, .int x1)] [] h Q := by
  unfold T_X12_isClear_2 at ht
  refine x_iload_n (pc2 := 3) 1 (n := 1) (x := x1) rfl dX12_isClear_2 rfl ?_
  refine x_bipush (pc2 := 5) (v := 54) (by decide) dX12_isClear_3 rfl ?_
  refine x_icmp_ge (pc2 := 8) 96 dX12_isClear_5 (by decide) rfl (fun c1 => ?_) (fun c1 => ?_)
  · replace ht := ht.1 c1
    refine x_iconst (pc2 := 97) (v := 1) (by decide) dX12_isClear_96 rfl ?_
    exact x_retZ rfl (Or.inr rfl) dX12_isClear_97 ht
  · replace ht := ht.2 c1
    refine x_aload_n (pc2 := 9) 0 (n := 0) (x := a0) rfl dX12_isClear_8 rfl ?_
    refine x_iload_n (pc2 := 10) 1 (n := 1) (x := x1) rfl dX12_isClear_9 rfl ?_
    refine x_iconst (pc2 := 11) (v := 0) (by decide) dX12_isClear_10 rfl ?_
    obtain ⟨k5, ht⟩ := ht
    refine x_callV (pc2 := 14) (As := [.int x1, .int 0]) (rest := []) (b := a0) mv_X12_of ml_X12_310 k5 rfl rfl (Nat.le_of_ble_eq_true rfl) hd1 dX12_isClear_11 rfl (ht.mono (fun r2 h3 p4 ht' => ?_))
    clear ht
    obtain ⟨v6, rfl, ht⟩ := ht'
    show Ex G d mX12_isClear 14 [(0, .ref a0), (1, .int x1)] [.int v6] h3 Q
    refine x_iconst (pc2 := 15) (v := 1) (by decide) dX12_isClear_14 rfl ?_
    refine y_icmp_ne (pc2 := 18) 90 dX12_isClear_15 (by decide) rfl (fun c7 => ?_) (fun c7 => ?_)
    · replace ht := ht.1 c7
      refine x_iinc (pc2 := 93) 1 [1, 0] (i := 1) (x := x1) (v := (x1 + 1)) (lv2 := [(0, .ref a0), (1, .int (x1 + 1))]) rfl (iinc_eq (by decide) _) (by decide) rfl dX12_isClear_90 rfl ?_
      refine x_goto 2 dX12_isClear_93 (by decide) ?_
      exact ht
    · replace ht := ht.2 c7
      refine x_aload_n (pc2 := 19) 0 (n := 0) (x := a0) rfl dX12_isClear_18 rfl ?_
      refine x_iload_n (pc2 := 20) 1 (n := 1) (x := x1) rfl dX12_isClear_19 rfl ?_
      refine x_callV (pc2 := 23) (As := [.int x1]) (rest := []) (b := a0) mv_X12_isOuter ml_X12_338 (k5.up p4) rfl rfl (Nat.le_of_ble_eq_true rfl) hd1 dX12_isClear_20 rfl (ht.mono (fun r8 h9 p10 ht' => ?_))
      clear ht
      obtain ⟨v11, rfl, ht⟩ := ht'
      show Ex G d mX12_isClear 23 [(0, .ref a0), (1, .int x1)] [.int v11] h9 Q
      refine x_if_eq (pc2 := 26) 90 dX12_isClear_23 (by decide) rfl (fun c12 => ?_) (fun c12 => ?_)
      · replace ht := ht.1 c12
        refine x_iinc (pc2 := 93) 1 [1, 0] (i := 1) (x := x1) (v := (x1 + 1)) (lv2 := [(0, .ref a0), (1, .int (x1 + 1))]) rfl (iinc_eq (by decide) _) (by decide) rfl dX12_isClear_90 rfl ?_
        refine x_goto 2 dX12_isClear_93 (by decide) ?_
        exact ht
      · replace ht := ht.2 c12
        refine x_iload_n (pc2 := 27) 1 (n := 1) (x := x1) rfl dX12_isClear_26 rfl ?_
        refine x_aload_n (pc2 := 28) 0 (n := 0) (x := a0) rfl dX12_isClear_27 rfl ?_
        refine y_getI (pc2 := 31) (κ := 12) (k := 35) fl_X12_332 (by decide) (by decide) ((k5.up p4).up p10) rfl dX12_isClear_28 rfl ?_
        refine x_icmp_eq (pc2 := 34) 90 dX12_isClear_31 (by decide) rfl (fun c13 => ?_) (fun c13 => ?_)
        · replace ht := ht.1 c13
          refine x_iinc (pc2 := 93) 1 [1, 0] (i := 1) (x := x1) (v := (x1 + 1)) (lv2 := [(0, .ref a0), (1, .int (x1 + 1))]) rfl (iinc_eq (by decide) _) (by decide) rfl dX12_isClear_90 rfl ?_
          refine x_goto 2 dX12_isClear_93 (by decide) ?_
          exact ht
        · replace ht := ht.2 c13
          refine x_iload_n (pc2 := 35) 1 (n := 1) (x := x1) rfl dX12_isClear_34 rfl ?_
          refine x_aload_n (pc2 := 36) 0 (n := 0) (x := a0) rfl dX12_isClear_35 rfl ?_
          refine y_getI (pc2 := 39) (κ := 12) (k := 36) fl_X12_335 (by decide) (by decide) ((k5.up p4).up p10) rfl dX12_isClear_36 rfl ?_
          refine x_icmp_eq (pc2 := 42) 90 dX12_isClear_39 (by decide) rfl (fun c14 => ?_) (fun c14 => ?_)
          · replace ht := ht.1 c14
            refine x_iinc (pc2 := 93) 1 [1, 0] (i := 1) (x := x1) (v := (x1 + 1)) (lv2 := [(0, .ref a0), (1, .int (x1 + 1))]) rfl (iinc_eq (by decide) _) (by decide) rfl dX12_isClear_90 rfl ?_
            refine x_goto 2 dX12_isClear_93 (by decide) ?_
            exact ht
          · replace ht := ht.2 c14
            refine x_aload_n (pc2 := 43) 0 (n := 0) (x := a0) rfl dX12_isClear_42 rfl ?_
            refine y_getI (pc2 := 46) (κ := 12) (k := 31) fl_X12_320 (by decide) (by decide) ((k5.up p4).up p10) rfl dX12_isClear_43 rfl ?_
            refine x_aload_n (pc2 := 47) 0 (n := 0) (x := a0) rfl dX12_isClear_46 rfl ?_
            refine y_getI (pc2 := 50) (κ := 12) (k := 32) fl_X12_323 (by decide) (by decide) ((k5.up p4).up p10) rfl dX12_isClear_47 rfl ?_
            refine x_aload_n (pc2 := 51) 0 (n := 0) (x := a0) rfl dX12_isClear_50 rfl ?_
            refine y_getI (pc2 := 54) (κ := 12) (k := 33) fl_X12_326 (by decide) (by decide) ((k5.up p4).up p10) rfl dX12_isClear_51 rfl ?_
            refine x_aload_n (pc2 := 55) 0 (n := 0) (x := a0) rfl dX12_isClear_54 rfl ?_
            refine y_getI (pc2 := 58) (κ := 12) (k := 34) fl_X12_329 (by decide) (by decide) ((k5.up p4).up p10) rfl dX12_isClear_55 rfl ?_
            refine x_aload_n (pc2 := 59) 0 (n := 0) (x := a0) rfl dX12_isClear_58 rfl ?_
            refine x_iload_n (pc2 := 60) 1 (n := 1) (x := x1) rfl dX12_isClear_59 rfl ?_
            refine x_iconst (pc2 := 61) (v := 1) (by decide) dX12_isClear_60 rfl ?_
            refine x_callV (pc2 := 64) (As := [.int x1, .int 1]) (rest := [.int (hI h9 a0 34), .int (hI h9 a0 33), .int (hI h9 a0 32), .int (hI h9 a0 31)]) (b := a0) mv_X12_of ml_X12_310 ((k5.up p4).up p10) rfl rfl (Nat.le_of_ble_eq_true rfl) hd1 dX12_isClear_61 rfl (ht.mono (fun r15 h16 p17 ht' => ?_))
            clear ht
            obtain ⟨v18, rfl, ht⟩ := ht'
            show Ex G d mX12_isClear 64 [(0, .ref a0), (1, .int x1)] [.int v18, .int (hI h9 a0 34), .int (hI h9 a0 33), .int (hI h9 a0 32), .int (hI h9 a0 31)] h16 Q
            refine x_aload_n (pc2 := 65) 0 (n := 0) (x := a0) rfl dX12_isClear_64 rfl ?_
            refine x_iload_n (pc2 := 66) 1 (n := 1) (x := x1) rfl dX12_isClear_65 rfl ?_
            refine x_iconst (pc2 := 67) (v := 2) (by decide) dX12_isClear_66 rfl ?_
            refine x_callV (pc2 := 70) (As := [.int x1, .int 2]) (rest := [.int v18, .int (hI h9 a0 34), .int (hI h9 a0 33), .int (hI h9 a0 32), .int (hI h9 a0 31)]) (b := a0) mv_X12_of ml_X12_310 (((k5.up p4).up p10).up p17) rfl rfl (Nat.le_of_ble_eq_true rfl) hd1 dX12_isClear_67 rfl (ht.mono (fun r19 h20 p21 ht' => ?_))
            clear ht
            obtain ⟨v22, rfl, ht⟩ := ht'
            show Ex G d mX12_isClear 70 [(0, .ref a0), (1, .int x1)] [.int v22, .int v18, .int (hI h9 a0 34), .int (hI h9 a0 33), .int (hI h9 a0 32), .int (hI h9 a0 31)] h20 Q
            refine x_aload_n (pc2 := 71) 0 (n := 0) (x := a0) rfl dX12_isClear_70 rfl ?_
            refine x_iload_n (pc2 := 72) 1 (n := 1) (x := x1) rfl dX12_isClear_71 rfl ?_
            refine x_iconst (pc2 := 73) (v := 3) (by decide) dX12_isClear_72 rfl ?_
            refine x_callV (pc2 := 76) (As := [.int x1, .int 3]) (rest := [.int v22, .int v18, .int (hI h9 a0 34), .int (hI h9 a0 33), .int (hI h9 a0 32), .int (hI h9 a0 31)]) (b := a0) mv_X12_of ml_X12_310 ((((k5.up p4).up p10).up p17).up p21) rfl rfl (Nat.le_of_ble_eq_true rfl) hd1 dX12_isClear_73 rfl (ht.mono (fun r23 h24 p25 ht' => ?_))
            clear ht
            obtain ⟨v26, rfl, ht⟩ := ht'
            show Ex G d mX12_isClear 76 [(0, .ref a0), (1, .int x1)] [.int v26, .int v22, .int v18, .int (hI h9 a0 34), .int (hI h9 a0 33), .int (hI h9 a0 32), .int (hI h9 a0 31)] h24 Q
            refine x_aload_n (pc2 := 77) 0 (n := 0) (x := a0) rfl dX12_isClear_76 rfl ?_
            refine x_iload_n (pc2 := 78) 1 (n := 1) (x := x1) rfl dX12_isClear_77 rfl ?_
            refine x_iconst (pc2 := 79) (v := 4) (by decide) dX12_isClear_78 rfl ?_
            refine x_callV (pc2 := 82) (As := [.int x1, .int 4]) (rest := [.int v26, .int v22, .int v18, .int (hI h9 a0 34), .int (hI h9 a0 33), .int (hI h9 a0 32), .int (hI h9 a0 31)]) (b := a0) mv_X12_of ml_X12_310 (((((k5.up p4).up p10).up p17).up p21).up p25) rfl rfl (Nat.le_of_ble_eq_true rfl) hd1 dX12_isClear_79 rfl (ht.mono (fun r27 h28 p29 ht' => ?_))
            clear ht
            obtain ⟨v30, rfl, ht⟩ := ht'
            show Ex G d mX12_isClear 82 [(0, .ref a0), (1, .int x1)] [.int v30, .int v26, .int v22, .int v18, .int (hI h9 a0 34), .int (hI h9 a0 33), .int (hI h9 a0 32), .int (hI h9 a0 31)] h28 Q
            refine x_callS (pc2 := 85) (As := [.int (hI h9 a0 31), .int (hI h9 a0 32), .int (hI h9 a0 33), .int (hI h9 a0 34), .int v18, .int v22, .int v26, .int v30]) (rest := []) ms_X12_areClear ml_X12_236 rfl rfl (Nat.le_of_ble_eq_true rfl) hd1 dX12_isClear_82 rfl (ht.mono (fun r31 h32 p33 ht' => ?_))
            clear ht
            obtain ⟨v34, rfl, ht⟩ := ht'
            show Ex G d mX12_isClear 85 [(0, .ref a0), (1, .int x1)] [.int v34] h32 Q
            refine y_if_ne (pc2 := 88) 90 dX12_isClear_85 (by decide) rfl (fun c35 => ?_) (fun c35 => ?_)
            · replace ht := ht.1 c35
              refine x_iinc (pc2 := 93) 1 [1, 0] (i := 1) (x := x1) (v := (x1 + 1)) (lv2 := [(0, .ref a0), (1, .int (x1 + 1))]) rfl (iinc_eq (by decide) _) (by decide) rfl dX12_isClear_90 rfl ?_
              refine x_goto 2 dX12_isClear_93 (by decide) ?_
              exact ht
            · replace ht := ht.2 c35
              refine x_iconst (pc2 := 89) (v := 0) (by decide) dX12_isClear_88 rfl ?_
              exact x_retZ rfl (Or.inl rfl) dX12_isClear_89 ht
def T_X12_canCome (G : GG) (d : Nat) (h : HP) (Q : Option Value → HP → Prop) (a0 : Nat) (x1 : Int32) (x2 : Int32) : Prop :=
  Kd G h a0 12 ∧ Cal G (d - 1) mX12_isFit [.ref a0] h (fun r1 h2 => ∃ v5, r1 = some (.int v5) ∧ ((v5 = 0 → Q (some (.int 0)) h2) ∧ (¬ v5 = 0 → (((hI h2 a0 36) = (-1) → Ex G d mX12_canCome 27 [(0, .ref a0), (1, .int x1), (2, .int x2)] [] h2 Q) ∧ (¬ (hI h2 a0 36) = (-1) → ∃ q8, hR h2 a0 7 = some q8 ∧ Kd G h2 q8 14 ∧ vp_in x1 (hN h2 q8) ∧ (((hI h2 q8 x1.toNatClampNeg) = 1 → Ex G d mX12_canCome 27 [(0, .ref a0), (1, .int x1), (2, .int x2)] [] h2 Q) ∧ (¬ (hI h2 q8 x1.toNatClampNeg) = 1 → Q (some (.int 0)) h2)))))))
set_option maxRecDepth 20000 in
theorem t_X12_canCome {G : GG} {d : Nat} {h : HP} {Q : Option Value → HP → Prop} {a0 : Nat} {x1 : Int32} {x2 : Int32} (hd1 : 1 ≤ d) (ht : T_X12_canCome G d h Q a0 x1 x2) : Ex G d mX12_canCome 0 [(0, .ref a0), (1, .int x1), (2, .int x2)] [] h Q := by
  unfold T_X12_canCome at ht
  refine x_aload_n (pc2 := 1) 0 (n := 0) (x := a0) rfl dX12_canCome_0 rfl ?_
  obtain ⟨k4, ht⟩ := ht
  refine x_callV (pc2 := 4) (As := []) (rest := []) (b := a0) mv_X12_isFit ml_X12_376 k4 rfl rfl (Nat.le_of_ble_eq_true rfl) hd1 dX12_canCome_1 rfl (ht.mono (fun r1 h2 p3 ht' => ?_))
  clear ht
  obtain ⟨v5, rfl, ht⟩ := ht'
  show Ex G d mX12_canCome 4 [(0, .ref a0), (1, .int x1), (2, .int x2)] [.int v5] h2 Q
  refine x_if_eq (pc2 := 7) 25 dX12_canCome_4 (by decide) rfl (fun c6 => ?_) (fun c6 => ?_)
  · replace ht := ht.1 c6
    refine x_iconst (pc2 := 26) (v := 0) (by decide) dX12_canCome_25 rfl ?_
    exact x_retZ rfl (Or.inl rfl) dX12_canCome_26 ht
  · replace ht := ht.2 c6
    refine x_aload_n (pc2 := 8) 0 (n := 0) (x := a0) rfl dX12_canCome_7 rfl ?_
    refine y_getI (pc2 := 11) (κ := 12) (k := 36) fl_X12_335 (by decide) (by decide) (k4.up p3) rfl dX12_canCome_8 rfl ?_
    refine x_iconst (pc2 := 12) (v := (-1)) (by decide) dX12_canCome_11 rfl ?_
    refine x_icmp_eq (pc2 := 15) 27 dX12_canCome_12 (by decide) rfl (fun c7 => ?_) (fun c7 => ?_)
    · replace ht := ht.1 c7
      exact ht
    · replace ht := ht.2 c7
      refine x_aload_n (pc2 := 16) 0 (n := 0) (x := a0) rfl dX12_canCome_15 rfl ?_
      obtain ⟨q8, e9, ht⟩ := ht
      refine y_getR (pc2 := 19) (κ := 12) (k := 7) fl_X12_29 (by decide) (by decide) (k4.up p3) rfl e9 dX12_canCome_16 rfl ?_
      refine x_iload_n (pc2 := 20) 1 (n := 1) (x := x1) rfl dX12_canCome_19 rfl ?_
      obtain ⟨k10, ht⟩ := ht
      obtain ⟨b11, ht⟩ := ht
      refine x_iald (pc2 := 21) k10 b11 dX12_canCome_20 rfl ?_
      refine x_iconst (pc2 := 22) (v := 1) (by decide) dX12_canCome_21 rfl ?_
      refine x_icmp_eq (pc2 := 25) 27 dX12_canCome_22 (by decide) rfl (fun c12 => ?_) (fun c12 => ?_)
      · replace ht := ht.1 c12
        exact ht
      · replace ht := ht.2 c12
        refine x_iconst (pc2 := 26) (v := 0) (by decide) dX12_canCome_25 rfl ?_
        exact x_retZ rfl (Or.inl rfl) dX12_canCome_26 ht
theorem e_X12_canCome {G : GG} {d : Nat} {h : HP} {Q : Option Value → HP → Prop} {a0 : Nat} {x1 : Int32} {x2 : Int32} (hd1 : 1 ≤ d) (ht : T_X12_canCome G d h Q a0 x1 x2) : Cal G d mX12_canCome [.ref a0, .int x1, .int x2] h Q := cal_of rfl (Nat.le_of_ble_eq_true rfl) (t_X12_canCome hd1 ht)
def T_X12_canCome_27 (G : GG) (d : Nat) (h : HP) (Q : Option Value → HP → Prop) (a0 : Nat) (x1 : Int32) (x2 : Int32) : Prop :=
  Kd G h a0 12 ∧ Cal G (d - 1) mX12_isClear [.ref a0] h (fun r1 h2 => ∃ v5, r1 = some (.int v5) ∧ ((v5 = 0 → Q (some (.int 0)) h2) ∧ (¬ v5 = 0 → Cal G (d - 1) mX12_goesOverRiver [.ref a0] h2 (fun r7 h8 => ∃ v10, r7 = some (.int v10) ∧ ((v10 = 0 → Cal G (d - 1) mX12_wordsFor [.ref a0, .int x2] h8 (fun r12 h13 => r12 = none ∧ Cal G (d - 1) mX12_farBy [.ref a0, .int x1] h13 (fun r15 h16 => ∃ v18, r15 = some (.long v18) ∧ Cal G (d - 1) mX12_hasThing [.ref a0, .int (hI h16 a0 35), .long v18] h16 (fun r19 h20 => ∃ v22, r19 = some (.int v22) ∧ ((v22 = 0 → Q (some (.int 0)) h20) ∧ (¬ v22 = 0 → (((hI h20 a0 36) = (-1) → Cal G (d - 1) mX12_mayBy [.ref a0, .int x1] h20 (fun r25 h26 => ∃ v28, r25 = some (.int v28) ∧ ((v28 = 0 → Q (some (.int 0)) h26) ∧ (¬ v28 = 0 → Q (some (.int 1)) h26)))) ∧ (¬ (hI h20 a0 36) = (-1) → Cal G (d - 1) mX12_hasThing [.ref a0, .int (hI h20 a0 36), .long v18] h20 (fun r30 h31 => ∃ v33, r30 = some (.int v33) ∧ ((v33 = 0 → Q (some (.int 0)) h31) ∧ (¬ v33 = 0 → Cal G (d - 1) mX12_mayBy [.ref a0, .int x1] h31 (fun r35 h36 => ∃ v38, r35 = some (.int v38) ∧ ((v38 = 0 → Q (some (.int 0)) h36) ∧ (¬ v38 = 0 → Q (some (.int 1)) h36)))))))))))))) ∧ (¬ v10 = 0 → Q (some (.int 0)) h8))))))
set_option maxRecDepth 20000 in
theorem t_X12_canCome_27 {G : GG} {d : Nat} {h : HP} {Q : Option Value → HP → Prop} {a0 : Nat} {x1 : Int32} {x2 : Int32} (hd1 : 1 ≤ d) (ht : T_X12_canCome_27 G d h Q a0 x1 x2) : Ex G d mX12_canCome 27 [(0, .ref a0), (1, .int x1), (2, .int x2)] [] h Q := by
  unfold T_X12_canCome_27 at ht
  refine x_aload_n (pc2 := 28) 0 (n := 0) (x := a0) rfl dX12_canCome_27 rfl ?_
  obtain ⟨k4, ht⟩ := ht
  refine x_callV (pc2 := 31) (As := []) (rest := []) (b := a0) mv_X12_isClear ml_X12_379 k4 rfl rfl (Nat.le_of_ble_eq_true rfl) hd1 dX12_canCome_28 rfl (ht.mono (fun r1 h2 p3 ht' => ?_))
  clear ht
  obtain ⟨v5, rfl, ht⟩ := ht'
  show Ex G d mX12_canCome 31 [(0, .ref a0), (1, .int x1), (2, .int x2)] [.int v5] h2 Q
  refine x_if_eq (pc2 := 34) 41 dX12_canCome_31 (by decide) rfl (fun c6 => ?_) (fun c6 => ?_)
  · replace ht := ht.1 c6
    refine x_iconst (pc2 := 42) (v := 0) (by decide) dX12_canCome_41 rfl ?_
    exact x_retZ rfl (Or.inl rfl) dX12_canCome_42 ht
  · replace ht := ht.2 c6
    refine x_aload_n (pc2 := 35) 0 (n := 0) (x := a0) rfl dX12_canCome_34 rfl ?_
    refine x_callV (pc2 := 38) (As := []) (rest := []) (b := a0) mv_X12_goesOverRiver ml_X12_382 (k4.up p3) rfl rfl (Nat.le_of_ble_eq_true rfl) hd1 dX12_canCome_35 rfl (ht.mono (fun r7 h8 p9 ht' => ?_))
    clear ht
    obtain ⟨v10, rfl, ht⟩ := ht'
    show Ex G d mX12_canCome 38 [(0, .ref a0), (1, .int x1), (2, .int x2)] [.int v10] h8 Q
    refine x_if_eq (pc2 := 41) 43 dX12_canCome_38 (by decide) rfl (fun c11 => ?_) (fun c11 => ?_)
    · replace ht := ht.1 c11
      refine x_aload_n (pc2 := 44) 0 (n := 0) (x := a0) rfl dX12_canCome_43 rfl ?_
      refine x_iload_n (pc2 := 45) 2 (n := 2) (x := x2) rfl dX12_canCome_44 rfl ?_
      refine x_callV (pc2 := 48) (As := [.int x2]) (rest := []) (b := a0) mv_X12_wordsFor ml_X12_385 ((k4.up p3).up p9) rfl rfl (Nat.le_of_ble_eq_true rfl) hd1 dX12_canCome_45 rfl (ht.mono (fun r12 h13 p14 ht' => ?_))
      clear ht
      obtain ⟨rfl, ht⟩ := ht'
      show Ex G d mX12_canCome 48 [(0, .ref a0), (1, .int x1), (2, .int x2)] [] h13 Q
      refine x_aload_n (pc2 := 49) 0 (n := 0) (x := a0) rfl dX12_canCome_48 rfl ?_
      refine x_iload_n (pc2 := 50) 1 (n := 1) (x := x1) rfl dX12_canCome_49 rfl ?_
      refine x_callV (pc2 := 53) (As := [.int x1]) (rest := []) (b := a0) mv_X12_farBy ml_X12_388 (((k4.up p3).up p9).up p14) rfl rfl (Nat.le_of_ble_eq_true rfl) hd1 dX12_canCome_50 rfl (ht.mono (fun r15 h16 p17 ht' => ?_))
      clear ht
      obtain ⟨v18, rfl, ht⟩ := ht'
      show Ex G d mX12_canCome 53 [(0, .ref a0), (1, .int x1), (2, .int x2)] [.long v18] h16 Q
      refine x_lstore_n (pc2 := 54) [1, 2, 3, 0] (n := 3) (x := v18) (lv2 := [(0, .ref a0), (1, .int x1), (2, .int x2), (3, .long v18)]) (by decide) rfl dX12_canCome_53 rfl ?_
      refine x_aload_n (pc2 := 55) 0 (n := 0) (x := a0) rfl dX12_canCome_54 rfl ?_
      refine x_aload_n (pc2 := 56) 0 (n := 0) (x := a0) rfl dX12_canCome_55 rfl ?_
      refine y_getI (pc2 := 59) (κ := 12) (k := 35) fl_X12_332 (by decide) (by decide) ((((k4.up p3).up p9).up p14).up p17) rfl dX12_canCome_56 rfl ?_
      refine x_lload_n (pc2 := 60) 3 (n := 3) (x := v18) rfl dX12_canCome_59 rfl ?_
      refine x_callV (pc2 := 63) (As := [.int (hI h16 a0 35), .long v18]) (rest := []) (b := a0) mv_X12_hasThing ml_X12_341 ((((k4.up p3).up p9).up p14).up p17) rfl rfl (Nat.le_of_ble_eq_true rfl) hd1 dX12_canCome_60 rfl (ht.mono (fun r19 h20 p21 ht' => ?_))
      clear ht
      obtain ⟨v22, rfl, ht⟩ := ht'
      show Ex G d mX12_canCome 63 [(0, .ref a0), (1, .int x1), (2, .int x2), (3, .long v18)] [.int v22] h20 Q
      refine x_if_eq (pc2 := 66) 98 dX12_canCome_63 (by decide) rfl (fun c23 => ?_) (fun c23 => ?_)
      · replace ht := ht.1 c23
        refine x_iconst (pc2 := 99) (v := 0) (by decide) dX12_canCome_98 rfl ?_
        exact x_retZ rfl (Or.inl rfl) dX12_canCome_99 ht
      · replace ht := ht.2 c23
        refine x_aload_n (pc2 := 67) 0 (n := 0) (x := a0) rfl dX12_canCome_66 rfl ?_
        refine y_getI (pc2 := 70) (κ := 12) (k := 36) fl_X12_335 (by decide) (by decide) (((((k4.up p3).up p9).up p14).up p17).up p21) rfl dX12_canCome_67 rfl ?_
        refine x_iconst (pc2 := 71) (v := (-1)) (by decide) dX12_canCome_70 rfl ?_
        refine x_icmp_eq (pc2 := 74) 86 dX12_canCome_71 (by decide) rfl (fun c24 => ?_) (fun c24 => ?_)
        · replace ht := ht.1 c24
          refine x_aload_n (pc2 := 87) 0 (n := 0) (x := a0) rfl dX12_canCome_86 rfl ?_
          refine x_iload_n (pc2 := 88) 1 (n := 1) (x := x1) rfl dX12_canCome_87 rfl ?_
          refine x_callV (pc2 := 91) (As := [.int x1]) (rest := []) (b := a0) mv_X12_mayBy ml_X12_392 (((((k4.up p3).up p9).up p14).up p17).up p21) rfl rfl (Nat.le_of_ble_eq_true rfl) hd1 dX12_canCome_88 rfl (ht.mono (fun r25 h26 p27 ht' => ?_))
          clear ht
          obtain ⟨v28, rfl, ht⟩ := ht'
          show Ex G d mX12_canCome 91 [(0, .ref a0), (1, .int x1), (2, .int x2), (3, .long v18)] [.int v28] h26 Q
          refine x_if_eq (pc2 := 94) 98 dX12_canCome_91 (by decide) rfl (fun c29 => ?_) (fun c29 => ?_)
          · replace ht := ht.1 c29
            refine x_iconst (pc2 := 99) (v := 0) (by decide) dX12_canCome_98 rfl ?_
            exact x_retZ rfl (Or.inl rfl) dX12_canCome_99 ht
          · replace ht := ht.2 c29
            refine x_iconst (pc2 := 95) (v := 1) (by decide) dX12_canCome_94 rfl ?_
            refine x_goto 99 dX12_canCome_95 (by decide) ?_
            exact x_retZ rfl (Or.inr rfl) dX12_canCome_99 ht
        · replace ht := ht.2 c24
          refine x_aload_n (pc2 := 75) 0 (n := 0) (x := a0) rfl dX12_canCome_74 rfl ?_
          refine x_aload_n (pc2 := 76) 0 (n := 0) (x := a0) rfl dX12_canCome_75 rfl ?_
          refine y_getI (pc2 := 79) (κ := 12) (k := 36) fl_X12_335 (by decide) (by decide) (((((k4.up p3).up p9).up p14).up p17).up p21) rfl dX12_canCome_76 rfl ?_
          refine x_lload_n (pc2 := 80) 3 (n := 3) (x := v18) rfl dX12_canCome_79 rfl ?_
          refine x_callV (pc2 := 83) (As := [.int (hI h20 a0 36), .long v18]) (rest := []) (b := a0) mv_X12_hasThing ml_X12_341 (((((k4.up p3).up p9).up p14).up p17).up p21) rfl rfl (Nat.le_of_ble_eq_true rfl) hd1 dX12_canCome_80 rfl (ht.mono (fun r30 h31 p32 ht' => ?_))
          clear ht
          obtain ⟨v33, rfl, ht⟩ := ht'
          show Ex G d mX12_canCome 83 [(0, .ref a0), (1, .int x1), (2, .int x2), (3, .long v18)] [.int v33] h31 Q
          refine x_if_eq (pc2 := 86) 98 dX12_canCome_83 (by decide) rfl (fun c34 => ?_) (fun c34 => ?_)
          · replace ht := ht.1 c34
            refine x_iconst (pc2 := 99) (v := 0) (by decide) dX12_canCome_98 rfl ?_
            exact x_retZ rfl (Or.inl rfl) dX12_canCome_99 ht
          · replace ht := ht.2 c34
            refine x_aload_n (pc2 := 87) 0 (n := 0) (x := a0) rfl dX12_canCome_86 rfl ?_
            refine x_iload_n (pc2 := 88) 1 (n := 1) (x := x1) rfl dX12_canCome_87 rfl ?_
            refine x_callV (pc2 := 91) (As := [.int x1]) (rest := []) (b := a0) mv_X12_mayBy ml_X12_392 ((((((k4.up p3).up p9).up p14).up p17).up p21).up p32) rfl rfl (Nat.le_of_ble_eq_true rfl) hd1 dX12_canCome_88 rfl (ht.mono (fun r35 h36 p37 ht' => ?_))
            clear ht
            obtain ⟨v38, rfl, ht⟩ := ht'
            show Ex G d mX12_canCome 91 [(0, .ref a0), (1, .int x1), (2, .int x2), (3, .long v18)] [.int v38] h36 Q
            refine x_if_eq (pc2 := 94) 98 dX12_canCome_91 (by decide) rfl (fun c39 => ?_) (fun c39 => ?_)
            · replace ht := ht.1 c39
              refine x_iconst (pc2 := 99) (v := 0) (by decide) dX12_canCome_98 rfl ?_
              exact x_retZ rfl (Or.inl rfl) dX12_canCome_99 ht
            · replace ht := ht.2 c39
              refine x_iconst (pc2 := 95) (v := 1) (by decide) dX12_canCome_94 rfl ?_
              refine x_goto 99 dX12_canCome_95 (by decide) ?_
              exact x_retZ rfl (Or.inr rfl) dX12_canCome_99 ht
    · replace ht := ht.2 c11
      refine x_iconst (pc2 := 42) (v := 0) (by decide) dX12_canCome_41 rfl ?_
      exact x_retZ rfl (Or.inl rfl) dX12_canCome_42 ht
def T_X12_wishOf (G : GG) (d : Nat) (h : HP) (Q : Option Value → HP → Prop) (a0 : Nat) (x1 : Int32) (x2 : Int32) : Prop :=
  Kd G h a0 12 ∧ Cal G (d - 1) mX12_wordsFor [.ref a0, .int x2] h (fun r1 h2 => r1 = none ∧ Ex G d mX12_wishOf 16 [(0, .ref a0), (1, .int x1), (2, .int x2), (3, .int (6 + x1)), (4, .long 0), (6, .int 0)] [] h2 Q)
set_option maxRecDepth 20000 in
theorem t_X12_wishOf {G : GG} {d : Nat} {h : HP} {Q : Option Value → HP → Prop} {a0 : Nat} {x1 : Int32} {x2 : Int32} (hd1 : 1 ≤ d) (ht : T_X12_wishOf G d h Q a0 x1 x2) : Ex G d mX12_wishOf 0 [(0, .ref a0), (1, .int x1), (2, .int x2)] [] h Q := by
  unfold T_X12_wishOf at ht
  refine x_bipush (pc2 := 2) (v := 6) (by decide) dX12_wishOf_0 rfl ?_
  refine x_iload_n (pc2 := 3) 1 (n := 1) (x := x1) rfl dX12_wishOf_2 rfl ?_
  refine x_iadd (pc2 := 4) dX12_wishOf_3 rfl ?_
  refine x_istore_n (pc2 := 5) [1, 2, 3, 0] (n := 3) (x := (6 + x1)) (lv2 := [(0, .ref a0), (1, .int x1), (2, .int x2), (3, .int (6 + x1))]) (by decide) rfl dX12_wishOf_4 rfl ?_
  refine x_aload_n (pc2 := 6) 0 (n := 0) (x := a0) rfl dX12_wishOf_5 rfl ?_
  refine x_iload_n (pc2 := 7) 2 (n := 2) (x := x2) rfl dX12_wishOf_6 rfl ?_
  obtain ⟨k4, ht⟩ := ht
  refine x_callV (pc2 := 10) (As := [.int x2]) (rest := []) (b := a0) mv_X12_wordsFor ml_X12_385 k4 rfl rfl (Nat.le_of_ble_eq_true rfl) hd1 dX12_wishOf_7 rfl (ht.mono (fun r1 h2 p3 ht' => ?_))
  clear ht
  obtain ⟨rfl, ht⟩ := ht'
  show Ex G d mX12_wishOf 10 [(0, .ref a0), (1, .int x1), (2, .int x2), (3, .int (6 + x1))] [] h2 Q
  refine x_lconst (pc2 := 11) (v := 0) (by decide) dX12_wishOf_10 rfl ?_
  refine x_lstore (pc2 := 13) [1, 2, 3, 4, 0] (n := 4) (x := 0) (lv2 := [(0, .ref a0), (1, .int x1), (2, .int x2), (3, .int (6 + x1)), (4, .long 0)]) (by decide) rfl dX12_wishOf_11 rfl ?_
  refine x_iconst (pc2 := 14) (v := 0) (by decide) dX12_wishOf_13 rfl ?_
  refine x_istore (pc2 := 16) [1, 2, 3, 4, 5, 0] (n := 6) (x := 0) (lv2 := [(0, .ref a0), (1, .int x1), (2, .int x2), (3, .int (6 + x1)), (4, .long 0), (6, .int 0)]) (by decide) rfl dX12_wishOf_14 rfl ?_
  exact ht
theorem e_X12_wishOf {G : GG} {d : Nat} {h : HP} {Q : Option Value → HP → Prop} {a0 : Nat} {x1 : Int32} {x2 : Int32} (hd1 : 1 ≤ d) (ht : T_X12_wishOf G d h Q a0 x1 x2) : Cal G d mX12_wishOf [.ref a0, .int x1, .int x2] h Q := cal_of rfl (Nat.le_of_ble_eq_true rfl) (t_X12_wishOf hd1 ht)
def T_X12_wishOf_16 (G : GG) (d : Nat) (h : HP) (Q : Option Value → HP → Prop) (a0 : Nat) (x1 : Int32) (x2 : Int32) (x3 : Int32) (y4 : Int64) (x6 : Int32) : Prop :=
  Kd G h a0 12 ∧ ∃ q2, hR h a0 6 = some q2 ∧ Kd G h q2 14 ∧ vp_in x3 (hN h q2) ∧ (((hI h q2 x3.toNatClampNeg) ≤ x6 → Q (some (.long y4)) h) ∧ (¬ (hI h q2 x3.toNatClampNeg) ≤ x6 → Cal G (d - 1) mX12_isHolding [.ref a0, .int x3, .int x6] h (fun r7 h8 => ∃ v10, r7 = some (.int v10) ∧ ((v10 = 0 → Ex G d mX12_wishOf 16 [(0, .ref a0), (1, .int x1), (2, .int x2), (3, .int x3), (4, .long (y4 + 0)), (6, .int (x6 + 1))] [] h8 Q) ∧ (¬ v10 = 0 → Cal G (d - 1) mX12_summed [.ref a0, .int x3, .int x6] h8 (fun r12 h13 => ∃ v15, r12 = some (.long v15) ∧ Ex G d mX12_wishOf 16 [(0, .ref a0), (1, .int x1), (2, .int x2), (3, .int x3), (4, .long (y4 + v15)), (6, .int (x6 + 1))] [] h13 Q))))))
set_option maxRecDepth 20000 in
theorem t_X12_wishOf_16 {G : GG} {d : Nat} {h : HP} {Q : Option Value → HP → Prop} {a0 : Nat} {x1 : Int32} {x2 : Int32} {x3 : Int32} {y4 : Int64} {x6 : Int32} (hd1 : 1 ≤ d) (ht : T_X12_wishOf_16 G d h Q a0 x1 x2 x3 y4 x6) : Ex G d mX12_wishOf 16 [(0, .ref a0), (1, .int x1), (2, .int x2), (3, .int x3), (4, .long y4), (6, .int x6)] [] h Q := by
  unfold T_X12_wishOf_16 at ht
  refine x_iload (pc2 := 18) 5 (n := 6) (x := x6) rfl dX12_wishOf_16 rfl ?_
  refine x_aload_n (pc2 := 19) 0 (n := 0) (x := a0) rfl dX12_wishOf_18 rfl ?_
  obtain ⟨k1, ht⟩ := ht
  obtain ⟨q2, e3, ht⟩ := ht
  refine y_getR (pc2 := 22) (κ := 12) (k := 6) fl_X12_26 (by decide) (by decide) k1 rfl e3 dX12_wishOf_19 rfl ?_
  refine x_iload_n (pc2 := 23) 3 (n := 3) (x := x3) rfl dX12_wishOf_22 rfl ?_
  obtain ⟨k4, ht⟩ := ht
  obtain ⟨b5, ht⟩ := ht
  refine x_iald (pc2 := 24) k4 b5 dX12_wishOf_23 rfl ?_
  refine x_icmp_ge (pc2 := 27) 59 dX12_wishOf_24 (by decide) rfl (fun c6 => ?_) (fun c6 => ?_)
  · replace ht := ht.1 c6
    refine x_lload (pc2 := 61) 4 (n := 4) (x := y4) rfl dX12_wishOf_59 rfl ?_
    exact x_retL rfl dX12_wishOf_61 ht
  · replace ht := ht.2 c6
    refine x_lload (pc2 := 29) 4 (n := 4) (x := y4) rfl dX12_wishOf_27 rfl ?_
    refine x_aload_n (pc2 := 30) 0 (n := 0) (x := a0) rfl dX12_wishOf_29 rfl ?_
    refine x_iload_n (pc2 := 31) 3 (n := 3) (x := x3) rfl dX12_wishOf_30 rfl ?_
    refine x_iload (pc2 := 33) 5 (n := 6) (x := x6) rfl dX12_wishOf_31 rfl ?_
    refine x_callV (pc2 := 36) (As := [.int x3, .int x6]) (rest := [.long y4]) (b := a0) mv_X12_isHolding ml_X12_360 k1 rfl rfl (Nat.le_of_ble_eq_true rfl) hd1 dX12_wishOf_33 rfl (ht.mono (fun r7 h8 p9 ht' => ?_))
    clear ht
    obtain ⟨v10, rfl, ht⟩ := ht'
    show Ex G d mX12_wishOf 36 [(0, .ref a0), (1, .int x1), (2, .int x2), (3, .int x3), (4, .long y4), (6, .int x6)] [.int v10, .long y4] h8 Q
    refine x_if_eq (pc2 := 39) 49 dX12_wishOf_36 (by decide) rfl (fun c11 => ?_) (fun c11 => ?_)
    · replace ht := ht.1 c11
      refine x_lconst (pc2 := 50) (v := 0) (by decide) dX12_wishOf_49 rfl ?_
      refine x_ladd (pc2 := 51) dX12_wishOf_50 rfl ?_
      refine x_lstore (pc2 := 53) [1, 2, 3, 4, 0, 5] (n := 4) (x := (y4 + 0)) (lv2 := [(0, .ref a0), (1, .int x1), (2, .int x2), (3, .int x3), (4, .long (y4 + 0)), (6, .int x6)]) (by decide) rfl dX12_wishOf_51 rfl ?_
      refine x_iinc (pc2 := 56) 5 [1, 2, 3, 4, 5, 0] (i := 6) (x := x6) (v := (x6 + 1)) (lv2 := [(0, .ref a0), (1, .int x1), (2, .int x2), (3, .int x3), (4, .long (y4 + 0)), (6, .int (x6 + 1))]) rfl (iinc_eq (by decide) _) (by decide) rfl dX12_wishOf_53 rfl ?_
      refine x_goto 16 dX12_wishOf_56 (by decide) ?_
      exact ht
    · replace ht := ht.2 c11
      refine x_aload_n (pc2 := 40) 0 (n := 0) (x := a0) rfl dX12_wishOf_39 rfl ?_
      refine x_iload_n (pc2 := 41) 3 (n := 3) (x := x3) rfl dX12_wishOf_40 rfl ?_
      refine x_iload (pc2 := 43) 5 (n := 6) (x := x6) rfl dX12_wishOf_41 rfl ?_
      refine x_callV (pc2 := 46) (As := [.int x3, .int x6]) (rest := [.long y4]) (b := a0) mv_X12_summed ml_X12_363 (k1.up p9) rfl rfl (Nat.le_of_ble_eq_true rfl) hd1 dX12_wishOf_43 rfl (ht.mono (fun r12 h13 p14 ht' => ?_))
      clear ht
      obtain ⟨v15, rfl, ht⟩ := ht'
      show Ex G d mX12_wishOf 46 [(0, .ref a0), (1, .int x1), (2, .int x2), (3, .int x3), (4, .long y4), (6, .int x6)] [.long v15, .long y4] h13 Q
      refine x_goto 50 dX12_wishOf_46 (by decide) ?_
      refine x_ladd (pc2 := 51) dX12_wishOf_50 rfl ?_
      refine x_lstore (pc2 := 53) [1, 2, 3, 4, 0, 5] (n := 4) (x := (y4 + v15)) (lv2 := [(0, .ref a0), (1, .int x1), (2, .int x2), (3, .int x3), (4, .long (y4 + v15)), (6, .int x6)]) (by decide) rfl dX12_wishOf_51 rfl ?_
      refine x_iinc (pc2 := 56) 5 [1, 2, 3, 4, 5, 0] (i := 6) (x := x6) (v := (x6 + 1)) (lv2 := [(0, .ref a0), (1, .int x1), (2, .int x2), (3, .int x3), (4, .long (y4 + v15)), (6, .int (x6 + 1))]) rfl (iinc_eq (by decide) _) (by decide) rfl dX12_wishOf_53 rfl ?_
      refine x_goto 16 dX12_wishOf_56 (by decide) ?_
      exact ht
def T_X12_builds (G : GG) (d : Nat) (h : HP) (Q : Option Value → HP → Prop) (a0 : Nat) (x1 : Int32) (x2 : Int32) : Prop :=
  Kd G h a0 12 ∧ Cal G (d - 1) mX12_comes [.ref a0, .int x1, .int (hI h a0 31), .int (hI h a0 32), .int (hI h a0 33), .int (hI h a0 34), .int x2] h (fun r2 h3 => r2 = none ∧ ∃ q5, hR h3 a0 29 = some q5 ∧ Cal G (d - 1) mX12_placeOf [.int (hI h3 a0 35)] h3 (fun r7 h8 => ∃ v10, r7 = some (.int v10) ∧ Kd G h8 q5 14 ∧ vp_in (v10 + 6) (hN h8 q5) ∧ (((hI (sI h8 q5 (v10 + 6).toNatClampNeg x1) a0 36) = (-1) → Q none (sI h8 q5 (v10 + 6).toNatClampNeg x1)) ∧ (¬ (hI (sI h8 q5 (v10 + 6).toNatClampNeg x1) a0 36) = (-1) → ∃ q14, hR (sI h8 q5 (v10 + 6).toNatClampNeg x1) a0 29 = some q14 ∧ Cal G (d - 1) mX12_placeOf [.int (hI (sI h8 q5 (v10 + 6).toNatClampNeg x1) a0 36)] (sI h8 q5 (v10 + 6).toNatClampNeg x1) (fun r16 h17 => ∃ v19, r16 = some (.int v19) ∧ Kd G h17 q14 14 ∧ vp_in (v19 + 6) (hN h17 q14) ∧ Q none (sI h17 q14 (v19 + 6).toNatClampNeg x1))))))
set_option maxRecDepth 20000 in
theorem t_X12_builds {G : GG} {d : Nat} {h : HP} {Q : Option Value → HP → Prop} {a0 : Nat} {x1 : Int32} {x2 : Int32} (hd1 : 1 ≤ d) (ht : T_X12_builds G d h Q a0 x1 x2) : Ex G d mX12_builds 0 [(0, .ref a0), (1, .int x1), (2, .int x2)] [] h Q := by
  unfold T_X12_builds at ht
  refine x_aload_n (pc2 := 1) 0 (n := 0) (x := a0) rfl dX12_builds_0 rfl ?_
  refine x_iload_n (pc2 := 2) 1 (n := 1) (x := x1) rfl dX12_builds_1 rfl ?_
  refine x_aload_n (pc2 := 3) 0 (n := 0) (x := a0) rfl dX12_builds_2 rfl ?_
  obtain ⟨k1, ht⟩ := ht
  refine y_getI (pc2 := 6) (κ := 12) (k := 31) fl_X12_320 (by decide) (by decide) k1 rfl dX12_builds_3 rfl ?_
  refine x_aload_n (pc2 := 7) 0 (n := 0) (x := a0) rfl dX12_builds_6 rfl ?_
  refine y_getI (pc2 := 10) (κ := 12) (k := 32) fl_X12_323 (by decide) (by decide) k1 rfl dX12_builds_7 rfl ?_
  refine x_aload_n (pc2 := 11) 0 (n := 0) (x := a0) rfl dX12_builds_10 rfl ?_
  refine y_getI (pc2 := 14) (κ := 12) (k := 33) fl_X12_326 (by decide) (by decide) k1 rfl dX12_builds_11 rfl ?_
  refine x_aload_n (pc2 := 15) 0 (n := 0) (x := a0) rfl dX12_builds_14 rfl ?_
  refine y_getI (pc2 := 18) (κ := 12) (k := 34) fl_X12_329 (by decide) (by decide) k1 rfl dX12_builds_15 rfl ?_
  refine x_iload_n (pc2 := 19) 2 (n := 2) (x := x2) rfl dX12_builds_18 rfl ?_
  refine x_callV (pc2 := 22) (As := [.int x1, .int (hI h a0 31), .int (hI h a0 32), .int (hI h a0 33), .int (hI h a0 34), .int x2]) (rest := []) (b := a0) mv_X12_comes ml_X12_287 k1 rfl rfl (Nat.le_of_ble_eq_true rfl) hd1 dX12_builds_19 rfl (ht.mono (fun r2 h3 p4 ht' => ?_))
  clear ht
  obtain ⟨rfl, ht⟩ := ht'
  show Ex G d mX12_builds 22 [(0, .ref a0), (1, .int x1), (2, .int x2)] [] h3 Q
  refine x_aload_n (pc2 := 23) 0 (n := 0) (x := a0) rfl dX12_builds_22 rfl ?_
  obtain ⟨q5, e6, ht⟩ := ht
  refine y_getR (pc2 := 26) (κ := 12) (k := 29) fl_X12_48 (by decide) (by decide) (k1.up p4) rfl e6 dX12_builds_23 rfl ?_
  refine x_aload_n (pc2 := 27) 0 (n := 0) (x := a0) rfl dX12_builds_26 rfl ?_
  refine y_getI (pc2 := 30) (κ := 12) (k := 35) fl_X12_332 (by decide) (by decide) (k1.up p4) rfl dX12_builds_27 rfl ?_
  refine x_callS (pc2 := 33) (As := [.int (hI h3 a0 35)]) (rest := [.ref q5]) ms_X12_placeOf ml_X12_284 rfl rfl (Nat.le_of_ble_eq_true rfl) hd1 dX12_builds_30 rfl (ht.mono (fun r7 h8 p9 ht' => ?_))
  clear ht
  obtain ⟨v10, rfl, ht⟩ := ht'
  show Ex G d mX12_builds 33 [(0, .ref a0), (1, .int x1), (2, .int x2)] [.int v10, .ref q5] h8 Q
  refine x_bipush (pc2 := 35) (v := 6) (by decide) dX12_builds_33 rfl ?_
  refine x_iadd (pc2 := 36) dX12_builds_35 rfl ?_
  refine x_iload_n (pc2 := 37) 1 (n := 1) (x := x1) rfl dX12_builds_36 rfl ?_
  obtain ⟨k11, ht⟩ := ht
  obtain ⟨b12, ht⟩ := ht
  refine x_iast (pc2 := 38) k11 b12 dX12_builds_37 rfl ?_
  refine x_aload_n (pc2 := 39) 0 (n := 0) (x := a0) rfl dX12_builds_38 rfl ?_
  refine y_getI (pc2 := 42) (κ := 12) (k := 36) fl_X12_335 (by decide) (by decide) ((k1.up p4).up p9).sI rfl dX12_builds_39 rfl ?_
  refine x_iconst (pc2 := 43) (v := (-1)) (by decide) dX12_builds_42 rfl ?_
  refine x_icmp_eq (pc2 := 46) 62 dX12_builds_43 (by decide) rfl (fun c13 => ?_) (fun c13 => ?_)
  · replace ht := ht.1 c13
    exact x_retV rfl dX12_builds_62 ht
  · replace ht := ht.2 c13
    refine x_aload_n (pc2 := 47) 0 (n := 0) (x := a0) rfl dX12_builds_46 rfl ?_
    obtain ⟨q14, e15, ht⟩ := ht
    refine y_getR (pc2 := 50) (κ := 12) (k := 29) fl_X12_48 (by decide) (by decide) ((k1.up p4).up p9).sI rfl e15 dX12_builds_47 rfl ?_
    refine x_aload_n (pc2 := 51) 0 (n := 0) (x := a0) rfl dX12_builds_50 rfl ?_
    refine y_getI (pc2 := 54) (κ := 12) (k := 36) fl_X12_335 (by decide) (by decide) ((k1.up p4).up p9).sI rfl dX12_builds_51 rfl ?_
    refine x_callS (pc2 := 57) (As := [.int (hI (sI h8 q5 (v10 + 6).toNatClampNeg x1) a0 36)]) (rest := [.ref q14]) ms_X12_placeOf ml_X12_284 rfl rfl (Nat.le_of_ble_eq_true rfl) hd1 dX12_builds_54 rfl (ht.mono (fun r16 h17 p18 ht' => ?_))
    clear ht
    obtain ⟨v19, rfl, ht⟩ := ht'
    show Ex G d mX12_builds 57 [(0, .ref a0), (1, .int x1), (2, .int x2)] [.int v19, .ref q14] h17 Q
    refine x_bipush (pc2 := 59) (v := 6) (by decide) dX12_builds_57 rfl ?_
    refine x_iadd (pc2 := 60) dX12_builds_59 rfl ?_
    refine x_iload_n (pc2 := 61) 1 (n := 1) (x := x1) rfl dX12_builds_60 rfl ?_
    obtain ⟨k20, ht⟩ := ht
    obtain ⟨b21, ht⟩ := ht
    refine x_iast (pc2 := 62) k20 b21 dX12_builds_61 rfl ?_
    exact x_retV rfl dX12_builds_62 ht
theorem e_X12_builds {G : GG} {d : Nat} {h : HP} {Q : Option Value → HP → Prop} {a0 : Nat} {x1 : Int32} {x2 : Int32} (hd1 : 1 ≤ d) (ht : T_X12_builds G d h Q a0 x1 x2) : Cal G d mX12_builds [.ref a0, .int x1, .int x2] h Q := cal_of rfl (Nat.le_of_ble_eq_true rfl) (t_X12_builds hd1 ht)
def T_X12_pulls (G : GG) (d : Nat) (h : HP) (Q : Option Value → HP → Prop) (a0 : Nat) (x1 : Int32) : Prop :=
  Ex G d mX12_pulls 2 [(0, .ref a0), (1, .int x1), (2, .int 0)] [] h Q
set_option maxRecDepth 20000 in
theorem t_X12_pulls {G : GG} {d : Nat} {h : HP} {Q : Option Value → HP → Prop} {a0 : Nat} {x1 : Int32} (ht : T_X12_pulls G d h Q a0 x1) : Ex G d mX12_pulls 0 [(0, .ref a0), (1, .int x1)] [] h Q := by
  unfold T_X12_pulls at ht
  refine x_iconst (pc2 := 1) (v := 0) (by decide) dX12_pulls_0 rfl ?_
  refine x_istore_n (pc2 := 2) [1, 2, 0] (n := 2) (x := 0) (lv2 := [(0, .ref a0), (1, .int x1), (2, .int 0)]) (by decide) rfl dX12_pulls_1 rfl ?_
  exact ht
theorem e_X12_pulls {G : GG} {d : Nat} {h : HP} {Q : Option Value → HP → Prop} {a0 : Nat} {x1 : Int32} (ht : T_X12_pulls G d h Q a0 x1) : Cal G d mX12_pulls [.ref a0, .int x1] h Q := cal_of rfl (Nat.le_of_ble_eq_true rfl) (t_X12_pulls ht)
def T_X12_pulls_2 (G : GG) (d : Nat) (h : HP) (Q : Option Value → HP → Prop) (a0 : Nat) (x1 : Int32) (x2 : Int32) : Prop :=
  ((54 ≤ x2 → Kd G h a0 12 ∧ ∃ q3, hR h a0 29 = some q3 ∧ Cal G (d - 1) mX12_placeOf [.int x1] h (fun r5 h6 => ∃ v8, r5 = some (.int v8) ∧ Kd G h6 q3 14 ∧ vp_in v8 (hN h6 q3) ∧ Q none (sI h6 q3 v8.toNatClampNeg 0))) ∧ (¬ 54 ≤ x2 → Kd G h a0 12 ∧ Cal G (d - 1) mX12_of [.ref a0, .int x2, .int 0] h (fun r11 h12 => ∃ v15, r11 = some (.int v15) ∧ ((¬ v15 = 1 → Ex G d mX12_pulls 2 [(0, .ref a0), (1, .int x1), (2, .int (x2 + 1))] [] h12 Q) ∧ (v15 = 1 → Cal G (d - 1) mX12_of [.ref a0, .int x2, .int 6] h12 (fun r17 h18 => ∃ v20, r17 = some (.int v20) ∧ ((¬ v20 = x1 → Ex G d mX12_pulls 2 [(0, .ref a0), (1, .int x1), (2, .int (x2 + 1))] [] h18 Q) ∧ (v20 = x1 → ∃ q22, hR h18 a0 29 = some q22 ∧ Cal G (d - 1) mX12_placeOf [.int x2] h18 (fun r24 h25 => ∃ v27, r24 = some (.int v27) ∧ Cal G (d - 1) mX12_of [.ref a0, .int x1, .int 6] h25 (fun r28 h29 => ∃ v31, r28 = some (.int v31) ∧ Kd G h29 q22 14 ∧ vp_in (v27 + 6) (hN h29 q22) ∧ Ex G d mX12_pulls 2 [(0, .ref a0), (1, .int x1), (2, .int (x2 + 1))] [] (sI h29 q22 (v27 + 6).toNatClampNeg v31) Q))))))))))
set_option maxRecDepth 20000 in
theorem t_X12_pulls_2 {G : GG} {d : Nat} {h : HP} {Q : Option Value → HP → Prop} {a0 : Nat} {x1 : Int32} {x2 : Int32} (hd1 : 1 ≤ d) (ht : T_X12_pulls_2 G d h Q a0 x1 x2) : Ex G d mX12_pulls 2 [(0, .ref a0), (1, .int x1), (2, .int x2)] [] h Q := by
  unfold T_X12_pulls_2 at ht
  refine x_iload_n (pc2 := 3) 2 (n := 2) (x := x2) rfl dX12_pulls_2 rfl ?_
  refine x_bipush (pc2 := 5) (v := 54) (by decide) dX12_pulls_3 rfl ?_
  refine x_icmp_ge (pc2 := 8) 54 dX12_pulls_5 (by decide) rfl (fun c1 => ?_) (fun c1 => ?_)
  · replace ht := ht.1 c1
    refine x_aload_n (pc2 := 55) 0 (n := 0) (x := a0) rfl dX12_pulls_54 rfl ?_
    obtain ⟨k2, ht⟩ := ht
    obtain ⟨q3, e4, ht⟩ := ht
    refine y_getR (pc2 := 58) (κ := 12) (k := 29) fl_X12_48 (by decide) (by decide) k2 rfl e4 dX12_pulls_55 rfl ?_
    refine x_iload_n (pc2 := 59) 1 (n := 1) (x := x1) rfl dX12_pulls_58 rfl ?_
    refine x_callS (pc2 := 62) (As := [.int x1]) (rest := [.ref q3]) ms_X12_placeOf ml_X12_284 rfl rfl (Nat.le_of_ble_eq_true rfl) hd1 dX12_pulls_59 rfl (ht.mono (fun r5 h6 p7 ht' => ?_))
    clear ht
    obtain ⟨v8, rfl, ht⟩ := ht'
    show Ex G d mX12_pulls 62 [(0, .ref a0), (1, .int x1), (2, .int x2)] [.int v8, .ref q3] h6 Q
    refine x_iconst (pc2 := 63) (v := 0) (by decide) dX12_pulls_62 rfl ?_
    obtain ⟨k9, ht⟩ := ht
    obtain ⟨b10, ht⟩ := ht
    refine x_iast (pc2 := 64) k9 b10 dX12_pulls_63 rfl ?_
    exact x_retV rfl dX12_pulls_64 ht
  · replace ht := ht.2 c1
    refine x_aload_n (pc2 := 9) 0 (n := 0) (x := a0) rfl dX12_pulls_8 rfl ?_
    refine x_iload_n (pc2 := 10) 2 (n := 2) (x := x2) rfl dX12_pulls_9 rfl ?_
    refine x_iconst (pc2 := 11) (v := 0) (by decide) dX12_pulls_10 rfl ?_
    obtain ⟨k14, ht⟩ := ht
    refine x_callV (pc2 := 14) (As := [.int x2, .int 0]) (rest := []) (b := a0) mv_X12_of ml_X12_310 k14 rfl rfl (Nat.le_of_ble_eq_true rfl) hd1 dX12_pulls_11 rfl (ht.mono (fun r11 h12 p13 ht' => ?_))
    clear ht
    obtain ⟨v15, rfl, ht⟩ := ht'
    show Ex G d mX12_pulls 14 [(0, .ref a0), (1, .int x1), (2, .int x2)] [.int v15] h12 Q
    refine x_iconst (pc2 := 15) (v := 1) (by decide) dX12_pulls_14 rfl ?_
    refine y_icmp_ne (pc2 := 18) 48 dX12_pulls_15 (by decide) rfl (fun c16 => ?_) (fun c16 => ?_)
    · replace ht := ht.1 c16
      refine x_iinc (pc2 := 51) 2 [1, 2, 0] (i := 2) (x := x2) (v := (x2 + 1)) (lv2 := [(0, .ref a0), (1, .int x1), (2, .int (x2 + 1))]) rfl (iinc_eq (by decide) _) (by decide) rfl dX12_pulls_48 rfl ?_
      refine x_goto 2 dX12_pulls_51 (by decide) ?_
      exact ht
    · replace ht := ht.2 c16
      refine x_aload_n (pc2 := 19) 0 (n := 0) (x := a0) rfl dX12_pulls_18 rfl ?_
      refine x_iload_n (pc2 := 20) 2 (n := 2) (x := x2) rfl dX12_pulls_19 rfl ?_
      refine x_bipush (pc2 := 22) (v := 6) (by decide) dX12_pulls_20 rfl ?_
      refine x_callV (pc2 := 25) (As := [.int x2, .int 6]) (rest := []) (b := a0) mv_X12_of ml_X12_310 (k14.up p13) rfl rfl (Nat.le_of_ble_eq_true rfl) hd1 dX12_pulls_22 rfl (ht.mono (fun r17 h18 p19 ht' => ?_))
      clear ht
      obtain ⟨v20, rfl, ht⟩ := ht'
      show Ex G d mX12_pulls 25 [(0, .ref a0), (1, .int x1), (2, .int x2)] [.int v20] h18 Q
      refine x_iload_n (pc2 := 26) 1 (n := 1) (x := x1) rfl dX12_pulls_25 rfl ?_
      refine y_icmp_ne (pc2 := 29) 48 dX12_pulls_26 (by decide) rfl (fun c21 => ?_) (fun c21 => ?_)
      · replace ht := ht.1 c21
        refine x_iinc (pc2 := 51) 2 [1, 2, 0] (i := 2) (x := x2) (v := (x2 + 1)) (lv2 := [(0, .ref a0), (1, .int x1), (2, .int (x2 + 1))]) rfl (iinc_eq (by decide) _) (by decide) rfl dX12_pulls_48 rfl ?_
        refine x_goto 2 dX12_pulls_51 (by decide) ?_
        exact ht
      · replace ht := ht.2 c21
        refine x_aload_n (pc2 := 30) 0 (n := 0) (x := a0) rfl dX12_pulls_29 rfl ?_
        obtain ⟨q22, e23, ht⟩ := ht
        refine y_getR (pc2 := 33) (κ := 12) (k := 29) fl_X12_48 (by decide) (by decide) ((k14.up p13).up p19) rfl e23 dX12_pulls_30 rfl ?_
        refine x_iload_n (pc2 := 34) 2 (n := 2) (x := x2) rfl dX12_pulls_33 rfl ?_
        refine x_callS (pc2 := 37) (As := [.int x2]) (rest := [.ref q22]) ms_X12_placeOf ml_X12_284 rfl rfl (Nat.le_of_ble_eq_true rfl) hd1 dX12_pulls_34 rfl (ht.mono (fun r24 h25 p26 ht' => ?_))
        clear ht
        obtain ⟨v27, rfl, ht⟩ := ht'
        show Ex G d mX12_pulls 37 [(0, .ref a0), (1, .int x1), (2, .int x2)] [.int v27, .ref q22] h25 Q
        refine x_bipush (pc2 := 39) (v := 6) (by decide) dX12_pulls_37 rfl ?_
        refine x_iadd (pc2 := 40) dX12_pulls_39 rfl ?_
        refine x_aload_n (pc2 := 41) 0 (n := 0) (x := a0) rfl dX12_pulls_40 rfl ?_
        refine x_iload_n (pc2 := 42) 1 (n := 1) (x := x1) rfl dX12_pulls_41 rfl ?_
        refine x_bipush (pc2 := 44) (v := 6) (by decide) dX12_pulls_42 rfl ?_
        refine x_callV (pc2 := 47) (As := [.int x1, .int 6]) (rest := [.int (v27 + 6), .ref q22]) (b := a0) mv_X12_of ml_X12_310 (((k14.up p13).up p19).up p26) rfl rfl (Nat.le_of_ble_eq_true rfl) hd1 dX12_pulls_44 rfl (ht.mono (fun r28 h29 p30 ht' => ?_))
        clear ht
        obtain ⟨v31, rfl, ht⟩ := ht'
        show Ex G d mX12_pulls 47 [(0, .ref a0), (1, .int x1), (2, .int x2)] [.int v31, .int (v27 + 6), .ref q22] h29 Q
        obtain ⟨k32, ht⟩ := ht
        obtain ⟨b33, ht⟩ := ht
        refine x_iast (pc2 := 48) k32 b33 dX12_pulls_47 rfl ?_
        refine x_iinc (pc2 := 51) 2 [1, 2, 0] (i := 2) (x := x2) (v := (x2 + 1)) (lv2 := [(0, .ref a0), (1, .int x1), (2, .int (x2 + 1))]) rfl (iinc_eq (by decide) _) (by decide) rfl dX12_pulls_48 rfl ?_
        refine x_goto 2 dX12_pulls_51 (by decide) ?_
        exact ht
def T_X12_freeNumber (G : GG) (d : Nat) (h : HP) (Q : Option Value → HP → Prop) (a0 : Nat) : Prop :=
  Ex G d mX12_freeNumber 3 [(0, .ref a0), (1, .int 6)] [] h Q
set_option maxRecDepth 20000 in
theorem t_X12_freeNumber {G : GG} {d : Nat} {h : HP} {Q : Option Value → HP → Prop} {a0 : Nat} (ht : T_X12_freeNumber G d h Q a0) : Ex G d mX12_freeNumber 0 [(0, .ref a0)] [] h Q := by
  unfold T_X12_freeNumber at ht
  refine x_bipush (pc2 := 2) (v := 6) (by decide) dX12_freeNumber_0 rfl ?_
  refine x_istore_n (pc2 := 3) [1, 0] (n := 1) (x := 6) (lv2 := [(0, .ref a0), (1, .int 6)]) (by decide) rfl dX12_freeNumber_2 rfl ?_
  exact ht
theorem e_X12_freeNumber {G : GG} {d : Nat} {h : HP} {Q : Option Value → HP → Prop} {a0 : Nat} (ht : T_X12_freeNumber G d h Q a0) : Cal G d mX12_freeNumber [.ref a0] h Q := cal_of rfl (Nat.le_of_ble_eq_true rfl) (t_X12_freeNumber ht)
def T_X12_freeNumber_3 (G : GG) (d : Nat) (h : HP) (Q : Option Value → HP → Prop) (a0 : Nat) (x1 : Int32) : Prop :=
  ((30 ≤ x1 → Q (some (.int (-1))) h) ∧ (¬ 30 ≤ x1 → Kd G h a0 12 ∧ Cal G (d - 1) mX12_of [.ref a0, .int x1, .int 0] h (fun r2 h3 => ∃ v6, r2 = some (.int v6) ∧ ((¬ v6 = 0 → Ex G d mX12_freeNumber 3 [(0, .ref a0), (1, .int (x1 + 1))] [] h3 Q) ∧ (v6 = 0 → Q (some (.int x1)) h3)))))
set_option maxRecDepth 20000 in
theorem t_X12_freeNumber_3 {G : GG} {d : Nat} {h : HP} {Q : Option Value → HP → Prop} {a0 : Nat} {x1 : Int32} (hd1 : 1 ≤ d) (ht : T_X12_freeNumber_3 G d h Q a0 x1) : Ex G d mX12_freeNumber 3 [(0, .ref a0), (1, .int x1)] [] h Q := by
  unfold T_X12_freeNumber_3 at ht
  refine x_iload_n (pc2 := 4) 1 (n := 1) (x := x1) rfl dX12_freeNumber_3 rfl ?_
  refine x_bipush (pc2 := 6) (v := 30) (by decide) dX12_freeNumber_4 rfl ?_
  refine x_icmp_ge (pc2 := 9) 26 dX12_freeNumber_6 (by decide) rfl (fun c1 => ?_) (fun c1 => ?_)
  · replace ht := ht.1 c1
    refine x_iconst (pc2 := 27) (v := (-1)) (by decide) dX12_freeNumber_26 rfl ?_
    exact x_ret (ty := .int) rfl rfl dX12_freeNumber_27 ht
  · replace ht := ht.2 c1
    refine x_aload_n (pc2 := 10) 0 (n := 0) (x := a0) rfl dX12_freeNumber_9 rfl ?_
    refine x_iload_n (pc2 := 11) 1 (n := 1) (x := x1) rfl dX12_freeNumber_10 rfl ?_
    refine x_iconst (pc2 := 12) (v := 0) (by decide) dX12_freeNumber_11 rfl ?_
    obtain ⟨k5, ht⟩ := ht
    refine x_callV (pc2 := 15) (As := [.int x1, .int 0]) (rest := []) (b := a0) mv_X12_of ml_X12_310 k5 rfl rfl (Nat.le_of_ble_eq_true rfl) hd1 dX12_freeNumber_12 rfl (ht.mono (fun r2 h3 p4 ht' => ?_))
    clear ht
    obtain ⟨v6, rfl, ht⟩ := ht'
    show Ex G d mX12_freeNumber 15 [(0, .ref a0), (1, .int x1)] [.int v6] h3 Q
    refine y_if_ne (pc2 := 18) 20 dX12_freeNumber_15 (by decide) rfl (fun c7 => ?_) (fun c7 => ?_)
    · replace ht := ht.1 c7
      refine x_iinc (pc2 := 23) 1 [1, 0] (i := 1) (x := x1) (v := (x1 + 1)) (lv2 := [(0, .ref a0), (1, .int (x1 + 1))]) rfl (iinc_eq (by decide) _) (by decide) rfl dX12_freeNumber_20 rfl ?_
      refine x_goto 3 dX12_freeNumber_23 (by decide) ?_
      exact ht
    · replace ht := ht.2 c7
      refine x_iload_n (pc2 := 19) 1 (n := 1) (x := x1) rfl dX12_freeNumber_18 rfl ?_
      exact x_ret (ty := .int) rfl rfl dX12_freeNumber_19 ht
def T_X12_areAsked (G : GG) (d : Nat) (h : HP) (Q : Option Value → HP → Prop) (a0 : Nat) (x1 : Int32) (x2 : Int32) (x3 : Int32) : Prop :=
  Cal G (d - 1) mX12_isFamily [.int x1] h (fun r1 h2 => ∃ v4, r1 = some (.int v4) ∧ ((v4 = 0 → Q (some (.int 0)) h2) ∧ (¬ v4 = 0 → Kd G h2 a0 12 ∧ Cal G (d - 1) mX12_isThing [.ref a0, .int x2] h2 (fun r6 h7 => ∃ v10, r6 = some (.int v10) ∧ ((v10 = 0 → Q (some (.int 0)) h7) ∧ (¬ v10 = 0 → ((x3 = (-1) → Q (some (.int 1)) h7) ∧ (¬ x3 = (-1) → Cal G (d - 1) mX12_isThing [.ref a0, .int x3] h7 (fun r13 h14 => ∃ v16, r13 = some (.int v16) ∧ ((v16 = 0 → Q (some (.int 0)) h14) ∧ (¬ v16 = 0 → Q (some (.int 1)) h14)))))))))))
set_option maxRecDepth 20000 in
theorem t_X12_areAsked {G : GG} {d : Nat} {h : HP} {Q : Option Value → HP → Prop} {a0 : Nat} {x1 : Int32} {x2 : Int32} {x3 : Int32} (hd1 : 1 ≤ d) (ht : T_X12_areAsked G d h Q a0 x1 x2 x3) : Ex G d mX12_areAsked 0 [(0, .ref a0), (1, .int x1), (2, .int x2), (3, .int x3)] [] h Q := by
  unfold T_X12_areAsked at ht
  refine x_iload_n (pc2 := 1) 1 (n := 1) (x := x1) rfl dX12_areAsked_0 rfl ?_
  refine x_callS (pc2 := 4) (As := [.int x1]) (rest := []) ms_X12_isFamily ml_X12_395 rfl rfl (Nat.le_of_ble_eq_true rfl) hd1 dX12_areAsked_1 rfl (ht.mono (fun r1 h2 p3 ht' => ?_))
  clear ht
  obtain ⟨v4, rfl, ht⟩ := ht'
  show Ex G d mX12_areAsked 4 [(0, .ref a0), (1, .int x1), (2, .int x2), (3, .int x3)] [.int v4] h2 Q
  refine x_if_eq (pc2 := 7) 32 dX12_areAsked_4 (by decide) rfl (fun c5 => ?_) (fun c5 => ?_)
  · replace ht := ht.1 c5
    refine x_iconst (pc2 := 33) (v := 0) (by decide) dX12_areAsked_32 rfl ?_
    exact x_retZ rfl (Or.inl rfl) dX12_areAsked_33 ht
  · replace ht := ht.2 c5
    refine x_aload_n (pc2 := 8) 0 (n := 0) (x := a0) rfl dX12_areAsked_7 rfl ?_
    refine x_iload_n (pc2 := 9) 2 (n := 2) (x := x2) rfl dX12_areAsked_8 rfl ?_
    obtain ⟨k9, ht⟩ := ht
    refine x_callV (pc2 := 12) (As := [.int x2]) (rest := []) (b := a0) mv_X12_isThing ml_X12_314 k9 rfl rfl (Nat.le_of_ble_eq_true rfl) hd1 dX12_areAsked_9 rfl (ht.mono (fun r6 h7 p8 ht' => ?_))
    clear ht
    obtain ⟨v10, rfl, ht⟩ := ht'
    show Ex G d mX12_areAsked 12 [(0, .ref a0), (1, .int x1), (2, .int x2), (3, .int x3)] [.int v10] h7 Q
    refine x_if_eq (pc2 := 15) 32 dX12_areAsked_12 (by decide) rfl (fun c11 => ?_) (fun c11 => ?_)
    · replace ht := ht.1 c11
      refine x_iconst (pc2 := 33) (v := 0) (by decide) dX12_areAsked_32 rfl ?_
      exact x_retZ rfl (Or.inl rfl) dX12_areAsked_33 ht
    · replace ht := ht.2 c11
      refine x_iload_n (pc2 := 16) 3 (n := 3) (x := x3) rfl dX12_areAsked_15 rfl ?_
      refine x_iconst (pc2 := 17) (v := (-1)) (by decide) dX12_areAsked_16 rfl ?_
      refine x_icmp_eq (pc2 := 20) 28 dX12_areAsked_17 (by decide) rfl (fun c12 => ?_) (fun c12 => ?_)
      · replace ht := ht.1 c12
        refine x_iconst (pc2 := 29) (v := 1) (by decide) dX12_areAsked_28 rfl ?_
        refine x_goto 33 dX12_areAsked_29 (by decide) ?_
        exact x_retZ rfl (Or.inr rfl) dX12_areAsked_33 ht
      · replace ht := ht.2 c12
        refine x_aload_n (pc2 := 21) 0 (n := 0) (x := a0) rfl dX12_areAsked_20 rfl ?_
        refine x_iload_n (pc2 := 22) 3 (n := 3) (x := x3) rfl dX12_areAsked_21 rfl ?_
        refine x_callV (pc2 := 25) (As := [.int x3]) (rest := []) (b := a0) mv_X12_isThing ml_X12_314 (k9.up p8) rfl rfl (Nat.le_of_ble_eq_true rfl) hd1 dX12_areAsked_22 rfl (ht.mono (fun r13 h14 p15 ht' => ?_))
        clear ht
        obtain ⟨v16, rfl, ht⟩ := ht'
        show Ex G d mX12_areAsked 25 [(0, .ref a0), (1, .int x1), (2, .int x2), (3, .int x3)] [.int v16] h14 Q
        refine x_if_eq (pc2 := 28) 32 dX12_areAsked_25 (by decide) rfl (fun c17 => ?_) (fun c17 => ?_)
        · replace ht := ht.1 c17
          refine x_iconst (pc2 := 33) (v := 0) (by decide) dX12_areAsked_32 rfl ?_
          exact x_retZ rfl (Or.inl rfl) dX12_areAsked_33 ht
        · replace ht := ht.2 c17
          refine x_iconst (pc2 := 29) (v := 1) (by decide) dX12_areAsked_28 rfl ?_
          refine x_goto 33 dX12_areAsked_29 (by decide) ?_
          exact x_retZ rfl (Or.inr rfl) dX12_areAsked_33 ht
theorem e_X12_areAsked {G : GG} {d : Nat} {h : HP} {Q : Option Value → HP → Prop} {a0 : Nat} {x1 : Int32} {x2 : Int32} {x3 : Int32} (hd1 : 1 ≤ d) (ht : T_X12_areAsked G d h Q a0 x1 x2 x3) : Cal G d mX12_areAsked [.ref a0, .int x1, .int x2, .int x3] h Q := cal_of rfl (Nat.le_of_ble_eq_true rfl) (t_X12_areAsked hd1 ht)
def T_X12_like (G : GG) (d : Nat) (h : HP) (Q : Option Value → HP → Prop) (a0 : Nat) (x1 : Int32) (x2 : Int32) (x3 : Int32) : Prop :=
  Cal G (d - 1) mX12_isFamily [.int x1] h (fun r1 h2 => ∃ v4, r1 = some (.int v4) ∧ ((v4 = 0 → Q (some (.int (-100))) h2) ∧ (¬ v4 = 0 → Cal G (d - 1) mX12_isFamily [.int x2] h2 (fun r6 h7 => ∃ v9, r6 = some (.int v9) ∧ ((v9 = 0 → Q (some (.int (-100))) h7) ∧ (¬ v9 = 0 → ((x1 = x2 → Q (some (.int (-100))) h7) ∧ (¬ x1 = x2 → Cal G (d - 1) mX12_in [.long (x3.toInt64), .long (-9), .long 9] h7 (fun r12 h13 => ∃ v15, r12 = some (.int v15) ∧ ((¬ v15 = 0 → Kd G h13 a0 12 ∧ ∃ q18, hR h13 a0 29 = some q18 ∧ Kd G h13 q18 14 ∧ vp_in ((2256 + (12 * x1)) + x2) (hN h13 q18) ∧ vp_in ((2256 + (12 * x1)) + x2) (hN h13 q18) ∧ Q (some (.int (hI h13 q18 ((2256 + (12 * x1)) + x2).toNatClampNeg))) (sI h13 q18 ((2256 + (12 * x1)) + x2).toNatClampNeg x3)) ∧ (v15 = 0 → Q (some (.int (-100))) h13)))))))))))
set_option maxRecDepth 20000 in
theorem t_X12_like {G : GG} {d : Nat} {h : HP} {Q : Option Value → HP → Prop} {a0 : Nat} {x1 : Int32} {x2 : Int32} {x3 : Int32} (hd1 : 1 ≤ d) (ht : T_X12_like G d h Q a0 x1 x2 x3) : Ex G d mX12_like 0 [(0, .ref a0), (1, .int x1), (2, .int x2), (3, .int x3)] [] h Q := by
  unfold T_X12_like at ht
  refine x_iload_n (pc2 := 1) 1 (n := 1) (x := x1) rfl dX12_like_0 rfl ?_
  refine x_callS (pc2 := 4) (As := [.int x1]) (rest := []) ms_X12_isFamily ml_X12_395 rfl rfl (Nat.le_of_ble_eq_true rfl) hd1 dX12_like_1 rfl (ht.mono (fun r1 h2 p3 ht' => ?_))
  clear ht
  obtain ⟨v4, rfl, ht⟩ := ht'
  show Ex G d mX12_like 4 [(0, .ref a0), (1, .int x1), (2, .int x2), (3, .int x3)] [.int v4] h2 Q
  refine x_if_eq (pc2 := 7) 33 dX12_like_4 (by decide) rfl (fun c5 => ?_) (fun c5 => ?_)
  · replace ht := ht.1 c5
    refine x_bipush (pc2 := 35) (v := (-100)) (by decide) dX12_like_33 rfl ?_
    exact x_ret (ty := .int) rfl rfl dX12_like_35 ht
  · replace ht := ht.2 c5
    refine x_iload_n (pc2 := 8) 2 (n := 2) (x := x2) rfl dX12_like_7 rfl ?_
    refine x_callS (pc2 := 11) (As := [.int x2]) (rest := []) ms_X12_isFamily ml_X12_395 rfl rfl (Nat.le_of_ble_eq_true rfl) hd1 dX12_like_8 rfl (ht.mono (fun r6 h7 p8 ht' => ?_))
    clear ht
    obtain ⟨v9, rfl, ht⟩ := ht'
    show Ex G d mX12_like 11 [(0, .ref a0), (1, .int x1), (2, .int x2), (3, .int x3)] [.int v9] h7 Q
    refine x_if_eq (pc2 := 14) 33 dX12_like_11 (by decide) rfl (fun c10 => ?_) (fun c10 => ?_)
    · replace ht := ht.1 c10
      refine x_bipush (pc2 := 35) (v := (-100)) (by decide) dX12_like_33 rfl ?_
      exact x_ret (ty := .int) rfl rfl dX12_like_35 ht
    · replace ht := ht.2 c10
      refine x_iload_n (pc2 := 15) 1 (n := 1) (x := x1) rfl dX12_like_14 rfl ?_
      refine x_iload_n (pc2 := 16) 2 (n := 2) (x := x2) rfl dX12_like_15 rfl ?_
      refine x_icmp_eq (pc2 := 19) 33 dX12_like_16 (by decide) rfl (fun c11 => ?_) (fun c11 => ?_)
      · replace ht := ht.1 c11
        refine x_bipush (pc2 := 35) (v := (-100)) (by decide) dX12_like_33 rfl ?_
        exact x_ret (ty := .int) rfl rfl dX12_like_35 ht
      · replace ht := ht.2 c11
        refine x_iload_n (pc2 := 20) 3 (n := 3) (x := x3) rfl dX12_like_19 rfl ?_
        refine x_i2l (pc2 := 21) dX12_like_20 rfl ?_
        refine x_ldc2 (pc2 := 24) (v := (-9)) ct_X12_398 dX12_like_21 rfl ?_
        refine x_ldc2 (pc2 := 27) (v := 9) ct_X12_400 dX12_like_24 rfl ?_
        refine x_callS (pc2 := 30) (As := [.long (x3.toInt64), .long (-9), .long 9]) (rest := []) ms_X12_in ml_X12_112 rfl rfl (Nat.le_of_ble_eq_true rfl) hd1 dX12_like_27 rfl (ht.mono (fun r12 h13 p14 ht' => ?_))
        clear ht
        obtain ⟨v15, rfl, ht⟩ := ht'
        show Ex G d mX12_like 30 [(0, .ref a0), (1, .int x1), (2, .int x2), (3, .int x3)] [.int v15] h13 Q
        refine y_if_ne (pc2 := 33) 36 dX12_like_30 (by decide) rfl (fun c16 => ?_) (fun c16 => ?_)
        · replace ht := ht.1 c16
          refine x_sipush (pc2 := 39) (v := 2256) (by decide) dX12_like_36 rfl ?_
          refine x_bipush (pc2 := 41) (v := 12) (by decide) dX12_like_39 rfl ?_
          refine x_iload_n (pc2 := 42) 1 (n := 1) (x := x1) rfl dX12_like_41 rfl ?_
          refine x_imul (pc2 := 43) dX12_like_42 rfl ?_
          refine x_iadd (pc2 := 44) dX12_like_43 rfl ?_
          refine x_iload_n (pc2 := 45) 2 (n := 2) (x := x2) rfl dX12_like_44 rfl ?_
          refine x_iadd (pc2 := 46) dX12_like_45 rfl ?_
          refine x_istore (pc2 := 48) [1, 2, 3, 4, 0] (n := 4) (x := ((2256 + (12 * x1)) + x2)) (lv2 := [(0, .ref a0), (1, .int x1), (2, .int x2), (3, .int x3), (4, .int ((2256 + (12 * x1)) + x2))]) (by decide) rfl dX12_like_46 rfl ?_
          refine x_aload_n (pc2 := 49) 0 (n := 0) (x := a0) rfl dX12_like_48 rfl ?_
          obtain ⟨k17, ht⟩ := ht
          obtain ⟨q18, e19, ht⟩ := ht
          refine y_getR (pc2 := 52) (κ := 12) (k := 29) fl_X12_48 (by decide) (by decide) k17 rfl e19 dX12_like_49 rfl ?_
          refine x_iload (pc2 := 54) 4 (n := 4) (x := ((2256 + (12 * x1)) + x2)) rfl dX12_like_52 rfl ?_
          obtain ⟨k20, ht⟩ := ht
          obtain ⟨b21, ht⟩ := ht
          refine x_iald (pc2 := 55) k20 b21 dX12_like_54 rfl ?_
          refine x_istore (pc2 := 57) [1, 2, 3, 4, 5, 0] (n := 5) (x := (hI h13 q18 ((2256 + (12 * x1)) + x2).toNatClampNeg)) (lv2 := [(0, .ref a0), (1, .int x1), (2, .int x2), (3, .int x3), (4, .int ((2256 + (12 * x1)) + x2)), (5, .int (hI h13 q18 ((2256 + (12 * x1)) + x2).toNatClampNeg))]) (by decide) rfl dX12_like_55 rfl ?_
          refine x_aload_n (pc2 := 58) 0 (n := 0) (x := a0) rfl dX12_like_57 rfl ?_
          refine y_getR (pc2 := 61) (κ := 12) (k := 29) fl_X12_48 (by decide) (by decide) k17 rfl e19 dX12_like_58 rfl ?_
          refine x_iload (pc2 := 63) 4 (n := 4) (x := ((2256 + (12 * x1)) + x2)) rfl dX12_like_61 rfl ?_
          refine x_iload_n (pc2 := 64) 3 (n := 3) (x := x3) rfl dX12_like_63 rfl ?_
          obtain ⟨b22, ht⟩ := ht
          refine x_iast (pc2 := 65) k20 b22 dX12_like_64 rfl ?_
          refine x_iload (pc2 := 67) 5 (n := 5) (x := (hI h13 q18 ((2256 + (12 * x1)) + x2).toNatClampNeg)) rfl dX12_like_65 rfl ?_
          exact x_ret (ty := .int) rfl rfl dX12_like_67 ht
        · replace ht := ht.2 c16
          refine x_bipush (pc2 := 35) (v := (-100)) (by decide) dX12_like_33 rfl ?_
          exact x_ret (ty := .int) rfl rfl dX12_like_35 ht
theorem e_X12_like {G : GG} {d : Nat} {h : HP} {Q : Option Value → HP → Prop} {a0 : Nat} {x1 : Int32} {x2 : Int32} {x3 : Int32} (hd1 : 1 ≤ d) (ht : T_X12_like G d h Q a0 x1 x2 x3) : Cal G d mX12_like [.ref a0, .int x1, .int x2, .int x3] h Q := cal_of rfl (Nat.le_of_ble_eq_true rfl) (t_X12_like hd1 ht)
def T_X12_can (G : GG) (d : Nat) (h : HP) (Q : Option Value → HP → Prop) (a0 : Nat) (x1 : Int32) (x2 : Int32) (x3 : Int32) (x4 : Int32) (x5 : Int32) (x6 : Int32) (x7 : Int32) (x8 : Int32) : Prop :=
  Kd G h a0 12 ∧ Cal G (d - 1) mX12_isText [.ref a0, .int 0, .int x1] h (fun r1 h2 => ∃ v5, r1 = some (.int v5) ∧ ((v5 = 0 → Q (some (.int (-1))) h2) ∧ (¬ v5 = 0 → Cal G (d - 1) mX12_areAsked [.ref a0, .int x2, .int x7, .int x8] h2 (fun r7 h8 => ∃ v10, r7 = some (.int v10) ∧ ((¬ v10 = 0 → Cal G (d - 1) mX12_thinks [.ref a0, .int x3, .int x4, .int x5, .int x6, .int x7, .int x8] h8 (fun r12 h13 => r12 = none ∧ Cal G (d - 1) mX12_canCome [.ref a0, .int x1, .int x2] h13 (fun r15 h16 => ∃ v18, r15 = some (.int v18) ∧ ((v18 = 0 → Q (some (.int 0)) h16) ∧ (¬ v18 = 0 → Q (some (.int 1)) h16))))) ∧ (v10 = 0 → Q (some (.int (-1))) h8))))))
set_option maxRecDepth 20000 in
theorem t_X12_can {G : GG} {d : Nat} {h : HP} {Q : Option Value → HP → Prop} {a0 : Nat} {x1 : Int32} {x2 : Int32} {x3 : Int32} {x4 : Int32} {x5 : Int32} {x6 : Int32} {x7 : Int32} {x8 : Int32} (hd1 : 1 ≤ d) (ht : T_X12_can G d h Q a0 x1 x2 x3 x4 x5 x6 x7 x8) : Ex G d mX12_can 0 [(0, .ref a0), (1, .int x1), (2, .int x2), (3, .int x3), (4, .int x4), (5, .int x5), (6, .int x6), (7, .int x7), (8, .int x8)] [] h Q := by
  unfold T_X12_can at ht
  refine x_aload_n (pc2 := 1) 0 (n := 0) (x := a0) rfl dX12_can_0 rfl ?_
  refine x_iconst (pc2 := 2) (v := 0) (by decide) dX12_can_1 rfl ?_
  refine x_iload_n (pc2 := 3) 1 (n := 1) (x := x1) rfl dX12_can_2 rfl ?_
  obtain ⟨k4, ht⟩ := ht
  refine x_callV (pc2 := 6) (As := [.int 0, .int x1]) (rest := []) (b := a0) mv_X12_isText ml_X12_402 k4 rfl rfl (Nat.le_of_ble_eq_true rfl) hd1 dX12_can_3 rfl (ht.mono (fun r1 h2 p3 ht' => ?_))
  clear ht
  obtain ⟨v5, rfl, ht⟩ := ht'
  show Ex G d mX12_can 6 [(0, .ref a0), (1, .int x1), (2, .int x2), (3, .int x3), (4, .int x4), (5, .int x5), (6, .int x6), (7, .int x7), (8, .int x8)] [.int v5] h2 Q
  refine x_if_eq (pc2 := 9) 21 dX12_can_6 (by decide) rfl (fun c6 => ?_) (fun c6 => ?_)
  · replace ht := ht.1 c6
    refine x_iconst (pc2 := 22) (v := (-1)) (by decide) dX12_can_21 rfl ?_
    exact x_ret (ty := .int) rfl rfl dX12_can_22 ht
  · replace ht := ht.2 c6
    refine x_aload_n (pc2 := 10) 0 (n := 0) (x := a0) rfl dX12_can_9 rfl ?_
    refine x_iload_n (pc2 := 11) 2 (n := 2) (x := x2) rfl dX12_can_10 rfl ?_
    refine x_iload (pc2 := 13) 7 (n := 7) (x := x7) rfl dX12_can_11 rfl ?_
    refine x_iload (pc2 := 15) 8 (n := 8) (x := x8) rfl dX12_can_13 rfl ?_
    refine x_callV (pc2 := 18) (As := [.int x2, .int x7, .int x8]) (rest := []) (b := a0) mv_X12_areAsked ml_X12_405 (k4.up p3) rfl rfl (Nat.le_of_ble_eq_true rfl) hd1 dX12_can_15 rfl (ht.mono (fun r7 h8 p9 ht' => ?_))
    clear ht
    obtain ⟨v10, rfl, ht⟩ := ht'
    show Ex G d mX12_can 18 [(0, .ref a0), (1, .int x1), (2, .int x2), (3, .int x3), (4, .int x4), (5, .int x5), (6, .int x6), (7, .int x7), (8, .int x8)] [.int v10] h8 Q
    refine y_if_ne (pc2 := 21) 23 dX12_can_18 (by decide) rfl (fun c11 => ?_) (fun c11 => ?_)
    · replace ht := ht.1 c11
      refine x_aload_n (pc2 := 24) 0 (n := 0) (x := a0) rfl dX12_can_23 rfl ?_
      refine x_iload_n (pc2 := 25) 3 (n := 3) (x := x3) rfl dX12_can_24 rfl ?_
      refine x_iload (pc2 := 27) 4 (n := 4) (x := x4) rfl dX12_can_25 rfl ?_
      refine x_iload (pc2 := 29) 5 (n := 5) (x := x5) rfl dX12_can_27 rfl ?_
      refine x_iload (pc2 := 31) 6 (n := 6) (x := x6) rfl dX12_can_29 rfl ?_
      refine x_iload (pc2 := 33) 7 (n := 7) (x := x7) rfl dX12_can_31 rfl ?_
      refine x_iload (pc2 := 35) 8 (n := 8) (x := x8) rfl dX12_can_33 rfl ?_
      refine x_callV (pc2 := 38) (As := [.int x3, .int x4, .int x5, .int x6, .int x7, .int x8]) (rest := []) (b := a0) mv_X12_thinks ml_X12_408 ((k4.up p3).up p9) rfl rfl (Nat.le_of_ble_eq_true rfl) hd1 dX12_can_35 rfl (ht.mono (fun r12 h13 p14 ht' => ?_))
      clear ht
      obtain ⟨rfl, ht⟩ := ht'
      show Ex G d mX12_can 38 [(0, .ref a0), (1, .int x1), (2, .int x2), (3, .int x3), (4, .int x4), (5, .int x5), (6, .int x6), (7, .int x7), (8, .int x8)] [] h13 Q
      refine x_aload_n (pc2 := 39) 0 (n := 0) (x := a0) rfl dX12_can_38 rfl ?_
      refine x_iload_n (pc2 := 40) 1 (n := 1) (x := x1) rfl dX12_can_39 rfl ?_
      refine x_iload_n (pc2 := 41) 2 (n := 2) (x := x2) rfl dX12_can_40 rfl ?_
      refine x_callV (pc2 := 44) (As := [.int x1, .int x2]) (rest := []) (b := a0) mv_X12_canCome ml_X12_411 (((k4.up p3).up p9).up p14) rfl rfl (Nat.le_of_ble_eq_true rfl) hd1 dX12_can_41 rfl (ht.mono (fun r15 h16 p17 ht' => ?_))
      clear ht
      obtain ⟨v18, rfl, ht⟩ := ht'
      show Ex G d mX12_can 44 [(0, .ref a0), (1, .int x1), (2, .int x2), (3, .int x3), (4, .int x4), (5, .int x5), (6, .int x6), (7, .int x7), (8, .int x8)] [.int v18] h16 Q
      refine x_if_eq (pc2 := 47) 51 dX12_can_44 (by decide) rfl (fun c19 => ?_) (fun c19 => ?_)
      · replace ht := ht.1 c19
        refine x_iconst (pc2 := 52) (v := 0) (by decide) dX12_can_51 rfl ?_
        exact x_ret (ty := .int) rfl rfl dX12_can_52 ht
      · replace ht := ht.2 c19
        refine x_iconst (pc2 := 48) (v := 1) (by decide) dX12_can_47 rfl ?_
        refine x_goto 52 dX12_can_48 (by decide) ?_
        exact x_ret (ty := .int) rfl rfl dX12_can_52 ht
    · replace ht := ht.2 c11
      refine x_iconst (pc2 := 22) (v := (-1)) (by decide) dX12_can_21 rfl ?_
      exact x_ret (ty := .int) rfl rfl dX12_can_22 ht
theorem e_X12_can {G : GG} {d : Nat} {h : HP} {Q : Option Value → HP → Prop} {a0 : Nat} {x1 : Int32} {x2 : Int32} {x3 : Int32} {x4 : Int32} {x5 : Int32} {x6 : Int32} {x7 : Int32} {x8 : Int32} (hd1 : 1 ≤ d) (ht : T_X12_can G d h Q a0 x1 x2 x3 x4 x5 x6 x7 x8) : Cal G d mX12_can [.ref a0, .int x1, .int x2, .int x3, .int x4, .int x5, .int x6, .int x7, .int x8] h Q := cal_of rfl (Nat.le_of_ble_eq_true rfl) (t_X12_can hd1 ht)
def T_X12_build (G : GG) (d : Nat) (h : HP) (Q : Option Value → HP → Prop) (a0 : Nat) (x1 : Int32) (x2 : Int32) (x3 : Int32) (x4 : Int32) (x5 : Int32) (x6 : Int32) (x7 : Int32) (x8 : Int32) : Prop :=
  Kd G h a0 12 ∧ Cal G (d - 1) mX12_isText [.ref a0, .int 0, .int x1] h (fun r1 h2 => ∃ v5, r1 = some (.int v5) ∧ ((v5 = 0 → Q (some (.int (-1))) h2) ∧ (¬ v5 = 0 → Cal G (d - 1) mX12_areAsked [.ref a0, .int x2, .int x7, .int x8] h2 (fun r7 h8 => ∃ v10, r7 = some (.int v10) ∧ ((¬ v10 = 0 → Cal G (d - 1) mX12_thinks [.ref a0, .int x3, .int x4, .int x5, .int x6, .int x7, .int x8] h8 (fun r12 h13 => r12 = none ∧ Cal G (d - 1) mX12_freeNumber [.ref a0] h13 (fun r15 h16 => ∃ v18, r15 = some (.int v18) ∧ ((v18 = (-1) → Q (some (.int (-2))) h16) ∧ (¬ v18 = (-1) → Cal G (d - 1) mX12_canCome [.ref a0, .int x1, .int x2] h16 (fun r20 h21 => ∃ v23, r20 = some (.int v23) ∧ ((¬ v23 = 0 → Cal G (d - 1) mX12_builds [.ref a0, .int v18, .int x2] h21 (fun r25 h26 => r25 = none ∧ Q (some (.int v18)) h26)) ∧ (v23 = 0 → Q (some (.int (-2))) h21)))))))) ∧ (v10 = 0 → Q (some (.int (-1))) h8))))))
set_option maxRecDepth 20000 in
theorem t_X12_build {G : GG} {d : Nat} {h : HP} {Q : Option Value → HP → Prop} {a0 : Nat} {x1 : Int32} {x2 : Int32} {x3 : Int32} {x4 : Int32} {x5 : Int32} {x6 : Int32} {x7 : Int32} {x8 : Int32} (hd1 : 1 ≤ d) (ht : T_X12_build G d h Q a0 x1 x2 x3 x4 x5 x6 x7 x8) : Ex G d mX12_build 0 [(0, .ref a0), (1, .int x1), (2, .int x2), (3, .int x3), (4, .int x4), (5, .int x5), (6, .int x6), (7, .int x7), (8, .int x8)] [] h Q := by
  unfold T_X12_build at ht
  refine x_aload_n (pc2 := 1) 0 (n := 0) (x := a0) rfl dX12_build_0 rfl ?_
  refine x_iconst (pc2 := 2) (v := 0) (by decide) dX12_build_1 rfl ?_
  refine x_iload_n (pc2 := 3) 1 (n := 1) (x := x1) rfl dX12_build_2 rfl ?_
  obtain ⟨k4, ht⟩ := ht
  refine x_callV (pc2 := 6) (As := [.int 0, .int x1]) (rest := []) (b := a0) mv_X12_isText ml_X12_402 k4 rfl rfl (Nat.le_of_ble_eq_true rfl) hd1 dX12_build_3 rfl (ht.mono (fun r1 h2 p3 ht' => ?_))
  clear ht
  obtain ⟨v5, rfl, ht⟩ := ht'
  show Ex G d mX12_build 6 [(0, .ref a0), (1, .int x1), (2, .int x2), (3, .int x3), (4, .int x4), (5, .int x5), (6, .int x6), (7, .int x7), (8, .int x8)] [.int v5] h2 Q
  refine x_if_eq (pc2 := 9) 21 dX12_build_6 (by decide) rfl (fun c6 => ?_) (fun c6 => ?_)
  · replace ht := ht.1 c6
    refine x_iconst (pc2 := 22) (v := (-1)) (by decide) dX12_build_21 rfl ?_
    exact x_ret (ty := .int) rfl rfl dX12_build_22 ht
  · replace ht := ht.2 c6
    refine x_aload_n (pc2 := 10) 0 (n := 0) (x := a0) rfl dX12_build_9 rfl ?_
    refine x_iload_n (pc2 := 11) 2 (n := 2) (x := x2) rfl dX12_build_10 rfl ?_
    refine x_iload (pc2 := 13) 7 (n := 7) (x := x7) rfl dX12_build_11 rfl ?_
    refine x_iload (pc2 := 15) 8 (n := 8) (x := x8) rfl dX12_build_13 rfl ?_
    refine x_callV (pc2 := 18) (As := [.int x2, .int x7, .int x8]) (rest := []) (b := a0) mv_X12_areAsked ml_X12_405 (k4.up p3) rfl rfl (Nat.le_of_ble_eq_true rfl) hd1 dX12_build_15 rfl (ht.mono (fun r7 h8 p9 ht' => ?_))
    clear ht
    obtain ⟨v10, rfl, ht⟩ := ht'
    show Ex G d mX12_build 18 [(0, .ref a0), (1, .int x1), (2, .int x2), (3, .int x3), (4, .int x4), (5, .int x5), (6, .int x6), (7, .int x7), (8, .int x8)] [.int v10] h8 Q
    refine y_if_ne (pc2 := 21) 23 dX12_build_18 (by decide) rfl (fun c11 => ?_) (fun c11 => ?_)
    · replace ht := ht.1 c11
      refine x_aload_n (pc2 := 24) 0 (n := 0) (x := a0) rfl dX12_build_23 rfl ?_
      refine x_iload_n (pc2 := 25) 3 (n := 3) (x := x3) rfl dX12_build_24 rfl ?_
      refine x_iload (pc2 := 27) 4 (n := 4) (x := x4) rfl dX12_build_25 rfl ?_
      refine x_iload (pc2 := 29) 5 (n := 5) (x := x5) rfl dX12_build_27 rfl ?_
      refine x_iload (pc2 := 31) 6 (n := 6) (x := x6) rfl dX12_build_29 rfl ?_
      refine x_iload (pc2 := 33) 7 (n := 7) (x := x7) rfl dX12_build_31 rfl ?_
      refine x_iload (pc2 := 35) 8 (n := 8) (x := x8) rfl dX12_build_33 rfl ?_
      refine x_callV (pc2 := 38) (As := [.int x3, .int x4, .int x5, .int x6, .int x7, .int x8]) (rest := []) (b := a0) mv_X12_thinks ml_X12_408 ((k4.up p3).up p9) rfl rfl (Nat.le_of_ble_eq_true rfl) hd1 dX12_build_35 rfl (ht.mono (fun r12 h13 p14 ht' => ?_))
      clear ht
      obtain ⟨rfl, ht⟩ := ht'
      show Ex G d mX12_build 38 [(0, .ref a0), (1, .int x1), (2, .int x2), (3, .int x3), (4, .int x4), (5, .int x5), (6, .int x6), (7, .int x7), (8, .int x8)] [] h13 Q
      refine x_aload_n (pc2 := 39) 0 (n := 0) (x := a0) rfl dX12_build_38 rfl ?_
      refine x_callV (pc2 := 42) (As := []) (rest := []) (b := a0) mv_X12_freeNumber ml_X12_414 (((k4.up p3).up p9).up p14) rfl rfl (Nat.le_of_ble_eq_true rfl) hd1 dX12_build_39 rfl (ht.mono (fun r15 h16 p17 ht' => ?_))
      clear ht
      obtain ⟨v18, rfl, ht⟩ := ht'
      show Ex G d mX12_build 42 [(0, .ref a0), (1, .int x1), (2, .int x2), (3, .int x3), (4, .int x4), (5, .int x5), (6, .int x6), (7, .int x7), (8, .int x8)] [.int v18] h16 Q
      refine x_istore (pc2 := 44) [1, 2, 3, 4, 5, 6, 7, 8, 9, 0] (n := 9) (x := v18) (lv2 := [(0, .ref a0), (1, .int x1), (2, .int x2), (3, .int x3), (4, .int x4), (5, .int x5), (6, .int x6), (7, .int x7), (8, .int x8), (9, .int v18)]) (by decide) rfl dX12_build_42 rfl ?_
      refine x_iload (pc2 := 46) 9 (n := 9) (x := v18) rfl dX12_build_44 rfl ?_
      refine x_iconst (pc2 := 47) (v := (-1)) (by decide) dX12_build_46 rfl ?_
      refine x_icmp_eq (pc2 := 50) 59 dX12_build_47 (by decide) rfl (fun c19 => ?_) (fun c19 => ?_)
      · replace ht := ht.1 c19
        refine x_bipush (pc2 := 61) (v := (-2)) (by decide) dX12_build_59 rfl ?_
        exact x_ret (ty := .int) rfl rfl dX12_build_61 ht
      · replace ht := ht.2 c19
        refine x_aload_n (pc2 := 51) 0 (n := 0) (x := a0) rfl dX12_build_50 rfl ?_
        refine x_iload_n (pc2 := 52) 1 (n := 1) (x := x1) rfl dX12_build_51 rfl ?_
        refine x_iload_n (pc2 := 53) 2 (n := 2) (x := x2) rfl dX12_build_52 rfl ?_
        refine x_callV (pc2 := 56) (As := [.int x1, .int x2]) (rest := []) (b := a0) mv_X12_canCome ml_X12_411 ((((k4.up p3).up p9).up p14).up p17) rfl rfl (Nat.le_of_ble_eq_true rfl) hd1 dX12_build_53 rfl (ht.mono (fun r20 h21 p22 ht' => ?_))
        clear ht
        obtain ⟨v23, rfl, ht⟩ := ht'
        show Ex G d mX12_build 56 [(0, .ref a0), (1, .int x1), (2, .int x2), (3, .int x3), (4, .int x4), (5, .int x5), (6, .int x6), (7, .int x7), (8, .int x8), (9, .int v18)] [.int v23] h21 Q
        refine y_if_ne (pc2 := 59) 62 dX12_build_56 (by decide) rfl (fun c24 => ?_) (fun c24 => ?_)
        · replace ht := ht.1 c24
          refine x_aload_n (pc2 := 63) 0 (n := 0) (x := a0) rfl dX12_build_62 rfl ?_
          refine x_iload (pc2 := 65) 9 (n := 9) (x := v18) rfl dX12_build_63 rfl ?_
          refine x_iload_n (pc2 := 66) 2 (n := 2) (x := x2) rfl dX12_build_65 rfl ?_
          refine x_callV (pc2 := 69) (As := [.int v18, .int x2]) (rest := []) (b := a0) mv_X12_builds ml_X12_417 (((((k4.up p3).up p9).up p14).up p17).up p22) rfl rfl (Nat.le_of_ble_eq_true rfl) hd1 dX12_build_66 rfl (ht.mono (fun r25 h26 p27 ht' => ?_))
          clear ht
          obtain ⟨rfl, ht⟩ := ht'
          show Ex G d mX12_build 69 [(0, .ref a0), (1, .int x1), (2, .int x2), (3, .int x3), (4, .int x4), (5, .int x5), (6, .int x6), (7, .int x7), (8, .int x8), (9, .int v18)] [] h26 Q
          refine x_iload (pc2 := 71) 9 (n := 9) (x := v18) rfl dX12_build_69 rfl ?_
          exact x_ret (ty := .int) rfl rfl dX12_build_71 ht
        · replace ht := ht.2 c24
          refine x_bipush (pc2 := 61) (v := (-2)) (by decide) dX12_build_59 rfl ?_
          exact x_ret (ty := .int) rfl rfl dX12_build_61 ht
    · replace ht := ht.2 c11
      refine x_iconst (pc2 := 22) (v := (-1)) (by decide) dX12_build_21 rfl ?_
      exact x_ret (ty := .int) rfl rfl dX12_build_22 ht
theorem e_X12_build {G : GG} {d : Nat} {h : HP} {Q : Option Value → HP → Prop} {a0 : Nat} {x1 : Int32} {x2 : Int32} {x3 : Int32} {x4 : Int32} {x5 : Int32} {x6 : Int32} {x7 : Int32} {x8 : Int32} (hd1 : 1 ≤ d) (ht : T_X12_build G d h Q a0 x1 x2 x3 x4 x5 x6 x7 x8) : Cal G d mX12_build [.ref a0, .int x1, .int x2, .int x3, .int x4, .int x5, .int x6, .int x7, .int x8] h Q := cal_of rfl (Nat.le_of_ble_eq_true rfl) (t_X12_build hd1 ht)
def T_X12_wish (G : GG) (d : Nat) (h : HP) (Q : Option Value → HP → Prop) (a0 : Nat) (x1 : Int32) (x2 : Int32) (x3 : Int32) (x4 : Int32) (x5 : Int32) (x6 : Int32) (x7 : Int32) (x8 : Int32) : Prop :=
  Kd G h a0 12 ∧ Cal G (d - 1) mX12_isText [.ref a0, .int 1, .int x1] h (fun r1 h2 => ∃ v5, r1 = some (.int v5) ∧ ((v5 = 0 → Q (some (.long 0)) h2) ∧ (¬ v5 = 0 → Cal G (d - 1) mX12_areAsked [.ref a0, .int x2, .int x7, .int x8] h2 (fun r7 h8 => ∃ v10, r7 = some (.int v10) ∧ ((¬ v10 = 0 → Cal G (d - 1) mX12_thinks [.ref a0, .int x3, .int x4, .int x5, .int x6, .int x7, .int x8] h8 (fun r12 h13 => r12 = none ∧ Cal G (d - 1) mX12_isFit [.ref a0] h13 (fun r15 h16 => ∃ v18, r15 = some (.int v18) ∧ ((v18 = 0 → Q (some (.long 0)) h16) ∧ (¬ v18 = 0 → Cal G (d - 1) mX12_wishOf [.ref a0, .int x1, .int x2] h16 (fun r20 h21 => ∃ v23, r20 = some (.long v23) ∧ Q (some (.long v23)) h21)))))) ∧ (v10 = 0 → Q (some (.long 0)) h8))))))
set_option maxRecDepth 20000 in
theorem t_X12_wish {G : GG} {d : Nat} {h : HP} {Q : Option Value → HP → Prop} {a0 : Nat} {x1 : Int32} {x2 : Int32} {x3 : Int32} {x4 : Int32} {x5 : Int32} {x6 : Int32} {x7 : Int32} {x8 : Int32} (hd1 : 1 ≤ d) (ht : T_X12_wish G d h Q a0 x1 x2 x3 x4 x5 x6 x7 x8) : Ex G d mX12_wish 0 [(0, .ref a0), (1, .int x1), (2, .int x2), (3, .int x3), (4, .int x4), (5, .int x5), (6, .int x6), (7, .int x7), (8, .int x8)] [] h Q := by
  unfold T_X12_wish at ht
  refine x_aload_n (pc2 := 1) 0 (n := 0) (x := a0) rfl dX12_wish_0 rfl ?_
  refine x_iconst (pc2 := 2) (v := 1) (by decide) dX12_wish_1 rfl ?_
  refine x_iload_n (pc2 := 3) 1 (n := 1) (x := x1) rfl dX12_wish_2 rfl ?_
  obtain ⟨k4, ht⟩ := ht
  refine x_callV (pc2 := 6) (As := [.int 1, .int x1]) (rest := []) (b := a0) mv_X12_isText ml_X12_402 k4 rfl rfl (Nat.le_of_ble_eq_true rfl) hd1 dX12_wish_3 rfl (ht.mono (fun r1 h2 p3 ht' => ?_))
  clear ht
  obtain ⟨v5, rfl, ht⟩ := ht'
  show Ex G d mX12_wish 6 [(0, .ref a0), (1, .int x1), (2, .int x2), (3, .int x3), (4, .int x4), (5, .int x5), (6, .int x6), (7, .int x7), (8, .int x8)] [.int v5] h2 Q
  refine x_if_eq (pc2 := 9) 21 dX12_wish_6 (by decide) rfl (fun c6 => ?_) (fun c6 => ?_)
  · replace ht := ht.1 c6
    refine x_lconst (pc2 := 22) (v := 0) (by decide) dX12_wish_21 rfl ?_
    exact x_retL rfl dX12_wish_22 ht
  · replace ht := ht.2 c6
    refine x_aload_n (pc2 := 10) 0 (n := 0) (x := a0) rfl dX12_wish_9 rfl ?_
    refine x_iload_n (pc2 := 11) 2 (n := 2) (x := x2) rfl dX12_wish_10 rfl ?_
    refine x_iload (pc2 := 13) 7 (n := 7) (x := x7) rfl dX12_wish_11 rfl ?_
    refine x_iload (pc2 := 15) 8 (n := 8) (x := x8) rfl dX12_wish_13 rfl ?_
    refine x_callV (pc2 := 18) (As := [.int x2, .int x7, .int x8]) (rest := []) (b := a0) mv_X12_areAsked ml_X12_405 (k4.up p3) rfl rfl (Nat.le_of_ble_eq_true rfl) hd1 dX12_wish_15 rfl (ht.mono (fun r7 h8 p9 ht' => ?_))
    clear ht
    obtain ⟨v10, rfl, ht⟩ := ht'
    show Ex G d mX12_wish 18 [(0, .ref a0), (1, .int x1), (2, .int x2), (3, .int x3), (4, .int x4), (5, .int x5), (6, .int x6), (7, .int x7), (8, .int x8)] [.int v10] h8 Q
    refine y_if_ne (pc2 := 21) 23 dX12_wish_18 (by decide) rfl (fun c11 => ?_) (fun c11 => ?_)
    · replace ht := ht.1 c11
      refine x_aload_n (pc2 := 24) 0 (n := 0) (x := a0) rfl dX12_wish_23 rfl ?_
      refine x_iload_n (pc2 := 25) 3 (n := 3) (x := x3) rfl dX12_wish_24 rfl ?_
      refine x_iload (pc2 := 27) 4 (n := 4) (x := x4) rfl dX12_wish_25 rfl ?_
      refine x_iload (pc2 := 29) 5 (n := 5) (x := x5) rfl dX12_wish_27 rfl ?_
      refine x_iload (pc2 := 31) 6 (n := 6) (x := x6) rfl dX12_wish_29 rfl ?_
      refine x_iload (pc2 := 33) 7 (n := 7) (x := x7) rfl dX12_wish_31 rfl ?_
      refine x_iload (pc2 := 35) 8 (n := 8) (x := x8) rfl dX12_wish_33 rfl ?_
      refine x_callV (pc2 := 38) (As := [.int x3, .int x4, .int x5, .int x6, .int x7, .int x8]) (rest := []) (b := a0) mv_X12_thinks ml_X12_408 ((k4.up p3).up p9) rfl rfl (Nat.le_of_ble_eq_true rfl) hd1 dX12_wish_35 rfl (ht.mono (fun r12 h13 p14 ht' => ?_))
      clear ht
      obtain ⟨rfl, ht⟩ := ht'
      show Ex G d mX12_wish 38 [(0, .ref a0), (1, .int x1), (2, .int x2), (3, .int x3), (4, .int x4), (5, .int x5), (6, .int x6), (7, .int x7), (8, .int x8)] [] h13 Q
      refine x_aload_n (pc2 := 39) 0 (n := 0) (x := a0) rfl dX12_wish_38 rfl ?_
      refine x_callV (pc2 := 42) (As := []) (rest := []) (b := a0) mv_X12_isFit ml_X12_376 (((k4.up p3).up p9).up p14) rfl rfl (Nat.le_of_ble_eq_true rfl) hd1 dX12_wish_39 rfl (ht.mono (fun r15 h16 p17 ht' => ?_))
      clear ht
      obtain ⟨v18, rfl, ht⟩ := ht'
      show Ex G d mX12_wish 42 [(0, .ref a0), (1, .int x1), (2, .int x2), (3, .int x3), (4, .int x4), (5, .int x5), (6, .int x6), (7, .int x7), (8, .int x8)] [.int v18] h16 Q
      refine x_if_eq (pc2 := 45) 54 dX12_wish_42 (by decide) rfl (fun c19 => ?_) (fun c19 => ?_)
      · replace ht := ht.1 c19
        refine x_lconst (pc2 := 55) (v := 0) (by decide) dX12_wish_54 rfl ?_
        exact x_retL rfl dX12_wish_55 ht
      · replace ht := ht.2 c19
        refine x_aload_n (pc2 := 46) 0 (n := 0) (x := a0) rfl dX12_wish_45 rfl ?_
        refine x_iload_n (pc2 := 47) 1 (n := 1) (x := x1) rfl dX12_wish_46 rfl ?_
        refine x_iload_n (pc2 := 48) 2 (n := 2) (x := x2) rfl dX12_wish_47 rfl ?_
        refine x_callV (pc2 := 51) (As := [.int x1, .int x2]) (rest := []) (b := a0) mv_X12_wishOf ml_X12_420 ((((k4.up p3).up p9).up p14).up p17) rfl rfl (Nat.le_of_ble_eq_true rfl) hd1 dX12_wish_48 rfl (ht.mono (fun r20 h21 p22 ht' => ?_))
        clear ht
        obtain ⟨v23, rfl, ht⟩ := ht'
        show Ex G d mX12_wish 51 [(0, .ref a0), (1, .int x1), (2, .int x2), (3, .int x3), (4, .int x4), (5, .int x5), (6, .int x6), (7, .int x7), (8, .int x8)] [.long v23] h21 Q
        refine x_goto 55 dX12_wish_51 (by decide) ?_
        exact x_retL rfl dX12_wish_55 ht
    · replace ht := ht.2 c11
      refine x_lconst (pc2 := 22) (v := 0) (by decide) dX12_wish_21 rfl ?_
      exact x_retL rfl dX12_wish_22 ht
theorem e_X12_wish {G : GG} {d : Nat} {h : HP} {Q : Option Value → HP → Prop} {a0 : Nat} {x1 : Int32} {x2 : Int32} {x3 : Int32} {x4 : Int32} {x5 : Int32} {x6 : Int32} {x7 : Int32} {x8 : Int32} (hd1 : 1 ≤ d) (ht : T_X12_wish G d h Q a0 x1 x2 x3 x4 x5 x6 x7 x8) : Cal G d mX12_wish [.ref a0, .int x1, .int x2, .int x3, .int x4, .int x5, .int x6, .int x7, .int x8] h Q := cal_of rfl (Nat.le_of_ble_eq_true rfl) (t_X12_wish hd1 ht)
def T_X12_pull (G : GG) (d : Nat) (h : HP) (Q : Option Value → HP → Prop) (a0 : Nat) (x1 : Int32) : Prop :=
  Kd G h a0 12 ∧ Cal G (d - 1) mX12_isWall [.ref a0, .int x1] h (fun r1 h2 => ∃ v5, r1 = some (.int v5) ∧ ((¬ v5 = 0 → Cal G (d - 1) mX12_pulls [.ref a0, .int x1] h2 (fun r7 h8 => r7 = none ∧ Q (some (.int 1)) h8)) ∧ (v5 = 0 → Q (some (.int 0)) h2)))
set_option maxRecDepth 20000 in
theorem t_X12_pull {G : GG} {d : Nat} {h : HP} {Q : Option Value → HP → Prop} {a0 : Nat} {x1 : Int32} (hd1 : 1 ≤ d) (ht : T_X12_pull G d h Q a0 x1) : Ex G d mX12_pull 0 [(0, .ref a0), (1, .int x1)] [] h Q := by
  unfold T_X12_pull at ht
  refine x_aload_n (pc2 := 1) 0 (n := 0) (x := a0) rfl dX12_pull_0 rfl ?_
  refine x_iload_n (pc2 := 2) 1 (n := 1) (x := x1) rfl dX12_pull_1 rfl ?_
  obtain ⟨k4, ht⟩ := ht
  refine x_callV (pc2 := 5) (As := [.int x1]) (rest := []) (b := a0) mv_X12_isWall ml_X12_423 k4 rfl rfl (Nat.le_of_ble_eq_true rfl) hd1 dX12_pull_2 rfl (ht.mono (fun r1 h2 p3 ht' => ?_))
  clear ht
  obtain ⟨v5, rfl, ht⟩ := ht'
  show Ex G d mX12_pull 5 [(0, .ref a0), (1, .int x1)] [.int v5] h2 Q
  refine y_if_ne (pc2 := 8) 10 dX12_pull_5 (by decide) rfl (fun c6 => ?_) (fun c6 => ?_)
  · replace ht := ht.1 c6
    refine x_aload_n (pc2 := 11) 0 (n := 0) (x := a0) rfl dX12_pull_10 rfl ?_
    refine x_iload_n (pc2 := 12) 1 (n := 1) (x := x1) rfl dX12_pull_11 rfl ?_
    refine x_callV (pc2 := 15) (As := [.int x1]) (rest := []) (b := a0) mv_X12_pulls ml_X12_426 (k4.up p3) rfl rfl (Nat.le_of_ble_eq_true rfl) hd1 dX12_pull_12 rfl (ht.mono (fun r7 h8 p9 ht' => ?_))
    clear ht
    obtain ⟨rfl, ht⟩ := ht'
    show Ex G d mX12_pull 15 [(0, .ref a0), (1, .int x1)] [] h8 Q
    refine x_iconst (pc2 := 16) (v := 1) (by decide) dX12_pull_15 rfl ?_
    exact x_retZ rfl (Or.inr rfl) dX12_pull_16 ht
  · replace ht := ht.2 c6
    refine x_iconst (pc2 := 9) (v := 0) (by decide) dX12_pull_8 rfl ?_
    exact x_retZ rfl (Or.inl rfl) dX12_pull_9 ht
theorem e_X12_pull {G : GG} {d : Nat} {h : HP} {Q : Option Value → HP → Prop} {a0 : Nat} {x1 : Int32} (hd1 : 1 ≤ d) (ht : T_X12_pull G d h Q a0 x1) : Cal G d mX12_pull [.ref a0, .int x1] h Q := cal_of rfl (Nat.le_of_ble_eq_true rfl) (t_X12_pull hd1 ht)
def T_X12_isAcross (G : GG) (d : Nat) (h : HP) (Q : Option Value → HP → Prop) (x0 : Int32) : Prop :=
  ((¬ (irm x0 2) = 0 → Q (some (.int 0)) h) ∧ ((irm x0 2) = 0 → Q (some (.int 1)) h))
set_option maxRecDepth 20000 in
theorem t_X12_isAcross {G : GG} {d : Nat} {h : HP} {Q : Option Value → HP → Prop} {x0 : Int32} (ht : T_X12_isAcross G d h Q x0) : Ex G d mX12_isAcross 0 [(0, .int x0)] [] h Q := by
  unfold T_X12_isAcross at ht
  refine x_iload_n (pc2 := 1) 0 (n := 0) (x := x0) rfl dX12_isAcross_0 rfl ?_
  refine x_iconst (pc2 := 2) (v := 2) (by decide) dX12_isAcross_1 rfl ?_
  refine y_irem (pc2 := 3) (by decide) dX12_isAcross_2 rfl ?_
  refine y_if_ne (pc2 := 6) 10 dX12_isAcross_3 (by decide) rfl (fun c1 => ?_) (fun c1 => ?_)
  · replace ht := ht.1 c1
    refine x_iconst (pc2 := 11) (v := 0) (by decide) dX12_isAcross_10 rfl ?_
    exact x_retZ rfl (Or.inl rfl) dX12_isAcross_11 ht
  · replace ht := ht.2 c1
    refine x_iconst (pc2 := 7) (v := 1) (by decide) dX12_isAcross_6 rfl ?_
    refine x_goto 11 dX12_isAcross_7 (by decide) ?_
    exact x_retZ rfl (Or.inr rfl) dX12_isAcross_11 ht
theorem e_X12_isAcross {G : GG} {d : Nat} {h : HP} {Q : Option Value → HP → Prop} {x0 : Int32} (ht : T_X12_isAcross G d h Q x0) : Cal G d mX12_isAcross [.int x0] h Q := cal_of rfl (Nat.le_of_ble_eq_true rfl) (t_X12_isAcross ht)
def T_X12_sideOf (G : GG) (d : Nat) (h : HP) (Q : Option Value → HP → Prop) (a0 : Nat) (x1 : Int32) (x2 : Int32) : Prop :=
  Cal G (d - 1) mX12_isAcross [.int x2] h (fun r1 h2 => ∃ v4, r1 = some (.int v4) ∧ ((v4 = 0 → Kd G h2 a0 12 ∧ Cal G (d - 1) mX12_of [.ref a0, .int x1, .int 4] h2 (fun r6 h7 => ∃ v10, r6 = some (.int v10) ∧ Cal G (d - 1) mX12_of [.ref a0, .int x1, .int 2] h7 (fun r11 h12 => ∃ v14, r11 = some (.int v14) ∧ Q (some (.int (v10 - v14))) h12))) ∧ (¬ v4 = 0 → Kd G h2 a0 12 ∧ Cal G (d - 1) mX12_of [.ref a0, .int x1, .int 3] h2 (fun r15 h16 => ∃ v19, r15 = some (.int v19) ∧ Cal G (d - 1) mX12_of [.ref a0, .int x1, .int 1] h16 (fun r20 h21 => ∃ v23, r20 = some (.int v23) ∧ Q (some (.int (v19 - v23))) h21)))))
set_option maxRecDepth 20000 in
theorem t_X12_sideOf {G : GG} {d : Nat} {h : HP} {Q : Option Value → HP → Prop} {a0 : Nat} {x1 : Int32} {x2 : Int32} (hd1 : 1 ≤ d) (ht : T_X12_sideOf G d h Q a0 x1 x2) : Ex G d mX12_sideOf 0 [(0, .ref a0), (1, .int x1), (2, .int x2)] [] h Q := by
  unfold T_X12_sideOf at ht
  refine x_iload_n (pc2 := 1) 2 (n := 2) (x := x2) rfl dX12_sideOf_0 rfl ?_
  refine x_callS (pc2 := 4) (As := [.int x2]) (rest := []) ms_X12_isAcross ml_X12_429 rfl rfl (Nat.le_of_ble_eq_true rfl) hd1 dX12_sideOf_1 rfl (ht.mono (fun r1 h2 p3 ht' => ?_))
  clear ht
  obtain ⟨v4, rfl, ht⟩ := ht'
  show Ex G d mX12_sideOf 4 [(0, .ref a0), (1, .int x1), (2, .int x2)] [.int v4] h2 Q
  refine x_if_eq (pc2 := 7) 23 dX12_sideOf_4 (by decide) rfl (fun c5 => ?_) (fun c5 => ?_)
  · replace ht := ht.1 c5
    refine x_aload_n (pc2 := 24) 0 (n := 0) (x := a0) rfl dX12_sideOf_23 rfl ?_
    refine x_iload_n (pc2 := 25) 1 (n := 1) (x := x1) rfl dX12_sideOf_24 rfl ?_
    refine x_iconst (pc2 := 26) (v := 4) (by decide) dX12_sideOf_25 rfl ?_
    obtain ⟨k9, ht⟩ := ht
    refine x_callV (pc2 := 29) (As := [.int x1, .int 4]) (rest := []) (b := a0) mv_X12_of ml_X12_310 k9 rfl rfl (Nat.le_of_ble_eq_true rfl) hd1 dX12_sideOf_26 rfl (ht.mono (fun r6 h7 p8 ht' => ?_))
    clear ht
    obtain ⟨v10, rfl, ht⟩ := ht'
    show Ex G d mX12_sideOf 29 [(0, .ref a0), (1, .int x1), (2, .int x2)] [.int v10] h7 Q
    refine x_aload_n (pc2 := 30) 0 (n := 0) (x := a0) rfl dX12_sideOf_29 rfl ?_
    refine x_iload_n (pc2 := 31) 1 (n := 1) (x := x1) rfl dX12_sideOf_30 rfl ?_
    refine x_iconst (pc2 := 32) (v := 2) (by decide) dX12_sideOf_31 rfl ?_
    refine x_callV (pc2 := 35) (As := [.int x1, .int 2]) (rest := [.int v10]) (b := a0) mv_X12_of ml_X12_310 (k9.up p8) rfl rfl (Nat.le_of_ble_eq_true rfl) hd1 dX12_sideOf_32 rfl (ht.mono (fun r11 h12 p13 ht' => ?_))
    clear ht
    obtain ⟨v14, rfl, ht⟩ := ht'
    show Ex G d mX12_sideOf 35 [(0, .ref a0), (1, .int x1), (2, .int x2)] [.int v14, .int v10] h12 Q
    refine x_isub (pc2 := 36) dX12_sideOf_35 rfl ?_
    exact x_ret (ty := .int) rfl rfl dX12_sideOf_36 ht
  · replace ht := ht.2 c5
    refine x_aload_n (pc2 := 8) 0 (n := 0) (x := a0) rfl dX12_sideOf_7 rfl ?_
    refine x_iload_n (pc2 := 9) 1 (n := 1) (x := x1) rfl dX12_sideOf_8 rfl ?_
    refine x_iconst (pc2 := 10) (v := 3) (by decide) dX12_sideOf_9 rfl ?_
    obtain ⟨k18, ht⟩ := ht
    refine x_callV (pc2 := 13) (As := [.int x1, .int 3]) (rest := []) (b := a0) mv_X12_of ml_X12_310 k18 rfl rfl (Nat.le_of_ble_eq_true rfl) hd1 dX12_sideOf_10 rfl (ht.mono (fun r15 h16 p17 ht' => ?_))
    clear ht
    obtain ⟨v19, rfl, ht⟩ := ht'
    show Ex G d mX12_sideOf 13 [(0, .ref a0), (1, .int x1), (2, .int x2)] [.int v19] h16 Q
    refine x_aload_n (pc2 := 14) 0 (n := 0) (x := a0) rfl dX12_sideOf_13 rfl ?_
    refine x_iload_n (pc2 := 15) 1 (n := 1) (x := x1) rfl dX12_sideOf_14 rfl ?_
    refine x_iconst (pc2 := 16) (v := 1) (by decide) dX12_sideOf_15 rfl ?_
    refine x_callV (pc2 := 19) (As := [.int x1, .int 1]) (rest := [.int v19]) (b := a0) mv_X12_of ml_X12_310 (k18.up p17) rfl rfl (Nat.le_of_ble_eq_true rfl) hd1 dX12_sideOf_16 rfl (ht.mono (fun r20 h21 p22 ht' => ?_))
    clear ht
    obtain ⟨v23, rfl, ht⟩ := ht'
    show Ex G d mX12_sideOf 19 [(0, .ref a0), (1, .int x1), (2, .int x2)] [.int v23, .int v19] h21 Q
    refine x_isub (pc2 := 20) dX12_sideOf_19 rfl ?_
    refine x_goto 36 dX12_sideOf_20 (by decide) ?_
    exact x_ret (ty := .int) rfl rfl dX12_sideOf_36 ht
theorem e_X12_sideOf {G : GG} {d : Nat} {h : HP} {Q : Option Value → HP → Prop} {a0 : Nat} {x1 : Int32} {x2 : Int32} (hd1 : 1 ≤ d) (ht : T_X12_sideOf G d h Q a0 x1 x2) : Cal G d mX12_sideOf [.ref a0, .int x1, .int x2] h Q := cal_of rfl (Nat.le_of_ble_eq_true rfl) (t_X12_sideOf hd1 ht)
def T_X12_gates (G : GG) (d : Nat) (h : HP) (Q : Option Value → HP → Prop) (a0 : Nat) (x1 : Int32) (x2 : Int32) (x3 : Int32) (x4 : Int32) : Prop :=
  Cal G (d - 1) mX12_placeOf [.int x1] h (fun r1 h2 => ∃ v4, r1 = some (.int v4) ∧ Kd G h2 a0 12 ∧ ∃ q6, hR h2 a0 29 = some q6 ∧ Kd G h2 q6 14 ∧ vp_in (v4 + 7) (hN h2 q6) ∧ vp_in (v4 + 8) (hN (sI h2 q6 (v4 + 7).toNatClampNeg x2) q6) ∧ vp_in (v4 + 9) (hN (sI (sI h2 q6 (v4 + 7).toNatClampNeg x2) q6 (v4 + 8).toNatClampNeg x3) q6) ∧ ∀ h12, h12 = (sI (sI (sI h2 q6 (v4 + 7).toNatClampNeg x2) q6 (v4 + 8).toNatClampNeg x3) q6 (v4 + 9).toNatClampNeg x4) → Q none h12)
set_option maxRecDepth 20000 in
theorem t_X12_gates {G : GG} {d : Nat} {h : HP} {Q : Option Value → HP → Prop} {a0 : Nat} {x1 : Int32} {x2 : Int32} {x3 : Int32} {x4 : Int32} (hd1 : 1 ≤ d) (ht : T_X12_gates G d h Q a0 x1 x2 x3 x4) : Ex G d mX12_gates 0 [(0, .ref a0), (1, .int x1), (2, .int x2), (3, .int x3), (4, .int x4)] [] h Q := by
  unfold T_X12_gates at ht
  refine x_iload_n (pc2 := 1) 1 (n := 1) (x := x1) rfl dX12_gates_0 rfl ?_
  refine x_callS (pc2 := 4) (As := [.int x1]) (rest := []) ms_X12_placeOf ml_X12_284 rfl rfl (Nat.le_of_ble_eq_true rfl) hd1 dX12_gates_1 rfl (ht.mono (fun r1 h2 p3 ht' => ?_))
  clear ht
  obtain ⟨v4, rfl, ht⟩ := ht'
  show Ex G d mX12_gates 4 [(0, .ref a0), (1, .int x1), (2, .int x2), (3, .int x3), (4, .int x4)] [.int v4] h2 Q
  refine x_istore (pc2 := 6) [1, 2, 3, 4, 5, 0] (n := 5) (x := v4) (lv2 := [(0, .ref a0), (1, .int x1), (2, .int x2), (3, .int x3), (4, .int x4), (5, .int v4)]) (by decide) rfl dX12_gates_4 rfl ?_
  refine x_aload_n (pc2 := 7) 0 (n := 0) (x := a0) rfl dX12_gates_6 rfl ?_
  obtain ⟨k5, ht⟩ := ht
  obtain ⟨q6, e7, ht⟩ := ht
  refine y_getR (pc2 := 10) (κ := 12) (k := 29) fl_X12_48 (by decide) (by decide) k5 rfl e7 dX12_gates_7 rfl ?_
  refine x_iload (pc2 := 12) 5 (n := 5) (x := v4) rfl dX12_gates_10 rfl ?_
  refine x_bipush (pc2 := 14) (v := 7) (by decide) dX12_gates_12 rfl ?_
  refine x_iadd (pc2 := 15) dX12_gates_14 rfl ?_
  refine x_iload_n (pc2 := 16) 2 (n := 2) (x := x2) rfl dX12_gates_15 rfl ?_
  obtain ⟨k8, ht⟩ := ht
  obtain ⟨b9, ht⟩ := ht
  refine x_iast (pc2 := 17) k8 b9 dX12_gates_16 rfl ?_
  refine x_aload_n (pc2 := 18) 0 (n := 0) (x := a0) rfl dX12_gates_17 rfl ?_
  refine y_getR (pc2 := 21) (κ := 12) (k := 29) fl_X12_48 (by decide) (by decide) k5.sI rfl ((hR_sI _ _ _ _ _ _).trans e7) dX12_gates_18 rfl ?_
  refine x_iload (pc2 := 23) 5 (n := 5) (x := v4) rfl dX12_gates_21 rfl ?_
  refine x_bipush (pc2 := 25) (v := 8) (by decide) dX12_gates_23 rfl ?_
  refine x_iadd (pc2 := 26) dX12_gates_25 rfl ?_
  refine x_iload_n (pc2 := 27) 3 (n := 3) (x := x3) rfl dX12_gates_26 rfl ?_
  obtain ⟨b10, ht⟩ := ht
  refine x_iast (pc2 := 28) k8.sI b10 dX12_gates_27 rfl ?_
  refine x_aload_n (pc2 := 29) 0 (n := 0) (x := a0) rfl dX12_gates_28 rfl ?_
  refine y_getR (pc2 := 32) (κ := 12) (k := 29) fl_X12_48 (by decide) (by decide) k5.sI.sI rfl ((hR_sI _ _ _ _ _ _).trans ((hR_sI _ _ _ _ _ _).trans e7)) dX12_gates_29 rfl ?_
  refine x_iload (pc2 := 34) 5 (n := 5) (x := v4) rfl dX12_gates_32 rfl ?_
  refine x_bipush (pc2 := 36) (v := 9) (by decide) dX12_gates_34 rfl ?_
  refine x_iadd (pc2 := 37) dX12_gates_36 rfl ?_
  refine x_iload (pc2 := 39) 4 (n := 4) (x := x4) rfl dX12_gates_37 rfl ?_
  obtain ⟨b11, ht⟩ := ht
  refine x_iast (pc2 := 40) k8.sI.sI b11 dX12_gates_39 rfl ?_
  refine nm_I (fun h12 e13 p14 => ?_)
  replace ht := ht h12 e13
  exact x_retV rfl dX12_gates_40 ht
theorem e_X12_gates {G : GG} {d : Nat} {h : HP} {Q : Option Value → HP → Prop} {a0 : Nat} {x1 : Int32} {x2 : Int32} {x3 : Int32} {x4 : Int32} (hd1 : 1 ≤ d) (ht : T_X12_gates G d h Q a0 x1 x2 x3 x4) : Cal G d mX12_gates [.ref a0, .int x1, .int x2, .int x3, .int x4] h Q := cal_of rfl (Nat.le_of_ble_eq_true rfl) (t_X12_gates hd1 ht)
def T_X12_gate (G : GG) (d : Nat) (h : HP) (Q : Option Value → HP → Prop) (a0 : Nat) (x1 : Int32) (x2 : Int32) (x3 : Int32) (x4 : Int32) : Prop :=
  Kd G h a0 12 ∧ Cal G (d - 1) mX12_isWall [.ref a0, .int x1] h (fun r1 h2 => ∃ v5, r1 = some (.int v5) ∧ ((v5 = 0 → Q (some (.int 0)) h2) ∧ (¬ v5 = 0 → Cal G (d - 1) mX12_in [.long (x2.toInt64), .long 0, .long 3] h2 (fun r7 h8 => ∃ v10, r7 = some (.int v10) ∧ ((v10 = 0 → Q (some (.int 0)) h8) ∧ (¬ v10 = 0 → Cal G (d - 1) mX12_sideOf [.ref a0, .int x1, .int x2] h8 (fun r12 h13 => ∃ v15, r12 = some (.int v15) ∧ Cal G (d - 1) mX12_in [.long (x3.toInt64), .long 0, .long ((v15 - 1).toInt64)] h13 (fun r16 h17 => ∃ v19, r16 = some (.int v19) ∧ ((v19 = 0 → Q (some (.int 0)) h17) ∧ (¬ v19 = 0 → Cal G (d - 1) mX12_in [.long (x4.toInt64), .long 0, .long 999] h17 (fun r21 h22 => ∃ v24, r21 = some (.int v24) ∧ ((¬ v24 = 0 → Cal G (d - 1) mX12_gates [.ref a0, .int x1, .int x2, .int x3, .int x4] h22 (fun r26 h27 => r26 = none ∧ Q (some (.int 1)) h27)) ∧ (v24 = 0 → Q (some (.int 0)) h22)))))))))))))
set_option maxRecDepth 20000 in
theorem t_X12_gate {G : GG} {d : Nat} {h : HP} {Q : Option Value → HP → Prop} {a0 : Nat} {x1 : Int32} {x2 : Int32} {x3 : Int32} {x4 : Int32} (hd1 : 1 ≤ d) (ht : T_X12_gate G d h Q a0 x1 x2 x3 x4) : Ex G d mX12_gate 0 [(0, .ref a0), (1, .int x1), (2, .int x2), (3, .int x3), (4, .int x4)] [] h Q := by
  unfold T_X12_gate at ht
  refine x_aload_n (pc2 := 1) 0 (n := 0) (x := a0) rfl dX12_gate_0 rfl ?_
  refine x_iload_n (pc2 := 2) 1 (n := 1) (x := x1) rfl dX12_gate_1 rfl ?_
  obtain ⟨k4, ht⟩ := ht
  refine x_callV (pc2 := 5) (As := [.int x1]) (rest := []) (b := a0) mv_X12_isWall ml_X12_423 k4 rfl rfl (Nat.le_of_ble_eq_true rfl) hd1 dX12_gate_2 rfl (ht.mono (fun r1 h2 p3 ht' => ?_))
  clear ht
  obtain ⟨v5, rfl, ht⟩ := ht'
  show Ex G d mX12_gate 5 [(0, .ref a0), (1, .int x1), (2, .int x2), (3, .int x3), (4, .int x4)] [.int v5] h2 Q
  refine x_if_eq (pc2 := 8) 51 dX12_gate_5 (by decide) rfl (fun c6 => ?_) (fun c6 => ?_)
  · replace ht := ht.1 c6
    refine x_iconst (pc2 := 52) (v := 0) (by decide) dX12_gate_51 rfl ?_
    exact x_retZ rfl (Or.inl rfl) dX12_gate_52 ht
  · replace ht := ht.2 c6
    refine x_iload_n (pc2 := 9) 2 (n := 2) (x := x2) rfl dX12_gate_8 rfl ?_
    refine x_i2l (pc2 := 10) dX12_gate_9 rfl ?_
    refine x_lconst (pc2 := 11) (v := 0) (by decide) dX12_gate_10 rfl ?_
    refine x_ldc2 (pc2 := 14) (v := 3) ct_X12_432 dX12_gate_11 rfl ?_
    refine x_callS (pc2 := 17) (As := [.long (x2.toInt64), .long 0, .long 3]) (rest := []) ms_X12_in ml_X12_112 rfl rfl (Nat.le_of_ble_eq_true rfl) hd1 dX12_gate_14 rfl (ht.mono (fun r7 h8 p9 ht' => ?_))
    clear ht
    obtain ⟨v10, rfl, ht⟩ := ht'
    show Ex G d mX12_gate 17 [(0, .ref a0), (1, .int x1), (2, .int x2), (3, .int x3), (4, .int x4)] [.int v10] h8 Q
    refine x_if_eq (pc2 := 20) 51 dX12_gate_17 (by decide) rfl (fun c11 => ?_) (fun c11 => ?_)
    · replace ht := ht.1 c11
      refine x_iconst (pc2 := 52) (v := 0) (by decide) dX12_gate_51 rfl ?_
      exact x_retZ rfl (Or.inl rfl) dX12_gate_52 ht
    · replace ht := ht.2 c11
      refine x_iload_n (pc2 := 21) 3 (n := 3) (x := x3) rfl dX12_gate_20 rfl ?_
      refine x_i2l (pc2 := 22) dX12_gate_21 rfl ?_
      refine x_lconst (pc2 := 23) (v := 0) (by decide) dX12_gate_22 rfl ?_
      refine x_aload_n (pc2 := 24) 0 (n := 0) (x := a0) rfl dX12_gate_23 rfl ?_
      refine x_iload_n (pc2 := 25) 1 (n := 1) (x := x1) rfl dX12_gate_24 rfl ?_
      refine x_iload_n (pc2 := 26) 2 (n := 2) (x := x2) rfl dX12_gate_25 rfl ?_
      refine x_callV (pc2 := 29) (As := [.int x1, .int x2]) (rest := [.long 0, .long (x3.toInt64)]) (b := a0) mv_X12_sideOf ml_X12_434 ((k4.up p3).up p9) rfl rfl (Nat.le_of_ble_eq_true rfl) hd1 dX12_gate_26 rfl (ht.mono (fun r12 h13 p14 ht' => ?_))
      clear ht
      obtain ⟨v15, rfl, ht⟩ := ht'
      show Ex G d mX12_gate 29 [(0, .ref a0), (1, .int x1), (2, .int x2), (3, .int x3), (4, .int x4)] [.int v15, .long 0, .long (x3.toInt64)] h13 Q
      refine x_iconst (pc2 := 30) (v := 1) (by decide) dX12_gate_29 rfl ?_
      refine x_isub (pc2 := 31) dX12_gate_30 rfl ?_
      refine x_i2l (pc2 := 32) dX12_gate_31 rfl ?_
      refine x_callS (pc2 := 35) (As := [.long (x3.toInt64), .long 0, .long ((v15 - 1).toInt64)]) (rest := []) ms_X12_in ml_X12_112 rfl rfl (Nat.le_of_ble_eq_true rfl) hd1 dX12_gate_32 rfl (ht.mono (fun r16 h17 p18 ht' => ?_))
      clear ht
      obtain ⟨v19, rfl, ht⟩ := ht'
      show Ex G d mX12_gate 35 [(0, .ref a0), (1, .int x1), (2, .int x2), (3, .int x3), (4, .int x4)] [.int v19] h17 Q
      refine x_if_eq (pc2 := 38) 51 dX12_gate_35 (by decide) rfl (fun c20 => ?_) (fun c20 => ?_)
      · replace ht := ht.1 c20
        refine x_iconst (pc2 := 52) (v := 0) (by decide) dX12_gate_51 rfl ?_
        exact x_retZ rfl (Or.inl rfl) dX12_gate_52 ht
      · replace ht := ht.2 c20
        refine x_iload (pc2 := 40) 4 (n := 4) (x := x4) rfl dX12_gate_38 rfl ?_
        refine x_i2l (pc2 := 41) dX12_gate_40 rfl ?_
        refine x_lconst (pc2 := 42) (v := 0) (by decide) dX12_gate_41 rfl ?_
        refine x_ldc2 (pc2 := 45) (v := 999) ct_X12_437 dX12_gate_42 rfl ?_
        refine x_callS (pc2 := 48) (As := [.long (x4.toInt64), .long 0, .long 999]) (rest := []) ms_X12_in ml_X12_112 rfl rfl (Nat.le_of_ble_eq_true rfl) hd1 dX12_gate_45 rfl (ht.mono (fun r21 h22 p23 ht' => ?_))
        clear ht
        obtain ⟨v24, rfl, ht⟩ := ht'
        show Ex G d mX12_gate 48 [(0, .ref a0), (1, .int x1), (2, .int x2), (3, .int x3), (4, .int x4)] [.int v24] h22 Q
        refine y_if_ne (pc2 := 51) 53 dX12_gate_48 (by decide) rfl (fun c25 => ?_) (fun c25 => ?_)
        · replace ht := ht.1 c25
          refine x_aload_n (pc2 := 54) 0 (n := 0) (x := a0) rfl dX12_gate_53 rfl ?_
          refine x_iload_n (pc2 := 55) 1 (n := 1) (x := x1) rfl dX12_gate_54 rfl ?_
          refine x_iload_n (pc2 := 56) 2 (n := 2) (x := x2) rfl dX12_gate_55 rfl ?_
          refine x_iload_n (pc2 := 57) 3 (n := 3) (x := x3) rfl dX12_gate_56 rfl ?_
          refine x_iload (pc2 := 59) 4 (n := 4) (x := x4) rfl dX12_gate_57 rfl ?_
          refine x_callV (pc2 := 62) (As := [.int x1, .int x2, .int x3, .int x4]) (rest := []) (b := a0) mv_X12_gates ml_X12_439 (((((k4.up p3).up p9).up p14).up p18).up p23) rfl rfl (Nat.le_of_ble_eq_true rfl) hd1 dX12_gate_59 rfl (ht.mono (fun r26 h27 p28 ht' => ?_))
          clear ht
          obtain ⟨rfl, ht⟩ := ht'
          show Ex G d mX12_gate 62 [(0, .ref a0), (1, .int x1), (2, .int x2), (3, .int x3), (4, .int x4)] [] h27 Q
          refine x_iconst (pc2 := 63) (v := 1) (by decide) dX12_gate_62 rfl ?_
          exact x_retZ rfl (Or.inr rfl) dX12_gate_63 ht
        · replace ht := ht.2 c25
          refine x_iconst (pc2 := 52) (v := 0) (by decide) dX12_gate_51 rfl ?_
          exact x_retZ rfl (Or.inl rfl) dX12_gate_52 ht
theorem e_X12_gate {G : GG} {d : Nat} {h : HP} {Q : Option Value → HP → Prop} {a0 : Nat} {x1 : Int32} {x2 : Int32} {x3 : Int32} {x4 : Int32} (hd1 : 1 ≤ d) (ht : T_X12_gate G d h Q a0 x1 x2 x3 x4) : Cal G d mX12_gate [.ref a0, .int x1, .int x2, .int x3, .int x4] h Q := cal_of rfl (Nat.le_of_ble_eq_true rfl) (t_X12_gate hd1 ht)
def T_X12_key (G : GG) (d : Nat) (h : HP) (Q : Option Value → HP → Prop) (a0 : Nat) (x1 : Int32) (x2 : Int32) (x3 : Int32) : Prop :=
  Kd G h a0 12 ∧ Cal G (d - 1) mX12_isWall [.ref a0, .int x1] h (fun r1 h2 => ∃ v5, r1 = some (.int v5) ∧ ((v5 = 0 → Q (some (.int 0)) h2) ∧ (¬ v5 = 0 → Cal G (d - 1) mX12_isFamily [.int x2] h2 (fun r7 h8 => ∃ v10, r7 = some (.int v10) ∧ ((v10 = 0 → Q (some (.int 0)) h8) ∧ (¬ v10 = 0 → Cal G (d - 1) mX12_of [.ref a0, .int x1, .int 10] h8 (fun r12 h13 => ∃ v15, r12 = some (.int v15) ∧ ((x3 = 0 → Ex G d mX12_key 35 [(0, .ref a0), (1, .int x1), (2, .int x2), (3, .int x3)] [.int 0, .int ((v15 >>> (x2 &&& 31)) &&& 1)] h13 Q) ∧ (¬ x3 = 0 → Ex G d mX12_key 35 [(0, .ref a0), (1, .int x1), (2, .int x2), (3, .int x3)] [.int 1, .int ((v15 >>> (x2 &&& 31)) &&& 1)] h13 Q)))))))))
set_option maxRecDepth 20000 in
theorem t_X12_key {G : GG} {d : Nat} {h : HP} {Q : Option Value → HP → Prop} {a0 : Nat} {x1 : Int32} {x2 : Int32} {x3 : Int32} (hd1 : 1 ≤ d) (ht : T_X12_key G d h Q a0 x1 x2 x3) : Ex G d mX12_key 0 [(0, .ref a0), (1, .int x1), (2, .int x2), (3, .int x3)] [] h Q := by
  unfold T_X12_key at ht
  refine x_aload_n (pc2 := 1) 0 (n := 0) (x := a0) rfl dX12_key_0 rfl ?_
  refine x_iload_n (pc2 := 2) 1 (n := 1) (x := x1) rfl dX12_key_1 rfl ?_
  obtain ⟨k4, ht⟩ := ht
  refine x_callV (pc2 := 5) (As := [.int x1]) (rest := []) (b := a0) mv_X12_isWall ml_X12_423 k4 rfl rfl (Nat.le_of_ble_eq_true rfl) hd1 dX12_key_2 rfl (ht.mono (fun r1 h2 p3 ht' => ?_))
  clear ht
  obtain ⟨v5, rfl, ht⟩ := ht'
  show Ex G d mX12_key 5 [(0, .ref a0), (1, .int x1), (2, .int x2), (3, .int x3)] [.int v5] h2 Q
  refine x_if_eq (pc2 := 8) 38 dX12_key_5 (by decide) rfl (fun c6 => ?_) (fun c6 => ?_)
  · replace ht := ht.1 c6
    refine x_iconst (pc2 := 39) (v := 0) (by decide) dX12_key_38 rfl ?_
    exact x_retZ rfl (Or.inl rfl) dX12_key_39 ht
  · replace ht := ht.2 c6
    refine x_iload_n (pc2 := 9) 2 (n := 2) (x := x2) rfl dX12_key_8 rfl ?_
    refine x_callS (pc2 := 12) (As := [.int x2]) (rest := []) ms_X12_isFamily ml_X12_395 rfl rfl (Nat.le_of_ble_eq_true rfl) hd1 dX12_key_9 rfl (ht.mono (fun r7 h8 p9 ht' => ?_))
    clear ht
    obtain ⟨v10, rfl, ht⟩ := ht'
    show Ex G d mX12_key 12 [(0, .ref a0), (1, .int x1), (2, .int x2), (3, .int x3)] [.int v10] h8 Q
    refine x_if_eq (pc2 := 15) 38 dX12_key_12 (by decide) rfl (fun c11 => ?_) (fun c11 => ?_)
    · replace ht := ht.1 c11
      refine x_iconst (pc2 := 39) (v := 0) (by decide) dX12_key_38 rfl ?_
      exact x_retZ rfl (Or.inl rfl) dX12_key_39 ht
    · replace ht := ht.2 c11
      refine x_aload_n (pc2 := 16) 0 (n := 0) (x := a0) rfl dX12_key_15 rfl ?_
      refine x_iload_n (pc2 := 17) 1 (n := 1) (x := x1) rfl dX12_key_16 rfl ?_
      refine x_bipush (pc2 := 19) (v := 10) (by decide) dX12_key_17 rfl ?_
      refine x_callV (pc2 := 22) (As := [.int x1, .int 10]) (rest := []) (b := a0) mv_X12_of ml_X12_310 ((k4.up p3).up p9) rfl rfl (Nat.le_of_ble_eq_true rfl) hd1 dX12_key_19 rfl (ht.mono (fun r12 h13 p14 ht' => ?_))
      clear ht
      obtain ⟨v15, rfl, ht⟩ := ht'
      show Ex G d mX12_key 22 [(0, .ref a0), (1, .int x1), (2, .int x2), (3, .int x3)] [.int v15] h13 Q
      refine x_iload_n (pc2 := 23) 2 (n := 2) (x := x2) rfl dX12_key_22 rfl ?_
      refine x_ishr (pc2 := 24) dX12_key_23 rfl ?_
      refine x_iconst (pc2 := 25) (v := 1) (by decide) dX12_key_24 rfl ?_
      refine x_iand (pc2 := 26) dX12_key_25 rfl ?_
      refine x_iload_n (pc2 := 27) 3 (n := 3) (x := x3) rfl dX12_key_26 rfl ?_
      refine x_if_eq (pc2 := 30) 34 dX12_key_27 (by decide) rfl (fun c16 => ?_) (fun c16 => ?_)
      · replace ht := ht.1 c16
        refine x_iconst (pc2 := 35) (v := 0) (by decide) dX12_key_34 rfl ?_
        exact ht
      · replace ht := ht.2 c16
        refine x_iconst (pc2 := 31) (v := 1) (by decide) dX12_key_30 rfl ?_
        refine x_goto 35 dX12_key_31 (by decide) ?_
        exact ht
theorem e_X12_key {G : GG} {d : Nat} {h : HP} {Q : Option Value → HP → Prop} {a0 : Nat} {x1 : Int32} {x2 : Int32} {x3 : Int32} (hd1 : 1 ≤ d) (ht : T_X12_key G d h Q a0 x1 x2 x3) : Cal G d mX12_key [.ref a0, .int x1, .int x2, .int x3] h Q := cal_of rfl (Nat.le_of_ble_eq_true rfl) (t_X12_key hd1 ht)
def T_X12_key_35 (G : GG) (d : Nat) (h : HP) (Q : Option Value → HP → Prop) (a0 : Nat) (x1 : Int32) (x2 : Int32) (x3 : Int32) (sx0 : Int32) (sx1 : Int32) : Prop :=
  ((¬ sx0 = sx1 → Kd G h a0 12 ∧ ∃ q3, hR h a0 29 = some q3 ∧ Cal G (d - 1) mX12_placeOf [.int x1] h (fun r5 h6 => ∃ v8, r5 = some (.int v8) ∧ Kd G h6 q3 14 ∧ vp_in (v8 + 10) (hN h6 q3) ∧ vp_in (v8 + 10) (hN h6 q3) ∧ ∀ h12, h12 = (sI h6 q3 (v8 + 10).toNatClampNeg ((hI h6 q3 (v8 + 10).toNatClampNeg) ^^^ (1 <<< (x2 &&& 31)))) → Q (some (.int 1)) h12)) ∧ (sx0 = sx1 → Q (some (.int 0)) h))
set_option maxRecDepth 20000 in
theorem t_X12_key_35 {G : GG} {d : Nat} {h : HP} {Q : Option Value → HP → Prop} {a0 : Nat} {x1 : Int32} {x2 : Int32} {x3 : Int32} {sx0 : Int32} {sx1 : Int32} (hd1 : 1 ≤ d) (ht : T_X12_key_35 G d h Q a0 x1 x2 x3 sx0 sx1) : Ex G d mX12_key 35 [(0, .ref a0), (1, .int x1), (2, .int x2), (3, .int x3)] [.int sx1, .int sx0] h Q := by
  unfold T_X12_key_35 at ht
  refine y_icmp_ne (pc2 := 38) 40 dX12_key_35 (by decide) rfl (fun c1 => ?_) (fun c1 => ?_)
  · replace ht := ht.1 c1
    refine x_aload_n (pc2 := 41) 0 (n := 0) (x := a0) rfl dX12_key_40 rfl ?_
    obtain ⟨k2, ht⟩ := ht
    obtain ⟨q3, e4, ht⟩ := ht
    refine y_getR (pc2 := 44) (κ := 12) (k := 29) fl_X12_48 (by decide) (by decide) k2 rfl e4 dX12_key_41 rfl ?_
    refine x_iload_n (pc2 := 45) 1 (n := 1) (x := x1) rfl dX12_key_44 rfl ?_
    refine x_callS (pc2 := 48) (As := [.int x1]) (rest := [.ref q3]) ms_X12_placeOf ml_X12_284 rfl rfl (Nat.le_of_ble_eq_true rfl) hd1 dX12_key_45 rfl (ht.mono (fun r5 h6 p7 ht' => ?_))
    clear ht
    obtain ⟨v8, rfl, ht⟩ := ht'
    show Ex G d mX12_key 48 [(0, .ref a0), (1, .int x1), (2, .int x2), (3, .int x3)] [.int v8, .ref q3] h6 Q
    refine x_bipush (pc2 := 50) (v := 10) (by decide) dX12_key_48 rfl ?_
    refine x_iadd (pc2 := 51) dX12_key_50 rfl ?_
    refine x_dup2 (pc2 := 52) rfl rfl dX12_key_51 rfl ?_
    obtain ⟨k9, ht⟩ := ht
    obtain ⟨b10, ht⟩ := ht
    refine x_iald (pc2 := 53) k9 b10 dX12_key_52 rfl ?_
    refine x_iconst (pc2 := 54) (v := 1) (by decide) dX12_key_53 rfl ?_
    refine x_iload_n (pc2 := 55) 2 (n := 2) (x := x2) rfl dX12_key_54 rfl ?_
    refine x_ishl (pc2 := 56) dX12_key_55 rfl ?_
    refine x_ixor (pc2 := 57) dX12_key_56 rfl ?_
    obtain ⟨b11, ht⟩ := ht
    refine x_iast (pc2 := 58) k9 b11 dX12_key_57 rfl ?_
    refine nm_I (fun h12 e13 p14 => ?_)
    replace ht := ht h12 e13
    refine x_iconst (pc2 := 59) (v := 1) (by decide) dX12_key_58 rfl ?_
    exact x_retZ rfl (Or.inr rfl) dX12_key_59 ht
  · replace ht := ht.2 c1
    refine x_iconst (pc2 := 39) (v := 0) (by decide) dX12_key_38 rfl ?_
    exact x_retZ rfl (Or.inl rfl) dX12_key_39 ht
def T_X12_isGroundOf (G : GG) (d : Nat) (h : HP) (Q : Option Value → HP → Prop) (a0 : Nat) (x1 : Int32) (x2 : Int32) (x3 : Int32) : Prop :=
  Ex G d mX12_isGroundOf 3 [(0, .ref a0), (1, .int x1), (2, .int x2), (3, .int x3), (4, .int 0)] [] h Q
set_option maxRecDepth 20000 in
theorem t_X12_isGroundOf {G : GG} {d : Nat} {h : HP} {Q : Option Value → HP → Prop} {a0 : Nat} {x1 : Int32} {x2 : Int32} {x3 : Int32} (ht : T_X12_isGroundOf G d h Q a0 x1 x2 x3) : Ex G d mX12_isGroundOf 0 [(0, .ref a0), (1, .int x1), (2, .int x2), (3, .int x3)] [] h Q := by
  unfold T_X12_isGroundOf at ht
  refine x_iconst (pc2 := 1) (v := 0) (by decide) dX12_isGroundOf_0 rfl ?_
  refine x_istore (pc2 := 3) [1, 2, 3, 4, 0] (n := 4) (x := 0) (lv2 := [(0, .ref a0), (1, .int x1), (2, .int x2), (3, .int x3), (4, .int 0)]) (by decide) rfl dX12_isGroundOf_1 rfl ?_
  exact ht
theorem e_X12_isGroundOf {G : GG} {d : Nat} {h : HP} {Q : Option Value → HP → Prop} {a0 : Nat} {x1 : Int32} {x2 : Int32} {x3 : Int32} (ht : T_X12_isGroundOf G d h Q a0 x1 x2 x3) : Cal G d mX12_isGroundOf [.ref a0, .int x1, .int x2, .int x3] h Q := cal_of rfl (Nat.le_of_ble_eq_true rfl) (t_X12_isGroundOf ht)
def T_X12_isGroundOf_3 (G : GG) (d : Nat) (h : HP) (Q : Option Value → HP → Prop) (a0 : Nat) (x1 : Int32) (x2 : Int32) (x3 : Int32) (x4 : Int32) : Prop :=
  ((30 ≤ x4 → Q (some (.int 1)) h) ∧ (¬ 30 ≤ x4 → Kd G h a0 12 ∧ Cal G (d - 1) mX12_of [.ref a0, .int x4, .int 0] h (fun r2 h3 => ∃ v6, r2 = some (.int v6) ∧ ((¬ v6 = 1 → Ex G d mX12_isGroundOf 3 [(0, .ref a0), (1, .int x1), (2, .int x2), (3, .int x3), (4, .int (x4 + 1))] [] h3 Q) ∧ (v6 = 1 → Cal G (d - 1) mX12_of [.ref a0, .int x4, .int 6] h3 (fun r8 h9 => ∃ v11, r8 = some (.int v11) ∧ ((¬ v11 = x1 → Ex G d mX12_isGroundOf 3 [(0, .ref a0), (1, .int x1), (2, .int x2), (3, .int x3), (4, .int (x4 + 1))] [] h9 Q) ∧ (v11 = x1 → Cal G (d - 1) mX12_hasCell [.ref a0, .int x4, .int x2, .int x3] h9 (fun r13 h14 => ∃ v16, r13 = some (.int v16) ∧ ((v16 = 0 → Ex G d mX12_isGroundOf 3 [(0, .ref a0), (1, .int x1), (2, .int x2), (3, .int x3), (4, .int (x4 + 1))] [] h14 Q) ∧ (¬ v16 = 0 → Q (some (.int 0)) h14)))))))))))
set_option maxRecDepth 20000 in
theorem t_X12_isGroundOf_3 {G : GG} {d : Nat} {h : HP} {Q : Option Value → HP → Prop} {a0 : Nat} {x1 : Int32} {x2 : Int32} {x3 : Int32} {x4 : Int32} (hd1 : 1 ≤ d) (ht : T_X12_isGroundOf_3 G d h Q a0 x1 x2 x3 x4) : Ex G d mX12_isGroundOf 3 [(0, .ref a0), (1, .int x1), (2, .int x2), (3, .int x3), (4, .int x4)] [] h Q := by
  unfold T_X12_isGroundOf_3 at ht
  refine x_iload (pc2 := 5) 4 (n := 4) (x := x4) rfl dX12_isGroundOf_3 rfl ?_
  refine x_bipush (pc2 := 7) (v := 30) (by decide) dX12_isGroundOf_5 rfl ?_
  refine x_icmp_ge (pc2 := 10) 52 dX12_isGroundOf_7 (by decide) rfl (fun c1 => ?_) (fun c1 => ?_)
  · replace ht := ht.1 c1
    refine x_iconst (pc2 := 53) (v := 1) (by decide) dX12_isGroundOf_52 rfl ?_
    exact x_retZ rfl (Or.inr rfl) dX12_isGroundOf_53 ht
  · replace ht := ht.2 c1
    refine x_aload_n (pc2 := 11) 0 (n := 0) (x := a0) rfl dX12_isGroundOf_10 rfl ?_
    refine x_iload (pc2 := 13) 4 (n := 4) (x := x4) rfl dX12_isGroundOf_11 rfl ?_
    refine x_iconst (pc2 := 14) (v := 0) (by decide) dX12_isGroundOf_13 rfl ?_
    obtain ⟨k5, ht⟩ := ht
    refine x_callV (pc2 := 17) (As := [.int x4, .int 0]) (rest := []) (b := a0) mv_X12_of ml_X12_310 k5 rfl rfl (Nat.le_of_ble_eq_true rfl) hd1 dX12_isGroundOf_14 rfl (ht.mono (fun r2 h3 p4 ht' => ?_))
    clear ht
    obtain ⟨v6, rfl, ht⟩ := ht'
    show Ex G d mX12_isGroundOf 17 [(0, .ref a0), (1, .int x1), (2, .int x2), (3, .int x3), (4, .int x4)] [.int v6] h3 Q
    refine x_iconst (pc2 := 18) (v := 1) (by decide) dX12_isGroundOf_17 rfl ?_
    refine y_icmp_ne (pc2 := 21) 46 dX12_isGroundOf_18 (by decide) rfl (fun c7 => ?_) (fun c7 => ?_)
    · replace ht := ht.1 c7
      refine x_iinc (pc2 := 49) 4 [1, 2, 3, 4, 0] (i := 4) (x := x4) (v := (x4 + 1)) (lv2 := [(0, .ref a0), (1, .int x1), (2, .int x2), (3, .int x3), (4, .int (x4 + 1))]) rfl (iinc_eq (by decide) _) (by decide) rfl dX12_isGroundOf_46 rfl ?_
      refine x_goto 3 dX12_isGroundOf_49 (by decide) ?_
      exact ht
    · replace ht := ht.2 c7
      refine x_aload_n (pc2 := 22) 0 (n := 0) (x := a0) rfl dX12_isGroundOf_21 rfl ?_
      refine x_iload (pc2 := 24) 4 (n := 4) (x := x4) rfl dX12_isGroundOf_22 rfl ?_
      refine x_bipush (pc2 := 26) (v := 6) (by decide) dX12_isGroundOf_24 rfl ?_
      refine x_callV (pc2 := 29) (As := [.int x4, .int 6]) (rest := []) (b := a0) mv_X12_of ml_X12_310 (k5.up p4) rfl rfl (Nat.le_of_ble_eq_true rfl) hd1 dX12_isGroundOf_26 rfl (ht.mono (fun r8 h9 p10 ht' => ?_))
      clear ht
      obtain ⟨v11, rfl, ht⟩ := ht'
      show Ex G d mX12_isGroundOf 29 [(0, .ref a0), (1, .int x1), (2, .int x2), (3, .int x3), (4, .int x4)] [.int v11] h9 Q
      refine x_iload_n (pc2 := 30) 1 (n := 1) (x := x1) rfl dX12_isGroundOf_29 rfl ?_
      refine y_icmp_ne (pc2 := 33) 46 dX12_isGroundOf_30 (by decide) rfl (fun c12 => ?_) (fun c12 => ?_)
      · replace ht := ht.1 c12
        refine x_iinc (pc2 := 49) 4 [1, 2, 3, 4, 0] (i := 4) (x := x4) (v := (x4 + 1)) (lv2 := [(0, .ref a0), (1, .int x1), (2, .int x2), (3, .int x3), (4, .int (x4 + 1))]) rfl (iinc_eq (by decide) _) (by decide) rfl dX12_isGroundOf_46 rfl ?_
        refine x_goto 3 dX12_isGroundOf_49 (by decide) ?_
        exact ht
      · replace ht := ht.2 c12
        refine x_aload_n (pc2 := 34) 0 (n := 0) (x := a0) rfl dX12_isGroundOf_33 rfl ?_
        refine x_iload (pc2 := 36) 4 (n := 4) (x := x4) rfl dX12_isGroundOf_34 rfl ?_
        refine x_iload_n (pc2 := 37) 2 (n := 2) (x := x2) rfl dX12_isGroundOf_36 rfl ?_
        refine x_iload_n (pc2 := 38) 3 (n := 3) (x := x3) rfl dX12_isGroundOf_37 rfl ?_
        refine x_callV (pc2 := 41) (As := [.int x4, .int x2, .int x3]) (rest := []) (b := a0) mv_X12_hasCell ml_X12_347 ((k5.up p4).up p10) rfl rfl (Nat.le_of_ble_eq_true rfl) hd1 dX12_isGroundOf_38 rfl (ht.mono (fun r13 h14 p15 ht' => ?_))
        clear ht
        obtain ⟨v16, rfl, ht⟩ := ht'
        show Ex G d mX12_isGroundOf 41 [(0, .ref a0), (1, .int x1), (2, .int x2), (3, .int x3), (4, .int x4)] [.int v16] h14 Q
        refine x_if_eq (pc2 := 44) 46 dX12_isGroundOf_41 (by decide) rfl (fun c17 => ?_) (fun c17 => ?_)
        · replace ht := ht.1 c17
          refine x_iinc (pc2 := 49) 4 [1, 2, 3, 4, 0] (i := 4) (x := x4) (v := (x4 + 1)) (lv2 := [(0, .ref a0), (1, .int x1), (2, .int x2), (3, .int x3), (4, .int (x4 + 1))]) rfl (iinc_eq (by decide) _) (by decide) rfl dX12_isGroundOf_46 rfl ?_
          refine x_goto 3 dX12_isGroundOf_49 (by decide) ?_
          exact ht
        · replace ht := ht.2 c17
          refine x_iconst (pc2 := 45) (v := 0) (by decide) dX12_isGroundOf_44 rfl ?_
          exact x_retZ rfl (Or.inl rfl) dX12_isGroundOf_45 ht
def T_X12_groundOf (G : GG) (d : Nat) (h : HP) (Q : Option Value → HP → Prop) (a0 : Nat) (x1 : Int32) (x2 : Int32) : Prop :=
  Kd G h a0 12 ∧ Cal G (d - 1) mX12_of [.ref a0, .int x1, .int 2] h (fun r1 h2 => ∃ v5, r1 = some (.int v5) ∧ Ex G d mX12_groundOf 10 [(0, .ref a0), (1, .int x1), (2, .int x2), (3, .int 0), (4, .int v5)] [] h2 Q)
set_option maxRecDepth 20000 in
theorem t_X12_groundOf {G : GG} {d : Nat} {h : HP} {Q : Option Value → HP → Prop} {a0 : Nat} {x1 : Int32} {x2 : Int32} (hd1 : 1 ≤ d) (ht : T_X12_groundOf G d h Q a0 x1 x2) : Ex G d mX12_groundOf 0 [(0, .ref a0), (1, .int x1), (2, .int x2)] [] h Q := by
  unfold T_X12_groundOf at ht
  refine x_iconst (pc2 := 1) (v := 0) (by decide) dX12_groundOf_0 rfl ?_
  refine x_istore_n (pc2 := 2) [1, 2, 3, 0] (n := 3) (x := 0) (lv2 := [(0, .ref a0), (1, .int x1), (2, .int x2), (3, .int 0)]) (by decide) rfl dX12_groundOf_1 rfl ?_
  refine x_aload_n (pc2 := 3) 0 (n := 0) (x := a0) rfl dX12_groundOf_2 rfl ?_
  refine x_iload_n (pc2 := 4) 1 (n := 1) (x := x1) rfl dX12_groundOf_3 rfl ?_
  refine x_iconst (pc2 := 5) (v := 2) (by decide) dX12_groundOf_4 rfl ?_
  obtain ⟨k4, ht⟩ := ht
  refine x_callV (pc2 := 8) (As := [.int x1, .int 2]) (rest := []) (b := a0) mv_X12_of ml_X12_310 k4 rfl rfl (Nat.le_of_ble_eq_true rfl) hd1 dX12_groundOf_5 rfl (ht.mono (fun r1 h2 p3 ht' => ?_))
  clear ht
  obtain ⟨v5, rfl, ht⟩ := ht'
  show Ex G d mX12_groundOf 8 [(0, .ref a0), (1, .int x1), (2, .int x2), (3, .int 0)] [.int v5] h2 Q
  refine x_istore (pc2 := 10) [1, 2, 3, 4, 0] (n := 4) (x := v5) (lv2 := [(0, .ref a0), (1, .int x1), (2, .int x2), (3, .int 0), (4, .int v5)]) (by decide) rfl dX12_groundOf_8 rfl ?_
  exact ht
theorem e_X12_groundOf {G : GG} {d : Nat} {h : HP} {Q : Option Value → HP → Prop} {a0 : Nat} {x1 : Int32} {x2 : Int32} (hd1 : 1 ≤ d) (ht : T_X12_groundOf G d h Q a0 x1 x2) : Cal G d mX12_groundOf [.ref a0, .int x1, .int x2] h Q := cal_of rfl (Nat.le_of_ble_eq_true rfl) (t_X12_groundOf hd1 ht)
def T_X12_groundOf_10 (G : GG) (d : Nat) (h : HP) (Q : Option Value → HP → Prop) (a0 : Nat) (x1 : Int32) (x2 : Int32) (x3 : Int32) (x4 : Int32) : Prop :=
  Kd G h a0 12 ∧ Cal G (d - 1) mX12_of [.ref a0, .int x1, .int 4] h (fun r1 h2 => ∃ v5, r1 = some (.int v5) ∧ ((v5 ≤ x4 → Q (some (.int x3)) h2) ∧ (¬ v5 ≤ x4 → Cal G (d - 1) mX12_of [.ref a0, .int x1, .int 1] h2 (fun r7 h8 => ∃ v10, r7 = some (.int v10) ∧ Ex G d mX12_groundOf 29 [(0, .ref a0), (1, .int x1), (2, .int x2), (3, .int x3), (4, .int x4), (5, .int v10)] [] h8 Q))))
set_option maxRecDepth 20000 in
theorem t_X12_groundOf_10 {G : GG} {d : Nat} {h : HP} {Q : Option Value → HP → Prop} {a0 : Nat} {x1 : Int32} {x2 : Int32} {x3 : Int32} {x4 : Int32} (hd1 : 1 ≤ d) (ht : T_X12_groundOf_10 G d h Q a0 x1 x2 x3 x4) : Ex G d mX12_groundOf 10 [(0, .ref a0), (1, .int x1), (2, .int x2), (3, .int x3), (4, .int x4)] [] h Q := by
  unfold T_X12_groundOf_10 at ht
  refine x_iload (pc2 := 12) 4 (n := 4) (x := x4) rfl dX12_groundOf_10 rfl ?_
  refine x_aload_n (pc2 := 13) 0 (n := 0) (x := a0) rfl dX12_groundOf_12 rfl ?_
  refine x_iload_n (pc2 := 14) 1 (n := 1) (x := x1) rfl dX12_groundOf_13 rfl ?_
  refine x_iconst (pc2 := 15) (v := 4) (by decide) dX12_groundOf_14 rfl ?_
  obtain ⟨k4, ht⟩ := ht
  refine x_callV (pc2 := 18) (As := [.int x1, .int 4]) (rest := [.int x4]) (b := a0) mv_X12_of ml_X12_310 k4 rfl rfl (Nat.le_of_ble_eq_true rfl) hd1 dX12_groundOf_15 rfl (ht.mono (fun r1 h2 p3 ht' => ?_))
  clear ht
  obtain ⟨v5, rfl, ht⟩ := ht'
  show Ex G d mX12_groundOf 18 [(0, .ref a0), (1, .int x1), (2, .int x2), (3, .int x3), (4, .int x4)] [.int v5, .int x4] h2 Q
  refine x_icmp_ge (pc2 := 21) 99 dX12_groundOf_18 (by decide) rfl (fun c6 => ?_) (fun c6 => ?_)
  · replace ht := ht.1 c6
    refine x_iload_n (pc2 := 100) 3 (n := 3) (x := x3) rfl dX12_groundOf_99 rfl ?_
    exact x_ret (ty := .int) rfl rfl dX12_groundOf_100 ht
  · replace ht := ht.2 c6
    refine x_aload_n (pc2 := 22) 0 (n := 0) (x := a0) rfl dX12_groundOf_21 rfl ?_
    refine x_iload_n (pc2 := 23) 1 (n := 1) (x := x1) rfl dX12_groundOf_22 rfl ?_
    refine x_iconst (pc2 := 24) (v := 1) (by decide) dX12_groundOf_23 rfl ?_
    refine x_callV (pc2 := 27) (As := [.int x1, .int 1]) (rest := []) (b := a0) mv_X12_of ml_X12_310 (k4.up p3) rfl rfl (Nat.le_of_ble_eq_true rfl) hd1 dX12_groundOf_24 rfl (ht.mono (fun r7 h8 p9 ht' => ?_))
    clear ht
    obtain ⟨v10, rfl, ht⟩ := ht'
    show Ex G d mX12_groundOf 27 [(0, .ref a0), (1, .int x1), (2, .int x2), (3, .int x3), (4, .int x4)] [.int v10] h8 Q
    refine x_istore (pc2 := 29) [1, 2, 3, 4, 5, 0] (n := 5) (x := v10) (lv2 := [(0, .ref a0), (1, .int x1), (2, .int x2), (3, .int x3), (4, .int x4), (5, .int v10)]) (by decide) rfl dX12_groundOf_27 rfl ?_
    exact ht
def T_X12_groundOf_29 (G : GG) (d : Nat) (h : HP) (Q : Option Value → HP → Prop) (a0 : Nat) (x1 : Int32) (x2 : Int32) (x3 : Int32) (x4 : Int32) (x5 : Int32) : Prop :=
  Kd G h a0 12 ∧ Cal G (d - 1) mX12_of [.ref a0, .int x1, .int 3] h (fun r1 h2 => ∃ v5, r1 = some (.int v5) ∧ ((v5 ≤ x5 → Ex G d mX12_groundOf 10 [(0, .ref a0), (1, .int x1), (2, .int x2), (3, .int x3), (4, .int (x4 + 1))] [] h2 Q) ∧ (¬ v5 ≤ x5 → Cal G (d - 1) mX12_isGroundOf [.ref a0, .int x1, .int x5, .int x4] h2 (fun r7 h8 => ∃ v10, r7 = some (.int v10) ∧ ((¬ v10 = 0 → ((x2 = 0 → Ex G d mX12_groundOf 29 [(0, .ref a0), (1, .int x1), (2, .int x2), (3, .int (x3 + 1)), (4, .int x4), (5, .int (x5 + 1))] [] h8 Q) ∧ (¬ x2 = 0 → ∃ q13, hR h8 a0 29 = some q13 ∧ Kd G h8 q13 14 ∧ vp_in ((8 + (40 * x4)) + x5) (hN h8 q13) ∧ Ex G d mX12_groundOf 29 [(0, .ref a0), (1, .int x1), (2, .int x2), (3, .int (x3 + (irm (hI h8 q13 ((8 + (40 * x4)) + x5).toNatClampNeg) 128))), (4, .int x4), (5, .int (x5 + 1))] [] h8 Q))) ∧ (v10 = 0 → Ex G d mX12_groundOf 29 [(0, .ref a0), (1, .int x1), (2, .int x2), (3, .int (x3 + 0)), (4, .int x4), (5, .int (x5 + 1))] [] h8 Q))))))
set_option maxRecDepth 20000 in
theorem t_X12_groundOf_29 {G : GG} {d : Nat} {h : HP} {Q : Option Value → HP → Prop} {a0 : Nat} {x1 : Int32} {x2 : Int32} {x3 : Int32} {x4 : Int32} {x5 : Int32} (hd1 : 1 ≤ d) (ht : T_X12_groundOf_29 G d h Q a0 x1 x2 x3 x4 x5) : Ex G d mX12_groundOf 29 [(0, .ref a0), (1, .int x1), (2, .int x2), (3, .int x3), (4, .int x4), (5, .int x5)] [] h Q := by
  unfold T_X12_groundOf_29 at ht
  refine x_iload (pc2 := 31) 5 (n := 5) (x := x5) rfl dX12_groundOf_29 rfl ?_
  refine x_aload_n (pc2 := 32) 0 (n := 0) (x := a0) rfl dX12_groundOf_31 rfl ?_
  refine x_iload_n (pc2 := 33) 1 (n := 1) (x := x1) rfl dX12_groundOf_32 rfl ?_
  refine x_iconst (pc2 := 34) (v := 3) (by decide) dX12_groundOf_33 rfl ?_
  obtain ⟨k4, ht⟩ := ht
  refine x_callV (pc2 := 37) (As := [.int x1, .int 3]) (rest := [.int x5]) (b := a0) mv_X12_of ml_X12_310 k4 rfl rfl (Nat.le_of_ble_eq_true rfl) hd1 dX12_groundOf_34 rfl (ht.mono (fun r1 h2 p3 ht' => ?_))
  clear ht
  obtain ⟨v5, rfl, ht⟩ := ht'
  show Ex G d mX12_groundOf 37 [(0, .ref a0), (1, .int x1), (2, .int x2), (3, .int x3), (4, .int x4), (5, .int x5)] [.int v5, .int x5] h2 Q
  refine x_icmp_ge (pc2 := 40) 93 dX12_groundOf_37 (by decide) rfl (fun c6 => ?_) (fun c6 => ?_)
  · replace ht := ht.1 c6
    refine x_iinc (pc2 := 96) 4 [1, 2, 3, 4, 0, 5] (i := 4) (x := x4) (v := (x4 + 1)) (lv2 := [(0, .ref a0), (1, .int x1), (2, .int x2), (3, .int x3), (4, .int (x4 + 1)), (5, .int x5)]) rfl (iinc_eq (by decide) _) (by decide) rfl dX12_groundOf_93 rfl ?_
    refine x_goto 10 dX12_groundOf_96 (by decide) ?_
    refine x_sub [0, 1, 2, 3, 4] (lv2 := [(0, .ref a0), (1, .int x1), (2, .int x2), (3, .int x3), (4, .int (x4 + 1))]) rfl ?_
    exact ht
  · replace ht := ht.2 c6
    refine x_iload_n (pc2 := 41) 3 (n := 3) (x := x3) rfl dX12_groundOf_40 rfl ?_
    refine x_aload_n (pc2 := 42) 0 (n := 0) (x := a0) rfl dX12_groundOf_41 rfl ?_
    refine x_iload_n (pc2 := 43) 1 (n := 1) (x := x1) rfl dX12_groundOf_42 rfl ?_
    refine x_iload (pc2 := 45) 5 (n := 5) (x := x5) rfl dX12_groundOf_43 rfl ?_
    refine x_iload (pc2 := 47) 4 (n := 4) (x := x4) rfl dX12_groundOf_45 rfl ?_
    refine x_callV (pc2 := 50) (As := [.int x1, .int x5, .int x4]) (rest := [.int x3]) (b := a0) mv_X12_isGroundOf ml_X12_443 (k4.up p3) rfl rfl (Nat.le_of_ble_eq_true rfl) hd1 dX12_groundOf_47 rfl (ht.mono (fun r7 h8 p9 ht' => ?_))
    clear ht
    obtain ⟨v10, rfl, ht⟩ := ht'
    show Ex G d mX12_groundOf 50 [(0, .ref a0), (1, .int x1), (2, .int x2), (3, .int x3), (4, .int x4), (5, .int x5)] [.int v10, .int x3] h8 Q
    refine y_if_ne (pc2 := 53) 57 dX12_groundOf_50 (by decide) rfl (fun c11 => ?_) (fun c11 => ?_)
    · replace ht := ht.1 c11
      refine x_iload_n (pc2 := 58) 2 (n := 2) (x := x2) rfl dX12_groundOf_57 rfl ?_
      refine x_if_eq (pc2 := 61) 84 dX12_groundOf_58 (by decide) rfl (fun c12 => ?_) (fun c12 => ?_)
      · replace ht := ht.1 c12
        refine x_iconst (pc2 := 85) (v := 1) (by decide) dX12_groundOf_84 rfl ?_
        refine x_iadd (pc2 := 86) dX12_groundOf_85 rfl ?_
        refine x_istore_n (pc2 := 87) [1, 2, 3, 0, 4, 5] (n := 3) (x := (x3 + 1)) (lv2 := [(0, .ref a0), (1, .int x1), (2, .int x2), (3, .int (x3 + 1)), (4, .int x4), (5, .int x5)]) (by decide) rfl dX12_groundOf_86 rfl ?_
        refine x_iinc (pc2 := 90) 5 [1, 2, 3, 4, 5, 0] (i := 5) (x := x5) (v := (x5 + 1)) (lv2 := [(0, .ref a0), (1, .int x1), (2, .int x2), (3, .int (x3 + 1)), (4, .int x4), (5, .int (x5 + 1))]) rfl (iinc_eq (by decide) _) (by decide) rfl dX12_groundOf_87 rfl ?_
        refine x_goto 29 dX12_groundOf_90 (by decide) ?_
        exact ht
      · replace ht := ht.2 c12
        refine x_aload_n (pc2 := 62) 0 (n := 0) (x := a0) rfl dX12_groundOf_61 rfl ?_
        obtain ⟨q13, e14, ht⟩ := ht
        refine y_getR (pc2 := 65) (κ := 12) (k := 29) fl_X12_48 (by decide) (by decide) ((k4.up p3).up p9) rfl e14 dX12_groundOf_62 rfl ?_
        refine x_bipush (pc2 := 67) (v := 8) (by decide) dX12_groundOf_65 rfl ?_
        refine x_bipush (pc2 := 69) (v := 40) (by decide) dX12_groundOf_67 rfl ?_
        refine x_iload (pc2 := 71) 4 (n := 4) (x := x4) rfl dX12_groundOf_69 rfl ?_
        refine x_imul (pc2 := 72) dX12_groundOf_71 rfl ?_
        refine x_iadd (pc2 := 73) dX12_groundOf_72 rfl ?_
        refine x_iload (pc2 := 75) 5 (n := 5) (x := x5) rfl dX12_groundOf_73 rfl ?_
        refine x_iadd (pc2 := 76) dX12_groundOf_75 rfl ?_
        obtain ⟨k15, ht⟩ := ht
        obtain ⟨b16, ht⟩ := ht
        refine x_iald (pc2 := 77) k15 b16 dX12_groundOf_76 rfl ?_
        refine x_sipush (pc2 := 80) (v := 128) (by decide) dX12_groundOf_77 rfl ?_
        refine y_irem (pc2 := 81) (by decide) dX12_groundOf_80 rfl ?_
        refine x_goto 85 dX12_groundOf_81 (by decide) ?_
        refine x_iadd (pc2 := 86) dX12_groundOf_85 rfl ?_
        refine x_istore_n (pc2 := 87) [1, 2, 3, 0, 4, 5] (n := 3) (x := (x3 + (irm (hI h8 q13 ((8 + (40 * x4)) + x5).toNatClampNeg) 128))) (lv2 := [(0, .ref a0), (1, .int x1), (2, .int x2), (3, .int (x3 + (irm (hI h8 q13 ((8 + (40 * x4)) + x5).toNatClampNeg) 128))), (4, .int x4), (5, .int x5)]) (by decide) rfl dX12_groundOf_86 rfl ?_
        refine x_iinc (pc2 := 90) 5 [1, 2, 3, 4, 5, 0] (i := 5) (x := x5) (v := (x5 + 1)) (lv2 := [(0, .ref a0), (1, .int x1), (2, .int x2), (3, .int (x3 + (irm (hI h8 q13 ((8 + (40 * x4)) + x5).toNatClampNeg) 128))), (4, .int x4), (5, .int (x5 + 1))]) rfl (iinc_eq (by decide) _) (by decide) rfl dX12_groundOf_87 rfl ?_
        refine x_goto 29 dX12_groundOf_90 (by decide) ?_
        exact ht
    · replace ht := ht.2 c11
      refine x_iconst (pc2 := 54) (v := 0) (by decide) dX12_groundOf_53 rfl ?_
      refine x_goto 85 dX12_groundOf_54 (by decide) ?_
      refine x_iadd (pc2 := 86) dX12_groundOf_85 rfl ?_
      refine x_istore_n (pc2 := 87) [1, 2, 3, 0, 4, 5] (n := 3) (x := (x3 + 0)) (lv2 := [(0, .ref a0), (1, .int x1), (2, .int x2), (3, .int (x3 + 0)), (4, .int x4), (5, .int x5)]) (by decide) rfl dX12_groundOf_86 rfl ?_
      refine x_iinc (pc2 := 90) 5 [1, 2, 3, 4, 5, 0] (i := 5) (x := x5) (v := (x5 + 1)) (lv2 := [(0, .ref a0), (1, .int x1), (2, .int x2), (3, .int (x3 + 0)), (4, .int x4), (5, .int (x5 + 1))]) rfl (iinc_eq (by decide) _) (by decide) rfl dX12_groundOf_87 rfl ?_
      refine x_goto 29 dX12_groundOf_90 (by decide) ?_
      exact ht
def T_X12_thing (G : GG) (d : Nat) (h : HP) (Q : Option Value → HP → Prop) (a0 : Nat) (x1 : Int32) (x2 : Int32) : Prop :=
  Kd G h a0 12 ∧ Cal G (d - 1) mX12_isThing [.ref a0, .int x1] h (fun r1 h2 => ∃ v5, r1 = some (.int v5) ∧ ((v5 = 0 → Q (some (.int (-2))) h2) ∧ (¬ v5 = 0 → Cal G (d - 1) mX12_in [.long (x2.toInt64), .long 0, .long 11] h2 (fun r7 h8 => ∃ v10, r7 = some (.int v10) ∧ ((¬ v10 = 0 → ((6 ≤ x2 → ((¬ x2 = 6 → ((9 ≤ x2 → Cal G (d - 1) mX12_of [.ref a0, .int x1, .int (x2 - 2)] h8 (fun r15 h16 => ∃ v18, r15 = some (.int v18) ∧ Q (some (.int v18)) h16)) ∧ (¬ 9 ≤ x2 → ((¬ x2 = 8 → Cal G (d - 1) mX12_groundOf [.ref a0, .int x1, .int 0] h8 (fun r20 h21 => ∃ v23, r20 = some (.int v23) ∧ Q (some (.int v23)) h21)) ∧ (x2 = 8 → Cal G (d - 1) mX12_groundOf [.ref a0, .int x1, .int 1] h8 (fun r24 h25 => ∃ v27, r24 = some (.int v27) ∧ Q (some (.int v27)) h25)))))) ∧ (x2 = 6 → Cal G (d - 1) mX12_deepOf [.ref a0, .int x1] h8 (fun r28 h29 => ∃ v31, r28 = some (.int v31) ∧ Q (some (.int v31)) h29)))) ∧ (¬ 6 ≤ x2 → ((4 ≤ x2 → ((¬ x2 = 4 → Cal G (d - 1) mX12_of [.ref a0, .int x1, .int 6] h8 (fun r34 h35 => ∃ v37, r34 = some (.int v37) ∧ Q (some (.int v37)) h35)) ∧ (x2 = 4 → Cal G (d - 1) mX12_of [.ref a0, .int x1, .int 5] h8 (fun r38 h39 => ∃ v41, r38 = some (.int v41) ∧ Q (some (.int v41)) h39)))) ∧ (¬ 4 ≤ x2 → Cal G (d - 1) mX12_of [.ref a0, .int x1, .int (x2 + 1)] h8 (fun r42 h43 => ∃ v45, r42 = some (.int v45) ∧ Q (some (.int v45)) h43)))))) ∧ (v10 = 0 → Q (some (.int (-2))) h8))))))
set_option maxRecDepth 20000 in
theorem t_X12_thing {G : GG} {d : Nat} {h : HP} {Q : Option Value → HP → Prop} {a0 : Nat} {x1 : Int32} {x2 : Int32} (hd1 : 1 ≤ d) (ht : T_X12_thing G d h Q a0 x1 x2) : Ex G d mX12_thing 0 [(0, .ref a0), (1, .int x1), (2, .int x2)] [] h Q := by
  unfold T_X12_thing at ht
  refine x_aload_n (pc2 := 1) 0 (n := 0) (x := a0) rfl dX12_thing_0 rfl ?_
  refine x_iload_n (pc2 := 2) 1 (n := 1) (x := x1) rfl dX12_thing_1 rfl ?_
  obtain ⟨k4, ht⟩ := ht
  refine x_callV (pc2 := 5) (As := [.int x1]) (rest := []) (b := a0) mv_X12_isThing ml_X12_314 k4 rfl rfl (Nat.le_of_ble_eq_true rfl) hd1 dX12_thing_2 rfl (ht.mono (fun r1 h2 p3 ht' => ?_))
  clear ht
  obtain ⟨v5, rfl, ht⟩ := ht'
  show Ex G d mX12_thing 5 [(0, .ref a0), (1, .int x1), (2, .int x2)] [.int v5] h2 Q
  refine x_if_eq (pc2 := 8) 20 dX12_thing_5 (by decide) rfl (fun c6 => ?_) (fun c6 => ?_)
  · replace ht := ht.1 c6
    refine x_bipush (pc2 := 22) (v := (-2)) (by decide) dX12_thing_20 rfl ?_
    exact x_ret (ty := .int) rfl rfl dX12_thing_22 ht
  · replace ht := ht.2 c6
    refine x_iload_n (pc2 := 9) 2 (n := 2) (x := x2) rfl dX12_thing_8 rfl ?_
    refine x_i2l (pc2 := 10) dX12_thing_9 rfl ?_
    refine x_lconst (pc2 := 11) (v := 0) (by decide) dX12_thing_10 rfl ?_
    refine x_ldc2 (pc2 := 14) (v := 11) ct_X12_446 dX12_thing_11 rfl ?_
    refine x_callS (pc2 := 17) (As := [.long (x2.toInt64), .long 0, .long 11]) (rest := []) ms_X12_in ml_X12_112 rfl rfl (Nat.le_of_ble_eq_true rfl) hd1 dX12_thing_14 rfl (ht.mono (fun r7 h8 p9 ht' => ?_))
    clear ht
    obtain ⟨v10, rfl, ht⟩ := ht'
    show Ex G d mX12_thing 17 [(0, .ref a0), (1, .int x1), (2, .int x2)] [.int v10] h8 Q
    refine y_if_ne (pc2 := 20) 23 dX12_thing_17 (by decide) rfl (fun c11 => ?_) (fun c11 => ?_)
    · replace ht := ht.1 c11
      refine x_iload_n (pc2 := 24) 2 (n := 2) (x := x2) rfl dX12_thing_23 rfl ?_
      refine x_bipush (pc2 := 26) (v := 6) (by decide) dX12_thing_24 rfl ?_
      refine x_icmp_ge (pc2 := 29) 57 dX12_thing_26 (by decide) rfl (fun c12 => ?_) (fun c12 => ?_)
      · replace ht := ht.1 c12
        refine x_iload_n (pc2 := 58) 2 (n := 2) (x := x2) rfl dX12_thing_57 rfl ?_
        refine x_bipush (pc2 := 60) (v := 6) (by decide) dX12_thing_58 rfl ?_
        refine y_icmp_ne (pc2 := 63) 71 dX12_thing_60 (by decide) rfl (fun c13 => ?_) (fun c13 => ?_)
        · replace ht := ht.1 c13
          refine x_iload_n (pc2 := 72) 2 (n := 2) (x := x2) rfl dX12_thing_71 rfl ?_
          refine x_bipush (pc2 := 74) (v := 9) (by decide) dX12_thing_72 rfl ?_
          refine x_icmp_ge (pc2 := 77) 96 dX12_thing_74 (by decide) rfl (fun c14 => ?_) (fun c14 => ?_)
          · replace ht := ht.1 c14
            refine x_aload_n (pc2 := 97) 0 (n := 0) (x := a0) rfl dX12_thing_96 rfl ?_
            refine x_iload_n (pc2 := 98) 1 (n := 1) (x := x1) rfl dX12_thing_97 rfl ?_
            refine x_iload_n (pc2 := 99) 2 (n := 2) (x := x2) rfl dX12_thing_98 rfl ?_
            refine x_iconst (pc2 := 100) (v := 2) (by decide) dX12_thing_99 rfl ?_
            refine x_isub (pc2 := 101) dX12_thing_100 rfl ?_
            refine x_callV (pc2 := 104) (As := [.int x1, .int (x2 - 2)]) (rest := []) (b := a0) mv_X12_of ml_X12_310 ((k4.up p3).up p9) rfl rfl (Nat.le_of_ble_eq_true rfl) hd1 dX12_thing_101 rfl (ht.mono (fun r15 h16 p17 ht' => ?_))
            clear ht
            obtain ⟨v18, rfl, ht⟩ := ht'
            show Ex G d mX12_thing 104 [(0, .ref a0), (1, .int x1), (2, .int x2)] [.int v18] h16 Q
            exact x_ret (ty := .int) rfl rfl dX12_thing_104 ht
          · replace ht := ht.2 c14
            refine x_aload_n (pc2 := 78) 0 (n := 0) (x := a0) rfl dX12_thing_77 rfl ?_
            refine x_iload_n (pc2 := 79) 1 (n := 1) (x := x1) rfl dX12_thing_78 rfl ?_
            refine x_iload_n (pc2 := 80) 2 (n := 2) (x := x2) rfl dX12_thing_79 rfl ?_
            refine x_bipush (pc2 := 82) (v := 8) (by decide) dX12_thing_80 rfl ?_
            refine y_icmp_ne (pc2 := 85) 89 dX12_thing_82 (by decide) rfl (fun c19 => ?_) (fun c19 => ?_)
            · replace ht := ht.1 c19
              refine x_iconst (pc2 := 90) (v := 0) (by decide) dX12_thing_89 rfl ?_
              refine x_callV (pc2 := 93) (As := [.int x1, .int 0]) (rest := []) (b := a0) mv_X12_groundOf ml_X12_448 ((k4.up p3).up p9) rfl rfl (Nat.le_of_ble_eq_true rfl) hd1 dX12_thing_90 rfl (ht.mono (fun r20 h21 p22 ht' => ?_))
              clear ht
              obtain ⟨v23, rfl, ht⟩ := ht'
              show Ex G d mX12_thing 93 [(0, .ref a0), (1, .int x1), (2, .int x2)] [.int v23] h21 Q
              refine x_goto 104 dX12_thing_93 (by decide) ?_
              exact x_ret (ty := .int) rfl rfl dX12_thing_104 ht
            · replace ht := ht.2 c19
              refine x_iconst (pc2 := 86) (v := 1) (by decide) dX12_thing_85 rfl ?_
              refine x_goto 90 dX12_thing_86 (by decide) ?_
              refine x_callV (pc2 := 93) (As := [.int x1, .int 1]) (rest := []) (b := a0) mv_X12_groundOf ml_X12_448 ((k4.up p3).up p9) rfl rfl (Nat.le_of_ble_eq_true rfl) hd1 dX12_thing_90 rfl (ht.mono (fun r24 h25 p26 ht' => ?_))
              clear ht
              obtain ⟨v27, rfl, ht⟩ := ht'
              show Ex G d mX12_thing 93 [(0, .ref a0), (1, .int x1), (2, .int x2)] [.int v27] h25 Q
              refine x_goto 104 dX12_thing_93 (by decide) ?_
              exact x_ret (ty := .int) rfl rfl dX12_thing_104 ht
        · replace ht := ht.2 c13
          refine x_aload_n (pc2 := 64) 0 (n := 0) (x := a0) rfl dX12_thing_63 rfl ?_
          refine x_iload_n (pc2 := 65) 1 (n := 1) (x := x1) rfl dX12_thing_64 rfl ?_
          refine x_callV (pc2 := 68) (As := [.int x1]) (rest := []) (b := a0) mv_X12_deepOf ml_X12_351 ((k4.up p3).up p9) rfl rfl (Nat.le_of_ble_eq_true rfl) hd1 dX12_thing_65 rfl (ht.mono (fun r28 h29 p30 ht' => ?_))
          clear ht
          obtain ⟨v31, rfl, ht⟩ := ht'
          show Ex G d mX12_thing 68 [(0, .ref a0), (1, .int x1), (2, .int x2)] [.int v31] h29 Q
          refine x_goto 104 dX12_thing_68 (by decide) ?_
          exact x_ret (ty := .int) rfl rfl dX12_thing_104 ht
      · replace ht := ht.2 c12
        refine x_aload_n (pc2 := 30) 0 (n := 0) (x := a0) rfl dX12_thing_29 rfl ?_
        refine x_iload_n (pc2 := 31) 1 (n := 1) (x := x1) rfl dX12_thing_30 rfl ?_
        refine x_iload_n (pc2 := 32) 2 (n := 2) (x := x2) rfl dX12_thing_31 rfl ?_
        refine x_iconst (pc2 := 33) (v := 4) (by decide) dX12_thing_32 rfl ?_
        refine x_icmp_ge (pc2 := 36) 42 dX12_thing_33 (by decide) rfl (fun c32 => ?_) (fun c32 => ?_)
        · replace ht := ht.1 c32
          refine x_iload_n (pc2 := 43) 2 (n := 2) (x := x2) rfl dX12_thing_42 rfl ?_
          refine x_iconst (pc2 := 44) (v := 4) (by decide) dX12_thing_43 rfl ?_
          refine y_icmp_ne (pc2 := 47) 51 dX12_thing_44 (by decide) rfl (fun c33 => ?_) (fun c33 => ?_)
          · replace ht := ht.1 c33
            refine x_bipush (pc2 := 53) (v := 6) (by decide) dX12_thing_51 rfl ?_
            refine x_callV (pc2 := 56) (As := [.int x1, .int 6]) (rest := []) (b := a0) mv_X12_of ml_X12_310 ((k4.up p3).up p9) rfl rfl (Nat.le_of_ble_eq_true rfl) hd1 dX12_thing_53 rfl (ht.mono (fun r34 h35 p36 ht' => ?_))
            clear ht
            obtain ⟨v37, rfl, ht⟩ := ht'
            show Ex G d mX12_thing 56 [(0, .ref a0), (1, .int x1), (2, .int x2)] [.int v37] h35 Q
            exact x_ret (ty := .int) rfl rfl dX12_thing_56 ht
          · replace ht := ht.2 c33
            refine x_iconst (pc2 := 48) (v := 5) (by decide) dX12_thing_47 rfl ?_
            refine x_goto 53 dX12_thing_48 (by decide) ?_
            refine x_callV (pc2 := 56) (As := [.int x1, .int 5]) (rest := []) (b := a0) mv_X12_of ml_X12_310 ((k4.up p3).up p9) rfl rfl (Nat.le_of_ble_eq_true rfl) hd1 dX12_thing_53 rfl (ht.mono (fun r38 h39 p40 ht' => ?_))
            clear ht
            obtain ⟨v41, rfl, ht⟩ := ht'
            show Ex G d mX12_thing 56 [(0, .ref a0), (1, .int x1), (2, .int x2)] [.int v41] h39 Q
            exact x_ret (ty := .int) rfl rfl dX12_thing_56 ht
        · replace ht := ht.2 c32
          refine x_iload_n (pc2 := 37) 2 (n := 2) (x := x2) rfl dX12_thing_36 rfl ?_
          refine x_iconst (pc2 := 38) (v := 1) (by decide) dX12_thing_37 rfl ?_
          refine x_iadd (pc2 := 39) dX12_thing_38 rfl ?_
          refine x_goto 53 dX12_thing_39 (by decide) ?_
          refine x_callV (pc2 := 56) (As := [.int x1, .int (x2 + 1)]) (rest := []) (b := a0) mv_X12_of ml_X12_310 ((k4.up p3).up p9) rfl rfl (Nat.le_of_ble_eq_true rfl) hd1 dX12_thing_53 rfl (ht.mono (fun r42 h43 p44 ht' => ?_))
          clear ht
          obtain ⟨v45, rfl, ht⟩ := ht'
          show Ex G d mX12_thing 56 [(0, .ref a0), (1, .int x1), (2, .int x2)] [.int v45] h43 Q
          exact x_ret (ty := .int) rfl rfl dX12_thing_56 ht
    · replace ht := ht.2 c11
      refine x_bipush (pc2 := 22) (v := (-2)) (by decide) dX12_thing_20 rfl ?_
      exact x_ret (ty := .int) rfl rfl dX12_thing_22 ht
theorem e_X12_thing {G : GG} {d : Nat} {h : HP} {Q : Option Value → HP → Prop} {a0 : Nat} {x1 : Int32} {x2 : Int32} (hd1 : 1 ≤ d) (ht : T_X12_thing G d h Q a0 x1 x2) : Cal G d mX12_thing [.ref a0, .int x1, .int x2] h Q := cal_of rfl (Nat.le_of_ble_eq_true rfl) (t_X12_thing hd1 ht)
def T_X12_isInLand (G : GG) (d : Nat) (h : HP) (Q : Option Value → HP → Prop) (a0 : Nat) (x1 : Int32) (x2 : Int32) : Prop :=
  Kd G h a0 12 ∧ ∃ q2, hR h a0 29 = some q2 ∧ Kd G h q2 14 ∧ vp_in 0 (hN h q2) ∧ Cal G (d - 1) mX12_in [.long (x1.toInt64), .long 0, .long (((hI h q2 0) - 1).toInt64)] h (fun r6 h7 => ∃ v9, r6 = some (.int v9) ∧ ((v9 = 0 → Q (some (.int 0)) h7) ∧ (¬ v9 = 0 → ∃ q11, hR h7 a0 29 = some q11 ∧ Kd G h7 q11 14 ∧ vp_in 1 (hN h7 q11) ∧ Cal G (d - 1) mX12_in [.long (x2.toInt64), .long 0, .long (((hI h7 q11 1) - 1).toInt64)] h7 (fun r15 h16 => ∃ v18, r15 = some (.int v18) ∧ ((v18 = 0 → Q (some (.int 0)) h16) ∧ (¬ v18 = 0 → Q (some (.int 1)) h16))))))
set_option maxRecDepth 20000 in
theorem t_X12_isInLand {G : GG} {d : Nat} {h : HP} {Q : Option Value → HP → Prop} {a0 : Nat} {x1 : Int32} {x2 : Int32} (hd1 : 1 ≤ d) (ht : T_X12_isInLand G d h Q a0 x1 x2) : Ex G d mX12_isInLand 0 [(0, .ref a0), (1, .int x1), (2, .int x2)] [] h Q := by
  unfold T_X12_isInLand at ht
  refine x_iload_n (pc2 := 1) 1 (n := 1) (x := x1) rfl dX12_isInLand_0 rfl ?_
  refine x_i2l (pc2 := 2) dX12_isInLand_1 rfl ?_
  refine x_lconst (pc2 := 3) (v := 0) (by decide) dX12_isInLand_2 rfl ?_
  refine x_aload_n (pc2 := 4) 0 (n := 0) (x := a0) rfl dX12_isInLand_3 rfl ?_
  obtain ⟨k1, ht⟩ := ht
  obtain ⟨q2, e3, ht⟩ := ht
  refine y_getR (pc2 := 7) (κ := 12) (k := 29) fl_X12_48 (by decide) (by decide) k1 rfl e3 dX12_isInLand_4 rfl ?_
  refine x_iconst (pc2 := 8) (v := 0) (by decide) dX12_isInLand_7 rfl ?_
  obtain ⟨k4, ht⟩ := ht
  obtain ⟨b5, ht⟩ := ht
  refine z_iald (pc2 := 9) (k := 0) (by decide) k4 b5 dX12_isInLand_8 rfl ?_
  refine x_iconst (pc2 := 10) (v := 1) (by decide) dX12_isInLand_9 rfl ?_
  refine x_isub (pc2 := 11) dX12_isInLand_10 rfl ?_
  refine x_i2l (pc2 := 12) dX12_isInLand_11 rfl ?_
  refine x_callS (pc2 := 15) (As := [.long (x1.toInt64), .long 0, .long (((hI h q2 0) - 1).toInt64)]) (rest := []) ms_X12_in ml_X12_112 rfl rfl (Nat.le_of_ble_eq_true rfl) hd1 dX12_isInLand_12 rfl (ht.mono (fun r6 h7 p8 ht' => ?_))
  clear ht
  obtain ⟨v9, rfl, ht⟩ := ht'
  show Ex G d mX12_isInLand 15 [(0, .ref a0), (1, .int x1), (2, .int x2)] [.int v9] h7 Q
  refine x_if_eq (pc2 := 18) 40 dX12_isInLand_15 (by decide) rfl (fun c10 => ?_) (fun c10 => ?_)
  · replace ht := ht.1 c10
    refine x_iconst (pc2 := 41) (v := 0) (by decide) dX12_isInLand_40 rfl ?_
    exact x_retZ rfl (Or.inl rfl) dX12_isInLand_41 ht
  · replace ht := ht.2 c10
    refine x_iload_n (pc2 := 19) 2 (n := 2) (x := x2) rfl dX12_isInLand_18 rfl ?_
    refine x_i2l (pc2 := 20) dX12_isInLand_19 rfl ?_
    refine x_lconst (pc2 := 21) (v := 0) (by decide) dX12_isInLand_20 rfl ?_
    refine x_aload_n (pc2 := 22) 0 (n := 0) (x := a0) rfl dX12_isInLand_21 rfl ?_
    obtain ⟨q11, e12, ht⟩ := ht
    refine y_getR (pc2 := 25) (κ := 12) (k := 29) fl_X12_48 (by decide) (by decide) (k1.up p8) rfl e12 dX12_isInLand_22 rfl ?_
    refine x_iconst (pc2 := 26) (v := 1) (by decide) dX12_isInLand_25 rfl ?_
    obtain ⟨k13, ht⟩ := ht
    obtain ⟨b14, ht⟩ := ht
    refine z_iald (pc2 := 27) (k := 1) (by decide) k13 b14 dX12_isInLand_26 rfl ?_
    refine x_iconst (pc2 := 28) (v := 1) (by decide) dX12_isInLand_27 rfl ?_
    refine x_isub (pc2 := 29) dX12_isInLand_28 rfl ?_
    refine x_i2l (pc2 := 30) dX12_isInLand_29 rfl ?_
    refine x_callS (pc2 := 33) (As := [.long (x2.toInt64), .long 0, .long (((hI h7 q11 1) - 1).toInt64)]) (rest := []) ms_X12_in ml_X12_112 rfl rfl (Nat.le_of_ble_eq_true rfl) hd1 dX12_isInLand_30 rfl (ht.mono (fun r15 h16 p17 ht' => ?_))
    clear ht
    obtain ⟨v18, rfl, ht⟩ := ht'
    show Ex G d mX12_isInLand 33 [(0, .ref a0), (1, .int x1), (2, .int x2)] [.int v18] h16 Q
    refine x_if_eq (pc2 := 36) 40 dX12_isInLand_33 (by decide) rfl (fun c19 => ?_) (fun c19 => ?_)
    · replace ht := ht.1 c19
      refine x_iconst (pc2 := 41) (v := 0) (by decide) dX12_isInLand_40 rfl ?_
      exact x_retZ rfl (Or.inl rfl) dX12_isInLand_41 ht
    · replace ht := ht.2 c19
      refine x_iconst (pc2 := 37) (v := 1) (by decide) dX12_isInLand_36 rfl ?_
      refine x_goto 41 dX12_isInLand_37 (by decide) ?_
      exact x_retZ rfl (Or.inr rfl) dX12_isInLand_41 ht
theorem e_X12_isInLand {G : GG} {d : Nat} {h : HP} {Q : Option Value → HP → Prop} {a0 : Nat} {x1 : Int32} {x2 : Int32} (hd1 : 1 ≤ d) (ht : T_X12_isInLand G d h Q a0 x1 x2) : Cal G d mX12_isInLand [.ref a0, .int x1, .int x2] h Q := cal_of rfl (Nat.le_of_ble_eq_true rfl) (t_X12_isInLand hd1 ht)
def T_X12_cell (G : GG) (d : Nat) (h : HP) (Q : Option Value → HP → Prop) (a0 : Nat) (x1 : Int32) (x2 : Int32) (x3 : Int32) : Prop :=
  Kd G h a0 12 ∧ Cal G (d - 1) mX12_isInLand [.ref a0, .int x1, .int x2] h (fun r1 h2 => ∃ v5, r1 = some (.int v5) ∧ ((v5 = 0 → Q (some (.int (-2))) h2) ∧ (¬ v5 = 0 → Cal G (d - 1) mX12_in [.long (x3.toInt64), .long 0, .long 3] h2 (fun r7 h8 => ∃ v10, r7 = some (.int v10) ∧ ((¬ v10 = 0 → ∃ q12, hR h8 a0 29 = some q12 ∧ Kd G h8 q12 14 ∧ vp_in ((8 + (40 * x2)) + x1) (hN h8 q12) ∧ ((3 ≤ x3 → Ex G d mX12_cell 87 [(0, .ref a0), (1, .int x1), (2, .int x2), (3, .int x3), (4, .int (hI h8 q12 ((8 + (40 * x2)) + x1).toNatClampNeg)), (5, .int (-1)), (6, .int 0)] [] h8 Q) ∧ (¬ 3 ≤ x3 → ((¬ x3 = 0 → ((¬ x3 = 1 → Q (some (.int ((hI h8 q12 ((8 + (40 * x2)) + x1).toNatClampNeg) / 256))) h8) ∧ (x3 = 1 → Q (some (.int (irm ((hI h8 q12 ((8 + (40 * x2)) + x1).toNatClampNeg) / 128) 2))) h8))) ∧ (x3 = 0 → Q (some (.int (irm (hI h8 q12 ((8 + (40 * x2)) + x1).toNatClampNeg) 128))) h8))))) ∧ (v10 = 0 → Q (some (.int (-2))) h8))))))
set_option maxRecDepth 20000 in
theorem t_X12_cell {G : GG} {d : Nat} {h : HP} {Q : Option Value → HP → Prop} {a0 : Nat} {x1 : Int32} {x2 : Int32} {x3 : Int32} (hd1 : 1 ≤ d) (ht : T_X12_cell G d h Q a0 x1 x2 x3) : Ex G d mX12_cell 0 [(0, .ref a0), (1, .int x1), (2, .int x2), (3, .int x3)] [] h Q := by
  unfold T_X12_cell at ht
  refine x_aload_n (pc2 := 1) 0 (n := 0) (x := a0) rfl dX12_cell_0 rfl ?_
  refine x_iload_n (pc2 := 2) 1 (n := 1) (x := x1) rfl dX12_cell_1 rfl ?_
  refine x_iload_n (pc2 := 3) 2 (n := 2) (x := x2) rfl dX12_cell_2 rfl ?_
  obtain ⟨k4, ht⟩ := ht
  refine x_callV (pc2 := 6) (As := [.int x1, .int x2]) (rest := []) (b := a0) mv_X12_isInLand ml_X12_452 k4 rfl rfl (Nat.le_of_ble_eq_true rfl) hd1 dX12_cell_3 rfl (ht.mono (fun r1 h2 p3 ht' => ?_))
  clear ht
  obtain ⟨v5, rfl, ht⟩ := ht'
  show Ex G d mX12_cell 6 [(0, .ref a0), (1, .int x1), (2, .int x2), (3, .int x3)] [.int v5] h2 Q
  refine x_if_eq (pc2 := 9) 21 dX12_cell_6 (by decide) rfl (fun c6 => ?_) (fun c6 => ?_)
  · replace ht := ht.1 c6
    refine x_bipush (pc2 := 23) (v := (-2)) (by decide) dX12_cell_21 rfl ?_
    exact x_ret (ty := .int) rfl rfl dX12_cell_23 ht
  · replace ht := ht.2 c6
    refine x_iload_n (pc2 := 10) 3 (n := 3) (x := x3) rfl dX12_cell_9 rfl ?_
    refine x_i2l (pc2 := 11) dX12_cell_10 rfl ?_
    refine x_lconst (pc2 := 12) (v := 0) (by decide) dX12_cell_11 rfl ?_
    refine x_ldc2 (pc2 := 15) (v := 3) ct_X12_432 dX12_cell_12 rfl ?_
    refine x_callS (pc2 := 18) (As := [.long (x3.toInt64), .long 0, .long 3]) (rest := []) ms_X12_in ml_X12_112 rfl rfl (Nat.le_of_ble_eq_true rfl) hd1 dX12_cell_15 rfl (ht.mono (fun r7 h8 p9 ht' => ?_))
    clear ht
    obtain ⟨v10, rfl, ht⟩ := ht'
    show Ex G d mX12_cell 18 [(0, .ref a0), (1, .int x1), (2, .int x2), (3, .int x3)] [.int v10] h8 Q
    refine y_if_ne (pc2 := 21) 24 dX12_cell_18 (by decide) rfl (fun c11 => ?_) (fun c11 => ?_)
    · replace ht := ht.1 c11
      refine x_aload_n (pc2 := 25) 0 (n := 0) (x := a0) rfl dX12_cell_24 rfl ?_
      obtain ⟨q12, e13, ht⟩ := ht
      refine y_getR (pc2 := 28) (κ := 12) (k := 29) fl_X12_48 (by decide) (by decide) ((k4.up p3).up p9) rfl e13 dX12_cell_25 rfl ?_
      refine x_bipush (pc2 := 30) (v := 8) (by decide) dX12_cell_28 rfl ?_
      refine x_bipush (pc2 := 32) (v := 40) (by decide) dX12_cell_30 rfl ?_
      refine x_iload_n (pc2 := 33) 2 (n := 2) (x := x2) rfl dX12_cell_32 rfl ?_
      refine x_imul (pc2 := 34) dX12_cell_33 rfl ?_
      refine x_iadd (pc2 := 35) dX12_cell_34 rfl ?_
      refine x_iload_n (pc2 := 36) 1 (n := 1) (x := x1) rfl dX12_cell_35 rfl ?_
      refine x_iadd (pc2 := 37) dX12_cell_36 rfl ?_
      obtain ⟨k14, ht⟩ := ht
      obtain ⟨b15, ht⟩ := ht
      refine x_iald (pc2 := 38) k14 b15 dX12_cell_37 rfl ?_
      refine x_istore (pc2 := 40) [1, 2, 3, 4, 0] (n := 4) (x := (hI h8 q12 ((8 + (40 * x2)) + x1).toNatClampNeg)) (lv2 := [(0, .ref a0), (1, .int x1), (2, .int x2), (3, .int x3), (4, .int (hI h8 q12 ((8 + (40 * x2)) + x1).toNatClampNeg))]) (by decide) rfl dX12_cell_38 rfl ?_
      refine x_iload_n (pc2 := 41) 3 (n := 3) (x := x3) rfl dX12_cell_40 rfl ?_
      refine x_iconst (pc2 := 42) (v := 3) (by decide) dX12_cell_41 rfl ?_
      refine x_icmp_ge (pc2 := 45) 81 dX12_cell_42 (by decide) rfl (fun c16 => ?_) (fun c16 => ?_)
      · replace ht := ht.1 c16
        refine x_iconst (pc2 := 82) (v := (-1)) (by decide) dX12_cell_81 rfl ?_
        refine x_istore (pc2 := 84) [1, 2, 3, 4, 5, 0] (n := 5) (x := (-1)) (lv2 := [(0, .ref a0), (1, .int x1), (2, .int x2), (3, .int x3), (4, .int (hI h8 q12 ((8 + (40 * x2)) + x1).toNatClampNeg)), (5, .int (-1))]) (by decide) rfl dX12_cell_82 rfl ?_
        refine x_iconst (pc2 := 85) (v := 0) (by decide) dX12_cell_84 rfl ?_
        refine x_istore (pc2 := 87) [1, 2, 3, 4, 5, 6, 0] (n := 6) (x := 0) (lv2 := [(0, .ref a0), (1, .int x1), (2, .int x2), (3, .int x3), (4, .int (hI h8 q12 ((8 + (40 * x2)) + x1).toNatClampNeg)), (5, .int (-1)), (6, .int 0)]) (by decide) rfl dX12_cell_85 rfl ?_
        exact ht
      · replace ht := ht.2 c16
        refine x_iload_n (pc2 := 46) 3 (n := 3) (x := x3) rfl dX12_cell_45 rfl ?_
        refine y_if_ne (pc2 := 49) 58 dX12_cell_46 (by decide) rfl (fun c17 => ?_) (fun c17 => ?_)
        · replace ht := ht.1 c17
          refine x_iload_n (pc2 := 59) 3 (n := 3) (x := x3) rfl dX12_cell_58 rfl ?_
          refine x_iconst (pc2 := 60) (v := 1) (by decide) dX12_cell_59 rfl ?_
          refine y_icmp_ne (pc2 := 63) 74 dX12_cell_60 (by decide) rfl (fun c18 => ?_) (fun c18 => ?_)
          · replace ht := ht.1 c18
            refine x_iload (pc2 := 76) 4 (n := 4) (x := (hI h8 q12 ((8 + (40 * x2)) + x1).toNatClampNeg)) rfl dX12_cell_74 rfl ?_
            refine x_sipush (pc2 := 79) (v := 256) (by decide) dX12_cell_76 rfl ?_
            refine x_idiv (pc2 := 80) (by decide) dX12_cell_79 rfl ?_
            exact x_ret (ty := .int) rfl rfl dX12_cell_80 ht
          · replace ht := ht.2 c18
            refine x_iload (pc2 := 65) 4 (n := 4) (x := (hI h8 q12 ((8 + (40 * x2)) + x1).toNatClampNeg)) rfl dX12_cell_63 rfl ?_
            refine x_sipush (pc2 := 68) (v := 128) (by decide) dX12_cell_65 rfl ?_
            refine x_idiv (pc2 := 69) (by decide) dX12_cell_68 rfl ?_
            refine x_iconst (pc2 := 70) (v := 2) (by decide) dX12_cell_69 rfl ?_
            refine y_irem (pc2 := 71) (by decide) dX12_cell_70 rfl ?_
            refine x_goto 80 dX12_cell_71 (by decide) ?_
            exact x_ret (ty := .int) rfl rfl dX12_cell_80 ht
        · replace ht := ht.2 c17
          refine x_iload (pc2 := 51) 4 (n := 4) (x := (hI h8 q12 ((8 + (40 * x2)) + x1).toNatClampNeg)) rfl dX12_cell_49 rfl ?_
          refine x_sipush (pc2 := 54) (v := 128) (by decide) dX12_cell_51 rfl ?_
          refine y_irem (pc2 := 55) (by decide) dX12_cell_54 rfl ?_
          refine x_goto 80 dX12_cell_55 (by decide) ?_
          exact x_ret (ty := .int) rfl rfl dX12_cell_80 ht
    · replace ht := ht.2 c11
      refine x_bipush (pc2 := 23) (v := (-2)) (by decide) dX12_cell_21 rfl ?_
      exact x_ret (ty := .int) rfl rfl dX12_cell_23 ht
theorem e_X12_cell {G : GG} {d : Nat} {h : HP} {Q : Option Value → HP → Prop} {a0 : Nat} {x1 : Int32} {x2 : Int32} {x3 : Int32} (hd1 : 1 ≤ d) (ht : T_X12_cell G d h Q a0 x1 x2 x3) : Cal G d mX12_cell [.ref a0, .int x1, .int x2, .int x3] h Q := cal_of rfl (Nat.le_of_ble_eq_true rfl) (t_X12_cell hd1 ht)
def T_X12_cell_87 (G : GG) (d : Nat) (h : HP) (Q : Option Value → HP → Prop) (a0 : Nat) (x1 : Int32) (x2 : Int32) (x3 : Int32) (x4 : Int32) (x5 : Int32) (x6 : Int32) : Prop :=
  ((30 ≤ x6 → Q (some (.int x5)) h) ∧ (¬ 30 ≤ x6 → Kd G h a0 12 ∧ Cal G (d - 1) mX12_of [.ref a0, .int x6, .int 0] h (fun r2 h3 => ∃ v6, r2 = some (.int v6) ∧ ((¬ v6 = 1 → Ex G d mX12_cell 87 [(0, .ref a0), (1, .int x1), (2, .int x2), (3, .int x3), (4, .int x4), (5, .int x5), (6, .int (x6 + 1))] [] h3 Q) ∧ (v6 = 1 → Cal G (d - 1) mX12_hasCell [.ref a0, .int x6, .int x1, .int x2] h3 (fun r8 h9 => ∃ v11, r8 = some (.int v11) ∧ ((v11 = 0 → Ex G d mX12_cell 87 [(0, .ref a0), (1, .int x1), (2, .int x2), (3, .int x3), (4, .int x4), (5, .int x5), (6, .int (x6 + 1))] [] h9 Q) ∧ (¬ v11 = 0 → ((x5 < 0 → Ex G d mX12_cell 87 [(0, .ref a0), (1, .int x1), (2, .int x2), (3, .int x3), (4, .int x4), (5, .int x6), (6, .int (x6 + 1))] [] h9 Q) ∧ (¬ x5 < 0 → Cal G (d - 1) mX12_cellsOf [.ref a0, .int x6] h9 (fun r14 h15 => ∃ v17, r14 = some (.int v17) ∧ Cal G (d - 1) mX12_cellsOf [.ref a0, .int x5] h15 (fun r18 h19 => ∃ v21, r18 = some (.int v21) ∧ ((v21 ≤ v17 → Ex G d mX12_cell 87 [(0, .ref a0), (1, .int x1), (2, .int x2), (3, .int x3), (4, .int x4), (5, .int x5), (6, .int (x6 + 1))] [] h19 Q) ∧ (¬ v21 ≤ v17 → Ex G d mX12_cell 87 [(0, .ref a0), (1, .int x1), (2, .int x2), (3, .int x3), (4, .int x4), (5, .int x6), (6, .int (x6 + 1))] [] h19 Q))))))))))))))
set_option maxRecDepth 20000 in
theorem t_X12_cell_87 {G : GG} {d : Nat} {h : HP} {Q : Option Value → HP → Prop} {a0 : Nat} {x1 : Int32} {x2 : Int32} {x3 : Int32} {x4 : Int32} {x5 : Int32} {x6 : Int32} (hd1 : 1 ≤ d) (ht : T_X12_cell_87 G d h Q a0 x1 x2 x3 x4 x5 x6) : Ex G d mX12_cell 87 [(0, .ref a0), (1, .int x1), (2, .int x2), (3, .int x3), (4, .int x4), (5, .int x5), (6, .int x6)] [] h Q := by
  unfold T_X12_cell_87 at ht
  refine x_iload (pc2 := 89) 6 (n := 6) (x := x6) rfl dX12_cell_87 rfl ?_
  refine x_bipush (pc2 := 91) (v := 30) (by decide) dX12_cell_89 rfl ?_
  refine x_icmp_ge (pc2 := 94) 146 dX12_cell_91 (by decide) rfl (fun c1 => ?_) (fun c1 => ?_)
  · replace ht := ht.1 c1
    refine x_iload (pc2 := 148) 5 (n := 5) (x := x5) rfl dX12_cell_146 rfl ?_
    exact x_ret (ty := .int) rfl rfl dX12_cell_148 ht
  · replace ht := ht.2 c1
    refine x_aload_n (pc2 := 95) 0 (n := 0) (x := a0) rfl dX12_cell_94 rfl ?_
    refine x_iload (pc2 := 97) 6 (n := 6) (x := x6) rfl dX12_cell_95 rfl ?_
    refine x_iconst (pc2 := 98) (v := 0) (by decide) dX12_cell_97 rfl ?_
    obtain ⟨k5, ht⟩ := ht
    refine x_callV (pc2 := 101) (As := [.int x6, .int 0]) (rest := []) (b := a0) mv_X12_of ml_X12_310 k5 rfl rfl (Nat.le_of_ble_eq_true rfl) hd1 dX12_cell_98 rfl (ht.mono (fun r2 h3 p4 ht' => ?_))
    clear ht
    obtain ⟨v6, rfl, ht⟩ := ht'
    show Ex G d mX12_cell 101 [(0, .ref a0), (1, .int x1), (2, .int x2), (3, .int x3), (4, .int x4), (5, .int x5), (6, .int x6)] [.int v6] h3 Q
    refine x_iconst (pc2 := 102) (v := 1) (by decide) dX12_cell_101 rfl ?_
    refine y_icmp_ne (pc2 := 105) 140 dX12_cell_102 (by decide) rfl (fun c7 => ?_) (fun c7 => ?_)
    · replace ht := ht.1 c7
      refine x_iinc (pc2 := 143) 6 [1, 2, 3, 4, 5, 6, 0] (i := 6) (x := x6) (v := (x6 + 1)) (lv2 := [(0, .ref a0), (1, .int x1), (2, .int x2), (3, .int x3), (4, .int x4), (5, .int x5), (6, .int (x6 + 1))]) rfl (iinc_eq (by decide) _) (by decide) rfl dX12_cell_140 rfl ?_
      refine x_goto 87 dX12_cell_143 (by decide) ?_
      exact ht
    · replace ht := ht.2 c7
      refine x_aload_n (pc2 := 106) 0 (n := 0) (x := a0) rfl dX12_cell_105 rfl ?_
      refine x_iload (pc2 := 108) 6 (n := 6) (x := x6) rfl dX12_cell_106 rfl ?_
      refine x_iload_n (pc2 := 109) 1 (n := 1) (x := x1) rfl dX12_cell_108 rfl ?_
      refine x_iload_n (pc2 := 110) 2 (n := 2) (x := x2) rfl dX12_cell_109 rfl ?_
      refine x_callV (pc2 := 113) (As := [.int x6, .int x1, .int x2]) (rest := []) (b := a0) mv_X12_hasCell ml_X12_347 (k5.up p4) rfl rfl (Nat.le_of_ble_eq_true rfl) hd1 dX12_cell_110 rfl (ht.mono (fun r8 h9 p10 ht' => ?_))
      clear ht
      obtain ⟨v11, rfl, ht⟩ := ht'
      show Ex G d mX12_cell 113 [(0, .ref a0), (1, .int x1), (2, .int x2), (3, .int x3), (4, .int x4), (5, .int x5), (6, .int x6)] [.int v11] h9 Q
      refine x_if_eq (pc2 := 116) 140 dX12_cell_113 (by decide) rfl (fun c12 => ?_) (fun c12 => ?_)
      · replace ht := ht.1 c12
        refine x_iinc (pc2 := 143) 6 [1, 2, 3, 4, 5, 6, 0] (i := 6) (x := x6) (v := (x6 + 1)) (lv2 := [(0, .ref a0), (1, .int x1), (2, .int x2), (3, .int x3), (4, .int x4), (5, .int x5), (6, .int (x6 + 1))]) rfl (iinc_eq (by decide) _) (by decide) rfl dX12_cell_140 rfl ?_
        refine x_goto 87 dX12_cell_143 (by decide) ?_
        exact ht
      · replace ht := ht.2 c12
        refine x_iload (pc2 := 118) 5 (n := 5) (x := x5) rfl dX12_cell_116 rfl ?_
        refine x_if_lt (pc2 := 121) 136 dX12_cell_118 (by decide) rfl (fun c13 => ?_) (fun c13 => ?_)
        · replace ht := ht.1 c13
          refine x_iload (pc2 := 138) 6 (n := 6) (x := x6) rfl dX12_cell_136 rfl ?_
          refine x_istore (pc2 := 140) [1, 2, 3, 4, 5, 0, 6] (n := 5) (x := x6) (lv2 := [(0, .ref a0), (1, .int x1), (2, .int x2), (3, .int x3), (4, .int x4), (5, .int x6), (6, .int x6)]) (by decide) rfl dX12_cell_138 rfl ?_
          refine x_iinc (pc2 := 143) 6 [1, 2, 3, 4, 5, 6, 0] (i := 6) (x := x6) (v := (x6 + 1)) (lv2 := [(0, .ref a0), (1, .int x1), (2, .int x2), (3, .int x3), (4, .int x4), (5, .int x6), (6, .int (x6 + 1))]) rfl (iinc_eq (by decide) _) (by decide) rfl dX12_cell_140 rfl ?_
          refine x_goto 87 dX12_cell_143 (by decide) ?_
          exact ht
        · replace ht := ht.2 c13
          refine x_aload_n (pc2 := 122) 0 (n := 0) (x := a0) rfl dX12_cell_121 rfl ?_
          refine x_iload (pc2 := 124) 6 (n := 6) (x := x6) rfl dX12_cell_122 rfl ?_
          refine x_callV (pc2 := 127) (As := [.int x6]) (rest := []) (b := a0) mv_X12_cellsOf ml_X12_455 ((k5.up p4).up p10) rfl rfl (Nat.le_of_ble_eq_true rfl) hd1 dX12_cell_124 rfl (ht.mono (fun r14 h15 p16 ht' => ?_))
          clear ht
          obtain ⟨v17, rfl, ht⟩ := ht'
          show Ex G d mX12_cell 127 [(0, .ref a0), (1, .int x1), (2, .int x2), (3, .int x3), (4, .int x4), (5, .int x5), (6, .int x6)] [.int v17] h15 Q
          refine x_aload_n (pc2 := 128) 0 (n := 0) (x := a0) rfl dX12_cell_127 rfl ?_
          refine x_iload (pc2 := 130) 5 (n := 5) (x := x5) rfl dX12_cell_128 rfl ?_
          refine x_callV (pc2 := 133) (As := [.int x5]) (rest := [.int v17]) (b := a0) mv_X12_cellsOf ml_X12_455 (((k5.up p4).up p10).up p16) rfl rfl (Nat.le_of_ble_eq_true rfl) hd1 dX12_cell_130 rfl (ht.mono (fun r18 h19 p20 ht' => ?_))
          clear ht
          obtain ⟨v21, rfl, ht⟩ := ht'
          show Ex G d mX12_cell 133 [(0, .ref a0), (1, .int x1), (2, .int x2), (3, .int x3), (4, .int x4), (5, .int x5), (6, .int x6)] [.int v21, .int v17] h19 Q
          refine x_icmp_ge (pc2 := 136) 140 dX12_cell_133 (by decide) rfl (fun c22 => ?_) (fun c22 => ?_)
          · replace ht := ht.1 c22
            refine x_iinc (pc2 := 143) 6 [1, 2, 3, 4, 5, 6, 0] (i := 6) (x := x6) (v := (x6 + 1)) (lv2 := [(0, .ref a0), (1, .int x1), (2, .int x2), (3, .int x3), (4, .int x4), (5, .int x5), (6, .int (x6 + 1))]) rfl (iinc_eq (by decide) _) (by decide) rfl dX12_cell_140 rfl ?_
            refine x_goto 87 dX12_cell_143 (by decide) ?_
            exact ht
          · replace ht := ht.2 c22
            refine x_iload (pc2 := 138) 6 (n := 6) (x := x6) rfl dX12_cell_136 rfl ?_
            refine x_istore (pc2 := 140) [1, 2, 3, 4, 5, 0, 6] (n := 5) (x := x6) (lv2 := [(0, .ref a0), (1, .int x1), (2, .int x2), (3, .int x3), (4, .int x4), (5, .int x6), (6, .int x6)]) (by decide) rfl dX12_cell_138 rfl ?_
            refine x_iinc (pc2 := 143) 6 [1, 2, 3, 4, 5, 6, 0] (i := 6) (x := x6) (v := (x6 + 1)) (lv2 := [(0, .ref a0), (1, .int x1), (2, .int x2), (3, .int x3), (4, .int x4), (5, .int x6), (6, .int (x6 + 1))]) rfl (iinc_eq (by decide) _) (by decide) rfl dX12_cell_140 rfl ?_
            refine x_goto 87 dX12_cell_143 (by decide) ?_
            exact ht
def T_X12_inside (G : GG) (d : Nat) (h : HP) (Q : Option Value → HP → Prop) (a0 : Nat) (x1 : Int32) (x2 : Int32) : Prop :=
  Kd G h a0 12 ∧ Cal G (d - 1) mX12_isThing [.ref a0, .int x1] h (fun r1 h2 => ∃ v5, r1 = some (.int v5) ∧ ((v5 = 0 → Q (some (.int (-1))) h2) ∧ (¬ v5 = 0 → Cal G (d - 1) mX12_isThing [.ref a0, .int x2] h2 (fun r7 h8 => ∃ v10, r7 = some (.int v10) ∧ ((¬ v10 = 0 → Cal G (d - 1) mX12_liesIn [.ref a0, .int x1, .int x2] h8 (fun r12 h13 => ∃ v15, r12 = some (.int v15) ∧ ((v15 = 0 → Q (some (.int 0)) h13) ∧ (¬ v15 = 0 → Q (some (.int 1)) h13)))) ∧ (v10 = 0 → Q (some (.int (-1))) h8))))))
set_option maxRecDepth 20000 in
theorem t_X12_inside {G : GG} {d : Nat} {h : HP} {Q : Option Value → HP → Prop} {a0 : Nat} {x1 : Int32} {x2 : Int32} (hd1 : 1 ≤ d) (ht : T_X12_inside G d h Q a0 x1 x2) : Ex G d mX12_inside 0 [(0, .ref a0), (1, .int x1), (2, .int x2)] [] h Q := by
  unfold T_X12_inside at ht
  refine x_aload_n (pc2 := 1) 0 (n := 0) (x := a0) rfl dX12_inside_0 rfl ?_
  refine x_iload_n (pc2 := 2) 1 (n := 1) (x := x1) rfl dX12_inside_1 rfl ?_
  obtain ⟨k4, ht⟩ := ht
  refine x_callV (pc2 := 5) (As := [.int x1]) (rest := []) (b := a0) mv_X12_isThing ml_X12_314 k4 rfl rfl (Nat.le_of_ble_eq_true rfl) hd1 dX12_inside_2 rfl (ht.mono (fun r1 h2 p3 ht' => ?_))
  clear ht
  obtain ⟨v5, rfl, ht⟩ := ht'
  show Ex G d mX12_inside 5 [(0, .ref a0), (1, .int x1), (2, .int x2)] [.int v5] h2 Q
  refine x_if_eq (pc2 := 8) 16 dX12_inside_5 (by decide) rfl (fun c6 => ?_) (fun c6 => ?_)
  · replace ht := ht.1 c6
    refine x_iconst (pc2 := 17) (v := (-1)) (by decide) dX12_inside_16 rfl ?_
    refine x_goto 34 dX12_inside_17 (by decide) ?_
    exact x_ret (ty := .int) rfl rfl dX12_inside_34 ht
  · replace ht := ht.2 c6
    refine x_aload_n (pc2 := 9) 0 (n := 0) (x := a0) rfl dX12_inside_8 rfl ?_
    refine x_iload_n (pc2 := 10) 2 (n := 2) (x := x2) rfl dX12_inside_9 rfl ?_
    refine x_callV (pc2 := 13) (As := [.int x2]) (rest := []) (b := a0) mv_X12_isThing ml_X12_314 (k4.up p3) rfl rfl (Nat.le_of_ble_eq_true rfl) hd1 dX12_inside_10 rfl (ht.mono (fun r7 h8 p9 ht' => ?_))
    clear ht
    obtain ⟨v10, rfl, ht⟩ := ht'
    show Ex G d mX12_inside 13 [(0, .ref a0), (1, .int x1), (2, .int x2)] [.int v10] h8 Q
    refine y_if_ne (pc2 := 16) 20 dX12_inside_13 (by decide) rfl (fun c11 => ?_) (fun c11 => ?_)
    · replace ht := ht.1 c11
      refine x_aload_n (pc2 := 21) 0 (n := 0) (x := a0) rfl dX12_inside_20 rfl ?_
      refine x_iload_n (pc2 := 22) 1 (n := 1) (x := x1) rfl dX12_inside_21 rfl ?_
      refine x_iload_n (pc2 := 23) 2 (n := 2) (x := x2) rfl dX12_inside_22 rfl ?_
      refine x_callV (pc2 := 26) (As := [.int x1, .int x2]) (rest := []) (b := a0) mv_X12_liesIn ml_X12_317 ((k4.up p3).up p9) rfl rfl (Nat.le_of_ble_eq_true rfl) hd1 dX12_inside_23 rfl (ht.mono (fun r12 h13 p14 ht' => ?_))
      clear ht
      obtain ⟨v15, rfl, ht⟩ := ht'
      show Ex G d mX12_inside 26 [(0, .ref a0), (1, .int x1), (2, .int x2)] [.int v15] h13 Q
      refine x_if_eq (pc2 := 29) 33 dX12_inside_26 (by decide) rfl (fun c16 => ?_) (fun c16 => ?_)
      · replace ht := ht.1 c16
        refine x_iconst (pc2 := 34) (v := 0) (by decide) dX12_inside_33 rfl ?_
        exact x_ret (ty := .int) rfl rfl dX12_inside_34 ht
      · replace ht := ht.2 c16
        refine x_iconst (pc2 := 30) (v := 1) (by decide) dX12_inside_29 rfl ?_
        refine x_goto 34 dX12_inside_30 (by decide) ?_
        exact x_ret (ty := .int) rfl rfl dX12_inside_34 ht
    · replace ht := ht.2 c11
      refine x_iconst (pc2 := 17) (v := (-1)) (by decide) dX12_inside_16 rfl ?_
      refine x_goto 34 dX12_inside_17 (by decide) ?_
      exact x_ret (ty := .int) rfl rfl dX12_inside_34 ht
theorem e_X12_inside {G : GG} {d : Nat} {h : HP} {Q : Option Value → HP → Prop} {a0 : Nat} {x1 : Int32} {x2 : Int32} (hd1 : 1 ≤ d) (ht : T_X12_inside G d h Q a0 x1 x2) : Cal G d mX12_inside [.ref a0, .int x1, .int x2] h Q := cal_of rfl (Nat.le_of_ble_eq_true rfl) (t_X12_inside hd1 ht)
