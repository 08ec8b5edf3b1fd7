def T_X11_init (G : GG) (d : Nat) (h : HP) (Q : Option Value → HP → Prop) (a0 : Nat) : Prop :=
  ∀ q1 h2, q1 = hZ h → h2 = nw h 8 11 → Cal G (d - 1) mX8_init [.ref q1] h2 (fun r6 h7 => r6 = none ∧ Kd G h7 a0 11 ∧ ∀ q10 h11, q10 = hZ (sR h7 a0 0 (some q1)) → h11 = nw (sR h7 a0 0 (some q1)) 2 5 → Cal G (d - 1) mX2_init [.ref q10] h11 (fun r15 h16 => r15 = none ∧ ∀ q18 h19, q18 = hZ (sR h16 a0 1 (some q10)) → h19 = nw (sR h16 a0 1 (some q10)) 5 9 → Cal G (d - 1) mX5_init [.ref q18] h19 (fun r23 h24 => r23 = none ∧ ∀ q26 h27, q26 = hZ (sR h24 a0 2 (some q18)) → h27 = nw (sR h24 a0 2 (some q18)) 18 ((6 : Int32).toNatClampNeg) → ∀ q31 h32, q31 = hZ (sR h27 a0 3 (some q26)) → h32 = nw (sR h27 a0 3 (some q26)) 18 ((6 : Int32).toNatClampNeg) → ∀ q36 h37, q36 = hZ (sR h32 a0 4 (some q31)) → h37 = nw (sR h32 a0 4 (some q31)) 19 ((4 : Int32).toNatClampNeg) → ∀ q41 h42, q41 = hZ (sR h37 a0 5 (some q36)) → h42 = nw (sR h37 a0 5 (some q36)) 7 5 → Cal G (d - 1) mX7_init [.ref q41] h42 (fun r46 h47 => r46 = none ∧ ∀ q49 h50, q49 = hZ (sR h47 a0 6 (some q41)) → h50 = nw (sR h47 a0 6 (some q41)) 10 11 → Cal G (d - 1) mX10_init [.ref q49] h50 (fun r54 h55 => r54 = none ∧ ∀ q57 h58, q57 = hZ (sR h55 a0 7 (some q49)) → h58 = nw (sR h55 a0 7 (some q49)) 3 18 → Cal G (d - 1) mX3_init [.ref q57] h58 (fun r62 h63 => r62 = none ∧ ∀ q65 h66, q65 = hZ (sR h63 a0 8 (some q57)) → h66 = nw (sR h63 a0 8 (some q57)) 3 18 → Cal G (d - 1) mX3_init [.ref q65] h66 (fun r70 h71 => r70 = none ∧ ∀ q73 h74, q73 = hZ (sR h71 a0 9 (some q65)) → h74 = nw (sR h71 a0 9 (some q65)) 0 7 → Cal G (d - 1) mX0_init [.ref q73] h74 (fun r78 h79 => r78 = none ∧ ∀ q81 h82, q81 = hZ (sR h79 a0 10 (some q73)) → h82 = nw (sR h79 a0 10 (some q73)) 0 7 → Cal G (d - 1) mX0_init [.ref q81] h82 (fun r86 h87 => r86 = none ∧ ∀ q89 h90, q89 = hZ (sR h87 a0 11 (some q81)) → h90 = nw (sR h87 a0 11 (some q81)) 6 9 → Cal G (d - 1) mX6_init [.ref q89] h90 (fun r94 h95 => r94 = none ∧ ∀ q97 h98, q97 = hZ (sR h95 a0 12 (some q89)) → h98 = nw (sR h95 a0 12 (some q89)) 6 9 → Cal G (d - 1) mX6_init [.ref q97] h98 (fun r102 h103 => r102 = none ∧ Q none (sR h103 a0 13 (some q97)))))))))))))
set_option maxRecDepth 20000 in
theorem t_X11_init {G : GG} {d : Nat} {h : HP} {Q : Option Value → HP → Prop} {a0 : Nat} (hd1 : 1 ≤ d) (ht : T_X11_init G d h Q a0) : Ex G d mX11_init 0 [(0, .ref a0)] [] h Q := by
  unfold T_X11_init at ht
  refine x_aload_n (pc2 := 1) 0 (n := 0) (x := a0) rfl dX11_init_0 rfl ?_
  refine x_objInit (pc2 := 4) ml_X11_3 hd1 (Nat.le_of_ble_eq_true rfl) dX11_init_1 rfl ?_
  refine x_aload_n (pc2 := 5) 0 (n := 0) (x := a0) rfl dX11_init_4 rfl ?_
  refine y_new (pc2 := 8) (κ := 8) cl_X11_9 (by decide) dX11_init_5 rfl (fun q1 h2 e3 e4 p5 => ?_)
  replace ht := ht q1 h2 e3 e4
  refine x_dup (pc2 := 9) rfl dX11_init_8 rfl ?_
  refine x_callIN (pc2 := 12) (As := []) (rest := [.ref q1, .ref a0]) (b := q1) mi_X8_init nl_X11_11 rfl rfl (Nat.le_of_ble_eq_true rfl) hd1 dX11_init_9 rfl (ht.mono (fun r6 h7 p8 ht' => ?_))
  clear ht
  obtain ⟨rfl, ht⟩ := ht'
  show Ex G d mX11_init 12 [(0, .ref a0)] [.ref q1, .ref a0] h7 Q
  obtain ⟨k9, ht⟩ := ht
  refine x_putR (pc2 := 15) (v := (some q1)) (κ := 11) (k := 0) fl_X11_12 (by decide) (by decide) (Or.inr ⟨rfl, rfl⟩) (isRt_o _) k9 dX11_init_12 rfl ?_
  refine x_aload_n (pc2 := 16) 0 (n := 0) (x := a0) rfl dX11_init_15 rfl ?_
  refine y_new (pc2 := 19) (κ := 2) cl_X11_16 (by decide) dX11_init_16 rfl (fun q10 h11 e12 e13 p14 => ?_)
  replace ht := ht q10 h11 e12 e13
  refine x_dup (pc2 := 20) rfl dX11_init_19 rfl ?_
  refine x_callIN (pc2 := 23) (As := []) (rest := [.ref q10, .ref a0]) (b := q10) mi_X2_init nl_X11_18 rfl rfl (Nat.le_of_ble_eq_true rfl) hd1 dX11_init_20 rfl (ht.mono (fun r15 h16 p17 ht' => ?_))
  clear ht
  obtain ⟨rfl, ht⟩ := ht'
  show Ex G d mX11_init 23 [(0, .ref a0)] [.ref q10, .ref a0] h16 Q
  refine x_putR (pc2 := 26) (v := (some q10)) (κ := 11) (k := 1) fl_X11_19 (by decide) (by decide) (Or.inr ⟨rfl, rfl⟩) (isRt_o _) ((k9.sR.up p14).up p17) dX11_init_23 rfl ?_
  refine x_aload_n (pc2 := 27) 0 (n := 0) (x := a0) rfl dX11_init_26 rfl ?_
  refine y_new (pc2 := 30) (κ := 5) cl_X11_23 (by decide) dX11_init_27 rfl (fun q18 h19 e20 e21 p22 => ?_)
  replace ht := ht q18 h19 e20 e21
  refine x_dup (pc2 := 31) rfl dX11_init_30 rfl ?_
  refine x_callIN (pc2 := 34) (As := []) (rest := [.ref q18, .ref a0]) (b := q18) mi_X5_init nl_X11_25 rfl rfl (Nat.le_of_ble_eq_true rfl) hd1 dX11_init_31 rfl (ht.mono (fun r23 h24 p25 ht' => ?_))
  clear ht
  obtain ⟨rfl, ht⟩ := ht'
  show Ex G d mX11_init 34 [(0, .ref a0)] [.ref q18, .ref a0] h24 Q
  refine x_putR (pc2 := 37) (v := (some q18)) (κ := 11) (k := 2) fl_X11_26 (by decide) (by decide) (Or.inr ⟨rfl, rfl⟩) (isRt_o _) ((((k9.sR.up p14).up p17).sR.up p22).up p25) dX11_init_34 rfl ?_
  refine x_aload_n (pc2 := 38) 0 (n := 0) (x := a0) rfl dX11_init_37 rfl ?_
  refine x_bipush (pc2 := 40) (v := 6) (by decide) dX11_init_38 rfl ?_
  refine y_newq (pc2 := 43) (κ := 18) cl_X11_30 (by decide) (by decide) (by decide) (by decide) (by decide) dX11_init_40 rfl (fun q26 h27 e28 e29 p30 => ?_)
  replace ht := ht q26 h27 e28 e29
  refine x_putR (pc2 := 46) (v := (some q26)) (κ := 11) (k := 3) fl_X11_32 (by decide) (by decide) (Or.inr ⟨rfl, rfl⟩) (isRt_a _) (((((k9.sR.up p14).up p17).sR.up p22).up p25).sR.up p30) dX11_init_43 rfl ?_
  refine x_aload_n (pc2 := 47) 0 (n := 0) (x := a0) rfl dX11_init_46 rfl ?_
  refine x_bipush (pc2 := 49) (v := 6) (by decide) dX11_init_47 rfl ?_
  refine y_newq (pc2 := 52) (κ := 18) cl_X11_30 (by decide) (by decide) (by decide) (by decide) (by decide) dX11_init_49 rfl (fun q31 h32 e33 e34 p35 => ?_)
  replace ht := ht q31 h32 e33 e34
  refine x_putR (pc2 := 55) (v := (some q31)) (κ := 11) (k := 4) fl_X11_36 (by decide) (by decide) (Or.inr ⟨rfl, rfl⟩) (isRt_a _) ((((((k9.sR.up p14).up p17).sR.up p22).up p25).sR.up p30).sR.up p35) dX11_init_52 rfl ?_
  refine x_aload_n (pc2 := 56) 0 (n := 0) (x := a0) rfl dX11_init_55 rfl ?_
  refine x_iconst (pc2 := 57) (v := 4) (by decide) dX11_init_56 rfl ?_
  refine y_newq (pc2 := 60) (κ := 19) cl_X11_39 (by decide) (by decide) (by decide) (by decide) (by decide) dX11_init_57 rfl (fun q36 h37 e38 e39 p40 => ?_)
  replace ht := ht q36 h37 e38 e39
  refine x_putR (pc2 := 63) (v := (some q36)) (κ := 11) (k := 5) fl_X11_41 (by decide) (by decide) (Or.inr ⟨rfl, rfl⟩) (isRt_a _) (((((((k9.sR.up p14).up p17).sR.up p22).up p25).sR.up p30).sR.up p35).sR.up p40) dX11_init_60 rfl ?_
  refine x_aload_n (pc2 := 64) 0 (n := 0) (x := a0) rfl dX11_init_63 rfl ?_
  refine y_new (pc2 := 67) (κ := 7) cl_X11_45 (by decide) dX11_init_64 rfl (fun q41 h42 e43 e44 p45 => ?_)
  replace ht := ht q41 h42 e43 e44
  refine x_dup (pc2 := 68) rfl dX11_init_67 rfl ?_
  refine x_callIN (pc2 := 71) (As := []) (rest := [.ref q41, .ref a0]) (b := q41) mi_X7_init nl_X11_47 rfl rfl (Nat.le_of_ble_eq_true rfl) hd1 dX11_init_68 rfl (ht.mono (fun r46 h47 p48 ht' => ?_))
  clear ht
  obtain ⟨rfl, ht⟩ := ht'
  show Ex G d mX11_init 71 [(0, .ref a0)] [.ref q41, .ref a0] h47 Q
  refine x_putR (pc2 := 74) (v := (some q41)) (κ := 11) (k := 6) fl_X11_48 (by decide) (by decide) (Or.inr ⟨rfl, rfl⟩) (isRt_o _) (((((((((k9.sR.up p14).up p17).sR.up p22).up p25).sR.up p30).sR.up p35).sR.up p40).sR.up p45).up p48) dX11_init_71 rfl ?_
  refine x_aload_n (pc2 := 75) 0 (n := 0) (x := a0) rfl dX11_init_74 rfl ?_
  refine y_new (pc2 := 78) (κ := 10) cl_X11_52 (by decide) dX11_init_75 rfl (fun q49 h50 e51 e52 p53 => ?_)
  replace ht := ht q49 h50 e51 e52
  refine x_dup (pc2 := 79) rfl dX11_init_78 rfl ?_
  refine x_callIN (pc2 := 82) (As := []) (rest := [.ref q49, .ref a0]) (b := q49) mi_X10_init nl_X11_54 rfl rfl (Nat.le_of_ble_eq_true rfl) hd1 dX11_init_79 rfl (ht.mono (fun r54 h55 p56 ht' => ?_))
  clear ht
  obtain ⟨rfl, ht⟩ := ht'
  show Ex G d mX11_init 82 [(0, .ref a0)] [.ref q49, .ref a0] h55 Q
  refine x_putR (pc2 := 85) (v := (some q49)) (κ := 11) (k := 7) fl_X11_55 (by decide) (by decide) (Or.inr ⟨rfl, rfl⟩) (isRt_o _) (((((((((((k9.sR.up p14).up p17).sR.up p22).up p25).sR.up p30).sR.up p35).sR.up p40).sR.up p45).up p48).sR.up p53).up p56) dX11_init_82 rfl ?_
  refine x_aload_n (pc2 := 86) 0 (n := 0) (x := a0) rfl dX11_init_85 rfl ?_
  refine y_new (pc2 := 89) (κ := 3) cl_X11_59 (by decide) dX11_init_86 rfl (fun q57 h58 e59 e60 p61 => ?_)
  replace ht := ht q57 h58 e59 e60
  refine x_dup (pc2 := 90) rfl dX11_init_89 rfl ?_
  refine x_callIN (pc2 := 93) (As := []) (rest := [.ref q57, .ref a0]) (b := q57) mi_X3_init nl_X11_61 rfl rfl (Nat.le_of_ble_eq_true rfl) hd1 dX11_init_90 rfl (ht.mono (fun r62 h63 p64 ht' => ?_))
  clear ht
  obtain ⟨rfl, ht⟩ := ht'
  show Ex G d mX11_init 93 [(0, .ref a0)] [.ref q57, .ref a0] h63 Q
  refine x_putR (pc2 := 96) (v := (some q57)) (κ := 11) (k := 8) fl_X11_62 (by decide) (by decide) (Or.inr ⟨rfl, rfl⟩) (isRt_o _) (((((((((((((k9.sR.up p14).up p17).sR.up p22).up p25).sR.up p30).sR.up p35).sR.up p40).sR.up p45).up p48).sR.up p53).up p56).sR.up p61).up p64) dX11_init_93 rfl ?_
  refine x_aload_n (pc2 := 97) 0 (n := 0) (x := a0) rfl dX11_init_96 rfl ?_
  refine y_new (pc2 := 100) (κ := 3) cl_X11_59 (by decide) dX11_init_97 rfl (fun q65 h66 e67 e68 p69 => ?_)
  replace ht := ht q65 h66 e67 e68
  refine x_dup (pc2 := 101) rfl dX11_init_100 rfl ?_
  refine x_callIN (pc2 := 104) (As := []) (rest := [.ref q65, .ref a0]) (b := q65) mi_X3_init nl_X11_61 rfl rfl (Nat.le_of_ble_eq_true rfl) hd1 dX11_init_101 rfl (ht.mono (fun r70 h71 p72 ht' => ?_))
  clear ht
  obtain ⟨rfl, ht⟩ := ht'
  show Ex G d mX11_init 104 [(0, .ref a0)] [.ref q65, .ref a0] h71 Q
  refine x_putR (pc2 := 107) (v := (some q65)) (κ := 11) (k := 9) fl_X11_66 (by decide) (by decide) (Or.inr ⟨rfl, rfl⟩) (isRt_o _) (((((((((((((((k9.sR.up p14).up p17).sR.up p22).up p25).sR.up p30).sR.up p35).sR.up p40).sR.up p45).up p48).sR.up p53).up p56).sR.up p61).up p64).sR.up p69).up p72) dX11_init_104 rfl ?_
  refine x_aload_n (pc2 := 108) 0 (n := 0) (x := a0) rfl dX11_init_107 rfl ?_
  refine y_new (pc2 := 111) (κ := 0) cl_X11_69 (by decide) dX11_init_108 rfl (fun q73 h74 e75 e76 p77 => ?_)
  replace ht := ht q73 h74 e75 e76
  refine x_dup (pc2 := 112) rfl dX11_init_111 rfl ?_
  refine x_callIN (pc2 := 115) (As := []) (rest := [.ref q73, .ref a0]) (b := q73) mi_X0_init nl_X11_71 rfl rfl (Nat.le_of_ble_eq_true rfl) hd1 dX11_init_112 rfl (ht.mono (fun r78 h79 p80 ht' => ?_))
  clear ht
  obtain ⟨rfl, ht⟩ := ht'
  show Ex G d mX11_init 115 [(0, .ref a0)] [.ref q73, .ref a0] h79 Q
  refine x_putR (pc2 := 118) (v := (some q73)) (κ := 11) (k := 10) fl_X11_72 (by decide) (by decide) (Or.inr ⟨rfl, rfl⟩) (isRt_o _) (((((((((((((((((k9.sR.up p14).up p17).sR.up p22).up p25).sR.up p30).sR.up p35).sR.up p40).sR.up p45).up p48).sR.up p53).up p56).sR.up p61).up p64).sR.up p69).up p72).sR.up p77).up p80) dX11_init_115 rfl ?_
  refine x_aload_n (pc2 := 119) 0 (n := 0) (x := a0) rfl dX11_init_118 rfl ?_
  refine y_new (pc2 := 122) (κ := 0) cl_X11_69 (by decide) dX11_init_119 rfl (fun q81 h82 e83 e84 p85 => ?_)
  replace ht := ht q81 h82 e83 e84
  refine x_dup (pc2 := 123) rfl dX11_init_122 rfl ?_
  refine x_callIN (pc2 := 126) (As := []) (rest := [.ref q81, .ref a0]) (b := q81) mi_X0_init nl_X11_71 rfl rfl (Nat.le_of_ble_eq_true rfl) hd1 dX11_init_123 rfl (ht.mono (fun r86 h87 p88 ht' => ?_))
  clear ht
  obtain ⟨rfl, ht⟩ := ht'
  show Ex G d mX11_init 126 [(0, .ref a0)] [.ref q81, .ref a0] h87 Q
  refine x_putR (pc2 := 129) (v := (some q81)) (κ := 11) (k := 11) fl_X11_76 (by decide) (by decide) (Or.inr ⟨rfl, rfl⟩) (isRt_o _) (((((((((((((((((((k9.sR.up p14).up p17).sR.up p22).up p25).sR.up p30).sR.up p35).sR.up p40).sR.up p45).up p48).sR.up p53).up p56).sR.up p61).up p64).sR.up p69).up p72).sR.up p77).up p80).sR.up p85).up p88) dX11_init_126 rfl ?_
  refine x_aload_n (pc2 := 130) 0 (n := 0) (x := a0) rfl dX11_init_129 rfl ?_
  refine y_new (pc2 := 133) (κ := 6) cl_X11_39 (by decide) dX11_init_130 rfl (fun q89 h90 e91 e92 p93 => ?_)
  replace ht := ht q89 h90 e91 e92
  refine x_dup (pc2 := 134) rfl dX11_init_133 rfl ?_
  refine x_callI (pc2 := 137) (As := []) (rest := [.ref q89, .ref a0]) (b := q89) mi_X6_init ml_X11_79 rfl rfl (Nat.le_of_ble_eq_true rfl) hd1 dX11_init_134 rfl (ht.mono (fun r94 h95 p96 ht' => ?_))
  clear ht
  obtain ⟨rfl, ht⟩ := ht'
  show Ex G d mX11_init 137 [(0, .ref a0)] [.ref q89, .ref a0] h95 Q
  refine x_putR (pc2 := 140) (v := (some q89)) (κ := 11) (k := 12) fl_X11_80 (by decide) (by decide) (Or.inl rfl) (isRt_o _) (((((((((((((((((((((k9.sR.up p14).up p17).sR.up p22).up p25).sR.up p30).sR.up p35).sR.up p40).sR.up p45).up p48).sR.up p53).up p56).sR.up p61).up p64).sR.up p69).up p72).sR.up p77).up p80).sR.up p85).up p88).sR.up p93).up p96) dX11_init_137 rfl ?_
  refine x_aload_n (pc2 := 141) 0 (n := 0) (x := a0) rfl dX11_init_140 rfl ?_
  refine y_new (pc2 := 144) (κ := 6) cl_X11_39 (by decide) dX11_init_141 rfl (fun q97 h98 e99 e100 p101 => ?_)
  replace ht := ht q97 h98 e99 e100
  refine x_dup (pc2 := 145) rfl dX11_init_144 rfl ?_
  refine x_callI (pc2 := 148) (As := []) (rest := [.ref q97, .ref a0]) (b := q97) mi_X6_init ml_X11_79 rfl rfl (Nat.le_of_ble_eq_true rfl) hd1 dX11_init_145 rfl (ht.mono (fun r102 h103 p104 ht' => ?_))
  clear ht
  obtain ⟨rfl, ht⟩ := ht'
  show Ex G d mX11_init 148 [(0, .ref a0)] [.ref q97, .ref a0] h103 Q
  refine x_putR (pc2 := 151) (v := (some q97)) (κ := 11) (k := 13) fl_X11_84 (by decide) (by decide) (Or.inl rfl) (isRt_o _) (((((((((((((((((((((((k9.sR.up p14).up p17).sR.up p22).up p25).sR.up p30).sR.up p35).sR.up p40).sR.up p45).up p48).sR.up p53).up p56).sR.up p61).up p64).sR.up p69).up p72).sR.up p77).up p80).sR.up p85).up p88).sR.up p93).up p96).sR.up p101).up p104) dX11_init_148 rfl ?_
  exact x_retV rfl dX11_init_151 ht
theorem e_X11_init {G : GG} {d : Nat} {h : HP} {Q : Option Value → HP → Prop} {a0 : Nat} (hd1 : 1 ≤ d) (ht : T_X11_init G d h Q a0) : Cal G d mX11_init [.ref a0] h Q := cal_of rfl (Nat.le_of_ble_eq_true rfl) (t_X11_init hd1 ht)
def T_X11_feed (G : GG) (d : Nat) (h : HP) (Q : Option Value → HP → Prop) (a0 : Nat) (x1 : Int32) (x2 : Int32) (x3 : Int32) (x4 : Int32) (x5 : Int32) : Prop :=
  Kd G h a0 11 ∧ ∃ q2, hR h a0 0 = some q2 ∧ Kd G h q2 8 ∧ Cal G (d - 1) mX8_hasRoom [.ref q2] h (fun r4 h5 => ∃ v8, r4 = some (.int v8) ∧ ((¬ v8 = 0 → ∃ q10, hR h5 a0 0 = some q10 ∧ Kd G h5 q10 8 ∧ Cal G (d - 1) mX8_append [.ref q10, .int x1] h5 (fun r12 h13 => r12 = none ∧ ∃ q16, hR h13 a0 0 = some q16 ∧ Kd G h13 q16 8 ∧ Cal G (d - 1) mX8_append [.ref q16, .int x2] h13 (fun r18 h19 => r18 = none ∧ ∃ q22, hR h19 a0 0 = some q22 ∧ Kd G h19 q22 8 ∧ Cal G (d - 1) mX8_append [.ref q22, .int x3] h19 (fun r24 h25 => r24 = none ∧ ∃ q28, hR h25 a0 0 = some q28 ∧ Kd G h25 q28 8 ∧ Cal G (d - 1) mX8_append [.ref q28, .int x4] h25 (fun r30 h31 => r30 = none ∧ ∃ q34, hR h31 a0 0 = some q34 ∧ Kd G h31 q34 8 ∧ Cal G (d - 1) mX8_append [.ref q34, .int x5] h31 (fun r36 h37 => r36 = none ∧ ∃ q40, hR h37 a0 0 = some q40 ∧ Kd G h37 q40 8 ∧ Q (some (.int (hI h37 q40 0))) h37)))))) ∧ (v8 = 0 → Q (some (.int (-1))) h5)))
set_option maxRecDepth 20000 in
theorem t_X11_feed {G : GG} {d : Nat} {h : HP} {Q : Option Value → HP → Prop} {a0 : Nat} {x1 : Int32} {x2 : Int32} {x3 : Int32} {x4 : Int32} {x5 : Int32} (hd1 : 1 ≤ d) (ht : T_X11_feed G d h Q a0 x1 x2 x3 x4 x5) : Ex G d mX11_feed 0 [(0, .ref a0), (1, .int x1), (2, .int x2), (3, .int x3), (4, .int x4), (5, .int x5)] [] h Q := by
  unfold T_X11_feed at ht
  refine x_aload_n (pc2 := 1) 0 (n := 0) (x := a0) rfl dX11_feed_0 rfl ?_
  obtain ⟨k1, ht⟩ := ht
  obtain ⟨q2, e3, ht⟩ := ht
  refine y_getR (pc2 := 4) (κ := 11) (k := 0) fl_X11_12 (by decide) (by decide) k1 rfl e3 dX11_feed_1 rfl ?_
  obtain ⟨k7, ht⟩ := ht
  refine x_callV (pc2 := 7) (As := []) (rest := []) (b := q2) mv_X8_hasRoom ml_X11_87 k7 rfl rfl (Nat.le_of_ble_eq_true rfl) hd1 dX11_feed_4 rfl (ht.mono (fun r4 h5 p6 ht' => ?_))
  clear ht
  obtain ⟨v8, rfl, ht⟩ := ht'
  show Ex G d mX11_feed 7 [(0, .ref a0), (1, .int x1), (2, .int x2), (3, .int x3), (4, .int x4), (5, .int x5)] [.int v8] h5 Q
  refine y_if_ne (pc2 := 10) 12 dX11_feed_7 (by decide) rfl (fun c9 => ?_) (fun c9 => ?_)
  · replace ht := ht.1 c9
    refine x_aload_n (pc2 := 13) 0 (n := 0) (x := a0) rfl dX11_feed_12 rfl ?_
    obtain ⟨q10, e11, ht⟩ := ht
    refine y_getR (pc2 := 16) (κ := 11) (k := 0) fl_X11_12 (by decide) (by decide) (k1.up p6) rfl e11 dX11_feed_13 rfl ?_
    refine x_iload_n (pc2 := 17) 1 (n := 1) (x := x1) rfl dX11_feed_16 rfl ?_
    obtain ⟨k15, ht⟩ := ht
    refine x_callV (pc2 := 20) (As := [.int x1]) (rest := []) (b := q10) mv_X8_append ml_X11_91 k15 rfl rfl (Nat.le_of_ble_eq_true rfl) hd1 dX11_feed_17 rfl (ht.mono (fun r12 h13 p14 ht' => ?_))
    clear ht
    obtain ⟨rfl, ht⟩ := ht'
    show Ex G d mX11_feed 20 [(0, .ref a0), (1, .int x1), (2, .int x2), (3, .int x3), (4, .int x4), (5, .int x5)] [] h13 Q
    refine x_aload_n (pc2 := 21) 0 (n := 0) (x := a0) rfl dX11_feed_20 rfl ?_
    obtain ⟨q16, e17, ht⟩ := ht
    refine y_getR (pc2 := 24) (κ := 11) (k := 0) fl_X11_12 (by decide) (by decide) ((k1.up p6).up p14) rfl e17 dX11_feed_21 rfl ?_
    refine x_iload_n (pc2 := 25) 2 (n := 2) (x := x2) rfl dX11_feed_24 rfl ?_
    obtain ⟨k21, ht⟩ := ht
    refine x_callV (pc2 := 28) (As := [.int x2]) (rest := []) (b := q16) mv_X8_append ml_X11_91 k21 rfl rfl (Nat.le_of_ble_eq_true rfl) hd1 dX11_feed_25 rfl (ht.mono (fun r18 h19 p20 ht' => ?_))
    clear ht
    obtain ⟨rfl, ht⟩ := ht'
    show Ex G d mX11_feed 28 [(0, .ref a0), (1, .int x1), (2, .int x2), (3, .int x3), (4, .int x4), (5, .int x5)] [] h19 Q
    refine x_aload_n (pc2 := 29) 0 (n := 0) (x := a0) rfl dX11_feed_28 rfl ?_
    obtain ⟨q22, e23, ht⟩ := ht
    refine y_getR (pc2 := 32) (κ := 11) (k := 0) fl_X11_12 (by decide) (by decide) (((k1.up p6).up p14).up p20) rfl e23 dX11_feed_29 rfl ?_
    refine x_iload_n (pc2 := 33) 3 (n := 3) (x := x3) rfl dX11_feed_32 rfl ?_
    obtain ⟨k27, ht⟩ := ht
    refine x_callV (pc2 := 36) (As := [.int x3]) (rest := []) (b := q22) mv_X8_append ml_X11_91 k27 rfl rfl (Nat.le_of_ble_eq_true rfl) hd1 dX11_feed_33 rfl (ht.mono (fun r24 h25 p26 ht' => ?_))
    clear ht
    obtain ⟨rfl, ht⟩ := ht'
    show Ex G d mX11_feed 36 [(0, .ref a0), (1, .int x1), (2, .int x2), (3, .int x3), (4, .int x4), (5, .int x5)] [] h25 Q
    refine x_aload_n (pc2 := 37) 0 (n := 0) (x := a0) rfl dX11_feed_36 rfl ?_
    obtain ⟨q28, e29, ht⟩ := ht
    refine y_getR (pc2 := 40) (κ := 11) (k := 0) fl_X11_12 (by decide) (by decide) ((((k1.up p6).up p14).up p20).up p26) rfl e29 dX11_feed_37 rfl ?_
    refine x_iload (pc2 := 42) 4 (n := 4) (x := x4) rfl dX11_feed_40 rfl ?_
    obtain ⟨k33, ht⟩ := ht
    refine x_callV (pc2 := 45) (As := [.int x4]) (rest := []) (b := q28) mv_X8_append ml_X11_91 k33 rfl rfl (Nat.le_of_ble_eq_true rfl) hd1 dX11_feed_42 rfl (ht.mono (fun r30 h31 p32 ht' => ?_))
    clear ht
    obtain ⟨rfl, ht⟩ := ht'
    show Ex G d mX11_feed 45 [(0, .ref a0), (1, .int x1), (2, .int x2), (3, .int x3), (4, .int x4), (5, .int x5)] [] h31 Q
    refine x_aload_n (pc2 := 46) 0 (n := 0) (x := a0) rfl dX11_feed_45 rfl ?_
    obtain ⟨q34, e35, ht⟩ := ht
    refine y_getR (pc2 := 49) (κ := 11) (k := 0) fl_X11_12 (by decide) (by decide) (((((k1.up p6).up p14).up p20).up p26).up p32) rfl e35 dX11_feed_46 rfl ?_
    refine x_iload (pc2 := 51) 5 (n := 5) (x := x5) rfl dX11_feed_49 rfl ?_
    obtain ⟨k39, ht⟩ := ht
    refine x_callV (pc2 := 54) (As := [.int x5]) (rest := []) (b := q34) mv_X8_append ml_X11_91 k39 rfl rfl (Nat.le_of_ble_eq_true rfl) hd1 dX11_feed_51 rfl (ht.mono (fun r36 h37 p38 ht' => ?_))
    clear ht
    obtain ⟨rfl, ht⟩ := ht'
    show Ex G d mX11_feed 54 [(0, .ref a0), (1, .int x1), (2, .int x2), (3, .int x3), (4, .int x4), (5, .int x5)] [] h37 Q
    refine x_aload_n (pc2 := 55) 0 (n := 0) (x := a0) rfl dX11_feed_54 rfl ?_
    obtain ⟨q40, e41, ht⟩ := ht
    refine y_getR (pc2 := 58) (κ := 11) (k := 0) fl_X11_12 (by decide) (by decide) ((((((k1.up p6).up p14).up p20).up p26).up p32).up p38) rfl e41 dX11_feed_55 rfl ?_
    obtain ⟨k42, ht⟩ := ht
    refine y_getI (pc2 := 61) (κ := 8) (k := 0) fl_X11_95 (by decide) (by decide) k42 rfl dX11_feed_58 rfl ?_
    exact x_ret (ty := .int) rfl rfl dX11_feed_61 ht
  · replace ht := ht.2 c9
    refine x_iconst (pc2 := 11) (v := (-1)) (by decide) dX11_feed_10 rfl ?_
    exact x_ret (ty := .int) rfl rfl dX11_feed_11 ht
theorem e_X11_feed {G : GG} {d : Nat} {h : HP} {Q : Option Value → HP → Prop} {a0 : Nat} {x1 : Int32} {x2 : Int32} {x3 : Int32} {x4 : Int32} {x5 : Int32} (hd1 : 1 ≤ d) (ht : T_X11_feed G d h Q a0 x1 x2 x3 x4 x5) : Cal G d mX11_feed [.ref a0, .int x1, .int x2, .int x3, .int x4, .int x5] h Q := cal_of rfl (Nat.le_of_ble_eq_true rfl) (t_X11_feed hd1 ht)
def T_X11_end (G : GG) (d : Nat) (h : HP) (Q : Option Value → HP → Prop) (a0 : Nat) (x1 : Int32) : Prop :=
  ((x1 < 0 → Q (some (.int (-1))) h) ∧ (¬ x1 < 0 → Kd G h a0 11 ∧ ∃ q3, hR h a0 0 = some q3 ∧ Kd G h q3 8 ∧ ((x1 ≤ (hI h q3 0) → Q (some (.int x1)) (sI h q3 0 x1)) ∧ (¬ x1 ≤ (hI h q3 0) → Q (some (.int (-1))) h))))
set_option maxRecDepth 20000 in
theorem t_X11_end {G : GG} {d : Nat} {h : HP} {Q : Option Value → HP → Prop} {a0 : Nat} {x1 : Int32} (ht : T_X11_end G d h Q a0 x1) : Ex G d mX11_end 0 [(0, .ref a0), (1, .int x1)] [] h Q := by
  unfold T_X11_end at ht
  refine x_iload_n (pc2 := 1) 1 (n := 1) (x := x1) rfl dX11_end_0 rfl ?_
  refine x_if_lt (pc2 := 4) 15 dX11_end_1 (by decide) rfl (fun c1 => ?_) (fun c1 => ?_)
  · replace ht := ht.1 c1
    refine x_iconst (pc2 := 16) (v := (-1)) (by decide) dX11_end_15 rfl ?_
    exact x_ret (ty := .int) rfl rfl dX11_end_16 ht
  · replace ht := ht.2 c1
    refine x_iload_n (pc2 := 5) 1 (n := 1) (x := x1) rfl dX11_end_4 rfl ?_
    refine x_aload_n (pc2 := 6) 0 (n := 0) (x := a0) rfl dX11_end_5 rfl ?_
    obtain ⟨k2, ht⟩ := ht
    obtain ⟨q3, e4, ht⟩ := ht
    refine y_getR (pc2 := 9) (κ := 11) (k := 0) fl_X11_12 (by decide) (by decide) k2 rfl e4 dX11_end_6 rfl ?_
    obtain ⟨k5, ht⟩ := ht
    refine y_getI (pc2 := 12) (κ := 8) (k := 0) fl_X11_95 (by decide) (by decide) k5 rfl dX11_end_9 rfl ?_
    refine x_icmp_le (pc2 := 15) 17 dX11_end_12 (by decide) rfl (fun c6 => ?_) (fun c6 => ?_)
    · replace ht := ht.1 c6
      refine x_aload_n (pc2 := 18) 0 (n := 0) (x := a0) rfl dX11_end_17 rfl ?_
      refine y_getR (pc2 := 21) (κ := 11) (k := 0) fl_X11_12 (by decide) (by decide) k2 rfl e4 dX11_end_18 rfl ?_
      refine x_iload_n (pc2 := 22) 1 (n := 1) (x := x1) rfl dX11_end_21 rfl ?_
      refine x_putI (pc2 := 25) (κ := 8) (k := 0) fl_X11_95 (by decide) (by decide) (Or.inl rfl) rfl k5 dX11_end_22 rfl ?_
      refine x_iload_n (pc2 := 26) 1 (n := 1) (x := x1) rfl dX11_end_25 rfl ?_
      exact x_ret (ty := .int) rfl rfl dX11_end_26 ht
    · replace ht := ht.2 c6
      refine x_iconst (pc2 := 16) (v := (-1)) (by decide) dX11_end_15 rfl ?_
      exact x_ret (ty := .int) rfl rfl dX11_end_16 ht
theorem e_X11_end {G : GG} {d : Nat} {h : HP} {Q : Option Value → HP → Prop} {a0 : Nat} {x1 : Int32} (ht : T_X11_end G d h Q a0 x1) : Cal G d mX11_end [.ref a0, .int x1] h Q := cal_of rfl (Nat.le_of_ble_eq_true rfl) (t_X11_end ht)
def T_X11_land (G : GG) (d : Nat) (h : HP) (Q : Option Value → HP → Prop) (a0 : Nat) : Prop :=
  Kd G h a0 11 ∧ ∃ q2, hR h a0 1 = some q2 ∧ ∃ q4, hR h a0 0 = some q4 ∧ ∃ q6, hR h a0 13 = some q6 ∧ Kd G h q2 2 ∧ Cal G (d - 1) mX2_read [.ref q2, .ref q4, .ref q6] h (fun r8 h9 => ∃ v12, r8 = some (.int v12) ∧ ∃ q13, hR h9 a0 0 = some q13 ∧ Kd G h9 q13 8 ∧ ((¬ v12 = 0 → ∃ q17, hR (sI h9 q13 0 0) a0 13 = some q17 ∧ ∃ q19, hR (sI h9 q13 0 0) a0 12 = some q19 ∧ Kd G (sI h9 q13 0 0) q17 6 ∧ Cal G (d - 1) mX6_keepFeelings [.ref q17, .ref q19] (sI h9 q13 0 0) (fun r21 h22 => r21 = none ∧ ∃ q25, hR h22 a0 12 = some q25 ∧ ∃ q27, hR h22 a0 13 = some q27 ∧ ∃ q29, hR (sR (sR h22 a0 12 (some q27)) a0 13 (some q25)) a0 6 = some q29 ∧ ∃ q31, hR (sR (sR h22 a0 12 (some q27)) a0 13 (some q25)) a0 12 = some q31 ∧ Kd G (sR (sR h22 a0 12 (some q27)) a0 13 (some q25)) q29 7 ∧ Cal G (d - 1) mX7_rebuild [.ref q29, .ref q31] (sR (sR h22 a0 12 (some q27)) a0 13 (some q25)) (fun r33 h34 => r33 = none ∧ ∃ q37, hR h34 a0 12 = some q37 ∧ Kd G h34 q37 6 ∧ Q (some (.int (hI h34 q37 2))) h34))) ∧ (v12 = 0 → Q (some (.int ((-2) - (hI (sI h9 q13 0 0) q13 1)))) (sI h9 q13 0 0))))
set_option maxRecDepth 20000 in
theorem t_X11_land {G : GG} {d : Nat} {h : HP} {Q : Option Value → HP → Prop} {a0 : Nat} (hd1 : 1 ≤ d) (ht : T_X11_land G d h Q a0) : Ex G d mX11_land 0 [(0, .ref a0)] [] h Q := by
  unfold T_X11_land at ht
  refine x_aload_n (pc2 := 1) 0 (n := 0) (x := a0) rfl dX11_land_0 rfl ?_
  obtain ⟨k1, ht⟩ := ht
  obtain ⟨q2, e3, ht⟩ := ht
  refine y_getR (pc2 := 4) (κ := 11) (k := 1) fl_X11_19 (by decide) (by decide) k1 rfl e3 dX11_land_1 rfl ?_
  refine x_aload_n (pc2 := 5) 0 (n := 0) (x := a0) rfl dX11_land_4 rfl ?_
  obtain ⟨q4, e5, ht⟩ := ht
  refine y_getR (pc2 := 8) (κ := 11) (k := 0) fl_X11_12 (by decide) (by decide) k1 rfl e5 dX11_land_5 rfl ?_
  refine x_aload_n (pc2 := 9) 0 (n := 0) (x := a0) rfl dX11_land_8 rfl ?_
  obtain ⟨q6, e7, ht⟩ := ht
  refine y_getR (pc2 := 12) (κ := 11) (k := 13) fl_X11_84 (by decide) (by decide) k1 rfl e7 dX11_land_9 rfl ?_
  obtain ⟨k11, ht⟩ := ht
  refine x_callV (pc2 := 15) (As := [.ref q4, .ref q6]) (rest := []) (b := q2) mv_X2_read ml_X11_99 k11 rfl rfl (Nat.le_of_ble_eq_true rfl) hd1 dX11_land_12 rfl (ht.mono (fun r8 h9 p10 ht' => ?_))
  clear ht
  obtain ⟨v12, rfl, ht⟩ := ht'
  show Ex G d mX11_land 15 [(0, .ref a0)] [.int v12] h9 Q
  refine x_istore_n (pc2 := 16) [1, 0] (n := 1) (x := v12) (lv2 := [(0, .ref a0), (1, .int v12)]) (by decide) rfl dX11_land_15 rfl ?_
  refine x_aload_n (pc2 := 17) 0 (n := 0) (x := a0) rfl dX11_land_16 rfl ?_
  obtain ⟨q13, e14, ht⟩ := ht
  refine y_getR (pc2 := 20) (κ := 11) (k := 0) fl_X11_12 (by decide) (by decide) (k1.up p10) rfl e14 dX11_land_17 rfl ?_
  refine x_iconst (pc2 := 21) (v := 0) (by decide) dX11_land_20 rfl ?_
  obtain ⟨k15, ht⟩ := ht
  refine x_putI (pc2 := 24) (κ := 8) (k := 0) fl_X11_95 (by decide) (by decide) (Or.inl rfl) rfl k15 dX11_land_21 rfl ?_
  refine x_iload_n (pc2 := 25) 1 (n := 1) (x := v12) rfl dX11_land_24 rfl ?_
  refine y_if_ne (pc2 := 28) 39 dX11_land_25 (by decide) rfl (fun c16 => ?_) (fun c16 => ?_)
  · replace ht := ht.1 c16
    refine x_aload_n (pc2 := 40) 0 (n := 0) (x := a0) rfl dX11_land_39 rfl ?_
    obtain ⟨q17, e18, ht⟩ := ht
    refine y_getR (pc2 := 43) (κ := 11) (k := 13) fl_X11_84 (by decide) (by decide) (k1.up p10).sI rfl e18 dX11_land_40 rfl ?_
    refine x_aload_n (pc2 := 44) 0 (n := 0) (x := a0) rfl dX11_land_43 rfl ?_
    obtain ⟨q19, e20, ht⟩ := ht
    refine y_getR (pc2 := 47) (κ := 11) (k := 12) fl_X11_80 (by decide) (by decide) (k1.up p10).sI rfl e20 dX11_land_44 rfl ?_
    obtain ⟨k24, ht⟩ := ht
    refine x_callV (pc2 := 50) (As := [.ref q19]) (rest := []) (b := q17) mv_X6_keepFeelings ml_X11_106 k24 rfl rfl (Nat.le_of_ble_eq_true rfl) hd1 dX11_land_47 rfl (ht.mono (fun r21 h22 p23 ht' => ?_))
    clear ht
    obtain ⟨rfl, ht⟩ := ht'
    show Ex G d mX11_land 50 [(0, .ref a0), (1, .int v12)] [] h22 Q
    refine x_aload_n (pc2 := 51) 0 (n := 0) (x := a0) rfl dX11_land_50 rfl ?_
    obtain ⟨q25, e26, ht⟩ := ht
    refine y_getR (pc2 := 54) (κ := 11) (k := 12) fl_X11_80 (by decide) (by decide) ((k1.up p10).sI.up p23) rfl e26 dX11_land_51 rfl ?_
    refine x_astore_n (pc2 := 55) [1, 2, 0] (n := 2) (x := q25) (lv2 := [(0, .ref a0), (1, .int v12), (2, .ref q25)]) (by decide) rfl dX11_land_54 rfl ?_
    refine x_aload_n (pc2 := 56) 0 (n := 0) (x := a0) rfl dX11_land_55 rfl ?_
    refine x_aload_n (pc2 := 57) 0 (n := 0) (x := a0) rfl dX11_land_56 rfl ?_
    obtain ⟨q27, e28, ht⟩ := ht
    refine y_getR (pc2 := 60) (κ := 11) (k := 13) fl_X11_84 (by decide) (by decide) ((k1.up p10).sI.up p23) rfl e28 dX11_land_57 rfl ?_
    refine x_putR (pc2 := 63) (v := (some q27)) (κ := 11) (k := 12) fl_X11_80 (by decide) (by decide) (Or.inl rfl) (isRt_o _) ((k1.up p10).sI.up p23) dX11_land_60 rfl ?_
    refine x_aload_n (pc2 := 64) 0 (n := 0) (x := a0) rfl dX11_land_63 rfl ?_
    refine x_aload_n (pc2 := 65) 2 (n := 2) (x := q25) rfl dX11_land_64 rfl ?_
    refine x_putR (pc2 := 68) (v := (some q25)) (κ := 11) (k := 13) fl_X11_84 (by decide) (by decide) (Or.inl rfl) (isRt_o _) ((k1.up p10).sI.up p23).sR dX11_land_65 rfl ?_
    refine x_aload_n (pc2 := 69) 0 (n := 0) (x := a0) rfl dX11_land_68 rfl ?_
    obtain ⟨q29, e30, ht⟩ := ht
    refine y_getR (pc2 := 72) (κ := 11) (k := 6) fl_X11_48 (by decide) (by decide) ((k1.up p10).sI.up p23).sR.sR rfl e30 dX11_land_69 rfl ?_
    refine x_aload_n (pc2 := 73) 0 (n := 0) (x := a0) rfl dX11_land_72 rfl ?_
    obtain ⟨q31, e32, ht⟩ := ht
    refine y_getR (pc2 := 76) (κ := 11) (k := 12) fl_X11_80 (by decide) (by decide) ((k1.up p10).sI.up p23).sR.sR rfl e32 dX11_land_73 rfl ?_
    obtain ⟨k36, ht⟩ := ht
    refine x_callV (pc2 := 79) (As := [.ref q31]) (rest := []) (b := q29) mv_X7_rebuild ml_X11_110 k36 rfl rfl (Nat.le_of_ble_eq_true rfl) hd1 dX11_land_76 rfl (ht.mono (fun r33 h34 p35 ht' => ?_))
    clear ht
    obtain ⟨rfl, ht⟩ := ht'
    show Ex G d mX11_land 79 [(0, .ref a0), (1, .int v12), (2, .ref q25)] [] h34 Q
    refine x_aload_n (pc2 := 80) 0 (n := 0) (x := a0) rfl dX11_land_79 rfl ?_
    obtain ⟨q37, e38, ht⟩ := ht
    refine y_getR (pc2 := 83) (κ := 11) (k := 12) fl_X11_80 (by decide) (by decide) (((k1.up p10).sI.up p23).sR.sR.up p35) rfl e38 dX11_land_80 rfl ?_
    obtain ⟨k39, ht⟩ := ht
    refine y_getI (pc2 := 86) (κ := 6) (k := 2) fl_X11_113 (by decide) (by decide) k39 rfl dX11_land_83 rfl ?_
    exact x_ret (ty := .int) rfl rfl dX11_land_86 ht
  · replace ht := ht.2 c16
    refine x_bipush (pc2 := 30) (v := (-2)) (by decide) dX11_land_28 rfl ?_
    refine x_aload_n (pc2 := 31) 0 (n := 0) (x := a0) rfl dX11_land_30 rfl ?_
    refine y_getR (pc2 := 34) (κ := 11) (k := 0) fl_X11_12 (by decide) (by decide) (k1.up p10).sI rfl ((hR_sI _ _ _ _ _ _).trans e14) dX11_land_31 rfl ?_
    refine y_getI (pc2 := 37) (κ := 8) (k := 1) fl_X11_103 (by decide) (by decide) k15.sI rfl dX11_land_34 rfl ?_
    refine x_isub (pc2 := 38) dX11_land_37 rfl ?_
    exact x_ret (ty := .int) rfl rfl dX11_land_38 ht
theorem e_X11_land {G : GG} {d : Nat} {h : HP} {Q : Option Value → HP → Prop} {a0 : Nat} (hd1 : 1 ≤ d) (ht : T_X11_land G d h Q a0) : Cal G d mX11_land [.ref a0] h Q := cal_of rfl (Nat.le_of_ble_eq_true rfl) (t_X11_land hd1 ht)
def T_X11_text (G : GG) (d : Nat) (h : HP) (Q : Option Value → HP → Prop) (a0 : Nat) (x1 : Int32) : Prop :=
  ((¬ x1 = 0 → Ex G d mX11_text 71 [(0, .ref a0), (1, .int x1)] [] h Q) ∧ (x1 = 0 → Kd G h a0 11 ∧ ((6 ≤ (hI h a0 14) → Ex G d mX11_text 71 [(0, .ref a0), (1, .int x1)] [] h Q) ∧ (¬ 6 ≤ (hI h a0 14) → ∃ q4, hR h a0 2 = some q4 ∧ ∃ q6, hR h a0 0 = some q6 ∧ Kd G h q4 5 ∧ Cal G (d - 1) mX5_read [.ref q4, .ref q6, .int 0] h (fun r8 h9 => ∃ v12, r8 = some (va_rf v12) ∧ ∃ q13, hR h9 a0 0 = some q13 ∧ Kd G h9 q13 8 ∧ ((v12 = none → Q (some (.int ((-2) - (hI (sI h9 q13 0 0) q13 1)))) (sI h9 q13 0 0)) ∧ (∀ q17, v12 = some q17 → ∃ q18, hR (sI h9 q13 0 0) a0 3 = some q18 ∧ Kd G (sI h9 q13 0 0) q18 18 ∧ vp_in (hI (sI h9 q13 0 0) a0 14) (hN (sI h9 q13 0 0) q18) ∧ Kd G (sI h9 q13 0 0) q17 4 ∧ ∀ h23, h23 = (sI (sR (sI h9 q13 0 0) q18 (hI (sI h9 q13 0 0) a0 14).toNatClampNeg (some q17)) a0 14 ((hI (sR (sI h9 q13 0 0) q18 (hI (sI h9 q13 0 0) a0 14).toNatClampNeg (some q17)) a0 14) + 1)) → Q (some (.int (hI (sR (sI h9 q13 0 0) q18 (hI (sI h9 q13 0 0) a0 14).toNatClampNeg (some q17)) a0 14))) h23)))))))
set_option maxRecDepth 20000 in
theorem t_X11_text {G : GG} {d : Nat} {h : HP} {Q : Option Value → HP → Prop} {a0 : Nat} {x1 : Int32} (hd1 : 1 ≤ d) (ht : T_X11_text G d h Q a0 x1) : Ex G d mX11_text 0 [(0, .ref a0), (1, .int x1)] [] h Q := by
  unfold T_X11_text at ht
  refine x_iload_n (pc2 := 1) 1 (n := 1) (x := x1) rfl dX11_text_0 rfl ?_
  refine y_if_ne (pc2 := 4) 71 dX11_text_1 (by decide) rfl (fun c1 => ?_) (fun c1 => ?_)
  · replace ht := ht.1 c1
    exact ht
  · replace ht := ht.2 c1
    refine x_aload_n (pc2 := 5) 0 (n := 0) (x := a0) rfl dX11_text_4 rfl ?_
    obtain ⟨k2, ht⟩ := ht
    refine y_getI (pc2 := 8) (κ := 11) (k := 14) fl_X11_116 (by decide) (by decide) k2 rfl dX11_text_5 rfl ?_
    refine x_bipush (pc2 := 10) (v := 6) (by decide) dX11_text_8 rfl ?_
    refine x_icmp_ge (pc2 := 13) 71 dX11_text_10 (by decide) rfl (fun c3 => ?_) (fun c3 => ?_)
    · replace ht := ht.1 c3
      exact ht
    · replace ht := ht.2 c3
      refine x_aload_n (pc2 := 14) 0 (n := 0) (x := a0) rfl dX11_text_13 rfl ?_
      obtain ⟨q4, e5, ht⟩ := ht
      refine y_getR (pc2 := 17) (κ := 11) (k := 2) fl_X11_26 (by decide) (by decide) k2 rfl e5 dX11_text_14 rfl ?_
      refine x_aload_n (pc2 := 18) 0 (n := 0) (x := a0) rfl dX11_text_17 rfl ?_
      obtain ⟨q6, e7, ht⟩ := ht
      refine y_getR (pc2 := 21) (κ := 11) (k := 0) fl_X11_12 (by decide) (by decide) k2 rfl e7 dX11_text_18 rfl ?_
      refine x_iconst (pc2 := 22) (v := 0) (by decide) dX11_text_21 rfl ?_
      obtain ⟨k11, ht⟩ := ht
      refine x_callV (pc2 := 25) (As := [.ref q6, .int 0]) (rest := []) (b := q4) mv_X5_read ml_X11_119 k11 rfl rfl (Nat.le_of_ble_eq_true rfl) hd1 dX11_text_22 rfl (ht.mono (fun r8 h9 p10 ht' => ?_))
      clear ht
      obtain ⟨v12, rfl, ht⟩ := ht'
      show Ex G d mX11_text 25 [(0, .ref a0), (1, .int x1)] [va_rf v12] h9 Q
      refine x_astoreq_n (pc2 := 26) [1, 2, 0] (n := 2) (x := v12) (lv2 := [(0, .ref a0), (1, .int x1), (2, va_rf v12)]) (by decide) rfl dX11_text_25 rfl ?_
      refine x_aload_n (pc2 := 27) 0 (n := 0) (x := a0) rfl dX11_text_26 rfl ?_
      obtain ⟨q13, e14, ht⟩ := ht
      refine y_getR (pc2 := 30) (κ := 11) (k := 0) fl_X11_12 (by decide) (by decide) (k2.up p10) rfl e14 dX11_text_27 rfl ?_
      refine x_iconst (pc2 := 31) (v := 0) (by decide) dX11_text_30 rfl ?_
      obtain ⟨k15, ht⟩ := ht
      refine x_putI (pc2 := 34) (κ := 8) (k := 0) fl_X11_95 (by decide) (by decide) (Or.inl rfl) rfl k15 dX11_text_31 rfl ?_
      refine x_aloadq_n (pc2 := 35) 2 (n := 2) (x := v12) rfl dX11_text_34 rfl ?_
      refine x_ifnonnull (pc2 := 38) (x := v12) 49 dX11_text_35 (by decide) rfl (fun q17 e16 => ?_) (fun e16 => ?_)
      · replace ht := ht.2 q17 e16
        subst e16
        show Ex G d mX11_text 49 [(0, .ref a0), (1, .int x1), (2, .ref q17)] [] (sI h9 q13 0 0) Q
        refine x_aload_n (pc2 := 50) 0 (n := 0) (x := a0) rfl dX11_text_49 rfl ?_
        obtain ⟨q18, e19, ht⟩ := ht
        refine y_getR (pc2 := 53) (κ := 11) (k := 3) fl_X11_32 (by decide) (by decide) (k2.up p10).sI rfl e19 dX11_text_50 rfl ?_
        refine x_aload_n (pc2 := 54) 0 (n := 0) (x := a0) rfl dX11_text_53 rfl ?_
        refine y_getI (pc2 := 57) (κ := 11) (k := 14) fl_X11_116 (by decide) (by decide) (k2.up p10).sI rfl dX11_text_54 rfl ?_
        refine x_aload_n (pc2 := 58) 2 (n := 2) (x := q17) rfl dX11_text_57 rfl ?_
        obtain ⟨k20, ht⟩ := ht
        obtain ⟨b21, ht⟩ := ht
        obtain ⟨k22, ht⟩ := ht
        refine x_aast (pc2 := 59) (κ := 18) (by decide) k20 b21 k22 dX11_text_58 rfl ?_
        refine x_aload_n (pc2 := 60) 0 (n := 0) (x := a0) rfl dX11_text_59 rfl ?_
        refine x_dup (pc2 := 61) rfl dX11_text_60 rfl ?_
        refine y_getI (pc2 := 64) (κ := 11) (k := 14) fl_X11_116 (by decide) (by decide) (k2.up p10).sI.sR rfl dX11_text_61 rfl ?_
        refine x_dup_x1 (pc2 := 65) rfl rfl dX11_text_64 rfl ?_
        refine x_iconst (pc2 := 66) (v := 1) (by decide) dX11_text_65 rfl ?_
        refine x_iadd (pc2 := 67) dX11_text_66 rfl ?_
        refine x_putI (pc2 := 70) (κ := 11) (k := 14) fl_X11_116 (by decide) (by decide) (Or.inl rfl) rfl (k2.up p10).sI.sR dX11_text_67 rfl ?_
        refine nm_I (fun h23 e24 p25 => ?_)
        replace ht := ht h23 e24
        exact x_ret (ty := .int) rfl rfl dX11_text_70 ht
      · replace ht := ht.1 e16
        subst e16
        show Ex G d mX11_text 38 [(0, .ref a0), (1, .int x1), (2, va_rf none)] [] (sI h9 q13 0 0) Q
        refine x_bipush (pc2 := 40) (v := (-2)) (by decide) dX11_text_38 rfl ?_
        refine x_aload_n (pc2 := 41) 0 (n := 0) (x := a0) rfl dX11_text_40 rfl ?_
        refine y_getR (pc2 := 44) (κ := 11) (k := 0) fl_X11_12 (by decide) (by decide) (k2.up p10).sI rfl ((hR_sI _ _ _ _ _ _).trans e14) dX11_text_41 rfl ?_
        refine y_getI (pc2 := 47) (κ := 8) (k := 1) fl_X11_103 (by decide) (by decide) k15.sI rfl dX11_text_44 rfl ?_
        refine x_isub (pc2 := 48) dX11_text_47 rfl ?_
        exact x_ret (ty := .int) rfl rfl dX11_text_48 ht
theorem e_X11_text {G : GG} {d : Nat} {h : HP} {Q : Option Value → HP → Prop} {a0 : Nat} {x1 : Int32} (hd1 : 1 ≤ d) (ht : T_X11_text G d h Q a0 x1) : Cal G d mX11_text [.ref a0, .int x1] h Q := cal_of rfl (Nat.le_of_ble_eq_true rfl) (t_X11_text hd1 ht)
def T_X11_text_71 (G : GG) (d : Nat) (h : HP) (Q : Option Value → HP → Prop) (a0 : Nat) (x1 : Int32) : Prop :=
  ((¬ x1 = 1 → Q (some (.int (-1))) h) ∧ (x1 = 1 → Kd G h a0 11 ∧ ((6 ≤ (hI h a0 15) → Q (some (.int (-1))) h) ∧ (¬ 6 ≤ (hI h a0 15) → ∃ q4, hR h a0 2 = some q4 ∧ ∃ q6, hR h a0 0 = some q6 ∧ Kd G h q4 5 ∧ Cal G (d - 1) mX5_read [.ref q4, .ref q6, .int 1] h (fun r8 h9 => ∃ v12, r8 = some (va_rf v12) ∧ ∃ q13, hR h9 a0 0 = some q13 ∧ Kd G h9 q13 8 ∧ ((v12 = none → Q (some (.int ((-2) - (hI (sI h9 q13 0 0) q13 1)))) (sI h9 q13 0 0)) ∧ (∀ q17, v12 = some q17 → ∃ q18, hR (sI h9 q13 0 0) a0 4 = some q18 ∧ Kd G (sI h9 q13 0 0) q18 18 ∧ vp_in (hI (sI h9 q13 0 0) a0 15) (hN (sI h9 q13 0 0) q18) ∧ Kd G (sI h9 q13 0 0) q17 4 ∧ ∀ h23, h23 = (sI (sR (sI h9 q13 0 0) q18 (hI (sI h9 q13 0 0) a0 15).toNatClampNeg (some q17)) a0 15 ((hI (sR (sI h9 q13 0 0) q18 (hI (sI h9 q13 0 0) a0 15).toNatClampNeg (some q17)) a0 15) + 1)) → Q (some (.int (hI (sR (sI h9 q13 0 0) q18 (hI (sI h9 q13 0 0) a0 15).toNatClampNeg (some q17)) a0 15))) h23)))))))
set_option maxRecDepth 20000 in
theorem t_X11_text_71 {G : GG} {d : Nat} {h : HP} {Q : Option Value → HP → Prop} {a0 : Nat} {x1 : Int32} (hd1 : 1 ≤ d) (ht : T_X11_text_71 G d h Q a0 x1) : Ex G d mX11_text 71 [(0, .ref a0), (1, .int x1)] [] h Q := by
  unfold T_X11_text_71 at ht
  refine x_iload_n (pc2 := 72) 1 (n := 1) (x := x1) rfl dX11_text_71 rfl ?_
  refine x_iconst (pc2 := 73) (v := 1) (by decide) dX11_text_72 rfl ?_
  refine y_icmp_ne (pc2 := 76) 143 dX11_text_73 (by decide) rfl (fun c1 => ?_) (fun c1 => ?_)
  · replace ht := ht.1 c1
    refine x_iconst (pc2 := 144) (v := (-1)) (by decide) dX11_text_143 rfl ?_
    exact x_ret (ty := .int) rfl rfl dX11_text_144 ht
  · replace ht := ht.2 c1
    refine x_aload_n (pc2 := 77) 0 (n := 0) (x := a0) rfl dX11_text_76 rfl ?_
    obtain ⟨k2, ht⟩ := ht
    refine y_getI (pc2 := 80) (κ := 11) (k := 15) fl_X11_122 (by decide) (by decide) k2 rfl dX11_text_77 rfl ?_
    refine x_bipush (pc2 := 82) (v := 6) (by decide) dX11_text_80 rfl ?_
    refine x_icmp_ge (pc2 := 85) 143 dX11_text_82 (by decide) rfl (fun c3 => ?_) (fun c3 => ?_)
    · replace ht := ht.1 c3
      refine x_iconst (pc2 := 144) (v := (-1)) (by decide) dX11_text_143 rfl ?_
      exact x_ret (ty := .int) rfl rfl dX11_text_144 ht
    · replace ht := ht.2 c3
      refine x_aload_n (pc2 := 86) 0 (n := 0) (x := a0) rfl dX11_text_85 rfl ?_
      obtain ⟨q4, e5, ht⟩ := ht
      refine y_getR (pc2 := 89) (κ := 11) (k := 2) fl_X11_26 (by decide) (by decide) k2 rfl e5 dX11_text_86 rfl ?_
      refine x_aload_n (pc2 := 90) 0 (n := 0) (x := a0) rfl dX11_text_89 rfl ?_
      obtain ⟨q6, e7, ht⟩ := ht
      refine y_getR (pc2 := 93) (κ := 11) (k := 0) fl_X11_12 (by decide) (by decide) k2 rfl e7 dX11_text_90 rfl ?_
      refine x_iconst (pc2 := 94) (v := 1) (by decide) dX11_text_93 rfl ?_
      obtain ⟨k11, ht⟩ := ht
      refine x_callV (pc2 := 97) (As := [.ref q6, .int 1]) (rest := []) (b := q4) mv_X5_read ml_X11_119 k11 rfl rfl (Nat.le_of_ble_eq_true rfl) hd1 dX11_text_94 rfl (ht.mono (fun r8 h9 p10 ht' => ?_))
      clear ht
      obtain ⟨v12, rfl, ht⟩ := ht'
      show Ex G d mX11_text 97 [(0, .ref a0), (1, .int x1)] [va_rf v12] h9 Q
      refine x_astoreq_n (pc2 := 98) [1, 2, 0] (n := 2) (x := v12) (lv2 := [(0, .ref a0), (1, .int x1), (2, va_rf v12)]) (by decide) rfl dX11_text_97 rfl ?_
      refine x_aload_n (pc2 := 99) 0 (n := 0) (x := a0) rfl dX11_text_98 rfl ?_
      obtain ⟨q13, e14, ht⟩ := ht
      refine y_getR (pc2 := 102) (κ := 11) (k := 0) fl_X11_12 (by decide) (by decide) (k2.up p10) rfl e14 dX11_text_99 rfl ?_
      refine x_iconst (pc2 := 103) (v := 0) (by decide) dX11_text_102 rfl ?_
      obtain ⟨k15, ht⟩ := ht
      refine x_putI (pc2 := 106) (κ := 8) (k := 0) fl_X11_95 (by decide) (by decide) (Or.inl rfl) rfl k15 dX11_text_103 rfl ?_
      refine x_aloadq_n (pc2 := 107) 2 (n := 2) (x := v12) rfl dX11_text_106 rfl ?_
      refine x_ifnonnull (pc2 := 110) (x := v12) 121 dX11_text_107 (by decide) rfl (fun q17 e16 => ?_) (fun e16 => ?_)
      · replace ht := ht.2 q17 e16
        subst e16
        show Ex G d mX11_text 121 [(0, .ref a0), (1, .int x1), (2, .ref q17)] [] (sI h9 q13 0 0) Q
        refine x_aload_n (pc2 := 122) 0 (n := 0) (x := a0) rfl dX11_text_121 rfl ?_
        obtain ⟨q18, e19, ht⟩ := ht
        refine y_getR (pc2 := 125) (κ := 11) (k := 4) fl_X11_36 (by decide) (by decide) (k2.up p10).sI rfl e19 dX11_text_122 rfl ?_
        refine x_aload_n (pc2 := 126) 0 (n := 0) (x := a0) rfl dX11_text_125 rfl ?_
        refine y_getI (pc2 := 129) (κ := 11) (k := 15) fl_X11_122 (by decide) (by decide) (k2.up p10).sI rfl dX11_text_126 rfl ?_
        refine x_aload_n (pc2 := 130) 2 (n := 2) (x := q17) rfl dX11_text_129 rfl ?_
        obtain ⟨k20, ht⟩ := ht
        obtain ⟨b21, ht⟩ := ht
        obtain ⟨k22, ht⟩ := ht
        refine x_aast (pc2 := 131) (κ := 18) (by decide) k20 b21 k22 dX11_text_130 rfl ?_
        refine x_aload_n (pc2 := 132) 0 (n := 0) (x := a0) rfl dX11_text_131 rfl ?_
        refine x_dup (pc2 := 133) rfl dX11_text_132 rfl ?_
        refine y_getI (pc2 := 136) (κ := 11) (k := 15) fl_X11_122 (by decide) (by decide) (k2.up p10).sI.sR rfl dX11_text_133 rfl ?_
        refine x_dup_x1 (pc2 := 137) rfl rfl dX11_text_136 rfl ?_
        refine x_iconst (pc2 := 138) (v := 1) (by decide) dX11_text_137 rfl ?_
        refine x_iadd (pc2 := 139) dX11_text_138 rfl ?_
        refine x_putI (pc2 := 142) (κ := 11) (k := 15) fl_X11_122 (by decide) (by decide) (Or.inl rfl) rfl (k2.up p10).sI.sR dX11_text_139 rfl ?_
        refine nm_I (fun h23 e24 p25 => ?_)
        replace ht := ht h23 e24
        exact x_ret (ty := .int) rfl rfl dX11_text_142 ht
      · replace ht := ht.1 e16
        subst e16
        show Ex G d mX11_text 110 [(0, .ref a0), (1, .int x1), (2, va_rf none)] [] (sI h9 q13 0 0) Q
        refine x_bipush (pc2 := 112) (v := (-2)) (by decide) dX11_text_110 rfl ?_
        refine x_aload_n (pc2 := 113) 0 (n := 0) (x := a0) rfl dX11_text_112 rfl ?_
        refine y_getR (pc2 := 116) (κ := 11) (k := 0) fl_X11_12 (by decide) (by decide) (k2.up p10).sI rfl ((hR_sI _ _ _ _ _ _).trans e14) dX11_text_113 rfl ?_
        refine y_getI (pc2 := 119) (κ := 8) (k := 1) fl_X11_103 (by decide) (by decide) k15.sI rfl dX11_text_116 rfl ?_
        refine x_isub (pc2 := 120) dX11_text_119 rfl ?_
        exact x_ret (ty := .int) rfl rfl dX11_text_120 ht
def T_X11_lawAt (G : GG) (d : Nat) (h : HP) (Q : Option Value → HP → Prop) (a0 : Nat) (x1 : Int32) : Prop :=
  ((x1 < 0 → Q (some (va_rf none)) h) ∧ (¬ x1 < 0 → Kd G h a0 11 ∧ (((hI h a0 14) ≤ x1 → Q (some (va_rf none)) h) ∧ (¬ (hI h a0 14) ≤ x1 → ∃ q4, hR h a0 3 = some q4 ∧ Kd G h q4 18 ∧ vp_in x1 (hN h q4) ∧ ∀ o8, hR h q4 x1.toNatClampNeg = o8 → Q (some (va_rf o8)) h))))
set_option maxRecDepth 20000 in
theorem t_X11_lawAt {G : GG} {d : Nat} {h : HP} {Q : Option Value → HP → Prop} {a0 : Nat} {x1 : Int32} (ht : T_X11_lawAt G d h Q a0 x1) : Ex G d mX11_lawAt 0 [(0, .ref a0), (1, .int x1)] [] h Q := by
  unfold T_X11_lawAt at ht
  refine x_iload_n (pc2 := 1) 1 (n := 1) (x := x1) rfl dX11_lawAt_0 rfl ?_
  refine x_if_lt (pc2 := 4) 21 dX11_lawAt_1 (by decide) rfl (fun c1 => ?_) (fun c1 => ?_)
  · replace ht := ht.1 c1
    refine x_null (pc2 := 22) dX11_lawAt_21 rfl ?_
    exact x_retR (v := none) rfl (isRt_o _) dX11_lawAt_22 ht
  · replace ht := ht.2 c1
    refine x_iload_n (pc2 := 5) 1 (n := 1) (x := x1) rfl dX11_lawAt_4 rfl ?_
    refine x_aload_n (pc2 := 6) 0 (n := 0) (x := a0) rfl dX11_lawAt_5 rfl ?_
    obtain ⟨k2, ht⟩ := ht
    refine y_getI (pc2 := 9) (κ := 11) (k := 14) fl_X11_116 (by decide) (by decide) k2 rfl dX11_lawAt_6 rfl ?_
    refine x_icmp_ge (pc2 := 12) 21 dX11_lawAt_9 (by decide) rfl (fun c3 => ?_) (fun c3 => ?_)
    · replace ht := ht.1 c3
      refine x_null (pc2 := 22) dX11_lawAt_21 rfl ?_
      exact x_retR (v := none) rfl (isRt_o _) dX11_lawAt_22 ht
    · replace ht := ht.2 c3
      refine x_aload_n (pc2 := 13) 0 (n := 0) (x := a0) rfl dX11_lawAt_12 rfl ?_
      obtain ⟨q4, e5, ht⟩ := ht
      refine y_getR (pc2 := 16) (κ := 11) (k := 3) fl_X11_32 (by decide) (by decide) k2 rfl e5 dX11_lawAt_13 rfl ?_
      refine x_iload_n (pc2 := 17) 1 (n := 1) (x := x1) rfl dX11_lawAt_16 rfl ?_
      obtain ⟨k6, ht⟩ := ht
      obtain ⟨b7, ht⟩ := ht
      refine y_aaldq (pc2 := 18) (κ := 18) (by decide) k6 b7 dX11_lawAt_17 rfl (fun o8 e9 => ?_)
      replace ht := ht o8 e9
      refine x_goto 22 dX11_lawAt_18 (by decide) ?_
      exact x_retR (v := o8) rfl (isRt_o _) dX11_lawAt_22 ht
theorem e_X11_lawAt {G : GG} {d : Nat} {h : HP} {Q : Option Value → HP → Prop} {a0 : Nat} {x1 : Int32} (ht : T_X11_lawAt G d h Q a0 x1) : Cal G d mX11_lawAt [.ref a0, .int x1] h Q := cal_of rfl (Nat.le_of_ble_eq_true rfl) (t_X11_lawAt ht)
def T_X11_wishAt (G : GG) (d : Nat) (h : HP) (Q : Option Value → HP → Prop) (a0 : Nat) (x1 : Int32) : Prop :=
  ((x1 < 0 → Q (some (va_rf none)) h) ∧ (¬ x1 < 0 → Kd G h a0 11 ∧ (((hI h a0 15) ≤ x1 → Q (some (va_rf none)) h) ∧ (¬ (hI h a0 15) ≤ x1 → ∃ q4, hR h a0 4 = some q4 ∧ Kd G h q4 18 ∧ vp_in x1 (hN h q4) ∧ ∀ o8, hR h q4 x1.toNatClampNeg = o8 → Q (some (va_rf o8)) h))))
set_option maxRecDepth 20000 in
theorem t_X11_wishAt {G : GG} {d : Nat} {h : HP} {Q : Option Value → HP → Prop} {a0 : Nat} {x1 : Int32} (ht : T_X11_wishAt G d h Q a0 x1) : Ex G d mX11_wishAt 0 [(0, .ref a0), (1, .int x1)] [] h Q := by
  unfold T_X11_wishAt at ht
  refine x_iload_n (pc2 := 1) 1 (n := 1) (x := x1) rfl dX11_wishAt_0 rfl ?_
  refine x_if_lt (pc2 := 4) 21 dX11_wishAt_1 (by decide) rfl (fun c1 => ?_) (fun c1 => ?_)
  · replace ht := ht.1 c1
    refine x_null (pc2 := 22) dX11_wishAt_21 rfl ?_
    exact x_retR (v := none) rfl (isRt_o _) dX11_wishAt_22 ht
  · replace ht := ht.2 c1
    refine x_iload_n (pc2 := 5) 1 (n := 1) (x := x1) rfl dX11_wishAt_4 rfl ?_
    refine x_aload_n (pc2 := 6) 0 (n := 0) (x := a0) rfl dX11_wishAt_5 rfl ?_
    obtain ⟨k2, ht⟩ := ht
    refine y_getI (pc2 := 9) (κ := 11) (k := 15) fl_X11_122 (by decide) (by decide) k2 rfl dX11_wishAt_6 rfl ?_
    refine x_icmp_ge (pc2 := 12) 21 dX11_wishAt_9 (by decide) rfl (fun c3 => ?_) (fun c3 => ?_)
    · replace ht := ht.1 c3
      refine x_null (pc2 := 22) dX11_wishAt_21 rfl ?_
      exact x_retR (v := none) rfl (isRt_o _) dX11_wishAt_22 ht
    · replace ht := ht.2 c3
      refine x_aload_n (pc2 := 13) 0 (n := 0) (x := a0) rfl dX11_wishAt_12 rfl ?_
      obtain ⟨q4, e5, ht⟩ := ht
      refine y_getR (pc2 := 16) (κ := 11) (k := 4) fl_X11_36 (by decide) (by decide) k2 rfl e5 dX11_wishAt_13 rfl ?_
      refine x_iload_n (pc2 := 17) 1 (n := 1) (x := x1) rfl dX11_wishAt_16 rfl ?_
      obtain ⟨k6, ht⟩ := ht
      obtain ⟨b7, ht⟩ := ht
      refine y_aaldq (pc2 := 18) (κ := 18) (by decide) k6 b7 dX11_wishAt_17 rfl (fun o8 e9 => ?_)
      replace ht := ht o8 e9
      refine x_goto 22 dX11_wishAt_18 (by decide) ?_
      exact x_retR (v := o8) rfl (isRt_o _) dX11_wishAt_22 ht
theorem e_X11_wishAt {G : GG} {d : Nat} {h : HP} {Q : Option Value → HP → Prop} {a0 : Nat} {x1 : Int32} (ht : T_X11_wishAt G d h Q a0 x1) : Cal G d mX11_wishAt [.ref a0, .int x1] h Q := cal_of rfl (Nat.le_of_ble_eq_true rfl) (t_X11_wishAt ht)
def T_X11_like (G : GG) (d : Nat) (h : HP) (Q : Option Value → HP → Prop) (a0 : Nat) (x1 : Int32) (x2 : Int32) (x3 : Int32) : Prop :=
  Cal G (d - 1) mX11_isFamily [.int x1] h (fun r1 h2 => ∃ v4, r1 = some (.int v4) ∧ ((v4 = 0 → Q (some (.int (-100))) h2) ∧ (¬ v4 = 0 → Cal G (d - 1) mX11_isFamily [.int x2] h2 (fun r6 h7 => ∃ v9, r6 = some (.int v9) ∧ ((v9 = 0 → Q (some (.int (-100))) h7) ∧ (¬ v9 = 0 → ((x1 = x2 → Q (some (.int (-100))) h7) ∧ (¬ x1 = x2 → ((x3 < (-9) → Q (some (.int (-100))) h7) ∧ (¬ x3 < (-9) → ((x3 ≤ 9 → Kd G h7 a0 11 ∧ ∃ q15, hR h7 a0 12 = some q15 ∧ Kd G h7 q15 6 ∧ ∃ q18, hR h7 q15 6 = some q18 ∧ Kd G h7 q18 14 ∧ vp_in ((x1 * 12) + x2) (hN h7 q18) ∧ vp_in ((x1 * 12) + x2) (hN h7 q18) ∧ Q (some (.int (hI h7 q18 ((x1 * 12) + x2).toNatClampNeg))) (sI h7 q18 ((x1 * 12) + x2).toNatClampNeg x3)) ∧ (¬ x3 ≤ 9 → Q (some (.int (-100))) h7))))))))))))
set_option maxRecDepth 20000 in
theorem t_X11_like {G : GG} {d : Nat} {h : HP} {Q : Option Value → HP → Prop} {a0 : Nat} {x1 : Int32} {x2 : Int32} {x3 : Int32} (hd1 : 1 ≤ d) (ht : T_X11_like G d h Q a0 x1 x2 x3) : Ex G d mX11_like 0 [(0, .ref a0), (1, .int x1), (2, .int x2), (3, .int x3)] [] h Q := by
  unfold T_X11_like at ht
  refine x_iload_n (pc2 := 1) 1 (n := 1) (x := x1) rfl dX11_like_0 rfl ?_
  refine x_callS (pc2 := 4) (As := [.int x1]) (rest := []) ms_X11_isFamily ml_X11_125 rfl rfl (Nat.le_of_ble_eq_true rfl) hd1 dX11_like_1 rfl (ht.mono (fun r1 h2 p3 ht' => ?_))
  clear ht
  obtain ⟨v4, rfl, ht⟩ := ht'
  show Ex G d mX11_like 4 [(0, .ref a0), (1, .int x1), (2, .int x2), (3, .int x3)] [.int v4] h2 Q
  refine x_if_eq (pc2 := 7) 31 dX11_like_4 (by decide) rfl (fun c5 => ?_) (fun c5 => ?_)
  · replace ht := ht.1 c5
    refine x_bipush (pc2 := 33) (v := (-100)) (by decide) dX11_like_31 rfl ?_
    exact x_ret (ty := .int) rfl rfl dX11_like_33 ht
  · replace ht := ht.2 c5
    refine x_iload_n (pc2 := 8) 2 (n := 2) (x := x2) rfl dX11_like_7 rfl ?_
    refine x_callS (pc2 := 11) (As := [.int x2]) (rest := []) ms_X11_isFamily ml_X11_125 rfl rfl (Nat.le_of_ble_eq_true rfl) hd1 dX11_like_8 rfl (ht.mono (fun r6 h7 p8 ht' => ?_))
    clear ht
    obtain ⟨v9, rfl, ht⟩ := ht'
    show Ex G d mX11_like 11 [(0, .ref a0), (1, .int x1), (2, .int x2), (3, .int x3)] [.int v9] h7 Q
    refine x_if_eq (pc2 := 14) 31 dX11_like_11 (by decide) rfl (fun c10 => ?_) (fun c10 => ?_)
    · replace ht := ht.1 c10
      refine x_bipush (pc2 := 33) (v := (-100)) (by decide) dX11_like_31 rfl ?_
      exact x_ret (ty := .int) rfl rfl dX11_like_33 ht
    · replace ht := ht.2 c10
      refine x_iload_n (pc2 := 15) 1 (n := 1) (x := x1) rfl dX11_like_14 rfl ?_
      refine x_iload_n (pc2 := 16) 2 (n := 2) (x := x2) rfl dX11_like_15 rfl ?_
      refine x_icmp_eq (pc2 := 19) 31 dX11_like_16 (by decide) rfl (fun c11 => ?_) (fun c11 => ?_)
      · replace ht := ht.1 c11
        refine x_bipush (pc2 := 33) (v := (-100)) (by decide) dX11_like_31 rfl ?_
        exact x_ret (ty := .int) rfl rfl dX11_like_33 ht
      · replace ht := ht.2 c11
        refine x_iload_n (pc2 := 20) 3 (n := 3) (x := x3) rfl dX11_like_19 rfl ?_
        refine x_bipush (pc2 := 22) (v := (-9)) (by decide) dX11_like_20 rfl ?_
        refine x_icmp_lt (pc2 := 25) 31 dX11_like_22 (by decide) rfl (fun c12 => ?_) (fun c12 => ?_)
        · replace ht := ht.1 c12
          refine x_bipush (pc2 := 33) (v := (-100)) (by decide) dX11_like_31 rfl ?_
          exact x_ret (ty := .int) rfl rfl dX11_like_33 ht
        · replace ht := ht.2 c12
          refine x_iload_n (pc2 := 26) 3 (n := 3) (x := x3) rfl dX11_like_25 rfl ?_
          refine x_bipush (pc2 := 28) (v := 9) (by decide) dX11_like_26 rfl ?_
          refine x_icmp_le (pc2 := 31) 34 dX11_like_28 (by decide) rfl (fun c13 => ?_) (fun c13 => ?_)
          · replace ht := ht.1 c13
            refine x_iload_n (pc2 := 35) 1 (n := 1) (x := x1) rfl dX11_like_34 rfl ?_
            refine x_bipush (pc2 := 37) (v := 12) (by decide) dX11_like_35 rfl ?_
            refine x_imul (pc2 := 38) dX11_like_37 rfl ?_
            refine x_iload_n (pc2 := 39) 2 (n := 2) (x := x2) rfl dX11_like_38 rfl ?_
            refine x_iadd (pc2 := 40) dX11_like_39 rfl ?_
            refine x_istore (pc2 := 42) [1, 2, 3, 4, 0] (n := 4) (x := ((x1 * 12) + x2)) (lv2 := [(0, .ref a0), (1, .int x1), (2, .int x2), (3, .int x3), (4, .int ((x1 * 12) + x2))]) (by decide) rfl dX11_like_40 rfl ?_
            refine x_aload_n (pc2 := 43) 0 (n := 0) (x := a0) rfl dX11_like_42 rfl ?_
            obtain ⟨k14, ht⟩ := ht
            obtain ⟨q15, e16, ht⟩ := ht
            refine y_getR (pc2 := 46) (κ := 11) (k := 12) fl_X11_80 (by decide) (by decide) k14 rfl e16 dX11_like_43 rfl ?_
            obtain ⟨k17, ht⟩ := ht
            obtain ⟨q18, e19, ht⟩ := ht
            refine y_getR (pc2 := 49) (κ := 6) (k := 6) fl_X11_129 (by decide) (by decide) k17 rfl e19 dX11_like_46 rfl ?_
            refine x_iload (pc2 := 51) 4 (n := 4) (x := ((x1 * 12) + x2)) rfl dX11_like_49 rfl ?_
            obtain ⟨k20, ht⟩ := ht
            obtain ⟨b21, ht⟩ := ht
            refine x_iald (pc2 := 52) k20 b21 dX11_like_51 rfl ?_
            refine x_istore (pc2 := 54) [1, 2, 3, 4, 5, 0] (n := 5) (x := (hI h7 q18 ((x1 * 12) + x2).toNatClampNeg)) (lv2 := [(0, .ref a0), (1, .int x1), (2, .int x2), (3, .int x3), (4, .int ((x1 * 12) + x2)), (5, .int (hI h7 q18 ((x1 * 12) + x2).toNatClampNeg))]) (by decide) rfl dX11_like_52 rfl ?_
            refine x_aload_n (pc2 := 55) 0 (n := 0) (x := a0) rfl dX11_like_54 rfl ?_
            refine y_getR (pc2 := 58) (κ := 11) (k := 12) fl_X11_80 (by decide) (by decide) k14 rfl e16 dX11_like_55 rfl ?_
            refine y_getR (pc2 := 61) (κ := 6) (k := 6) fl_X11_129 (by decide) (by decide) k17 rfl e19 dX11_like_58 rfl ?_
            refine x_iload (pc2 := 63) 4 (n := 4) (x := ((x1 * 12) + x2)) rfl dX11_like_61 rfl ?_
            refine x_iload_n (pc2 := 64) 3 (n := 3) (x := x3) rfl dX11_like_63 rfl ?_
            obtain ⟨b22, ht⟩ := ht
            refine x_iast (pc2 := 65) k20 b22 dX11_like_64 rfl ?_
            refine x_iload (pc2 := 67) 5 (n := 5) (x := (hI h7 q18 ((x1 * 12) + x2).toNatClampNeg)) rfl dX11_like_65 rfl ?_
            exact x_ret (ty := .int) rfl rfl dX11_like_67 ht
          · replace ht := ht.2 c13
            refine x_bipush (pc2 := 33) (v := (-100)) (by decide) dX11_like_31 rfl ?_
            exact x_ret (ty := .int) rfl rfl dX11_like_33 ht
theorem e_X11_like {G : GG} {d : Nat} {h : HP} {Q : Option Value → HP → Prop} {a0 : Nat} {x1 : Int32} {x2 : Int32} {x3 : Int32} (hd1 : 1 ≤ d) (ht : T_X11_like G d h Q a0 x1 x2 x3) : Cal G d mX11_like [.ref a0, .int x1, .int x2, .int x3] h Q := cal_of rfl (Nat.le_of_ble_eq_true rfl) (t_X11_like hd1 ht)
def T_X11_can (G : GG) (d : Nat) (h : HP) (Q : Option Value → HP → Prop) (a0 : Nat) (x1 : Int32) (x2 : Int32) (x3 : Int32) (x4 : Int32) (x5 : Int32) (x6 : Int32) (x7 : Int32) (x8 : Int32) : Prop :=
  Kd G h a0 11 ∧ Cal G (d - 1) mX11_lawAt [.ref a0, .int x1] h (fun r1 h2 => ∃ v5, r1 = some (va_rf v5) ∧ ((v5 = none → Q (some (.int (-1))) h2) ∧ (∀ q7, v5 = some q7 → Cal G (d - 1) mX11_areThere [.ref a0, .int x2, .int x7, .int x8] h2 (fun r8 h9 => ∃ v11, r8 = some (.int v11) ∧ ((¬ v11 = 0 → ∃ q13, hR h9 a0 8 = some q13 ∧ Kd G h9 q13 3 ∧ Cal G (d - 1) mX3_set [.ref q13, .int x2, .int x3, .int x4, .int x5, .int x6, .int x7, .int x8] h9 (fun r15 h16 => r15 = none ∧ ∃ q19, hR h16 a0 8 = some q19 ∧ Cal G (d - 1) mX11_mayCome [.ref a0, .ref q7, .ref q19] h16 (fun r21 h22 => ∃ v24, r21 = some (.int v24) ∧ ((v24 = 0 → Q (some (.int 0)) h22) ∧ (¬ v24 = 0 → Q (some (.int 1)) h22))))) ∧ (v11 = 0 → Q (some (.int (-1))) h9))))))
set_option maxRecDepth 20000 in
theorem t_X11_can {G : GG} {d : Nat} {h : HP} {Q : Option Value → HP → Prop} {a0 : Nat} {x1 : Int32} {x2 : Int32} {x3 : Int32} {x4 : Int32} {x5 : Int32} {x6 : Int32} {x7 : Int32} {x8 : Int32} (hd1 : 1 ≤ d) (ht : T_X11_can G d h Q a0 x1 x2 x3 x4 x5 x6 x7 x8) : Ex G d mX11_can 0 [(0, .ref a0), (1, .int x1), (2, .int x2), (3, .int x3), (4, .int x4), (5, .int x5), (6, .int x6), (7, .int x7), (8, .int x8)] [] h Q := by
  unfold T_X11_can at ht
  refine x_aload_n (pc2 := 1) 0 (n := 0) (x := a0) rfl dX11_can_0 rfl ?_
  refine x_iload_n (pc2 := 2) 1 (n := 1) (x := x1) rfl dX11_can_1 rfl ?_
  obtain ⟨k4, ht⟩ := ht
  refine x_callV (pc2 := 5) (As := [.int x1]) (rest := []) (b := a0) mv_X11_lawAt ml_X11_133 k4 rfl rfl (Nat.le_of_ble_eq_true rfl) hd1 dX11_can_2 rfl (ht.mono (fun r1 h2 p3 ht' => ?_))
  clear ht
  obtain ⟨v5, rfl, ht⟩ := ht'
  show Ex G d mX11_can 5 [(0, .ref a0), (1, .int x1), (2, .int x2), (3, .int x3), (4, .int x4), (5, .int x5), (6, .int x6), (7, .int x7), (8, .int x8)] [va_rf v5] h2 Q
  refine x_astoreq (pc2 := 7) [1, 2, 3, 4, 5, 6, 7, 8, 9, 0] (n := 9) (x := v5) (lv2 := [(0, .ref a0), (1, .int x1), (2, .int x2), (3, .int x3), (4, .int x4), (5, .int x5), (6, .int x6), (7, .int x7), (8, .int x8), (9, va_rf v5)]) (by decide) rfl dX11_can_5 rfl ?_
  refine x_aloadq (pc2 := 9) 9 (n := 9) (x := v5) rfl dX11_can_7 rfl ?_
  refine x_ifnull (pc2 := 12) (x := v5) 24 dX11_can_9 (by decide) rfl (fun e6 => ?_) (fun q7 e6 => ?_)
  · replace ht := ht.1 e6
    subst e6
    show Ex G d mX11_can 24 [(0, .ref a0), (1, .int x1), (2, .int x2), (3, .int x3), (4, .int x4), (5, .int x5), (6, .int x6), (7, .int x7), (8, .int x8), (9, va_rf none)] [] h2 Q
    refine x_iconst (pc2 := 25) (v := (-1)) (by decide) dX11_can_24 rfl ?_
    exact x_ret (ty := .int) rfl rfl dX11_can_25 ht
  · replace ht := ht.2 q7 e6
    subst e6
    show Ex G d mX11_can 12 [(0, .ref a0), (1, .int x1), (2, .int x2), (3, .int x3), (4, .int x4), (5, .int x5), (6, .int x6), (7, .int x7), (8, .int x8), (9, .ref q7)] [] h2 Q
    refine x_aload_n (pc2 := 13) 0 (n := 0) (x := a0) rfl dX11_can_12 rfl ?_
    refine x_iload_n (pc2 := 14) 2 (n := 2) (x := x2) rfl dX11_can_13 rfl ?_
    refine x_iload (pc2 := 16) 7 (n := 7) (x := x7) rfl dX11_can_14 rfl ?_
    refine x_iload (pc2 := 18) 8 (n := 8) (x := x8) rfl dX11_can_16 rfl ?_
    refine x_callV (pc2 := 21) (As := [.int x2, .int x7, .int x8]) (rest := []) (b := a0) mv_X11_areThere ml_X11_137 (k4.up p3) rfl rfl (Nat.le_of_ble_eq_true rfl) hd1 dX11_can_18 rfl (ht.mono (fun r8 h9 p10 ht' => ?_))
    clear ht
    obtain ⟨v11, rfl, ht⟩ := ht'
    show Ex G d mX11_can 21 [(0, .ref a0), (1, .int x1), (2, .int x2), (3, .int x3), (4, .int x4), (5, .int x5), (6, .int x6), (7, .int x7), (8, .int x8), (9, .ref q7)] [.int v11] h9 Q
    refine y_if_ne (pc2 := 24) 26 dX11_can_21 (by decide) rfl (fun c12 => ?_) (fun c12 => ?_)
    · replace ht := ht.1 c12
      refine x_aload_n (pc2 := 27) 0 (n := 0) (x := a0) rfl dX11_can_26 rfl ?_
      obtain ⟨q13, e14, ht⟩ := ht
      refine y_getR (pc2 := 30) (κ := 11) (k := 8) fl_X11_62 (by decide) (by decide) ((k4.up p3).up p10) rfl e14 dX11_can_27 rfl ?_
      refine x_iload_n (pc2 := 31) 2 (n := 2) (x := x2) rfl dX11_can_30 rfl ?_
      refine x_iload_n (pc2 := 32) 3 (n := 3) (x := x3) rfl dX11_can_31 rfl ?_
      refine x_iload (pc2 := 34) 4 (n := 4) (x := x4) rfl dX11_can_32 rfl ?_
      refine x_iload (pc2 := 36) 5 (n := 5) (x := x5) rfl dX11_can_34 rfl ?_
      refine x_iload (pc2 := 38) 6 (n := 6) (x := x6) rfl dX11_can_36 rfl ?_
      refine x_iload (pc2 := 40) 7 (n := 7) (x := x7) rfl dX11_can_38 rfl ?_
      refine x_iload (pc2 := 42) 8 (n := 8) (x := x8) rfl dX11_can_40 rfl ?_
      obtain ⟨k18, ht⟩ := ht
      refine x_callV (pc2 := 45) (As := [.int x2, .int x3, .int x4, .int x5, .int x6, .int x7, .int x8]) (rest := []) (b := q13) mv_X3_set ml_X11_141 k18 rfl rfl (Nat.le_of_ble_eq_true rfl) hd1 dX11_can_42 rfl (ht.mono (fun r15 h16 p17 ht' => ?_))
      clear ht
      obtain ⟨rfl, ht⟩ := ht'
      show Ex G d mX11_can 45 [(0, .ref a0), (1, .int x1), (2, .int x2), (3, .int x3), (4, .int x4), (5, .int x5), (6, .int x6), (7, .int x7), (8, .int x8), (9, .ref q7)] [] h16 Q
      refine x_aload_n (pc2 := 46) 0 (n := 0) (x := a0) rfl dX11_can_45 rfl ?_
      refine x_aload (pc2 := 48) 9 (n := 9) (x := q7) rfl dX11_can_46 rfl ?_
      refine x_aload_n (pc2 := 49) 0 (n := 0) (x := a0) rfl dX11_can_48 rfl ?_
      obtain ⟨q19, e20, ht⟩ := ht
      refine y_getR (pc2 := 52) (κ := 11) (k := 8) fl_X11_62 (by decide) (by decide) (((k4.up p3).up p10).up p17) rfl e20 dX11_can_49 rfl ?_
      refine x_callV (pc2 := 55) (As := [.ref q7, .ref q19]) (rest := []) (b := a0) mv_X11_mayCome ml_X11_145 (((k4.up p3).up p10).up p17) rfl rfl (Nat.le_of_ble_eq_true rfl) hd1 dX11_can_52 rfl (ht.mono (fun r21 h22 p23 ht' => ?_))
      clear ht
      obtain ⟨v24, rfl, ht⟩ := ht'
      show Ex G d mX11_can 55 [(0, .ref a0), (1, .int x1), (2, .int x2), (3, .int x3), (4, .int x4), (5, .int x5), (6, .int x6), (7, .int x7), (8, .int x8), (9, .ref q7)] [.int v24] h22 Q
      refine x_if_eq (pc2 := 58) 62 dX11_can_55 (by decide) rfl (fun c25 => ?_) (fun c25 => ?_)
      · replace ht := ht.1 c25
        refine x_iconst (pc2 := 63) (v := 0) (by decide) dX11_can_62 rfl ?_
        exact x_ret (ty := .int) rfl rfl dX11_can_63 ht
      · replace ht := ht.2 c25
        refine x_iconst (pc2 := 59) (v := 1) (by decide) dX11_can_58 rfl ?_
        refine x_goto 63 dX11_can_59 (by decide) ?_
        exact x_ret (ty := .int) rfl rfl dX11_can_63 ht
    · replace ht := ht.2 c12
      refine x_iconst (pc2 := 25) (v := (-1)) (by decide) dX11_can_24 rfl ?_
      exact x_ret (ty := .int) rfl rfl dX11_can_25 ht
theorem e_X11_can {G : GG} {d : Nat} {h : HP} {Q : Option Value → HP → Prop} {a0 : Nat} {x1 : Int32} {x2 : Int32} {x3 : Int32} {x4 : Int32} {x5 : Int32} {x6 : Int32} {x7 : Int32} {x8 : Int32} (hd1 : 1 ≤ d) (ht : T_X11_can G d h Q a0 x1 x2 x3 x4 x5 x6 x7 x8) : Cal G d mX11_can [.ref a0, .int x1, .int x2, .int x3, .int x4, .int x5, .int x6, .int x7, .int x8] h Q := cal_of rfl (Nat.le_of_ble_eq_true rfl) (t_X11_can hd1 ht)
def T_X11_build (G : GG) (d : Nat) (h : HP) (Q : Option Value → HP → Prop) (a0 : Nat) (x1 : Int32) (x2 : Int32) (x3 : Int32) (x4 : Int32) (x5 : Int32) (x6 : Int32) (x7 : Int32) (x8 : Int32) : Prop :=
  Kd G h a0 11 ∧ Cal G (d - 1) mX11_lawAt [.ref a0, .int x1] h (fun r1 h2 => ∃ v5, r1 = some (va_rf v5) ∧ ((v5 = none → Q (some (.int (-1))) h2) ∧ (∀ q7, v5 = some q7 → Cal G (d - 1) mX11_areThere [.ref a0, .int x2, .int x7, .int x8] h2 (fun r8 h9 => ∃ v11, r8 = some (.int v11) ∧ ((¬ v11 = 0 → ∃ q13, hR h9 a0 8 = some q13 ∧ Kd G h9 q13 3 ∧ Cal G (d - 1) mX3_set [.ref q13, .int x2, .int x3, .int x4, .int x5, .int x6, .int x7, .int x8] h9 (fun r15 h16 => r15 = none ∧ ∃ q19, hR h16 a0 12 = some q19 ∧ Kd G h16 q19 6 ∧ Cal G (d - 1) mX6_freeNumber [.ref q19] h16 (fun r21 h22 => ∃ v25, r21 = some (.int v25) ∧ ((v25 = (-1) → Q (some (.int (-2))) h22) ∧ (¬ v25 = (-1) → ∃ q27, hR h22 a0 8 = some q27 ∧ Cal G (d - 1) mX11_mayCome [.ref a0, .ref q7, .ref q27] h22 (fun r29 h30 => ∃ v32, r29 = some (.int v32) ∧ ((¬ v32 = 0 → ∃ q34, hR h30 a0 12 = some q34 ∧ ∃ q36, hR h30 a0 8 = some q36 ∧ Kd G h30 q34 6 ∧ Cal G (d - 1) mX6_raise [.ref q34, .int v25, .ref q36] h30 (fun r38 h39 => r38 = none ∧ Q (some (.int v25)) h39)) ∧ (v32 = 0 → Q (some (.int (-2))) h30)))))))) ∧ (v11 = 0 → Q (some (.int (-1))) h9))))))
set_option maxRecDepth 20000 in
theorem t_X11_build {G : GG} {d : Nat} {h : HP} {Q : Option Value → HP → Prop} {a0 : Nat} {x1 : Int32} {x2 : Int32} {x3 : Int32} {x4 : Int32} {x5 : Int32} {x6 : Int32} {x7 : Int32} {x8 : Int32} (hd1 : 1 ≤ d) (ht : T_X11_build G d h Q a0 x1 x2 x3 x4 x5 x6 x7 x8) : Ex G d mX11_build 0 [(0, .ref a0), (1, .int x1), (2, .int x2), (3, .int x3), (4, .int x4), (5, .int x5), (6, .int x6), (7, .int x7), (8, .int x8)] [] h Q := by
  unfold T_X11_build at ht
  refine x_aload_n (pc2 := 1) 0 (n := 0) (x := a0) rfl dX11_build_0 rfl ?_
  refine x_iload_n (pc2 := 2) 1 (n := 1) (x := x1) rfl dX11_build_1 rfl ?_
  obtain ⟨k4, ht⟩ := ht
  refine x_callV (pc2 := 5) (As := [.int x1]) (rest := []) (b := a0) mv_X11_lawAt ml_X11_133 k4 rfl rfl (Nat.le_of_ble_eq_true rfl) hd1 dX11_build_2 rfl (ht.mono (fun r1 h2 p3 ht' => ?_))
  clear ht
  obtain ⟨v5, rfl, ht⟩ := ht'
  show Ex G d mX11_build 5 [(0, .ref a0), (1, .int x1), (2, .int x2), (3, .int x3), (4, .int x4), (5, .int x5), (6, .int x6), (7, .int x7), (8, .int x8)] [va_rf v5] h2 Q
  refine x_astoreq (pc2 := 7) [1, 2, 3, 4, 5, 6, 7, 8, 9, 0] (n := 9) (x := v5) (lv2 := [(0, .ref a0), (1, .int x1), (2, .int x2), (3, .int x3), (4, .int x4), (5, .int x5), (6, .int x6), (7, .int x7), (8, .int x8), (9, va_rf v5)]) (by decide) rfl dX11_build_5 rfl ?_
  refine x_aloadq (pc2 := 9) 9 (n := 9) (x := v5) rfl dX11_build_7 rfl ?_
  refine x_ifnull (pc2 := 12) (x := v5) 24 dX11_build_9 (by decide) rfl (fun e6 => ?_) (fun q7 e6 => ?_)
  · replace ht := ht.1 e6
    subst e6
    show Ex G d mX11_build 24 [(0, .ref a0), (1, .int x1), (2, .int x2), (3, .int x3), (4, .int x4), (5, .int x5), (6, .int x6), (7, .int x7), (8, .int x8), (9, va_rf none)] [] h2 Q
    refine x_iconst (pc2 := 25) (v := (-1)) (by decide) dX11_build_24 rfl ?_
    exact x_ret (ty := .int) rfl rfl dX11_build_25 ht
  · replace ht := ht.2 q7 e6
    subst e6
    show Ex G d mX11_build 12 [(0, .ref a0), (1, .int x1), (2, .int x2), (3, .int x3), (4, .int x4), (5, .int x5), (6, .int x6), (7, .int x7), (8, .int x8), (9, .ref q7)] [] h2 Q
    refine x_aload_n (pc2 := 13) 0 (n := 0) (x := a0) rfl dX11_build_12 rfl ?_
    refine x_iload_n (pc2 := 14) 2 (n := 2) (x := x2) rfl dX11_build_13 rfl ?_
    refine x_iload (pc2 := 16) 7 (n := 7) (x := x7) rfl dX11_build_14 rfl ?_
    refine x_iload (pc2 := 18) 8 (n := 8) (x := x8) rfl dX11_build_16 rfl ?_
    refine x_callV (pc2 := 21) (As := [.int x2, .int x7, .int x8]) (rest := []) (b := a0) mv_X11_areThere ml_X11_137 (k4.up p3) rfl rfl (Nat.le_of_ble_eq_true rfl) hd1 dX11_build_18 rfl (ht.mono (fun r8 h9 p10 ht' => ?_))
    clear ht
    obtain ⟨v11, rfl, ht⟩ := ht'
    show Ex G d mX11_build 21 [(0, .ref a0), (1, .int x1), (2, .int x2), (3, .int x3), (4, .int x4), (5, .int x5), (6, .int x6), (7, .int x7), (8, .int x8), (9, .ref q7)] [.int v11] h9 Q
    refine y_if_ne (pc2 := 24) 26 dX11_build_21 (by decide) rfl (fun c12 => ?_) (fun c12 => ?_)
    · replace ht := ht.1 c12
      refine x_aload_n (pc2 := 27) 0 (n := 0) (x := a0) rfl dX11_build_26 rfl ?_
      obtain ⟨q13, e14, ht⟩ := ht
      refine y_getR (pc2 := 30) (κ := 11) (k := 8) fl_X11_62 (by decide) (by decide) ((k4.up p3).up p10) rfl e14 dX11_build_27 rfl ?_
      refine x_iload_n (pc2 := 31) 2 (n := 2) (x := x2) rfl dX11_build_30 rfl ?_
      refine x_iload_n (pc2 := 32) 3 (n := 3) (x := x3) rfl dX11_build_31 rfl ?_
      refine x_iload (pc2 := 34) 4 (n := 4) (x := x4) rfl dX11_build_32 rfl ?_
      refine x_iload (pc2 := 36) 5 (n := 5) (x := x5) rfl dX11_build_34 rfl ?_
      refine x_iload (pc2 := 38) 6 (n := 6) (x := x6) rfl dX11_build_36 rfl ?_
      refine x_iload (pc2 := 40) 7 (n := 7) (x := x7) rfl dX11_build_38 rfl ?_
      refine x_iload (pc2 := 42) 8 (n := 8) (x := x8) rfl dX11_build_40 rfl ?_
      obtain ⟨k18, ht⟩ := ht
      refine x_callV (pc2 := 45) (As := [.int x2, .int x3, .int x4, .int x5, .int x6, .int x7, .int x8]) (rest := []) (b := q13) mv_X3_set ml_X11_141 k18 rfl rfl (Nat.le_of_ble_eq_true rfl) hd1 dX11_build_42 rfl (ht.mono (fun r15 h16 p17 ht' => ?_))
      clear ht
      obtain ⟨rfl, ht⟩ := ht'
      show Ex G d mX11_build 45 [(0, .ref a0), (1, .int x1), (2, .int x2), (3, .int x3), (4, .int x4), (5, .int x5), (6, .int x6), (7, .int x7), (8, .int x8), (9, .ref q7)] [] h16 Q
      refine x_aload_n (pc2 := 46) 0 (n := 0) (x := a0) rfl dX11_build_45 rfl ?_
      obtain ⟨q19, e20, ht⟩ := ht
      refine y_getR (pc2 := 49) (κ := 11) (k := 12) fl_X11_80 (by decide) (by decide) (((k4.up p3).up p10).up p17) rfl e20 dX11_build_46 rfl ?_
      obtain ⟨k24, ht⟩ := ht
      refine x_callV (pc2 := 52) (As := []) (rest := []) (b := q19) mv_X6_freeNumber ml_X11_149 k24 rfl rfl (Nat.le_of_ble_eq_true rfl) hd1 dX11_build_49 rfl (ht.mono (fun r21 h22 p23 ht' => ?_))
      clear ht
      obtain ⟨v25, rfl, ht⟩ := ht'
      show Ex G d mX11_build 52 [(0, .ref a0), (1, .int x1), (2, .int x2), (3, .int x3), (4, .int x4), (5, .int x5), (6, .int x6), (7, .int x7), (8, .int x8), (9, .ref q7)] [.int v25] h22 Q
      refine x_istore (pc2 := 54) [1, 2, 3, 4, 5, 6, 7, 8, 9, 10, 0] (n := 10) (x := v25) (lv2 := [(0, .ref a0), (1, .int x1), (2, .int x2), (3, .int x3), (4, .int x4), (5, .int x5), (6, .int x6), (7, .int x7), (8, .int x8), (9, .ref q7), (10, .int v25)]) (by decide) rfl dX11_build_52 rfl ?_
      refine x_iload (pc2 := 56) 10 (n := 10) (x := v25) rfl dX11_build_54 rfl ?_
      refine x_iconst (pc2 := 57) (v := (-1)) (by decide) dX11_build_56 rfl ?_
      refine x_icmp_eq (pc2 := 60) 73 dX11_build_57 (by decide) rfl (fun c26 => ?_) (fun c26 => ?_)
      · replace ht := ht.1 c26
        refine x_bipush (pc2 := 75) (v := (-2)) (by decide) dX11_build_73 rfl ?_
        exact x_ret (ty := .int) rfl rfl dX11_build_75 ht
      · replace ht := ht.2 c26
        refine x_aload_n (pc2 := 61) 0 (n := 0) (x := a0) rfl dX11_build_60 rfl ?_
        refine x_aload (pc2 := 63) 9 (n := 9) (x := q7) rfl dX11_build_61 rfl ?_
        refine x_aload_n (pc2 := 64) 0 (n := 0) (x := a0) rfl dX11_build_63 rfl ?_
        obtain ⟨q27, e28, ht⟩ := ht
        refine y_getR (pc2 := 67) (κ := 11) (k := 8) fl_X11_62 (by decide) (by decide) ((((k4.up p3).up p10).up p17).up p23) rfl e28 dX11_build_64 rfl ?_
        refine x_callV (pc2 := 70) (As := [.ref q7, .ref q27]) (rest := []) (b := a0) mv_X11_mayCome ml_X11_145 ((((k4.up p3).up p10).up p17).up p23) rfl rfl (Nat.le_of_ble_eq_true rfl) hd1 dX11_build_67 rfl (ht.mono (fun r29 h30 p31 ht' => ?_))
        clear ht
        obtain ⟨v32, rfl, ht⟩ := ht'
        show Ex G d mX11_build 70 [(0, .ref a0), (1, .int x1), (2, .int x2), (3, .int x3), (4, .int x4), (5, .int x5), (6, .int x6), (7, .int x7), (8, .int x8), (9, .ref q7), (10, .int v25)] [.int v32] h30 Q
        refine y_if_ne (pc2 := 73) 76 dX11_build_70 (by decide) rfl (fun c33 => ?_) (fun c33 => ?_)
        · replace ht := ht.1 c33
          refine x_aload_n (pc2 := 77) 0 (n := 0) (x := a0) rfl dX11_build_76 rfl ?_
          obtain ⟨q34, e35, ht⟩ := ht
          refine y_getR (pc2 := 80) (κ := 11) (k := 12) fl_X11_80 (by decide) (by decide) (((((k4.up p3).up p10).up p17).up p23).up p31) rfl e35 dX11_build_77 rfl ?_
          refine x_iload (pc2 := 82) 10 (n := 10) (x := v25) rfl dX11_build_80 rfl ?_
          refine x_aload_n (pc2 := 83) 0 (n := 0) (x := a0) rfl dX11_build_82 rfl ?_
          obtain ⟨q36, e37, ht⟩ := ht
          refine y_getR (pc2 := 86) (κ := 11) (k := 8) fl_X11_62 (by decide) (by decide) (((((k4.up p3).up p10).up p17).up p23).up p31) rfl e37 dX11_build_83 rfl ?_
          obtain ⟨k41, ht⟩ := ht
          refine x_callV (pc2 := 89) (As := [.int v25, .ref q36]) (rest := []) (b := q34) mv_X6_raise ml_X11_153 k41 rfl rfl (Nat.le_of_ble_eq_true rfl) hd1 dX11_build_86 rfl (ht.mono (fun r38 h39 p40 ht' => ?_))
          clear ht
          obtain ⟨rfl, ht⟩ := ht'
          show Ex G d mX11_build 89 [(0, .ref a0), (1, .int x1), (2, .int x2), (3, .int x3), (4, .int x4), (5, .int x5), (6, .int x6), (7, .int x7), (8, .int x8), (9, .ref q7), (10, .int v25)] [] h39 Q
          refine x_iload (pc2 := 91) 10 (n := 10) (x := v25) rfl dX11_build_89 rfl ?_
          exact x_ret (ty := .int) rfl rfl dX11_build_91 ht
        · replace ht := ht.2 c33
          refine x_bipush (pc2 := 75) (v := (-2)) (by decide) dX11_build_73 rfl ?_
          exact x_ret (ty := .int) rfl rfl dX11_build_75 ht
    · replace ht := ht.2 c12
      refine x_iconst (pc2 := 25) (v := (-1)) (by decide) dX11_build_24 rfl ?_
      exact x_ret (ty := .int) rfl rfl dX11_build_25 ht
theorem e_X11_build {G : GG} {d : Nat} {h : HP} {Q : Option Value → HP → Prop} {a0 : Nat} {x1 : Int32} {x2 : Int32} {x3 : Int32} {x4 : Int32} {x5 : Int32} {x6 : Int32} {x7 : Int32} {x8 : Int32} (hd1 : 1 ≤ d) (ht : T_X11_build G d h Q a0 x1 x2 x3 x4 x5 x6 x7 x8) : Cal G d mX11_build [.ref a0, .int x1, .int x2, .int x3, .int x4, .int x5, .int x6, .int x7, .int x8] h Q := cal_of rfl (Nat.le_of_ble_eq_true rfl) (t_X11_build hd1 ht)
def T_X11_wish (G : GG) (d : Nat) (h : HP) (Q : Option Value → HP → Prop) (a0 : Nat) (x1 : Int32) (x2 : Int32) (x3 : Int32) (x4 : Int32) (x5 : Int32) (x6 : Int32) (x7 : Int32) (x8 : Int32) : Prop :=
  Kd G h a0 11 ∧ Cal G (d - 1) mX11_wishAt [.ref a0, .int x1] h (fun r1 h2 => ∃ v5, r1 = some (va_rf v5) ∧ ((v5 = none → Q (some (.long 0)) h2) ∧ (∀ q7, v5 = some q7 → Cal G (d - 1) mX11_areThere [.ref a0, .int x2, .int x7, .int x8] h2 (fun r8 h9 => ∃ v11, r8 = some (.int v11) ∧ ((¬ v11 = 0 → ∃ q13, hR h9 a0 8 = some q13 ∧ Kd G h9 q13 3 ∧ Cal G (d - 1) mX3_set [.ref q13, .int x2, .int x3, .int x4, .int x5, .int x6, .int x7, .int x8] h9 (fun r15 h16 => r15 = none ∧ ∃ q19, hR h16 a0 8 = some q19 ∧ Cal G (d - 1) mX11_fits [.ref a0, .ref q19] h16 (fun r21 h22 => ∃ v24, r21 = some (.int v24) ∧ ((¬ v24 = 0 → ∃ q26, hR h22 a0 8 = some q26 ∧ Cal G (d - 1) mX11_describe [.ref a0, .ref q26] h22 (fun r28 h29 => r28 = none ∧ ∃ q31, hR h29 a0 8 = some q31 ∧ Kd G h29 q31 3 ∧ ∃ q34, hR h29 q31 17 = some q34 ∧ Kd G h29 q7 4 ∧ Cal G (d - 1) mX4_total [.ref q7, .ref q34] h29 (fun r36 h37 => ∃ v40, r36 = some (.long v40) ∧ Q (some (.long v40)) h37))) ∧ (v24 = 0 → Q (some (.long 0)) h22))))) ∧ (v11 = 0 → Q (some (.long 0)) h9))))))
set_option maxRecDepth 20000 in
theorem t_X11_wish {G : GG} {d : Nat} {h : HP} {Q : Option Value → HP → Prop} {a0 : Nat} {x1 : Int32} {x2 : Int32} {x3 : Int32} {x4 : Int32} {x5 : Int32} {x6 : Int32} {x7 : Int32} {x8 : Int32} (hd1 : 1 ≤ d) (ht : T_X11_wish G d h Q a0 x1 x2 x3 x4 x5 x6 x7 x8) : Ex G d mX11_wish 0 [(0, .ref a0), (1, .int x1), (2, .int x2), (3, .int x3), (4, .int x4), (5, .int x5), (6, .int x6), (7, .int x7), (8, .int x8)] [] h Q := by
  unfold T_X11_wish at ht
  refine x_aload_n (pc2 := 1) 0 (n := 0) (x := a0) rfl dX11_wish_0 rfl ?_
  refine x_iload_n (pc2 := 2) 1 (n := 1) (x := x1) rfl dX11_wish_1 rfl ?_
  obtain ⟨k4, ht⟩ := ht
  refine x_callV (pc2 := 5) (As := [.int x1]) (rest := []) (b := a0) mv_X11_wishAt ml_X11_157 k4 rfl rfl (Nat.le_of_ble_eq_true rfl) hd1 dX11_wish_2 rfl (ht.mono (fun r1 h2 p3 ht' => ?_))
  clear ht
  obtain ⟨v5, rfl, ht⟩ := ht'
  show Ex G d mX11_wish 5 [(0, .ref a0), (1, .int x1), (2, .int x2), (3, .int x3), (4, .int x4), (5, .int x5), (6, .int x6), (7, .int x7), (8, .int x8)] [va_rf v5] h2 Q
  refine x_astoreq (pc2 := 7) [1, 2, 3, 4, 5, 6, 7, 8, 9, 0] (n := 9) (x := v5) (lv2 := [(0, .ref a0), (1, .int x1), (2, .int x2), (3, .int x3), (4, .int x4), (5, .int x5), (6, .int x6), (7, .int x7), (8, .int x8), (9, va_rf v5)]) (by decide) rfl dX11_wish_5 rfl ?_
  refine x_aloadq (pc2 := 9) 9 (n := 9) (x := v5) rfl dX11_wish_7 rfl ?_
  refine x_ifnull (pc2 := 12) (x := v5) 24 dX11_wish_9 (by decide) rfl (fun e6 => ?_) (fun q7 e6 => ?_)
  · replace ht := ht.1 e6
    subst e6
    show Ex G d mX11_wish 24 [(0, .ref a0), (1, .int x1), (2, .int x2), (3, .int x3), (4, .int x4), (5, .int x5), (6, .int x6), (7, .int x7), (8, .int x8), (9, va_rf none)] [] h2 Q
    refine x_lconst (pc2 := 25) (v := 0) (by decide) dX11_wish_24 rfl ?_
    exact x_retL rfl dX11_wish_25 ht
  · replace ht := ht.2 q7 e6
    subst e6
    show Ex G d mX11_wish 12 [(0, .ref a0), (1, .int x1), (2, .int x2), (3, .int x3), (4, .int x4), (5, .int x5), (6, .int x6), (7, .int x7), (8, .int x8), (9, .ref q7)] [] h2 Q
    refine x_aload_n (pc2 := 13) 0 (n := 0) (x := a0) rfl dX11_wish_12 rfl ?_
    refine x_iload_n (pc2 := 14) 2 (n := 2) (x := x2) rfl dX11_wish_13 rfl ?_
    refine x_iload (pc2 := 16) 7 (n := 7) (x := x7) rfl dX11_wish_14 rfl ?_
    refine x_iload (pc2 := 18) 8 (n := 8) (x := x8) rfl dX11_wish_16 rfl ?_
    refine x_callV (pc2 := 21) (As := [.int x2, .int x7, .int x8]) (rest := []) (b := a0) mv_X11_areThere ml_X11_137 (k4.up p3) rfl rfl (Nat.le_of_ble_eq_true rfl) hd1 dX11_wish_18 rfl (ht.mono (fun r8 h9 p10 ht' => ?_))
    clear ht
    obtain ⟨v11, rfl, ht⟩ := ht'
    show Ex G d mX11_wish 21 [(0, .ref a0), (1, .int x1), (2, .int x2), (3, .int x3), (4, .int x4), (5, .int x5), (6, .int x6), (7, .int x7), (8, .int x8), (9, .ref q7)] [.int v11] h9 Q
    refine y_if_ne (pc2 := 24) 26 dX11_wish_21 (by decide) rfl (fun c12 => ?_) (fun c12 => ?_)
    · replace ht := ht.1 c12
      refine x_aload_n (pc2 := 27) 0 (n := 0) (x := a0) rfl dX11_wish_26 rfl ?_
      obtain ⟨q13, e14, ht⟩ := ht
      refine y_getR (pc2 := 30) (κ := 11) (k := 8) fl_X11_62 (by decide) (by decide) ((k4.up p3).up p10) rfl e14 dX11_wish_27 rfl ?_
      refine x_iload_n (pc2 := 31) 2 (n := 2) (x := x2) rfl dX11_wish_30 rfl ?_
      refine x_iload_n (pc2 := 32) 3 (n := 3) (x := x3) rfl dX11_wish_31 rfl ?_
      refine x_iload (pc2 := 34) 4 (n := 4) (x := x4) rfl dX11_wish_32 rfl ?_
      refine x_iload (pc2 := 36) 5 (n := 5) (x := x5) rfl dX11_wish_34 rfl ?_
      refine x_iload (pc2 := 38) 6 (n := 6) (x := x6) rfl dX11_wish_36 rfl ?_
      refine x_iload (pc2 := 40) 7 (n := 7) (x := x7) rfl dX11_wish_38 rfl ?_
      refine x_iload (pc2 := 42) 8 (n := 8) (x := x8) rfl dX11_wish_40 rfl ?_
      obtain ⟨k18, ht⟩ := ht
      refine x_callV (pc2 := 45) (As := [.int x2, .int x3, .int x4, .int x5, .int x6, .int x7, .int x8]) (rest := []) (b := q13) mv_X3_set ml_X11_141 k18 rfl rfl (Nat.le_of_ble_eq_true rfl) hd1 dX11_wish_42 rfl (ht.mono (fun r15 h16 p17 ht' => ?_))
      clear ht
      obtain ⟨rfl, ht⟩ := ht'
      show Ex G d mX11_wish 45 [(0, .ref a0), (1, .int x1), (2, .int x2), (3, .int x3), (4, .int x4), (5, .int x5), (6, .int x6), (7, .int x7), (8, .int x8), (9, .ref q7)] [] h16 Q
      refine x_aload_n (pc2 := 46) 0 (n := 0) (x := a0) rfl dX11_wish_45 rfl ?_
      refine x_aload_n (pc2 := 47) 0 (n := 0) (x := a0) rfl dX11_wish_46 rfl ?_
      obtain ⟨q19, e20, ht⟩ := ht
      refine y_getR (pc2 := 50) (κ := 11) (k := 8) fl_X11_62 (by decide) (by decide) (((k4.up p3).up p10).up p17) rfl e20 dX11_wish_47 rfl ?_
      refine x_callV (pc2 := 53) (As := [.ref q19]) (rest := []) (b := a0) mv_X11_fits ml_X11_160 (((k4.up p3).up p10).up p17) rfl rfl (Nat.le_of_ble_eq_true rfl) hd1 dX11_wish_50 rfl (ht.mono (fun r21 h22 p23 ht' => ?_))
      clear ht
      obtain ⟨v24, rfl, ht⟩ := ht'
      show Ex G d mX11_wish 53 [(0, .ref a0), (1, .int x1), (2, .int x2), (3, .int x3), (4, .int x4), (5, .int x5), (6, .int x6), (7, .int x7), (8, .int x8), (9, .ref q7)] [.int v24] h22 Q
      refine y_if_ne (pc2 := 56) 58 dX11_wish_53 (by decide) rfl (fun c25 => ?_) (fun c25 => ?_)
      · replace ht := ht.1 c25
        refine x_aload_n (pc2 := 59) 0 (n := 0) (x := a0) rfl dX11_wish_58 rfl ?_
        refine x_aload_n (pc2 := 60) 0 (n := 0) (x := a0) rfl dX11_wish_59 rfl ?_
        obtain ⟨q26, e27, ht⟩ := ht
        refine y_getR (pc2 := 63) (κ := 11) (k := 8) fl_X11_62 (by decide) (by decide) ((((k4.up p3).up p10).up p17).up p23) rfl e27 dX11_wish_60 rfl ?_
        refine x_callV (pc2 := 66) (As := [.ref q26]) (rest := []) (b := a0) mv_X11_describe ml_X11_164 ((((k4.up p3).up p10).up p17).up p23) rfl rfl (Nat.le_of_ble_eq_true rfl) hd1 dX11_wish_63 rfl (ht.mono (fun r28 h29 p30 ht' => ?_))
        clear ht
        obtain ⟨rfl, ht⟩ := ht'
        show Ex G d mX11_wish 66 [(0, .ref a0), (1, .int x1), (2, .int x2), (3, .int x3), (4, .int x4), (5, .int x5), (6, .int x6), (7, .int x7), (8, .int x8), (9, .ref q7)] [] h29 Q
        refine x_aload (pc2 := 68) 9 (n := 9) (x := q7) rfl dX11_wish_66 rfl ?_
        refine x_aload_n (pc2 := 69) 0 (n := 0) (x := a0) rfl dX11_wish_68 rfl ?_
        obtain ⟨q31, e32, ht⟩ := ht
        refine y_getR (pc2 := 72) (κ := 11) (k := 8) fl_X11_62 (by decide) (by decide) (((((k4.up p3).up p10).up p17).up p23).up p30) rfl e32 dX11_wish_69 rfl ?_
        obtain ⟨k33, ht⟩ := ht
        obtain ⟨q34, e35, ht⟩ := ht
        refine y_getR (pc2 := 75) (κ := 3) (k := 17) fl_X11_168 (by decide) (by decide) k33 rfl e35 dX11_wish_72 rfl ?_
        obtain ⟨k39, ht⟩ := ht
        refine x_callV (pc2 := 78) (As := [.ref q34]) (rest := []) (b := q7) mv_X4_total ml_X11_172 k39 rfl rfl (Nat.le_of_ble_eq_true rfl) hd1 dX11_wish_75 rfl (ht.mono (fun r36 h37 p38 ht' => ?_))
        clear ht
        obtain ⟨v40, rfl, ht⟩ := ht'
        show Ex G d mX11_wish 78 [(0, .ref a0), (1, .int x1), (2, .int x2), (3, .int x3), (4, .int x4), (5, .int x5), (6, .int x6), (7, .int x7), (8, .int x8), (9, .ref q7)] [.long v40] h37 Q
        exact x_retL rfl dX11_wish_78 ht
      · replace ht := ht.2 c25
        refine x_lconst (pc2 := 57) (v := 0) (by decide) dX11_wish_56 rfl ?_
        exact x_retL rfl dX11_wish_57 ht
    · replace ht := ht.2 c12
      refine x_lconst (pc2 := 25) (v := 0) (by decide) dX11_wish_24 rfl ?_
      exact x_retL rfl dX11_wish_25 ht
theorem e_X11_wish {G : GG} {d : Nat} {h : HP} {Q : Option Value → HP → Prop} {a0 : Nat} {x1 : Int32} {x2 : Int32} {x3 : Int32} {x4 : Int32} {x5 : Int32} {x6 : Int32} {x7 : Int32} {x8 : Int32} (hd1 : 1 ≤ d) (ht : T_X11_wish G d h Q a0 x1 x2 x3 x4 x5 x6 x7 x8) : Cal G d mX11_wish [.ref a0, .int x1, .int x2, .int x3, .int x4, .int x5, .int x6, .int x7, .int x8] h Q := cal_of rfl (Nat.le_of_ble_eq_true rfl) (t_X11_wish hd1 ht)
def T_X11_pull (G : GG) (d : Nat) (h : HP) (Q : Option Value → HP → Prop) (a0 : Nat) (x1 : Int32) : Prop :=
  Kd G h a0 11 ∧ ∃ q2, hR h a0 12 = some q2 ∧ Kd G h q2 6 ∧ Cal G (d - 1) mX6_isWall [.ref q2, .int x1] h (fun r4 h5 => ∃ v8, r4 = some (.int v8) ∧ ((¬ v8 = 0 → ∃ q10, hR h5 a0 12 = some q10 ∧ Kd G h5 q10 6 ∧ Cal G (d - 1) mX6_remove [.ref q10, .int x1] h5 (fun r12 h13 => r12 = none ∧ Q (some (.int 1)) h13)) ∧ (v8 = 0 → Q (some (.int 0)) h5)))
set_option maxRecDepth 20000 in
theorem t_X11_pull {G : GG} {d : Nat} {h : HP} {Q : Option Value → HP → Prop} {a0 : Nat} {x1 : Int32} (hd1 : 1 ≤ d) (ht : T_X11_pull G d h Q a0 x1) : Ex G d mX11_pull 0 [(0, .ref a0), (1, .int x1)] [] h Q := by
  unfold T_X11_pull at ht
  refine x_aload_n (pc2 := 1) 0 (n := 0) (x := a0) rfl dX11_pull_0 rfl ?_
  obtain ⟨k1, ht⟩ := ht
  obtain ⟨q2, e3, ht⟩ := ht
  refine y_getR (pc2 := 4) (κ := 11) (k := 12) fl_X11_80 (by decide) (by decide) k1 rfl e3 dX11_pull_1 rfl ?_
  refine x_iload_n (pc2 := 5) 1 (n := 1) (x := x1) rfl dX11_pull_4 rfl ?_
  obtain ⟨k7, ht⟩ := ht
  refine x_callV (pc2 := 8) (As := [.int x1]) (rest := []) (b := q2) mv_X6_isWall ml_X11_176 k7 rfl rfl (Nat.le_of_ble_eq_true rfl) hd1 dX11_pull_5 rfl (ht.mono (fun r4 h5 p6 ht' => ?_))
  clear ht
  obtain ⟨v8, rfl, ht⟩ := ht'
  show Ex G d mX11_pull 8 [(0, .ref a0), (1, .int x1)] [.int v8] h5 Q
  refine y_if_ne (pc2 := 11) 13 dX11_pull_8 (by decide) rfl (fun c9 => ?_) (fun c9 => ?_)
  · replace ht := ht.1 c9
    refine x_aload_n (pc2 := 14) 0 (n := 0) (x := a0) rfl dX11_pull_13 rfl ?_
    obtain ⟨q10, e11, ht⟩ := ht
    refine y_getR (pc2 := 17) (κ := 11) (k := 12) fl_X11_80 (by decide) (by decide) (k1.up p6) rfl e11 dX11_pull_14 rfl ?_
    refine x_iload_n (pc2 := 18) 1 (n := 1) (x := x1) rfl dX11_pull_17 rfl ?_
    obtain ⟨k15, ht⟩ := ht
    refine x_callV (pc2 := 21) (As := [.int x1]) (rest := []) (b := q10) mv_X6_remove ml_X11_179 k15 rfl rfl (Nat.le_of_ble_eq_true rfl) hd1 dX11_pull_18 rfl (ht.mono (fun r12 h13 p14 ht' => ?_))
    clear ht
    obtain ⟨rfl, ht⟩ := ht'
    show Ex G d mX11_pull 21 [(0, .ref a0), (1, .int x1)] [] h13 Q
    refine x_iconst (pc2 := 22) (v := 1) (by decide) dX11_pull_21 rfl ?_
    exact x_retZ rfl (Or.inr rfl) dX11_pull_22 ht
  · replace ht := ht.2 c9
    refine x_iconst (pc2 := 12) (v := 0) (by decide) dX11_pull_11 rfl ?_
    exact x_retZ rfl (Or.inl rfl) dX11_pull_12 ht
theorem e_X11_pull {G : GG} {d : Nat} {h : HP} {Q : Option Value → HP → Prop} {a0 : Nat} {x1 : Int32} (hd1 : 1 ≤ d) (ht : T_X11_pull G d h Q a0 x1) : Cal G d mX11_pull [.ref a0, .int x1] h Q := cal_of rfl (Nat.le_of_ble_eq_true rfl) (t_X11_pull hd1 ht)
def T_X11_gate (G : GG) (d : Nat) (h : HP) (Q : Option Value → HP → Prop) (a0 : Nat) (x1 : Int32) (x2 : Int32) (x3 : Int32) (x4 : Int32) : Prop :=
  Kd G h a0 11 ∧ ∃ q2, hR h a0 12 = some q2 ∧ Kd G h q2 6 ∧ Cal G (d - 1) mX6_isWall [.ref q2, .int x1] h (fun r4 h5 => ∃ v8, r4 = some (.int v8) ∧ ((v8 = 0 → Q (some (.int 0)) h5) ∧ (¬ v8 = 0 → ((x2 < 0 → Q (some (.int 0)) h5) ∧ (¬ x2 < 0 → ((3 < x2 → Q (some (.int 0)) h5) ∧ (¬ 3 < x2 → ((x4 < 0 → Q (some (.int 0)) h5) ∧ (¬ x4 < 0 → ((x4 ≤ 999 → ∃ q14, hR h5 a0 12 = some q14 ∧ Kd G h5 q14 6 ∧ ∃ q17, hR h5 q14 7 = some q17 ∧ Kd G h5 q17 20 ∧ vp_in x1 (hN h5 q17) ∧ ∃ q21, hR h5 q17 x1.toNatClampNeg = some q21 ∧ ((x3 < 0 → Q (some (.int 0)) h5) ∧ (¬ x3 < 0 → Kd G h5 q21 9 ∧ Cal G (d - 1) mX9_lengthOf [.ref q21, .int x2] h5 (fun r24 h25 => ∃ v28, r24 = some (.int v28) ∧ ((x3 < v28 → Q (some (.int 1)) (sI (sI (sI h25 q21 8 x2) q21 9 x3) q21 10 x4)) ∧ (¬ x3 < v28 → Q (some (.int 0)) h25)))))) ∧ (¬ x4 ≤ 999 → Q (some (.int 0)) h5)))))))))))
set_option maxRecDepth 20000 in
theorem t_X11_gate {G : GG} {d : Nat} {h : HP} {Q : Option Value → HP → Prop} {a0 : Nat} {x1 : Int32} {x2 : Int32} {x3 : Int32} {x4 : Int32} (hd1 : 1 ≤ d) (ht : T_X11_gate G d h Q a0 x1 x2 x3 x4) : Ex G d mX11_gate 0 [(0, .ref a0), (1, .int x1), (2, .int x2), (3, .int x3), (4, .int x4)] [] h Q := by
  unfold T_X11_gate at ht
  refine x_aload_n (pc2 := 1) 0 (n := 0) (x := a0) rfl dX11_gate_0 rfl ?_
  obtain ⟨k1, ht⟩ := ht
  obtain ⟨q2, e3, ht⟩ := ht
  refine y_getR (pc2 := 4) (κ := 11) (k := 12) fl_X11_80 (by decide) (by decide) k1 rfl e3 dX11_gate_1 rfl ?_
  refine x_iload_n (pc2 := 5) 1 (n := 1) (x := x1) rfl dX11_gate_4 rfl ?_
  obtain ⟨k7, ht⟩ := ht
  refine x_callV (pc2 := 8) (As := [.int x1]) (rest := []) (b := q2) mv_X6_isWall ml_X11_176 k7 rfl rfl (Nat.le_of_ble_eq_true rfl) hd1 dX11_gate_5 rfl (ht.mono (fun r4 h5 p6 ht' => ?_))
  clear ht
  obtain ⟨v8, rfl, ht⟩ := ht'
  show Ex G d mX11_gate 8 [(0, .ref a0), (1, .int x1), (2, .int x2), (3, .int x3), (4, .int x4)] [.int v8] h5 Q
  refine x_if_eq (pc2 := 11) 33 dX11_gate_8 (by decide) rfl (fun c9 => ?_) (fun c9 => ?_)
  · replace ht := ht.1 c9
    refine x_iconst (pc2 := 34) (v := 0) (by decide) dX11_gate_33 rfl ?_
    exact x_retZ rfl (Or.inl rfl) dX11_gate_34 ht
  · replace ht := ht.2 c9
    refine x_iload_n (pc2 := 12) 2 (n := 2) (x := x2) rfl dX11_gate_11 rfl ?_
    refine x_if_lt (pc2 := 15) 33 dX11_gate_12 (by decide) rfl (fun c10 => ?_) (fun c10 => ?_)
    · replace ht := ht.1 c10
      refine x_iconst (pc2 := 34) (v := 0) (by decide) dX11_gate_33 rfl ?_
      exact x_retZ rfl (Or.inl rfl) dX11_gate_34 ht
    · replace ht := ht.2 c10
      refine x_iload_n (pc2 := 16) 2 (n := 2) (x := x2) rfl dX11_gate_15 rfl ?_
      refine x_iconst (pc2 := 17) (v := 3) (by decide) dX11_gate_16 rfl ?_
      refine x_icmp_gt (pc2 := 20) 33 dX11_gate_17 (by decide) rfl (fun c11 => ?_) (fun c11 => ?_)
      · replace ht := ht.1 c11
        refine x_iconst (pc2 := 34) (v := 0) (by decide) dX11_gate_33 rfl ?_
        exact x_retZ rfl (Or.inl rfl) dX11_gate_34 ht
      · replace ht := ht.2 c11
        refine x_iload (pc2 := 22) 4 (n := 4) (x := x4) rfl dX11_gate_20 rfl ?_
        refine x_if_lt (pc2 := 25) 33 dX11_gate_22 (by decide) rfl (fun c12 => ?_) (fun c12 => ?_)
        · replace ht := ht.1 c12
          refine x_iconst (pc2 := 34) (v := 0) (by decide) dX11_gate_33 rfl ?_
          exact x_retZ rfl (Or.inl rfl) dX11_gate_34 ht
        · replace ht := ht.2 c12
          refine x_iload (pc2 := 27) 4 (n := 4) (x := x4) rfl dX11_gate_25 rfl ?_
          refine x_sipush (pc2 := 30) (v := 999) (by decide) dX11_gate_27 rfl ?_
          refine x_icmp_le (pc2 := 33) 35 dX11_gate_30 (by decide) rfl (fun c13 => ?_) (fun c13 => ?_)
          · replace ht := ht.1 c13
            refine x_aload_n (pc2 := 36) 0 (n := 0) (x := a0) rfl dX11_gate_35 rfl ?_
            obtain ⟨q14, e15, ht⟩ := ht
            refine y_getR (pc2 := 39) (κ := 11) (k := 12) fl_X11_80 (by decide) (by decide) (k1.up p6) rfl e15 dX11_gate_36 rfl ?_
            obtain ⟨k16, ht⟩ := ht
            obtain ⟨q17, e18, ht⟩ := ht
            refine y_getR (pc2 := 42) (κ := 6) (k := 7) fl_X11_182 (by decide) (by decide) k16 rfl e18 dX11_gate_39 rfl ?_
            refine x_iload_n (pc2 := 43) 1 (n := 1) (x := x1) rfl dX11_gate_42 rfl ?_
            obtain ⟨k19, ht⟩ := ht
            obtain ⟨b20, ht⟩ := ht
            obtain ⟨q21, e22, ht⟩ := ht
            refine y_aaldR (pc2 := 44) (κ := 20) (by decide) k19 b20 e22 dX11_gate_43 rfl ?_
            refine x_astore (pc2 := 46) [1, 2, 3, 4, 5, 0] (n := 5) (x := q21) (lv2 := [(0, .ref a0), (1, .int x1), (2, .int x2), (3, .int x3), (4, .int x4), (5, .ref q21)]) (by decide) rfl dX11_gate_44 rfl ?_
            refine x_iload_n (pc2 := 47) 3 (n := 3) (x := x3) rfl dX11_gate_46 rfl ?_
            refine x_if_lt (pc2 := 50) 60 dX11_gate_47 (by decide) rfl (fun c23 => ?_) (fun c23 => ?_)
            · replace ht := ht.1 c23
              refine x_iconst (pc2 := 61) (v := 0) (by decide) dX11_gate_60 rfl ?_
              exact x_retZ rfl (Or.inl rfl) dX11_gate_61 ht
            · replace ht := ht.2 c23
              refine x_iload_n (pc2 := 51) 3 (n := 3) (x := x3) rfl dX11_gate_50 rfl ?_
              refine x_aload (pc2 := 53) 5 (n := 5) (x := q21) rfl dX11_gate_51 rfl ?_
              refine x_iload_n (pc2 := 54) 2 (n := 2) (x := x2) rfl dX11_gate_53 rfl ?_
              obtain ⟨k27, ht⟩ := ht
              refine x_callV (pc2 := 57) (As := [.int x2]) (rest := [.int x3]) (b := q21) mv_X9_lengthOf ml_X11_186 k27 rfl rfl (Nat.le_of_ble_eq_true rfl) hd1 dX11_gate_54 rfl (ht.mono (fun r24 h25 p26 ht' => ?_))
              clear ht
              obtain ⟨v28, rfl, ht⟩ := ht'
              show Ex G d mX11_gate 57 [(0, .ref a0), (1, .int x1), (2, .int x2), (3, .int x3), (4, .int x4), (5, .ref q21)] [.int v28, .int x3] h25 Q
              refine x_icmp_lt (pc2 := 60) 62 dX11_gate_57 (by decide) rfl (fun c29 => ?_) (fun c29 => ?_)
              · replace ht := ht.1 c29
                refine x_aload (pc2 := 64) 5 (n := 5) (x := q21) rfl dX11_gate_62 rfl ?_
                refine x_iload_n (pc2 := 65) 2 (n := 2) (x := x2) rfl dX11_gate_64 rfl ?_
                refine x_putI (pc2 := 68) (κ := 9) (k := 8) fl_X11_192 (by decide) (by decide) (Or.inl rfl) rfl (k27.up p26) dX11_gate_65 rfl ?_
                refine x_aload (pc2 := 70) 5 (n := 5) (x := q21) rfl dX11_gate_68 rfl ?_
                refine x_iload_n (pc2 := 71) 3 (n := 3) (x := x3) rfl dX11_gate_70 rfl ?_
                refine x_putI (pc2 := 74) (κ := 9) (k := 9) fl_X11_195 (by decide) (by decide) (Or.inl rfl) rfl (k27.up p26).sI dX11_gate_71 rfl ?_
                refine x_aload (pc2 := 76) 5 (n := 5) (x := q21) rfl dX11_gate_74 rfl ?_
                refine x_iload (pc2 := 78) 4 (n := 4) (x := x4) rfl dX11_gate_76 rfl ?_
                refine x_putI (pc2 := 81) (κ := 9) (k := 10) fl_X11_198 (by decide) (by decide) (Or.inl rfl) rfl (k27.up p26).sI.sI dX11_gate_78 rfl ?_
                refine x_iconst (pc2 := 82) (v := 1) (by decide) dX11_gate_81 rfl ?_
                exact x_retZ rfl (Or.inr rfl) dX11_gate_82 ht
              · replace ht := ht.2 c29
                refine x_iconst (pc2 := 61) (v := 0) (by decide) dX11_gate_60 rfl ?_
                exact x_retZ rfl (Or.inl rfl) dX11_gate_61 ht
          · replace ht := ht.2 c13
            refine x_iconst (pc2 := 34) (v := 0) (by decide) dX11_gate_33 rfl ?_
            exact x_retZ rfl (Or.inl rfl) dX11_gate_34 ht
theorem e_X11_gate {G : GG} {d : Nat} {h : HP} {Q : Option Value → HP → Prop} {a0 : Nat} {x1 : Int32} {x2 : Int32} {x3 : Int32} {x4 : Int32} (hd1 : 1 ≤ d) (ht : T_X11_gate G d h Q a0 x1 x2 x3 x4) : Cal G d mX11_gate [.ref a0, .int x1, .int x2, .int x3, .int x4] h Q := cal_of rfl (Nat.le_of_ble_eq_true rfl) (t_X11_gate hd1 ht)
def T_X11_key (G : GG) (d : Nat) (h : HP) (Q : Option Value → HP → Prop) (a0 : Nat) (x1 : Int32) (x2 : Int32) (x3 : Int32) : Prop :=
  Kd G h a0 11 ∧ ∃ q2, hR h a0 12 = some q2 ∧ Kd G h q2 6 ∧ Cal G (d - 1) mX6_isWall [.ref q2, .int x1] h (fun r4 h5 => ∃ v8, r4 = some (.int v8) ∧ ((v8 = 0 → Q (some (.int 0)) h5) ∧ (¬ v8 = 0 → Cal G (d - 1) mX11_isFamily [.int x2] h5 (fun r10 h11 => ∃ v13, r10 = some (.int v13) ∧ ((¬ v13 = 0 → ∃ q15, hR h11 a0 12 = some q15 ∧ Kd G h11 q15 6 ∧ ∃ q18, hR h11 q15 7 = some q18 ∧ Kd G h11 q18 20 ∧ vp_in x1 (hN h11 q18) ∧ ∃ q22, hR h11 q18 x1.toNatClampNeg = some q22 ∧ Kd G h11 q22 9 ∧ ((¬ (((hI h11 q22 11) >>> (x2 &&& 31)) &&& 1) = 1 → Ex G d mX11_key 49 [(0, .ref a0), (1, .int x1), (2, .int x2), (3, .int x3), (4, .ref q22)] [.int 0] h11 Q) ∧ ((((hI h11 q22 11) >>> (x2 &&& 31)) &&& 1) = 1 → Ex G d mX11_key 49 [(0, .ref a0), (1, .int x1), (2, .int x2), (3, .int x3), (4, .ref q22)] [.int 1] h11 Q))) ∧ (v13 = 0 → Q (some (.int 0)) h11))))))
set_option maxRecDepth 20000 in
theorem t_X11_key {G : GG} {d : Nat} {h : HP} {Q : Option Value → HP → Prop} {a0 : Nat} {x1 : Int32} {x2 : Int32} {x3 : Int32} (hd1 : 1 ≤ d) (ht : T_X11_key G d h Q a0 x1 x2 x3) : Ex G d mX11_key 0 [(0, .ref a0), (1, .int x1), (2, .int x2), (3, .int x3)] [] h Q := by
  unfold T_X11_key at ht
  refine x_aload_n (pc2 := 1) 0 (n := 0) (x := a0) rfl dX11_key_0 rfl ?_
  obtain ⟨k1, ht⟩ := ht
  obtain ⟨q2, e3, ht⟩ := ht
  refine y_getR (pc2 := 4) (κ := 11) (k := 12) fl_X11_80 (by decide) (by decide) k1 rfl e3 dX11_key_1 rfl ?_
  refine x_iload_n (pc2 := 5) 1 (n := 1) (x := x1) rfl dX11_key_4 rfl ?_
  obtain ⟨k7, ht⟩ := ht
  refine x_callV (pc2 := 8) (As := [.int x1]) (rest := []) (b := q2) mv_X6_isWall ml_X11_176 k7 rfl rfl (Nat.le_of_ble_eq_true rfl) hd1 dX11_key_5 rfl (ht.mono (fun r4 h5 p6 ht' => ?_))
  clear ht
  obtain ⟨v8, rfl, ht⟩ := ht'
  show Ex G d mX11_key 8 [(0, .ref a0), (1, .int x1), (2, .int x2), (3, .int x3)] [.int v8] h5 Q
  refine x_if_eq (pc2 := 11) 18 dX11_key_8 (by decide) rfl (fun c9 => ?_) (fun c9 => ?_)
  · replace ht := ht.1 c9
    refine x_iconst (pc2 := 19) (v := 0) (by decide) dX11_key_18 rfl ?_
    exact x_retZ rfl (Or.inl rfl) dX11_key_19 ht
  · replace ht := ht.2 c9
    refine x_iload_n (pc2 := 12) 2 (n := 2) (x := x2) rfl dX11_key_11 rfl ?_
    refine x_callS (pc2 := 15) (As := [.int x2]) (rest := []) ms_X11_isFamily ml_X11_125 rfl rfl (Nat.le_of_ble_eq_true rfl) hd1 dX11_key_12 rfl (ht.mono (fun r10 h11 p12 ht' => ?_))
    clear ht
    obtain ⟨v13, rfl, ht⟩ := ht'
    show Ex G d mX11_key 15 [(0, .ref a0), (1, .int x1), (2, .int x2), (3, .int x3)] [.int v13] h11 Q
    refine y_if_ne (pc2 := 18) 20 dX11_key_15 (by decide) rfl (fun c14 => ?_) (fun c14 => ?_)
    · replace ht := ht.1 c14
      refine x_aload_n (pc2 := 21) 0 (n := 0) (x := a0) rfl dX11_key_20 rfl ?_
      obtain ⟨q15, e16, ht⟩ := ht
      refine y_getR (pc2 := 24) (κ := 11) (k := 12) fl_X11_80 (by decide) (by decide) ((k1.up p6).up p12) rfl e16 dX11_key_21 rfl ?_
      obtain ⟨k17, ht⟩ := ht
      obtain ⟨q18, e19, ht⟩ := ht
      refine y_getR (pc2 := 27) (κ := 6) (k := 7) fl_X11_182 (by decide) (by decide) k17 rfl e19 dX11_key_24 rfl ?_
      refine x_iload_n (pc2 := 28) 1 (n := 1) (x := x1) rfl dX11_key_27 rfl ?_
      obtain ⟨k20, ht⟩ := ht
      obtain ⟨b21, ht⟩ := ht
      obtain ⟨q22, e23, ht⟩ := ht
      refine y_aaldR (pc2 := 29) (κ := 20) (by decide) k20 b21 e23 dX11_key_28 rfl ?_
      refine x_astore (pc2 := 31) [1, 2, 3, 4, 0] (n := 4) (x := q22) (lv2 := [(0, .ref a0), (1, .int x1), (2, .int x2), (3, .int x3), (4, .ref q22)]) (by decide) rfl dX11_key_29 rfl ?_
      refine x_aload (pc2 := 33) 4 (n := 4) (x := q22) rfl dX11_key_31 rfl ?_
      obtain ⟨k24, ht⟩ := ht
      refine y_getI (pc2 := 36) (κ := 9) (k := 11) fl_X11_201 (by decide) (by decide) k24 rfl dX11_key_33 rfl ?_
      refine x_iload_n (pc2 := 37) 2 (n := 2) (x := x2) rfl dX11_key_36 rfl ?_
      refine x_ishr (pc2 := 38) dX11_key_37 rfl ?_
      refine x_iconst (pc2 := 39) (v := 1) (by decide) dX11_key_38 rfl ?_
      refine x_iand (pc2 := 40) dX11_key_39 rfl ?_
      refine x_iconst (pc2 := 41) (v := 1) (by decide) dX11_key_40 rfl ?_
      refine y_icmp_ne (pc2 := 44) 48 dX11_key_41 (by decide) rfl (fun c25 => ?_) (fun c25 => ?_)
      · replace ht := ht.1 c25
        refine x_iconst (pc2 := 49) (v := 0) (by decide) dX11_key_48 rfl ?_
        exact ht
      · replace ht := ht.2 c25
        refine x_iconst (pc2 := 45) (v := 1) (by decide) dX11_key_44 rfl ?_
        refine x_goto 49 dX11_key_45 (by decide) ?_
        exact ht
    · replace ht := ht.2 c14
      refine x_iconst (pc2 := 19) (v := 0) (by decide) dX11_key_18 rfl ?_
      exact x_retZ rfl (Or.inl rfl) dX11_key_19 ht
theorem e_X11_key {G : GG} {d : Nat} {h : HP} {Q : Option Value → HP → Prop} {a0 : Nat} {x1 : Int32} {x2 : Int32} {x3 : Int32} (hd1 : 1 ≤ d) (ht : T_X11_key G d h Q a0 x1 x2 x3) : Cal G d mX11_key [.ref a0, .int x1, .int x2, .int x3] h Q := cal_of rfl (Nat.le_of_ble_eq_true rfl) (t_X11_key hd1 ht)
def T_X11_key_49 (G : GG) (d : Nat) (h : HP) (Q : Option Value → HP → Prop) (a0 : Nat) (x1 : Int32) (x2 : Int32) (x3 : Int32) (a4 : Nat) (sx0 : Int32) : Prop :=
  ((¬ sx0 = x3 → Kd G h a4 9 ∧ Q (some (.int 1)) (sI h a4 11 ((hI h a4 11) ^^^ (1 <<< (x2 &&& 31))))) ∧ (sx0 = x3 → Q (some (.int 0)) h))
set_option maxRecDepth 20000 in
theorem t_X11_key_49 {G : GG} {d : Nat} {h : HP} {Q : Option Value → HP → Prop} {a0 : Nat} {x1 : Int32} {x2 : Int32} {x3 : Int32} {a4 : Nat} {sx0 : Int32} (ht : T_X11_key_49 G d h Q a0 x1 x2 x3 a4 sx0) : Ex G d mX11_key 49 [(0, .ref a0), (1, .int x1), (2, .int x2), (3, .int x3), (4, .ref a4)] [.int sx0] h Q := by
  unfold T_X11_key_49 at ht
  refine x_istore (pc2 := 51) [1, 2, 3, 4, 5, 0] (n := 5) (x := sx0) (lv2 := [(0, .ref a0), (1, .int x1), (2, .int x2), (3, .int x3), (4, .ref a4), (5, .int sx0)]) (by decide) rfl dX11_key_49 rfl ?_
  refine x_iload (pc2 := 53) 5 (n := 5) (x := sx0) rfl dX11_key_51 rfl ?_
  refine x_iload_n (pc2 := 54) 3 (n := 3) (x := x3) rfl dX11_key_53 rfl ?_
  refine y_icmp_ne (pc2 := 57) 59 dX11_key_54 (by decide) rfl (fun c1 => ?_) (fun c1 => ?_)
  · replace ht := ht.1 c1
    refine x_aload (pc2 := 61) 4 (n := 4) (x := a4) rfl dX11_key_59 rfl ?_
    refine x_dup (pc2 := 62) rfl dX11_key_61 rfl ?_
    obtain ⟨k2, ht⟩ := ht
    refine y_getI (pc2 := 65) (κ := 9) (k := 11) fl_X11_201 (by decide) (by decide) k2 rfl dX11_key_62 rfl ?_
    refine x_iconst (pc2 := 66) (v := 1) (by decide) dX11_key_65 rfl ?_
    refine x_iload_n (pc2 := 67) 2 (n := 2) (x := x2) rfl dX11_key_66 rfl ?_
    refine x_ishl (pc2 := 68) dX11_key_67 rfl ?_
    refine x_ixor (pc2 := 69) dX11_key_68 rfl ?_
    refine x_putI (pc2 := 72) (κ := 9) (k := 11) fl_X11_201 (by decide) (by decide) (Or.inl rfl) rfl k2 dX11_key_69 rfl ?_
    refine x_iconst (pc2 := 73) (v := 1) (by decide) dX11_key_72 rfl ?_
    exact x_retZ rfl (Or.inr rfl) dX11_key_73 ht
  · replace ht := ht.2 c1
    refine x_iconst (pc2 := 58) (v := 0) (by decide) dX11_key_57 rfl ?_
    exact x_retZ rfl (Or.inl rfl) dX11_key_58 ht
def T_X11_isFamily (G : GG) (d : Nat) (h : HP) (Q : Option Value → HP → Prop) (x0 : Int32) : Prop :=
  ((x0 < 0 → Q (some (.int 0)) h) ∧ (¬ x0 < 0 → ((12 ≤ x0 → Q (some (.int 0)) h) ∧ (¬ 12 ≤ x0 → Q (some (.int 1)) h))))
set_option maxRecDepth 20000 in
theorem t_X11_isFamily {G : GG} {d : Nat} {h : HP} {Q : Option Value → HP → Prop} {x0 : Int32} (ht : T_X11_isFamily G d h Q x0) : Ex G d mX11_isFamily 0 [(0, .int x0)] [] h Q := by
  unfold T_X11_isFamily at ht
  refine x_iload_n (pc2 := 1) 0 (n := 0) (x := x0) rfl dX11_isFamily_0 rfl ?_
  refine x_if_lt (pc2 := 4) 14 dX11_isFamily_1 (by decide) rfl (fun c1 => ?_) (fun c1 => ?_)
  · replace ht := ht.1 c1
    refine x_iconst (pc2 := 15) (v := 0) (by decide) dX11_isFamily_14 rfl ?_
    exact x_retZ rfl (Or.inl rfl) dX11_isFamily_15 ht
  · replace ht := ht.2 c1
    refine x_iload_n (pc2 := 5) 0 (n := 0) (x := x0) rfl dX11_isFamily_4 rfl ?_
    refine x_bipush (pc2 := 7) (v := 12) (by decide) dX11_isFamily_5 rfl ?_
    refine x_icmp_ge (pc2 := 10) 14 dX11_isFamily_7 (by decide) rfl (fun c2 => ?_) (fun c2 => ?_)
    · replace ht := ht.1 c2
      refine x_iconst (pc2 := 15) (v := 0) (by decide) dX11_isFamily_14 rfl ?_
      exact x_retZ rfl (Or.inl rfl) dX11_isFamily_15 ht
    · replace ht := ht.2 c2
      refine x_iconst (pc2 := 11) (v := 1) (by decide) dX11_isFamily_10 rfl ?_
      refine x_goto 15 dX11_isFamily_11 (by decide) ?_
      exact x_retZ rfl (Or.inr rfl) dX11_isFamily_15 ht
theorem e_X11_isFamily {G : GG} {d : Nat} {h : HP} {Q : Option Value → HP → Prop} {x0 : Int32} (ht : T_X11_isFamily G d h Q x0) : Cal G d mX11_isFamily [.int x0] h Q := cal_of rfl (Nat.le_of_ble_eq_true rfl) (t_X11_isFamily ht)
def T_X11_areThere (G : GG) (d : Nat) (h : HP) (Q : Option Value → HP → Prop) (a0 : Nat) (x1 : Int32) (x2 : Int32) (x3 : Int32) : Prop :=
  Cal G (d - 1) mX11_isFamily [.int x1] h (fun r1 h2 => ∃ v4, r1 = some (.int v4) ∧ ((v4 = 0 → Q (some (.int 0)) h2) ∧ (¬ v4 = 0 → Kd G h2 a0 11 ∧ ∃ q7, hR h2 a0 12 = some q7 ∧ Kd G h2 q7 6 ∧ Cal G (d - 1) mX6_isThere [.ref q7, .int x2] h2 (fun r9 h10 => ∃ v13, r9 = some (.int v13) ∧ ((v13 = 0 → Q (some (.int 0)) h10) ∧ (¬ v13 = 0 → ((x3 = (-1) → Q (some (.int 1)) h10) ∧ (¬ x3 = (-1) → ∃ q16, hR h10 a0 12 = some q16 ∧ Kd G h10 q16 6 ∧ Cal G (d - 1) mX6_isThere [.ref q16, .int x3] h10 (fun r18 h19 => ∃ v22, r18 = some (.int v22) ∧ ((v22 = 0 → Q (some (.int 0)) h19) ∧ (¬ v22 = 0 → Q (some (.int 1)) h19)))))))))))
set_option maxRecDepth 20000 in
theorem t_X11_areThere {G : GG} {d : Nat} {h : HP} {Q : Option Value → HP → Prop} {a0 : Nat} {x1 : Int32} {x2 : Int32} {x3 : Int32} (hd1 : 1 ≤ d) (ht : T_X11_areThere G d h Q a0 x1 x2 x3) : Ex G d mX11_areThere 0 [(0, .ref a0), (1, .int x1), (2, .int x2), (3, .int x3)] [] h Q := by
  unfold T_X11_areThere at ht
  refine x_iload_n (pc2 := 1) 1 (n := 1) (x := x1) rfl dX11_areThere_0 rfl ?_
  refine x_callS (pc2 := 4) (As := [.int x1]) (rest := []) ms_X11_isFamily ml_X11_125 rfl rfl (Nat.le_of_ble_eq_true rfl) hd1 dX11_areThere_1 rfl (ht.mono (fun r1 h2 p3 ht' => ?_))
  clear ht
  obtain ⟨v4, rfl, ht⟩ := ht'
  show Ex G d mX11_areThere 4 [(0, .ref a0), (1, .int x1), (2, .int x2), (3, .int x3)] [.int v4] h2 Q
  refine x_if_eq (pc2 := 7) 38 dX11_areThere_4 (by decide) rfl (fun c5 => ?_) (fun c5 => ?_)
  · replace ht := ht.1 c5
    refine x_iconst (pc2 := 39) (v := 0) (by decide) dX11_areThere_38 rfl ?_
    exact x_retZ rfl (Or.inl rfl) dX11_areThere_39 ht
  · replace ht := ht.2 c5
    refine x_aload_n (pc2 := 8) 0 (n := 0) (x := a0) rfl dX11_areThere_7 rfl ?_
    obtain ⟨k6, ht⟩ := ht
    obtain ⟨q7, e8, ht⟩ := ht
    refine y_getR (pc2 := 11) (κ := 11) (k := 12) fl_X11_80 (by decide) (by decide) k6 rfl e8 dX11_areThere_8 rfl ?_
    refine x_iload_n (pc2 := 12) 2 (n := 2) (x := x2) rfl dX11_areThere_11 rfl ?_
    obtain ⟨k12, ht⟩ := ht
    refine x_callV (pc2 := 15) (As := [.int x2]) (rest := []) (b := q7) mv_X6_isThere ml_X11_204 k12 rfl rfl (Nat.le_of_ble_eq_true rfl) hd1 dX11_areThere_12 rfl (ht.mono (fun r9 h10 p11 ht' => ?_))
    clear ht
    obtain ⟨v13, rfl, ht⟩ := ht'
    show Ex G d mX11_areThere 15 [(0, .ref a0), (1, .int x1), (2, .int x2), (3, .int x3)] [.int v13] h10 Q
    refine x_if_eq (pc2 := 18) 38 dX11_areThere_15 (by decide) rfl (fun c14 => ?_) (fun c14 => ?_)
    · replace ht := ht.1 c14
      refine x_iconst (pc2 := 39) (v := 0) (by decide) dX11_areThere_38 rfl ?_
      exact x_retZ rfl (Or.inl rfl) dX11_areThere_39 ht
    · replace ht := ht.2 c14
      refine x_iload_n (pc2 := 19) 3 (n := 3) (x := x3) rfl dX11_areThere_18 rfl ?_
      refine x_iconst (pc2 := 20) (v := (-1)) (by decide) dX11_areThere_19 rfl ?_
      refine x_icmp_eq (pc2 := 23) 34 dX11_areThere_20 (by decide) rfl (fun c15 => ?_) (fun c15 => ?_)
      · replace ht := ht.1 c15
        refine x_iconst (pc2 := 35) (v := 1) (by decide) dX11_areThere_34 rfl ?_
        refine x_goto 39 dX11_areThere_35 (by decide) ?_
        exact x_retZ rfl (Or.inr rfl) dX11_areThere_39 ht
      · replace ht := ht.2 c15
        refine x_aload_n (pc2 := 24) 0 (n := 0) (x := a0) rfl dX11_areThere_23 rfl ?_
        obtain ⟨q16, e17, ht⟩ := ht
        refine y_getR (pc2 := 27) (κ := 11) (k := 12) fl_X11_80 (by decide) (by decide) (k6.up p11) rfl e17 dX11_areThere_24 rfl ?_
        refine x_iload_n (pc2 := 28) 3 (n := 3) (x := x3) rfl dX11_areThere_27 rfl ?_
        obtain ⟨k21, ht⟩ := ht
        refine x_callV (pc2 := 31) (As := [.int x3]) (rest := []) (b := q16) mv_X6_isThere ml_X11_204 k21 rfl rfl (Nat.le_of_ble_eq_true rfl) hd1 dX11_areThere_28 rfl (ht.mono (fun r18 h19 p20 ht' => ?_))
        clear ht
        obtain ⟨v22, rfl, ht⟩ := ht'
        show Ex G d mX11_areThere 31 [(0, .ref a0), (1, .int x1), (2, .int x2), (3, .int x3)] [.int v22] h19 Q
        refine x_if_eq (pc2 := 34) 38 dX11_areThere_31 (by decide) rfl (fun c23 => ?_) (fun c23 => ?_)
        · replace ht := ht.1 c23
          refine x_iconst (pc2 := 39) (v := 0) (by decide) dX11_areThere_38 rfl ?_
          exact x_retZ rfl (Or.inl rfl) dX11_areThere_39 ht
        · replace ht := ht.2 c23
          refine x_iconst (pc2 := 35) (v := 1) (by decide) dX11_areThere_34 rfl ?_
          refine x_goto 39 dX11_areThere_35 (by decide) ?_
          exact x_retZ rfl (Or.inr rfl) dX11_areThere_39 ht
theorem e_X11_areThere {G : GG} {d : Nat} {h : HP} {Q : Option Value → HP → Prop} {a0 : Nat} {x1 : Int32} {x2 : Int32} {x3 : Int32} (hd1 : 1 ≤ d) (ht : T_X11_areThere G d h Q a0 x1 x2 x3) : Cal G d mX11_areThere [.ref a0, .int x1, .int x2, .int x3] h Q := cal_of rfl (Nat.le_of_ble_eq_true rfl) (t_X11_areThere hd1 ht)
def T_X11_thing (G : GG) (d : Nat) (h : HP) (Q : Option Value → HP → Prop) (a0 : Nat) (x1 : Int32) (x2 : Int32) : Prop :=
  Kd G h a0 11 ∧ ∃ q2, hR h a0 12 = some q2 ∧ Kd G h q2 6 ∧ Cal G (d - 1) mX6_isThere [.ref q2, .int x1] h (fun r4 h5 => ∃ v8, r4 = some (.int v8) ∧ ((¬ v8 = 0 → ∃ q10, hR h5 a0 12 = some q10 ∧ Kd G h5 q10 6 ∧ ∃ q13, hR h5 q10 7 = some q13 ∧ Kd G h5 q13 20 ∧ vp_in x1 (hN h5 q13) ∧ ∃ q17, hR h5 q13 x1.toNatClampNeg = some q17 ∧ Kd G h5 q17 9 ∧ (((hI h5 q17 8) = (-1) → Ex G d mX11_thing 37 [(0, .ref a0), (1, .int x1), (2, .int x2), (3, .ref q17)] [.int 0] h5 Q) ∧ (¬ (hI h5 q17 8) = (-1) → Ex G d mX11_thing 37 [(0, .ref a0), (1, .int x1), (2, .int x2), (3, .ref q17)] [.int 1] h5 Q))) ∧ (v8 = 0 → Q (some (.int (-2))) h5)))
set_option maxRecDepth 20000 in
theorem t_X11_thing {G : GG} {d : Nat} {h : HP} {Q : Option Value → HP → Prop} {a0 : Nat} {x1 : Int32} {x2 : Int32} (hd1 : 1 ≤ d) (ht : T_X11_thing G d h Q a0 x1 x2) : Ex G d mX11_thing 0 [(0, .ref a0), (1, .int x1), (2, .int x2)] [] h Q := by
  unfold T_X11_thing at ht
  refine x_aload_n (pc2 := 1) 0 (n := 0) (x := a0) rfl dX11_thing_0 rfl ?_
  obtain ⟨k1, ht⟩ := ht
  obtain ⟨q2, e3, ht⟩ := ht
  refine y_getR (pc2 := 4) (κ := 11) (k := 12) fl_X11_80 (by decide) (by decide) k1 rfl e3 dX11_thing_1 rfl ?_
  refine x_iload_n (pc2 := 5) 1 (n := 1) (x := x1) rfl dX11_thing_4 rfl ?_
  obtain ⟨k7, ht⟩ := ht
  refine x_callV (pc2 := 8) (As := [.int x1]) (rest := []) (b := q2) mv_X6_isThere ml_X11_204 k7 rfl rfl (Nat.le_of_ble_eq_true rfl) hd1 dX11_thing_5 rfl (ht.mono (fun r4 h5 p6 ht' => ?_))
  clear ht
  obtain ⟨v8, rfl, ht⟩ := ht'
  show Ex G d mX11_thing 8 [(0, .ref a0), (1, .int x1), (2, .int x2)] [.int v8] h5 Q
  refine y_if_ne (pc2 := 11) 14 dX11_thing_8 (by decide) rfl (fun c9 => ?_) (fun c9 => ?_)
  · replace ht := ht.1 c9
    refine x_aload_n (pc2 := 15) 0 (n := 0) (x := a0) rfl dX11_thing_14 rfl ?_
    obtain ⟨q10, e11, ht⟩ := ht
    refine y_getR (pc2 := 18) (κ := 11) (k := 12) fl_X11_80 (by decide) (by decide) (k1.up p6) rfl e11 dX11_thing_15 rfl ?_
    obtain ⟨k12, ht⟩ := ht
    obtain ⟨q13, e14, ht⟩ := ht
    refine y_getR (pc2 := 21) (κ := 6) (k := 7) fl_X11_182 (by decide) (by decide) k12 rfl e14 dX11_thing_18 rfl ?_
    refine x_iload_n (pc2 := 22) 1 (n := 1) (x := x1) rfl dX11_thing_21 rfl ?_
    obtain ⟨k15, ht⟩ := ht
    obtain ⟨b16, ht⟩ := ht
    obtain ⟨q17, e18, ht⟩ := ht
    refine y_aaldR (pc2 := 23) (κ := 20) (by decide) k15 b16 e18 dX11_thing_22 rfl ?_
    refine x_astore_n (pc2 := 24) [1, 2, 3, 0] (n := 3) (x := q17) (lv2 := [(0, .ref a0), (1, .int x1), (2, .int x2), (3, .ref q17)]) (by decide) rfl dX11_thing_23 rfl ?_
    refine x_aload_n (pc2 := 25) 3 (n := 3) (x := q17) rfl dX11_thing_24 rfl ?_
    obtain ⟨k19, ht⟩ := ht
    refine y_getI (pc2 := 28) (κ := 9) (k := 8) fl_X11_192 (by decide) (by decide) k19 rfl dX11_thing_25 rfl ?_
    refine x_iconst (pc2 := 29) (v := (-1)) (by decide) dX11_thing_28 rfl ?_
    refine x_icmp_eq (pc2 := 32) 36 dX11_thing_29 (by decide) rfl (fun c20 => ?_) (fun c20 => ?_)
    · replace ht := ht.1 c20
      refine x_iconst (pc2 := 37) (v := 0) (by decide) dX11_thing_36 rfl ?_
      exact ht
    · replace ht := ht.2 c20
      refine x_iconst (pc2 := 33) (v := 1) (by decide) dX11_thing_32 rfl ?_
      refine x_goto 37 dX11_thing_33 (by decide) ?_
      exact ht
  · replace ht := ht.2 c9
    refine x_bipush (pc2 := 13) (v := (-2)) (by decide) dX11_thing_11 rfl ?_
    exact x_ret (ty := .int) rfl rfl dX11_thing_13 ht
theorem e_X11_thing {G : GG} {d : Nat} {h : HP} {Q : Option Value → HP → Prop} {a0 : Nat} {x1 : Int32} {x2 : Int32} (hd1 : 1 ≤ d) (ht : T_X11_thing G d h Q a0 x1 x2) : Cal G d mX11_thing [.ref a0, .int x1, .int x2] h Q := cal_of rfl (Nat.le_of_ble_eq_true rfl) (t_X11_thing hd1 ht)
def T_X11_thing_37 (G : GG) (d : Nat) (h : HP) (Q : Option Value → HP → Prop) (a0 : Nat) (x1 : Int32) (x2 : Int32) (a3 : Nat) (sx0 : Int32) : Prop :=
  ((x2 = 0 → Kd G h a3 9 ∧ Q (some (.int (hI h a3 1))) h) ∧ (¬ x2 = 0 → ((x2 = 1 → Kd G h a3 9 ∧ Q (some (.int (hI h a3 2))) h) ∧ (¬ x2 = 1 → ((x2 = 2 → Kd G h a3 9 ∧ Q (some (.int (hI h a3 3))) h) ∧ (¬ x2 = 2 → ((x2 = 3 → Kd G h a3 9 ∧ Q (some (.int (hI h a3 4))) h) ∧ (¬ x2 = 3 → ((x2 = 4 → Kd G h a3 9 ∧ Q (some (.int (hI h a3 5))) h) ∧ (¬ x2 = 4 → ((x2 = 5 → Kd G h a3 9 ∧ Q (some (.int (hI h a3 6))) h) ∧ (¬ x2 = 5 → ((x2 = 6 → Kd G h a3 9 ∧ Q (some (.int (hI h a3 7))) h) ∧ (¬ x2 = 6 → ((x2 = 7 → Kd G h a0 11 ∧ Cal G (d - 1) mX11_groundOf [.ref a0, .int x1] h (fun r16 h17 => ∃ v20, r16 = some (.int v20) ∧ Q (some (.int v20)) h17)) ∧ (¬ x2 = 7 → ((x2 = 8 → Kd G h a0 11 ∧ Cal G (d - 1) mX11_worthOf [.ref a0, .int x1] h (fun r22 h23 => ∃ v26, r22 = some (.int v26) ∧ Q (some (.int v26)) h23)) ∧ (¬ x2 = 8 → ((x2 = 9 → Kd G h a3 9 ∧ Q (some (.int (hI h a3 8))) h) ∧ (¬ x2 = 9 → ((x2 = 10 → ((sx0 = 0 → Q (some (.int (-1))) h) ∧ (¬ sx0 = 0 → Kd G h a3 9 ∧ Q (some (.int (hI h a3 9))) h))) ∧ (¬ x2 = 10 → ((x2 = 11 → ((sx0 = 0 → Q (some (.int (-1))) h) ∧ (¬ sx0 = 0 → Kd G h a3 9 ∧ Q (some (.int (hI h a3 10))) h))) ∧ (¬ x2 = 11 → Q (some (.int (-2))) h))))))))))))))))))))))))
set_option maxRecDepth 20000 in
theorem t_X11_thing_37 {G : GG} {d : Nat} {h : HP} {Q : Option Value → HP → Prop} {a0 : Nat} {x1 : Int32} {x2 : Int32} {a3 : Nat} {sx0 : Int32} (hd1 : 1 ≤ d) (ht : T_X11_thing_37 G d h Q a0 x1 x2 a3 sx0) : Ex G d mX11_thing 37 [(0, .ref a0), (1, .int x1), (2, .int x2), (3, .ref a3)] [.int sx0] h Q := by
  unfold T_X11_thing_37 at ht
  refine x_istore (pc2 := 39) [1, 2, 3, 4, 0] (n := 4) (x := sx0) (lv2 := [(0, .ref a0), (1, .int x1), (2, .int x2), (3, .ref a3), (4, .int sx0)]) (by decide) rfl dX11_thing_37 rfl ?_
  refine x_iload_n (pc2 := 40) 2 (n := 2) (x := x2) rfl dX11_thing_39 rfl ?_
  refine y_tcase (x := x2) 0 104 dX11_thing_40 (by decide) (by decide) rfl (by decide) (fun c1 => ?_) (fun c1 => ?_)
  · replace ht := ht.1 c1
    refine x_aload_n (pc2 := 105) 3 (n := 3) (x := a3) rfl dX11_thing_104 rfl ?_
    obtain ⟨k2, ht⟩ := ht
    refine y_getI (pc2 := 108) (κ := 9) (k := 1) fl_X11_207 (by decide) (by decide) k2 rfl dX11_thing_105 rfl ?_
    exact x_ret (ty := .int) rfl rfl dX11_thing_108 ht
  replace ht := ht.2 c1
  refine y_tcase (x := x2) 1 109 dX11_thing_40 (by decide) (by decide) rfl (by decide) (fun c3 => ?_) (fun c3 => ?_)
  · replace ht := ht.1 c3
    refine x_aload_n (pc2 := 110) 3 (n := 3) (x := a3) rfl dX11_thing_109 rfl ?_
    obtain ⟨k4, ht⟩ := ht
    refine y_getI (pc2 := 113) (κ := 9) (k := 2) fl_X11_210 (by decide) (by decide) k4 rfl dX11_thing_110 rfl ?_
    exact x_ret (ty := .int) rfl rfl dX11_thing_113 ht
  replace ht := ht.2 c3
  refine y_tcase (x := x2) 2 114 dX11_thing_40 (by decide) (by decide) rfl (by decide) (fun c5 => ?_) (fun c5 => ?_)
  · replace ht := ht.1 c5
    refine x_aload_n (pc2 := 115) 3 (n := 3) (x := a3) rfl dX11_thing_114 rfl ?_
    obtain ⟨k6, ht⟩ := ht
    refine y_getI (pc2 := 118) (κ := 9) (k := 3) fl_X11_213 (by decide) (by decide) k6 rfl dX11_thing_115 rfl ?_
    exact x_ret (ty := .int) rfl rfl dX11_thing_118 ht
  replace ht := ht.2 c5
  refine y_tcase (x := x2) 3 119 dX11_thing_40 (by decide) (by decide) rfl (by decide) (fun c7 => ?_) (fun c7 => ?_)
  · replace ht := ht.1 c7
    refine x_aload_n (pc2 := 120) 3 (n := 3) (x := a3) rfl dX11_thing_119 rfl ?_
    obtain ⟨k8, ht⟩ := ht
    refine y_getI (pc2 := 123) (κ := 9) (k := 4) fl_X11_216 (by decide) (by decide) k8 rfl dX11_thing_120 rfl ?_
    exact x_ret (ty := .int) rfl rfl dX11_thing_123 ht
  replace ht := ht.2 c7
  refine y_tcase (x := x2) 4 124 dX11_thing_40 (by decide) (by decide) rfl (by decide) (fun c9 => ?_) (fun c9 => ?_)
  · replace ht := ht.1 c9
    refine x_aload_n (pc2 := 125) 3 (n := 3) (x := a3) rfl dX11_thing_124 rfl ?_
    obtain ⟨k10, ht⟩ := ht
    refine y_getI (pc2 := 128) (κ := 9) (k := 5) fl_X11_219 (by decide) (by decide) k10 rfl dX11_thing_125 rfl ?_
    exact x_ret (ty := .int) rfl rfl dX11_thing_128 ht
  replace ht := ht.2 c9
  refine y_tcase (x := x2) 5 129 dX11_thing_40 (by decide) (by decide) rfl (by decide) (fun c11 => ?_) (fun c11 => ?_)
  · replace ht := ht.1 c11
    refine x_aload_n (pc2 := 130) 3 (n := 3) (x := a3) rfl dX11_thing_129 rfl ?_
    obtain ⟨k12, ht⟩ := ht
    refine y_getI (pc2 := 133) (κ := 9) (k := 6) fl_X11_222 (by decide) (by decide) k12 rfl dX11_thing_130 rfl ?_
    exact x_ret (ty := .int) rfl rfl dX11_thing_133 ht
  replace ht := ht.2 c11
  refine y_tcase (x := x2) 6 134 dX11_thing_40 (by decide) (by decide) rfl (by decide) (fun c13 => ?_) (fun c13 => ?_)
  · replace ht := ht.1 c13
    refine x_aload_n (pc2 := 135) 3 (n := 3) (x := a3) rfl dX11_thing_134 rfl ?_
    obtain ⟨k14, ht⟩ := ht
    refine y_getI (pc2 := 138) (κ := 9) (k := 7) fl_X11_225 (by decide) (by decide) k14 rfl dX11_thing_135 rfl ?_
    exact x_ret (ty := .int) rfl rfl dX11_thing_138 ht
  replace ht := ht.2 c13
  refine y_tcase (x := x2) 7 139 dX11_thing_40 (by decide) (by decide) rfl (by decide) (fun c15 => ?_) (fun c15 => ?_)
  · replace ht := ht.1 c15
    refine x_aload_n (pc2 := 140) 0 (n := 0) (x := a0) rfl dX11_thing_139 rfl ?_
    refine x_iload_n (pc2 := 141) 1 (n := 1) (x := x1) rfl dX11_thing_140 rfl ?_
    obtain ⟨k19, ht⟩ := ht
    refine x_callV (pc2 := 144) (As := [.int x1]) (rest := []) (b := a0) mv_X11_groundOf ml_X11_228 k19 rfl rfl (Nat.le_of_ble_eq_true rfl) hd1 dX11_thing_141 rfl (ht.mono (fun r16 h17 p18 ht' => ?_))
    clear ht
    obtain ⟨v20, rfl, ht⟩ := ht'
    show Ex G d mX11_thing 144 [(0, .ref a0), (1, .int x1), (2, .int x2), (3, .ref a3), (4, .int sx0)] [.int v20] h17 Q
    exact x_ret (ty := .int) rfl rfl dX11_thing_144 ht
  replace ht := ht.2 c15
  refine y_tcase (x := x2) 8 145 dX11_thing_40 (by decide) (by decide) rfl (by decide) (fun c21 => ?_) (fun c21 => ?_)
  · replace ht := ht.1 c21
    refine x_aload_n (pc2 := 146) 0 (n := 0) (x := a0) rfl dX11_thing_145 rfl ?_
    refine x_iload_n (pc2 := 147) 1 (n := 1) (x := x1) rfl dX11_thing_146 rfl ?_
    obtain ⟨k25, ht⟩ := ht
    refine x_callV (pc2 := 150) (As := [.int x1]) (rest := []) (b := a0) mv_X11_worthOf ml_X11_231 k25 rfl rfl (Nat.le_of_ble_eq_true rfl) hd1 dX11_thing_147 rfl (ht.mono (fun r22 h23 p24 ht' => ?_))
    clear ht
    obtain ⟨v26, rfl, ht⟩ := ht'
    show Ex G d mX11_thing 150 [(0, .ref a0), (1, .int x1), (2, .int x2), (3, .ref a3), (4, .int sx0)] [.int v26] h23 Q
    exact x_ret (ty := .int) rfl rfl dX11_thing_150 ht
  replace ht := ht.2 c21
  refine y_tcase (x := x2) 9 151 dX11_thing_40 (by decide) (by decide) rfl (by decide) (fun c27 => ?_) (fun c27 => ?_)
  · replace ht := ht.1 c27
    refine x_aload_n (pc2 := 152) 3 (n := 3) (x := a3) rfl dX11_thing_151 rfl ?_
    obtain ⟨k28, ht⟩ := ht
    refine y_getI (pc2 := 155) (κ := 9) (k := 8) fl_X11_192 (by decide) (by decide) k28 rfl dX11_thing_152 rfl ?_
    exact x_ret (ty := .int) rfl rfl dX11_thing_155 ht
  replace ht := ht.2 c27
  refine y_tcase (x := x2) 10 156 dX11_thing_40 (by decide) (by decide) rfl (by decide) (fun c29 => ?_) (fun c29 => ?_)
  · replace ht := ht.1 c29
    refine x_iload (pc2 := 158) 4 (n := 4) (x := sx0) rfl dX11_thing_156 rfl ?_
    refine x_if_eq (pc2 := 161) 168 dX11_thing_158 (by decide) rfl (fun c30 => ?_) (fun c30 => ?_)
    · replace ht := ht.1 c30
      refine x_iconst (pc2 := 169) (v := (-1)) (by decide) dX11_thing_168 rfl ?_
      exact x_ret (ty := .int) rfl rfl dX11_thing_169 ht
    · replace ht := ht.2 c30
      refine x_aload_n (pc2 := 162) 3 (n := 3) (x := a3) rfl dX11_thing_161 rfl ?_
      obtain ⟨k31, ht⟩ := ht
      refine y_getI (pc2 := 165) (κ := 9) (k := 9) fl_X11_195 (by decide) (by decide) k31 rfl dX11_thing_162 rfl ?_
      refine x_goto 169 dX11_thing_165 (by decide) ?_
      exact x_ret (ty := .int) rfl rfl dX11_thing_169 ht
  replace ht := ht.2 c29
  refine y_tcase (x := x2) 11 170 dX11_thing_40 (by decide) (by decide) rfl (by decide) (fun c32 => ?_) (fun c32 => ?_)
  · replace ht := ht.1 c32
    refine x_iload (pc2 := 172) 4 (n := 4) (x := sx0) rfl dX11_thing_170 rfl ?_
    refine x_if_eq (pc2 := 175) 182 dX11_thing_172 (by decide) rfl (fun c33 => ?_) (fun c33 => ?_)
    · replace ht := ht.1 c33
      refine x_iconst (pc2 := 183) (v := (-1)) (by decide) dX11_thing_182 rfl ?_
      exact x_ret (ty := .int) rfl rfl dX11_thing_183 ht
    · replace ht := ht.2 c33
      refine x_aload_n (pc2 := 176) 3 (n := 3) (x := a3) rfl dX11_thing_175 rfl ?_
      obtain ⟨k34, ht⟩ := ht
      refine y_getI (pc2 := 179) (κ := 9) (k := 10) fl_X11_198 (by decide) (by decide) k34 rfl dX11_thing_176 rfl ?_
      refine x_goto 183 dX11_thing_179 (by decide) ?_
      exact x_ret (ty := .int) rfl rfl dX11_thing_183 ht
  replace ht := ht.2 c32
  have wc1 := ne_ti (z := 0) rfl c1
  have wc3 := ne_ti (z := 1) rfl c3
  have wc5 := ne_ti (z := 2) rfl c5
  have wc7 := ne_ti (z := 3) rfl c7
  have wc9 := ne_ti (z := 4) rfl c9
  have wc11 := ne_ti (z := 5) rfl c11
  have wc13 := ne_ti (z := 6) rfl c13
  have wc15 := ne_ti (z := 7) rfl c15
  have wc21 := ne_ti (z := 8) rfl c21
  have wc27 := ne_ti (z := 9) rfl c27
  have wc29 := ne_ti (z := 10) rfl c29
  have wc32 := ne_ti (z := 11) rfl c32
  refine x_tableOut (x := x2) 184 dX11_thing_40 (by omega) (by decide) ?_
  refine x_bipush (pc2 := 186) (v := (-2)) (by decide) dX11_thing_184 rfl ?_
  exact x_ret (ty := .int) rfl rfl dX11_thing_186 ht
def T_X11_groundOf (G : GG) (d : Nat) (h : HP) (Q : Option Value → HP → Prop) (a0 : Nat) (x1 : Int32) : Prop :=
  Kd G h a0 11 ∧ ∃ q2, hR h a0 12 = some q2 ∧ Kd G h q2 6 ∧ ∃ q5, hR h q2 7 = some q5 ∧ Kd G h q5 20 ∧ vp_in x1 (hN h q5) ∧ ∃ q9, hR h q5 x1.toNatClampNeg = some q9 ∧ Kd G h q9 9 ∧ Cal G (d - 1) mX9_area [.ref q9] h (fun r11 h12 => ∃ v15, r11 = some (.int v15) ∧ Ex G d mX11_groundOf 15 [(0, .ref a0), (1, .int x1), (2, .int v15), (3, .int 0)] [] h12 Q)
set_option maxRecDepth 20000 in
theorem t_X11_groundOf {G : GG} {d : Nat} {h : HP} {Q : Option Value → HP → Prop} {a0 : Nat} {x1 : Int32} (hd1 : 1 ≤ d) (ht : T_X11_groundOf G d h Q a0 x1) : Ex G d mX11_groundOf 0 [(0, .ref a0), (1, .int x1)] [] h Q := by
  unfold T_X11_groundOf at ht
  refine x_aload_n (pc2 := 1) 0 (n := 0) (x := a0) rfl dX11_groundOf_0 rfl ?_
  obtain ⟨k1, ht⟩ := ht
  obtain ⟨q2, e3, ht⟩ := ht
  refine y_getR (pc2 := 4) (κ := 11) (k := 12) fl_X11_80 (by decide) (by decide) k1 rfl e3 dX11_groundOf_1 rfl ?_
  obtain ⟨k4, ht⟩ := ht
  obtain ⟨q5, e6, ht⟩ := ht
  refine y_getR (pc2 := 7) (κ := 6) (k := 7) fl_X11_182 (by decide) (by decide) k4 rfl e6 dX11_groundOf_4 rfl ?_
  refine x_iload_n (pc2 := 8) 1 (n := 1) (x := x1) rfl dX11_groundOf_7 rfl ?_
  obtain ⟨k7, ht⟩ := ht
  obtain ⟨b8, ht⟩ := ht
  obtain ⟨q9, e10, ht⟩ := ht
  refine y_aaldR (pc2 := 9) (κ := 20) (by decide) k7 b8 e10 dX11_groundOf_8 rfl ?_
  obtain ⟨k14, ht⟩ := ht
  refine x_callV (pc2 := 12) (As := []) (rest := []) (b := q9) mv_X9_area ml_X11_234 k14 rfl rfl (Nat.le_of_ble_eq_true rfl) hd1 dX11_groundOf_9 rfl (ht.mono (fun r11 h12 p13 ht' => ?_))
  clear ht
  obtain ⟨v15, rfl, ht⟩ := ht'
  show Ex G d mX11_groundOf 12 [(0, .ref a0), (1, .int x1)] [.int v15] h12 Q
  refine x_istore_n (pc2 := 13) [1, 2, 0] (n := 2) (x := v15) (lv2 := [(0, .ref a0), (1, .int x1), (2, .int v15)]) (by decide) rfl dX11_groundOf_12 rfl ?_
  refine x_iconst (pc2 := 14) (v := 0) (by decide) dX11_groundOf_13 rfl ?_
  refine x_istore_n (pc2 := 15) [1, 2, 3, 0] (n := 3) (x := 0) (lv2 := [(0, .ref a0), (1, .int x1), (2, .int v15), (3, .int 0)]) (by decide) rfl dX11_groundOf_14 rfl ?_
  exact ht
theorem e_X11_groundOf {G : GG} {d : Nat} {h : HP} {Q : Option Value → HP → Prop} {a0 : Nat} {x1 : Int32} (hd1 : 1 ≤ d) (ht : T_X11_groundOf G d h Q a0 x1) : Cal G d mX11_groundOf [.ref a0, .int x1] h Q := cal_of rfl (Nat.le_of_ble_eq_true rfl) (t_X11_groundOf hd1 ht)
def T_X11_groundOf_15 (G : GG) (d : Nat) (h : HP) (Q : Option Value → HP → Prop) (a0 : Nat) (x1 : Int32) (x2 : Int32) (x3 : Int32) : Prop :=
  ((30 ≤ x3 → Q (some (.int x2)) h) ∧ (¬ 30 ≤ x3 → Kd G h a0 11 ∧ ∃ q3, hR h a0 12 = some q3 ∧ Kd G h q3 6 ∧ ∃ q6, hR h q3 7 = some q6 ∧ Kd G h q6 20 ∧ vp_in x3 (hN h q6) ∧ ∃ q10, hR h q6 x3.toNatClampNeg = some q10 ∧ Kd G h q10 9 ∧ (((hI h q10 0) = 0 → Ex G d mX11_groundOf 15 [(0, .ref a0), (1, .int x1), (2, .int x2), (3, .int (x3 + 1))] [] h Q) ∧ (¬ (hI h q10 0) = 0 → vp_in x3 (hN h q6) ∧ ∃ q15, hR h q6 x3.toNatClampNeg = some q15 ∧ Kd G h q15 9 ∧ ((¬ (hI h q15 6) = x1 → Ex G d mX11_groundOf 15 [(0, .ref a0), (1, .int x1), (2, .int x2), (3, .int (x3 + 1))] [] h Q) ∧ ((hI h q15 6) = x1 → vp_in x3 (hN h q6) ∧ ∃ q20, hR h q6 x3.toNatClampNeg = some q20 ∧ Kd G h q20 9 ∧ Cal G (d - 1) mX9_area [.ref q20] h (fun r22 h23 => ∃ v26, r22 = some (.int v26) ∧ Ex G d mX11_groundOf 15 [(0, .ref a0), (1, .int x1), (2, .int (x2 - v26)), (3, .int (x3 + 1))] [] h23 Q)))))))
set_option maxRecDepth 20000 in
theorem t_X11_groundOf_15 {G : GG} {d : Nat} {h : HP} {Q : Option Value → HP → Prop} {a0 : Nat} {x1 : Int32} {x2 : Int32} {x3 : Int32} (hd1 : 1 ≤ d) (ht : T_X11_groundOf_15 G d h Q a0 x1 x2 x3) : Ex G d mX11_groundOf 15 [(0, .ref a0), (1, .int x1), (2, .int x2), (3, .int x3)] [] h Q := by
  unfold T_X11_groundOf_15 at ht
  refine x_iload_n (pc2 := 16) 3 (n := 3) (x := x3) rfl dX11_groundOf_15 rfl ?_
  refine x_bipush (pc2 := 18) (v := 30) (by decide) dX11_groundOf_16 rfl ?_
  refine x_icmp_ge (pc2 := 21) 73 dX11_groundOf_18 (by decide) rfl (fun c1 => ?_) (fun c1 => ?_)
  · replace ht := ht.1 c1
    refine x_iload_n (pc2 := 74) 2 (n := 2) (x := x2) rfl dX11_groundOf_73 rfl ?_
    exact x_ret (ty := .int) rfl rfl dX11_groundOf_74 ht
  · replace ht := ht.2 c1
    refine x_aload_n (pc2 := 22) 0 (n := 0) (x := a0) rfl dX11_groundOf_21 rfl ?_
    obtain ⟨k2, ht⟩ := ht
    obtain ⟨q3, e4, ht⟩ := ht
    refine y_getR (pc2 := 25) (κ := 11) (k := 12) fl_X11_80 (by decide) (by decide) k2 rfl e4 dX11_groundOf_22 rfl ?_
    obtain ⟨k5, ht⟩ := ht
    obtain ⟨q6, e7, ht⟩ := ht
    refine y_getR (pc2 := 28) (κ := 6) (k := 7) fl_X11_182 (by decide) (by decide) k5 rfl e7 dX11_groundOf_25 rfl ?_
    refine x_iload_n (pc2 := 29) 3 (n := 3) (x := x3) rfl dX11_groundOf_28 rfl ?_
    obtain ⟨k8, ht⟩ := ht
    obtain ⟨b9, ht⟩ := ht
    obtain ⟨q10, e11, ht⟩ := ht
    refine y_aaldR (pc2 := 30) (κ := 20) (by decide) k8 b9 e11 dX11_groundOf_29 rfl ?_
    obtain ⟨k12, ht⟩ := ht
    refine y_getI (pc2 := 33) (κ := 9) (k := 0) fl_X11_237 (by decide) (by decide) k12 rfl dX11_groundOf_30 rfl ?_
    refine x_if_eq (pc2 := 36) 67 dX11_groundOf_33 (by decide) rfl (fun c13 => ?_) (fun c13 => ?_)
    · replace ht := ht.1 c13
      refine x_iinc (pc2 := 70) 3 [1, 2, 3, 0] (i := 3) (x := x3) (v := (x3 + 1)) (lv2 := [(0, .ref a0), (1, .int x1), (2, .int x2), (3, .int (x3 + 1))]) rfl (iinc_eq (by decide) _) (by decide) rfl dX11_groundOf_67 rfl ?_
      refine x_goto 15 dX11_groundOf_70 (by decide) ?_
      exact ht
    · replace ht := ht.2 c13
      refine x_aload_n (pc2 := 37) 0 (n := 0) (x := a0) rfl dX11_groundOf_36 rfl ?_
      refine y_getR (pc2 := 40) (κ := 11) (k := 12) fl_X11_80 (by decide) (by decide) k2 rfl e4 dX11_groundOf_37 rfl ?_
      refine y_getR (pc2 := 43) (κ := 6) (k := 7) fl_X11_182 (by decide) (by decide) k5 rfl e7 dX11_groundOf_40 rfl ?_
      refine x_iload_n (pc2 := 44) 3 (n := 3) (x := x3) rfl dX11_groundOf_43 rfl ?_
      obtain ⟨b14, ht⟩ := ht
      obtain ⟨q15, e16, ht⟩ := ht
      refine y_aaldR (pc2 := 45) (κ := 20) (by decide) k8 b14 e16 dX11_groundOf_44 rfl ?_
      obtain ⟨k17, ht⟩ := ht
      refine y_getI (pc2 := 48) (κ := 9) (k := 6) fl_X11_222 (by decide) (by decide) k17 rfl dX11_groundOf_45 rfl ?_
      refine x_iload_n (pc2 := 49) 1 (n := 1) (x := x1) rfl dX11_groundOf_48 rfl ?_
      refine y_icmp_ne (pc2 := 52) 67 dX11_groundOf_49 (by decide) rfl (fun c18 => ?_) (fun c18 => ?_)
      · replace ht := ht.1 c18
        refine x_iinc (pc2 := 70) 3 [1, 2, 3, 0] (i := 3) (x := x3) (v := (x3 + 1)) (lv2 := [(0, .ref a0), (1, .int x1), (2, .int x2), (3, .int (x3 + 1))]) rfl (iinc_eq (by decide) _) (by decide) rfl dX11_groundOf_67 rfl ?_
        refine x_goto 15 dX11_groundOf_70 (by decide) ?_
        exact ht
      · replace ht := ht.2 c18
        refine x_iload_n (pc2 := 53) 2 (n := 2) (x := x2) rfl dX11_groundOf_52 rfl ?_
        refine x_aload_n (pc2 := 54) 0 (n := 0) (x := a0) rfl dX11_groundOf_53 rfl ?_
        refine y_getR (pc2 := 57) (κ := 11) (k := 12) fl_X11_80 (by decide) (by decide) k2 rfl e4 dX11_groundOf_54 rfl ?_
        refine y_getR (pc2 := 60) (κ := 6) (k := 7) fl_X11_182 (by decide) (by decide) k5 rfl e7 dX11_groundOf_57 rfl ?_
        refine x_iload_n (pc2 := 61) 3 (n := 3) (x := x3) rfl dX11_groundOf_60 rfl ?_
        obtain ⟨b19, ht⟩ := ht
        obtain ⟨q20, e21, ht⟩ := ht
        refine y_aaldR (pc2 := 62) (κ := 20) (by decide) k8 b19 e21 dX11_groundOf_61 rfl ?_
        obtain ⟨k25, ht⟩ := ht
        refine x_callV (pc2 := 65) (As := []) (rest := [.int x2]) (b := q20) mv_X9_area ml_X11_234 k25 rfl rfl (Nat.le_of_ble_eq_true rfl) hd1 dX11_groundOf_62 rfl (ht.mono (fun r22 h23 p24 ht' => ?_))
        clear ht
        obtain ⟨v26, rfl, ht⟩ := ht'
        show Ex G d mX11_groundOf 65 [(0, .ref a0), (1, .int x1), (2, .int x2), (3, .int x3)] [.int v26, .int x2] h23 Q
        refine x_isub (pc2 := 66) dX11_groundOf_65 rfl ?_
        refine x_istore_n (pc2 := 67) [1, 2, 0, 3] (n := 2) (x := (x2 - v26)) (lv2 := [(0, .ref a0), (1, .int x1), (2, .int (x2 - v26)), (3, .int x3)]) (by decide) rfl dX11_groundOf_66 rfl ?_
        refine x_iinc (pc2 := 70) 3 [1, 2, 3, 0] (i := 3) (x := x3) (v := (x3 + 1)) (lv2 := [(0, .ref a0), (1, .int x1), (2, .int (x2 - v26)), (3, .int (x3 + 1))]) rfl (iinc_eq (by decide) _) (by decide) rfl dX11_groundOf_67 rfl ?_
        refine x_goto 15 dX11_groundOf_70 (by decide) ?_
        exact ht
def T_X11_worthOf (G : GG) (d : Nat) (h : HP) (Q : Option Value → HP → Prop) (a0 : Nat) (x1 : Int32) : Prop :=
  Kd G h a0 11 ∧ ∃ q2, hR h a0 6 = some q2 ∧ Kd G h q2 7 ∧ ∃ q5, hR h q2 0 = some q5 ∧ ∃ q7, hR h a0 12 = some q7 ∧ Kd G h q7 6 ∧ ∃ q10, hR h q7 7 = some q10 ∧ Kd G h q10 20 ∧ vp_in x1 (hN h q10) ∧ ∃ q14, hR h q10 x1.toNatClampNeg = some q14 ∧ Cal G (d - 1) mX7_inThing [.ref q2, .ref q5, .ref q14] h (fun r16 h17 => ∃ v19, r16 = some (.int v19) ∧ Ex G d mX11_worthOf 26 [(0, .ref a0), (1, .int x1), (2, .int v19), (3, .int 0)] [] h17 Q)
set_option maxRecDepth 20000 in
theorem t_X11_worthOf {G : GG} {d : Nat} {h : HP} {Q : Option Value → HP → Prop} {a0 : Nat} {x1 : Int32} (hd1 : 1 ≤ d) (ht : T_X11_worthOf G d h Q a0 x1) : Ex G d mX11_worthOf 0 [(0, .ref a0), (1, .int x1)] [] h Q := by
  unfold T_X11_worthOf at ht
  refine x_aload_n (pc2 := 1) 0 (n := 0) (x := a0) rfl dX11_worthOf_0 rfl ?_
  obtain ⟨k1, ht⟩ := ht
  obtain ⟨q2, e3, ht⟩ := ht
  refine y_getR (pc2 := 4) (κ := 11) (k := 6) fl_X11_48 (by decide) (by decide) k1 rfl e3 dX11_worthOf_1 rfl ?_
  refine x_aload_n (pc2 := 5) 0 (n := 0) (x := a0) rfl dX11_worthOf_4 rfl ?_
  refine y_getR (pc2 := 8) (κ := 11) (k := 6) fl_X11_48 (by decide) (by decide) k1 rfl e3 dX11_worthOf_5 rfl ?_
  obtain ⟨k4, ht⟩ := ht
  obtain ⟨q5, e6, ht⟩ := ht
  refine y_getR (pc2 := 11) (κ := 7) (k := 0) fl_X11_241 (by decide) (by decide) k4 rfl e6 dX11_worthOf_8 rfl ?_
  refine x_aload_n (pc2 := 12) 0 (n := 0) (x := a0) rfl dX11_worthOf_11 rfl ?_
  obtain ⟨q7, e8, ht⟩ := ht
  refine y_getR (pc2 := 15) (κ := 11) (k := 12) fl_X11_80 (by decide) (by decide) k1 rfl e8 dX11_worthOf_12 rfl ?_
  obtain ⟨k9, ht⟩ := ht
  obtain ⟨q10, e11, ht⟩ := ht
  refine y_getR (pc2 := 18) (κ := 6) (k := 7) fl_X11_182 (by decide) (by decide) k9 rfl e11 dX11_worthOf_15 rfl ?_
  refine x_iload_n (pc2 := 19) 1 (n := 1) (x := x1) rfl dX11_worthOf_18 rfl ?_
  obtain ⟨k12, ht⟩ := ht
  obtain ⟨b13, ht⟩ := ht
  obtain ⟨q14, e15, ht⟩ := ht
  refine y_aaldR (pc2 := 20) (κ := 20) (by decide) k12 b13 e15 dX11_worthOf_19 rfl ?_
  refine x_callV (pc2 := 23) (As := [.ref q5, .ref q14]) (rest := []) (b := q2) mv_X7_inThing ml_X11_244 k4 rfl rfl (Nat.le_of_ble_eq_true rfl) hd1 dX11_worthOf_20 rfl (ht.mono (fun r16 h17 p18 ht' => ?_))
  clear ht
  obtain ⟨v19, rfl, ht⟩ := ht'
  show Ex G d mX11_worthOf 23 [(0, .ref a0), (1, .int x1)] [.int v19] h17 Q
  refine x_istore_n (pc2 := 24) [1, 2, 0] (n := 2) (x := v19) (lv2 := [(0, .ref a0), (1, .int x1), (2, .int v19)]) (by decide) rfl dX11_worthOf_23 rfl ?_
  refine x_iconst (pc2 := 25) (v := 0) (by decide) dX11_worthOf_24 rfl ?_
  refine x_istore_n (pc2 := 26) [1, 2, 3, 0] (n := 3) (x := 0) (lv2 := [(0, .ref a0), (1, .int x1), (2, .int v19), (3, .int 0)]) (by decide) rfl dX11_worthOf_25 rfl ?_
  exact ht
theorem e_X11_worthOf {G : GG} {d : Nat} {h : HP} {Q : Option Value → HP → Prop} {a0 : Nat} {x1 : Int32} (hd1 : 1 ≤ d) (ht : T_X11_worthOf G d h Q a0 x1) : Cal G d mX11_worthOf [.ref a0, .int x1] h Q := cal_of rfl (Nat.le_of_ble_eq_true rfl) (t_X11_worthOf hd1 ht)
def T_X11_worthOf_26 (G : GG) (d : Nat) (h : HP) (Q : Option Value → HP → Prop) (a0 : Nat) (x1 : Int32) (x2 : Int32) (x3 : Int32) : Prop :=
  ((30 ≤ x3 → Q (some (.int x2)) h) ∧ (¬ 30 ≤ x3 → Kd G h a0 11 ∧ ∃ q3, hR h a0 12 = some q3 ∧ Kd G h q3 6 ∧ ∃ q6, hR h q3 7 = some q6 ∧ Kd G h q6 20 ∧ vp_in x3 (hN h q6) ∧ ∃ q10, hR h q6 x3.toNatClampNeg = some q10 ∧ Kd G h q10 9 ∧ (((hI h q10 0) = 0 → Ex G d mX11_worthOf 26 [(0, .ref a0), (1, .int x1), (2, .int x2), (3, .int (x3 + 1))] [] h Q) ∧ (¬ (hI h q10 0) = 0 → vp_in x3 (hN h q6) ∧ ∃ q15, hR h q6 x3.toNatClampNeg = some q15 ∧ Kd G h q15 9 ∧ ((¬ (hI h q15 6) = x1 → Ex G d mX11_worthOf 26 [(0, .ref a0), (1, .int x1), (2, .int x2), (3, .int (x3 + 1))] [] h Q) ∧ ((hI h q15 6) = x1 → ∃ q19, hR h a0 6 = some q19 ∧ Kd G h q19 7 ∧ ∃ q22, hR h q19 0 = some q22 ∧ vp_in x3 (hN h q6) ∧ ∃ q25, hR h q6 x3.toNatClampNeg = some q25 ∧ Cal G (d - 1) mX7_inThing [.ref q19, .ref q22, .ref q25] h (fun r27 h28 => ∃ v30, r27 = some (.int v30) ∧ Ex G d mX11_worthOf 26 [(0, .ref a0), (1, .int x1), (2, .int (x2 - v30)), (3, .int (x3 + 1))] [] h28 Q)))))))
set_option maxRecDepth 20000 in
theorem t_X11_worthOf_26 {G : GG} {d : Nat} {h : HP} {Q : Option Value → HP → Prop} {a0 : Nat} {x1 : Int32} {x2 : Int32} {x3 : Int32} (hd1 : 1 ≤ d) (ht : T_X11_worthOf_26 G d h Q a0 x1 x2 x3) : Ex G d mX11_worthOf 26 [(0, .ref a0), (1, .int x1), (2, .int x2), (3, .int x3)] [] h Q := by
  unfold T_X11_worthOf_26 at ht
  refine x_iload_n (pc2 := 27) 3 (n := 3) (x := x3) rfl dX11_worthOf_26 rfl ?_
  refine x_bipush (pc2 := 29) (v := 30) (by decide) dX11_worthOf_27 rfl ?_
  refine x_icmp_ge (pc2 := 32) 95 dX11_worthOf_29 (by decide) rfl (fun c1 => ?_) (fun c1 => ?_)
  · replace ht := ht.1 c1
    refine x_iload_n (pc2 := 96) 2 (n := 2) (x := x2) rfl dX11_worthOf_95 rfl ?_
    exact x_ret (ty := .int) rfl rfl dX11_worthOf_96 ht
  · replace ht := ht.2 c1
    refine x_aload_n (pc2 := 33) 0 (n := 0) (x := a0) rfl dX11_worthOf_32 rfl ?_
    obtain ⟨k2, ht⟩ := ht
    obtain ⟨q3, e4, ht⟩ := ht
    refine y_getR (pc2 := 36) (κ := 11) (k := 12) fl_X11_80 (by decide) (by decide) k2 rfl e4 dX11_worthOf_33 rfl ?_
    obtain ⟨k5, ht⟩ := ht
    obtain ⟨q6, e7, ht⟩ := ht
    refine y_getR (pc2 := 39) (κ := 6) (k := 7) fl_X11_182 (by decide) (by decide) k5 rfl e7 dX11_worthOf_36 rfl ?_
    refine x_iload_n (pc2 := 40) 3 (n := 3) (x := x3) rfl dX11_worthOf_39 rfl ?_
    obtain ⟨k8, ht⟩ := ht
    obtain ⟨b9, ht⟩ := ht
    obtain ⟨q10, e11, ht⟩ := ht
    refine y_aaldR (pc2 := 41) (κ := 20) (by decide) k8 b9 e11 dX11_worthOf_40 rfl ?_
    obtain ⟨k12, ht⟩ := ht
    refine y_getI (pc2 := 44) (κ := 9) (k := 0) fl_X11_237 (by decide) (by decide) k12 rfl dX11_worthOf_41 rfl ?_
    refine x_if_eq (pc2 := 47) 89 dX11_worthOf_44 (by decide) rfl (fun c13 => ?_) (fun c13 => ?_)
    · replace ht := ht.1 c13
      refine x_iinc (pc2 := 92) 3 [1, 2, 3, 0] (i := 3) (x := x3) (v := (x3 + 1)) (lv2 := [(0, .ref a0), (1, .int x1), (2, .int x2), (3, .int (x3 + 1))]) rfl (iinc_eq (by decide) _) (by decide) rfl dX11_worthOf_89 rfl ?_
      refine x_goto 26 dX11_worthOf_92 (by decide) ?_
      exact ht
    · replace ht := ht.2 c13
      refine x_aload_n (pc2 := 48) 0 (n := 0) (x := a0) rfl dX11_worthOf_47 rfl ?_
      refine y_getR (pc2 := 51) (κ := 11) (k := 12) fl_X11_80 (by decide) (by decide) k2 rfl e4 dX11_worthOf_48 rfl ?_
      refine y_getR (pc2 := 54) (κ := 6) (k := 7) fl_X11_182 (by decide) (by decide) k5 rfl e7 dX11_worthOf_51 rfl ?_
      refine x_iload_n (pc2 := 55) 3 (n := 3) (x := x3) rfl dX11_worthOf_54 rfl ?_
      obtain ⟨b14, ht⟩ := ht
      obtain ⟨q15, e16, ht⟩ := ht
      refine y_aaldR (pc2 := 56) (κ := 20) (by decide) k8 b14 e16 dX11_worthOf_55 rfl ?_
      obtain ⟨k17, ht⟩ := ht
      refine y_getI (pc2 := 59) (κ := 9) (k := 6) fl_X11_222 (by decide) (by decide) k17 rfl dX11_worthOf_56 rfl ?_
      refine x_iload_n (pc2 := 60) 1 (n := 1) (x := x1) rfl dX11_worthOf_59 rfl ?_
      refine y_icmp_ne (pc2 := 63) 89 dX11_worthOf_60 (by decide) rfl (fun c18 => ?_) (fun c18 => ?_)
      · replace ht := ht.1 c18
        refine x_iinc (pc2 := 92) 3 [1, 2, 3, 0] (i := 3) (x := x3) (v := (x3 + 1)) (lv2 := [(0, .ref a0), (1, .int x1), (2, .int x2), (3, .int (x3 + 1))]) rfl (iinc_eq (by decide) _) (by decide) rfl dX11_worthOf_89 rfl ?_
        refine x_goto 26 dX11_worthOf_92 (by decide) ?_
        exact ht
      · replace ht := ht.2 c18
        refine x_iload_n (pc2 := 64) 2 (n := 2) (x := x2) rfl dX11_worthOf_63 rfl ?_
        refine x_aload_n (pc2 := 65) 0 (n := 0) (x := a0) rfl dX11_worthOf_64 rfl ?_
        obtain ⟨q19, e20, ht⟩ := ht
        refine y_getR (pc2 := 68) (κ := 11) (k := 6) fl_X11_48 (by decide) (by decide) k2 rfl e20 dX11_worthOf_65 rfl ?_
        refine x_aload_n (pc2 := 69) 0 (n := 0) (x := a0) rfl dX11_worthOf_68 rfl ?_
        refine y_getR (pc2 := 72) (κ := 11) (k := 6) fl_X11_48 (by decide) (by decide) k2 rfl e20 dX11_worthOf_69 rfl ?_
        obtain ⟨k21, ht⟩ := ht
        obtain ⟨q22, e23, ht⟩ := ht
        refine y_getR (pc2 := 75) (κ := 7) (k := 0) fl_X11_241 (by decide) (by decide) k21 rfl e23 dX11_worthOf_72 rfl ?_
        refine x_aload_n (pc2 := 76) 0 (n := 0) (x := a0) rfl dX11_worthOf_75 rfl ?_
        refine y_getR (pc2 := 79) (κ := 11) (k := 12) fl_X11_80 (by decide) (by decide) k2 rfl e4 dX11_worthOf_76 rfl ?_
        refine y_getR (pc2 := 82) (κ := 6) (k := 7) fl_X11_182 (by decide) (by decide) k5 rfl e7 dX11_worthOf_79 rfl ?_
        refine x_iload_n (pc2 := 83) 3 (n := 3) (x := x3) rfl dX11_worthOf_82 rfl ?_
        obtain ⟨b24, ht⟩ := ht
        obtain ⟨q25, e26, ht⟩ := ht
        refine y_aaldR (pc2 := 84) (κ := 20) (by decide) k8 b24 e26 dX11_worthOf_83 rfl ?_
        refine x_callV (pc2 := 87) (As := [.ref q22, .ref q25]) (rest := [.int x2]) (b := q19) mv_X7_inThing ml_X11_244 k21 rfl rfl (Nat.le_of_ble_eq_true rfl) hd1 dX11_worthOf_84 rfl (ht.mono (fun r27 h28 p29 ht' => ?_))
        clear ht
        obtain ⟨v30, rfl, ht⟩ := ht'
        show Ex G d mX11_worthOf 87 [(0, .ref a0), (1, .int x1), (2, .int x2), (3, .int x3)] [.int v30, .int x2] h28 Q
        refine x_isub (pc2 := 88) dX11_worthOf_87 rfl ?_
        refine x_istore_n (pc2 := 89) [1, 2, 0, 3] (n := 2) (x := (x2 - v30)) (lv2 := [(0, .ref a0), (1, .int x1), (2, .int (x2 - v30)), (3, .int x3)]) (by decide) rfl dX11_worthOf_88 rfl ?_
        refine x_iinc (pc2 := 92) 3 [1, 2, 3, 0] (i := 3) (x := x3) (v := (x3 + 1)) (lv2 := [(0, .ref a0), (1, .int x1), (2, .int (x2 - v30)), (3, .int (x3 + 1))]) rfl (iinc_eq (by decide) _) (by decide) rfl dX11_worthOf_89 rfl ?_
        refine x_goto 26 dX11_worthOf_92 (by decide) ?_
        exact ht
def T_X11_cell (G : GG) (d : Nat) (h : HP) (Q : Option Value → HP → Prop) (a0 : Nat) (x1 : Int32) (x2 : Int32) (x3 : Int32) : Prop :=
  Kd G h a0 11 ∧ ∃ q2, hR h a0 12 = some q2 ∧ Kd G h q2 6 ∧ Cal G (d - 1) mX6_hasCell [.ref q2, .int x1, .int x2] h (fun r4 h5 => ∃ v8, r4 = some (.int v8) ∧ ((¬ v8 = 0 → ∃ q10, hR h5 a0 12 = some q10 ∧ Kd G h5 q10 6 ∧ ∃ q13, hR h5 q10 5 = some q13 ∧ Kd G h5 q13 14 ∧ vp_in ((x2 * 40) + x1) (hN h5 q13) ∧ ((x3 = 0 → Q (some (.int ((hI h5 q13 ((x2 * 40) + x1).toNatClampNeg) &&& 127))) h5) ∧ (¬ x3 = 0 → ((x3 = 1 → ((((hI h5 q13 ((x2 * 40) + x1).toNatClampNeg) &&& 128) = 0 → Q (some (.int 0)) h5) ∧ (¬ ((hI h5 q13 ((x2 * 40) + x1).toNatClampNeg) &&& 128) = 0 → Q (some (.int 1)) h5))) ∧ (¬ x3 = 1 → ((x3 = 2 → ((((hI h5 q13 ((x2 * 40) + x1).toNatClampNeg) &&& 256) = 0 → Q (some (.int 0)) h5) ∧ (¬ ((hI h5 q13 ((x2 * 40) + x1).toNatClampNeg) &&& 256) = 0 → Q (some (.int 1)) h5))) ∧ (¬ x3 = 2 → ((x3 = 3 → Cal G (d - 1) mX6_innermostAt [.ref q10, .int x1, .int x2] h5 (fun r23 h24 => ∃ v26, r23 = some (.int v26) ∧ Q (some (.int v26)) h24)) ∧ (¬ x3 = 3 → Q (some (.int (-2))) h5))))))))) ∧ (v8 = 0 → Q (some (.int (-2))) h5)))
set_option maxRecDepth 20000 in
theorem t_X11_cell {G : GG} {d : Nat} {h : HP} {Q : Option Value → HP → Prop} {a0 : Nat} {x1 : Int32} {x2 : Int32} {x3 : Int32} (hd1 : 1 ≤ d) (ht : T_X11_cell G d h Q a0 x1 x2 x3) : Ex G d mX11_cell 0 [(0, .ref a0), (1, .int x1), (2, .int x2), (3, .int x3)] [] h Q := by
  unfold T_X11_cell at ht
  refine x_aload_n (pc2 := 1) 0 (n := 0) (x := a0) rfl dX11_cell_0 rfl ?_
  obtain ⟨k1, ht⟩ := ht
  obtain ⟨q2, e3, ht⟩ := ht
  refine y_getR (pc2 := 4) (κ := 11) (k := 12) fl_X11_80 (by decide) (by decide) k1 rfl e3 dX11_cell_1 rfl ?_
  refine x_iload_n (pc2 := 5) 1 (n := 1) (x := x1) rfl dX11_cell_4 rfl ?_
  refine x_iload_n (pc2 := 6) 2 (n := 2) (x := x2) rfl dX11_cell_5 rfl ?_
  obtain ⟨k7, ht⟩ := ht
  refine x_callV (pc2 := 9) (As := [.int x1, .int x2]) (rest := []) (b := q2) mv_X6_hasCell ml_X11_248 k7 rfl rfl (Nat.le_of_ble_eq_true rfl) hd1 dX11_cell_6 rfl (ht.mono (fun r4 h5 p6 ht' => ?_))
  clear ht
  obtain ⟨v8, rfl, ht⟩ := ht'
  show Ex G d mX11_cell 9 [(0, .ref a0), (1, .int x1), (2, .int x2), (3, .int x3)] [.int v8] h5 Q
  refine y_if_ne (pc2 := 12) 15 dX11_cell_9 (by decide) rfl (fun c9 => ?_) (fun c9 => ?_)
  · replace ht := ht.1 c9
    refine x_aload_n (pc2 := 16) 0 (n := 0) (x := a0) rfl dX11_cell_15 rfl ?_
    obtain ⟨q10, e11, ht⟩ := ht
    refine y_getR (pc2 := 19) (κ := 11) (k := 12) fl_X11_80 (by decide) (by decide) (k1.up p6) rfl e11 dX11_cell_16 rfl ?_
    obtain ⟨k12, ht⟩ := ht
    obtain ⟨q13, e14, ht⟩ := ht
    refine y_getR (pc2 := 22) (κ := 6) (k := 5) fl_X11_252 (by decide) (by decide) k12 rfl e14 dX11_cell_19 rfl ?_
    refine x_iload_n (pc2 := 23) 2 (n := 2) (x := x2) rfl dX11_cell_22 rfl ?_
    refine x_bipush (pc2 := 25) (v := 40) (by decide) dX11_cell_23 rfl ?_
    refine x_imul (pc2 := 26) dX11_cell_25 rfl ?_
    refine x_iload_n (pc2 := 27) 1 (n := 1) (x := x1) rfl dX11_cell_26 rfl ?_
    refine x_iadd (pc2 := 28) dX11_cell_27 rfl ?_
    obtain ⟨k15, ht⟩ := ht
    obtain ⟨b16, ht⟩ := ht
    refine x_iald (pc2 := 29) k15 b16 dX11_cell_28 rfl ?_
    refine x_istore (pc2 := 31) [1, 2, 3, 4, 0] (n := 4) (x := (hI h5 q13 ((x2 * 40) + x1).toNatClampNeg)) (lv2 := [(0, .ref a0), (1, .int x1), (2, .int x2), (3, .int x3), (4, .int (hI h5 q13 ((x2 * 40) + x1).toNatClampNeg))]) (by decide) rfl dX11_cell_29 rfl ?_
    refine x_iload_n (pc2 := 32) 3 (n := 3) (x := x3) rfl dX11_cell_31 rfl ?_
    refine y_tcase (x := x3) 0 64 dX11_cell_32 (by decide) (by decide) rfl (by decide) (fun c17 => ?_) (fun c17 => ?_)
    · replace ht := ht.1 c17
      refine x_iload (pc2 := 66) 4 (n := 4) (x := (hI h5 q13 ((x2 * 40) + x1).toNatClampNeg)) rfl dX11_cell_64 rfl ?_
      refine x_bipush (pc2 := 68) (v := 127) (by decide) dX11_cell_66 rfl ?_
      refine x_iand (pc2 := 69) dX11_cell_68 rfl ?_
      exact x_ret (ty := .int) rfl rfl dX11_cell_69 ht
    replace ht := ht.2 c17
    refine y_tcase (x := x3) 1 70 dX11_cell_32 (by decide) (by decide) rfl (by decide) (fun c18 => ?_) (fun c18 => ?_)
    · replace ht := ht.1 c18
      refine x_iload (pc2 := 72) 4 (n := 4) (x := (hI h5 q13 ((x2 * 40) + x1).toNatClampNeg)) rfl dX11_cell_70 rfl ?_
      refine x_sipush (pc2 := 75) (v := 128) (by decide) dX11_cell_72 rfl ?_
      refine x_iand (pc2 := 76) dX11_cell_75 rfl ?_
      refine x_if_eq (pc2 := 79) 83 dX11_cell_76 (by decide) rfl (fun c19 => ?_) (fun c19 => ?_)
      · replace ht := ht.1 c19
        refine x_iconst (pc2 := 84) (v := 0) (by decide) dX11_cell_83 rfl ?_
        exact x_ret (ty := .int) rfl rfl dX11_cell_84 ht
      · replace ht := ht.2 c19
        refine x_iconst (pc2 := 80) (v := 1) (by decide) dX11_cell_79 rfl ?_
        refine x_goto 84 dX11_cell_80 (by decide) ?_
        exact x_ret (ty := .int) rfl rfl dX11_cell_84 ht
    replace ht := ht.2 c18
    refine y_tcase (x := x3) 2 85 dX11_cell_32 (by decide) (by decide) rfl (by decide) (fun c20 => ?_) (fun c20 => ?_)
    · replace ht := ht.1 c20
      refine x_iload (pc2 := 87) 4 (n := 4) (x := (hI h5 q13 ((x2 * 40) + x1).toNatClampNeg)) rfl dX11_cell_85 rfl ?_
      refine x_sipush (pc2 := 90) (v := 256) (by decide) dX11_cell_87 rfl ?_
      refine x_iand (pc2 := 91) dX11_cell_90 rfl ?_
      refine x_if_eq (pc2 := 94) 98 dX11_cell_91 (by decide) rfl (fun c21 => ?_) (fun c21 => ?_)
      · replace ht := ht.1 c21
        refine x_iconst (pc2 := 99) (v := 0) (by decide) dX11_cell_98 rfl ?_
        exact x_ret (ty := .int) rfl rfl dX11_cell_99 ht
      · replace ht := ht.2 c21
        refine x_iconst (pc2 := 95) (v := 1) (by decide) dX11_cell_94 rfl ?_
        refine x_goto 99 dX11_cell_95 (by decide) ?_
        exact x_ret (ty := .int) rfl rfl dX11_cell_99 ht
    replace ht := ht.2 c20
    refine y_tcase (x := x3) 3 100 dX11_cell_32 (by decide) (by decide) rfl (by decide) (fun c22 => ?_) (fun c22 => ?_)
    · replace ht := ht.1 c22
      refine x_aload_n (pc2 := 101) 0 (n := 0) (x := a0) rfl dX11_cell_100 rfl ?_
      refine y_getR (pc2 := 104) (κ := 11) (k := 12) fl_X11_80 (by decide) (by decide) (k1.up p6) rfl e11 dX11_cell_101 rfl ?_
      refine x_iload_n (pc2 := 105) 1 (n := 1) (x := x1) rfl dX11_cell_104 rfl ?_
      refine x_iload_n (pc2 := 106) 2 (n := 2) (x := x2) rfl dX11_cell_105 rfl ?_
      refine x_callV (pc2 := 109) (As := [.int x1, .int x2]) (rest := []) (b := q10) mv_X6_innermostAt ml_X11_255 k12 rfl rfl (Nat.le_of_ble_eq_true rfl) hd1 dX11_cell_106 rfl (ht.mono (fun r23 h24 p25 ht' => ?_))
      clear ht
      obtain ⟨v26, rfl, ht⟩ := ht'
      show Ex G d mX11_cell 109 [(0, .ref a0), (1, .int x1), (2, .int x2), (3, .int x3), (4, .int (hI h5 q13 ((x2 * 40) + x1).toNatClampNeg))] [.int v26] h24 Q
      exact x_ret (ty := .int) rfl rfl dX11_cell_109 ht
    replace ht := ht.2 c22
    have wc17 := ne_ti (z := 0) rfl c17
    have wc18 := ne_ti (z := 1) rfl c18
    have wc20 := ne_ti (z := 2) rfl c20
    have wc22 := ne_ti (z := 3) rfl c22
    refine x_tableOut (x := x3) 110 dX11_cell_32 (by omega) (by decide) ?_
    refine x_bipush (pc2 := 112) (v := (-2)) (by decide) dX11_cell_110 rfl ?_
    exact x_ret (ty := .int) rfl rfl dX11_cell_112 ht
  · replace ht := ht.2 c9
    refine x_bipush (pc2 := 14) (v := (-2)) (by decide) dX11_cell_12 rfl ?_
    exact x_ret (ty := .int) rfl rfl dX11_cell_14 ht
theorem e_X11_cell {G : GG} {d : Nat} {h : HP} {Q : Option Value → HP → Prop} {a0 : Nat} {x1 : Int32} {x2 : Int32} {x3 : Int32} (hd1 : 1 ≤ d) (ht : T_X11_cell G d h Q a0 x1 x2 x3) : Cal G d mX11_cell [.ref a0, .int x1, .int x2, .int x3] h Q := cal_of rfl (Nat.le_of_ble_eq_true rfl) (t_X11_cell hd1 ht)
def T_X11_inside (G : GG) (d : Nat) (h : HP) (Q : Option Value → HP → Prop) (a0 : Nat) (x1 : Int32) (x2 : Int32) : Prop :=
  Kd G h a0 11 ∧ ∃ q2, hR h a0 12 = some q2 ∧ Kd G h q2 6 ∧ Cal G (d - 1) mX6_isThere [.ref q2, .int x1] h (fun r4 h5 => ∃ v8, r4 = some (.int v8) ∧ ((v8 = 0 → Q (some (.int (-1))) h5) ∧ (¬ v8 = 0 → ∃ q10, hR h5 a0 12 = some q10 ∧ Kd G h5 q10 6 ∧ Cal G (d - 1) mX6_isThere [.ref q10, .int x2] h5 (fun r12 h13 => ∃ v16, r12 = some (.int v16) ∧ ((¬ v16 = 0 → ∃ q18, hR h13 a0 12 = some q18 ∧ Kd G h13 q18 6 ∧ Cal G (d - 1) mX6_liesIn [.ref q18, .int x1, .int x2] h13 (fun r20 h21 => ∃ v24, r20 = some (.int v24) ∧ ((v24 = 0 → Q (some (.int 0)) h21) ∧ (¬ v24 = 0 → Q (some (.int 1)) h21)))) ∧ (v16 = 0 → Q (some (.int (-1))) h13))))))
set_option maxRecDepth 20000 in
theorem t_X11_inside {G : GG} {d : Nat} {h : HP} {Q : Option Value → HP → Prop} {a0 : Nat} {x1 : Int32} {x2 : Int32} (hd1 : 1 ≤ d) (ht : T_X11_inside G d h Q a0 x1 x2) : Ex G d mX11_inside 0 [(0, .ref a0), (1, .int x1), (2, .int x2)] [] h Q := by
  unfold T_X11_inside at ht
  refine x_aload_n (pc2 := 1) 0 (n := 0) (x := a0) rfl dX11_inside_0 rfl ?_
  obtain ⟨k1, ht⟩ := ht
  obtain ⟨q2, e3, ht⟩ := ht
  refine y_getR (pc2 := 4) (κ := 11) (k := 12) fl_X11_80 (by decide) (by decide) k1 rfl e3 dX11_inside_1 rfl ?_
  refine x_iload_n (pc2 := 5) 1 (n := 1) (x := x1) rfl dX11_inside_4 rfl ?_
  obtain ⟨k7, ht⟩ := ht
  refine x_callV (pc2 := 8) (As := [.int x1]) (rest := []) (b := q2) mv_X6_isThere ml_X11_204 k7 rfl rfl (Nat.le_of_ble_eq_true rfl) hd1 dX11_inside_5 rfl (ht.mono (fun r4 h5 p6 ht' => ?_))
  clear ht
  obtain ⟨v8, rfl, ht⟩ := ht'
  show Ex G d mX11_inside 8 [(0, .ref a0), (1, .int x1), (2, .int x2)] [.int v8] h5 Q
  refine x_if_eq (pc2 := 11) 22 dX11_inside_8 (by decide) rfl (fun c9 => ?_) (fun c9 => ?_)
  · replace ht := ht.1 c9
    refine x_iconst (pc2 := 23) (v := (-1)) (by decide) dX11_inside_22 rfl ?_
    exact x_ret (ty := .int) rfl rfl dX11_inside_23 ht
  · replace ht := ht.2 c9
    refine x_aload_n (pc2 := 12) 0 (n := 0) (x := a0) rfl dX11_inside_11 rfl ?_
    obtain ⟨q10, e11, ht⟩ := ht
    refine y_getR (pc2 := 15) (κ := 11) (k := 12) fl_X11_80 (by decide) (by decide) (k1.up p6) rfl e11 dX11_inside_12 rfl ?_
    refine x_iload_n (pc2 := 16) 2 (n := 2) (x := x2) rfl dX11_inside_15 rfl ?_
    obtain ⟨k15, ht⟩ := ht
    refine x_callV (pc2 := 19) (As := [.int x2]) (rest := []) (b := q10) mv_X6_isThere ml_X11_204 k15 rfl rfl (Nat.le_of_ble_eq_true rfl) hd1 dX11_inside_16 rfl (ht.mono (fun r12 h13 p14 ht' => ?_))
    clear ht
    obtain ⟨v16, rfl, ht⟩ := ht'
    show Ex G d mX11_inside 19 [(0, .ref a0), (1, .int x1), (2, .int x2)] [.int v16] h13 Q
    refine y_if_ne (pc2 := 22) 24 dX11_inside_19 (by decide) rfl (fun c17 => ?_) (fun c17 => ?_)
    · replace ht := ht.1 c17
      refine x_aload_n (pc2 := 25) 0 (n := 0) (x := a0) rfl dX11_inside_24 rfl ?_
      obtain ⟨q18, e19, ht⟩ := ht
      refine y_getR (pc2 := 28) (κ := 11) (k := 12) fl_X11_80 (by decide) (by decide) ((k1.up p6).up p14) rfl e19 dX11_inside_25 rfl ?_
      refine x_iload_n (pc2 := 29) 1 (n := 1) (x := x1) rfl dX11_inside_28 rfl ?_
      refine x_iload_n (pc2 := 30) 2 (n := 2) (x := x2) rfl dX11_inside_29 rfl ?_
      obtain ⟨k23, ht⟩ := ht
      refine x_callV (pc2 := 33) (As := [.int x1, .int x2]) (rest := []) (b := q18) mv_X6_liesIn ml_X11_259 k23 rfl rfl (Nat.le_of_ble_eq_true rfl) hd1 dX11_inside_30 rfl (ht.mono (fun r20 h21 p22 ht' => ?_))
      clear ht
      obtain ⟨v24, rfl, ht⟩ := ht'
      show Ex G d mX11_inside 33 [(0, .ref a0), (1, .int x1), (2, .int x2)] [.int v24] h21 Q
      refine x_if_eq (pc2 := 36) 40 dX11_inside_33 (by decide) rfl (fun c25 => ?_) (fun c25 => ?_)
      · replace ht := ht.1 c25
        refine x_iconst (pc2 := 41) (v := 0) (by decide) dX11_inside_40 rfl ?_
        exact x_ret (ty := .int) rfl rfl dX11_inside_41 ht
      · replace ht := ht.2 c25
        refine x_iconst (pc2 := 37) (v := 1) (by decide) dX11_inside_36 rfl ?_
        refine x_goto 41 dX11_inside_37 (by decide) ?_
        exact x_ret (ty := .int) rfl rfl dX11_inside_41 ht
    · replace ht := ht.2 c17
      refine x_iconst (pc2 := 23) (v := (-1)) (by decide) dX11_inside_22 rfl ?_
      exact x_ret (ty := .int) rfl rfl dX11_inside_23 ht
theorem e_X11_inside {G : GG} {d : Nat} {h : HP} {Q : Option Value → HP → Prop} {a0 : Nat} {x1 : Int32} {x2 : Int32} (hd1 : 1 ≤ d) (ht : T_X11_inside G d h Q a0 x1 x2) : Cal G d mX11_inside [.ref a0, .int x1, .int x2] h Q := cal_of rfl (Nat.le_of_ble_eq_true rfl) (t_X11_inside hd1 ht)
def T_X11_nests (G : GG) (d : Nat) (h : HP) (Q : Option Value → HP → Prop) (a0 : Nat) (x1 : Int32) : Prop :=
  ((x1 = 0 → Kd G h a0 11 ∧ ∃ q3, hR h a0 12 = some q3 ∧ Kd G h q3 6 ∧ Cal G (d - 1) mX6_nestCount [.ref q3] h (fun r5 h6 => ∃ v9, r5 = some (.int v9) ∧ Q (some (.int v9)) h6)) ∧ (¬ x1 = 0 → ((x1 = 1 → Kd G h a0 11 ∧ ∃ q12, hR h a0 12 = some q12 ∧ Kd G h q12 6 ∧ Cal G (d - 1) mX6_freeCells [.ref q12] h (fun r14 h15 => ∃ v18, r14 = some (.int v18) ∧ Q (some (.int v18)) h15)) ∧ (¬ x1 = 1 → ((x1 = 2 → Kd G h a0 11 ∧ ∃ q21, hR h a0 12 = some q21 ∧ Kd G h q21 6 ∧ Cal G (d - 1) mX6_innermostOfAll [.ref q21] h (fun r23 h24 => ∃ v27, r23 = some (.int v27) ∧ Q (some (.int v27)) h24)) ∧ (¬ x1 = 2 → ((x1 = 3 → Kd G h a0 11 ∧ ∃ q30, hR h a0 12 = some q30 ∧ Kd G h q30 6 ∧ ((¬ (hI h q30 2) = 0 → Cal G (d - 1) mX6_innermostOfAll [.ref q30] h (fun r34 h35 => ∃ v37, r34 = some (.int v37) ∧ Cal G (d - 1) mX6_coversOf [.ref q30, .int v37] h35 (fun r38 h39 => ∃ v41, r38 = some (.int v41) ∧ Q (some (.int v41)) h39))) ∧ ((hI h q30 2) = 0 → Q (some (.int (-1))) h))) ∧ (¬ x1 = 3 → ((x1 = 4 → Kd G h a0 11 ∧ ∃ q44, hR h a0 12 = some q44 ∧ Kd G h q44 6 ∧ Cal G (d - 1) mX6_wallless [.ref q44] h (fun r46 h47 => ∃ v50, r46 = some (.int v50) ∧ Q (some (.int v50)) h47)) ∧ (¬ x1 = 4 → Q (some (.int (-1))) h))))))))))
set_option maxRecDepth 20000 in
theorem t_X11_nests {G : GG} {d : Nat} {h : HP} {Q : Option Value → HP → Prop} {a0 : Nat} {x1 : Int32} (hd1 : 1 ≤ d) (ht : T_X11_nests G d h Q a0 x1) : Ex G d mX11_nests 0 [(0, .ref a0), (1, .int x1)] [] h Q := by
  unfold T_X11_nests at ht
  refine x_iload_n (pc2 := 1) 1 (n := 1) (x := x1) rfl dX11_nests_0 rfl ?_
  refine y_tcase (x := x1) 0 36 dX11_nests_1 (by decide) (by decide) rfl (by decide) (fun c1 => ?_) (fun c1 => ?_)
  · replace ht := ht.1 c1
    refine x_aload_n (pc2 := 37) 0 (n := 0) (x := a0) rfl dX11_nests_36 rfl ?_
    obtain ⟨k2, ht⟩ := ht
    obtain ⟨q3, e4, ht⟩ := ht
    refine y_getR (pc2 := 40) (κ := 11) (k := 12) fl_X11_80 (by decide) (by decide) k2 rfl e4 dX11_nests_37 rfl ?_
    obtain ⟨k8, ht⟩ := ht
    refine x_callV (pc2 := 43) (As := []) (rest := []) (b := q3) mv_X6_nestCount ml_X11_262 k8 rfl rfl (Nat.le_of_ble_eq_true rfl) hd1 dX11_nests_40 rfl (ht.mono (fun r5 h6 p7 ht' => ?_))
    clear ht
    obtain ⟨v9, rfl, ht⟩ := ht'
    show Ex G d mX11_nests 43 [(0, .ref a0), (1, .int x1)] [.int v9] h6 Q
    exact x_ret (ty := .int) rfl rfl dX11_nests_43 ht
  replace ht := ht.2 c1
  refine y_tcase (x := x1) 1 44 dX11_nests_1 (by decide) (by decide) rfl (by decide) (fun c10 => ?_) (fun c10 => ?_)
  · replace ht := ht.1 c10
    refine x_aload_n (pc2 := 45) 0 (n := 0) (x := a0) rfl dX11_nests_44 rfl ?_
    obtain ⟨k11, ht⟩ := ht
    obtain ⟨q12, e13, ht⟩ := ht
    refine y_getR (pc2 := 48) (κ := 11) (k := 12) fl_X11_80 (by decide) (by decide) k11 rfl e13 dX11_nests_45 rfl ?_
    obtain ⟨k17, ht⟩ := ht
    refine x_callV (pc2 := 51) (As := []) (rest := []) (b := q12) mv_X6_freeCells ml_X11_265 k17 rfl rfl (Nat.le_of_ble_eq_true rfl) hd1 dX11_nests_48 rfl (ht.mono (fun r14 h15 p16 ht' => ?_))
    clear ht
    obtain ⟨v18, rfl, ht⟩ := ht'
    show Ex G d mX11_nests 51 [(0, .ref a0), (1, .int x1)] [.int v18] h15 Q
    exact x_ret (ty := .int) rfl rfl dX11_nests_51 ht
  replace ht := ht.2 c10
  refine y_tcase (x := x1) 2 52 dX11_nests_1 (by decide) (by decide) rfl (by decide) (fun c19 => ?_) (fun c19 => ?_)
  · replace ht := ht.1 c19
    refine x_aload_n (pc2 := 53) 0 (n := 0) (x := a0) rfl dX11_nests_52 rfl ?_
    obtain ⟨k20, ht⟩ := ht
    obtain ⟨q21, e22, ht⟩ := ht
    refine y_getR (pc2 := 56) (κ := 11) (k := 12) fl_X11_80 (by decide) (by decide) k20 rfl e22 dX11_nests_53 rfl ?_
    obtain ⟨k26, ht⟩ := ht
    refine x_callV (pc2 := 59) (As := []) (rest := []) (b := q21) mv_X6_innermostOfAll ml_X11_268 k26 rfl rfl (Nat.le_of_ble_eq_true rfl) hd1 dX11_nests_56 rfl (ht.mono (fun r23 h24 p25 ht' => ?_))
    clear ht
    obtain ⟨v27, rfl, ht⟩ := ht'
    show Ex G d mX11_nests 59 [(0, .ref a0), (1, .int x1)] [.int v27] h24 Q
    exact x_ret (ty := .int) rfl rfl dX11_nests_59 ht
  replace ht := ht.2 c19
  refine y_tcase (x := x1) 3 60 dX11_nests_1 (by decide) (by decide) rfl (by decide) (fun c28 => ?_) (fun c28 => ?_)
  · replace ht := ht.1 c28
    refine x_aload_n (pc2 := 61) 0 (n := 0) (x := a0) rfl dX11_nests_60 rfl ?_
    obtain ⟨k29, ht⟩ := ht
    obtain ⟨q30, e31, ht⟩ := ht
    refine y_getR (pc2 := 64) (κ := 11) (k := 12) fl_X11_80 (by decide) (by decide) k29 rfl e31 dX11_nests_61 rfl ?_
    obtain ⟨k32, ht⟩ := ht
    refine y_getI (pc2 := 67) (κ := 6) (k := 2) fl_X11_113 (by decide) (by decide) k32 rfl dX11_nests_64 rfl ?_
    refine y_if_ne (pc2 := 70) 74 dX11_nests_67 (by decide) rfl (fun c33 => ?_) (fun c33 => ?_)
    · replace ht := ht.1 c33
      refine x_aload_n (pc2 := 75) 0 (n := 0) (x := a0) rfl dX11_nests_74 rfl ?_
      refine y_getR (pc2 := 78) (κ := 11) (k := 12) fl_X11_80 (by decide) (by decide) k29 rfl e31 dX11_nests_75 rfl ?_
      refine x_aload_n (pc2 := 79) 0 (n := 0) (x := a0) rfl dX11_nests_78 rfl ?_
      refine y_getR (pc2 := 82) (κ := 11) (k := 12) fl_X11_80 (by decide) (by decide) k29 rfl e31 dX11_nests_79 rfl ?_
      refine x_callV (pc2 := 85) (As := []) (rest := [.ref q30]) (b := q30) mv_X6_innermostOfAll ml_X11_268 k32 rfl rfl (Nat.le_of_ble_eq_true rfl) hd1 dX11_nests_82 rfl (ht.mono (fun r34 h35 p36 ht' => ?_))
      clear ht
      obtain ⟨v37, rfl, ht⟩ := ht'
      show Ex G d mX11_nests 85 [(0, .ref a0), (1, .int x1)] [.int v37, .ref q30] h35 Q
      refine x_callV (pc2 := 88) (As := [.int v37]) (rest := []) (b := q30) mv_X6_coversOf ml_X11_271 (k32.up p36) rfl rfl (Nat.le_of_ble_eq_true rfl) hd1 dX11_nests_85 rfl (ht.mono (fun r38 h39 p40 ht' => ?_))
      clear ht
      obtain ⟨v41, rfl, ht⟩ := ht'
      show Ex G d mX11_nests 88 [(0, .ref a0), (1, .int x1)] [.int v41] h39 Q
      exact x_ret (ty := .int) rfl rfl dX11_nests_88 ht
    · replace ht := ht.2 c33
      refine x_iconst (pc2 := 71) (v := (-1)) (by decide) dX11_nests_70 rfl ?_
      refine x_goto 88 dX11_nests_71 (by decide) ?_
      exact x_ret (ty := .int) rfl rfl dX11_nests_88 ht
  replace ht := ht.2 c28
  refine y_tcase (x := x1) 4 89 dX11_nests_1 (by decide) (by decide) rfl (by decide) (fun c42 => ?_) (fun c42 => ?_)
  · replace ht := ht.1 c42
    refine x_aload_n (pc2 := 90) 0 (n := 0) (x := a0) rfl dX11_nests_89 rfl ?_
    obtain ⟨k43, ht⟩ := ht
    obtain ⟨q44, e45, ht⟩ := ht
    refine y_getR (pc2 := 93) (κ := 11) (k := 12) fl_X11_80 (by decide) (by decide) k43 rfl e45 dX11_nests_90 rfl ?_
    obtain ⟨k49, ht⟩ := ht
    refine x_callV (pc2 := 96) (As := []) (rest := []) (b := q44) mv_X6_wallless ml_X11_274 k49 rfl rfl (Nat.le_of_ble_eq_true rfl) hd1 dX11_nests_93 rfl (ht.mono (fun r46 h47 p48 ht' => ?_))
    clear ht
    obtain ⟨v50, rfl, ht⟩ := ht'
    show Ex G d mX11_nests 96 [(0, .ref a0), (1, .int x1)] [.int v50] h47 Q
    exact x_ret (ty := .int) rfl rfl dX11_nests_96 ht
  replace ht := ht.2 c42
  have wc1 := ne_ti (z := 0) rfl c1
  have wc10 := ne_ti (z := 1) rfl c10
  have wc19 := ne_ti (z := 2) rfl c19
  have wc28 := ne_ti (z := 3) rfl c28
  have wc42 := ne_ti (z := 4) rfl c42
  refine x_tableOut (x := x1) 97 dX11_nests_1 (by omega) (by decide) ?_
  refine x_iconst (pc2 := 98) (v := (-1)) (by decide) dX11_nests_97 rfl ?_
  exact x_ret (ty := .int) rfl rfl dX11_nests_98 ht
theorem e_X11_nests {G : GG} {d : Nat} {h : HP} {Q : Option Value → HP → Prop} {a0 : Nat} {x1 : Int32} (hd1 : 1 ≤ d) (ht : T_X11_nests G d h Q a0 x1) : Cal G d mX11_nests [.ref a0, .int x1] h Q := cal_of rfl (Nat.le_of_ble_eq_true rfl) (t_X11_nests hd1 ht)
def T_X11_between (G : GG) (d : Nat) (h : HP) (Q : Option Value → HP → Prop) (a0 : Nat) (x1 : Int32) (x2 : Int32) : Prop :=
  ((x1 = x2 → Q (some (.int (-1))) h) ∧ (¬ x1 = x2 → Kd G h a0 11 ∧ ∃ q3, hR h a0 12 = some q3 ∧ Kd G h q3 6 ∧ Cal G (d - 1) mX6_isThere [.ref q3, .int x1] h (fun r5 h6 => ∃ v9, r5 = some (.int v9) ∧ ((v9 = 0 → Q (some (.int (-1))) h6) ∧ (¬ v9 = 0 → ∃ q11, hR h6 a0 12 = some q11 ∧ Kd G h6 q11 6 ∧ Cal G (d - 1) mX6_isThere [.ref q11, .int x2] h6 (fun r13 h14 => ∃ v17, r13 = some (.int v17) ∧ ((v17 = 0 → Q (some (.int (-1))) h14) ∧ (¬ v17 = 0 → ∃ q19, hR h14 a0 12 = some q19 ∧ Kd G h14 q19 6 ∧ Cal G (d - 1) mX6_isOutermost [.ref q19, .int x1] h14 (fun r21 h22 => ∃ v25, r21 = some (.int v25) ∧ ((v25 = 0 → Q (some (.int (-1))) h22) ∧ (¬ v25 = 0 → ∃ q27, hR h22 a0 12 = some q27 ∧ Kd G h22 q27 6 ∧ Cal G (d - 1) mX6_isOutermost [.ref q27, .int x2] h22 (fun r29 h30 => ∃ v33, r29 = some (.int v33) ∧ ((¬ v33 = 0 → ∃ q35, hR h30 a0 12 = some q35 ∧ Kd G h30 q35 6 ∧ ∃ q38, hR h30 q35 7 = some q38 ∧ Kd G h30 q38 20 ∧ vp_in x1 (hN h30 q38) ∧ ∃ q42, hR h30 q38 x1.toNatClampNeg = some q42 ∧ vp_in x2 (hN h30 q38) ∧ ∃ q45, hR h30 q38 x2.toNatClampNeg = some q45 ∧ ∃ q47, hR h30 a0 8 = some q47 ∧ Kd G h30 q47 3 ∧ Cal G (d - 1) mX3_surround [.ref q47, .ref q42, .ref q45] h30 (fun r49 h50 => r49 = none ∧ ∃ q53, hR h50 a0 8 = some q53 ∧ Kd G h50 q53 3 ∧ Cal G (d - 1) mX3_spread [.ref q53, .int 1, .int 1, .int 1, .int 1] h50 (fun r55 h56 => r55 = none ∧ ∃ q59, hR h56 a0 12 = some q59 ∧ ∃ q61, hR h56 a0 8 = some q61 ∧ Kd G h56 q59 6 ∧ Cal G (d - 1) mX6_holds [.ref q59, .ref q61] h56 (fun r63 h64 => ∃ v67, r63 = some (.int v67) ∧ ((¬ v67 = 0 → ∃ q69, hR h64 a0 8 = some q69 ∧ Kd G h64 q69 3 ∧ Cal G (d - 1) mX3_area [.ref q69] h64 (fun r71 h72 => ∃ v75, r71 = some (.int v75) ∧ Kd G h72 q42 9 ∧ Cal G (d - 1) mX9_area [.ref q42] h72 (fun r76 h77 => ∃ v80, r76 = some (.int v80) ∧ Kd G h77 q45 9 ∧ Cal G (d - 1) mX9_area [.ref q45] h77 (fun r81 h82 => ∃ v85, r81 = some (.int v85) ∧ Q (some (.int ((v75 - v80) - v85))) h82)))) ∧ (v67 = 0 → Q (some (.int (-2))) h64)))))) ∧ (v33 = 0 → Q (some (.int (-1))) h30))))))))))))))
set_option maxRecDepth 20000 in
theorem t_X11_between {G : GG} {d : Nat} {h : HP} {Q : Option Value → HP → Prop} {a0 : Nat} {x1 : Int32} {x2 : Int32} (hd1 : 1 ≤ d) (ht : T_X11_between G d h Q a0 x1 x2) : Ex G d mX11_between 0 [(0, .ref a0), (1, .int x1), (2, .int x2)] [] h Q := by
  unfold T_X11_between at ht
  refine x_iload_n (pc2 := 1) 1 (n := 1) (x := x1) rfl dX11_between_0 rfl ?_
  refine x_iload_n (pc2 := 2) 2 (n := 2) (x := x2) rfl dX11_between_1 rfl ?_
  refine x_icmp_eq (pc2 := 5) 49 dX11_between_2 (by decide) rfl (fun c1 => ?_) (fun c1 => ?_)
  · replace ht := ht.1 c1
    refine x_iconst (pc2 := 50) (v := (-1)) (by decide) dX11_between_49 rfl ?_
    exact x_ret (ty := .int) rfl rfl dX11_between_50 ht
  · replace ht := ht.2 c1
    refine x_aload_n (pc2 := 6) 0 (n := 0) (x := a0) rfl dX11_between_5 rfl ?_
    obtain ⟨k2, ht⟩ := ht
    obtain ⟨q3, e4, ht⟩ := ht
    refine y_getR (pc2 := 9) (κ := 11) (k := 12) fl_X11_80 (by decide) (by decide) k2 rfl e4 dX11_between_6 rfl ?_
    refine x_iload_n (pc2 := 10) 1 (n := 1) (x := x1) rfl dX11_between_9 rfl ?_
    obtain ⟨k8, ht⟩ := ht
    refine x_callV (pc2 := 13) (As := [.int x1]) (rest := []) (b := q3) mv_X6_isThere ml_X11_204 k8 rfl rfl (Nat.le_of_ble_eq_true rfl) hd1 dX11_between_10 rfl (ht.mono (fun r5 h6 p7 ht' => ?_))
    clear ht
    obtain ⟨v9, rfl, ht⟩ := ht'
    show Ex G d mX11_between 13 [(0, .ref a0), (1, .int x1), (2, .int x2)] [.int v9] h6 Q
    refine x_if_eq (pc2 := 16) 49 dX11_between_13 (by decide) rfl (fun c10 => ?_) (fun c10 => ?_)
    · replace ht := ht.1 c10
      refine x_iconst (pc2 := 50) (v := (-1)) (by decide) dX11_between_49 rfl ?_
      exact x_ret (ty := .int) rfl rfl dX11_between_50 ht
    · replace ht := ht.2 c10
      refine x_aload_n (pc2 := 17) 0 (n := 0) (x := a0) rfl dX11_between_16 rfl ?_
      obtain ⟨q11, e12, ht⟩ := ht
      refine y_getR (pc2 := 20) (κ := 11) (k := 12) fl_X11_80 (by decide) (by decide) (k2.up p7) rfl e12 dX11_between_17 rfl ?_
      refine x_iload_n (pc2 := 21) 2 (n := 2) (x := x2) rfl dX11_between_20 rfl ?_
      obtain ⟨k16, ht⟩ := ht
      refine x_callV (pc2 := 24) (As := [.int x2]) (rest := []) (b := q11) mv_X6_isThere ml_X11_204 k16 rfl rfl (Nat.le_of_ble_eq_true rfl) hd1 dX11_between_21 rfl (ht.mono (fun r13 h14 p15 ht' => ?_))
      clear ht
      obtain ⟨v17, rfl, ht⟩ := ht'
      show Ex G d mX11_between 24 [(0, .ref a0), (1, .int x1), (2, .int x2)] [.int v17] h14 Q
      refine x_if_eq (pc2 := 27) 49 dX11_between_24 (by decide) rfl (fun c18 => ?_) (fun c18 => ?_)
      · replace ht := ht.1 c18
        refine x_iconst (pc2 := 50) (v := (-1)) (by decide) dX11_between_49 rfl ?_
        exact x_ret (ty := .int) rfl rfl dX11_between_50 ht
      · replace ht := ht.2 c18
        refine x_aload_n (pc2 := 28) 0 (n := 0) (x := a0) rfl dX11_between_27 rfl ?_
        obtain ⟨q19, e20, ht⟩ := ht
        refine y_getR (pc2 := 31) (κ := 11) (k := 12) fl_X11_80 (by decide) (by decide) ((k2.up p7).up p15) rfl e20 dX11_between_28 rfl ?_
        refine x_iload_n (pc2 := 32) 1 (n := 1) (x := x1) rfl dX11_between_31 rfl ?_
        obtain ⟨k24, ht⟩ := ht
        refine x_callV (pc2 := 35) (As := [.int x1]) (rest := []) (b := q19) mv_X6_isOutermost ml_X11_277 k24 rfl rfl (Nat.le_of_ble_eq_true rfl) hd1 dX11_between_32 rfl (ht.mono (fun r21 h22 p23 ht' => ?_))
        clear ht
        obtain ⟨v25, rfl, ht⟩ := ht'
        show Ex G d mX11_between 35 [(0, .ref a0), (1, .int x1), (2, .int x2)] [.int v25] h22 Q
        refine x_if_eq (pc2 := 38) 49 dX11_between_35 (by decide) rfl (fun c26 => ?_) (fun c26 => ?_)
        · replace ht := ht.1 c26
          refine x_iconst (pc2 := 50) (v := (-1)) (by decide) dX11_between_49 rfl ?_
          exact x_ret (ty := .int) rfl rfl dX11_between_50 ht
        · replace ht := ht.2 c26
          refine x_aload_n (pc2 := 39) 0 (n := 0) (x := a0) rfl dX11_between_38 rfl ?_
          obtain ⟨q27, e28, ht⟩ := ht
          refine y_getR (pc2 := 42) (κ := 11) (k := 12) fl_X11_80 (by decide) (by decide) (((k2.up p7).up p15).up p23) rfl e28 dX11_between_39 rfl ?_
          refine x_iload_n (pc2 := 43) 2 (n := 2) (x := x2) rfl dX11_between_42 rfl ?_
          obtain ⟨k32, ht⟩ := ht
          refine x_callV (pc2 := 46) (As := [.int x2]) (rest := []) (b := q27) mv_X6_isOutermost ml_X11_277 k32 rfl rfl (Nat.le_of_ble_eq_true rfl) hd1 dX11_between_43 rfl (ht.mono (fun r29 h30 p31 ht' => ?_))
          clear ht
          obtain ⟨v33, rfl, ht⟩ := ht'
          show Ex G d mX11_between 46 [(0, .ref a0), (1, .int x1), (2, .int x2)] [.int v33] h30 Q
          refine y_if_ne (pc2 := 49) 51 dX11_between_46 (by decide) rfl (fun c34 => ?_) (fun c34 => ?_)
          · replace ht := ht.1 c34
            refine x_aload_n (pc2 := 52) 0 (n := 0) (x := a0) rfl dX11_between_51 rfl ?_
            obtain ⟨q35, e36, ht⟩ := ht
            refine y_getR (pc2 := 55) (κ := 11) (k := 12) fl_X11_80 (by decide) (by decide) ((((k2.up p7).up p15).up p23).up p31) rfl e36 dX11_between_52 rfl ?_
            obtain ⟨k37, ht⟩ := ht
            obtain ⟨q38, e39, ht⟩ := ht
            refine y_getR (pc2 := 58) (κ := 6) (k := 7) fl_X11_182 (by decide) (by decide) k37 rfl e39 dX11_between_55 rfl ?_
            refine x_iload_n (pc2 := 59) 1 (n := 1) (x := x1) rfl dX11_between_58 rfl ?_
            obtain ⟨k40, ht⟩ := ht
            obtain ⟨b41, ht⟩ := ht
            obtain ⟨q42, e43, ht⟩ := ht
            refine y_aaldR (pc2 := 60) (κ := 20) (by decide) k40 b41 e43 dX11_between_59 rfl ?_
            refine x_astore_n (pc2 := 61) [1, 2, 3, 0] (n := 3) (x := q42) (lv2 := [(0, .ref a0), (1, .int x1), (2, .int x2), (3, .ref q42)]) (by decide) rfl dX11_between_60 rfl ?_
            refine x_aload_n (pc2 := 62) 0 (n := 0) (x := a0) rfl dX11_between_61 rfl ?_
            refine y_getR (pc2 := 65) (κ := 11) (k := 12) fl_X11_80 (by decide) (by decide) ((((k2.up p7).up p15).up p23).up p31) rfl e36 dX11_between_62 rfl ?_
            refine y_getR (pc2 := 68) (κ := 6) (k := 7) fl_X11_182 (by decide) (by decide) k37 rfl e39 dX11_between_65 rfl ?_
            refine x_iload_n (pc2 := 69) 2 (n := 2) (x := x2) rfl dX11_between_68 rfl ?_
            obtain ⟨b44, ht⟩ := ht
            obtain ⟨q45, e46, ht⟩ := ht
            refine y_aaldR (pc2 := 70) (κ := 20) (by decide) k40 b44 e46 dX11_between_69 rfl ?_
            refine x_astore (pc2 := 72) [1, 2, 3, 4, 0] (n := 4) (x := q45) (lv2 := [(0, .ref a0), (1, .int x1), (2, .int x2), (3, .ref q42), (4, .ref q45)]) (by decide) rfl dX11_between_70 rfl ?_
            refine x_aload_n (pc2 := 73) 0 (n := 0) (x := a0) rfl dX11_between_72 rfl ?_
            obtain ⟨q47, e48, ht⟩ := ht
            refine y_getR (pc2 := 76) (κ := 11) (k := 8) fl_X11_62 (by decide) (by decide) ((((k2.up p7).up p15).up p23).up p31) rfl e48 dX11_between_73 rfl ?_
            refine x_aload_n (pc2 := 77) 3 (n := 3) (x := q42) rfl dX11_between_76 rfl ?_
            refine x_aload (pc2 := 79) 4 (n := 4) (x := q45) rfl dX11_between_77 rfl ?_
            obtain ⟨k52, ht⟩ := ht
            refine x_callV (pc2 := 82) (As := [.ref q42, .ref q45]) (rest := []) (b := q47) mv_X3_surround ml_X11_280 k52 rfl rfl (Nat.le_of_ble_eq_true rfl) hd1 dX11_between_79 rfl (ht.mono (fun r49 h50 p51 ht' => ?_))
            clear ht
            obtain ⟨rfl, ht⟩ := ht'
            show Ex G d mX11_between 82 [(0, .ref a0), (1, .int x1), (2, .int x2), (3, .ref q42), (4, .ref q45)] [] h50 Q
            refine x_aload_n (pc2 := 83) 0 (n := 0) (x := a0) rfl dX11_between_82 rfl ?_
            obtain ⟨q53, e54, ht⟩ := ht
            refine y_getR (pc2 := 86) (κ := 11) (k := 8) fl_X11_62 (by decide) (by decide) (((((k2.up p7).up p15).up p23).up p31).up p51) rfl e54 dX11_between_83 rfl ?_
            refine x_iconst (pc2 := 87) (v := 1) (by decide) dX11_between_86 rfl ?_
            refine x_iconst (pc2 := 88) (v := 1) (by decide) dX11_between_87 rfl ?_
            refine x_iconst (pc2 := 89) (v := 1) (by decide) dX11_between_88 rfl ?_
            refine x_iconst (pc2 := 90) (v := 1) (by decide) dX11_between_89 rfl ?_
            obtain ⟨k58, ht⟩ := ht
            refine x_callV (pc2 := 93) (As := [.int 1, .int 1, .int 1, .int 1]) (rest := []) (b := q53) mv_X3_spread ml_X11_284 k58 rfl rfl (Nat.le_of_ble_eq_true rfl) hd1 dX11_between_90 rfl (ht.mono (fun r55 h56 p57 ht' => ?_))
            clear ht
            obtain ⟨rfl, ht⟩ := ht'
            show Ex G d mX11_between 93 [(0, .ref a0), (1, .int x1), (2, .int x2), (3, .ref q42), (4, .ref q45)] [] h56 Q
            refine x_aload_n (pc2 := 94) 0 (n := 0) (x := a0) rfl dX11_between_93 rfl ?_
            obtain ⟨q59, e60, ht⟩ := ht
            refine y_getR (pc2 := 97) (κ := 11) (k := 12) fl_X11_80 (by decide) (by decide) ((((((k2.up p7).up p15).up p23).up p31).up p51).up p57) rfl e60 dX11_between_94 rfl ?_
            refine x_aload_n (pc2 := 98) 0 (n := 0) (x := a0) rfl dX11_between_97 rfl ?_
            obtain ⟨q61, e62, ht⟩ := ht
            refine y_getR (pc2 := 101) (κ := 11) (k := 8) fl_X11_62 (by decide) (by decide) ((((((k2.up p7).up p15).up p23).up p31).up p51).up p57) rfl e62 dX11_between_98 rfl ?_
            obtain ⟨k66, ht⟩ := ht
            refine x_callV (pc2 := 104) (As := [.ref q61]) (rest := []) (b := q59) mv_X6_holds ml_X11_288 k66 rfl rfl (Nat.le_of_ble_eq_true rfl) hd1 dX11_between_101 rfl (ht.mono (fun r63 h64 p65 ht' => ?_))
            clear ht
            obtain ⟨v67, rfl, ht⟩ := ht'
            show Ex G d mX11_between 104 [(0, .ref a0), (1, .int x1), (2, .int x2), (3, .ref q42), (4, .ref q45)] [.int v67] h64 Q
            refine y_if_ne (pc2 := 107) 110 dX11_between_104 (by decide) rfl (fun c68 => ?_) (fun c68 => ?_)
            · replace ht := ht.1 c68
              refine x_aload_n (pc2 := 111) 0 (n := 0) (x := a0) rfl dX11_between_110 rfl ?_
              obtain ⟨q69, e70, ht⟩ := ht
              refine y_getR (pc2 := 114) (κ := 11) (k := 8) fl_X11_62 (by decide) (by decide) (((((((k2.up p7).up p15).up p23).up p31).up p51).up p57).up p65) rfl e70 dX11_between_111 rfl ?_
              obtain ⟨k74, ht⟩ := ht
              refine x_callV (pc2 := 117) (As := []) (rest := []) (b := q69) mv_X3_area ml_X11_291 k74 rfl rfl (Nat.le_of_ble_eq_true rfl) hd1 dX11_between_114 rfl (ht.mono (fun r71 h72 p73 ht' => ?_))
              clear ht
              obtain ⟨v75, rfl, ht⟩ := ht'
              show Ex G d mX11_between 117 [(0, .ref a0), (1, .int x1), (2, .int x2), (3, .ref q42), (4, .ref q45)] [.int v75] h72 Q
              refine x_aload_n (pc2 := 118) 3 (n := 3) (x := q42) rfl dX11_between_117 rfl ?_
              obtain ⟨k79, ht⟩ := ht
              refine x_callV (pc2 := 121) (As := []) (rest := [.int v75]) (b := q42) mv_X9_area ml_X11_234 k79 rfl rfl (Nat.le_of_ble_eq_true rfl) hd1 dX11_between_118 rfl (ht.mono (fun r76 h77 p78 ht' => ?_))
              clear ht
              obtain ⟨v80, rfl, ht⟩ := ht'
              show Ex G d mX11_between 121 [(0, .ref a0), (1, .int x1), (2, .int x2), (3, .ref q42), (4, .ref q45)] [.int v80, .int v75] h77 Q
              refine x_isub (pc2 := 122) dX11_between_121 rfl ?_
              refine x_aload (pc2 := 124) 4 (n := 4) (x := q45) rfl dX11_between_122 rfl ?_
              obtain ⟨k84, ht⟩ := ht
              refine x_callV (pc2 := 127) (As := []) (rest := [.int (v75 - v80)]) (b := q45) mv_X9_area ml_X11_234 k84 rfl rfl (Nat.le_of_ble_eq_true rfl) hd1 dX11_between_124 rfl (ht.mono (fun r81 h82 p83 ht' => ?_))
              clear ht
              obtain ⟨v85, rfl, ht⟩ := ht'
              show Ex G d mX11_between 127 [(0, .ref a0), (1, .int x1), (2, .int x2), (3, .ref q42), (4, .ref q45)] [.int v85, .int (v75 - v80)] h82 Q
              refine x_isub (pc2 := 128) dX11_between_127 rfl ?_
              exact x_ret (ty := .int) rfl rfl dX11_between_128 ht
            · replace ht := ht.2 c68
              refine x_bipush (pc2 := 109) (v := (-2)) (by decide) dX11_between_107 rfl ?_
              exact x_ret (ty := .int) rfl rfl dX11_between_109 ht
          · replace ht := ht.2 c34
            refine x_iconst (pc2 := 50) (v := (-1)) (by decide) dX11_between_49 rfl ?_
            exact x_ret (ty := .int) rfl rfl dX11_between_50 ht
theorem e_X11_between {G : GG} {d : Nat} {h : HP} {Q : Option Value → HP → Prop} {a0 : Nat} {x1 : Int32} {x2 : Int32} (hd1 : 1 ≤ d) (ht : T_X11_between G d h Q a0 x1 x2) : Cal G d mX11_between [.ref a0, .int x1, .int x2] h Q := cal_of rfl (Nat.le_of_ble_eq_true rfl) (t_X11_between hd1 ht)
def T_X11_count (G : GG) (d : Nat) (h : HP) (Q : Option Value → HP → Prop) (a0 : Nat) (x1 : Int32) : Prop :=
  ((x1 = 0 → Kd G h a0 11 ∧ ∃ q3, hR h a0 12 = some q3 ∧ Kd G h q3 6 ∧ Q (some (.int (hI h q3 0))) h) ∧ (¬ x1 = 0 → ((x1 = 1 → Kd G h a0 11 ∧ ∃ q8, hR h a0 12 = some q8 ∧ Kd G h q8 6 ∧ Q (some (.int (hI h q8 1))) h) ∧ (¬ x1 = 1 → ((x1 = 2 → Kd G h a0 11 ∧ ∃ q13, hR h a0 12 = some q13 ∧ Kd G h q13 6 ∧ Q (some (.int (hI h q13 2))) h) ∧ (¬ x1 = 2 → ((x1 = 3 → Kd G h a0 11 ∧ ∃ q18, hR h a0 12 = some q18 ∧ Kd G h q18 6 ∧ Cal G (d - 1) mX6_wallCount [.ref q18] h (fun r20 h21 => ∃ v24, r20 = some (.int v24) ∧ Q (some (.int v24)) h21)) ∧ (¬ x1 = 3 → ((x1 = 4 → Kd G h a0 11 ∧ ∃ q27, hR h a0 12 = some q27 ∧ Kd G h q27 6 ∧ Q (some (.int (hI h q27 3))) h) ∧ (¬ x1 = 4 → ((x1 = 5 → Kd G h a0 11 ∧ ∃ q32, hR h a0 12 = some q32 ∧ Kd G h q32 6 ∧ Q (some (.int (hI h q32 4))) h) ∧ (¬ x1 = 5 → ((x1 = 6 → Kd G h a0 11 ∧ Q (some (.int (hI h a0 14))) h) ∧ (¬ x1 = 6 → ((x1 = 7 → Kd G h a0 11 ∧ Q (some (.int (hI h a0 15))) h) ∧ (¬ x1 = 7 → ((x1 = 8 → Kd G h a0 11 ∧ ∃ q41, hR h a0 0 = some q41 ∧ Kd G h q41 8 ∧ Q (some (.int (hI h q41 0))) h) ∧ (¬ x1 = 8 → Q (some (.int (-1))) h))))))))))))))))))
set_option maxRecDepth 20000 in
theorem t_X11_count {G : GG} {d : Nat} {h : HP} {Q : Option Value → HP → Prop} {a0 : Nat} {x1 : Int32} (hd1 : 1 ≤ d) (ht : T_X11_count G d h Q a0 x1) : Ex G d mX11_count 0 [(0, .ref a0), (1, .int x1)] [] h Q := by
  unfold T_X11_count at ht
  refine x_iload_n (pc2 := 1) 1 (n := 1) (x := x1) rfl dX11_count_0 rfl ?_
  refine y_tcase (x := x1) 0 52 dX11_count_1 (by decide) (by decide) rfl (by decide) (fun c1 => ?_) (fun c1 => ?_)
  · replace ht := ht.1 c1
    refine x_aload_n (pc2 := 53) 0 (n := 0) (x := a0) rfl dX11_count_52 rfl ?_
    obtain ⟨k2, ht⟩ := ht
    obtain ⟨q3, e4, ht⟩ := ht
    refine y_getR (pc2 := 56) (κ := 11) (k := 12) fl_X11_80 (by decide) (by decide) k2 rfl e4 dX11_count_53 rfl ?_
    obtain ⟨k5, ht⟩ := ht
    refine y_getI (pc2 := 59) (κ := 6) (k := 0) fl_X11_292 (by decide) (by decide) k5 rfl dX11_count_56 rfl ?_
    exact x_ret (ty := .int) rfl rfl dX11_count_59 ht
  replace ht := ht.2 c1
  refine y_tcase (x := x1) 1 60 dX11_count_1 (by decide) (by decide) rfl (by decide) (fun c6 => ?_) (fun c6 => ?_)
  · replace ht := ht.1 c6
    refine x_aload_n (pc2 := 61) 0 (n := 0) (x := a0) rfl dX11_count_60 rfl ?_
    obtain ⟨k7, ht⟩ := ht
    obtain ⟨q8, e9, ht⟩ := ht
    refine y_getR (pc2 := 64) (κ := 11) (k := 12) fl_X11_80 (by decide) (by decide) k7 rfl e9 dX11_count_61 rfl ?_
    obtain ⟨k10, ht⟩ := ht
    refine y_getI (pc2 := 67) (κ := 6) (k := 1) fl_X11_295 (by decide) (by decide) k10 rfl dX11_count_64 rfl ?_
    exact x_ret (ty := .int) rfl rfl dX11_count_67 ht
  replace ht := ht.2 c6
  refine y_tcase (x := x1) 2 68 dX11_count_1 (by decide) (by decide) rfl (by decide) (fun c11 => ?_) (fun c11 => ?_)
  · replace ht := ht.1 c11
    refine x_aload_n (pc2 := 69) 0 (n := 0) (x := a0) rfl dX11_count_68 rfl ?_
    obtain ⟨k12, ht⟩ := ht
    obtain ⟨q13, e14, ht⟩ := ht
    refine y_getR (pc2 := 72) (κ := 11) (k := 12) fl_X11_80 (by decide) (by decide) k12 rfl e14 dX11_count_69 rfl ?_
    obtain ⟨k15, ht⟩ := ht
    refine y_getI (pc2 := 75) (κ := 6) (k := 2) fl_X11_113 (by decide) (by decide) k15 rfl dX11_count_72 rfl ?_
    exact x_ret (ty := .int) rfl rfl dX11_count_75 ht
  replace ht := ht.2 c11
  refine y_tcase (x := x1) 3 76 dX11_count_1 (by decide) (by decide) rfl (by decide) (fun c16 => ?_) (fun c16 => ?_)
  · replace ht := ht.1 c16
    refine x_aload_n (pc2 := 77) 0 (n := 0) (x := a0) rfl dX11_count_76 rfl ?_
    obtain ⟨k17, ht⟩ := ht
    obtain ⟨q18, e19, ht⟩ := ht
    refine y_getR (pc2 := 80) (κ := 11) (k := 12) fl_X11_80 (by decide) (by decide) k17 rfl e19 dX11_count_77 rfl ?_
    obtain ⟨k23, ht⟩ := ht
    refine x_callV (pc2 := 83) (As := []) (rest := []) (b := q18) mv_X6_wallCount ml_X11_298 k23 rfl rfl (Nat.le_of_ble_eq_true rfl) hd1 dX11_count_80 rfl (ht.mono (fun r20 h21 p22 ht' => ?_))
    clear ht
    obtain ⟨v24, rfl, ht⟩ := ht'
    show Ex G d mX11_count 83 [(0, .ref a0), (1, .int x1)] [.int v24] h21 Q
    exact x_ret (ty := .int) rfl rfl dX11_count_83 ht
  replace ht := ht.2 c16
  refine y_tcase (x := x1) 4 84 dX11_count_1 (by decide) (by decide) rfl (by decide) (fun c25 => ?_) (fun c25 => ?_)
  · replace ht := ht.1 c25
    refine x_aload_n (pc2 := 85) 0 (n := 0) (x := a0) rfl dX11_count_84 rfl ?_
    obtain ⟨k26, ht⟩ := ht
    obtain ⟨q27, e28, ht⟩ := ht
    refine y_getR (pc2 := 88) (κ := 11) (k := 12) fl_X11_80 (by decide) (by decide) k26 rfl e28 dX11_count_85 rfl ?_
    obtain ⟨k29, ht⟩ := ht
    refine y_getI (pc2 := 91) (κ := 6) (k := 3) fl_X11_301 (by decide) (by decide) k29 rfl dX11_count_88 rfl ?_
    exact x_ret (ty := .int) rfl rfl dX11_count_91 ht
  replace ht := ht.2 c25
  refine y_tcase (x := x1) 5 92 dX11_count_1 (by decide) (by decide) rfl (by decide) (fun c30 => ?_) (fun c30 => ?_)
  · replace ht := ht.1 c30
    refine x_aload_n (pc2 := 93) 0 (n := 0) (x := a0) rfl dX11_count_92 rfl ?_
    obtain ⟨k31, ht⟩ := ht
    obtain ⟨q32, e33, ht⟩ := ht
    refine y_getR (pc2 := 96) (κ := 11) (k := 12) fl_X11_80 (by decide) (by decide) k31 rfl e33 dX11_count_93 rfl ?_
    obtain ⟨k34, ht⟩ := ht
    refine y_getI (pc2 := 99) (κ := 6) (k := 4) fl_X11_304 (by decide) (by decide) k34 rfl dX11_count_96 rfl ?_
    exact x_ret (ty := .int) rfl rfl dX11_count_99 ht
  replace ht := ht.2 c30
  refine y_tcase (x := x1) 6 100 dX11_count_1 (by decide) (by decide) rfl (by decide) (fun c35 => ?_) (fun c35 => ?_)
  · replace ht := ht.1 c35
    refine x_aload_n (pc2 := 101) 0 (n := 0) (x := a0) rfl dX11_count_100 rfl ?_
    obtain ⟨k36, ht⟩ := ht
    refine y_getI (pc2 := 104) (κ := 11) (k := 14) fl_X11_116 (by decide) (by decide) k36 rfl dX11_count_101 rfl ?_
    exact x_ret (ty := .int) rfl rfl dX11_count_104 ht
  replace ht := ht.2 c35
  refine y_tcase (x := x1) 7 105 dX11_count_1 (by decide) (by decide) rfl (by decide) (fun c37 => ?_) (fun c37 => ?_)
  · replace ht := ht.1 c37
    refine x_aload_n (pc2 := 106) 0 (n := 0) (x := a0) rfl dX11_count_105 rfl ?_
    obtain ⟨k38, ht⟩ := ht
    refine y_getI (pc2 := 109) (κ := 11) (k := 15) fl_X11_122 (by decide) (by decide) k38 rfl dX11_count_106 rfl ?_
    exact x_ret (ty := .int) rfl rfl dX11_count_109 ht
  replace ht := ht.2 c37
  refine y_tcase (x := x1) 8 110 dX11_count_1 (by decide) (by decide) rfl (by decide) (fun c39 => ?_) (fun c39 => ?_)
  · replace ht := ht.1 c39
    refine x_aload_n (pc2 := 111) 0 (n := 0) (x := a0) rfl dX11_count_110 rfl ?_
    obtain ⟨k40, ht⟩ := ht
    obtain ⟨q41, e42, ht⟩ := ht
    refine y_getR (pc2 := 114) (κ := 11) (k := 0) fl_X11_12 (by decide) (by decide) k40 rfl e42 dX11_count_111 rfl ?_
    obtain ⟨k43, ht⟩ := ht
    refine y_getI (pc2 := 117) (κ := 8) (k := 0) fl_X11_95 (by decide) (by decide) k43 rfl dX11_count_114 rfl ?_
    exact x_ret (ty := .int) rfl rfl dX11_count_117 ht
  replace ht := ht.2 c39
  have wc1 := ne_ti (z := 0) rfl c1
  have wc6 := ne_ti (z := 1) rfl c6
  have wc11 := ne_ti (z := 2) rfl c11
  have wc16 := ne_ti (z := 3) rfl c16
  have wc25 := ne_ti (z := 4) rfl c25
  have wc30 := ne_ti (z := 5) rfl c30
  have wc35 := ne_ti (z := 6) rfl c35
  have wc37 := ne_ti (z := 7) rfl c37
  have wc39 := ne_ti (z := 8) rfl c39
  refine x_tableOut (x := x1) 118 dX11_count_1 (by omega) (by decide) ?_
  refine x_iconst (pc2 := 119) (v := (-1)) (by decide) dX11_count_118 rfl ?_
  exact x_ret (ty := .int) rfl rfl dX11_count_119 ht
theorem e_X11_count {G : GG} {d : Nat} {h : HP} {Q : Option Value → HP → Prop} {a0 : Nat} {x1 : Int32} (hd1 : 1 ≤ d) (ht : T_X11_count G d h Q a0 x1) : Cal G d mX11_count [.ref a0, .int x1] h Q := cal_of rfl (Nat.le_of_ble_eq_true rfl) (t_X11_count hd1 ht)
def T_X11_fits (G : GG) (d : Nat) (h : HP) (Q : Option Value → HP → Prop) (a0 : Nat) (a1 : Nat) : Prop :=
  Kd G h a0 11 ∧ ∃ q2, hR h a0 12 = some q2 ∧ Kd G h q2 6 ∧ Cal G (d - 1) mX6_holds [.ref q2, .ref a1] h (fun r4 h5 => ∃ v8, r4 = some (.int v8) ∧ ((v8 = 0 → Q (some (.int 0)) h5) ∧ (¬ v8 = 0 → ∃ q10, hR h5 a0 12 = some q10 ∧ Kd G h5 a1 3 ∧ Kd G h5 q10 6 ∧ Cal G (d - 1) mX6_isOutermost [.ref q10, .int (hI h5 a1 5)] h5 (fun r13 h14 => ∃ v17, r13 = some (.int v17) ∧ ((¬ v17 = 0 → ∃ q19, hR h14 a0 12 = some q19 ∧ Kd G h14 q19 6 ∧ ∃ q22, hR h14 q19 7 = some q22 ∧ Kd G h14 q22 20 ∧ vp_in (hI h14 a1 5) (hN h14 q22) ∧ ∃ q26, hR h14 q22 (hI h14 a1 5).toNatClampNeg = some q26 ∧ Cal G (d - 1) mX3_gapTo [.ref a1, .ref q26] h14 (fun r28 h29 => ∃ v31, r28 = some (.int v31) ∧ (((hI (sI h29 a1 8 v31) a1 6) = (-1) → (((hI (sI h29 a1 8 v31) a1 8) < 0 → Q (some (.int 0)) (sI h29 a1 8 v31)) ∧ (¬ (hI (sI h29 a1 8 v31) a1 8) < 0 → Q (some (.int 1)) (sI h29 a1 8 v31)))) ∧ (¬ (hI (sI h29 a1 8 v31) a1 6) = (-1) → (((hI (sI h29 a1 8 v31) a1 6) = (hI (sI h29 a1 8 v31) a1 5) → Q (some (.int 0)) (sI h29 a1 8 v31)) ∧ (¬ (hI (sI h29 a1 8 v31) a1 6) = (hI (sI h29 a1 8 v31) a1 5) → ∃ q35, hR (sI h29 a1 8 v31) a0 12 = some q35 ∧ Kd G (sI h29 a1 8 v31) q35 6 ∧ Cal G (d - 1) mX6_isOutermost [.ref q35, .int (hI (sI h29 a1 8 v31) a1 6)] (sI h29 a1 8 v31) (fun r37 h38 => ∃ v41, r37 = some (.int v41) ∧ ((¬ v41 = 0 → ∃ q43, hR h38 a0 12 = some q43 ∧ Kd G h38 q43 6 ∧ ∃ q46, hR h38 q43 7 = some q46 ∧ Kd G h38 q46 20 ∧ vp_in (hI h38 a1 6) (hN h38 q46) ∧ ∃ q50, hR h38 q46 (hI h38 a1 6).toNatClampNeg = some q50 ∧ Cal G (d - 1) mX3_gapTo [.ref a1, .ref q50] h38 (fun r52 h53 => ∃ v55, r52 = some (.int v55) ∧ (((hI (sI h53 a1 8 (mnI (hI h38 a1 8) v55)) a1 8) < 0 → Q (some (.int 0)) (sI h53 a1 8 (mnI (hI h38 a1 8) v55))) ∧ (¬ (hI (sI h53 a1 8 (mnI (hI h38 a1 8) v55)) a1 8) < 0 → Q (some (.int 1)) (sI h53 a1 8 (mnI (hI h38 a1 8) v55)))))) ∧ (v41 = 0 → Q (some (.int 0)) h38))))))))) ∧ (v17 = 0 → Q (some (.int 0)) h14))))))
set_option maxRecDepth 20000 in
theorem t_X11_fits {G : GG} {d : Nat} {h : HP} {Q : Option Value → HP → Prop} {a0 : Nat} {a1 : Nat} (hd1 : 1 ≤ d) (ht : T_X11_fits G d h Q a0 a1) : Ex G d mX11_fits 0 [(0, .ref a0), (1, .ref a1)] [] h Q := by
  unfold T_X11_fits at ht
  refine x_aload_n (pc2 := 1) 0 (n := 0) (x := a0) rfl dX11_fits_0 rfl ?_
  obtain ⟨k1, ht⟩ := ht
  obtain ⟨q2, e3, ht⟩ := ht
  refine y_getR (pc2 := 4) (κ := 11) (k := 12) fl_X11_80 (by decide) (by decide) k1 rfl e3 dX11_fits_1 rfl ?_
  refine x_aload_n (pc2 := 5) 1 (n := 1) (x := a1) rfl dX11_fits_4 rfl ?_
  obtain ⟨k7, ht⟩ := ht
  refine x_callV (pc2 := 8) (As := [.ref a1]) (rest := []) (b := q2) mv_X6_holds ml_X11_288 k7 rfl rfl (Nat.le_of_ble_eq_true rfl) hd1 dX11_fits_5 rfl (ht.mono (fun r4 h5 p6 ht' => ?_))
  clear ht
  obtain ⟨v8, rfl, ht⟩ := ht'
  show Ex G d mX11_fits 8 [(0, .ref a0), (1, .ref a1)] [.int v8] h5 Q
  refine x_if_eq (pc2 := 11) 25 dX11_fits_8 (by decide) rfl (fun c9 => ?_) (fun c9 => ?_)
  · replace ht := ht.1 c9
    refine x_iconst (pc2 := 26) (v := 0) (by decide) dX11_fits_25 rfl ?_
    exact x_retZ rfl (Or.inl rfl) dX11_fits_26 ht
  · replace ht := ht.2 c9
    refine x_aload_n (pc2 := 12) 0 (n := 0) (x := a0) rfl dX11_fits_11 rfl ?_
    obtain ⟨q10, e11, ht⟩ := ht
    refine y_getR (pc2 := 15) (κ := 11) (k := 12) fl_X11_80 (by decide) (by decide) (k1.up p6) rfl e11 dX11_fits_12 rfl ?_
    refine x_aload_n (pc2 := 16) 1 (n := 1) (x := a1) rfl dX11_fits_15 rfl ?_
    obtain ⟨k12, ht⟩ := ht
    refine y_getI (pc2 := 19) (κ := 3) (k := 5) fl_X11_307 (by decide) (by decide) k12 rfl dX11_fits_16 rfl ?_
    obtain ⟨k16, ht⟩ := ht
    refine x_callV (pc2 := 22) (As := [.int (hI h5 a1 5)]) (rest := []) (b := q10) mv_X6_isOutermost ml_X11_277 k16 rfl rfl (Nat.le_of_ble_eq_true rfl) hd1 dX11_fits_19 rfl (ht.mono (fun r13 h14 p15 ht' => ?_))
    clear ht
    obtain ⟨v17, rfl, ht⟩ := ht'
    show Ex G d mX11_fits 22 [(0, .ref a0), (1, .ref a1)] [.int v17] h14 Q
    refine y_if_ne (pc2 := 25) 27 dX11_fits_22 (by decide) rfl (fun c18 => ?_) (fun c18 => ?_)
    · replace ht := ht.1 c18
      refine x_aload_n (pc2 := 28) 1 (n := 1) (x := a1) rfl dX11_fits_27 rfl ?_
      refine x_aload_n (pc2 := 29) 1 (n := 1) (x := a1) rfl dX11_fits_28 rfl ?_
      refine x_aload_n (pc2 := 30) 0 (n := 0) (x := a0) rfl dX11_fits_29 rfl ?_
      obtain ⟨q19, e20, ht⟩ := ht
      refine y_getR (pc2 := 33) (κ := 11) (k := 12) fl_X11_80 (by decide) (by decide) ((k1.up p6).up p15) rfl e20 dX11_fits_30 rfl ?_
      obtain ⟨k21, ht⟩ := ht
      obtain ⟨q22, e23, ht⟩ := ht
      refine y_getR (pc2 := 36) (κ := 6) (k := 7) fl_X11_182 (by decide) (by decide) k21 rfl e23 dX11_fits_33 rfl ?_
      refine x_aload_n (pc2 := 37) 1 (n := 1) (x := a1) rfl dX11_fits_36 rfl ?_
      refine y_getI (pc2 := 40) (κ := 3) (k := 5) fl_X11_307 (by decide) (by decide) (k12.up p15) rfl dX11_fits_37 rfl ?_
      obtain ⟨k24, ht⟩ := ht
      obtain ⟨b25, ht⟩ := ht
      obtain ⟨q26, e27, ht⟩ := ht
      refine y_aaldR (pc2 := 41) (κ := 20) (by decide) k24 b25 e27 dX11_fits_40 rfl ?_
      refine x_callV (pc2 := 44) (As := [.ref q26]) (rest := [.ref a1]) (b := a1) mv_X3_gapTo ml_X11_310 (k12.up p15) rfl rfl (Nat.le_of_ble_eq_true rfl) hd1 dX11_fits_41 rfl (ht.mono (fun r28 h29 p30 ht' => ?_))
      clear ht
      obtain ⟨v31, rfl, ht⟩ := ht'
      show Ex G d mX11_fits 44 [(0, .ref a0), (1, .ref a1)] [.int v31, .ref a1] h29 Q
      refine x_putI (pc2 := 47) (κ := 3) (k := 8) fl_X11_314 (by decide) (by decide) (Or.inl rfl) rfl ((k12.up p15).up p30) dX11_fits_44 rfl ?_
      refine x_aload_n (pc2 := 48) 1 (n := 1) (x := a1) rfl dX11_fits_47 rfl ?_
      refine y_getI (pc2 := 51) (κ := 3) (k := 6) fl_X11_317 (by decide) (by decide) ((k12.up p15).up p30).sI rfl dX11_fits_48 rfl ?_
      refine x_iconst (pc2 := 52) (v := (-1)) (by decide) dX11_fits_51 rfl ?_
      refine x_icmp_eq (pc2 := 55) 109 dX11_fits_52 (by decide) rfl (fun c32 => ?_) (fun c32 => ?_)
      · replace ht := ht.1 c32
        refine x_aload_n (pc2 := 110) 1 (n := 1) (x := a1) rfl dX11_fits_109 rfl ?_
        refine y_getI (pc2 := 113) (κ := 3) (k := 8) fl_X11_314 (by decide) (by decide) ((k12.up p15).up p30).sI rfl dX11_fits_110 rfl ?_
        refine x_if_lt (pc2 := 116) 120 dX11_fits_113 (by decide) rfl (fun c33 => ?_) (fun c33 => ?_)
        · replace ht := ht.1 c33
          refine x_iconst (pc2 := 121) (v := 0) (by decide) dX11_fits_120 rfl ?_
          exact x_retZ rfl (Or.inl rfl) dX11_fits_121 ht
        · replace ht := ht.2 c33
          refine x_iconst (pc2 := 117) (v := 1) (by decide) dX11_fits_116 rfl ?_
          refine x_goto 121 dX11_fits_117 (by decide) ?_
          exact x_retZ rfl (Or.inr rfl) dX11_fits_121 ht
      · replace ht := ht.2 c32
        refine x_aload_n (pc2 := 56) 1 (n := 1) (x := a1) rfl dX11_fits_55 rfl ?_
        refine y_getI (pc2 := 59) (κ := 3) (k := 6) fl_X11_317 (by decide) (by decide) ((k12.up p15).up p30).sI rfl dX11_fits_56 rfl ?_
        refine x_aload_n (pc2 := 60) 1 (n := 1) (x := a1) rfl dX11_fits_59 rfl ?_
        refine y_getI (pc2 := 63) (κ := 3) (k := 5) fl_X11_307 (by decide) (by decide) ((k12.up p15).up p30).sI rfl dX11_fits_60 rfl ?_
        refine x_icmp_eq (pc2 := 66) 80 dX11_fits_63 (by decide) rfl (fun c34 => ?_) (fun c34 => ?_)
        · replace ht := ht.1 c34
          refine x_iconst (pc2 := 81) (v := 0) (by decide) dX11_fits_80 rfl ?_
          exact x_retZ rfl (Or.inl rfl) dX11_fits_81 ht
        · replace ht := ht.2 c34
          refine x_aload_n (pc2 := 67) 0 (n := 0) (x := a0) rfl dX11_fits_66 rfl ?_
          obtain ⟨q35, e36, ht⟩ := ht
          refine y_getR (pc2 := 70) (κ := 11) (k := 12) fl_X11_80 (by decide) (by decide) (((k1.up p6).up p15).up p30).sI rfl e36 dX11_fits_67 rfl ?_
          refine x_aload_n (pc2 := 71) 1 (n := 1) (x := a1) rfl dX11_fits_70 rfl ?_
          refine y_getI (pc2 := 74) (κ := 3) (k := 6) fl_X11_317 (by decide) (by decide) ((k12.up p15).up p30).sI rfl dX11_fits_71 rfl ?_
          obtain ⟨k40, ht⟩ := ht
          refine x_callV (pc2 := 77) (As := [.int (hI (sI h29 a1 8 v31) a1 6)]) (rest := []) (b := q35) mv_X6_isOutermost ml_X11_277 k40 rfl rfl (Nat.le_of_ble_eq_true rfl) hd1 dX11_fits_74 rfl (ht.mono (fun r37 h38 p39 ht' => ?_))
          clear ht
          obtain ⟨v41, rfl, ht⟩ := ht'
          show Ex G d mX11_fits 77 [(0, .ref a0), (1, .ref a1)] [.int v41] h38 Q
          refine y_if_ne (pc2 := 80) 82 dX11_fits_77 (by decide) rfl (fun c42 => ?_) (fun c42 => ?_)
          · replace ht := ht.1 c42
            refine x_aload_n (pc2 := 83) 1 (n := 1) (x := a1) rfl dX11_fits_82 rfl ?_
            refine x_aload_n (pc2 := 84) 1 (n := 1) (x := a1) rfl dX11_fits_83 rfl ?_
            refine y_getI (pc2 := 87) (κ := 3) (k := 8) fl_X11_314 (by decide) (by decide) (((k12.up p15).up p30).sI.up p39) rfl dX11_fits_84 rfl ?_
            refine x_aload_n (pc2 := 88) 1 (n := 1) (x := a1) rfl dX11_fits_87 rfl ?_
            refine x_aload_n (pc2 := 89) 0 (n := 0) (x := a0) rfl dX11_fits_88 rfl ?_
            obtain ⟨q43, e44, ht⟩ := ht
            refine y_getR (pc2 := 92) (κ := 11) (k := 12) fl_X11_80 (by decide) (by decide) ((((k1.up p6).up p15).up p30).sI.up p39) rfl e44 dX11_fits_89 rfl ?_
            obtain ⟨k45, ht⟩ := ht
            obtain ⟨q46, e47, ht⟩ := ht
            refine y_getR (pc2 := 95) (κ := 6) (k := 7) fl_X11_182 (by decide) (by decide) k45 rfl e47 dX11_fits_92 rfl ?_
            refine x_aload_n (pc2 := 96) 1 (n := 1) (x := a1) rfl dX11_fits_95 rfl ?_
            refine y_getI (pc2 := 99) (κ := 3) (k := 6) fl_X11_317 (by decide) (by decide) (((k12.up p15).up p30).sI.up p39) rfl dX11_fits_96 rfl ?_
            obtain ⟨k48, ht⟩ := ht
            obtain ⟨b49, ht⟩ := ht
            obtain ⟨q50, e51, ht⟩ := ht
            refine y_aaldR (pc2 := 100) (κ := 20) (by decide) k48 b49 e51 dX11_fits_99 rfl ?_
            refine x_callV (pc2 := 103) (As := [.ref q50]) (rest := [.int (hI h38 a1 8), .ref a1]) (b := a1) mv_X3_gapTo ml_X11_310 (((k12.up p15).up p30).sI.up p39) rfl rfl (Nat.le_of_ble_eq_true rfl) hd1 dX11_fits_100 rfl (ht.mono (fun r52 h53 p54 ht' => ?_))
            clear ht
            obtain ⟨v55, rfl, ht⟩ := ht'
            show Ex G d mX11_fits 103 [(0, .ref a0), (1, .ref a1)] [.int v55, .int (hI h38 a1 8), .ref a1] h53 Q
            refine x_mmin (pc2 := 106) ml_X11_320 hd1 (Nat.le_of_ble_eq_true rfl) dX11_fits_103 rfl ?_
            refine x_putI (pc2 := 109) (κ := 3) (k := 8) fl_X11_314 (by decide) (by decide) (Or.inl rfl) rfl ((((k12.up p15).up p30).sI.up p39).up p54) dX11_fits_106 rfl ?_
            refine x_aload_n (pc2 := 110) 1 (n := 1) (x := a1) rfl dX11_fits_109 rfl ?_
            refine y_getI (pc2 := 113) (κ := 3) (k := 8) fl_X11_314 (by decide) (by decide) ((((k12.up p15).up p30).sI.up p39).up p54).sI rfl dX11_fits_110 rfl ?_
            refine x_if_lt (pc2 := 116) 120 dX11_fits_113 (by decide) rfl (fun c56 => ?_) (fun c56 => ?_)
            · replace ht := ht.1 c56
              refine x_iconst (pc2 := 121) (v := 0) (by decide) dX11_fits_120 rfl ?_
              exact x_retZ rfl (Or.inl rfl) dX11_fits_121 ht
            · replace ht := ht.2 c56
              refine x_iconst (pc2 := 117) (v := 1) (by decide) dX11_fits_116 rfl ?_
              refine x_goto 121 dX11_fits_117 (by decide) ?_
              exact x_retZ rfl (Or.inr rfl) dX11_fits_121 ht
          · replace ht := ht.2 c42
            refine x_iconst (pc2 := 81) (v := 0) (by decide) dX11_fits_80 rfl ?_
            exact x_retZ rfl (Or.inl rfl) dX11_fits_81 ht
    · replace ht := ht.2 c18
      refine x_iconst (pc2 := 26) (v := 0) (by decide) dX11_fits_25 rfl ?_
      exact x_retZ rfl (Or.inl rfl) dX11_fits_26 ht
theorem e_X11_fits {G : GG} {d : Nat} {h : HP} {Q : Option Value → HP → Prop} {a0 : Nat} {a1 : Nat} (hd1 : 1 ≤ d) (ht : T_X11_fits G d h Q a0 a1) : Cal G d mX11_fits [.ref a0, .ref a1] h Q := cal_of rfl (Nat.le_of_ble_eq_true rfl) (t_X11_fits hd1 ht)
def T_X11_mayCome (G : GG) (d : Nat) (h : HP) (Q : Option Value → HP → Prop) (a0 : Nat) (a1 : Nat) (a2 : Nat) : Prop :=
  Kd G h a0 11 ∧ Cal G (d - 1) mX11_fits [.ref a0, .ref a2] h (fun r1 h2 => ∃ v5, r1 = some (.int v5) ∧ ((v5 = 0 → Q (some (.int 0)) h2) ∧ (¬ v5 = 0 → Kd G h2 a2 3 ∧ (((hI h2 a2 8) < 1 → Q (some (.int 0)) h2) ∧ (¬ (hI h2 a2 8) < 1 → (((hI h2 a2 6) = (-1) → Ex G d mX11_mayCome 33 [(0, .ref a0), (1, .ref a1), (2, .ref a2)] [] h2 Q) ∧ (¬ (hI h2 a2 6) = (-1) → Kd G h2 a1 4 ∧ ((¬ (hI h2 a1 0) = 0 → Ex G d mX11_mayCome 33 [(0, .ref a0), (1, .ref a1), (2, .ref a2)] [] h2 Q) ∧ ((hI h2 a1 0) = 0 → Q (some (.int 0)) h2)))))))))
set_option maxRecDepth 20000 in
theorem t_X11_mayCome {G : GG} {d : Nat} {h : HP} {Q : Option Value → HP → Prop} {a0 : Nat} {a1 : Nat} {a2 : Nat} (hd1 : 1 ≤ d) (ht : T_X11_mayCome G d h Q a0 a1 a2) : Ex G d mX11_mayCome 0 [(0, .ref a0), (1, .ref a1), (2, .ref a2)] [] h Q := by
  unfold T_X11_mayCome at ht
  refine x_aload_n (pc2 := 1) 0 (n := 0) (x := a0) rfl dX11_mayCome_0 rfl ?_
  refine x_aload_n (pc2 := 2) 2 (n := 2) (x := a2) rfl dX11_mayCome_1 rfl ?_
  obtain ⟨k4, ht⟩ := ht
  refine x_callV (pc2 := 5) (As := [.ref a2]) (rest := []) (b := a0) mv_X11_fits ml_X11_160 k4 rfl rfl (Nat.le_of_ble_eq_true rfl) hd1 dX11_mayCome_2 rfl (ht.mono (fun r1 h2 p3 ht' => ?_))
  clear ht
  obtain ⟨v5, rfl, ht⟩ := ht'
  show Ex G d mX11_mayCome 5 [(0, .ref a0), (1, .ref a1), (2, .ref a2)] [.int v5] h2 Q
  refine x_if_eq (pc2 := 8) 31 dX11_mayCome_5 (by decide) rfl (fun c6 => ?_) (fun c6 => ?_)
  · replace ht := ht.1 c6
    refine x_iconst (pc2 := 32) (v := 0) (by decide) dX11_mayCome_31 rfl ?_
    exact x_retZ rfl (Or.inl rfl) dX11_mayCome_32 ht
  · replace ht := ht.2 c6
    refine x_aload_n (pc2 := 9) 2 (n := 2) (x := a2) rfl dX11_mayCome_8 rfl ?_
    obtain ⟨k7, ht⟩ := ht
    refine y_getI (pc2 := 12) (κ := 3) (k := 8) fl_X11_314 (by decide) (by decide) k7 rfl dX11_mayCome_9 rfl ?_
    refine x_iconst (pc2 := 13) (v := 1) (by decide) dX11_mayCome_12 rfl ?_
    refine x_icmp_lt (pc2 := 16) 31 dX11_mayCome_13 (by decide) rfl (fun c8 => ?_) (fun c8 => ?_)
    · replace ht := ht.1 c8
      refine x_iconst (pc2 := 32) (v := 0) (by decide) dX11_mayCome_31 rfl ?_
      exact x_retZ rfl (Or.inl rfl) dX11_mayCome_32 ht
    · replace ht := ht.2 c8
      refine x_aload_n (pc2 := 17) 2 (n := 2) (x := a2) rfl dX11_mayCome_16 rfl ?_
      refine y_getI (pc2 := 20) (κ := 3) (k := 6) fl_X11_317 (by decide) (by decide) k7 rfl dX11_mayCome_17 rfl ?_
      refine x_iconst (pc2 := 21) (v := (-1)) (by decide) dX11_mayCome_20 rfl ?_
      refine x_icmp_eq (pc2 := 24) 33 dX11_mayCome_21 (by decide) rfl (fun c9 => ?_) (fun c9 => ?_)
      · replace ht := ht.1 c9
        exact ht
      · replace ht := ht.2 c9
        refine x_aload_n (pc2 := 25) 1 (n := 1) (x := a1) rfl dX11_mayCome_24 rfl ?_
        obtain ⟨k10, ht⟩ := ht
        refine y_getI (pc2 := 28) (κ := 4) (k := 0) fl_X11_325 (by decide) (by decide) k10 rfl dX11_mayCome_25 rfl ?_
        refine y_if_ne (pc2 := 31) 33 dX11_mayCome_28 (by decide) rfl (fun c11 => ?_) (fun c11 => ?_)
        · replace ht := ht.1 c11
          exact ht
        · replace ht := ht.2 c11
          refine x_iconst (pc2 := 32) (v := 0) (by decide) dX11_mayCome_31 rfl ?_
          exact x_retZ rfl (Or.inl rfl) dX11_mayCome_32 ht
theorem e_X11_mayCome {G : GG} {d : Nat} {h : HP} {Q : Option Value → HP → Prop} {a0 : Nat} {a1 : Nat} {a2 : Nat} (hd1 : 1 ≤ d) (ht : T_X11_mayCome G d h Q a0 a1 a2) : Cal G d mX11_mayCome [.ref a0, .ref a1, .ref a2] h Q := cal_of rfl (Nat.le_of_ble_eq_true rfl) (t_X11_mayCome hd1 ht)
def T_X11_mayCome_33 (G : GG) (d : Nat) (h : HP) (Q : Option Value → HP → Prop) (a0 : Nat) (a1 : Nat) (a2 : Nat) : Prop :=
  Kd G h a0 11 ∧ Cal G (d - 1) mX11_isClearOfOthers [.ref a0, .ref a2] h (fun r1 h2 => ∃ v5, r1 = some (.int v5) ∧ ((v5 = 0 → Q (some (.int 0)) h2) ∧ (¬ v5 = 0 → ∃ q7, hR h2 a0 6 = some q7 ∧ Kd G h2 q7 7 ∧ Cal G (d - 1) mX7_linesInRivers [.ref q7, .ref a2] h2 (fun r9 h10 => ∃ v13, r9 = some (.int v13) ∧ ((v13 = 0 → Cal G (d - 1) mX11_describe [.ref a0, .ref a2] h10 (fun r15 h16 => r15 = none ∧ Kd G h16 a2 3 ∧ ∃ q19, hR h16 a2 17 = some q19 ∧ Kd G h16 a1 4 ∧ Cal G (d - 1) mX4_distance [.ref a1, .ref q19] h16 (fun r21 h22 => ∃ v25, r21 = some (.int v25) ∧ (((hI h16 a2 8) < v25 → Q (some (.int 0)) h22) ∧ (¬ (hI h16 a2 8) < v25 → ∃ q27, hR h22 a2 17 = some q27 ∧ Cal G (d - 1) mX4_allows [.ref a1, .ref q27] h22 (fun r29 h30 => ∃ v32, r29 = some (.int v32) ∧ ((v32 = 0 → Q (some (.int 0)) h30) ∧ (¬ v32 = 0 → Q (some (.int 1)) h30)))))))) ∧ (¬ v13 = 0 → Q (some (.int 0)) h10))))))
set_option maxRecDepth 20000 in
theorem t_X11_mayCome_33 {G : GG} {d : Nat} {h : HP} {Q : Option Value → HP → Prop} {a0 : Nat} {a1 : Nat} {a2 : Nat} (hd1 : 1 ≤ d) (ht : T_X11_mayCome_33 G d h Q a0 a1 a2) : Ex G d mX11_mayCome 33 [(0, .ref a0), (1, .ref a1), (2, .ref a2)] [] h Q := by
  unfold T_X11_mayCome_33 at ht
  refine x_aload_n (pc2 := 34) 0 (n := 0) (x := a0) rfl dX11_mayCome_33 rfl ?_
  refine x_aload_n (pc2 := 35) 2 (n := 2) (x := a2) rfl dX11_mayCome_34 rfl ?_
  obtain ⟨k4, ht⟩ := ht
  refine x_callV (pc2 := 38) (As := [.ref a2]) (rest := []) (b := a0) mv_X11_isClearOfOthers ml_X11_328 k4 rfl rfl (Nat.le_of_ble_eq_true rfl) hd1 dX11_mayCome_35 rfl (ht.mono (fun r1 h2 p3 ht' => ?_))
  clear ht
  obtain ⟨v5, rfl, ht⟩ := ht'
  show Ex G d mX11_mayCome 38 [(0, .ref a0), (1, .ref a1), (2, .ref a2)] [.int v5] h2 Q
  refine x_if_eq (pc2 := 41) 52 dX11_mayCome_38 (by decide) rfl (fun c6 => ?_) (fun c6 => ?_)
  · replace ht := ht.1 c6
    refine x_iconst (pc2 := 53) (v := 0) (by decide) dX11_mayCome_52 rfl ?_
    exact x_retZ rfl (Or.inl rfl) dX11_mayCome_53 ht
  · replace ht := ht.2 c6
    refine x_aload_n (pc2 := 42) 0 (n := 0) (x := a0) rfl dX11_mayCome_41 rfl ?_
    obtain ⟨q7, e8, ht⟩ := ht
    refine y_getR (pc2 := 45) (κ := 11) (k := 6) fl_X11_48 (by decide) (by decide) (k4.up p3) rfl e8 dX11_mayCome_42 rfl ?_
    refine x_aload_n (pc2 := 46) 2 (n := 2) (x := a2) rfl dX11_mayCome_45 rfl ?_
    obtain ⟨k12, ht⟩ := ht
    refine x_callV (pc2 := 49) (As := [.ref a2]) (rest := []) (b := q7) mv_X7_linesInRivers ml_X11_331 k12 rfl rfl (Nat.le_of_ble_eq_true rfl) hd1 dX11_mayCome_46 rfl (ht.mono (fun r9 h10 p11 ht' => ?_))
    clear ht
    obtain ⟨v13, rfl, ht⟩ := ht'
    show Ex G d mX11_mayCome 49 [(0, .ref a0), (1, .ref a1), (2, .ref a2)] [.int v13] h10 Q
    refine x_if_eq (pc2 := 52) 54 dX11_mayCome_49 (by decide) rfl (fun c14 => ?_) (fun c14 => ?_)
    · replace ht := ht.1 c14
      refine x_aload_n (pc2 := 55) 0 (n := 0) (x := a0) rfl dX11_mayCome_54 rfl ?_
      refine x_aload_n (pc2 := 56) 2 (n := 2) (x := a2) rfl dX11_mayCome_55 rfl ?_
      refine x_callV (pc2 := 59) (As := [.ref a2]) (rest := []) (b := a0) mv_X11_describe ml_X11_164 ((k4.up p3).up p11) rfl rfl (Nat.le_of_ble_eq_true rfl) hd1 dX11_mayCome_56 rfl (ht.mono (fun r15 h16 p17 ht' => ?_))
      clear ht
      obtain ⟨rfl, ht⟩ := ht'
      show Ex G d mX11_mayCome 59 [(0, .ref a0), (1, .ref a1), (2, .ref a2)] [] h16 Q
      refine x_aload_n (pc2 := 60) 2 (n := 2) (x := a2) rfl dX11_mayCome_59 rfl ?_
      obtain ⟨k18, ht⟩ := ht
      refine y_getI (pc2 := 63) (κ := 3) (k := 8) fl_X11_314 (by decide) (by decide) k18 rfl dX11_mayCome_60 rfl ?_
      refine x_aload_n (pc2 := 64) 1 (n := 1) (x := a1) rfl dX11_mayCome_63 rfl ?_
      refine x_aload_n (pc2 := 65) 2 (n := 2) (x := a2) rfl dX11_mayCome_64 rfl ?_
      obtain ⟨q19, e20, ht⟩ := ht
      refine y_getR (pc2 := 68) (κ := 3) (k := 17) fl_X11_168 (by decide) (by decide) k18 rfl e20 dX11_mayCome_65 rfl ?_
      obtain ⟨k24, ht⟩ := ht
      refine x_callV (pc2 := 71) (As := [.ref q19]) (rest := [.int (hI h16 a2 8)]) (b := a1) mv_X4_distance ml_X11_334 k24 rfl rfl (Nat.le_of_ble_eq_true rfl) hd1 dX11_mayCome_68 rfl (ht.mono (fun r21 h22 p23 ht' => ?_))
      clear ht
      obtain ⟨v25, rfl, ht⟩ := ht'
      show Ex G d mX11_mayCome 71 [(0, .ref a0), (1, .ref a1), (2, .ref a2)] [.int v25, .int (hI h16 a2 8)] h22 Q
      refine x_icmp_lt (pc2 := 74) 89 dX11_mayCome_71 (by decide) rfl (fun c26 => ?_) (fun c26 => ?_)
      · replace ht := ht.1 c26
        refine x_iconst (pc2 := 90) (v := 0) (by decide) dX11_mayCome_89 rfl ?_
        exact x_retZ rfl (Or.inl rfl) dX11_mayCome_90 ht
      · replace ht := ht.2 c26
        refine x_aload_n (pc2 := 75) 1 (n := 1) (x := a1) rfl dX11_mayCome_74 rfl ?_
        refine x_aload_n (pc2 := 76) 2 (n := 2) (x := a2) rfl dX11_mayCome_75 rfl ?_
        obtain ⟨q27, e28, ht⟩ := ht
        refine y_getR (pc2 := 79) (κ := 3) (k := 17) fl_X11_168 (by decide) (by decide) (k18.up p23) rfl e28 dX11_mayCome_76 rfl ?_
        refine x_callV (pc2 := 82) (As := [.ref q27]) (rest := []) (b := a1) mv_X4_allows ml_X11_338 (k24.up p23) rfl rfl (Nat.le_of_ble_eq_true rfl) hd1 dX11_mayCome_79 rfl (ht.mono (fun r29 h30 p31 ht' => ?_))
        clear ht
        obtain ⟨v32, rfl, ht⟩ := ht'
        show Ex G d mX11_mayCome 82 [(0, .ref a0), (1, .ref a1), (2, .ref a2)] [.int v32] h30 Q
        refine x_if_eq (pc2 := 85) 89 dX11_mayCome_82 (by decide) rfl (fun c33 => ?_) (fun c33 => ?_)
        · replace ht := ht.1 c33
          refine x_iconst (pc2 := 90) (v := 0) (by decide) dX11_mayCome_89 rfl ?_
          exact x_retZ rfl (Or.inl rfl) dX11_mayCome_90 ht
        · replace ht := ht.2 c33
          refine x_iconst (pc2 := 86) (v := 1) (by decide) dX11_mayCome_85 rfl ?_
          refine x_goto 90 dX11_mayCome_86 (by decide) ?_
          exact x_retZ rfl (Or.inr rfl) dX11_mayCome_90 ht
    · replace ht := ht.2 c14
      refine x_iconst (pc2 := 53) (v := 0) (by decide) dX11_mayCome_52 rfl ?_
      exact x_retZ rfl (Or.inl rfl) dX11_mayCome_53 ht
def T_X11_isClearOfOthers (G : GG) (d : Nat) (h : HP) (Q : Option Value → HP → Prop) (a0 : Nat) (a1 : Nat) : Prop :=
  Ex G d mX11_isClearOfOthers 2 [(0, .ref a0), (1, .ref a1), (2, .int 0)] [] h Q
set_option maxRecDepth 20000 in
theorem t_X11_isClearOfOthers {G : GG} {d : Nat} {h : HP} {Q : Option Value → HP → Prop} {a0 : Nat} {a1 : Nat} (ht : T_X11_isClearOfOthers G d h Q a0 a1) : Ex G d mX11_isClearOfOthers 0 [(0, .ref a0), (1, .ref a1)] [] h Q := by
  unfold T_X11_isClearOfOthers at ht
  refine x_iconst (pc2 := 1) (v := 0) (by decide) dX11_isClearOfOthers_0 rfl ?_
  refine x_istore_n (pc2 := 2) [1, 2, 0] (n := 2) (x := 0) (lv2 := [(0, .ref a0), (1, .ref a1), (2, .int 0)]) (by decide) rfl dX11_isClearOfOthers_1 rfl ?_
  exact ht
theorem e_X11_isClearOfOthers {G : GG} {d : Nat} {h : HP} {Q : Option Value → HP → Prop} {a0 : Nat} {a1 : Nat} (ht : T_X11_isClearOfOthers G d h Q a0 a1) : Cal G d mX11_isClearOfOthers [.ref a0, .ref a1] h Q := cal_of rfl (Nat.le_of_ble_eq_true rfl) (t_X11_isClearOfOthers ht)
def T_X11_isClearOfOthers_2 (G : GG) (d : Nat) (h : HP) (Q : Option Value → HP → Prop) (a0 : Nat) (a1 : Nat) (x2 : Int32) : Prop :=
  ((31 ≤ x2 → Q (some (.int 1)) h) ∧ (¬ 31 ≤ x2 → Kd G h a1 3 ∧ ((x2 = (hI h a1 5) → Ex G d mX11_isClearOfOthers 2 [(0, .ref a0), (1, .ref a1), (2, .int (x2 + 1))] [] h Q) ∧ (¬ x2 = (hI h a1 5) → ((x2 = (hI h a1 6) → Ex G d mX11_isClearOfOthers 2 [(0, .ref a0), (1, .ref a1), (2, .int (x2 + 1))] [] h Q) ∧ (¬ x2 = (hI h a1 6) → Kd G h a0 11 ∧ ∃ q6, hR h a0 12 = some q6 ∧ Kd G h q6 6 ∧ Cal G (d - 1) mX6_isOutermost [.ref q6, .int x2] h (fun r8 h9 => ∃ v12, r8 = some (.int v12) ∧ ((v12 = 0 → Ex G d mX11_isClearOfOthers 2 [(0, .ref a0), (1, .ref a1), (2, .int (x2 + 1))] [] h9 Q) ∧ (¬ v12 = 0 → ∃ q14, hR h9 a0 12 = some q14 ∧ Kd G h9 q14 6 ∧ ∃ q17, hR h9 q14 7 = some q17 ∧ Kd G h9 q17 20 ∧ vp_in x2 (hN h9 q17) ∧ ∃ q21, hR h9 q17 x2.toNatClampNeg = some q21 ∧ Cal G (d - 1) mX3_isClearOf [.ref a1, .ref q21] h9 (fun r23 h24 => ∃ v26, r23 = some (.int v26) ∧ ((¬ v26 = 0 → Ex G d mX11_isClearOfOthers 2 [(0, .ref a0), (1, .ref a1), (2, .int (x2 + 1))] [] h24 Q) ∧ (v26 = 0 → Q (some (.int 0)) h24))))))))))))
set_option maxRecDepth 20000 in
theorem t_X11_isClearOfOthers_2 {G : GG} {d : Nat} {h : HP} {Q : Option Value → HP → Prop} {a0 : Nat} {a1 : Nat} {x2 : Int32} (hd1 : 1 ≤ d) (ht : T_X11_isClearOfOthers_2 G d h Q a0 a1 x2) : Ex G d mX11_isClearOfOthers 2 [(0, .ref a0), (1, .ref a1), (2, .int x2)] [] h Q := by
  unfold T_X11_isClearOfOthers_2 at ht
  refine x_iload_n (pc2 := 3) 2 (n := 2) (x := x2) rfl dX11_isClearOfOthers_2 rfl ?_
  refine x_bipush (pc2 := 5) (v := 31) (by decide) dX11_isClearOfOthers_3 rfl ?_
  refine x_icmp_ge (pc2 := 8) 59 dX11_isClearOfOthers_5 (by decide) rfl (fun c1 => ?_) (fun c1 => ?_)
  · replace ht := ht.1 c1
    refine x_iconst (pc2 := 60) (v := 1) (by decide) dX11_isClearOfOthers_59 rfl ?_
    exact x_retZ rfl (Or.inr rfl) dX11_isClearOfOthers_60 ht
  · replace ht := ht.2 c1
    refine x_iload_n (pc2 := 9) 2 (n := 2) (x := x2) rfl dX11_isClearOfOthers_8 rfl ?_
    refine x_aload_n (pc2 := 10) 1 (n := 1) (x := a1) rfl dX11_isClearOfOthers_9 rfl ?_
    obtain ⟨k2, ht⟩ := ht
    refine y_getI (pc2 := 13) (κ := 3) (k := 5) fl_X11_307 (by decide) (by decide) k2 rfl dX11_isClearOfOthers_10 rfl ?_
    refine x_icmp_eq (pc2 := 16) 53 dX11_isClearOfOthers_13 (by decide) rfl (fun c3 => ?_) (fun c3 => ?_)
    · replace ht := ht.1 c3
      refine x_iinc (pc2 := 56) 2 [1, 2, 0] (i := 2) (x := x2) (v := (x2 + 1)) (lv2 := [(0, .ref a0), (1, .ref a1), (2, .int (x2 + 1))]) rfl (iinc_eq (by decide) _) (by decide) rfl dX11_isClearOfOthers_53 rfl ?_
      refine x_goto 2 dX11_isClearOfOthers_56 (by decide) ?_
      exact ht
    · replace ht := ht.2 c3
      refine x_iload_n (pc2 := 17) 2 (n := 2) (x := x2) rfl dX11_isClearOfOthers_16 rfl ?_
      refine x_aload_n (pc2 := 18) 1 (n := 1) (x := a1) rfl dX11_isClearOfOthers_17 rfl ?_
      refine y_getI (pc2 := 21) (κ := 3) (k := 6) fl_X11_317 (by decide) (by decide) k2 rfl dX11_isClearOfOthers_18 rfl ?_
      refine x_icmp_eq (pc2 := 24) 53 dX11_isClearOfOthers_21 (by decide) rfl (fun c4 => ?_) (fun c4 => ?_)
      · replace ht := ht.1 c4
        refine x_iinc (pc2 := 56) 2 [1, 2, 0] (i := 2) (x := x2) (v := (x2 + 1)) (lv2 := [(0, .ref a0), (1, .ref a1), (2, .int (x2 + 1))]) rfl (iinc_eq (by decide) _) (by decide) rfl dX11_isClearOfOthers_53 rfl ?_
        refine x_goto 2 dX11_isClearOfOthers_56 (by decide) ?_
        exact ht
      · replace ht := ht.2 c4
        refine x_aload_n (pc2 := 25) 0 (n := 0) (x := a0) rfl dX11_isClearOfOthers_24 rfl ?_
        obtain ⟨k5, ht⟩ := ht
        obtain ⟨q6, e7, ht⟩ := ht
        refine y_getR (pc2 := 28) (κ := 11) (k := 12) fl_X11_80 (by decide) (by decide) k5 rfl e7 dX11_isClearOfOthers_25 rfl ?_
        refine x_iload_n (pc2 := 29) 2 (n := 2) (x := x2) rfl dX11_isClearOfOthers_28 rfl ?_
        obtain ⟨k11, ht⟩ := ht
        refine x_callV (pc2 := 32) (As := [.int x2]) (rest := []) (b := q6) mv_X6_isOutermost ml_X11_277 k11 rfl rfl (Nat.le_of_ble_eq_true rfl) hd1 dX11_isClearOfOthers_29 rfl (ht.mono (fun r8 h9 p10 ht' => ?_))
        clear ht
        obtain ⟨v12, rfl, ht⟩ := ht'
        show Ex G d mX11_isClearOfOthers 32 [(0, .ref a0), (1, .ref a1), (2, .int x2)] [.int v12] h9 Q
        refine x_if_eq (pc2 := 35) 53 dX11_isClearOfOthers_32 (by decide) rfl (fun c13 => ?_) (fun c13 => ?_)
        · replace ht := ht.1 c13
          refine x_iinc (pc2 := 56) 2 [1, 2, 0] (i := 2) (x := x2) (v := (x2 + 1)) (lv2 := [(0, .ref a0), (1, .ref a1), (2, .int (x2 + 1))]) rfl (iinc_eq (by decide) _) (by decide) rfl dX11_isClearOfOthers_53 rfl ?_
          refine x_goto 2 dX11_isClearOfOthers_56 (by decide) ?_
          exact ht
        · replace ht := ht.2 c13
          refine x_aload_n (pc2 := 36) 1 (n := 1) (x := a1) rfl dX11_isClearOfOthers_35 rfl ?_
          refine x_aload_n (pc2 := 37) 0 (n := 0) (x := a0) rfl dX11_isClearOfOthers_36 rfl ?_
          obtain ⟨q14, e15, ht⟩ := ht
          refine y_getR (pc2 := 40) (κ := 11) (k := 12) fl_X11_80 (by decide) (by decide) (k5.up p10) rfl e15 dX11_isClearOfOthers_37 rfl ?_
          obtain ⟨k16, ht⟩ := ht
          obtain ⟨q17, e18, ht⟩ := ht
          refine y_getR (pc2 := 43) (κ := 6) (k := 7) fl_X11_182 (by decide) (by decide) k16 rfl e18 dX11_isClearOfOthers_40 rfl ?_
          refine x_iload_n (pc2 := 44) 2 (n := 2) (x := x2) rfl dX11_isClearOfOthers_43 rfl ?_
          obtain ⟨k19, ht⟩ := ht
          obtain ⟨b20, ht⟩ := ht
          obtain ⟨q21, e22, ht⟩ := ht
          refine y_aaldR (pc2 := 45) (κ := 20) (by decide) k19 b20 e22 dX11_isClearOfOthers_44 rfl ?_
          refine x_callV (pc2 := 48) (As := [.ref q21]) (rest := []) (b := a1) mv_X3_isClearOf ml_X11_342 (k2.up p10) rfl rfl (Nat.le_of_ble_eq_true rfl) hd1 dX11_isClearOfOthers_45 rfl (ht.mono (fun r23 h24 p25 ht' => ?_))
          clear ht
          obtain ⟨v26, rfl, ht⟩ := ht'
          show Ex G d mX11_isClearOfOthers 48 [(0, .ref a0), (1, .ref a1), (2, .int x2)] [.int v26] h24 Q
          refine y_if_ne (pc2 := 51) 53 dX11_isClearOfOthers_48 (by decide) rfl (fun c27 => ?_) (fun c27 => ?_)
          · replace ht := ht.1 c27
            refine x_iinc (pc2 := 56) 2 [1, 2, 0] (i := 2) (x := x2) (v := (x2 + 1)) (lv2 := [(0, .ref a0), (1, .ref a1), (2, .int (x2 + 1))]) rfl (iinc_eq (by decide) _) (by decide) rfl dX11_isClearOfOthers_53 rfl ?_
            refine x_goto 2 dX11_isClearOfOthers_56 (by decide) ?_
            exact ht
          · replace ht := ht.2 c27
            refine x_iconst (pc2 := 52) (v := 0) (by decide) dX11_isClearOfOthers_51 rfl ?_
            exact x_retZ rfl (Or.inl rfl) dX11_isClearOfOthers_52 ht
def T_X11_describe (G : GG) (d : Nat) (h : HP) (Q : Option Value → HP → Prop) (a0 : Nat) (a1 : Nat) : Prop :=
  Kd G h a0 11 ∧ ∃ q2, hR h a0 12 = some q2 ∧ Kd G h q2 6 ∧ ∃ q5, hR h q2 7 = some q5 ∧ Kd G h a1 3 ∧ Kd G h q5 20 ∧ vp_in (hI h a1 5) (hN h q5) ∧ ∃ q10, hR h q5 (hI h a1 5).toNatClampNeg = some q10 ∧ ((¬ (hI h a1 6) = (-1) → vp_in (hI h a1 6) (hN h q5) ∧ ∃ q14, hR h q5 (hI h a1 6).toNatClampNeg = some q14 ∧ Ex G d mX11_describe 37 [(0, .ref a0), (1, .ref a1), (2, .ref q10)] [va_rf (some q14)] h Q) ∧ ((hI h a1 6) = (-1) → Ex G d mX11_describe 37 [(0, .ref a0), (1, .ref a1), (2, .ref q10)] [va_rf none] h Q))
set_option maxRecDepth 20000 in
theorem t_X11_describe {G : GG} {d : Nat} {h : HP} {Q : Option Value → HP → Prop} {a0 : Nat} {a1 : Nat} (ht : T_X11_describe G d h Q a0 a1) : Ex G d mX11_describe 0 [(0, .ref a0), (1, .ref a1)] [] h Q := by
  unfold T_X11_describe at ht
  refine x_aload_n (pc2 := 1) 0 (n := 0) (x := a0) rfl dX11_describe_0 rfl ?_
  obtain ⟨k1, ht⟩ := ht
  obtain ⟨q2, e3, ht⟩ := ht
  refine y_getR (pc2 := 4) (κ := 11) (k := 12) fl_X11_80 (by decide) (by decide) k1 rfl e3 dX11_describe_1 rfl ?_
  obtain ⟨k4, ht⟩ := ht
  obtain ⟨q5, e6, ht⟩ := ht
  refine y_getR (pc2 := 7) (κ := 6) (k := 7) fl_X11_182 (by decide) (by decide) k4 rfl e6 dX11_describe_4 rfl ?_
  refine x_aload_n (pc2 := 8) 1 (n := 1) (x := a1) rfl dX11_describe_7 rfl ?_
  obtain ⟨k7, ht⟩ := ht
  refine y_getI (pc2 := 11) (κ := 3) (k := 5) fl_X11_307 (by decide) (by decide) k7 rfl dX11_describe_8 rfl ?_
  obtain ⟨k8, ht⟩ := ht
  obtain ⟨b9, ht⟩ := ht
  obtain ⟨q10, e11, ht⟩ := ht
  refine y_aaldR (pc2 := 12) (κ := 20) (by decide) k8 b9 e11 dX11_describe_11 rfl ?_
  refine x_astore_n (pc2 := 13) [1, 2, 0] (n := 2) (x := q10) (lv2 := [(0, .ref a0), (1, .ref a1), (2, .ref q10)]) (by decide) rfl dX11_describe_12 rfl ?_
  refine x_aload_n (pc2 := 14) 1 (n := 1) (x := a1) rfl dX11_describe_13 rfl ?_
  refine y_getI (pc2 := 17) (κ := 3) (k := 6) fl_X11_317 (by decide) (by decide) k7 rfl dX11_describe_14 rfl ?_
  refine x_iconst (pc2 := 18) (v := (-1)) (by decide) dX11_describe_17 rfl ?_
  refine y_icmp_ne (pc2 := 21) 25 dX11_describe_18 (by decide) rfl (fun c12 => ?_) (fun c12 => ?_)
  · replace ht := ht.1 c12
    refine x_aload_n (pc2 := 26) 0 (n := 0) (x := a0) rfl dX11_describe_25 rfl ?_
    refine y_getR (pc2 := 29) (κ := 11) (k := 12) fl_X11_80 (by decide) (by decide) k1 rfl e3 dX11_describe_26 rfl ?_
    refine y_getR (pc2 := 32) (κ := 6) (k := 7) fl_X11_182 (by decide) (by decide) k4 rfl e6 dX11_describe_29 rfl ?_
    refine x_aload_n (pc2 := 33) 1 (n := 1) (x := a1) rfl dX11_describe_32 rfl ?_
    refine y_getI (pc2 := 36) (κ := 3) (k := 6) fl_X11_317 (by decide) (by decide) k7 rfl dX11_describe_33 rfl ?_
    obtain ⟨b13, ht⟩ := ht
    obtain ⟨q14, e15, ht⟩ := ht
    refine y_aaldR (pc2 := 37) (κ := 20) (by decide) k8 b13 e15 dX11_describe_36 rfl ?_
    exact ht
  · replace ht := ht.2 c12
    refine x_null (pc2 := 22) dX11_describe_21 rfl ?_
    refine x_goto 37 dX11_describe_22 (by decide) ?_
    exact ht
theorem e_X11_describe {G : GG} {d : Nat} {h : HP} {Q : Option Value → HP → Prop} {a0 : Nat} {a1 : Nat} (ht : T_X11_describe G d h Q a0 a1) : Cal G d mX11_describe [.ref a0, .ref a1] h Q := cal_of rfl (Nat.le_of_ble_eq_true rfl) (t_X11_describe ht)
def T_X11_describe_37 (G : GG) (d : Nat) (h : HP) (Q : Option Value → HP → Prop) (a0 : Nat) (a1 : Nat) (a2 : Nat) (so0 : Option Nat) : Prop :=
  Kd G h a1 3 ∧ ∃ q2, hR h a1 17 = some q2 ∧ Cal G (d - 1) mX3_line [.ref a1] h (fun r4 h5 => ∃ v7, r4 = some (.int v7) ∧ Kd G h5 q2 15 ∧ vp_in 0 (hN h5 q2) ∧ ∃ q10, hR (sL h5 q2 0 (v7.toInt64)) a1 17 = some q10 ∧ Kd G (sL h5 q2 0 (v7.toInt64)) q10 15 ∧ vp_in 1 (hN (sL h5 q2 0 (v7.toInt64)) q10) ∧ ∀ h14, h14 = (sL (sL h5 q2 0 (v7.toInt64)) q10 1 (((hI (sL h5 q2 0 (v7.toInt64)) a1 3) - (hI (sL h5 q2 0 (v7.toInt64)) a1 1)).toInt64)) → vp_in 2 (hN h14 q10) ∧ Cal G (d - 1) mX3_area [.ref a1] (sL h14 q10 2 (((hI h14 a1 4) - (hI h14 a1 2)).toInt64)) (fun r18 h19 => ∃ v21, r18 = some (.int v21) ∧ Kd G h19 a2 9 ∧ Cal G (d - 1) mX9_area [.ref a2] h19 (fun r22 h23 => ∃ v26, r22 = some (.int v26) ∧ ((so0 = none → Ex G d mX11_describe 107 [(0, .ref a0), (1, .ref a1), (2, .ref a2), (3, va_rf none)] [.int 0, .int (v21 - v26), .int 3, .ref q10] h23 Q) ∧ (∀ q28, so0 = some q28 → Kd G h23 q28 9 ∧ Cal G (d - 1) mX9_area [.ref q28] h23 (fun r29 h30 => ∃ v33, r29 = some (.int v33) ∧ Ex G d mX11_describe 107 [(0, .ref a0), (1, .ref a1), (2, .ref a2), (3, va_rf (some q28))] [.int v33, .int (v21 - v26), .int 3, .ref q10] h30 Q))))))
set_option maxRecDepth 20000 in
theorem t_X11_describe_37 {G : GG} {d : Nat} {h : HP} {Q : Option Value → HP → Prop} {a0 : Nat} {a1 : Nat} {a2 : Nat} {so0 : Option Nat} (hd1 : 1 ≤ d) (ht : T_X11_describe_37 G d h Q a0 a1 a2 so0) : Ex G d mX11_describe 37 [(0, .ref a0), (1, .ref a1), (2, .ref a2)] [va_rf so0] h Q := by
  unfold T_X11_describe_37 at ht
  refine x_astoreq_n (pc2 := 38) [1, 2, 3, 0] (n := 3) (x := so0) (lv2 := [(0, .ref a0), (1, .ref a1), (2, .ref a2), (3, va_rf so0)]) (by decide) rfl dX11_describe_37 rfl ?_
  refine x_aload_n (pc2 := 39) 1 (n := 1) (x := a1) rfl dX11_describe_38 rfl ?_
  obtain ⟨k1, ht⟩ := ht
  obtain ⟨q2, e3, ht⟩ := ht
  refine y_getR (pc2 := 42) (κ := 3) (k := 17) fl_X11_168 (by decide) (by decide) k1 rfl e3 dX11_describe_39 rfl ?_
  refine x_iconst (pc2 := 43) (v := 0) (by decide) dX11_describe_42 rfl ?_
  refine x_aload_n (pc2 := 44) 1 (n := 1) (x := a1) rfl dX11_describe_43 rfl ?_
  refine x_callV (pc2 := 47) (As := []) (rest := [.int 0, .ref q2]) (b := a1) mv_X3_line ml_X11_346 k1 rfl rfl (Nat.le_of_ble_eq_true rfl) hd1 dX11_describe_44 rfl (ht.mono (fun r4 h5 p6 ht' => ?_))
  clear ht
  obtain ⟨v7, rfl, ht⟩ := ht'
  show Ex G d mX11_describe 47 [(0, .ref a0), (1, .ref a1), (2, .ref a2), (3, va_rf so0)] [.int v7, .int 0, .ref q2] h5 Q
  refine x_i2l (pc2 := 48) dX11_describe_47 rfl ?_
  obtain ⟨k8, ht⟩ := ht
  obtain ⟨b9, ht⟩ := ht
  refine z_last (pc2 := 49) (k := 0) (by decide) k8 b9 dX11_describe_48 rfl ?_
  refine x_aload_n (pc2 := 50) 1 (n := 1) (x := a1) rfl dX11_describe_49 rfl ?_
  obtain ⟨q10, e11, ht⟩ := ht
  refine y_getR (pc2 := 53) (κ := 3) (k := 17) fl_X11_168 (by decide) (by decide) (k1.up p6).sL rfl e11 dX11_describe_50 rfl ?_
  refine x_iconst (pc2 := 54) (v := 1) (by decide) dX11_describe_53 rfl ?_
  refine x_aload_n (pc2 := 55) 1 (n := 1) (x := a1) rfl dX11_describe_54 rfl ?_
  refine y_getI (pc2 := 58) (κ := 3) (k := 3) fl_X11_349 (by decide) (by decide) (k1.up p6).sL rfl dX11_describe_55 rfl ?_
  refine x_aload_n (pc2 := 59) 1 (n := 1) (x := a1) rfl dX11_describe_58 rfl ?_
  refine y_getI (pc2 := 62) (κ := 3) (k := 1) fl_X11_350 (by decide) (by decide) (k1.up p6).sL rfl dX11_describe_59 rfl ?_
  refine x_isub (pc2 := 63) dX11_describe_62 rfl ?_
  refine x_i2l (pc2 := 64) dX11_describe_63 rfl ?_
  obtain ⟨k12, ht⟩ := ht
  obtain ⟨b13, ht⟩ := ht
  refine z_last (pc2 := 65) (k := 1) (by decide) k12 b13 dX11_describe_64 rfl ?_
  refine nm_L (fun h14 e15 p16 => ?_)
  replace ht := ht h14 e15
  refine x_aload_n (pc2 := 66) 1 (n := 1) (x := a1) rfl dX11_describe_65 rfl ?_
  refine y_getR (pc2 := 69) (κ := 3) (k := 17) fl_X11_168 (by decide) (by decide) ((k1.up p6).sL.up p16) rfl (by rw [e15]; exact ((hR_sL _ _ _ _ _ _).trans e11)) dX11_describe_66 rfl ?_
  refine x_iconst (pc2 := 70) (v := 2) (by decide) dX11_describe_69 rfl ?_
  refine x_aload_n (pc2 := 71) 1 (n := 1) (x := a1) rfl dX11_describe_70 rfl ?_
  refine y_getI (pc2 := 74) (κ := 3) (k := 4) fl_X11_351 (by decide) (by decide) ((k1.up p6).sL.up p16) rfl dX11_describe_71 rfl ?_
  refine x_aload_n (pc2 := 75) 1 (n := 1) (x := a1) rfl dX11_describe_74 rfl ?_
  refine y_getI (pc2 := 78) (κ := 3) (k := 2) fl_X11_352 (by decide) (by decide) ((k1.up p6).sL.up p16) rfl dX11_describe_75 rfl ?_
  refine x_isub (pc2 := 79) dX11_describe_78 rfl ?_
  refine x_i2l (pc2 := 80) dX11_describe_79 rfl ?_
  obtain ⟨b17, ht⟩ := ht
  refine z_last (pc2 := 81) (k := 2) (by decide) (k12.up p16) b17 dX11_describe_80 rfl ?_
  refine x_aload_n (pc2 := 82) 1 (n := 1) (x := a1) rfl dX11_describe_81 rfl ?_
  refine y_getR (pc2 := 85) (κ := 3) (k := 17) fl_X11_168 (by decide) (by decide) ((k1.up p6).sL.up p16).sL rfl ((hR_sL _ _ _ _ _ _).trans (by rw [e15]; exact ((hR_sL _ _ _ _ _ _).trans e11))) dX11_describe_82 rfl ?_
  refine x_iconst (pc2 := 86) (v := 3) (by decide) dX11_describe_85 rfl ?_
  refine x_aload_n (pc2 := 87) 1 (n := 1) (x := a1) rfl dX11_describe_86 rfl ?_
  refine x_callV (pc2 := 90) (As := []) (rest := [.int 3, .ref q10]) (b := a1) mv_X3_area ml_X11_291 ((k1.up p6).sL.up p16).sL rfl rfl (Nat.le_of_ble_eq_true rfl) hd1 dX11_describe_87 rfl (ht.mono (fun r18 h19 p20 ht' => ?_))
  clear ht
  obtain ⟨v21, rfl, ht⟩ := ht'
  show Ex G d mX11_describe 90 [(0, .ref a0), (1, .ref a1), (2, .ref a2), (3, va_rf so0)] [.int v21, .int 3, .ref q10] h19 Q
  refine x_aload_n (pc2 := 91) 2 (n := 2) (x := a2) rfl dX11_describe_90 rfl ?_
  obtain ⟨k25, ht⟩ := ht
  refine x_callV (pc2 := 94) (As := []) (rest := [.int v21, .int 3, .ref q10]) (b := a2) mv_X9_area ml_X11_234 k25 rfl rfl (Nat.le_of_ble_eq_true rfl) hd1 dX11_describe_91 rfl (ht.mono (fun r22 h23 p24 ht' => ?_))
  clear ht
  obtain ⟨v26, rfl, ht⟩ := ht'
  show Ex G d mX11_describe 94 [(0, .ref a0), (1, .ref a1), (2, .ref a2), (3, va_rf so0)] [.int v26, .int v21, .int 3, .ref q10] h23 Q
  refine x_isub (pc2 := 95) dX11_describe_94 rfl ?_
  refine x_aloadq_n (pc2 := 96) 3 (n := 3) (x := so0) rfl dX11_describe_95 rfl ?_
  refine x_ifnonnull (pc2 := 99) (x := so0) 103 dX11_describe_96 (by decide) rfl (fun q28 e27 => ?_) (fun e27 => ?_)
  · replace ht := ht.2 q28 e27
    subst e27
    show Ex G d mX11_describe 103 [(0, .ref a0), (1, .ref a1), (2, .ref a2), (3, .ref q28)] [.int (v21 - v26), .int 3, .ref q10] h23 Q
    refine x_aload_n (pc2 := 104) 3 (n := 3) (x := q28) rfl dX11_describe_103 rfl ?_
    obtain ⟨k32, ht⟩ := ht
    refine x_callV (pc2 := 107) (As := []) (rest := [.int (v21 - v26), .int 3, .ref q10]) (b := q28) mv_X9_area ml_X11_234 k32 rfl rfl (Nat.le_of_ble_eq_true rfl) hd1 dX11_describe_104 rfl (ht.mono (fun r29 h30 p31 ht' => ?_))
    clear ht
    obtain ⟨v33, rfl, ht⟩ := ht'
    show Ex G d mX11_describe 107 [(0, .ref a0), (1, .ref a1), (2, .ref a2), (3, .ref q28)] [.int v33, .int (v21 - v26), .int 3, .ref q10] h30 Q
    exact ht
  · replace ht := ht.1 e27
    subst e27
    show Ex G d mX11_describe 99 [(0, .ref a0), (1, .ref a1), (2, .ref a2), (3, va_rf none)] [.int (v21 - v26), .int 3, .ref q10] h23 Q
    refine x_iconst (pc2 := 100) (v := 0) (by decide) dX11_describe_99 rfl ?_
    refine x_goto 107 dX11_describe_100 (by decide) ?_
    exact ht
def T_X11_describe_107 (G : GG) (d : Nat) (h : HP) (Q : Option Value → HP → Prop) (a0 : Nat) (a1 : Nat) (a2 : Nat) (o3 : Option Nat) (sa0 : Nat) (sx1 : Int32) (sx2 : Int32) (sx3 : Int32) : Prop :=
  Kd G h sa0 15 ∧ vp_in sx1 (hN h sa0) ∧ Kd G (sL h sa0 sx1.toNatClampNeg ((sx2 - sx3).toInt64)) a1 3 ∧ ∃ q4, hR (sL h sa0 sx1.toNatClampNeg ((sx2 - sx3).toInt64)) a1 17 = some q4 ∧ Kd G (sL h sa0 sx1.toNatClampNeg ((sx2 - sx3).toInt64)) a0 11 ∧ ∃ q7, hR (sL h sa0 sx1.toNatClampNeg ((sx2 - sx3).toInt64)) a0 6 = some q7 ∧ Kd G (sL h sa0 sx1.toNatClampNeg ((sx2 - sx3).toInt64)) q7 7 ∧ ∃ q10, hR (sL h sa0 sx1.toNatClampNeg ((sx2 - sx3).toInt64)) q7 0 = some q10 ∧ Cal G (d - 1) mX7_onGround [.ref q7, .ref q10, .ref a1, .ref a2, va_rf o3] (sL h sa0 sx1.toNatClampNeg ((sx2 - sx3).toInt64)) (fun r12 h13 => ∃ v15, r12 = some (.int v15) ∧ Kd G h13 q4 15 ∧ vp_in 4 (hN h13 q4) ∧ ∃ q18, hR (sL h13 q4 4 (v15.toInt64)) a1 17 = some q18 ∧ ∃ q20, hR (sL h13 q4 4 (v15.toInt64)) a0 6 = some q20 ∧ Kd G (sL h13 q4 4 (v15.toInt64)) q20 7 ∧ ∃ q23, hR (sL h13 q4 4 (v15.toInt64)) q20 1 = some q23 ∧ Cal G (d - 1) mX7_onGround [.ref q20, .ref q23, .ref a1, .ref a2, va_rf o3] (sL h13 q4 4 (v15.toInt64)) (fun r25 h26 => ∃ v28, r25 = some (.int v28) ∧ Kd G h26 q18 15 ∧ vp_in 5 (hN h26 q18) ∧ ∃ q31, hR (sL h26 q18 5 (v28.toInt64)) a1 17 = some q31 ∧ ∃ q33, hR (sL h26 q18 5 (v28.toInt64)) a0 6 = some q33 ∧ Kd G (sL h26 q18 5 (v28.toInt64)) q33 7 ∧ ∃ q36, hR (sL h26 q18 5 (v28.toInt64)) q33 2 = some q36 ∧ Cal G (d - 1) mX7_onGround [.ref q33, .ref q36, .ref a1, .ref a2, va_rf o3] (sL h26 q18 5 (v28.toInt64)) (fun r38 h39 => ∃ v41, r38 = some (.int v41) ∧ Kd G h39 q31 15 ∧ vp_in 6 (hN h39 q31) ∧ ∃ q44, hR (sL h39 q31 6 (v41.toInt64)) a1 17 = some q44 ∧ ∃ q46, hR (sL h39 q31 6 (v41.toInt64)) a0 12 = some q46 ∧ Kd G (sL h39 q31 6 (v41.toInt64)) q46 6 ∧ Cal G (d - 1) mX6_deepRound [.ref q46, .int (hI (sL h39 q31 6 (v41.toInt64)) a1 5)] (sL h39 q31 6 (v41.toInt64)) (fun r48 h49 => ∃ v52, r48 = some (.int v52) ∧ ∃ q53, hR h49 a0 12 = some q53 ∧ Kd G h49 q53 6 ∧ Cal G (d - 1) mX6_deepRound [.ref q53, .int (hI h49 a1 6)] h49 (fun r55 h56 => ∃ v59, r55 = some (.int v59) ∧ Kd G h56 q44 15 ∧ vp_in 7 (hN h56 q44) ∧ ∃ q62, hR (sL h56 q44 7 ((v52 + v59).toInt64)) a1 17 = some q62 ∧ ∃ q64, hR (sL h56 q44 7 ((v52 + v59).toInt64)) a0 12 = some q64 ∧ Kd G (sL h56 q44 7 ((v52 + v59).toInt64)) q64 6 ∧ Cal G (d - 1) mX6_likeTo [.ref q64, .int (hI (sL h56 q44 7 ((v52 + v59).toInt64)) a1 0), .ref a2] (sL h56 q44 7 ((v52 + v59).toInt64)) (fun r66 h67 => ∃ v70, r66 = some (.int v70) ∧ ∃ q71, hR h67 a0 12 = some q71 ∧ Kd G h67 q71 6 ∧ Cal G (d - 1) mX6_likeTo [.ref q71, .int (hI h67 a1 0), va_rf o3] h67 (fun r73 h74 => ∃ v77, r73 = some (.int v77) ∧ Kd G h74 q62 15 ∧ vp_in 8 (hN h74 q62) ∧ ∃ q80, hR (sL h74 q62 8 ((v70 + v77).toInt64)) a1 17 = some q80 ∧ ∃ q82, hR (sL h74 q62 8 ((v70 + v77).toInt64)) a0 12 = some q82 ∧ Kd G (sL h74 q62 8 ((v70 + v77).toInt64)) q82 6 ∧ Cal G (d - 1) mX6_wallsOf [.ref q82, .int (hI (sL h74 q62 8 ((v70 + v77).toInt64)) a1 0)] (sL h74 q62 8 ((v70 + v77).toInt64)) (fun r84 h85 => ∃ v88, r84 = some (.int v88) ∧ Kd G h85 q80 15 ∧ vp_in 9 (hN h85 q80) ∧ ∃ q91, hR (sL h85 q80 9 ((v88 + (hI h85 a1 7)).toInt64)) a1 17 = some q91 ∧ ∃ q93, hR (sL h85 q80 9 ((v88 + (hI h85 a1 7)).toInt64)) a0 12 = some q93 ∧ Kd G (sL h85 q80 9 ((v88 + (hI h85 a1 7)).toInt64)) q93 6 ∧ Kd G (sL h85 q80 9 ((v88 + (hI h85 a1 7)).toInt64)) q91 15 ∧ vp_in 10 (hN (sL h85 q80 9 ((v88 + (hI h85 a1 7)).toInt64)) q91) ∧ ∀ h98, h98 = (sL (sL h85 q80 9 ((v88 + (hI h85 a1 7)).toInt64)) q91 10 ((hI (sL h85 q80 9 ((v88 + (hI h85 a1 7)).toInt64)) q93 3).toInt64)) → ((o3 = none → vp_in 11 (hN h98 q91) ∧ Q none (sL h98 q91 11 0)) ∧ (∀ q102, o3 = some q102 → vp_in 11 (hN h98 q91) ∧ Q none (sL h98 q91 11 1)))))))))))
set_option maxRecDepth 20000 in
theorem t_X11_describe_107 {G : GG} {d : Nat} {h : HP} {Q : Option Value → HP → Prop} {a0 : Nat} {a1 : Nat} {a2 : Nat} {o3 : Option Nat} {sa0 : Nat} {sx1 : Int32} {sx2 : Int32} {sx3 : Int32} (hd1 : 1 ≤ d) (ht : T_X11_describe_107 G d h Q a0 a1 a2 o3 sa0 sx1 sx2 sx3) : Ex G d mX11_describe 107 [(0, .ref a0), (1, .ref a1), (2, .ref a2), (3, va_rf o3)] [.int sx3, .int sx2, .int sx1, .ref sa0] h Q := by
  unfold T_X11_describe_107 at ht
  refine x_isub (pc2 := 108) dX11_describe_107 rfl ?_
  refine x_i2l (pc2 := 109) dX11_describe_108 rfl ?_
  obtain ⟨k1, ht⟩ := ht
  obtain ⟨b2, ht⟩ := ht
  refine x_last (pc2 := 110) k1 b2 dX11_describe_109 rfl ?_
  refine x_aload_n (pc2 := 111) 1 (n := 1) (x := a1) rfl dX11_describe_110 rfl ?_
  obtain ⟨k3, ht⟩ := ht
  obtain ⟨q4, e5, ht⟩ := ht
  refine y_getR (pc2 := 114) (κ := 3) (k := 17) fl_X11_168 (by decide) (by decide) k3 rfl e5 dX11_describe_111 rfl ?_
  refine x_iconst (pc2 := 115) (v := 4) (by decide) dX11_describe_114 rfl ?_
  refine x_aload_n (pc2 := 116) 0 (n := 0) (x := a0) rfl dX11_describe_115 rfl ?_
  obtain ⟨k6, ht⟩ := ht
  obtain ⟨q7, e8, ht⟩ := ht
  refine y_getR (pc2 := 119) (κ := 11) (k := 6) fl_X11_48 (by decide) (by decide) k6 rfl e8 dX11_describe_116 rfl ?_
  refine x_aload_n (pc2 := 120) 0 (n := 0) (x := a0) rfl dX11_describe_119 rfl ?_
  refine y_getR (pc2 := 123) (κ := 11) (k := 6) fl_X11_48 (by decide) (by decide) k6 rfl e8 dX11_describe_120 rfl ?_
  obtain ⟨k9, ht⟩ := ht
  obtain ⟨q10, e11, ht⟩ := ht
  refine y_getR (pc2 := 126) (κ := 7) (k := 0) fl_X11_241 (by decide) (by decide) k9 rfl e11 dX11_describe_123 rfl ?_
  refine x_aload_n (pc2 := 127) 1 (n := 1) (x := a1) rfl dX11_describe_126 rfl ?_
  refine x_aload_n (pc2 := 128) 2 (n := 2) (x := a2) rfl dX11_describe_127 rfl ?_
  refine x_aloadq_n (pc2 := 129) 3 (n := 3) (x := o3) rfl dX11_describe_128 rfl ?_
  refine x_callV (pc2 := 132) (As := [.ref q10, .ref a1, .ref a2, va_rf o3]) (rest := [.int 4, .ref q4]) (b := q7) mv_X7_onGround ml_X11_353 k9 rfl rfl (Nat.le_of_ble_eq_true rfl) hd1 dX11_describe_129 rfl (ht.mono (fun r12 h13 p14 ht' => ?_))
  clear ht
  obtain ⟨v15, rfl, ht⟩ := ht'
  show Ex G d mX11_describe 132 [(0, .ref a0), (1, .ref a1), (2, .ref a2), (3, va_rf o3)] [.int v15, .int 4, .ref q4] h13 Q
  refine x_i2l (pc2 := 133) dX11_describe_132 rfl ?_
  obtain ⟨k16, ht⟩ := ht
  obtain ⟨b17, ht⟩ := ht
  refine z_last (pc2 := 134) (k := 4) (by decide) k16 b17 dX11_describe_133 rfl ?_
  refine x_aload_n (pc2 := 135) 1 (n := 1) (x := a1) rfl dX11_describe_134 rfl ?_
  obtain ⟨q18, e19, ht⟩ := ht
  refine y_getR (pc2 := 138) (κ := 3) (k := 17) fl_X11_168 (by decide) (by decide) (k3.up p14).sL rfl e19 dX11_describe_135 rfl ?_
  refine x_iconst (pc2 := 139) (v := 5) (by decide) dX11_describe_138 rfl ?_
  refine x_aload_n (pc2 := 140) 0 (n := 0) (x := a0) rfl dX11_describe_139 rfl ?_
  obtain ⟨q20, e21, ht⟩ := ht
  refine y_getR (pc2 := 143) (κ := 11) (k := 6) fl_X11_48 (by decide) (by decide) (k6.up p14).sL rfl e21 dX11_describe_140 rfl ?_
  refine x_aload_n (pc2 := 144) 0 (n := 0) (x := a0) rfl dX11_describe_143 rfl ?_
  refine y_getR (pc2 := 147) (κ := 11) (k := 6) fl_X11_48 (by decide) (by decide) (k6.up p14).sL rfl e21 dX11_describe_144 rfl ?_
  obtain ⟨k22, ht⟩ := ht
  obtain ⟨q23, e24, ht⟩ := ht
  refine y_getR (pc2 := 150) (κ := 7) (k := 1) fl_X11_357 (by decide) (by decide) k22 rfl e24 dX11_describe_147 rfl ?_
  refine x_aload_n (pc2 := 151) 1 (n := 1) (x := a1) rfl dX11_describe_150 rfl ?_
  refine x_aload_n (pc2 := 152) 2 (n := 2) (x := a2) rfl dX11_describe_151 rfl ?_
  refine x_aloadq_n (pc2 := 153) 3 (n := 3) (x := o3) rfl dX11_describe_152 rfl ?_
  refine x_callV (pc2 := 156) (As := [.ref q23, .ref a1, .ref a2, va_rf o3]) (rest := [.int 5, .ref q18]) (b := q20) mv_X7_onGround ml_X11_353 k22 rfl rfl (Nat.le_of_ble_eq_true rfl) hd1 dX11_describe_153 rfl (ht.mono (fun r25 h26 p27 ht' => ?_))
  clear ht
  obtain ⟨v28, rfl, ht⟩ := ht'
  show Ex G d mX11_describe 156 [(0, .ref a0), (1, .ref a1), (2, .ref a2), (3, va_rf o3)] [.int v28, .int 5, .ref q18] h26 Q
  refine x_i2l (pc2 := 157) dX11_describe_156 rfl ?_
  obtain ⟨k29, ht⟩ := ht
  obtain ⟨b30, ht⟩ := ht
  refine z_last (pc2 := 158) (k := 5) (by decide) k29 b30 dX11_describe_157 rfl ?_
  refine x_aload_n (pc2 := 159) 1 (n := 1) (x := a1) rfl dX11_describe_158 rfl ?_
  obtain ⟨q31, e32, ht⟩ := ht
  refine y_getR (pc2 := 162) (κ := 3) (k := 17) fl_X11_168 (by decide) (by decide) ((k3.up p14).sL.up p27).sL rfl e32 dX11_describe_159 rfl ?_
  refine x_bipush (pc2 := 164) (v := 6) (by decide) dX11_describe_162 rfl ?_
  refine x_aload_n (pc2 := 165) 0 (n := 0) (x := a0) rfl dX11_describe_164 rfl ?_
  obtain ⟨q33, e34, ht⟩ := ht
  refine y_getR (pc2 := 168) (κ := 11) (k := 6) fl_X11_48 (by decide) (by decide) ((k6.up p14).sL.up p27).sL rfl e34 dX11_describe_165 rfl ?_
  refine x_aload_n (pc2 := 169) 0 (n := 0) (x := a0) rfl dX11_describe_168 rfl ?_
  refine y_getR (pc2 := 172) (κ := 11) (k := 6) fl_X11_48 (by decide) (by decide) ((k6.up p14).sL.up p27).sL rfl e34 dX11_describe_169 rfl ?_
  obtain ⟨k35, ht⟩ := ht
  obtain ⟨q36, e37, ht⟩ := ht
  refine y_getR (pc2 := 175) (κ := 7) (k := 2) fl_X11_360 (by decide) (by decide) k35 rfl e37 dX11_describe_172 rfl ?_
  refine x_aload_n (pc2 := 176) 1 (n := 1) (x := a1) rfl dX11_describe_175 rfl ?_
  refine x_aload_n (pc2 := 177) 2 (n := 2) (x := a2) rfl dX11_describe_176 rfl ?_
  refine x_aloadq_n (pc2 := 178) 3 (n := 3) (x := o3) rfl dX11_describe_177 rfl ?_
  refine x_callV (pc2 := 181) (As := [.ref q36, .ref a1, .ref a2, va_rf o3]) (rest := [.int 6, .ref q31]) (b := q33) mv_X7_onGround ml_X11_353 k35 rfl rfl (Nat.le_of_ble_eq_true rfl) hd1 dX11_describe_178 rfl (ht.mono (fun r38 h39 p40 ht' => ?_))
  clear ht
  obtain ⟨v41, rfl, ht⟩ := ht'
  show Ex G d mX11_describe 181 [(0, .ref a0), (1, .ref a1), (2, .ref a2), (3, va_rf o3)] [.int v41, .int 6, .ref q31] h39 Q
  refine x_i2l (pc2 := 182) dX11_describe_181 rfl ?_
  obtain ⟨k42, ht⟩ := ht
  obtain ⟨b43, ht⟩ := ht
  refine z_last (pc2 := 183) (k := 6) (by decide) k42 b43 dX11_describe_182 rfl ?_
  refine x_aload_n (pc2 := 184) 1 (n := 1) (x := a1) rfl dX11_describe_183 rfl ?_
  obtain ⟨q44, e45, ht⟩ := ht
  refine y_getR (pc2 := 187) (κ := 3) (k := 17) fl_X11_168 (by decide) (by decide) (((k3.up p14).sL.up p27).sL.up p40).sL rfl e45 dX11_describe_184 rfl ?_
  refine x_bipush (pc2 := 189) (v := 7) (by decide) dX11_describe_187 rfl ?_
  refine x_aload_n (pc2 := 190) 0 (n := 0) (x := a0) rfl dX11_describe_189 rfl ?_
  obtain ⟨q46, e47, ht⟩ := ht
  refine y_getR (pc2 := 193) (κ := 11) (k := 12) fl_X11_80 (by decide) (by decide) (((k6.up p14).sL.up p27).sL.up p40).sL rfl e47 dX11_describe_190 rfl ?_
  refine x_aload_n (pc2 := 194) 1 (n := 1) (x := a1) rfl dX11_describe_193 rfl ?_
  refine y_getI (pc2 := 197) (κ := 3) (k := 5) fl_X11_307 (by decide) (by decide) (((k3.up p14).sL.up p27).sL.up p40).sL rfl dX11_describe_194 rfl ?_
  obtain ⟨k51, ht⟩ := ht
  refine x_callV (pc2 := 200) (As := [.int (hI (sL h39 q31 6 (v41.toInt64)) a1 5)]) (rest := [.int 7, .ref q44]) (b := q46) mv_X6_deepRound ml_X11_363 k51 rfl rfl (Nat.le_of_ble_eq_true rfl) hd1 dX11_describe_197 rfl (ht.mono (fun r48 h49 p50 ht' => ?_))
  clear ht
  obtain ⟨v52, rfl, ht⟩ := ht'
  show Ex G d mX11_describe 200 [(0, .ref a0), (1, .ref a1), (2, .ref a2), (3, va_rf o3)] [.int v52, .int 7, .ref q44] h49 Q
  refine x_aload_n (pc2 := 201) 0 (n := 0) (x := a0) rfl dX11_describe_200 rfl ?_
  obtain ⟨q53, e54, ht⟩ := ht
  refine y_getR (pc2 := 204) (κ := 11) (k := 12) fl_X11_80 (by decide) (by decide) ((((k6.up p14).sL.up p27).sL.up p40).sL.up p50) rfl e54 dX11_describe_201 rfl ?_
  refine x_aload_n (pc2 := 205) 1 (n := 1) (x := a1) rfl dX11_describe_204 rfl ?_
  refine y_getI (pc2 := 208) (κ := 3) (k := 6) fl_X11_317 (by decide) (by decide) ((((k3.up p14).sL.up p27).sL.up p40).sL.up p50) rfl dX11_describe_205 rfl ?_
  obtain ⟨k58, ht⟩ := ht
  refine x_callV (pc2 := 211) (As := [.int (hI h49 a1 6)]) (rest := [.int v52, .int 7, .ref q44]) (b := q53) mv_X6_deepRound ml_X11_363 k58 rfl rfl (Nat.le_of_ble_eq_true rfl) hd1 dX11_describe_208 rfl (ht.mono (fun r55 h56 p57 ht' => ?_))
  clear ht
  obtain ⟨v59, rfl, ht⟩ := ht'
  show Ex G d mX11_describe 211 [(0, .ref a0), (1, .ref a1), (2, .ref a2), (3, va_rf o3)] [.int v59, .int v52, .int 7, .ref q44] h56 Q
  refine x_iadd (pc2 := 212) dX11_describe_211 rfl ?_
  refine x_i2l (pc2 := 213) dX11_describe_212 rfl ?_
  obtain ⟨k60, ht⟩ := ht
  obtain ⟨b61, ht⟩ := ht
  refine z_last (pc2 := 214) (k := 7) (by decide) k60 b61 dX11_describe_213 rfl ?_
  refine x_aload_n (pc2 := 215) 1 (n := 1) (x := a1) rfl dX11_describe_214 rfl ?_
  obtain ⟨q62, e63, ht⟩ := ht
  refine y_getR (pc2 := 218) (κ := 3) (k := 17) fl_X11_168 (by decide) (by decide) (((((k3.up p14).sL.up p27).sL.up p40).sL.up p50).up p57).sL rfl e63 dX11_describe_215 rfl ?_
  refine x_bipush (pc2 := 220) (v := 8) (by decide) dX11_describe_218 rfl ?_
  refine x_aload_n (pc2 := 221) 0 (n := 0) (x := a0) rfl dX11_describe_220 rfl ?_
  obtain ⟨q64, e65, ht⟩ := ht
  refine y_getR (pc2 := 224) (κ := 11) (k := 12) fl_X11_80 (by decide) (by decide) (((((k6.up p14).sL.up p27).sL.up p40).sL.up p50).up p57).sL rfl e65 dX11_describe_221 rfl ?_
  refine x_aload_n (pc2 := 225) 1 (n := 1) (x := a1) rfl dX11_describe_224 rfl ?_
  refine y_getI (pc2 := 228) (κ := 3) (k := 0) fl_X11_366 (by decide) (by decide) (((((k3.up p14).sL.up p27).sL.up p40).sL.up p50).up p57).sL rfl dX11_describe_225 rfl ?_
  refine x_aload_n (pc2 := 229) 2 (n := 2) (x := a2) rfl dX11_describe_228 rfl ?_
  obtain ⟨k69, ht⟩ := ht
  refine x_callV (pc2 := 232) (As := [.int (hI (sL h56 q44 7 ((v52 + v59).toInt64)) a1 0), .ref a2]) (rest := [.int 8, .ref q62]) (b := q64) mv_X6_likeTo ml_X11_369 k69 rfl rfl (Nat.le_of_ble_eq_true rfl) hd1 dX11_describe_229 rfl (ht.mono (fun r66 h67 p68 ht' => ?_))
  clear ht
  obtain ⟨v70, rfl, ht⟩ := ht'
  show Ex G d mX11_describe 232 [(0, .ref a0), (1, .ref a1), (2, .ref a2), (3, va_rf o3)] [.int v70, .int 8, .ref q62] h67 Q
  refine x_aload_n (pc2 := 233) 0 (n := 0) (x := a0) rfl dX11_describe_232 rfl ?_
  obtain ⟨q71, e72, ht⟩ := ht
  refine y_getR (pc2 := 236) (κ := 11) (k := 12) fl_X11_80 (by decide) (by decide) ((((((k6.up p14).sL.up p27).sL.up p40).sL.up p50).up p57).sL.up p68) rfl e72 dX11_describe_233 rfl ?_
  refine x_aload_n (pc2 := 237) 1 (n := 1) (x := a1) rfl dX11_describe_236 rfl ?_
  refine y_getI (pc2 := 240) (κ := 3) (k := 0) fl_X11_366 (by decide) (by decide) ((((((k3.up p14).sL.up p27).sL.up p40).sL.up p50).up p57).sL.up p68) rfl dX11_describe_237 rfl ?_
  refine x_aloadq_n (pc2 := 241) 3 (n := 3) (x := o3) rfl dX11_describe_240 rfl ?_
  obtain ⟨k76, ht⟩ := ht
  refine x_callV (pc2 := 244) (As := [.int (hI h67 a1 0), va_rf o3]) (rest := [.int v70, .int 8, .ref q62]) (b := q71) mv_X6_likeTo ml_X11_369 k76 rfl rfl (Nat.le_of_ble_eq_true rfl) hd1 dX11_describe_241 rfl (ht.mono (fun r73 h74 p75 ht' => ?_))
  clear ht
  obtain ⟨v77, rfl, ht⟩ := ht'
  show Ex G d mX11_describe 244 [(0, .ref a0), (1, .ref a1), (2, .ref a2), (3, va_rf o3)] [.int v77, .int v70, .int 8, .ref q62] h74 Q
  refine x_iadd (pc2 := 245) dX11_describe_244 rfl ?_
  refine x_i2l (pc2 := 246) dX11_describe_245 rfl ?_
  obtain ⟨k78, ht⟩ := ht
  obtain ⟨b79, ht⟩ := ht
  refine z_last (pc2 := 247) (k := 8) (by decide) k78 b79 dX11_describe_246 rfl ?_
  refine x_aload_n (pc2 := 248) 1 (n := 1) (x := a1) rfl dX11_describe_247 rfl ?_
  obtain ⟨q80, e81, ht⟩ := ht
  refine y_getR (pc2 := 251) (κ := 3) (k := 17) fl_X11_168 (by decide) (by decide) (((((((k3.up p14).sL.up p27).sL.up p40).sL.up p50).up p57).sL.up p68).up p75).sL rfl e81 dX11_describe_248 rfl ?_
  refine x_bipush (pc2 := 253) (v := 9) (by decide) dX11_describe_251 rfl ?_
  refine x_aload_n (pc2 := 254) 0 (n := 0) (x := a0) rfl dX11_describe_253 rfl ?_
  obtain ⟨q82, e83, ht⟩ := ht
  refine y_getR (pc2 := 257) (κ := 11) (k := 12) fl_X11_80 (by decide) (by decide) (((((((k6.up p14).sL.up p27).sL.up p40).sL.up p50).up p57).sL.up p68).up p75).sL rfl e83 dX11_describe_254 rfl ?_
  refine x_aload_n (pc2 := 258) 1 (n := 1) (x := a1) rfl dX11_describe_257 rfl ?_
  refine y_getI (pc2 := 261) (κ := 3) (k := 0) fl_X11_366 (by decide) (by decide) (((((((k3.up p14).sL.up p27).sL.up p40).sL.up p50).up p57).sL.up p68).up p75).sL rfl dX11_describe_258 rfl ?_
  obtain ⟨k87, ht⟩ := ht
  refine x_callV (pc2 := 264) (As := [.int (hI (sL h74 q62 8 ((v70 + v77).toInt64)) a1 0)]) (rest := [.int 9, .ref q80]) (b := q82) mv_X6_wallsOf ml_X11_373 k87 rfl rfl (Nat.le_of_ble_eq_true rfl) hd1 dX11_describe_261 rfl (ht.mono (fun r84 h85 p86 ht' => ?_))
  clear ht
  obtain ⟨v88, rfl, ht⟩ := ht'
  show Ex G d mX11_describe 264 [(0, .ref a0), (1, .ref a1), (2, .ref a2), (3, va_rf o3)] [.int v88, .int 9, .ref q80] h85 Q
  refine x_aload_n (pc2 := 265) 1 (n := 1) (x := a1) rfl dX11_describe_264 rfl ?_
  refine y_getI (pc2 := 268) (κ := 3) (k := 7) fl_X11_376 (by decide) (by decide) ((((((((k3.up p14).sL.up p27).sL.up p40).sL.up p50).up p57).sL.up p68).up p75).sL.up p86) rfl dX11_describe_265 rfl ?_
  refine x_iadd (pc2 := 269) dX11_describe_268 rfl ?_
  refine x_i2l (pc2 := 270) dX11_describe_269 rfl ?_
  obtain ⟨k89, ht⟩ := ht
  obtain ⟨b90, ht⟩ := ht
  refine z_last (pc2 := 271) (k := 9) (by decide) k89 b90 dX11_describe_270 rfl ?_
  refine x_aload_n (pc2 := 272) 1 (n := 1) (x := a1) rfl dX11_describe_271 rfl ?_
  obtain ⟨q91, e92, ht⟩ := ht
  refine y_getR (pc2 := 275) (κ := 3) (k := 17) fl_X11_168 (by decide) (by decide) ((((((((k3.up p14).sL.up p27).sL.up p40).sL.up p50).up p57).sL.up p68).up p75).sL.up p86).sL rfl e92 dX11_describe_272 rfl ?_
  refine x_bipush (pc2 := 277) (v := 10) (by decide) dX11_describe_275 rfl ?_
  refine x_aload_n (pc2 := 278) 0 (n := 0) (x := a0) rfl dX11_describe_277 rfl ?_
  obtain ⟨q93, e94, ht⟩ := ht
  refine y_getR (pc2 := 281) (κ := 11) (k := 12) fl_X11_80 (by decide) (by decide) ((((((((k6.up p14).sL.up p27).sL.up p40).sL.up p50).up p57).sL.up p68).up p75).sL.up p86).sL rfl e94 dX11_describe_278 rfl ?_
  obtain ⟨k95, ht⟩ := ht
  refine y_getI (pc2 := 284) (κ := 6) (k := 3) fl_X11_301 (by decide) (by decide) k95 rfl dX11_describe_281 rfl ?_
  refine x_i2l (pc2 := 285) dX11_describe_284 rfl ?_
  obtain ⟨k96, ht⟩ := ht
  obtain ⟨b97, ht⟩ := ht
  refine z_last (pc2 := 286) (k := 10) (by decide) k96 b97 dX11_describe_285 rfl ?_
  refine nm_L (fun h98 e99 p100 => ?_)
  replace ht := ht h98 e99
  refine x_aload_n (pc2 := 287) 1 (n := 1) (x := a1) rfl dX11_describe_286 rfl ?_
  refine y_getR (pc2 := 290) (κ := 3) (k := 17) fl_X11_168 (by decide) (by decide) (((((((((k3.up p14).sL.up p27).sL.up p40).sL.up p50).up p57).sL.up p68).up p75).sL.up p86).sL.up p100) rfl (by rw [e99]; exact ((hR_sL _ _ _ _ _ _).trans e92)) dX11_describe_287 rfl ?_
  refine x_bipush (pc2 := 292) (v := 11) (by decide) dX11_describe_290 rfl ?_
  refine x_aloadq_n (pc2 := 293) 3 (n := 3) (x := o3) rfl dX11_describe_292 rfl ?_
  refine x_ifnonnull (pc2 := 296) (x := o3) 300 dX11_describe_293 (by decide) rfl (fun q102 e101 => ?_) (fun e101 => ?_)
  · replace ht := ht.2 q102 e101
    subst e101
    show Ex G d mX11_describe 300 [(0, .ref a0), (1, .ref a1), (2, .ref a2), (3, .ref q102)] [.int 11, .ref q91] h98 Q
    refine x_lconst (pc2 := 301) (v := 1) (by decide) dX11_describe_300 rfl ?_
    obtain ⟨b104, ht⟩ := ht
    refine z_last (pc2 := 302) (k := 11) (by decide) (k96.up p100) b104 dX11_describe_301 rfl ?_
    exact x_retV rfl dX11_describe_302 ht
  · replace ht := ht.1 e101
    subst e101
    show Ex G d mX11_describe 296 [(0, .ref a0), (1, .ref a1), (2, .ref a2), (3, va_rf none)] [.int 11, .ref q91] h98 Q
    refine x_lconst (pc2 := 297) (v := 0) (by decide) dX11_describe_296 rfl ?_
    refine x_goto 301 dX11_describe_297 (by decide) ?_
    obtain ⟨b103, ht⟩ := ht
    refine z_last (pc2 := 302) (k := 11) (by decide) (k96.up p100) b103 dX11_describe_301 rfl ?_
    exact x_retV rfl dX11_describe_302 ht
def T_X11_best (G : GG) (d : Nat) (h : HP) (Q : Option Value → HP → Prop) (a0 : Nat) (x1 : Int32) (x2 : Int32) (x3 : Int32) (x4 : Int32) (x5 : Int32) (x6 : Int32) (x7 : Int32) : Prop :=
  Kd G h a0 11 ∧ Cal G (d - 1) mX11_lawAt [.ref a0, .int x1] h (fun r1 h2 => ∃ v5, r1 = some (va_rf v5) ∧ Cal G (d - 1) mX11_wishAt [.ref a0, .int x2] h2 (fun r6 h7 => ∃ v9, r6 = some (va_rf v9) ∧ ((v5 = none → Q (some (.int (-1))) h7) ∧ (∀ q11, v5 = some q11 → ((v9 = none → Q (some (.int (-1))) h7) ∧ (∀ q13, v9 = some q13 → Cal G (d - 1) mX11_areThere [.ref a0, .int x3, .int x4, .int x5] h7 (fun r14 h15 => ∃ v17, r14 = some (.int v17) ∧ ((v17 = 0 → Q (some (.int (-1))) h15) ∧ (¬ v17 = 0 → ((x6 < 1 → Q (some (.int (-1))) h15) ∧ (¬ x6 < 1 → ((4 < x6 → Q (some (.int (-1))) h15) ∧ (¬ 4 < x6 → ((x7 < 0 → Q (some (.int (-1))) h15) ∧ (¬ x7 < 0 → ((x7 ≤ 4 → ∃ q23, hR h15 a0 8 = some q23 ∧ Cal G (d - 1) mX11_aim [.ref a0, .ref q23, .int x3, .int x4, .int x5] h15 (fun r25 h26 => r25 = none ∧ ∃ q28, hR h26 a0 8 = some q28 ∧ ∃ q30, hR h26 a0 10 = some q30 ∧ Cal G (d - 1) mX11_search [.ref a0, .ref q11, .ref q13, .ref q28, .int x6, .ref q30] h26 (fun r32 h33 => r32 = none ∧ ((¬ x7 = 4 → ∃ q36, hR h33 a0 10 = some q36 ∧ Kd G h33 q36 0 ∧ Cal G (d - 1) mX0_margin [.ref q36, .int x7] h33 (fun r38 h39 => ∃ v42, r38 = some (.int v42) ∧ Q (some (.int v42)) h39)) ∧ (x7 = 4 → ∃ q43, hR h33 a0 10 = some q43 ∧ Kd G h33 q43 0 ∧ Q (some (.int (hI h33 q43 0))) h33))))) ∧ (¬ x7 ≤ 4 → Q (some (.int (-1))) h15)))))))))))))))))
set_option maxRecDepth 20000 in
theorem t_X11_best {G : GG} {d : Nat} {h : HP} {Q : Option Value → HP → Prop} {a0 : Nat} {x1 : Int32} {x2 : Int32} {x3 : Int32} {x4 : Int32} {x5 : Int32} {x6 : Int32} {x7 : Int32} (hd1 : 1 ≤ d) (ht : T_X11_best G d h Q a0 x1 x2 x3 x4 x5 x6 x7) : Ex G d mX11_best 0 [(0, .ref a0), (1, .int x1), (2, .int x2), (3, .int x3), (4, .int x4), (5, .int x5), (6, .int x6), (7, .int x7)] [] h Q := by
  unfold T_X11_best at ht
  refine x_aload_n (pc2 := 1) 0 (n := 0) (x := a0) rfl dX11_best_0 rfl ?_
  refine x_iload_n (pc2 := 2) 1 (n := 1) (x := x1) rfl dX11_best_1 rfl ?_
  obtain ⟨k4, ht⟩ := ht
  refine x_callV (pc2 := 5) (As := [.int x1]) (rest := []) (b := a0) mv_X11_lawAt ml_X11_133 k4 rfl rfl (Nat.le_of_ble_eq_true rfl) hd1 dX11_best_2 rfl (ht.mono (fun r1 h2 p3 ht' => ?_))
  clear ht
  obtain ⟨v5, rfl, ht⟩ := ht'
  show Ex G d mX11_best 5 [(0, .ref a0), (1, .int x1), (2, .int x2), (3, .int x3), (4, .int x4), (5, .int x5), (6, .int x6), (7, .int x7)] [va_rf v5] h2 Q
  refine x_astoreq (pc2 := 7) [1, 2, 3, 4, 5, 6, 7, 8, 0] (n := 8) (x := v5) (lv2 := [(0, .ref a0), (1, .int x1), (2, .int x2), (3, .int x3), (4, .int x4), (5, .int x5), (6, .int x6), (7, .int x7), (8, va_rf v5)]) (by decide) rfl dX11_best_5 rfl ?_
  refine x_aload_n (pc2 := 8) 0 (n := 0) (x := a0) rfl dX11_best_7 rfl ?_
  refine x_iload_n (pc2 := 9) 2 (n := 2) (x := x2) rfl dX11_best_8 rfl ?_
  refine x_callV (pc2 := 12) (As := [.int x2]) (rest := []) (b := a0) mv_X11_wishAt ml_X11_157 (k4.up p3) rfl rfl (Nat.le_of_ble_eq_true rfl) hd1 dX11_best_9 rfl (ht.mono (fun r6 h7 p8 ht' => ?_))
  clear ht
  obtain ⟨v9, rfl, ht⟩ := ht'
  show Ex G d mX11_best 12 [(0, .ref a0), (1, .int x1), (2, .int x2), (3, .int x3), (4, .int x4), (5, .int x5), (6, .int x6), (7, .int x7), (8, va_rf v5)] [va_rf v9] h7 Q
  refine x_astoreq (pc2 := 14) [1, 2, 3, 4, 5, 6, 7, 8, 9, 0] (n := 9) (x := v9) (lv2 := [(0, .ref a0), (1, .int x1), (2, .int x2), (3, .int x3), (4, .int x4), (5, .int x5), (6, .int x6), (7, .int x7), (8, va_rf v5), (9, va_rf v9)]) (by decide) (by cases v5 <;> rfl) dX11_best_12 rfl ?_
  refine x_aloadq (pc2 := 16) 8 (n := 8) (x := v5) rfl dX11_best_14 rfl ?_
  refine x_ifnull (pc2 := 19) (x := v5) 59 dX11_best_16 (by decide) rfl (fun e10 => ?_) (fun q11 e10 => ?_)
  · replace ht := ht.1 e10
    subst e10
    show Ex G d mX11_best 59 [(0, .ref a0), (1, .int x1), (2, .int x2), (3, .int x3), (4, .int x4), (5, .int x5), (6, .int x6), (7, .int x7), (8, va_rf none), (9, va_rf v9)] [] h7 Q
    refine x_iconst (pc2 := 60) (v := (-1)) (by decide) dX11_best_59 rfl ?_
    exact x_ret (ty := .int) rfl rfl dX11_best_60 ht
  · replace ht := ht.2 q11 e10
    subst e10
    show Ex G d mX11_best 19 [(0, .ref a0), (1, .int x1), (2, .int x2), (3, .int x3), (4, .int x4), (5, .int x5), (6, .int x6), (7, .int x7), (8, .ref q11), (9, va_rf v9)] [] h7 Q
    refine x_aloadq (pc2 := 21) 9 (n := 9) (x := v9) rfl dX11_best_19 rfl ?_
    refine x_ifnull (pc2 := 24) (x := v9) 59 dX11_best_21 (by decide) rfl (fun e12 => ?_) (fun q13 e12 => ?_)
    · replace ht := ht.1 e12
      subst e12
      show Ex G d mX11_best 59 [(0, .ref a0), (1, .int x1), (2, .int x2), (3, .int x3), (4, .int x4), (5, .int x5), (6, .int x6), (7, .int x7), (8, .ref q11), (9, va_rf none)] [] h7 Q
      refine x_iconst (pc2 := 60) (v := (-1)) (by decide) dX11_best_59 rfl ?_
      exact x_ret (ty := .int) rfl rfl dX11_best_60 ht
    · replace ht := ht.2 q13 e12
      subst e12
      show Ex G d mX11_best 24 [(0, .ref a0), (1, .int x1), (2, .int x2), (3, .int x3), (4, .int x4), (5, .int x5), (6, .int x6), (7, .int x7), (8, .ref q11), (9, .ref q13)] [] h7 Q
      refine x_aload_n (pc2 := 25) 0 (n := 0) (x := a0) rfl dX11_best_24 rfl ?_
      refine x_iload_n (pc2 := 26) 3 (n := 3) (x := x3) rfl dX11_best_25 rfl ?_
      refine x_iload (pc2 := 28) 4 (n := 4) (x := x4) rfl dX11_best_26 rfl ?_
      refine x_iload (pc2 := 30) 5 (n := 5) (x := x5) rfl dX11_best_28 rfl ?_
      refine x_callV (pc2 := 33) (As := [.int x3, .int x4, .int x5]) (rest := []) (b := a0) mv_X11_areThere ml_X11_137 ((k4.up p3).up p8) rfl rfl (Nat.le_of_ble_eq_true rfl) hd1 dX11_best_30 rfl (ht.mono (fun r14 h15 p16 ht' => ?_))
      clear ht
      obtain ⟨v17, rfl, ht⟩ := ht'
      show Ex G d mX11_best 33 [(0, .ref a0), (1, .int x1), (2, .int x2), (3, .int x3), (4, .int x4), (5, .int x5), (6, .int x6), (7, .int x7), (8, .ref q11), (9, .ref q13)] [.int v17] h15 Q
      refine x_if_eq (pc2 := 36) 59 dX11_best_33 (by decide) rfl (fun c18 => ?_) (fun c18 => ?_)
      · replace ht := ht.1 c18
        refine x_iconst (pc2 := 60) (v := (-1)) (by decide) dX11_best_59 rfl ?_
        exact x_ret (ty := .int) rfl rfl dX11_best_60 ht
      · replace ht := ht.2 c18
        refine x_iload (pc2 := 38) 6 (n := 6) (x := x6) rfl dX11_best_36 rfl ?_
        refine x_iconst (pc2 := 39) (v := 1) (by decide) dX11_best_38 rfl ?_
        refine x_icmp_lt (pc2 := 42) 59 dX11_best_39 (by decide) rfl (fun c19 => ?_) (fun c19 => ?_)
        · replace ht := ht.1 c19
          refine x_iconst (pc2 := 60) (v := (-1)) (by decide) dX11_best_59 rfl ?_
          exact x_ret (ty := .int) rfl rfl dX11_best_60 ht
        · replace ht := ht.2 c19
          refine x_iload (pc2 := 44) 6 (n := 6) (x := x6) rfl dX11_best_42 rfl ?_
          refine x_iconst (pc2 := 45) (v := 4) (by decide) dX11_best_44 rfl ?_
          refine x_icmp_gt (pc2 := 48) 59 dX11_best_45 (by decide) rfl (fun c20 => ?_) (fun c20 => ?_)
          · replace ht := ht.1 c20
            refine x_iconst (pc2 := 60) (v := (-1)) (by decide) dX11_best_59 rfl ?_
            exact x_ret (ty := .int) rfl rfl dX11_best_60 ht
          · replace ht := ht.2 c20
            refine x_iload (pc2 := 50) 7 (n := 7) (x := x7) rfl dX11_best_48 rfl ?_
            refine x_if_lt (pc2 := 53) 59 dX11_best_50 (by decide) rfl (fun c21 => ?_) (fun c21 => ?_)
            · replace ht := ht.1 c21
              refine x_iconst (pc2 := 60) (v := (-1)) (by decide) dX11_best_59 rfl ?_
              exact x_ret (ty := .int) rfl rfl dX11_best_60 ht
            · replace ht := ht.2 c21
              refine x_iload (pc2 := 55) 7 (n := 7) (x := x7) rfl dX11_best_53 rfl ?_
              refine x_iconst (pc2 := 56) (v := 4) (by decide) dX11_best_55 rfl ?_
              refine x_icmp_le (pc2 := 59) 61 dX11_best_56 (by decide) rfl (fun c22 => ?_) (fun c22 => ?_)
              · replace ht := ht.1 c22
                refine x_aload_n (pc2 := 62) 0 (n := 0) (x := a0) rfl dX11_best_61 rfl ?_
                refine x_aload_n (pc2 := 63) 0 (n := 0) (x := a0) rfl dX11_best_62 rfl ?_
                obtain ⟨q23, e24, ht⟩ := ht
                refine y_getR (pc2 := 66) (κ := 11) (k := 8) fl_X11_62 (by decide) (by decide) (((k4.up p3).up p8).up p16) rfl e24 dX11_best_63 rfl ?_
                refine x_iload_n (pc2 := 67) 3 (n := 3) (x := x3) rfl dX11_best_66 rfl ?_
                refine x_iload (pc2 := 69) 4 (n := 4) (x := x4) rfl dX11_best_67 rfl ?_
                refine x_iload (pc2 := 71) 5 (n := 5) (x := x5) rfl dX11_best_69 rfl ?_
                refine x_callV (pc2 := 74) (As := [.ref q23, .int x3, .int x4, .int x5]) (rest := []) (b := a0) mv_X11_aim ml_X11_379 (((k4.up p3).up p8).up p16) rfl rfl (Nat.le_of_ble_eq_true rfl) hd1 dX11_best_71 rfl (ht.mono (fun r25 h26 p27 ht' => ?_))
                clear ht
                obtain ⟨rfl, ht⟩ := ht'
                show Ex G d mX11_best 74 [(0, .ref a0), (1, .int x1), (2, .int x2), (3, .int x3), (4, .int x4), (5, .int x5), (6, .int x6), (7, .int x7), (8, .ref q11), (9, .ref q13)] [] h26 Q
                refine x_aload_n (pc2 := 75) 0 (n := 0) (x := a0) rfl dX11_best_74 rfl ?_
                refine x_aload (pc2 := 77) 8 (n := 8) (x := q11) rfl dX11_best_75 rfl ?_
                refine x_aload (pc2 := 79) 9 (n := 9) (x := q13) rfl dX11_best_77 rfl ?_
                refine x_aload_n (pc2 := 80) 0 (n := 0) (x := a0) rfl dX11_best_79 rfl ?_
                obtain ⟨q28, e29, ht⟩ := ht
                refine y_getR (pc2 := 83) (κ := 11) (k := 8) fl_X11_62 (by decide) (by decide) ((((k4.up p3).up p8).up p16).up p27) rfl e29 dX11_best_80 rfl ?_
                refine x_iload (pc2 := 85) 6 (n := 6) (x := x6) rfl dX11_best_83 rfl ?_
                refine x_aload_n (pc2 := 86) 0 (n := 0) (x := a0) rfl dX11_best_85 rfl ?_
                obtain ⟨q30, e31, ht⟩ := ht
                refine y_getR (pc2 := 89) (κ := 11) (k := 10) fl_X11_72 (by decide) (by decide) ((((k4.up p3).up p8).up p16).up p27) rfl e31 dX11_best_86 rfl ?_
                refine x_callV (pc2 := 92) (As := [.ref q11, .ref q13, .ref q28, .int x6, .ref q30]) (rest := []) (b := a0) mv_X11_search ml_X11_383 ((((k4.up p3).up p8).up p16).up p27) rfl rfl (Nat.le_of_ble_eq_true rfl) hd1 dX11_best_89 rfl (ht.mono (fun r32 h33 p34 ht' => ?_))
                clear ht
                obtain ⟨rfl, ht⟩ := ht'
                show Ex G d mX11_best 92 [(0, .ref a0), (1, .int x1), (2, .int x2), (3, .int x3), (4, .int x4), (5, .int x5), (6, .int x6), (7, .int x7), (8, .ref q11), (9, .ref q13)] [] h33 Q
                refine x_iload (pc2 := 94) 7 (n := 7) (x := x7) rfl dX11_best_92 rfl ?_
                refine x_iconst (pc2 := 95) (v := 4) (by decide) dX11_best_94 rfl ?_
                refine y_icmp_ne (pc2 := 98) 108 dX11_best_95 (by decide) rfl (fun c35 => ?_) (fun c35 => ?_)
                · replace ht := ht.1 c35
                  refine x_aload_n (pc2 := 109) 0 (n := 0) (x := a0) rfl dX11_best_108 rfl ?_
                  obtain ⟨q36, e37, ht⟩ := ht
                  refine y_getR (pc2 := 112) (κ := 11) (k := 10) fl_X11_72 (by decide) (by decide) (((((k4.up p3).up p8).up p16).up p27).up p34) rfl e37 dX11_best_109 rfl ?_
                  refine x_iload (pc2 := 114) 7 (n := 7) (x := x7) rfl dX11_best_112 rfl ?_
                  obtain ⟨k41, ht⟩ := ht
                  refine x_callV (pc2 := 117) (As := [.int x7]) (rest := []) (b := q36) mv_X0_margin ml_X11_390 k41 rfl rfl (Nat.le_of_ble_eq_true rfl) hd1 dX11_best_114 rfl (ht.mono (fun r38 h39 p40 ht' => ?_))
                  clear ht
                  obtain ⟨v42, rfl, ht⟩ := ht'
                  show Ex G d mX11_best 117 [(0, .ref a0), (1, .int x1), (2, .int x2), (3, .int x3), (4, .int x4), (5, .int x5), (6, .int x6), (7, .int x7), (8, .ref q11), (9, .ref q13)] [.int v42] h39 Q
                  exact x_ret (ty := .int) rfl rfl dX11_best_117 ht
                · replace ht := ht.2 c35
                  refine x_aload_n (pc2 := 99) 0 (n := 0) (x := a0) rfl dX11_best_98 rfl ?_
                  obtain ⟨q43, e44, ht⟩ := ht
                  refine y_getR (pc2 := 102) (κ := 11) (k := 10) fl_X11_72 (by decide) (by decide) (((((k4.up p3).up p8).up p16).up p27).up p34) rfl e44 dX11_best_99 rfl ?_
                  obtain ⟨k45, ht⟩ := ht
                  refine y_getI (pc2 := 105) (κ := 0) (k := 0) fl_X11_387 (by decide) (by decide) k45 rfl dX11_best_102 rfl ?_
                  refine x_goto 117 dX11_best_105 (by decide) ?_
                  exact x_ret (ty := .int) rfl rfl dX11_best_117 ht
              · replace ht := ht.2 c22
                refine x_iconst (pc2 := 60) (v := (-1)) (by decide) dX11_best_59 rfl ?_
                exact x_ret (ty := .int) rfl rfl dX11_best_60 ht
theorem e_X11_best {G : GG} {d : Nat} {h : HP} {Q : Option Value → HP → Prop} {a0 : Nat} {x1 : Int32} {x2 : Int32} {x3 : Int32} {x4 : Int32} {x5 : Int32} {x6 : Int32} {x7 : Int32} (hd1 : 1 ≤ d) (ht : T_X11_best G d h Q a0 x1 x2 x3 x4 x5 x6 x7) : Cal G d mX11_best [.ref a0, .int x1, .int x2, .int x3, .int x4, .int x5, .int x6, .int x7] h Q := cal_of rfl (Nat.le_of_ble_eq_true rfl) (t_X11_best hd1 ht)
def T_X11_ahead (G : GG) (d : Nat) (h : HP) (Q : Option Value → HP → Prop) (a0 : Nat) (x1 : Int32) (x2 : Int32) (x3 : Int32) (x4 : Int32) (x5 : Int32) (x6 : Int32) (x7 : Int32) : Prop :=
  Kd G h a0 11 ∧ Cal G (d - 1) mX11_lawAt [.ref a0, .int x1] h (fun r1 h2 => ∃ v5, r1 = some (va_rf v5) ∧ Cal G (d - 1) mX11_wishAt [.ref a0, .int x2] h2 (fun r6 h7 => ∃ v9, r6 = some (va_rf v9) ∧ ((v5 = none → Q (some (.int (-1))) h7) ∧ (∀ q11, v5 = some q11 → ((v9 = none → Q (some (.int (-1))) h7) ∧ (∀ q13, v9 = some q13 → Cal G (d - 1) mX11_areThere [.ref a0, .int x3, .int x5, .int (-1)] h7 (fun r14 h15 => ∃ v17, r14 = some (.int v17) ∧ ((v17 = 0 → Q (some (.int (-1))) h15) ∧ (¬ v17 = 0 → Cal G (d - 1) mX11_isFamily [.int x4] h15 (fun r19 h20 => ∃ v22, r19 = some (.int v22) ∧ ((v22 = 0 → Q (some (.int (-1))) h20) ∧ (¬ v22 = 0 → ((x4 = x3 → Q (some (.int (-1))) h20) ∧ (¬ x4 = x3 → ((x6 < 1 → Q (some (.int (-1))) h20) ∧ (¬ x6 < 1 → ((2 < x6 → Q (some (.int (-1))) h20) ∧ (¬ 2 < x6 → ((x7 < 0 → Q (some (.int (-1))) h20) ∧ (¬ x7 < 0 → ((x7 ≤ 3 → ∃ q29, hR h20 a0 8 = some q29 ∧ Cal G (d - 1) mX11_aim [.ref a0, .ref q29, .int x3, .int x5, .int (-1)] h20 (fun r31 h32 => r31 = none ∧ ∃ q34, hR h32 a0 10 = some q34 ∧ Kd G h32 q34 0 ∧ Cal G (d - 1) mX0_clear [.ref q34] h32 (fun r36 h37 => r36 = none ∧ Ex G d mX11_ahead 109 [(0, .ref a0), (1, .int x1), (2, .int x2), (3, .int x3), (4, .int x4), (5, .int x5), (6, .int x6), (7, .int x7), (8, .ref q11), (9, .ref q13), (10, .int (((x6 * x6) * x6) * x6)), (11, .int 0)] [] h37 Q))) ∧ (¬ x7 ≤ 3 → Q (some (.int (-1))) h20))))))))))))))))))))))
set_option maxRecDepth 20000 in
theorem t_X11_ahead {G : GG} {d : Nat} {h : HP} {Q : Option Value → HP → Prop} {a0 : Nat} {x1 : Int32} {x2 : Int32} {x3 : Int32} {x4 : Int32} {x5 : Int32} {x6 : Int32} {x7 : Int32} (hd1 : 1 ≤ d) (ht : T_X11_ahead G d h Q a0 x1 x2 x3 x4 x5 x6 x7) : Ex G d mX11_ahead 0 [(0, .ref a0), (1, .int x1), (2, .int x2), (3, .int x3), (4, .int x4), (5, .int x5), (6, .int x6), (7, .int x7)] [] h Q := by
  unfold T_X11_ahead at ht
  refine x_aload_n (pc2 := 1) 0 (n := 0) (x := a0) rfl dX11_ahead_0 rfl ?_
  refine x_iload_n (pc2 := 2) 1 (n := 1) (x := x1) rfl dX11_ahead_1 rfl ?_
  obtain ⟨k4, ht⟩ := ht
  refine x_callV (pc2 := 5) (As := [.int x1]) (rest := []) (b := a0) mv_X11_lawAt ml_X11_133 k4 rfl rfl (Nat.le_of_ble_eq_true rfl) hd1 dX11_ahead_2 rfl (ht.mono (fun r1 h2 p3 ht' => ?_))
  clear ht
  obtain ⟨v5, rfl, ht⟩ := ht'
  show Ex G d mX11_ahead 5 [(0, .ref a0), (1, .int x1), (2, .int x2), (3, .int x3), (4, .int x4), (5, .int x5), (6, .int x6), (7, .int x7)] [va_rf v5] h2 Q
  refine x_astoreq (pc2 := 7) [1, 2, 3, 4, 5, 6, 7, 8, 0] (n := 8) (x := v5) (lv2 := [(0, .ref a0), (1, .int x1), (2, .int x2), (3, .int x3), (4, .int x4), (5, .int x5), (6, .int x6), (7, .int x7), (8, va_rf v5)]) (by decide) rfl dX11_ahead_5 rfl ?_
  refine x_aload_n (pc2 := 8) 0 (n := 0) (x := a0) rfl dX11_ahead_7 rfl ?_
  refine x_iload_n (pc2 := 9) 2 (n := 2) (x := x2) rfl dX11_ahead_8 rfl ?_
  refine x_callV (pc2 := 12) (As := [.int x2]) (rest := []) (b := a0) mv_X11_wishAt ml_X11_157 (k4.up p3) rfl rfl (Nat.le_of_ble_eq_true rfl) hd1 dX11_ahead_9 rfl (ht.mono (fun r6 h7 p8 ht' => ?_))
  clear ht
  obtain ⟨v9, rfl, ht⟩ := ht'
  show Ex G d mX11_ahead 12 [(0, .ref a0), (1, .int x1), (2, .int x2), (3, .int x3), (4, .int x4), (5, .int x5), (6, .int x6), (7, .int x7), (8, va_rf v5)] [va_rf v9] h7 Q
  refine x_astoreq (pc2 := 14) [1, 2, 3, 4, 5, 6, 7, 8, 9, 0] (n := 9) (x := v9) (lv2 := [(0, .ref a0), (1, .int x1), (2, .int x2), (3, .int x3), (4, .int x4), (5, .int x5), (6, .int x6), (7, .int x7), (8, va_rf v5), (9, va_rf v9)]) (by decide) (by cases v5 <;> rfl) dX11_ahead_12 rfl ?_
  refine x_aloadq (pc2 := 16) 8 (n := 8) (x := v5) rfl dX11_ahead_14 rfl ?_
  refine x_ifnull (pc2 := 19) (x := v5) 72 dX11_ahead_16 (by decide) rfl (fun e10 => ?_) (fun q11 e10 => ?_)
  · replace ht := ht.1 e10
    subst e10
    show Ex G d mX11_ahead 72 [(0, .ref a0), (1, .int x1), (2, .int x2), (3, .int x3), (4, .int x4), (5, .int x5), (6, .int x6), (7, .int x7), (8, va_rf none), (9, va_rf v9)] [] h7 Q
    refine x_iconst (pc2 := 73) (v := (-1)) (by decide) dX11_ahead_72 rfl ?_
    exact x_ret (ty := .int) rfl rfl dX11_ahead_73 ht
  · replace ht := ht.2 q11 e10
    subst e10
    show Ex G d mX11_ahead 19 [(0, .ref a0), (1, .int x1), (2, .int x2), (3, .int x3), (4, .int x4), (5, .int x5), (6, .int x6), (7, .int x7), (8, .ref q11), (9, va_rf v9)] [] h7 Q
    refine x_aloadq (pc2 := 21) 9 (n := 9) (x := v9) rfl dX11_ahead_19 rfl ?_
    refine x_ifnull (pc2 := 24) (x := v9) 72 dX11_ahead_21 (by decide) rfl (fun e12 => ?_) (fun q13 e12 => ?_)
    · replace ht := ht.1 e12
      subst e12
      show Ex G d mX11_ahead 72 [(0, .ref a0), (1, .int x1), (2, .int x2), (3, .int x3), (4, .int x4), (5, .int x5), (6, .int x6), (7, .int x7), (8, .ref q11), (9, va_rf none)] [] h7 Q
      refine x_iconst (pc2 := 73) (v := (-1)) (by decide) dX11_ahead_72 rfl ?_
      exact x_ret (ty := .int) rfl rfl dX11_ahead_73 ht
    · replace ht := ht.2 q13 e12
      subst e12
      show Ex G d mX11_ahead 24 [(0, .ref a0), (1, .int x1), (2, .int x2), (3, .int x3), (4, .int x4), (5, .int x5), (6, .int x6), (7, .int x7), (8, .ref q11), (9, .ref q13)] [] h7 Q
      refine x_aload_n (pc2 := 25) 0 (n := 0) (x := a0) rfl dX11_ahead_24 rfl ?_
      refine x_iload_n (pc2 := 26) 3 (n := 3) (x := x3) rfl dX11_ahead_25 rfl ?_
      refine x_iload (pc2 := 28) 5 (n := 5) (x := x5) rfl dX11_ahead_26 rfl ?_
      refine x_iconst (pc2 := 29) (v := (-1)) (by decide) dX11_ahead_28 rfl ?_
      refine x_callV (pc2 := 32) (As := [.int x3, .int x5, .int (-1)]) (rest := []) (b := a0) mv_X11_areThere ml_X11_137 ((k4.up p3).up p8) rfl rfl (Nat.le_of_ble_eq_true rfl) hd1 dX11_ahead_29 rfl (ht.mono (fun r14 h15 p16 ht' => ?_))
      clear ht
      obtain ⟨v17, rfl, ht⟩ := ht'
      show Ex G d mX11_ahead 32 [(0, .ref a0), (1, .int x1), (2, .int x2), (3, .int x3), (4, .int x4), (5, .int x5), (6, .int x6), (7, .int x7), (8, .ref q11), (9, .ref q13)] [.int v17] h15 Q
      refine x_if_eq (pc2 := 35) 72 dX11_ahead_32 (by decide) rfl (fun c18 => ?_) (fun c18 => ?_)
      · replace ht := ht.1 c18
        refine x_iconst (pc2 := 73) (v := (-1)) (by decide) dX11_ahead_72 rfl ?_
        exact x_ret (ty := .int) rfl rfl dX11_ahead_73 ht
      · replace ht := ht.2 c18
        refine x_iload (pc2 := 37) 4 (n := 4) (x := x4) rfl dX11_ahead_35 rfl ?_
        refine x_callS (pc2 := 40) (As := [.int x4]) (rest := []) ms_X11_isFamily ml_X11_125 rfl rfl (Nat.le_of_ble_eq_true rfl) hd1 dX11_ahead_37 rfl (ht.mono (fun r19 h20 p21 ht' => ?_))
        clear ht
        obtain ⟨v22, rfl, ht⟩ := ht'
        show Ex G d mX11_ahead 40 [(0, .ref a0), (1, .int x1), (2, .int x2), (3, .int x3), (4, .int x4), (5, .int x5), (6, .int x6), (7, .int x7), (8, .ref q11), (9, .ref q13)] [.int v22] h20 Q
        refine x_if_eq (pc2 := 43) 72 dX11_ahead_40 (by decide) rfl (fun c23 => ?_) (fun c23 => ?_)
        · replace ht := ht.1 c23
          refine x_iconst (pc2 := 73) (v := (-1)) (by decide) dX11_ahead_72 rfl ?_
          exact x_ret (ty := .int) rfl rfl dX11_ahead_73 ht
        · replace ht := ht.2 c23
          refine x_iload (pc2 := 45) 4 (n := 4) (x := x4) rfl dX11_ahead_43 rfl ?_
          refine x_iload_n (pc2 := 46) 3 (n := 3) (x := x3) rfl dX11_ahead_45 rfl ?_
          refine x_icmp_eq (pc2 := 49) 72 dX11_ahead_46 (by decide) rfl (fun c24 => ?_) (fun c24 => ?_)
          · replace ht := ht.1 c24
            refine x_iconst (pc2 := 73) (v := (-1)) (by decide) dX11_ahead_72 rfl ?_
            exact x_ret (ty := .int) rfl rfl dX11_ahead_73 ht
          · replace ht := ht.2 c24
            refine x_iload (pc2 := 51) 6 (n := 6) (x := x6) rfl dX11_ahead_49 rfl ?_
            refine x_iconst (pc2 := 52) (v := 1) (by decide) dX11_ahead_51 rfl ?_
            refine x_icmp_lt (pc2 := 55) 72 dX11_ahead_52 (by decide) rfl (fun c25 => ?_) (fun c25 => ?_)
            · replace ht := ht.1 c25
              refine x_iconst (pc2 := 73) (v := (-1)) (by decide) dX11_ahead_72 rfl ?_
              exact x_ret (ty := .int) rfl rfl dX11_ahead_73 ht
            · replace ht := ht.2 c25
              refine x_iload (pc2 := 57) 6 (n := 6) (x := x6) rfl dX11_ahead_55 rfl ?_
              refine x_iconst (pc2 := 58) (v := 2) (by decide) dX11_ahead_57 rfl ?_
              refine x_icmp_gt (pc2 := 61) 72 dX11_ahead_58 (by decide) rfl (fun c26 => ?_) (fun c26 => ?_)
              · replace ht := ht.1 c26
                refine x_iconst (pc2 := 73) (v := (-1)) (by decide) dX11_ahead_72 rfl ?_
                exact x_ret (ty := .int) rfl rfl dX11_ahead_73 ht
              · replace ht := ht.2 c26
                refine x_iload (pc2 := 63) 7 (n := 7) (x := x7) rfl dX11_ahead_61 rfl ?_
                refine x_if_lt (pc2 := 66) 72 dX11_ahead_63 (by decide) rfl (fun c27 => ?_) (fun c27 => ?_)
                · replace ht := ht.1 c27
                  refine x_iconst (pc2 := 73) (v := (-1)) (by decide) dX11_ahead_72 rfl ?_
                  exact x_ret (ty := .int) rfl rfl dX11_ahead_73 ht
                · replace ht := ht.2 c27
                  refine x_iload (pc2 := 68) 7 (n := 7) (x := x7) rfl dX11_ahead_66 rfl ?_
                  refine x_iconst (pc2 := 69) (v := 3) (by decide) dX11_ahead_68 rfl ?_
                  refine x_icmp_le (pc2 := 72) 74 dX11_ahead_69 (by decide) rfl (fun c28 => ?_) (fun c28 => ?_)
                  · replace ht := ht.1 c28
                    refine x_aload_n (pc2 := 75) 0 (n := 0) (x := a0) rfl dX11_ahead_74 rfl ?_
                    refine x_aload_n (pc2 := 76) 0 (n := 0) (x := a0) rfl dX11_ahead_75 rfl ?_
                    obtain ⟨q29, e30, ht⟩ := ht
                    refine y_getR (pc2 := 79) (κ := 11) (k := 8) fl_X11_62 (by decide) (by decide) ((((k4.up p3).up p8).up p16).up p21) rfl e30 dX11_ahead_76 rfl ?_
                    refine x_iload_n (pc2 := 80) 3 (n := 3) (x := x3) rfl dX11_ahead_79 rfl ?_
                    refine x_iload (pc2 := 82) 5 (n := 5) (x := x5) rfl dX11_ahead_80 rfl ?_
                    refine x_iconst (pc2 := 83) (v := (-1)) (by decide) dX11_ahead_82 rfl ?_
                    refine x_callV (pc2 := 86) (As := [.ref q29, .int x3, .int x5, .int (-1)]) (rest := []) (b := a0) mv_X11_aim ml_X11_379 ((((k4.up p3).up p8).up p16).up p21) rfl rfl (Nat.le_of_ble_eq_true rfl) hd1 dX11_ahead_83 rfl (ht.mono (fun r31 h32 p33 ht' => ?_))
                    clear ht
                    obtain ⟨rfl, ht⟩ := ht'
                    show Ex G d mX11_ahead 86 [(0, .ref a0), (1, .int x1), (2, .int x2), (3, .int x3), (4, .int x4), (5, .int x5), (6, .int x6), (7, .int x7), (8, .ref q11), (9, .ref q13)] [] h32 Q
                    refine x_aload_n (pc2 := 87) 0 (n := 0) (x := a0) rfl dX11_ahead_86 rfl ?_
                    obtain ⟨q34, e35, ht⟩ := ht
                    refine y_getR (pc2 := 90) (κ := 11) (k := 10) fl_X11_72 (by decide) (by decide) (((((k4.up p3).up p8).up p16).up p21).up p33) rfl e35 dX11_ahead_87 rfl ?_
                    obtain ⟨k39, ht⟩ := ht
                    refine x_callV (pc2 := 93) (As := []) (rest := []) (b := q34) mv_X0_clear ml_X11_393 k39 rfl rfl (Nat.le_of_ble_eq_true rfl) hd1 dX11_ahead_90 rfl (ht.mono (fun r36 h37 p38 ht' => ?_))
                    clear ht
                    obtain ⟨rfl, ht⟩ := ht'
                    show Ex G d mX11_ahead 93 [(0, .ref a0), (1, .int x1), (2, .int x2), (3, .int x3), (4, .int x4), (5, .int x5), (6, .int x6), (7, .int x7), (8, .ref q11), (9, .ref q13)] [] h37 Q
                    refine x_iload (pc2 := 95) 6 (n := 6) (x := x6) rfl dX11_ahead_93 rfl ?_
                    refine x_iload (pc2 := 97) 6 (n := 6) (x := x6) rfl dX11_ahead_95 rfl ?_
                    refine x_imul (pc2 := 98) dX11_ahead_97 rfl ?_
                    refine x_iload (pc2 := 100) 6 (n := 6) (x := x6) rfl dX11_ahead_98 rfl ?_
                    refine x_imul (pc2 := 101) dX11_ahead_100 rfl ?_
                    refine x_iload (pc2 := 103) 6 (n := 6) (x := x6) rfl dX11_ahead_101 rfl ?_
                    refine x_imul (pc2 := 104) dX11_ahead_103 rfl ?_
                    refine x_istore (pc2 := 106) [1, 2, 3, 4, 5, 6, 7, 8, 9, 10, 0] (n := 10) (x := (((x6 * x6) * x6) * x6)) (lv2 := [(0, .ref a0), (1, .int x1), (2, .int x2), (3, .int x3), (4, .int x4), (5, .int x5), (6, .int x6), (7, .int x7), (8, .ref q11), (9, .ref q13), (10, .int (((x6 * x6) * x6) * x6))]) (by decide) rfl dX11_ahead_104 rfl ?_
                    refine x_iconst (pc2 := 107) (v := 0) (by decide) dX11_ahead_106 rfl ?_
                    refine x_istore (pc2 := 109) [1, 2, 3, 4, 5, 6, 7, 8, 9, 10, 11, 0] (n := 11) (x := 0) (lv2 := [(0, .ref a0), (1, .int x1), (2, .int x2), (3, .int x3), (4, .int x4), (5, .int x5), (6, .int x6), (7, .int x7), (8, .ref q11), (9, .ref q13), (10, .int (((x6 * x6) * x6) * x6)), (11, .int 0)]) (by decide) rfl dX11_ahead_107 rfl ?_
                    exact ht
                  · replace ht := ht.2 c28
                    refine x_iconst (pc2 := 73) (v := (-1)) (by decide) dX11_ahead_72 rfl ?_
                    exact x_ret (ty := .int) rfl rfl dX11_ahead_73 ht
theorem e_X11_ahead {G : GG} {d : Nat} {h : HP} {Q : Option Value → HP → Prop} {a0 : Nat} {x1 : Int32} {x2 : Int32} {x3 : Int32} {x4 : Int32} {x5 : Int32} {x6 : Int32} {x7 : Int32} (hd1 : 1 ≤ d) (ht : T_X11_ahead G d h Q a0 x1 x2 x3 x4 x5 x6 x7) : Cal G d mX11_ahead [.ref a0, .int x1, .int x2, .int x3, .int x4, .int x5, .int x6, .int x7] h Q := cal_of rfl (Nat.le_of_ble_eq_true rfl) (t_X11_ahead hd1 ht)
def T_X11_ahead_109 (G : GG) (d : Nat) (h : HP) (Q : Option Value → HP → Prop) (a0 : Nat) (x1 : Int32) (x2 : Int32) (x3 : Int32) (x4 : Int32) (x5 : Int32) (x6 : Int32) (x7 : Int32) (a8 : Nat) (a9 : Nat) (x10 : Int32) (x11 : Int32) : Prop :=
  ((x10 ≤ x11 → Kd G h a0 11 ∧ ∃ q3, hR h a0 10 = some q3 ∧ Kd G h q3 0 ∧ Cal G (d - 1) mX0_margin [.ref q3, .int x7] h (fun r5 h6 => ∃ v9, r5 = some (.int v9) ∧ Q (some (.int v9)) h6)) ∧ (¬ x10 ≤ x11 → Kd G h a0 11 ∧ ∃ q11, hR h a0 8 = some q11 ∧ Kd G h q11 3 ∧ Cal G (d - 1) mX3_spreadBy [.ref q11, .int x11, .int x6] h (fun r13 h14 => r13 = none ∧ ∃ q17, hR h14 a0 8 = some q17 ∧ Cal G (d - 1) mX11_mayCome [.ref a0, .ref a8, .ref q17] h14 (fun r19 h20 => ∃ v22, r19 = some (.int v22) ∧ ((v22 = 0 → Ex G d mX11_ahead 109 [(0, .ref a0), (1, .int x1), (2, .int x2), (3, .int x3), (4, .int x4), (5, .int x5), (6, .int x6), (7, .int x7), (8, .ref a8), (9, .ref a9), (10, .int x10), (11, .int (x11 + 1))] [] h20 Q) ∧ (¬ v22 = 0 → ∃ q24, hR h20 a0 8 = some q24 ∧ Kd G h20 q24 3 ∧ ∃ q27, hR h20 q24 17 = some q27 ∧ Kd G h20 a9 4 ∧ Cal G (d - 1) mX4_total [.ref a9, .ref q27] h20 (fun r29 h30 => ∃ v33, r29 = some (.long v33) ∧ ∃ q34, hR h30 a0 10 = some q34 ∧ Cal G (d - 1) mX11_rivalWish [.ref a0, .ref a8, .ref a9, .int x4, .int x6] h30 (fun r36 h37 => ∃ v39, r36 = some (.long v39) ∧ ∃ q40, hR h37 a0 8 = some q40 ∧ Kd G h37 q34 0 ∧ Cal G (d - 1) mX0_weigh [.ref q34, .long (v33 - v39), .ref q40] h37 (fun r42 h43 => r42 = none ∧ Ex G d mX11_ahead 109 [(0, .ref a0), (1, .int x1), (2, .int x2), (3, .int x3), (4, .int x4), (5, .int x5), (6, .int x6), (7, .int x7), (8, .ref a8), (9, .ref a9), (10, .int x10), (11, .int (x11 + 1))] [] h43 Q)))))))))
set_option maxRecDepth 20000 in
theorem t_X11_ahead_109 {G : GG} {d : Nat} {h : HP} {Q : Option Value → HP → Prop} {a0 : Nat} {x1 : Int32} {x2 : Int32} {x3 : Int32} {x4 : Int32} {x5 : Int32} {x6 : Int32} {x7 : Int32} {a8 : Nat} {a9 : Nat} {x10 : Int32} {x11 : Int32} (hd1 : 1 ≤ d) (ht : T_X11_ahead_109 G d h Q a0 x1 x2 x3 x4 x5 x6 x7 a8 a9 x10 x11) : Ex G d mX11_ahead 109 [(0, .ref a0), (1, .int x1), (2, .int x2), (3, .int x3), (4, .int x4), (5, .int x5), (6, .int x6), (7, .int x7), (8, .ref a8), (9, .ref a9), (10, .int x10), (11, .int x11)] [] h Q := by
  unfold T_X11_ahead_109 at ht
  refine x_iload (pc2 := 111) 11 (n := 11) (x := x11) rfl dX11_ahead_109 rfl ?_
  refine x_iload (pc2 := 113) 10 (n := 10) (x := x10) rfl dX11_ahead_111 rfl ?_
  refine x_icmp_ge (pc2 := 116) 186 dX11_ahead_113 (by decide) rfl (fun c1 => ?_) (fun c1 => ?_)
  · replace ht := ht.1 c1
    refine x_aload_n (pc2 := 187) 0 (n := 0) (x := a0) rfl dX11_ahead_186 rfl ?_
    obtain ⟨k2, ht⟩ := ht
    obtain ⟨q3, e4, ht⟩ := ht
    refine y_getR (pc2 := 190) (κ := 11) (k := 10) fl_X11_72 (by decide) (by decide) k2 rfl e4 dX11_ahead_187 rfl ?_
    refine x_iload (pc2 := 192) 7 (n := 7) (x := x7) rfl dX11_ahead_190 rfl ?_
    obtain ⟨k8, ht⟩ := ht
    refine x_callV (pc2 := 195) (As := [.int x7]) (rest := []) (b := q3) mv_X0_margin ml_X11_390 k8 rfl rfl (Nat.le_of_ble_eq_true rfl) hd1 dX11_ahead_192 rfl (ht.mono (fun r5 h6 p7 ht' => ?_))
    clear ht
    obtain ⟨v9, rfl, ht⟩ := ht'
    show Ex G d mX11_ahead 195 [(0, .ref a0), (1, .int x1), (2, .int x2), (3, .int x3), (4, .int x4), (5, .int x5), (6, .int x6), (7, .int x7), (8, .ref a8), (9, .ref a9), (10, .int x10), (11, .int x11)] [.int v9] h6 Q
    exact x_ret (ty := .int) rfl rfl dX11_ahead_195 ht
  · replace ht := ht.2 c1
    refine x_aload_n (pc2 := 117) 0 (n := 0) (x := a0) rfl dX11_ahead_116 rfl ?_
    obtain ⟨k10, ht⟩ := ht
    obtain ⟨q11, e12, ht⟩ := ht
    refine y_getR (pc2 := 120) (κ := 11) (k := 8) fl_X11_62 (by decide) (by decide) k10 rfl e12 dX11_ahead_117 rfl ?_
    refine x_iload (pc2 := 122) 11 (n := 11) (x := x11) rfl dX11_ahead_120 rfl ?_
    refine x_iload (pc2 := 124) 6 (n := 6) (x := x6) rfl dX11_ahead_122 rfl ?_
    obtain ⟨k16, ht⟩ := ht
    refine x_callV (pc2 := 127) (As := [.int x11, .int x6]) (rest := []) (b := q11) mv_X3_spreadBy ml_X11_396 k16 rfl rfl (Nat.le_of_ble_eq_true rfl) hd1 dX11_ahead_124 rfl (ht.mono (fun r13 h14 p15 ht' => ?_))
    clear ht
    obtain ⟨rfl, ht⟩ := ht'
    show Ex G d mX11_ahead 127 [(0, .ref a0), (1, .int x1), (2, .int x2), (3, .int x3), (4, .int x4), (5, .int x5), (6, .int x6), (7, .int x7), (8, .ref a8), (9, .ref a9), (10, .int x10), (11, .int x11)] [] h14 Q
    refine x_aload_n (pc2 := 128) 0 (n := 0) (x := a0) rfl dX11_ahead_127 rfl ?_
    refine x_aload (pc2 := 130) 8 (n := 8) (x := a8) rfl dX11_ahead_128 rfl ?_
    refine x_aload_n (pc2 := 131) 0 (n := 0) (x := a0) rfl dX11_ahead_130 rfl ?_
    obtain ⟨q17, e18, ht⟩ := ht
    refine y_getR (pc2 := 134) (κ := 11) (k := 8) fl_X11_62 (by decide) (by decide) (k10.up p15) rfl e18 dX11_ahead_131 rfl ?_
    refine x_callV (pc2 := 137) (As := [.ref a8, .ref q17]) (rest := []) (b := a0) mv_X11_mayCome ml_X11_145 (k10.up p15) rfl rfl (Nat.le_of_ble_eq_true rfl) hd1 dX11_ahead_134 rfl (ht.mono (fun r19 h20 p21 ht' => ?_))
    clear ht
    obtain ⟨v22, rfl, ht⟩ := ht'
    show Ex G d mX11_ahead 137 [(0, .ref a0), (1, .int x1), (2, .int x2), (3, .int x3), (4, .int x4), (5, .int x5), (6, .int x6), (7, .int x7), (8, .ref a8), (9, .ref a9), (10, .int x10), (11, .int x11)] [.int v22] h20 Q
    refine x_if_eq (pc2 := 140) 180 dX11_ahead_137 (by decide) rfl (fun c23 => ?_) (fun c23 => ?_)
    · replace ht := ht.1 c23
      refine x_iinc (pc2 := 183) 11 [1, 2, 3, 4, 5, 6, 7, 8, 9, 10, 11, 0] (i := 11) (x := x11) (v := (x11 + 1)) (lv2 := [(0, .ref a0), (1, .int x1), (2, .int x2), (3, .int x3), (4, .int x4), (5, .int x5), (6, .int x6), (7, .int x7), (8, .ref a8), (9, .ref a9), (10, .int x10), (11, .int (x11 + 1))]) rfl (iinc_eq (by decide) _) (by decide) rfl dX11_ahead_180 rfl ?_
      refine x_goto 109 dX11_ahead_183 (by decide) ?_
      exact ht
    · replace ht := ht.2 c23
      refine x_aload (pc2 := 142) 9 (n := 9) (x := a9) rfl dX11_ahead_140 rfl ?_
      refine x_aload_n (pc2 := 143) 0 (n := 0) (x := a0) rfl dX11_ahead_142 rfl ?_
      obtain ⟨q24, e25, ht⟩ := ht
      refine y_getR (pc2 := 146) (κ := 11) (k := 8) fl_X11_62 (by decide) (by decide) ((k10.up p15).up p21) rfl e25 dX11_ahead_143 rfl ?_
      obtain ⟨k26, ht⟩ := ht
      obtain ⟨q27, e28, ht⟩ := ht
      refine y_getR (pc2 := 149) (κ := 3) (k := 17) fl_X11_168 (by decide) (by decide) k26 rfl e28 dX11_ahead_146 rfl ?_
      obtain ⟨k32, ht⟩ := ht
      refine x_callV (pc2 := 152) (As := [.ref q27]) (rest := []) (b := a9) mv_X4_total ml_X11_172 k32 rfl rfl (Nat.le_of_ble_eq_true rfl) hd1 dX11_ahead_149 rfl (ht.mono (fun r29 h30 p31 ht' => ?_))
      clear ht
      obtain ⟨v33, rfl, ht⟩ := ht'
      show Ex G d mX11_ahead 152 [(0, .ref a0), (1, .int x1), (2, .int x2), (3, .int x3), (4, .int x4), (5, .int x5), (6, .int x6), (7, .int x7), (8, .ref a8), (9, .ref a9), (10, .int x10), (11, .int x11)] [.long v33] h30 Q
      refine x_lstore (pc2 := 154) [1, 2, 3, 4, 5, 6, 7, 8, 9, 10, 11, 12, 0] (n := 12) (x := v33) (lv2 := [(0, .ref a0), (1, .int x1), (2, .int x2), (3, .int x3), (4, .int x4), (5, .int x5), (6, .int x6), (7, .int x7), (8, .ref a8), (9, .ref a9), (10, .int x10), (11, .int x11), (12, .long v33)]) (by decide) rfl dX11_ahead_152 rfl ?_
      refine x_aload_n (pc2 := 155) 0 (n := 0) (x := a0) rfl dX11_ahead_154 rfl ?_
      obtain ⟨q34, e35, ht⟩ := ht
      refine y_getR (pc2 := 158) (κ := 11) (k := 10) fl_X11_72 (by decide) (by decide) (((k10.up p15).up p21).up p31) rfl e35 dX11_ahead_155 rfl ?_
      refine x_lload (pc2 := 160) 12 (n := 12) (x := v33) rfl dX11_ahead_158 rfl ?_
      refine x_aload_n (pc2 := 161) 0 (n := 0) (x := a0) rfl dX11_ahead_160 rfl ?_
      refine x_aload (pc2 := 163) 8 (n := 8) (x := a8) rfl dX11_ahead_161 rfl ?_
      refine x_aload (pc2 := 165) 9 (n := 9) (x := a9) rfl dX11_ahead_163 rfl ?_
      refine x_iload (pc2 := 167) 4 (n := 4) (x := x4) rfl dX11_ahead_165 rfl ?_
      refine x_iload (pc2 := 169) 6 (n := 6) (x := x6) rfl dX11_ahead_167 rfl ?_
      refine x_callV (pc2 := 172) (As := [.ref a8, .ref a9, .int x4, .int x6]) (rest := [.long v33, .ref q34]) (b := a0) mv_X11_rivalWish ml_X11_400 (((k10.up p15).up p21).up p31) rfl rfl (Nat.le_of_ble_eq_true rfl) hd1 dX11_ahead_169 rfl (ht.mono (fun r36 h37 p38 ht' => ?_))
      clear ht
      obtain ⟨v39, rfl, ht⟩ := ht'
      show Ex G d mX11_ahead 172 [(0, .ref a0), (1, .int x1), (2, .int x2), (3, .int x3), (4, .int x4), (5, .int x5), (6, .int x6), (7, .int x7), (8, .ref a8), (9, .ref a9), (10, .int x10), (11, .int x11), (12, .long v33)] [.long v39, .long v33, .ref q34] h37 Q
      refine x_lsub (pc2 := 173) dX11_ahead_172 rfl ?_
      refine x_aload_n (pc2 := 174) 0 (n := 0) (x := a0) rfl dX11_ahead_173 rfl ?_
      obtain ⟨q40, e41, ht⟩ := ht
      refine y_getR (pc2 := 177) (κ := 11) (k := 8) fl_X11_62 (by decide) (by decide) ((((k10.up p15).up p21).up p31).up p38) rfl e41 dX11_ahead_174 rfl ?_
      obtain ⟨k45, ht⟩ := ht
      refine x_callV (pc2 := 180) (As := [.long (v33 - v39), .ref q40]) (rest := []) (b := q34) mv_X0_weigh ml_X11_404 k45 rfl rfl (Nat.le_of_ble_eq_true rfl) hd1 dX11_ahead_177 rfl (ht.mono (fun r42 h43 p44 ht' => ?_))
      clear ht
      obtain ⟨rfl, ht⟩ := ht'
      show Ex G d mX11_ahead 180 [(0, .ref a0), (1, .int x1), (2, .int x2), (3, .int x3), (4, .int x4), (5, .int x5), (6, .int x6), (7, .int x7), (8, .ref a8), (9, .ref a9), (10, .int x10), (11, .int x11), (12, .long v33)] [] h43 Q
      refine x_iinc (pc2 := 183) 11 [1, 2, 3, 4, 5, 6, 7, 8, 9, 10, 11, 0, 12] (i := 11) (x := x11) (v := (x11 + 1)) (lv2 := [(0, .ref a0), (1, .int x1), (2, .int x2), (3, .int x3), (4, .int x4), (5, .int x5), (6, .int x6), (7, .int x7), (8, .ref a8), (9, .ref a9), (10, .int x10), (11, .int (x11 + 1)), (12, .long v33)]) rfl (iinc_eq (by decide) _) (by decide) rfl dX11_ahead_180 rfl ?_
      refine x_goto 109 dX11_ahead_183 (by decide) ?_
      refine x_sub [0, 1, 2, 3, 4, 5, 6, 7, 8, 9, 10, 11] (lv2 := [(0, .ref a0), (1, .int x1), (2, .int x2), (3, .int x3), (4, .int x4), (5, .int x5), (6, .int x6), (7, .int x7), (8, .ref a8), (9, .ref a9), (10, .int x10), (11, .int (x11 + 1))]) rfl ?_
      exact ht
def T_X11_rivalWish (G : GG) (d : Nat) (h : HP) (Q : Option Value → HP → Prop) (a0 : Nat) (a1 : Nat) (a2 : Nat) (x3 : Int32) (x4 : Int32) : Prop :=
  Kd G h a0 11 ∧ ∃ q2, hR h a0 12 = some q2 ∧ ∃ q4, hR h a0 8 = some q4 ∧ Kd G h q2 6 ∧ Cal G (d - 1) mX6_suppose [.ref q2, .ref q4] h (fun r6 h7 => r6 = none ∧ ∃ q10, hR h7 a0 9 = some q10 ∧ Cal G (d - 1) mX11_aim [.ref a0, .ref q10, .int x3, .int 30, .int (-1)] h7 (fun r12 h13 => r12 = none ∧ ∃ q15, hR h13 a0 9 = some q15 ∧ ∃ q17, hR h13 a0 11 = some q17 ∧ Cal G (d - 1) mX11_search [.ref a0, .ref a1, .ref a2, .ref q15, .int x4, .ref q17] h13 (fun r19 h20 => r19 = none ∧ ∃ q22, hR h20 a0 12 = some q22 ∧ ∃ q24, hR h20 a0 8 = some q24 ∧ Kd G h20 q24 3 ∧ Kd G h20 q22 6 ∧ Cal G (d - 1) mX6_forget [.ref q22, .int (hI h20 q24 5)] h20 (fun r27 h28 => r27 = none ∧ ∃ q31, hR h28 a0 11 = some q31 ∧ Kd G h28 q31 0 ∧ ((¬ (hI h28 q31 0) = 0 → Q (some (.long (mxL 0 (hL h28 q31 1)))) h28) ∧ ((hI h28 q31 0) = 0 → Q (some (.long 0)) h28))))))
set_option maxRecDepth 20000 in
theorem t_X11_rivalWish {G : GG} {d : Nat} {h : HP} {Q : Option Value → HP → Prop} {a0 : Nat} {a1 : Nat} {a2 : Nat} {x3 : Int32} {x4 : Int32} (hd1 : 1 ≤ d) (ht : T_X11_rivalWish G d h Q a0 a1 a2 x3 x4) : Ex G d mX11_rivalWish 0 [(0, .ref a0), (1, .ref a1), (2, .ref a2), (3, .int x3), (4, .int x4)] [] h Q := by
  unfold T_X11_rivalWish at ht
  refine x_aload_n (pc2 := 1) 0 (n := 0) (x := a0) rfl dX11_rivalWish_0 rfl ?_
  obtain ⟨k1, ht⟩ := ht
  obtain ⟨q2, e3, ht⟩ := ht
  refine y_getR (pc2 := 4) (κ := 11) (k := 12) fl_X11_80 (by decide) (by decide) k1 rfl e3 dX11_rivalWish_1 rfl ?_
  refine x_aload_n (pc2 := 5) 0 (n := 0) (x := a0) rfl dX11_rivalWish_4 rfl ?_
  obtain ⟨q4, e5, ht⟩ := ht
  refine y_getR (pc2 := 8) (κ := 11) (k := 8) fl_X11_62 (by decide) (by decide) k1 rfl e5 dX11_rivalWish_5 rfl ?_
  obtain ⟨k9, ht⟩ := ht
  refine x_callV (pc2 := 11) (As := [.ref q4]) (rest := []) (b := q2) mv_X6_suppose ml_X11_408 k9 rfl rfl (Nat.le_of_ble_eq_true rfl) hd1 dX11_rivalWish_8 rfl (ht.mono (fun r6 h7 p8 ht' => ?_))
  clear ht
  obtain ⟨rfl, ht⟩ := ht'
  show Ex G d mX11_rivalWish 11 [(0, .ref a0), (1, .ref a1), (2, .ref a2), (3, .int x3), (4, .int x4)] [] h7 Q
  refine x_aload_n (pc2 := 12) 0 (n := 0) (x := a0) rfl dX11_rivalWish_11 rfl ?_
  refine x_aload_n (pc2 := 13) 0 (n := 0) (x := a0) rfl dX11_rivalWish_12 rfl ?_
  obtain ⟨q10, e11, ht⟩ := ht
  refine y_getR (pc2 := 16) (κ := 11) (k := 9) fl_X11_66 (by decide) (by decide) (k1.up p8) rfl e11 dX11_rivalWish_13 rfl ?_
  refine x_iload_n (pc2 := 17) 3 (n := 3) (x := x3) rfl dX11_rivalWish_16 rfl ?_
  refine x_bipush (pc2 := 19) (v := 30) (by decide) dX11_rivalWish_17 rfl ?_
  refine x_iconst (pc2 := 20) (v := (-1)) (by decide) dX11_rivalWish_19 rfl ?_
  refine x_callV (pc2 := 23) (As := [.ref q10, .int x3, .int 30, .int (-1)]) (rest := []) (b := a0) mv_X11_aim ml_X11_379 (k1.up p8) rfl rfl (Nat.le_of_ble_eq_true rfl) hd1 dX11_rivalWish_20 rfl (ht.mono (fun r12 h13 p14 ht' => ?_))
  clear ht
  obtain ⟨rfl, ht⟩ := ht'
  show Ex G d mX11_rivalWish 23 [(0, .ref a0), (1, .ref a1), (2, .ref a2), (3, .int x3), (4, .int x4)] [] h13 Q
  refine x_aload_n (pc2 := 24) 0 (n := 0) (x := a0) rfl dX11_rivalWish_23 rfl ?_
  refine x_aload_n (pc2 := 25) 1 (n := 1) (x := a1) rfl dX11_rivalWish_24 rfl ?_
  refine x_aload_n (pc2 := 26) 2 (n := 2) (x := a2) rfl dX11_rivalWish_25 rfl ?_
  refine x_aload_n (pc2 := 27) 0 (n := 0) (x := a0) rfl dX11_rivalWish_26 rfl ?_
  obtain ⟨q15, e16, ht⟩ := ht
  refine y_getR (pc2 := 30) (κ := 11) (k := 9) fl_X11_66 (by decide) (by decide) ((k1.up p8).up p14) rfl e16 dX11_rivalWish_27 rfl ?_
  refine x_iload (pc2 := 32) 4 (n := 4) (x := x4) rfl dX11_rivalWish_30 rfl ?_
  refine x_aload_n (pc2 := 33) 0 (n := 0) (x := a0) rfl dX11_rivalWish_32 rfl ?_
  obtain ⟨q17, e18, ht⟩ := ht
  refine y_getR (pc2 := 36) (κ := 11) (k := 11) fl_X11_76 (by decide) (by decide) ((k1.up p8).up p14) rfl e18 dX11_rivalWish_33 rfl ?_
  refine x_callV (pc2 := 39) (As := [.ref a1, .ref a2, .ref q15, .int x4, .ref q17]) (rest := []) (b := a0) mv_X11_search ml_X11_383 ((k1.up p8).up p14) rfl rfl (Nat.le_of_ble_eq_true rfl) hd1 dX11_rivalWish_36 rfl (ht.mono (fun r19 h20 p21 ht' => ?_))
  clear ht
  obtain ⟨rfl, ht⟩ := ht'
  show Ex G d mX11_rivalWish 39 [(0, .ref a0), (1, .ref a1), (2, .ref a2), (3, .int x3), (4, .int x4)] [] h20 Q
  refine x_aload_n (pc2 := 40) 0 (n := 0) (x := a0) rfl dX11_rivalWish_39 rfl ?_
  obtain ⟨q22, e23, ht⟩ := ht
  refine y_getR (pc2 := 43) (κ := 11) (k := 12) fl_X11_80 (by decide) (by decide) (((k1.up p8).up p14).up p21) rfl e23 dX11_rivalWish_40 rfl ?_
  refine x_aload_n (pc2 := 44) 0 (n := 0) (x := a0) rfl dX11_rivalWish_43 rfl ?_
  obtain ⟨q24, e25, ht⟩ := ht
  refine y_getR (pc2 := 47) (κ := 11) (k := 8) fl_X11_62 (by decide) (by decide) (((k1.up p8).up p14).up p21) rfl e25 dX11_rivalWish_44 rfl ?_
  obtain ⟨k26, ht⟩ := ht
  refine y_getI (pc2 := 50) (κ := 3) (k := 5) fl_X11_307 (by decide) (by decide) k26 rfl dX11_rivalWish_47 rfl ?_
  obtain ⟨k30, ht⟩ := ht
  refine x_callV (pc2 := 53) (As := [.int (hI h20 q24 5)]) (rest := []) (b := q22) mv_X6_forget ml_X11_411 k30 rfl rfl (Nat.le_of_ble_eq_true rfl) hd1 dX11_rivalWish_50 rfl (ht.mono (fun r27 h28 p29 ht' => ?_))
  clear ht
  obtain ⟨rfl, ht⟩ := ht'
  show Ex G d mX11_rivalWish 53 [(0, .ref a0), (1, .ref a1), (2, .ref a2), (3, .int x3), (4, .int x4)] [] h28 Q
  refine x_aload_n (pc2 := 54) 0 (n := 0) (x := a0) rfl dX11_rivalWish_53 rfl ?_
  obtain ⟨q31, e32, ht⟩ := ht
  refine y_getR (pc2 := 57) (κ := 11) (k := 11) fl_X11_76 (by decide) (by decide) ((((k1.up p8).up p14).up p21).up p29) rfl e32 dX11_rivalWish_54 rfl ?_
  obtain ⟨k33, ht⟩ := ht
  refine y_getI (pc2 := 60) (κ := 0) (k := 0) fl_X11_387 (by decide) (by decide) k33 rfl dX11_rivalWish_57 rfl ?_
  refine y_if_ne (pc2 := 63) 67 dX11_rivalWish_60 (by decide) rfl (fun c34 => ?_) (fun c34 => ?_)
  · replace ht := ht.1 c34
    refine x_lconst (pc2 := 68) (v := 0) (by decide) dX11_rivalWish_67 rfl ?_
    refine x_aload_n (pc2 := 69) 0 (n := 0) (x := a0) rfl dX11_rivalWish_68 rfl ?_
    refine y_getR (pc2 := 72) (κ := 11) (k := 11) fl_X11_76 (by decide) (by decide) ((((k1.up p8).up p14).up p21).up p29) rfl e32 dX11_rivalWish_69 rfl ?_
    refine y_getL (pc2 := 75) (κ := 0) (k := 1) fl_X11_414 (by decide) (by decide) k33 rfl dX11_rivalWish_72 rfl ?_
    refine x_lmax (pc2 := 78) ml_X11_418 hd1 (Nat.le_of_ble_eq_true rfl) dX11_rivalWish_75 rfl ?_
    exact x_retL rfl dX11_rivalWish_78 ht
  · replace ht := ht.2 c34
    refine x_lconst (pc2 := 64) (v := 0) (by decide) dX11_rivalWish_63 rfl ?_
    refine x_goto 78 dX11_rivalWish_64 (by decide) ?_
    exact x_retL rfl dX11_rivalWish_78 ht
theorem e_X11_rivalWish {G : GG} {d : Nat} {h : HP} {Q : Option Value → HP → Prop} {a0 : Nat} {a1 : Nat} {a2 : Nat} {x3 : Int32} {x4 : Int32} (hd1 : 1 ≤ d) (ht : T_X11_rivalWish G d h Q a0 a1 a2 x3 x4) : Cal G d mX11_rivalWish [.ref a0, .ref a1, .ref a2, .int x3, .int x4] h Q := cal_of rfl (Nat.le_of_ble_eq_true rfl) (t_X11_rivalWish hd1 ht)
def T_X11_least (G : GG) (d : Nat) (h : HP) (Q : Option Value → HP → Prop) (a0 : Nat) (x1 : Int32) (x2 : Int32) (x3 : Int32) (x4 : Int32) (x5 : Int32) : Prop :=
  Kd G h a0 11 ∧ Cal G (d - 1) mX11_lawAt [.ref a0, .int x1] h (fun r1 h2 => ∃ v5, r1 = some (va_rf v5) ∧ ((v5 = none → Q (some (.int (-1))) h2) ∧ (∀ q7, v5 = some q7 → Cal G (d - 1) mX11_areThere [.ref a0, .int x2, .int x3, .int x4] h2 (fun r8 h9 => ∃ v11, r8 = some (.int v11) ∧ ((v11 = 0 → Q (some (.int (-1))) h9) ∧ (¬ v11 = 0 → ((x5 < 1 → Q (some (.int (-1))) h9) ∧ (¬ x5 < 1 → ((x5 ≤ 5 → ∃ q15, hR h9 a0 8 = some q15 ∧ Cal G (d - 1) mX11_aim [.ref a0, .ref q15, .int x2, .int x3, .int x4] h9 (fun r17 h18 => r17 = none ∧ ∃ q20, hR h18 a0 8 = some q20 ∧ ∃ q22, hR h18 a0 10 = some q22 ∧ Cal G (d - 1) mX11_search [.ref a0, .ref q7, va_rf none, .ref q20, .int x5, .ref q22] h18 (fun r24 h25 => r24 = none ∧ ∃ q27, hR h25 a0 10 = some q27 ∧ Kd G h25 q27 0 ∧ ((¬ (hI h25 q27 0) = 0 → Q (some (.int (hI h25 q27 2))) h25) ∧ ((hI h25 q27 0) = 0 → Q (some (.int (-2))) h25))))) ∧ (¬ x5 ≤ 5 → Q (some (.int (-1))) h9))))))))))
set_option maxRecDepth 20000 in
theorem t_X11_least {G : GG} {d : Nat} {h : HP} {Q : Option Value → HP → Prop} {a0 : Nat} {x1 : Int32} {x2 : Int32} {x3 : Int32} {x4 : Int32} {x5 : Int32} (hd1 : 1 ≤ d) (ht : T_X11_least G d h Q a0 x1 x2 x3 x4 x5) : Ex G d mX11_least 0 [(0, .ref a0), (1, .int x1), (2, .int x2), (3, .int x3), (4, .int x4), (5, .int x5)] [] h Q := by
  unfold T_X11_least at ht
  refine x_aload_n (pc2 := 1) 0 (n := 0) (x := a0) rfl dX11_least_0 rfl ?_
  refine x_iload_n (pc2 := 2) 1 (n := 1) (x := x1) rfl dX11_least_1 rfl ?_
  obtain ⟨k4, ht⟩ := ht
  refine x_callV (pc2 := 5) (As := [.int x1]) (rest := []) (b := a0) mv_X11_lawAt ml_X11_133 k4 rfl rfl (Nat.le_of_ble_eq_true rfl) hd1 dX11_least_2 rfl (ht.mono (fun r1 h2 p3 ht' => ?_))
  clear ht
  obtain ⟨v5, rfl, ht⟩ := ht'
  show Ex G d mX11_least 5 [(0, .ref a0), (1, .int x1), (2, .int x2), (3, .int x3), (4, .int x4), (5, .int x5)] [va_rf v5] h2 Q
  refine x_astoreq (pc2 := 7) [1, 2, 3, 4, 5, 6, 0] (n := 6) (x := v5) (lv2 := [(0, .ref a0), (1, .int x1), (2, .int x2), (3, .int x3), (4, .int x4), (5, .int x5), (6, va_rf v5)]) (by decide) rfl dX11_least_5 rfl ?_
  refine x_aloadq (pc2 := 9) 6 (n := 6) (x := v5) rfl dX11_least_7 rfl ?_
  refine x_ifnull (pc2 := 12) (x := v5) 35 dX11_least_9 (by decide) rfl (fun e6 => ?_) (fun q7 e6 => ?_)
  · replace ht := ht.1 e6
    subst e6
    show Ex G d mX11_least 35 [(0, .ref a0), (1, .int x1), (2, .int x2), (3, .int x3), (4, .int x4), (5, .int x5), (6, va_rf none)] [] h2 Q
    refine x_iconst (pc2 := 36) (v := (-1)) (by decide) dX11_least_35 rfl ?_
    exact x_ret (ty := .int) rfl rfl dX11_least_36 ht
  · replace ht := ht.2 q7 e6
    subst e6
    show Ex G d mX11_least 12 [(0, .ref a0), (1, .int x1), (2, .int x2), (3, .int x3), (4, .int x4), (5, .int x5), (6, .ref q7)] [] h2 Q
    refine x_aload_n (pc2 := 13) 0 (n := 0) (x := a0) rfl dX11_least_12 rfl ?_
    refine x_iload_n (pc2 := 14) 2 (n := 2) (x := x2) rfl dX11_least_13 rfl ?_
    refine x_iload_n (pc2 := 15) 3 (n := 3) (x := x3) rfl dX11_least_14 rfl ?_
    refine x_iload (pc2 := 17) 4 (n := 4) (x := x4) rfl dX11_least_15 rfl ?_
    refine x_callV (pc2 := 20) (As := [.int x2, .int x3, .int x4]) (rest := []) (b := a0) mv_X11_areThere ml_X11_137 (k4.up p3) rfl rfl (Nat.le_of_ble_eq_true rfl) hd1 dX11_least_17 rfl (ht.mono (fun r8 h9 p10 ht' => ?_))
    clear ht
    obtain ⟨v11, rfl, ht⟩ := ht'
    show Ex G d mX11_least 20 [(0, .ref a0), (1, .int x1), (2, .int x2), (3, .int x3), (4, .int x4), (5, .int x5), (6, .ref q7)] [.int v11] h9 Q
    refine x_if_eq (pc2 := 23) 35 dX11_least_20 (by decide) rfl (fun c12 => ?_) (fun c12 => ?_)
    · replace ht := ht.1 c12
      refine x_iconst (pc2 := 36) (v := (-1)) (by decide) dX11_least_35 rfl ?_
      exact x_ret (ty := .int) rfl rfl dX11_least_36 ht
    · replace ht := ht.2 c12
      refine x_iload (pc2 := 25) 5 (n := 5) (x := x5) rfl dX11_least_23 rfl ?_
      refine x_iconst (pc2 := 26) (v := 1) (by decide) dX11_least_25 rfl ?_
      refine x_icmp_lt (pc2 := 29) 35 dX11_least_26 (by decide) rfl (fun c13 => ?_) (fun c13 => ?_)
      · replace ht := ht.1 c13
        refine x_iconst (pc2 := 36) (v := (-1)) (by decide) dX11_least_35 rfl ?_
        exact x_ret (ty := .int) rfl rfl dX11_least_36 ht
      · replace ht := ht.2 c13
        refine x_iload (pc2 := 31) 5 (n := 5) (x := x5) rfl dX11_least_29 rfl ?_
        refine x_iconst (pc2 := 32) (v := 5) (by decide) dX11_least_31 rfl ?_
        refine x_icmp_le (pc2 := 35) 37 dX11_least_32 (by decide) rfl (fun c14 => ?_) (fun c14 => ?_)
        · replace ht := ht.1 c14
          refine x_aload_n (pc2 := 38) 0 (n := 0) (x := a0) rfl dX11_least_37 rfl ?_
          refine x_aload_n (pc2 := 39) 0 (n := 0) (x := a0) rfl dX11_least_38 rfl ?_
          obtain ⟨q15, e16, ht⟩ := ht
          refine y_getR (pc2 := 42) (κ := 11) (k := 8) fl_X11_62 (by decide) (by decide) ((k4.up p3).up p10) rfl e16 dX11_least_39 rfl ?_
          refine x_iload_n (pc2 := 43) 2 (n := 2) (x := x2) rfl dX11_least_42 rfl ?_
          refine x_iload_n (pc2 := 44) 3 (n := 3) (x := x3) rfl dX11_least_43 rfl ?_
          refine x_iload (pc2 := 46) 4 (n := 4) (x := x4) rfl dX11_least_44 rfl ?_
          refine x_callV (pc2 := 49) (As := [.ref q15, .int x2, .int x3, .int x4]) (rest := []) (b := a0) mv_X11_aim ml_X11_379 ((k4.up p3).up p10) rfl rfl (Nat.le_of_ble_eq_true rfl) hd1 dX11_least_46 rfl (ht.mono (fun r17 h18 p19 ht' => ?_))
          clear ht
          obtain ⟨rfl, ht⟩ := ht'
          show Ex G d mX11_least 49 [(0, .ref a0), (1, .int x1), (2, .int x2), (3, .int x3), (4, .int x4), (5, .int x5), (6, .ref q7)] [] h18 Q
          refine x_aload_n (pc2 := 50) 0 (n := 0) (x := a0) rfl dX11_least_49 rfl ?_
          refine x_aload (pc2 := 52) 6 (n := 6) (x := q7) rfl dX11_least_50 rfl ?_
          refine x_null (pc2 := 53) dX11_least_52 rfl ?_
          refine x_aload_n (pc2 := 54) 0 (n := 0) (x := a0) rfl dX11_least_53 rfl ?_
          obtain ⟨q20, e21, ht⟩ := ht
          refine y_getR (pc2 := 57) (κ := 11) (k := 8) fl_X11_62 (by decide) (by decide) (((k4.up p3).up p10).up p19) rfl e21 dX11_least_54 rfl ?_
          refine x_iload (pc2 := 59) 5 (n := 5) (x := x5) rfl dX11_least_57 rfl ?_
          refine x_aload_n (pc2 := 60) 0 (n := 0) (x := a0) rfl dX11_least_59 rfl ?_
          obtain ⟨q22, e23, ht⟩ := ht
          refine y_getR (pc2 := 63) (κ := 11) (k := 10) fl_X11_72 (by decide) (by decide) (((k4.up p3).up p10).up p19) rfl e23 dX11_least_60 rfl ?_
          refine x_callV (pc2 := 66) (As := [.ref q7, va_rf none, .ref q20, .int x5, .ref q22]) (rest := []) (b := a0) mv_X11_search ml_X11_383 (((k4.up p3).up p10).up p19) rfl rfl (Nat.le_of_ble_eq_true rfl) hd1 dX11_least_63 rfl (ht.mono (fun r24 h25 p26 ht' => ?_))
          clear ht
          obtain ⟨rfl, ht⟩ := ht'
          show Ex G d mX11_least 66 [(0, .ref a0), (1, .int x1), (2, .int x2), (3, .int x3), (4, .int x4), (5, .int x5), (6, .ref q7)] [] h25 Q
          refine x_aload_n (pc2 := 67) 0 (n := 0) (x := a0) rfl dX11_least_66 rfl ?_
          obtain ⟨q27, e28, ht⟩ := ht
          refine y_getR (pc2 := 70) (κ := 11) (k := 10) fl_X11_72 (by decide) (by decide) ((((k4.up p3).up p10).up p19).up p26) rfl e28 dX11_least_67 rfl ?_
          obtain ⟨k29, ht⟩ := ht
          refine y_getI (pc2 := 73) (κ := 0) (k := 0) fl_X11_387 (by decide) (by decide) k29 rfl dX11_least_70 rfl ?_
          refine y_if_ne (pc2 := 76) 81 dX11_least_73 (by decide) rfl (fun c30 => ?_) (fun c30 => ?_)
          · replace ht := ht.1 c30
            refine x_aload_n (pc2 := 82) 0 (n := 0) (x := a0) rfl dX11_least_81 rfl ?_
            refine y_getR (pc2 := 85) (κ := 11) (k := 10) fl_X11_72 (by decide) (by decide) ((((k4.up p3).up p10).up p19).up p26) rfl e28 dX11_least_82 rfl ?_
            refine y_getI (pc2 := 88) (κ := 0) (k := 2) fl_X11_422 (by decide) (by decide) k29 rfl dX11_least_85 rfl ?_
            exact x_ret (ty := .int) rfl rfl dX11_least_88 ht
          · replace ht := ht.2 c30
            refine x_bipush (pc2 := 78) (v := (-2)) (by decide) dX11_least_76 rfl ?_
            refine x_goto 88 dX11_least_78 (by decide) ?_
            exact x_ret (ty := .int) rfl rfl dX11_least_88 ht
        · replace ht := ht.2 c14
          refine x_iconst (pc2 := 36) (v := (-1)) (by decide) dX11_least_35 rfl ?_
          exact x_ret (ty := .int) rfl rfl dX11_least_36 ht
theorem e_X11_least {G : GG} {d : Nat} {h : HP} {Q : Option Value → HP → Prop} {a0 : Nat} {x1 : Int32} {x2 : Int32} {x3 : Int32} {x4 : Int32} {x5 : Int32} (hd1 : 1 ≤ d) (ht : T_X11_least G d h Q a0 x1 x2 x3 x4 x5) : Cal G d mX11_least [.ref a0, .int x1, .int x2, .int x3, .int x4, .int x5] h Q := cal_of rfl (Nat.le_of_ble_eq_true rfl) (t_X11_least hd1 ht)
def T_X11_most (G : GG) (d : Nat) (h : HP) (Q : Option Value → HP → Prop) (a0 : Nat) (x1 : Int32) (x2 : Int32) (x3 : Int32) : Prop :=
  Kd G h a0 11 ∧ Cal G (d - 1) mX11_lawAt [.ref a0, .int x1] h (fun r1 h2 => ∃ v5, r1 = some (va_rf v5) ∧ ((v5 = none → Q (some (.int (-1))) h2) ∧ (∀ q7, v5 = some q7 → Cal G (d - 1) mX11_areThere [.ref a0, .int x2, .int x3, .int (-1)] h2 (fun r8 h9 => ∃ v11, r8 = some (.int v11) ∧ ((¬ v11 = 0 → Ex G d mX11_most 27 [(0, .ref a0), (1, .int x1), (2, .int x2), (3, .int x3), (4, .ref q7), (5, .int 0)] [] h9 Q) ∧ (v11 = 0 → Q (some (.int (-1))) h9))))))
set_option maxRecDepth 20000 in
theorem t_X11_most {G : GG} {d : Nat} {h : HP} {Q : Option Value → HP → Prop} {a0 : Nat} {x1 : Int32} {x2 : Int32} {x3 : Int32} (hd1 : 1 ≤ d) (ht : T_X11_most G d h Q a0 x1 x2 x3) : Ex G d mX11_most 0 [(0, .ref a0), (1, .int x1), (2, .int x2), (3, .int x3)] [] h Q := by
  unfold T_X11_most at ht
  refine x_aload_n (pc2 := 1) 0 (n := 0) (x := a0) rfl dX11_most_0 rfl ?_
  refine x_iload_n (pc2 := 2) 1 (n := 1) (x := x1) rfl dX11_most_1 rfl ?_
  obtain ⟨k4, ht⟩ := ht
  refine x_callV (pc2 := 5) (As := [.int x1]) (rest := []) (b := a0) mv_X11_lawAt ml_X11_133 k4 rfl rfl (Nat.le_of_ble_eq_true rfl) hd1 dX11_most_2 rfl (ht.mono (fun r1 h2 p3 ht' => ?_))
  clear ht
  obtain ⟨v5, rfl, ht⟩ := ht'
  show Ex G d mX11_most 5 [(0, .ref a0), (1, .int x1), (2, .int x2), (3, .int x3)] [va_rf v5] h2 Q
  refine x_astoreq (pc2 := 7) [1, 2, 3, 4, 0] (n := 4) (x := v5) (lv2 := [(0, .ref a0), (1, .int x1), (2, .int x2), (3, .int x3), (4, va_rf v5)]) (by decide) rfl dX11_most_5 rfl ?_
  refine x_aloadq (pc2 := 9) 4 (n := 4) (x := v5) rfl dX11_most_7 rfl ?_
  refine x_ifnull (pc2 := 12) (x := v5) 22 dX11_most_9 (by decide) rfl (fun e6 => ?_) (fun q7 e6 => ?_)
  · replace ht := ht.1 e6
    subst e6
    show Ex G d mX11_most 22 [(0, .ref a0), (1, .int x1), (2, .int x2), (3, .int x3), (4, va_rf none)] [] h2 Q
    refine x_iconst (pc2 := 23) (v := (-1)) (by decide) dX11_most_22 rfl ?_
    exact x_ret (ty := .int) rfl rfl dX11_most_23 ht
  · replace ht := ht.2 q7 e6
    subst e6
    show Ex G d mX11_most 12 [(0, .ref a0), (1, .int x1), (2, .int x2), (3, .int x3), (4, .ref q7)] [] h2 Q
    refine x_aload_n (pc2 := 13) 0 (n := 0) (x := a0) rfl dX11_most_12 rfl ?_
    refine x_iload_n (pc2 := 14) 2 (n := 2) (x := x2) rfl dX11_most_13 rfl ?_
    refine x_iload_n (pc2 := 15) 3 (n := 3) (x := x3) rfl dX11_most_14 rfl ?_
    refine x_iconst (pc2 := 16) (v := (-1)) (by decide) dX11_most_15 rfl ?_
    refine x_callV (pc2 := 19) (As := [.int x2, .int x3, .int (-1)]) (rest := []) (b := a0) mv_X11_areThere ml_X11_137 (k4.up p3) rfl rfl (Nat.le_of_ble_eq_true rfl) hd1 dX11_most_16 rfl (ht.mono (fun r8 h9 p10 ht' => ?_))
    clear ht
    obtain ⟨v11, rfl, ht⟩ := ht'
    show Ex G d mX11_most 19 [(0, .ref a0), (1, .int x1), (2, .int x2), (3, .int x3), (4, .ref q7)] [.int v11] h9 Q
    refine y_if_ne (pc2 := 22) 24 dX11_most_19 (by decide) rfl (fun c12 => ?_) (fun c12 => ?_)
    · replace ht := ht.1 c12
      refine x_iconst (pc2 := 25) (v := 0) (by decide) dX11_most_24 rfl ?_
      refine x_istore (pc2 := 27) [1, 2, 3, 4, 5, 0] (n := 5) (x := 0) (lv2 := [(0, .ref a0), (1, .int x1), (2, .int x2), (3, .int x3), (4, .ref q7), (5, .int 0)]) (by decide) rfl dX11_most_25 rfl ?_
      exact ht
    · replace ht := ht.2 c12
      refine x_iconst (pc2 := 23) (v := (-1)) (by decide) dX11_most_22 rfl ?_
      exact x_ret (ty := .int) rfl rfl dX11_most_23 ht
theorem e_X11_most {G : GG} {d : Nat} {h : HP} {Q : Option Value → HP → Prop} {a0 : Nat} {x1 : Int32} {x2 : Int32} {x3 : Int32} (hd1 : 1 ≤ d) (ht : T_X11_most G d h Q a0 x1 x2 x3) : Cal G d mX11_most [.ref a0, .int x1, .int x2, .int x3] h Q := cal_of rfl (Nat.le_of_ble_eq_true rfl) (t_X11_most hd1 ht)
def T_X11_most_27 (G : GG) (d : Nat) (h : HP) (Q : Option Value → HP → Prop) (a0 : Nat) (x1 : Int32) (x2 : Int32) (x3 : Int32) (a4 : Nat) (x5 : Int32) : Prop :=
  ((24 ≤ x5 → ((x5 ≤ 0 → Q (some (.int x5)) h) ∧ (¬ x5 ≤ 0 → Kd G h a0 11 ∧ ∃ q4, hR h a0 12 = some q4 ∧ Kd G h q4 6 ∧ Cal G (d - 1) mX6_forget [.ref q4, .int x3] h (fun r6 h7 => r6 = none ∧ Q (some (.int x5)) h7)))) ∧ (¬ 24 ≤ x5 → ((¬ x5 = 0 → Ex G d mX11_most 49 [(0, .ref a0), (1, .int x1), (2, .int x2), (3, .int x3), (4, .ref a4), (5, .int x5)] [.int 30, .int x2, .ref a4, .ref a0] h Q) ∧ (x5 = 0 → Ex G d mX11_most 49 [(0, .ref a0), (1, .int x1), (2, .int x2), (3, .int x3), (4, .ref a4), (5, .int x5)] [.int x3, .int x2, .ref a4, .ref a0] h Q))))
set_option maxRecDepth 20000 in
theorem t_X11_most_27 {G : GG} {d : Nat} {h : HP} {Q : Option Value → HP → Prop} {a0 : Nat} {x1 : Int32} {x2 : Int32} {x3 : Int32} {a4 : Nat} {x5 : Int32} (hd1 : 1 ≤ d) (ht : T_X11_most_27 G d h Q a0 x1 x2 x3 a4 x5) : Ex G d mX11_most 27 [(0, .ref a0), (1, .int x1), (2, .int x2), (3, .int x3), (4, .ref a4), (5, .int x5)] [] h Q := by
  unfold T_X11_most_27 at ht
  refine x_iload (pc2 := 29) 5 (n := 5) (x := x5) rfl dX11_most_27 rfl ?_
  refine x_bipush (pc2 := 31) (v := 24) (by decide) dX11_most_29 rfl ?_
  refine x_icmp_ge (pc2 := 34) 74 dX11_most_31 (by decide) rfl (fun c1 => ?_) (fun c1 => ?_)
  · replace ht := ht.1 c1
    refine x_iload (pc2 := 76) 5 (n := 5) (x := x5) rfl dX11_most_74 rfl ?_
    refine x_if_le (pc2 := 79) 87 dX11_most_76 (by decide) rfl (fun c2 => ?_) (fun c2 => ?_)
    · replace ht := ht.1 c2
      refine x_iload (pc2 := 89) 5 (n := 5) (x := x5) rfl dX11_most_87 rfl ?_
      exact x_ret (ty := .int) rfl rfl dX11_most_89 ht
    · replace ht := ht.2 c2
      refine x_aload_n (pc2 := 80) 0 (n := 0) (x := a0) rfl dX11_most_79 rfl ?_
      obtain ⟨k3, ht⟩ := ht
      obtain ⟨q4, e5, ht⟩ := ht
      refine y_getR (pc2 := 83) (κ := 11) (k := 12) fl_X11_80 (by decide) (by decide) k3 rfl e5 dX11_most_80 rfl ?_
      refine x_iload_n (pc2 := 84) 3 (n := 3) (x := x3) rfl dX11_most_83 rfl ?_
      obtain ⟨k9, ht⟩ := ht
      refine x_callV (pc2 := 87) (As := [.int x3]) (rest := []) (b := q4) mv_X6_forget ml_X11_411 k9 rfl rfl (Nat.le_of_ble_eq_true rfl) hd1 dX11_most_84 rfl (ht.mono (fun r6 h7 p8 ht' => ?_))
      clear ht
      obtain ⟨rfl, ht⟩ := ht'
      show Ex G d mX11_most 87 [(0, .ref a0), (1, .int x1), (2, .int x2), (3, .int x3), (4, .ref a4), (5, .int x5)] [] h7 Q
      refine x_iload (pc2 := 89) 5 (n := 5) (x := x5) rfl dX11_most_87 rfl ?_
      exact x_ret (ty := .int) rfl rfl dX11_most_89 ht
  · replace ht := ht.2 c1
    refine x_aload_n (pc2 := 35) 0 (n := 0) (x := a0) rfl dX11_most_34 rfl ?_
    refine x_aload (pc2 := 37) 4 (n := 4) (x := a4) rfl dX11_most_35 rfl ?_
    refine x_iload_n (pc2 := 38) 2 (n := 2) (x := x2) rfl dX11_most_37 rfl ?_
    refine x_iload (pc2 := 40) 5 (n := 5) (x := x5) rfl dX11_most_38 rfl ?_
    refine y_if_ne (pc2 := 43) 47 dX11_most_40 (by decide) rfl (fun c10 => ?_) (fun c10 => ?_)
    · replace ht := ht.1 c10
      refine x_bipush (pc2 := 49) (v := 30) (by decide) dX11_most_47 rfl ?_
      exact ht
    · replace ht := ht.2 c10
      refine x_iload_n (pc2 := 44) 3 (n := 3) (x := x3) rfl dX11_most_43 rfl ?_
      refine x_goto 49 dX11_most_44 (by decide) ?_
      exact ht
def T_X11_most_49 (G : GG) (d : Nat) (h : HP) (Q : Option Value → HP → Prop) (a0 : Nat) (x1 : Int32) (x2 : Int32) (x3 : Int32) (a4 : Nat) (x5 : Int32) (sa0 : Nat) (sa1 : Nat) (sx2 : Int32) (sx3 : Int32) : Prop :=
  Kd G h sa0 11 ∧ Cal G (d - 1) mX11_widens [.ref sa0, .ref sa1, .int sx2, .int sx3, .int x5] h (fun r1 h2 => ∃ v5, r1 = some (.int v5) ∧ ((v5 = 0 → ((x5 ≤ 0 → Q (some (.int x5)) h2) ∧ (¬ x5 ≤ 0 → Kd G h2 a0 11 ∧ ∃ q9, hR h2 a0 12 = some q9 ∧ Kd G h2 q9 6 ∧ Cal G (d - 1) mX6_forget [.ref q9, .int x3] h2 (fun r11 h12 => r11 = none ∧ Q (some (.int x5)) h12)))) ∧ (¬ v5 = 0 → Kd G h2 a0 11 ∧ ∃ q16, hR h2 a0 12 = some q16 ∧ ∃ q18, hR h2 a0 8 = some q18 ∧ Kd G h2 q16 6 ∧ Cal G (d - 1) mX6_suppose [.ref q16, .ref q18] h2 (fun r20 h21 => r20 = none ∧ Ex G d mX11_most 27 [(0, .ref a0), (1, .int x1), (2, .int x2), (3, .int x3), (4, .ref a4), (5, .int (x5 + 1))] [] h21 Q))))
set_option maxRecDepth 20000 in
theorem t_X11_most_49 {G : GG} {d : Nat} {h : HP} {Q : Option Value → HP → Prop} {a0 : Nat} {x1 : Int32} {x2 : Int32} {x3 : Int32} {a4 : Nat} {x5 : Int32} {sa0 : Nat} {sa1 : Nat} {sx2 : Int32} {sx3 : Int32} (hd1 : 1 ≤ d) (ht : T_X11_most_49 G d h Q a0 x1 x2 x3 a4 x5 sa0 sa1 sx2 sx3) : Ex G d mX11_most 49 [(0, .ref a0), (1, .int x1), (2, .int x2), (3, .int x3), (4, .ref a4), (5, .int x5)] [.int sx3, .int sx2, .ref sa1, .ref sa0] h Q := by
  unfold T_X11_most_49 at ht
  refine x_iload (pc2 := 51) 5 (n := 5) (x := x5) rfl dX11_most_49 rfl ?_
  obtain ⟨k4, ht⟩ := ht
  refine x_callV (pc2 := 54) (As := [.ref sa1, .int sx2, .int sx3, .int x5]) (rest := []) (b := sa0) mv_X11_widens ml_X11_424 k4 rfl rfl (Nat.le_of_ble_eq_true rfl) hd1 dX11_most_51 rfl (ht.mono (fun r1 h2 p3 ht' => ?_))
  clear ht
  obtain ⟨v5, rfl, ht⟩ := ht'
  show Ex G d mX11_most 54 [(0, .ref a0), (1, .int x1), (2, .int x2), (3, .int x3), (4, .ref a4), (5, .int x5)] [.int v5] h2 Q
  refine x_if_eq (pc2 := 57) 74 dX11_most_54 (by decide) rfl (fun c6 => ?_) (fun c6 => ?_)
  · replace ht := ht.1 c6
    refine x_iload (pc2 := 76) 5 (n := 5) (x := x5) rfl dX11_most_74 rfl ?_
    refine x_if_le (pc2 := 79) 87 dX11_most_76 (by decide) rfl (fun c7 => ?_) (fun c7 => ?_)
    · replace ht := ht.1 c7
      refine x_iload (pc2 := 89) 5 (n := 5) (x := x5) rfl dX11_most_87 rfl ?_
      exact x_ret (ty := .int) rfl rfl dX11_most_89 ht
    · replace ht := ht.2 c7
      refine x_aload_n (pc2 := 80) 0 (n := 0) (x := a0) rfl dX11_most_79 rfl ?_
      obtain ⟨k8, ht⟩ := ht
      obtain ⟨q9, e10, ht⟩ := ht
      refine y_getR (pc2 := 83) (κ := 11) (k := 12) fl_X11_80 (by decide) (by decide) k8 rfl e10 dX11_most_80 rfl ?_
      refine x_iload_n (pc2 := 84) 3 (n := 3) (x := x3) rfl dX11_most_83 rfl ?_
      obtain ⟨k14, ht⟩ := ht
      refine x_callV (pc2 := 87) (As := [.int x3]) (rest := []) (b := q9) mv_X6_forget ml_X11_411 k14 rfl rfl (Nat.le_of_ble_eq_true rfl) hd1 dX11_most_84 rfl (ht.mono (fun r11 h12 p13 ht' => ?_))
      clear ht
      obtain ⟨rfl, ht⟩ := ht'
      show Ex G d mX11_most 87 [(0, .ref a0), (1, .int x1), (2, .int x2), (3, .int x3), (4, .ref a4), (5, .int x5)] [] h12 Q
      refine x_iload (pc2 := 89) 5 (n := 5) (x := x5) rfl dX11_most_87 rfl ?_
      exact x_ret (ty := .int) rfl rfl dX11_most_89 ht
  · replace ht := ht.2 c6
    refine x_aload_n (pc2 := 58) 0 (n := 0) (x := a0) rfl dX11_most_57 rfl ?_
    obtain ⟨k15, ht⟩ := ht
    obtain ⟨q16, e17, ht⟩ := ht
    refine y_getR (pc2 := 61) (κ := 11) (k := 12) fl_X11_80 (by decide) (by decide) k15 rfl e17 dX11_most_58 rfl ?_
    refine x_aload_n (pc2 := 62) 0 (n := 0) (x := a0) rfl dX11_most_61 rfl ?_
    obtain ⟨q18, e19, ht⟩ := ht
    refine y_getR (pc2 := 65) (κ := 11) (k := 8) fl_X11_62 (by decide) (by decide) k15 rfl e19 dX11_most_62 rfl ?_
    obtain ⟨k23, ht⟩ := ht
    refine x_callV (pc2 := 68) (As := [.ref q18]) (rest := []) (b := q16) mv_X6_suppose ml_X11_408 k23 rfl rfl (Nat.le_of_ble_eq_true rfl) hd1 dX11_most_65 rfl (ht.mono (fun r20 h21 p22 ht' => ?_))
    clear ht
    obtain ⟨rfl, ht⟩ := ht'
    show Ex G d mX11_most 68 [(0, .ref a0), (1, .int x1), (2, .int x2), (3, .int x3), (4, .ref a4), (5, .int x5)] [] h21 Q
    refine x_iinc (pc2 := 71) 5 [1, 2, 3, 4, 5, 0] (i := 5) (x := x5) (v := (x5 + 1)) (lv2 := [(0, .ref a0), (1, .int x1), (2, .int x2), (3, .int x3), (4, .ref a4), (5, .int (x5 + 1))]) rfl (iinc_eq (by decide) _) (by decide) rfl dX11_most_68 rfl ?_
    refine x_goto 27 dX11_most_71 (by decide) ?_
    exact ht
def T_X11_widens (G : GG) (d : Nat) (h : HP) (Q : Option Value → HP → Prop) (a0 : Nat) (a1 : Nat) (x2 : Int32) (x3 : Int32) (x4 : Int32) : Prop :=
  Kd G h a0 11 ∧ ∃ q2, hR h a0 8 = some q2 ∧ Cal G (d - 1) mX11_aim [.ref a0, .ref q2, .int x2, .int x3, .int (-1)] h (fun r4 h5 => r4 = none ∧ ∃ q7, hR h5 a0 8 = some q7 ∧ Kd G h5 q7 3 ∧ Ex G d mX11_widens 23 [(0, .ref a0), (1, .ref a1), (2, .int x2), (3, .int x3), (4, .int x4), (5, .int 1)] [] (sI h5 q7 7 x4) Q)
set_option maxRecDepth 20000 in
theorem t_X11_widens {G : GG} {d : Nat} {h : HP} {Q : Option Value → HP → Prop} {a0 : Nat} {a1 : Nat} {x2 : Int32} {x3 : Int32} {x4 : Int32} (hd1 : 1 ≤ d) (ht : T_X11_widens G d h Q a0 a1 x2 x3 x4) : Ex G d mX11_widens 0 [(0, .ref a0), (1, .ref a1), (2, .int x2), (3, .int x3), (4, .int x4)] [] h Q := by
  unfold T_X11_widens at ht
  refine x_aload_n (pc2 := 1) 0 (n := 0) (x := a0) rfl dX11_widens_0 rfl ?_
  refine x_aload_n (pc2 := 2) 0 (n := 0) (x := a0) rfl dX11_widens_1 rfl ?_
  obtain ⟨k1, ht⟩ := ht
  obtain ⟨q2, e3, ht⟩ := ht
  refine y_getR (pc2 := 5) (κ := 11) (k := 8) fl_X11_62 (by decide) (by decide) k1 rfl e3 dX11_widens_2 rfl ?_
  refine x_iload_n (pc2 := 6) 2 (n := 2) (x := x2) rfl dX11_widens_5 rfl ?_
  refine x_iload_n (pc2 := 7) 3 (n := 3) (x := x3) rfl dX11_widens_6 rfl ?_
  refine x_iconst (pc2 := 8) (v := (-1)) (by decide) dX11_widens_7 rfl ?_
  refine x_callV (pc2 := 11) (As := [.ref q2, .int x2, .int x3, .int (-1)]) (rest := []) (b := a0) mv_X11_aim ml_X11_379 k1 rfl rfl (Nat.le_of_ble_eq_true rfl) hd1 dX11_widens_8 rfl (ht.mono (fun r4 h5 p6 ht' => ?_))
  clear ht
  obtain ⟨rfl, ht⟩ := ht'
  show Ex G d mX11_widens 11 [(0, .ref a0), (1, .ref a1), (2, .int x2), (3, .int x3), (4, .int x4)] [] h5 Q
  refine x_aload_n (pc2 := 12) 0 (n := 0) (x := a0) rfl dX11_widens_11 rfl ?_
  obtain ⟨q7, e8, ht⟩ := ht
  refine y_getR (pc2 := 15) (κ := 11) (k := 8) fl_X11_62 (by decide) (by decide) (k1.up p6) rfl e8 dX11_widens_12 rfl ?_
  refine x_iload (pc2 := 17) 4 (n := 4) (x := x4) rfl dX11_widens_15 rfl ?_
  obtain ⟨k9, ht⟩ := ht
  refine x_putI (pc2 := 20) (κ := 3) (k := 7) fl_X11_376 (by decide) (by decide) (Or.inl rfl) rfl k9 dX11_widens_17 rfl ?_
  refine x_iconst (pc2 := 21) (v := 1) (by decide) dX11_widens_20 rfl ?_
  refine x_istore (pc2 := 23) [1, 2, 3, 4, 5, 0] (n := 5) (x := 1) (lv2 := [(0, .ref a0), (1, .ref a1), (2, .int x2), (3, .int x3), (4, .int x4), (5, .int 1)]) (by decide) rfl dX11_widens_21 rfl ?_
  exact ht
theorem e_X11_widens {G : GG} {d : Nat} {h : HP} {Q : Option Value → HP → Prop} {a0 : Nat} {a1 : Nat} {x2 : Int32} {x3 : Int32} {x4 : Int32} (hd1 : 1 ≤ d) (ht : T_X11_widens G d h Q a0 a1 x2 x3 x4) : Cal G d mX11_widens [.ref a0, .ref a1, .int x2, .int x3, .int x4] h Q := cal_of rfl (Nat.le_of_ble_eq_true rfl) (t_X11_widens hd1 ht)
def T_X11_widens_23 (G : GG) (d : Nat) (h : HP) (Q : Option Value → HP → Prop) (a0 : Nat) (a1 : Nat) (x2 : Int32) (x3 : Int32) (x4 : Int32) (x5 : Int32) : Prop :=
  ((9 < x5 → Q (some (.int 0)) h) ∧ (¬ 9 < x5 → Kd G h a0 11 ∧ ∃ q3, hR h a0 8 = some q3 ∧ Kd G h q3 3 ∧ Cal G (d - 1) mX3_spread [.ref q3, .int x5, .int x5, .int x5, .int x5] h (fun r5 h6 => r5 = none ∧ ∃ q9, hR h6 a0 8 = some q9 ∧ Cal G (d - 1) mX11_mayCome [.ref a0, .ref a1, .ref q9] h6 (fun r11 h12 => ∃ v14, r11 = some (.int v14) ∧ ((v14 = 0 → Ex G d mX11_widens 23 [(0, .ref a0), (1, .ref a1), (2, .int x2), (3, .int x3), (4, .int x4), (5, .int (x5 + 1))] [] h12 Q) ∧ (¬ v14 = 0 → Q (some (.int 1)) h12))))))
set_option maxRecDepth 20000 in
theorem t_X11_widens_23 {G : GG} {d : Nat} {h : HP} {Q : Option Value → HP → Prop} {a0 : Nat} {a1 : Nat} {x2 : Int32} {x3 : Int32} {x4 : Int32} {x5 : Int32} (hd1 : 1 ≤ d) (ht : T_X11_widens_23 G d h Q a0 a1 x2 x3 x4 x5) : Ex G d mX11_widens 23 [(0, .ref a0), (1, .ref a1), (2, .int x2), (3, .int x3), (4, .int x4), (5, .int x5)] [] h Q := by
  unfold T_X11_widens_23 at ht
  refine x_iload (pc2 := 25) 5 (n := 5) (x := x5) rfl dX11_widens_23 rfl ?_
  refine x_bipush (pc2 := 27) (v := 9) (by decide) dX11_widens_25 rfl ?_
  refine x_icmp_gt (pc2 := 30) 65 dX11_widens_27 (by decide) rfl (fun c1 => ?_) (fun c1 => ?_)
  · replace ht := ht.1 c1
    refine x_iconst (pc2 := 66) (v := 0) (by decide) dX11_widens_65 rfl ?_
    exact x_retZ rfl (Or.inl rfl) dX11_widens_66 ht
  · replace ht := ht.2 c1
    refine x_aload_n (pc2 := 31) 0 (n := 0) (x := a0) rfl dX11_widens_30 rfl ?_
    obtain ⟨k2, ht⟩ := ht
    obtain ⟨q3, e4, ht⟩ := ht
    refine y_getR (pc2 := 34) (κ := 11) (k := 8) fl_X11_62 (by decide) (by decide) k2 rfl e4 dX11_widens_31 rfl ?_
    refine x_iload (pc2 := 36) 5 (n := 5) (x := x5) rfl dX11_widens_34 rfl ?_
    refine x_iload (pc2 := 38) 5 (n := 5) (x := x5) rfl dX11_widens_36 rfl ?_
    refine x_iload (pc2 := 40) 5 (n := 5) (x := x5) rfl dX11_widens_38 rfl ?_
    refine x_iload (pc2 := 42) 5 (n := 5) (x := x5) rfl dX11_widens_40 rfl ?_
    obtain ⟨k8, ht⟩ := ht
    refine x_callV (pc2 := 45) (As := [.int x5, .int x5, .int x5, .int x5]) (rest := []) (b := q3) mv_X3_spread ml_X11_284 k8 rfl rfl (Nat.le_of_ble_eq_true rfl) hd1 dX11_widens_42 rfl (ht.mono (fun r5 h6 p7 ht' => ?_))
    clear ht
    obtain ⟨rfl, ht⟩ := ht'
    show Ex G d mX11_widens 45 [(0, .ref a0), (1, .ref a1), (2, .int x2), (3, .int x3), (4, .int x4), (5, .int x5)] [] h6 Q
    refine x_aload_n (pc2 := 46) 0 (n := 0) (x := a0) rfl dX11_widens_45 rfl ?_
    refine x_aload_n (pc2 := 47) 1 (n := 1) (x := a1) rfl dX11_widens_46 rfl ?_
    refine x_aload_n (pc2 := 48) 0 (n := 0) (x := a0) rfl dX11_widens_47 rfl ?_
    obtain ⟨q9, e10, ht⟩ := ht
    refine y_getR (pc2 := 51) (κ := 11) (k := 8) fl_X11_62 (by decide) (by decide) (k2.up p7) rfl e10 dX11_widens_48 rfl ?_
    refine x_callV (pc2 := 54) (As := [.ref a1, .ref q9]) (rest := []) (b := a0) mv_X11_mayCome ml_X11_145 (k2.up p7) rfl rfl (Nat.le_of_ble_eq_true rfl) hd1 dX11_widens_51 rfl (ht.mono (fun r11 h12 p13 ht' => ?_))
    clear ht
    obtain ⟨v14, rfl, ht⟩ := ht'
    show Ex G d mX11_widens 54 [(0, .ref a0), (1, .ref a1), (2, .int x2), (3, .int x3), (4, .int x4), (5, .int x5)] [.int v14] h12 Q
    refine x_if_eq (pc2 := 57) 59 dX11_widens_54 (by decide) rfl (fun c15 => ?_) (fun c15 => ?_)
    · replace ht := ht.1 c15
      refine x_iinc (pc2 := 62) 5 [1, 2, 3, 4, 5, 0] (i := 5) (x := x5) (v := (x5 + 1)) (lv2 := [(0, .ref a0), (1, .ref a1), (2, .int x2), (3, .int x3), (4, .int x4), (5, .int (x5 + 1))]) rfl (iinc_eq (by decide) _) (by decide) rfl dX11_widens_59 rfl ?_
      refine x_goto 23 dX11_widens_62 (by decide) ?_
      exact ht
    · replace ht := ht.2 c15
      refine x_iconst (pc2 := 58) (v := 1) (by decide) dX11_widens_57 rfl ?_
      exact x_retZ rfl (Or.inr rfl) dX11_widens_58 ht
def T_X11_aim (G : GG) (d : Nat) (h : HP) (Q : Option Value → HP → Prop) (a0 : Nat) (a1 : Nat) (x2 : Int32) (x3 : Int32) (x4 : Int32) : Prop :=
  Kd G h a1 3 ∧ Cal G (d - 1) mX3_set [.ref a1, .int x2, .int 0, .int 0, .int 0, .int 0, .int x3, .int x4] h (fun r1 h2 => r1 = none ∧ Kd G h2 a0 11 ∧ ∃ q6, hR h2 a0 12 = some q6 ∧ Kd G h2 q6 6 ∧ ∃ q9, hR h2 q6 7 = some q9 ∧ Kd G h2 q9 20 ∧ vp_in x3 (hN h2 q9) ∧ ∃ q13, hR h2 q9 x3.toNatClampNeg = some q13 ∧ ((¬ x4 = (-1) → vp_in x4 (hN h2 q9) ∧ ∃ q17, hR h2 q9 x4.toNatClampNeg = some q17 ∧ Cal G (d - 1) mX3_surround [.ref a1, .ref q13, .ref q17] h2 (fun r19 h20 => r19 = none ∧ Q none h20)) ∧ (x4 = (-1) → Cal G (d - 1) mX3_surround [.ref a1, .ref q13, va_rf none] h2 (fun r22 h23 => r22 = none ∧ Q none h23))))
set_option maxRecDepth 20000 in
theorem t_X11_aim {G : GG} {d : Nat} {h : HP} {Q : Option Value → HP → Prop} {a0 : Nat} {a1 : Nat} {x2 : Int32} {x3 : Int32} {x4 : Int32} (hd1 : 1 ≤ d) (ht : T_X11_aim G d h Q a0 a1 x2 x3 x4) : Ex G d mX11_aim 0 [(0, .ref a0), (1, .ref a1), (2, .int x2), (3, .int x3), (4, .int x4)] [] h Q := by
  unfold T_X11_aim at ht
  refine x_aload_n (pc2 := 1) 1 (n := 1) (x := a1) rfl dX11_aim_0 rfl ?_
  refine x_iload_n (pc2 := 2) 2 (n := 2) (x := x2) rfl dX11_aim_1 rfl ?_
  refine x_iconst (pc2 := 3) (v := 0) (by decide) dX11_aim_2 rfl ?_
  refine x_iconst (pc2 := 4) (v := 0) (by decide) dX11_aim_3 rfl ?_
  refine x_iconst (pc2 := 5) (v := 0) (by decide) dX11_aim_4 rfl ?_
  refine x_iconst (pc2 := 6) (v := 0) (by decide) dX11_aim_5 rfl ?_
  refine x_iload_n (pc2 := 7) 3 (n := 3) (x := x3) rfl dX11_aim_6 rfl ?_
  refine x_iload (pc2 := 9) 4 (n := 4) (x := x4) rfl dX11_aim_7 rfl ?_
  obtain ⟨k4, ht⟩ := ht
  refine x_callV (pc2 := 12) (As := [.int x2, .int 0, .int 0, .int 0, .int 0, .int x3, .int x4]) (rest := []) (b := a1) mv_X3_set ml_X11_141 k4 rfl rfl (Nat.le_of_ble_eq_true rfl) hd1 dX11_aim_9 rfl (ht.mono (fun r1 h2 p3 ht' => ?_))
  clear ht
  obtain ⟨rfl, ht⟩ := ht'
  show Ex G d mX11_aim 12 [(0, .ref a0), (1, .ref a1), (2, .int x2), (3, .int x3), (4, .int x4)] [] h2 Q
  refine x_aload_n (pc2 := 13) 1 (n := 1) (x := a1) rfl dX11_aim_12 rfl ?_
  refine x_aload_n (pc2 := 14) 0 (n := 0) (x := a0) rfl dX11_aim_13 rfl ?_
  obtain ⟨k5, ht⟩ := ht
  obtain ⟨q6, e7, ht⟩ := ht
  refine y_getR (pc2 := 17) (κ := 11) (k := 12) fl_X11_80 (by decide) (by decide) k5 rfl e7 dX11_aim_14 rfl ?_
  obtain ⟨k8, ht⟩ := ht
  obtain ⟨q9, e10, ht⟩ := ht
  refine y_getR (pc2 := 20) (κ := 6) (k := 7) fl_X11_182 (by decide) (by decide) k8 rfl e10 dX11_aim_17 rfl ?_
  refine x_iload_n (pc2 := 21) 3 (n := 3) (x := x3) rfl dX11_aim_20 rfl ?_
  obtain ⟨k11, ht⟩ := ht
  obtain ⟨b12, ht⟩ := ht
  obtain ⟨q13, e14, ht⟩ := ht
  refine y_aaldR (pc2 := 22) (κ := 20) (by decide) k11 b12 e14 dX11_aim_21 rfl ?_
  refine x_iload (pc2 := 24) 4 (n := 4) (x := x4) rfl dX11_aim_22 rfl ?_
  refine x_iconst (pc2 := 25) (v := (-1)) (by decide) dX11_aim_24 rfl ?_
  refine y_icmp_ne (pc2 := 28) 32 dX11_aim_25 (by decide) rfl (fun c15 => ?_) (fun c15 => ?_)
  · replace ht := ht.1 c15
    refine x_aload_n (pc2 := 33) 0 (n := 0) (x := a0) rfl dX11_aim_32 rfl ?_
    refine y_getR (pc2 := 36) (κ := 11) (k := 12) fl_X11_80 (by decide) (by decide) k5 rfl e7 dX11_aim_33 rfl ?_
    refine y_getR (pc2 := 39) (κ := 6) (k := 7) fl_X11_182 (by decide) (by decide) k8 rfl e10 dX11_aim_36 rfl ?_
    refine x_iload (pc2 := 41) 4 (n := 4) (x := x4) rfl dX11_aim_39 rfl ?_
    obtain ⟨b16, ht⟩ := ht
    obtain ⟨q17, e18, ht⟩ := ht
    refine y_aaldR (pc2 := 42) (κ := 20) (by decide) k11 b16 e18 dX11_aim_41 rfl ?_
    refine x_callV (pc2 := 45) (As := [.ref q13, .ref q17]) (rest := []) (b := a1) mv_X3_surround ml_X11_280 (k4.up p3) rfl rfl (Nat.le_of_ble_eq_true rfl) hd1 dX11_aim_42 rfl (ht.mono (fun r19 h20 p21 ht' => ?_))
    clear ht
    obtain ⟨rfl, ht⟩ := ht'
    show Ex G d mX11_aim 45 [(0, .ref a0), (1, .ref a1), (2, .int x2), (3, .int x3), (4, .int x4)] [] h20 Q
    exact x_retV rfl dX11_aim_45 ht
  · replace ht := ht.2 c15
    refine x_null (pc2 := 29) dX11_aim_28 rfl ?_
    refine x_goto 42 dX11_aim_29 (by decide) ?_
    refine x_callV (pc2 := 45) (As := [.ref q13, va_rf none]) (rest := []) (b := a1) mv_X3_surround ml_X11_280 (k4.up p3) rfl rfl (Nat.le_of_ble_eq_true rfl) hd1 dX11_aim_42 rfl (ht.mono (fun r22 h23 p24 ht' => ?_))
    clear ht
    obtain ⟨rfl, ht⟩ := ht'
    show Ex G d mX11_aim 45 [(0, .ref a0), (1, .ref a1), (2, .int x2), (3, .int x3), (4, .int x4)] [] h23 Q
    exact x_retV rfl dX11_aim_45 ht
theorem e_X11_aim {G : GG} {d : Nat} {h : HP} {Q : Option Value → HP → Prop} {a0 : Nat} {a1 : Nat} {x2 : Int32} {x3 : Int32} {x4 : Int32} (hd1 : 1 ≤ d) (ht : T_X11_aim G d h Q a0 a1 x2 x3 x4) : Cal G d mX11_aim [.ref a0, .ref a1, .int x2, .int x3, .int x4] h Q := cal_of rfl (Nat.le_of_ble_eq_true rfl) (t_X11_aim hd1 ht)
def T_X11_search (G : GG) (d : Nat) (h : HP) (Q : Option Value → HP → Prop) (a0 : Nat) (a1 : Nat) (o2 : Option Nat) (a3 : Nat) (x4 : Int32) (a5 : Nat) : Prop :=
  Kd G h a5 0 ∧ Cal G (d - 1) mX0_clear [.ref a5] h (fun r1 h2 => r1 = none ∧ Ex G d mX11_search 21 [(0, .ref a0), (1, .ref a1), (2, va_rf o2), (3, .ref a3), (4, .int x4), (5, .ref a5), (6, .int (((x4 * x4) * x4) * x4)), (7, .int 0)] [] h2 Q)
set_option maxRecDepth 20000 in
theorem t_X11_search {G : GG} {d : Nat} {h : HP} {Q : Option Value → HP → Prop} {a0 : Nat} {a1 : Nat} {o2 : Option Nat} {a3 : Nat} {x4 : Int32} {a5 : Nat} (hd1 : 1 ≤ d) (ht : T_X11_search G d h Q a0 a1 o2 a3 x4 a5) : Ex G d mX11_search 0 [(0, .ref a0), (1, .ref a1), (2, va_rf o2), (3, .ref a3), (4, .int x4), (5, .ref a5)] [] h Q := by
  unfold T_X11_search at ht
  refine x_aload (pc2 := 2) 5 (n := 5) (x := a5) rfl dX11_search_0 rfl ?_
  obtain ⟨k4, ht⟩ := ht
  refine x_callV (pc2 := 5) (As := []) (rest := []) (b := a5) mv_X0_clear ml_X11_393 k4 rfl rfl (Nat.le_of_ble_eq_true rfl) hd1 dX11_search_2 rfl (ht.mono (fun r1 h2 p3 ht' => ?_))
  clear ht
  obtain ⟨rfl, ht⟩ := ht'
  show Ex G d mX11_search 5 [(0, .ref a0), (1, .ref a1), (2, va_rf o2), (3, .ref a3), (4, .int x4), (5, .ref a5)] [] h2 Q
  refine x_iload (pc2 := 7) 4 (n := 4) (x := x4) rfl dX11_search_5 rfl ?_
  refine x_iload (pc2 := 9) 4 (n := 4) (x := x4) rfl dX11_search_7 rfl ?_
  refine x_imul (pc2 := 10) dX11_search_9 rfl ?_
  refine x_iload (pc2 := 12) 4 (n := 4) (x := x4) rfl dX11_search_10 rfl ?_
  refine x_imul (pc2 := 13) dX11_search_12 rfl ?_
  refine x_iload (pc2 := 15) 4 (n := 4) (x := x4) rfl dX11_search_13 rfl ?_
  refine x_imul (pc2 := 16) dX11_search_15 rfl ?_
  refine x_istore (pc2 := 18) [1, 2, 3, 4, 5, 6, 0] (n := 6) (x := (((x4 * x4) * x4) * x4)) (lv2 := [(0, .ref a0), (1, .ref a1), (2, va_rf o2), (3, .ref a3), (4, .int x4), (5, .ref a5), (6, .int (((x4 * x4) * x4) * x4))]) (by decide) rfl dX11_search_16 rfl ?_
  refine x_iconst (pc2 := 19) (v := 0) (by decide) dX11_search_18 rfl ?_
  refine x_istore (pc2 := 21) [1, 2, 3, 4, 5, 6, 7, 0] (n := 7) (x := 0) (lv2 := [(0, .ref a0), (1, .ref a1), (2, va_rf o2), (3, .ref a3), (4, .int x4), (5, .ref a5), (6, .int (((x4 * x4) * x4) * x4)), (7, .int 0)]) (by decide) rfl dX11_search_19 rfl ?_
  exact ht
theorem e_X11_search {G : GG} {d : Nat} {h : HP} {Q : Option Value → HP → Prop} {a0 : Nat} {a1 : Nat} {o2 : Option Nat} {a3 : Nat} {x4 : Int32} {a5 : Nat} (hd1 : 1 ≤ d) (ht : T_X11_search G d h Q a0 a1 o2 a3 x4 a5) : Cal G d mX11_search [.ref a0, .ref a1, va_rf o2, .ref a3, .int x4, .ref a5] h Q := by
  cases o2 <;> exact cal_of rfl (Nat.le_of_ble_eq_true rfl) (t_X11_search hd1 ht)
def T_X11_search_21 (G : GG) (d : Nat) (h : HP) (Q : Option Value → HP → Prop) (a0 : Nat) (a1 : Nat) (o2 : Option Nat) (a3 : Nat) (x4 : Int32) (a5 : Nat) (x6 : Int32) (x7 : Int32) : Prop :=
  ((x6 ≤ x7 → Q none h) ∧ (¬ x6 ≤ x7 → Kd G h a3 3 ∧ Cal G (d - 1) mX3_spreadBy [.ref a3, .int x7, .int x4] h (fun r2 h3 => r2 = none ∧ Kd G h3 a0 11 ∧ Cal G (d - 1) mX11_mayCome [.ref a0, .ref a1, .ref a3] h3 (fun r6 h7 => ∃ v10, r6 = some (.int v10) ∧ ((v10 = 0 → Ex G d mX11_search 21 [(0, .ref a0), (1, .ref a1), (2, va_rf o2), (3, .ref a3), (4, .int x4), (5, .ref a5), (6, .int x6), (7, .int (x7 + 1))] [] h7 Q) ∧ (¬ v10 = 0 → ((o2 = none → Kd G h7 a5 0 ∧ Cal G (d - 1) mX0_weigh [.ref a5, .long 0, .ref a3] h7 (fun r14 h15 => r14 = none ∧ Ex G d mX11_search 21 [(0, .ref a0), (1, .ref a1), (2, va_rf none), (3, .ref a3), (4, .int x4), (5, .ref a5), (6, .int x6), (7, .int (x7 + 1))] [] h15 Q)) ∧ (∀ q13, o2 = some q13 → ∃ q18, hR h7 a3 17 = some q18 ∧ Kd G h7 q13 4 ∧ Cal G (d - 1) mX4_total [.ref q13, .ref q18] h7 (fun r20 h21 => ∃ v24, r20 = some (.long v24) ∧ Kd G h21 a5 0 ∧ Cal G (d - 1) mX0_weigh [.ref a5, .long v24, .ref a3] h21 (fun r25 h26 => r25 = none ∧ Ex G d mX11_search 21 [(0, .ref a0), (1, .ref a1), (2, va_rf (some q13)), (3, .ref a3), (4, .int x4), (5, .ref a5), (6, .int x6), (7, .int (x7 + 1))] [] h26 Q))))))))))
set_option maxRecDepth 20000 in
theorem t_X11_search_21 {G : GG} {d : Nat} {h : HP} {Q : Option Value → HP → Prop} {a0 : Nat} {a1 : Nat} {o2 : Option Nat} {a3 : Nat} {x4 : Int32} {a5 : Nat} {x6 : Int32} {x7 : Int32} (hd1 : 1 ≤ d) (ht : T_X11_search_21 G d h Q a0 a1 o2 a3 x4 a5 x6 x7) : Ex G d mX11_search 21 [(0, .ref a0), (1, .ref a1), (2, va_rf o2), (3, .ref a3), (4, .int x4), (5, .ref a5), (6, .int x6), (7, .int x7)] [] h Q := by
  unfold T_X11_search_21 at ht
  refine x_iload (pc2 := 23) 7 (n := 7) (x := x7) rfl dX11_search_21 rfl ?_
  refine x_iload (pc2 := 25) 6 (n := 6) (x := x6) rfl dX11_search_23 rfl ?_
  refine x_icmp_ge (pc2 := 28) 73 dX11_search_25 (by decide) rfl (fun c1 => ?_) (fun c1 => ?_)
  · replace ht := ht.1 c1
    exact x_retV rfl dX11_search_73 ht
  · replace ht := ht.2 c1
    refine x_aload_n (pc2 := 29) 3 (n := 3) (x := a3) rfl dX11_search_28 rfl ?_
    refine x_iload (pc2 := 31) 7 (n := 7) (x := x7) rfl dX11_search_29 rfl ?_
    refine x_iload (pc2 := 33) 4 (n := 4) (x := x4) rfl dX11_search_31 rfl ?_
    obtain ⟨k5, ht⟩ := ht
    refine x_callV (pc2 := 36) (As := [.int x7, .int x4]) (rest := []) (b := a3) mv_X3_spreadBy ml_X11_396 k5 rfl rfl (Nat.le_of_ble_eq_true rfl) hd1 dX11_search_33 rfl (ht.mono (fun r2 h3 p4 ht' => ?_))
    clear ht
    obtain ⟨rfl, ht⟩ := ht'
    show Ex G d mX11_search 36 [(0, .ref a0), (1, .ref a1), (2, va_rf o2), (3, .ref a3), (4, .int x4), (5, .ref a5), (6, .int x6), (7, .int x7)] [] h3 Q
    refine x_aload_n (pc2 := 37) 0 (n := 0) (x := a0) rfl dX11_search_36 rfl ?_
    refine x_aload_n (pc2 := 38) 1 (n := 1) (x := a1) rfl dX11_search_37 rfl ?_
    refine x_aload_n (pc2 := 39) 3 (n := 3) (x := a3) rfl dX11_search_38 rfl ?_
    obtain ⟨k9, ht⟩ := ht
    refine x_callV (pc2 := 42) (As := [.ref a1, .ref a3]) (rest := []) (b := a0) mv_X11_mayCome ml_X11_145 k9 rfl rfl (Nat.le_of_ble_eq_true rfl) hd1 dX11_search_39 rfl (ht.mono (fun r6 h7 p8 ht' => ?_))
    clear ht
    obtain ⟨v10, rfl, ht⟩ := ht'
    show Ex G d mX11_search 42 [(0, .ref a0), (1, .ref a1), (2, va_rf o2), (3, .ref a3), (4, .int x4), (5, .ref a5), (6, .int x6), (7, .int x7)] [.int v10] h7 Q
    refine x_if_eq (pc2 := 45) 67 dX11_search_42 (by decide) rfl (fun c11 => ?_) (fun c11 => ?_)
    · replace ht := ht.1 c11
      refine x_iinc (pc2 := 70) 7 [1, 2, 3, 4, 5, 6, 7, 0] (i := 7) (x := x7) (v := (x7 + 1)) (lv2 := [(0, .ref a0), (1, .ref a1), (2, va_rf o2), (3, .ref a3), (4, .int x4), (5, .ref a5), (6, .int x6), (7, .int (x7 + 1))]) rfl (iinc_eq (by decide) _) (by decide) rfl dX11_search_67 rfl ?_
      refine x_goto 21 dX11_search_70 (by decide) ?_
      exact ht
    · replace ht := ht.2 c11
      refine x_aload (pc2 := 47) 5 (n := 5) (x := a5) rfl dX11_search_45 rfl ?_
      refine x_aloadq_n (pc2 := 48) 2 (n := 2) (x := o2) rfl dX11_search_47 rfl ?_
      refine x_ifnonnull (pc2 := 51) (x := o2) 55 dX11_search_48 (by decide) rfl (fun q13 e12 => ?_) (fun e12 => ?_)
      · replace ht := ht.2 q13 e12
        subst e12
        show Ex G d mX11_search 55 [(0, .ref a0), (1, .ref a1), (2, .ref q13), (3, .ref a3), (4, .int x4), (5, .ref a5), (6, .int x6), (7, .int x7)] [.ref a5] h7 Q
        refine x_aload_n (pc2 := 56) 2 (n := 2) (x := q13) rfl dX11_search_55 rfl ?_
        refine x_aload_n (pc2 := 57) 3 (n := 3) (x := a3) rfl dX11_search_56 rfl ?_
        obtain ⟨q18, e19, ht⟩ := ht
        refine y_getR (pc2 := 60) (κ := 3) (k := 17) fl_X11_168 (by decide) (by decide) ((k5.up p4).up p8) rfl e19 dX11_search_57 rfl ?_
        obtain ⟨k23, ht⟩ := ht
        refine x_callV (pc2 := 63) (As := [.ref q18]) (rest := [.ref a5]) (b := q13) mv_X4_total ml_X11_172 k23 rfl rfl (Nat.le_of_ble_eq_true rfl) hd1 dX11_search_60 rfl (ht.mono (fun r20 h21 p22 ht' => ?_))
        clear ht
        obtain ⟨v24, rfl, ht⟩ := ht'
        show Ex G d mX11_search 63 [(0, .ref a0), (1, .ref a1), (2, .ref q13), (3, .ref a3), (4, .int x4), (5, .ref a5), (6, .int x6), (7, .int x7)] [.long v24, .ref a5] h21 Q
        refine x_aload_n (pc2 := 64) 3 (n := 3) (x := a3) rfl dX11_search_63 rfl ?_
        obtain ⟨k28, ht⟩ := ht
        refine x_callV (pc2 := 67) (As := [.long v24, .ref a3]) (rest := []) (b := a5) mv_X0_weigh ml_X11_404 k28 rfl rfl (Nat.le_of_ble_eq_true rfl) hd1 dX11_search_64 rfl (ht.mono (fun r25 h26 p27 ht' => ?_))
        clear ht
        obtain ⟨rfl, ht⟩ := ht'
        show Ex G d mX11_search 67 [(0, .ref a0), (1, .ref a1), (2, .ref q13), (3, .ref a3), (4, .int x4), (5, .ref a5), (6, .int x6), (7, .int x7)] [] h26 Q
        refine x_iinc (pc2 := 70) 7 [1, 2, 3, 4, 5, 6, 7, 0] (i := 7) (x := x7) (v := (x7 + 1)) (lv2 := [(0, .ref a0), (1, .ref a1), (2, .ref q13), (3, .ref a3), (4, .int x4), (5, .ref a5), (6, .int x6), (7, .int (x7 + 1))]) rfl (iinc_eq (by decide) _) (by decide) rfl dX11_search_67 rfl ?_
        refine x_goto 21 dX11_search_70 (by decide) ?_
        exact ht
      · replace ht := ht.1 e12
        subst e12
        show Ex G d mX11_search 51 [(0, .ref a0), (1, .ref a1), (2, va_rf none), (3, .ref a3), (4, .int x4), (5, .ref a5), (6, .int x6), (7, .int x7)] [.ref a5] h7 Q
        refine x_lconst (pc2 := 52) (v := 0) (by decide) dX11_search_51 rfl ?_
        refine x_goto 63 dX11_search_52 (by decide) ?_
        refine x_aload_n (pc2 := 64) 3 (n := 3) (x := a3) rfl dX11_search_63 rfl ?_
        obtain ⟨k17, ht⟩ := ht
        refine x_callV (pc2 := 67) (As := [.long 0, .ref a3]) (rest := []) (b := a5) mv_X0_weigh ml_X11_404 k17 rfl rfl (Nat.le_of_ble_eq_true rfl) hd1 dX11_search_64 rfl (ht.mono (fun r14 h15 p16 ht' => ?_))
        clear ht
        obtain ⟨rfl, ht⟩ := ht'
        show Ex G d mX11_search 67 [(0, .ref a0), (1, .ref a1), (2, va_rf none), (3, .ref a3), (4, .int x4), (5, .ref a5), (6, .int x6), (7, .int x7)] [] h15 Q
        refine x_iinc (pc2 := 70) 7 [1, 2, 3, 4, 5, 6, 7, 0] (i := 7) (x := x7) (v := (x7 + 1)) (lv2 := [(0, .ref a0), (1, .ref a1), (2, va_rf none), (3, .ref a3), (4, .int x4), (5, .ref a5), (6, .int x6), (7, .int (x7 + 1))]) rfl (iinc_eq (by decide) _) (by decide) rfl dX11_search_67 rfl ?_
        refine x_goto 21 dX11_search_70 (by decide) ?_
        exact ht
def T_X11_way (G : GG) (d : Nat) (h : HP) (Q : Option Value → HP → Prop) (a0 : Nat) (x1 : Int32) (x2 : Int32) (x3 : Int32) (x4 : Int32) (x5 : Int32) (x6 : Int32) : Prop :=
  Cal G (d - 1) mX11_isFamily [.int x1] h (fun r1 h2 => ∃ v4, r1 = some (.int v4) ∧ ((v4 = 0 → Q (some (.int (-1))) h2) ∧ (¬ v4 = 0 → Kd G h2 a0 11 ∧ ∃ q7, hR h2 a0 12 = some q7 ∧ Kd G h2 q7 6 ∧ Cal G (d - 1) mX6_hasCell [.ref q7, .int x2, .int x3] h2 (fun r9 h10 => ∃ v13, r9 = some (.int v13) ∧ ((v13 = 0 → Q (some (.int (-1))) h10) ∧ (¬ v13 = 0 → ∃ q15, hR h10 a0 12 = some q15 ∧ Kd G h10 q15 6 ∧ Cal G (d - 1) mX6_hasCell [.ref q15, .int x4, .int x5] h10 (fun r17 h18 => ∃ v21, r17 = some (.int v21) ∧ ((v21 = 0 → Q (some (.int (-1))) h18) ∧ (¬ v21 = 0 → ((x6 < 0 → Q (some (.int (-1))) h18) ∧ (¬ x6 < 0 → ((x6 ≤ 2 → ∃ q25, hR h18 a0 7 = some q25 ∧ ∃ q27, hR h18 a0 12 = some q27 ∧ Kd G h18 q25 10 ∧ Cal G (d - 1) mX10_survey [.ref q25, .ref q27, .int (-1)] h18 (fun r29 h30 => r29 = none ∧ ∃ q33, hR h30 a0 7 = some q33 ∧ Kd G h30 q33 10 ∧ ∃ q36, hR h30 q33 0 = some q36 ∧ Cal G (d - 1) mX10_walk [.ref q33, .int ((x3 * 40) + x2), .int ((x5 * 40) + x4), .ref q36] h30 (fun r38 h39 => ∃ v41, r38 = some (.int v41) ∧ ((¬ v41 = (-1) → ((¬ x6 = 1 → ∃ q44, hR h39 a0 7 = some q44 ∧ Kd G h39 q44 10 ∧ Cal G (d - 1) mX10_settle [.ref q44, .int x1, .int x2, .int x3, .int x4, .int x5] h39 (fun r46 h47 => r46 = none ∧ ((¬ x6 = 0 → ∃ q51, hR h47 a0 7 = some q51 ∧ Kd G h47 q51 10 ∧ Q (some (.int (hI h47 q51 2))) h47) ∧ (x6 = 0 → ∃ q54, hR h47 a0 7 = some q54 ∧ Kd G h47 q54 10 ∧ Q (some (.int (hI h47 q54 1))) h47)))) ∧ (x6 = 1 → Q (some (.int v41)) h39))) ∧ (v41 = (-1) → Q (some (.int (-2))) h39))))) ∧ (¬ x6 ≤ 2 → Q (some (.int (-1))) h18)))))))))))))
set_option maxRecDepth 20000 in
theorem t_X11_way {G : GG} {d : Nat} {h : HP} {Q : Option Value → HP → Prop} {a0 : Nat} {x1 : Int32} {x2 : Int32} {x3 : Int32} {x4 : Int32} {x5 : Int32} {x6 : Int32} (hd1 : 1 ≤ d) (ht : T_X11_way G d h Q a0 x1 x2 x3 x4 x5 x6) : Ex G d mX11_way 0 [(0, .ref a0), (1, .int x1), (2, .int x2), (3, .int x3), (4, .int x4), (5, .int x5), (6, .int x6)] [] h Q := by
  unfold T_X11_way at ht
  refine x_iload_n (pc2 := 1) 1 (n := 1) (x := x1) rfl dX11_way_0 rfl ?_
  refine x_callS (pc2 := 4) (As := [.int x1]) (rest := []) ms_X11_isFamily ml_X11_125 rfl rfl (Nat.le_of_ble_eq_true rfl) hd1 dX11_way_1 rfl (ht.mono (fun r1 h2 p3 ht' => ?_))
  clear ht
  obtain ⟨v4, rfl, ht⟩ := ht'
  show Ex G d mX11_way 4 [(0, .ref a0), (1, .int x1), (2, .int x2), (3, .int x3), (4, .int x4), (5, .int x5), (6, .int x6)] [.int v4] h2 Q
  refine x_if_eq (pc2 := 7) 44 dX11_way_4 (by decide) rfl (fun c5 => ?_) (fun c5 => ?_)
  · replace ht := ht.1 c5
    refine x_iconst (pc2 := 45) (v := (-1)) (by decide) dX11_way_44 rfl ?_
    exact x_ret (ty := .int) rfl rfl dX11_way_45 ht
  · replace ht := ht.2 c5
    refine x_aload_n (pc2 := 8) 0 (n := 0) (x := a0) rfl dX11_way_7 rfl ?_
    obtain ⟨k6, ht⟩ := ht
    obtain ⟨q7, e8, ht⟩ := ht
    refine y_getR (pc2 := 11) (κ := 11) (k := 12) fl_X11_80 (by decide) (by decide) k6 rfl e8 dX11_way_8 rfl ?_
    refine x_iload_n (pc2 := 12) 2 (n := 2) (x := x2) rfl dX11_way_11 rfl ?_
    refine x_iload_n (pc2 := 13) 3 (n := 3) (x := x3) rfl dX11_way_12 rfl ?_
    obtain ⟨k12, ht⟩ := ht
    refine x_callV (pc2 := 16) (As := [.int x2, .int x3]) (rest := []) (b := q7) mv_X6_hasCell ml_X11_248 k12 rfl rfl (Nat.le_of_ble_eq_true rfl) hd1 dX11_way_13 rfl (ht.mono (fun r9 h10 p11 ht' => ?_))
    clear ht
    obtain ⟨v13, rfl, ht⟩ := ht'
    show Ex G d mX11_way 16 [(0, .ref a0), (1, .int x1), (2, .int x2), (3, .int x3), (4, .int x4), (5, .int x5), (6, .int x6)] [.int v13] h10 Q
    refine x_if_eq (pc2 := 19) 44 dX11_way_16 (by decide) rfl (fun c14 => ?_) (fun c14 => ?_)
    · replace ht := ht.1 c14
      refine x_iconst (pc2 := 45) (v := (-1)) (by decide) dX11_way_44 rfl ?_
      exact x_ret (ty := .int) rfl rfl dX11_way_45 ht
    · replace ht := ht.2 c14
      refine x_aload_n (pc2 := 20) 0 (n := 0) (x := a0) rfl dX11_way_19 rfl ?_
      obtain ⟨q15, e16, ht⟩ := ht
      refine y_getR (pc2 := 23) (κ := 11) (k := 12) fl_X11_80 (by decide) (by decide) (k6.up p11) rfl e16 dX11_way_20 rfl ?_
      refine x_iload (pc2 := 25) 4 (n := 4) (x := x4) rfl dX11_way_23 rfl ?_
      refine x_iload (pc2 := 27) 5 (n := 5) (x := x5) rfl dX11_way_25 rfl ?_
      obtain ⟨k20, ht⟩ := ht
      refine x_callV (pc2 := 30) (As := [.int x4, .int x5]) (rest := []) (b := q15) mv_X6_hasCell ml_X11_248 k20 rfl rfl (Nat.le_of_ble_eq_true rfl) hd1 dX11_way_27 rfl (ht.mono (fun r17 h18 p19 ht' => ?_))
      clear ht
      obtain ⟨v21, rfl, ht⟩ := ht'
      show Ex G d mX11_way 30 [(0, .ref a0), (1, .int x1), (2, .int x2), (3, .int x3), (4, .int x4), (5, .int x5), (6, .int x6)] [.int v21] h18 Q
      refine x_if_eq (pc2 := 33) 44 dX11_way_30 (by decide) rfl (fun c22 => ?_) (fun c22 => ?_)
      · replace ht := ht.1 c22
        refine x_iconst (pc2 := 45) (v := (-1)) (by decide) dX11_way_44 rfl ?_
        exact x_ret (ty := .int) rfl rfl dX11_way_45 ht
      · replace ht := ht.2 c22
        refine x_iload (pc2 := 35) 6 (n := 6) (x := x6) rfl dX11_way_33 rfl ?_
        refine x_if_lt (pc2 := 38) 44 dX11_way_35 (by decide) rfl (fun c23 => ?_) (fun c23 => ?_)
        · replace ht := ht.1 c23
          refine x_iconst (pc2 := 45) (v := (-1)) (by decide) dX11_way_44 rfl ?_
          exact x_ret (ty := .int) rfl rfl dX11_way_45 ht
        · replace ht := ht.2 c23
          refine x_iload (pc2 := 40) 6 (n := 6) (x := x6) rfl dX11_way_38 rfl ?_
          refine x_iconst (pc2 := 41) (v := 2) (by decide) dX11_way_40 rfl ?_
          refine x_icmp_le (pc2 := 44) 46 dX11_way_41 (by decide) rfl (fun c24 => ?_) (fun c24 => ?_)
          · replace ht := ht.1 c24
            refine x_aload_n (pc2 := 47) 0 (n := 0) (x := a0) rfl dX11_way_46 rfl ?_
            obtain ⟨q25, e26, ht⟩ := ht
            refine y_getR (pc2 := 50) (κ := 11) (k := 7) fl_X11_55 (by decide) (by decide) ((k6.up p11).up p19) rfl e26 dX11_way_47 rfl ?_
            refine x_aload_n (pc2 := 51) 0 (n := 0) (x := a0) rfl dX11_way_50 rfl ?_
            obtain ⟨q27, e28, ht⟩ := ht
            refine y_getR (pc2 := 54) (κ := 11) (k := 12) fl_X11_80 (by decide) (by decide) ((k6.up p11).up p19) rfl e28 dX11_way_51 rfl ?_
            refine x_iconst (pc2 := 55) (v := (-1)) (by decide) dX11_way_54 rfl ?_
            obtain ⟨k32, ht⟩ := ht
            refine x_callV (pc2 := 58) (As := [.ref q27, .int (-1)]) (rest := []) (b := q25) mv_X10_survey ml_X11_428 k32 rfl rfl (Nat.le_of_ble_eq_true rfl) hd1 dX11_way_55 rfl (ht.mono (fun r29 h30 p31 ht' => ?_))
            clear ht
            obtain ⟨rfl, ht⟩ := ht'
            show Ex G d mX11_way 58 [(0, .ref a0), (1, .int x1), (2, .int x2), (3, .int x3), (4, .int x4), (5, .int x5), (6, .int x6)] [] h30 Q
            refine x_aload_n (pc2 := 59) 0 (n := 0) (x := a0) rfl dX11_way_58 rfl ?_
            obtain ⟨q33, e34, ht⟩ := ht
            refine y_getR (pc2 := 62) (κ := 11) (k := 7) fl_X11_55 (by decide) (by decide) (((k6.up p11).up p19).up p31) rfl e34 dX11_way_59 rfl ?_
            refine x_iload_n (pc2 := 63) 3 (n := 3) (x := x3) rfl dX11_way_62 rfl ?_
            refine x_bipush (pc2 := 65) (v := 40) (by decide) dX11_way_63 rfl ?_
            refine x_imul (pc2 := 66) dX11_way_65 rfl ?_
            refine x_iload_n (pc2 := 67) 2 (n := 2) (x := x2) rfl dX11_way_66 rfl ?_
            refine x_iadd (pc2 := 68) dX11_way_67 rfl ?_
            refine x_iload (pc2 := 70) 5 (n := 5) (x := x5) rfl dX11_way_68 rfl ?_
            refine x_bipush (pc2 := 72) (v := 40) (by decide) dX11_way_70 rfl ?_
            refine x_imul (pc2 := 73) dX11_way_72 rfl ?_
            refine x_iload (pc2 := 75) 4 (n := 4) (x := x4) rfl dX11_way_73 rfl ?_
            refine x_iadd (pc2 := 76) dX11_way_75 rfl ?_
            refine x_aload_n (pc2 := 77) 0 (n := 0) (x := a0) rfl dX11_way_76 rfl ?_
            refine y_getR (pc2 := 80) (κ := 11) (k := 7) fl_X11_55 (by decide) (by decide) (((k6.up p11).up p19).up p31) rfl e34 dX11_way_77 rfl ?_
            obtain ⟨k35, ht⟩ := ht
            obtain ⟨q36, e37, ht⟩ := ht
            refine y_getR (pc2 := 83) (κ := 10) (k := 0) fl_X11_432 (by decide) (by decide) k35 rfl e37 dX11_way_80 rfl ?_
            refine x_callV (pc2 := 86) (As := [.int ((x3 * 40) + x2), .int ((x5 * 40) + x4), .ref q36]) (rest := []) (b := q33) mv_X10_walk ml_X11_435 k35 rfl rfl (Nat.le_of_ble_eq_true rfl) hd1 dX11_way_83 rfl (ht.mono (fun r38 h39 p40 ht' => ?_))
            clear ht
            obtain ⟨v41, rfl, ht⟩ := ht'
            show Ex G d mX11_way 86 [(0, .ref a0), (1, .int x1), (2, .int x2), (3, .int x3), (4, .int x4), (5, .int x5), (6, .int x6)] [.int v41] h39 Q
            refine x_istore (pc2 := 88) [1, 2, 3, 4, 5, 6, 7, 0] (n := 7) (x := v41) (lv2 := [(0, .ref a0), (1, .int x1), (2, .int x2), (3, .int x3), (4, .int x4), (5, .int x5), (6, .int x6), (7, .int v41)]) (by decide) rfl dX11_way_86 rfl ?_
            refine x_iload (pc2 := 90) 7 (n := 7) (x := v41) rfl dX11_way_88 rfl ?_
            refine x_iconst (pc2 := 91) (v := (-1)) (by decide) dX11_way_90 rfl ?_
            refine y_icmp_ne (pc2 := 94) 97 dX11_way_91 (by decide) rfl (fun c42 => ?_) (fun c42 => ?_)
            · replace ht := ht.1 c42
              refine x_iload (pc2 := 99) 6 (n := 6) (x := x6) rfl dX11_way_97 rfl ?_
              refine x_iconst (pc2 := 100) (v := 1) (by decide) dX11_way_99 rfl ?_
              refine y_icmp_ne (pc2 := 103) 106 dX11_way_100 (by decide) rfl (fun c43 => ?_) (fun c43 => ?_)
              · replace ht := ht.1 c43
                refine x_aload_n (pc2 := 107) 0 (n := 0) (x := a0) rfl dX11_way_106 rfl ?_
                obtain ⟨q44, e45, ht⟩ := ht
                refine y_getR (pc2 := 110) (κ := 11) (k := 7) fl_X11_55 (by decide) (by decide) ((((k6.up p11).up p19).up p31).up p40) rfl e45 dX11_way_107 rfl ?_
                refine x_iload_n (pc2 := 111) 1 (n := 1) (x := x1) rfl dX11_way_110 rfl ?_
                refine x_iload_n (pc2 := 112) 2 (n := 2) (x := x2) rfl dX11_way_111 rfl ?_
                refine x_iload_n (pc2 := 113) 3 (n := 3) (x := x3) rfl dX11_way_112 rfl ?_
                refine x_iload (pc2 := 115) 4 (n := 4) (x := x4) rfl dX11_way_113 rfl ?_
                refine x_iload (pc2 := 117) 5 (n := 5) (x := x5) rfl dX11_way_115 rfl ?_
                obtain ⟨k49, ht⟩ := ht
                refine x_callV (pc2 := 120) (As := [.int x1, .int x2, .int x3, .int x4, .int x5]) (rest := []) (b := q44) mv_X10_settle ml_X11_439 k49 rfl rfl (Nat.le_of_ble_eq_true rfl) hd1 dX11_way_117 rfl (ht.mono (fun r46 h47 p48 ht' => ?_))
                clear ht
                obtain ⟨rfl, ht⟩ := ht'
                show Ex G d mX11_way 120 [(0, .ref a0), (1, .int x1), (2, .int x2), (3, .int x3), (4, .int x4), (5, .int x5), (6, .int x6), (7, .int v41)] [] h47 Q
                refine x_iload (pc2 := 122) 6 (n := 6) (x := x6) rfl dX11_way_120 rfl ?_
                refine y_if_ne (pc2 := 125) 135 dX11_way_122 (by decide) rfl (fun c50 => ?_) (fun c50 => ?_)
                · replace ht := ht.1 c50
                  refine x_aload_n (pc2 := 136) 0 (n := 0) (x := a0) rfl dX11_way_135 rfl ?_
                  obtain ⟨q51, e52, ht⟩ := ht
                  refine y_getR (pc2 := 139) (κ := 11) (k := 7) fl_X11_55 (by decide) (by decide) (((((k6.up p11).up p19).up p31).up p40).up p48) rfl e52 dX11_way_136 rfl ?_
                  obtain ⟨k53, ht⟩ := ht
                  refine y_getI (pc2 := 142) (κ := 10) (k := 2) fl_X11_446 (by decide) (by decide) k53 rfl dX11_way_139 rfl ?_
                  exact x_ret (ty := .int) rfl rfl dX11_way_142 ht
                · replace ht := ht.2 c50
                  refine x_aload_n (pc2 := 126) 0 (n := 0) (x := a0) rfl dX11_way_125 rfl ?_
                  obtain ⟨q54, e55, ht⟩ := ht
                  refine y_getR (pc2 := 129) (κ := 11) (k := 7) fl_X11_55 (by decide) (by decide) (((((k6.up p11).up p19).up p31).up p40).up p48) rfl e55 dX11_way_126 rfl ?_
                  obtain ⟨k56, ht⟩ := ht
                  refine y_getI (pc2 := 132) (κ := 10) (k := 1) fl_X11_443 (by decide) (by decide) k56 rfl dX11_way_129 rfl ?_
                  refine x_goto 142 dX11_way_132 (by decide) ?_
                  exact x_ret (ty := .int) rfl rfl dX11_way_142 ht
              · replace ht := ht.2 c43
                refine x_iload (pc2 := 105) 7 (n := 7) (x := v41) rfl dX11_way_103 rfl ?_
                exact x_ret (ty := .int) rfl rfl dX11_way_105 ht
            · replace ht := ht.2 c42
              refine x_bipush (pc2 := 96) (v := (-2)) (by decide) dX11_way_94 rfl ?_
              exact x_ret (ty := .int) rfl rfl dX11_way_96 ht
          · replace ht := ht.2 c24
            refine x_iconst (pc2 := 45) (v := (-1)) (by decide) dX11_way_44 rfl ?_
            exact x_ret (ty := .int) rfl rfl dX11_way_45 ht
theorem e_X11_way {G : GG} {d : Nat} {h : HP} {Q : Option Value → HP → Prop} {a0 : Nat} {x1 : Int32} {x2 : Int32} {x3 : Int32} {x4 : Int32} {x5 : Int32} {x6 : Int32} (hd1 : 1 ≤ d) (ht : T_X11_way G d h Q a0 x1 x2 x3 x4 x5 x6) : Cal G d mX11_way [.ref a0, .int x1, .int x2, .int x3, .int x4, .int x5, .int x6] h Q := cal_of rfl (Nat.le_of_ble_eq_true rfl) (t_X11_way hd1 ht)
def T_X11_errand (G : GG) (d : Nat) (h : HP) (Q : Option Value → HP → Prop) (a0 : Nat) (x1 : Int32) (x2 : Int32) (x3 : Int32) (x4 : Int32) (x5 : Int32) (x6 : Int32) : Prop :=
  ((x1 < 0 → Q (some (.int 0)) h) ∧ (¬ x1 < 0 → ((6 ≤ x1 → Q (some (.int 0)) h) ∧ (¬ 6 ≤ x1 → Cal G (d - 1) mX11_isFamily [.int x2] h (fun r3 h4 => ∃ v6, r3 = some (.int v6) ∧ ((v6 = 0 → Q (some (.int 0)) h4) ∧ (¬ v6 = 0 → Cal G (d - 1) mX11_isErrandCell [.int x3, .int x4] h4 (fun r8 h9 => ∃ v11, r8 = some (.int v11) ∧ ((v11 = 0 → Q (some (.int 0)) h9) ∧ (¬ v11 = 0 → Cal G (d - 1) mX11_isErrandCell [.int x5, .int x6] h9 (fun r13 h14 => ∃ v16, r13 = some (.int v16) ∧ ((¬ v16 = 0 → Kd G h14 a0 11 ∧ ∃ q19, hR h14 a0 12 = some q19 ∧ Kd G h14 q19 6 ∧ ∃ q22, hR h14 q19 8 = some q22 ∧ Kd G h14 q22 17 ∧ vp_in x1 (hN h14 q22) ∧ ∃ q26, hR h14 q22 x1.toNatClampNeg = some q26 ∧ Kd G h14 q26 1 ∧ Cal G (d - 1) mX1_set [.ref q26, .int x2, .int x3, .int x4, .int x5, .int x6] h14 (fun r28 h29 => r28 = none ∧ Q (some (.int 1)) h29)) ∧ (v16 = 0 → Q (some (.int 0)) h14)))))))))))))
set_option maxRecDepth 20000 in
theorem t_X11_errand {G : GG} {d : Nat} {h : HP} {Q : Option Value → HP → Prop} {a0 : Nat} {x1 : Int32} {x2 : Int32} {x3 : Int32} {x4 : Int32} {x5 : Int32} {x6 : Int32} (hd1 : 1 ≤ d) (ht : T_X11_errand G d h Q a0 x1 x2 x3 x4 x5 x6) : Ex G d mX11_errand 0 [(0, .ref a0), (1, .int x1), (2, .int x2), (3, .int x3), (4, .int x4), (5, .int x5), (6, .int x6)] [] h Q := by
  unfold T_X11_errand at ht
  refine x_iload_n (pc2 := 1) 1 (n := 1) (x := x1) rfl dX11_errand_0 rfl ?_
  refine x_if_lt (pc2 := 4) 36 dX11_errand_1 (by decide) rfl (fun c1 => ?_) (fun c1 => ?_)
  · replace ht := ht.1 c1
    refine x_iconst (pc2 := 37) (v := 0) (by decide) dX11_errand_36 rfl ?_
    exact x_retZ rfl (Or.inl rfl) dX11_errand_37 ht
  · replace ht := ht.2 c1
    refine x_iload_n (pc2 := 5) 1 (n := 1) (x := x1) rfl dX11_errand_4 rfl ?_
    refine x_bipush (pc2 := 7) (v := 6) (by decide) dX11_errand_5 rfl ?_
    refine x_icmp_ge (pc2 := 10) 36 dX11_errand_7 (by decide) rfl (fun c2 => ?_) (fun c2 => ?_)
    · replace ht := ht.1 c2
      refine x_iconst (pc2 := 37) (v := 0) (by decide) dX11_errand_36 rfl ?_
      exact x_retZ rfl (Or.inl rfl) dX11_errand_37 ht
    · replace ht := ht.2 c2
      refine x_iload_n (pc2 := 11) 2 (n := 2) (x := x2) rfl dX11_errand_10 rfl ?_
      refine x_callS (pc2 := 14) (As := [.int x2]) (rest := []) ms_X11_isFamily ml_X11_125 rfl rfl (Nat.le_of_ble_eq_true rfl) hd1 dX11_errand_11 rfl (ht.mono (fun r3 h4 p5 ht' => ?_))
      clear ht
      obtain ⟨v6, rfl, ht⟩ := ht'
      show Ex G d mX11_errand 14 [(0, .ref a0), (1, .int x1), (2, .int x2), (3, .int x3), (4, .int x4), (5, .int x5), (6, .int x6)] [.int v6] h4 Q
      refine x_if_eq (pc2 := 17) 36 dX11_errand_14 (by decide) rfl (fun c7 => ?_) (fun c7 => ?_)
      · replace ht := ht.1 c7
        refine x_iconst (pc2 := 37) (v := 0) (by decide) dX11_errand_36 rfl ?_
        exact x_retZ rfl (Or.inl rfl) dX11_errand_37 ht
      · replace ht := ht.2 c7
        refine x_iload_n (pc2 := 18) 3 (n := 3) (x := x3) rfl dX11_errand_17 rfl ?_
        refine x_iload (pc2 := 20) 4 (n := 4) (x := x4) rfl dX11_errand_18 rfl ?_
        refine x_callS (pc2 := 23) (As := [.int x3, .int x4]) (rest := []) ms_X11_isErrandCell ml_X11_449 rfl rfl (Nat.le_of_ble_eq_true rfl) hd1 dX11_errand_20 rfl (ht.mono (fun r8 h9 p10 ht' => ?_))
        clear ht
        obtain ⟨v11, rfl, ht⟩ := ht'
        show Ex G d mX11_errand 23 [(0, .ref a0), (1, .int x1), (2, .int x2), (3, .int x3), (4, .int x4), (5, .int x5), (6, .int x6)] [.int v11] h9 Q
        refine x_if_eq (pc2 := 26) 36 dX11_errand_23 (by decide) rfl (fun c12 => ?_) (fun c12 => ?_)
        · replace ht := ht.1 c12
          refine x_iconst (pc2 := 37) (v := 0) (by decide) dX11_errand_36 rfl ?_
          exact x_retZ rfl (Or.inl rfl) dX11_errand_37 ht
        · replace ht := ht.2 c12
          refine x_iload (pc2 := 28) 5 (n := 5) (x := x5) rfl dX11_errand_26 rfl ?_
          refine x_iload (pc2 := 30) 6 (n := 6) (x := x6) rfl dX11_errand_28 rfl ?_
          refine x_callS (pc2 := 33) (As := [.int x5, .int x6]) (rest := []) ms_X11_isErrandCell ml_X11_449 rfl rfl (Nat.le_of_ble_eq_true rfl) hd1 dX11_errand_30 rfl (ht.mono (fun r13 h14 p15 ht' => ?_))
          clear ht
          obtain ⟨v16, rfl, ht⟩ := ht'
          show Ex G d mX11_errand 33 [(0, .ref a0), (1, .int x1), (2, .int x2), (3, .int x3), (4, .int x4), (5, .int x5), (6, .int x6)] [.int v16] h14 Q
          refine y_if_ne (pc2 := 36) 38 dX11_errand_33 (by decide) rfl (fun c17 => ?_) (fun c17 => ?_)
          · replace ht := ht.1 c17
            refine x_aload_n (pc2 := 39) 0 (n := 0) (x := a0) rfl dX11_errand_38 rfl ?_
            obtain ⟨k18, ht⟩ := ht
            obtain ⟨q19, e20, ht⟩ := ht
            refine y_getR (pc2 := 42) (κ := 11) (k := 12) fl_X11_80 (by decide) (by decide) k18 rfl e20 dX11_errand_39 rfl ?_
            obtain ⟨k21, ht⟩ := ht
            obtain ⟨q22, e23, ht⟩ := ht
            refine y_getR (pc2 := 45) (κ := 6) (k := 8) fl_X11_452 (by decide) (by decide) k21 rfl e23 dX11_errand_42 rfl ?_
            refine x_iload_n (pc2 := 46) 1 (n := 1) (x := x1) rfl dX11_errand_45 rfl ?_
            obtain ⟨k24, ht⟩ := ht
            obtain ⟨b25, ht⟩ := ht
            obtain ⟨q26, e27, ht⟩ := ht
            refine y_aaldR (pc2 := 47) (κ := 17) (by decide) k24 b25 e27 dX11_errand_46 rfl ?_
            refine x_iload_n (pc2 := 48) 2 (n := 2) (x := x2) rfl dX11_errand_47 rfl ?_
            refine x_iload_n (pc2 := 49) 3 (n := 3) (x := x3) rfl dX11_errand_48 rfl ?_
            refine x_iload (pc2 := 51) 4 (n := 4) (x := x4) rfl dX11_errand_49 rfl ?_
            refine x_iload (pc2 := 53) 5 (n := 5) (x := x5) rfl dX11_errand_51 rfl ?_
            refine x_iload (pc2 := 55) 6 (n := 6) (x := x6) rfl dX11_errand_53 rfl ?_
            obtain ⟨k31, ht⟩ := ht
            refine x_callV (pc2 := 58) (As := [.int x2, .int x3, .int x4, .int x5, .int x6]) (rest := []) (b := q26) mv_X1_set ml_X11_456 k31 rfl rfl (Nat.le_of_ble_eq_true rfl) hd1 dX11_errand_55 rfl (ht.mono (fun r28 h29 p30 ht' => ?_))
            clear ht
            obtain ⟨rfl, ht⟩ := ht'
            show Ex G d mX11_errand 58 [(0, .ref a0), (1, .int x1), (2, .int x2), (3, .int x3), (4, .int x4), (5, .int x5), (6, .int x6)] [] h29 Q
            refine x_iconst (pc2 := 59) (v := 1) (by decide) dX11_errand_58 rfl ?_
            exact x_retZ rfl (Or.inr rfl) dX11_errand_59 ht
          · replace ht := ht.2 c17
            refine x_iconst (pc2 := 37) (v := 0) (by decide) dX11_errand_36 rfl ?_
            exact x_retZ rfl (Or.inl rfl) dX11_errand_37 ht
theorem e_X11_errand {G : GG} {d : Nat} {h : HP} {Q : Option Value → HP → Prop} {a0 : Nat} {x1 : Int32} {x2 : Int32} {x3 : Int32} {x4 : Int32} {x5 : Int32} {x6 : Int32} (hd1 : 1 ≤ d) (ht : T_X11_errand G d h Q a0 x1 x2 x3 x4 x5 x6) : Cal G d mX11_errand [.ref a0, .int x1, .int x2, .int x3, .int x4, .int x5, .int x6] h Q := cal_of rfl (Nat.le_of_ble_eq_true rfl) (t_X11_errand hd1 ht)
def T_X11_isErrandCell (G : GG) (d : Nat) (h : HP) (Q : Option Value → HP → Prop) (x0 : Int32) (x1 : Int32) : Prop :=
  ((x0 < 0 → Q (some (.int 0)) h) ∧ (¬ x0 < 0 → ((40 ≤ x0 → Q (some (.int 0)) h) ∧ (¬ 40 ≤ x0 → ((x1 < 0 → Q (some (.int 0)) h) ∧ (¬ x1 < 0 → ((40 ≤ x1 → Q (some (.int 0)) h) ∧ (¬ 40 ≤ x1 → Q (some (.int 1)) h))))))))
set_option maxRecDepth 20000 in
theorem t_X11_isErrandCell {G : GG} {d : Nat} {h : HP} {Q : Option Value → HP → Prop} {x0 : Int32} {x1 : Int32} (ht : T_X11_isErrandCell G d h Q x0 x1) : Ex G d mX11_isErrandCell 0 [(0, .int x0), (1, .int x1)] [] h Q := by
  unfold T_X11_isErrandCell at ht
  refine x_iload_n (pc2 := 1) 0 (n := 0) (x := x0) rfl dX11_isErrandCell_0 rfl ?_
  refine x_if_lt (pc2 := 4) 24 dX11_isErrandCell_1 (by decide) rfl (fun c1 => ?_) (fun c1 => ?_)
  · replace ht := ht.1 c1
    refine x_iconst (pc2 := 25) (v := 0) (by decide) dX11_isErrandCell_24 rfl ?_
    exact x_retZ rfl (Or.inl rfl) dX11_isErrandCell_25 ht
  · replace ht := ht.2 c1
    refine x_iload_n (pc2 := 5) 0 (n := 0) (x := x0) rfl dX11_isErrandCell_4 rfl ?_
    refine x_bipush (pc2 := 7) (v := 40) (by decide) dX11_isErrandCell_5 rfl ?_
    refine x_icmp_ge (pc2 := 10) 24 dX11_isErrandCell_7 (by decide) rfl (fun c2 => ?_) (fun c2 => ?_)
    · replace ht := ht.1 c2
      refine x_iconst (pc2 := 25) (v := 0) (by decide) dX11_isErrandCell_24 rfl ?_
      exact x_retZ rfl (Or.inl rfl) dX11_isErrandCell_25 ht
    · replace ht := ht.2 c2
      refine x_iload_n (pc2 := 11) 1 (n := 1) (x := x1) rfl dX11_isErrandCell_10 rfl ?_
      refine x_if_lt (pc2 := 14) 24 dX11_isErrandCell_11 (by decide) rfl (fun c3 => ?_) (fun c3 => ?_)
      · replace ht := ht.1 c3
        refine x_iconst (pc2 := 25) (v := 0) (by decide) dX11_isErrandCell_24 rfl ?_
        exact x_retZ rfl (Or.inl rfl) dX11_isErrandCell_25 ht
      · replace ht := ht.2 c3
        refine x_iload_n (pc2 := 15) 1 (n := 1) (x := x1) rfl dX11_isErrandCell_14 rfl ?_
        refine x_bipush (pc2 := 17) (v := 40) (by decide) dX11_isErrandCell_15 rfl ?_
        refine x_icmp_ge (pc2 := 20) 24 dX11_isErrandCell_17 (by decide) rfl (fun c4 => ?_) (fun c4 => ?_)
        · replace ht := ht.1 c4
          refine x_iconst (pc2 := 25) (v := 0) (by decide) dX11_isErrandCell_24 rfl ?_
          exact x_retZ rfl (Or.inl rfl) dX11_isErrandCell_25 ht
        · replace ht := ht.2 c4
          refine x_iconst (pc2 := 21) (v := 1) (by decide) dX11_isErrandCell_20 rfl ?_
          refine x_goto 25 dX11_isErrandCell_21 (by decide) ?_
          exact x_retZ rfl (Or.inr rfl) dX11_isErrandCell_25 ht
theorem e_X11_isErrandCell {G : GG} {d : Nat} {h : HP} {Q : Option Value → HP → Prop} {x0 : Int32} {x1 : Int32} (ht : T_X11_isErrandCell G d h Q x0 x1) : Cal G d mX11_isErrandCell [.int x0, .int x1] h Q := cal_of rfl (Nat.le_of_ble_eq_true rfl) (t_X11_isErrandCell ht)
def T_X11_sum (G : GG) (d : Nat) (h : HP) (Q : Option Value → HP → Prop) (a0 : Nat) (x1 : Int32) : Prop :=
  ((x1 < 0 → Q (some (.int (-1))) h) ∧ (¬ x1 < 0 → ((x1 ≤ 1 → Kd G h a0 11 ∧ ∃ q4, hR h a0 7 = some q4 ∧ ∃ q6, hR h a0 12 = some q6 ∧ Kd G h q4 10 ∧ Cal G (d - 1) mX10_survey [.ref q4, .ref q6, .int (-1)] h (fun r8 h9 => r8 = none ∧ ((¬ x1 = 0 → Cal G (d - 1) mX11_total [.ref a0, .int 0] h9 (fun r13 h14 => ∃ v16, r13 = some (.int v16) ∧ Q (some (.int v16)) h14)) ∧ (x1 = 0 → Cal G (d - 1) mX11_total [.ref a0, .int 1] h9 (fun r17 h18 => ∃ v20, r17 = some (.int v20) ∧ Q (some (.int v20)) h18))))) ∧ (¬ x1 ≤ 1 → Q (some (.int (-1))) h))))
set_option maxRecDepth 20000 in
theorem t_X11_sum {G : GG} {d : Nat} {h : HP} {Q : Option Value → HP → Prop} {a0 : Nat} {x1 : Int32} (hd1 : 1 ≤ d) (ht : T_X11_sum G d h Q a0 x1) : Ex G d mX11_sum 0 [(0, .ref a0), (1, .int x1)] [] h Q := by
  unfold T_X11_sum at ht
  refine x_iload_n (pc2 := 1) 1 (n := 1) (x := x1) rfl dX11_sum_0 rfl ?_
  refine x_if_lt (pc2 := 4) 9 dX11_sum_1 (by decide) rfl (fun c1 => ?_) (fun c1 => ?_)
  · replace ht := ht.1 c1
    refine x_iconst (pc2 := 10) (v := (-1)) (by decide) dX11_sum_9 rfl ?_
    exact x_ret (ty := .int) rfl rfl dX11_sum_10 ht
  · replace ht := ht.2 c1
    refine x_iload_n (pc2 := 5) 1 (n := 1) (x := x1) rfl dX11_sum_4 rfl ?_
    refine x_iconst (pc2 := 6) (v := 1) (by decide) dX11_sum_5 rfl ?_
    refine x_icmp_le (pc2 := 9) 11 dX11_sum_6 (by decide) rfl (fun c2 => ?_) (fun c2 => ?_)
    · replace ht := ht.1 c2
      refine x_aload_n (pc2 := 12) 0 (n := 0) (x := a0) rfl dX11_sum_11 rfl ?_
      obtain ⟨k3, ht⟩ := ht
      obtain ⟨q4, e5, ht⟩ := ht
      refine y_getR (pc2 := 15) (κ := 11) (k := 7) fl_X11_55 (by decide) (by decide) k3 rfl e5 dX11_sum_12 rfl ?_
      refine x_aload_n (pc2 := 16) 0 (n := 0) (x := a0) rfl dX11_sum_15 rfl ?_
      obtain ⟨q6, e7, ht⟩ := ht
      refine y_getR (pc2 := 19) (κ := 11) (k := 12) fl_X11_80 (by decide) (by decide) k3 rfl e7 dX11_sum_16 rfl ?_
      refine x_iconst (pc2 := 20) (v := (-1)) (by decide) dX11_sum_19 rfl ?_
      obtain ⟨k11, ht⟩ := ht
      refine x_callV (pc2 := 23) (As := [.ref q6, .int (-1)]) (rest := []) (b := q4) mv_X10_survey ml_X11_428 k11 rfl rfl (Nat.le_of_ble_eq_true rfl) hd1 dX11_sum_20 rfl (ht.mono (fun r8 h9 p10 ht' => ?_))
      clear ht
      obtain ⟨rfl, ht⟩ := ht'
      show Ex G d mX11_sum 23 [(0, .ref a0), (1, .int x1)] [] h9 Q
      refine x_aload_n (pc2 := 24) 0 (n := 0) (x := a0) rfl dX11_sum_23 rfl ?_
      refine x_iload_n (pc2 := 25) 1 (n := 1) (x := x1) rfl dX11_sum_24 rfl ?_
      refine y_if_ne (pc2 := 28) 32 dX11_sum_25 (by decide) rfl (fun c12 => ?_) (fun c12 => ?_)
      · replace ht := ht.1 c12
        refine x_iconst (pc2 := 33) (v := 0) (by decide) dX11_sum_32 rfl ?_
        refine x_callV (pc2 := 36) (As := [.int 0]) (rest := []) (b := a0) mv_X11_total ml_X11_460 (k3.up p10) rfl rfl (Nat.le_of_ble_eq_true rfl) hd1 dX11_sum_33 rfl (ht.mono (fun r13 h14 p15 ht' => ?_))
        clear ht
        obtain ⟨v16, rfl, ht⟩ := ht'
        show Ex G d mX11_sum 36 [(0, .ref a0), (1, .int x1)] [.int v16] h14 Q
        exact x_ret (ty := .int) rfl rfl dX11_sum_36 ht
      · replace ht := ht.2 c12
        refine x_iconst (pc2 := 29) (v := 1) (by decide) dX11_sum_28 rfl ?_
        refine x_goto 33 dX11_sum_29 (by decide) ?_
        refine x_callV (pc2 := 36) (As := [.int 1]) (rest := []) (b := a0) mv_X11_total ml_X11_460 (k3.up p10) rfl rfl (Nat.le_of_ble_eq_true rfl) hd1 dX11_sum_33 rfl (ht.mono (fun r17 h18 p19 ht' => ?_))
        clear ht
        obtain ⟨v20, rfl, ht⟩ := ht'
        show Ex G d mX11_sum 36 [(0, .ref a0), (1, .int x1)] [.int v20] h18 Q
        exact x_ret (ty := .int) rfl rfl dX11_sum_36 ht
    · replace ht := ht.2 c2
      refine x_iconst (pc2 := 10) (v := (-1)) (by decide) dX11_sum_9 rfl ?_
      exact x_ret (ty := .int) rfl rfl dX11_sum_10 ht
theorem e_X11_sum {G : GG} {d : Nat} {h : HP} {Q : Option Value → HP → Prop} {a0 : Nat} {x1 : Int32} (hd1 : 1 ≤ d) (ht : T_X11_sum G d h Q a0 x1) : Cal G d mX11_sum [.ref a0, .int x1] h Q := cal_of rfl (Nat.le_of_ble_eq_true rfl) (t_X11_sum hd1 ht)
def T_X11_total (G : GG) (d : Nat) (h : HP) (Q : Option Value → HP → Prop) (a0 : Nat) (x1 : Int32) : Prop :=
  Ex G d mX11_total 4 [(0, .ref a0), (1, .int x1), (2, .int 0), (3, .int 0)] [] h Q
set_option maxRecDepth 20000 in
theorem t_X11_total {G : GG} {d : Nat} {h : HP} {Q : Option Value → HP → Prop} {a0 : Nat} {x1 : Int32} (ht : T_X11_total G d h Q a0 x1) : Ex G d mX11_total 0 [(0, .ref a0), (1, .int x1)] [] h Q := by
  unfold T_X11_total at ht
  refine x_iconst (pc2 := 1) (v := 0) (by decide) dX11_total_0 rfl ?_
  refine x_istore_n (pc2 := 2) [1, 2, 0] (n := 2) (x := 0) (lv2 := [(0, .ref a0), (1, .int x1), (2, .int 0)]) (by decide) rfl dX11_total_1 rfl ?_
  refine x_iconst (pc2 := 3) (v := 0) (by decide) dX11_total_2 rfl ?_
  refine x_istore_n (pc2 := 4) [1, 2, 3, 0] (n := 3) (x := 0) (lv2 := [(0, .ref a0), (1, .int x1), (2, .int 0), (3, .int 0)]) (by decide) rfl dX11_total_3 rfl ?_
  exact ht
theorem e_X11_total {G : GG} {d : Nat} {h : HP} {Q : Option Value → HP → Prop} {a0 : Nat} {x1 : Int32} (ht : T_X11_total G d h Q a0 x1) : Cal G d mX11_total [.ref a0, .int x1] h Q := cal_of rfl (Nat.le_of_ble_eq_true rfl) (t_X11_total ht)
def T_X11_total_4 (G : GG) (d : Nat) (h : HP) (Q : Option Value → HP → Prop) (a0 : Nat) (x1 : Int32) (x2 : Int32) (x3 : Int32) : Prop :=
  ((6 ≤ x3 → Q (some (.int x2)) h) ∧ (¬ 6 ≤ x3 → Kd G h a0 11 ∧ ∃ q3, hR h a0 12 = some q3 ∧ Kd G h q3 6 ∧ ∃ q6, hR h q3 8 = some q6 ∧ Kd G h q6 17 ∧ vp_in x3 (hN h q6) ∧ ∃ q10, hR h q6 x3.toNatClampNeg = some q10 ∧ Kd G h q10 1 ∧ (((hI h q10 0) = 0 → Ex G d mX11_total 4 [(0, .ref a0), (1, .int x1), (2, .int x2), (3, .int (x3 + 1))] [] h Q) ∧ (¬ (hI h q10 0) = 0 → Cal G (d - 1) mX6_hasEnds [.ref q3, .ref q10] h (fun r14 h15 => ∃ v17, r14 = some (.int v17) ∧ ((v17 = 0 → Ex G d mX11_total 69 [(0, .ref a0), (1, .int x1), (2, .int x2), (3, .int x3), (4, .ref q10)] [.int (-1)] h15 Q) ∧ (¬ v17 = 0 → ∃ q19, hR h15 a0 7 = some q19 ∧ Cal G (d - 1) mX1_from [.ref q10] h15 (fun r21 h22 => ∃ v24, r21 = some (.int v24) ∧ Cal G (d - 1) mX1_to [.ref q10] h22 (fun r25 h26 => ∃ v28, r25 = some (.int v28) ∧ ∃ q29, hR h26 a0 7 = some q29 ∧ Kd G h26 q29 10 ∧ ∃ q32, hR h26 q29 0 = some q32 ∧ Kd G h26 q19 10 ∧ Cal G (d - 1) mX10_walk [.ref q19, .int v24, .int v28, .ref q32] h26 (fun r34 h35 => ∃ v38, r34 = some (.int v38) ∧ Ex G d mX11_total 69 [(0, .ref a0), (1, .int x1), (2, .int x2), (3, .int x3), (4, .ref q10)] [.int v38] h35 Q))))))))))
set_option maxRecDepth 20000 in
theorem t_X11_total_4 {G : GG} {d : Nat} {h : HP} {Q : Option Value → HP → Prop} {a0 : Nat} {x1 : Int32} {x2 : Int32} {x3 : Int32} (hd1 : 1 ≤ d) (ht : T_X11_total_4 G d h Q a0 x1 x2 x3) : Ex G d mX11_total 4 [(0, .ref a0), (1, .int x1), (2, .int x2), (3, .int x3)] [] h Q := by
  unfold T_X11_total_4 at ht
  refine x_iload_n (pc2 := 5) 3 (n := 3) (x := x3) rfl dX11_total_4 rfl ?_
  refine x_bipush (pc2 := 7) (v := 6) (by decide) dX11_total_5 rfl ?_
  refine x_icmp_ge (pc2 := 10) 156 dX11_total_7 (by decide) rfl (fun c1 => ?_) (fun c1 => ?_)
  · replace ht := ht.1 c1
    refine x_iload_n (pc2 := 157) 2 (n := 2) (x := x2) rfl dX11_total_156 rfl ?_
    exact x_ret (ty := .int) rfl rfl dX11_total_157 ht
  · replace ht := ht.2 c1
    refine x_aload_n (pc2 := 11) 0 (n := 0) (x := a0) rfl dX11_total_10 rfl ?_
    obtain ⟨k2, ht⟩ := ht
    obtain ⟨q3, e4, ht⟩ := ht
    refine y_getR (pc2 := 14) (κ := 11) (k := 12) fl_X11_80 (by decide) (by decide) k2 rfl e4 dX11_total_11 rfl ?_
    obtain ⟨k5, ht⟩ := ht
    obtain ⟨q6, e7, ht⟩ := ht
    refine y_getR (pc2 := 17) (κ := 6) (k := 8) fl_X11_452 (by decide) (by decide) k5 rfl e7 dX11_total_14 rfl ?_
    refine x_iload_n (pc2 := 18) 3 (n := 3) (x := x3) rfl dX11_total_17 rfl ?_
    obtain ⟨k8, ht⟩ := ht
    obtain ⟨b9, ht⟩ := ht
    obtain ⟨q10, e11, ht⟩ := ht
    refine y_aaldR (pc2 := 19) (κ := 17) (by decide) k8 b9 e11 dX11_total_18 rfl ?_
    refine x_astore (pc2 := 21) [1, 2, 3, 4, 0] (n := 4) (x := q10) (lv2 := [(0, .ref a0), (1, .int x1), (2, .int x2), (3, .int x3), (4, .ref q10)]) (by decide) rfl dX11_total_19 rfl ?_
    refine x_aload (pc2 := 23) 4 (n := 4) (x := q10) rfl dX11_total_21 rfl ?_
    obtain ⟨k12, ht⟩ := ht
    refine y_getI (pc2 := 26) (κ := 1) (k := 0) fl_X11_463 (by decide) (by decide) k12 rfl dX11_total_23 rfl ?_
    refine x_if_eq (pc2 := 29) 150 dX11_total_26 (by decide) rfl (fun c13 => ?_) (fun c13 => ?_)
    · replace ht := ht.1 c13
      refine x_iinc (pc2 := 153) 3 [1, 2, 3, 0, 4] (i := 3) (x := x3) (v := (x3 + 1)) (lv2 := [(0, .ref a0), (1, .int x1), (2, .int x2), (3, .int (x3 + 1)), (4, .ref q10)]) rfl (iinc_eq (by decide) _) (by decide) rfl dX11_total_150 rfl ?_
      refine x_goto 4 dX11_total_153 (by decide) ?_
      refine x_sub [0, 1, 2, 3] (lv2 := [(0, .ref a0), (1, .int x1), (2, .int x2), (3, .int (x3 + 1))]) rfl ?_
      exact ht
    · replace ht := ht.2 c13
      refine x_aload_n (pc2 := 30) 0 (n := 0) (x := a0) rfl dX11_total_29 rfl ?_
      refine y_getR (pc2 := 33) (κ := 11) (k := 12) fl_X11_80 (by decide) (by decide) k2 rfl e4 dX11_total_30 rfl ?_
      refine x_aload (pc2 := 35) 4 (n := 4) (x := q10) rfl dX11_total_33 rfl ?_
      refine x_callV (pc2 := 38) (As := [.ref q10]) (rest := []) (b := q3) mv_X6_hasEnds ml_X11_466 k5 rfl rfl (Nat.le_of_ble_eq_true rfl) hd1 dX11_total_35 rfl (ht.mono (fun r14 h15 p16 ht' => ?_))
      clear ht
      obtain ⟨v17, rfl, ht⟩ := ht'
      show Ex G d mX11_total 38 [(0, .ref a0), (1, .int x1), (2, .int x2), (3, .int x3), (4, .ref q10)] [.int v17] h15 Q
      refine x_if_eq (pc2 := 41) 68 dX11_total_38 (by decide) rfl (fun c18 => ?_) (fun c18 => ?_)
      · replace ht := ht.1 c18
        refine x_iconst (pc2 := 69) (v := (-1)) (by decide) dX11_total_68 rfl ?_
        exact ht
      · replace ht := ht.2 c18
        refine x_aload_n (pc2 := 42) 0 (n := 0) (x := a0) rfl dX11_total_41 rfl ?_
        obtain ⟨q19, e20, ht⟩ := ht
        refine y_getR (pc2 := 45) (κ := 11) (k := 7) fl_X11_55 (by decide) (by decide) (k2.up p16) rfl e20 dX11_total_42 rfl ?_
        refine x_aload (pc2 := 47) 4 (n := 4) (x := q10) rfl dX11_total_45 rfl ?_
        refine x_callV (pc2 := 50) (As := []) (rest := [.ref q19]) (b := q10) mv_X1_from ml_X11_470 (k12.up p16) rfl rfl (Nat.le_of_ble_eq_true rfl) hd1 dX11_total_47 rfl (ht.mono (fun r21 h22 p23 ht' => ?_))
        clear ht
        obtain ⟨v24, rfl, ht⟩ := ht'
        show Ex G d mX11_total 50 [(0, .ref a0), (1, .int x1), (2, .int x2), (3, .int x3), (4, .ref q10)] [.int v24, .ref q19] h22 Q
        refine x_aload (pc2 := 52) 4 (n := 4) (x := q10) rfl dX11_total_50 rfl ?_
        refine x_callV (pc2 := 55) (As := []) (rest := [.int v24, .ref q19]) (b := q10) mv_X1_to ml_X11_473 ((k12.up p16).up p23) rfl rfl (Nat.le_of_ble_eq_true rfl) hd1 dX11_total_52 rfl (ht.mono (fun r25 h26 p27 ht' => ?_))
        clear ht
        obtain ⟨v28, rfl, ht⟩ := ht'
        show Ex G d mX11_total 55 [(0, .ref a0), (1, .int x1), (2, .int x2), (3, .int x3), (4, .ref q10)] [.int v28, .int v24, .ref q19] h26 Q
        refine x_aload_n (pc2 := 56) 0 (n := 0) (x := a0) rfl dX11_total_55 rfl ?_
        obtain ⟨q29, e30, ht⟩ := ht
        refine y_getR (pc2 := 59) (κ := 11) (k := 7) fl_X11_55 (by decide) (by decide) (((k2.up p16).up p23).up p27) rfl e30 dX11_total_56 rfl ?_
        obtain ⟨k31, ht⟩ := ht
        obtain ⟨q32, e33, ht⟩ := ht
        refine y_getR (pc2 := 62) (κ := 10) (k := 0) fl_X11_432 (by decide) (by decide) k31 rfl e33 dX11_total_59 rfl ?_
        obtain ⟨k37, ht⟩ := ht
        refine x_callV (pc2 := 65) (As := [.int v24, .int v28, .ref q32]) (rest := []) (b := q19) mv_X10_walk ml_X11_435 k37 rfl rfl (Nat.le_of_ble_eq_true rfl) hd1 dX11_total_62 rfl (ht.mono (fun r34 h35 p36 ht' => ?_))
        clear ht
        obtain ⟨v38, rfl, ht⟩ := ht'
        show Ex G d mX11_total 65 [(0, .ref a0), (1, .int x1), (2, .int x2), (3, .int x3), (4, .ref q10)] [.int v38] h35 Q
        refine x_goto 69 dX11_total_65 (by decide) ?_
        exact ht
def T_X11_total_69 (G : GG) (d : Nat) (h : HP) (Q : Option Value → HP → Prop) (a0 : Nat) (x1 : Int32) (x2 : Int32) (x3 : Int32) (a4 : Nat) (sx0 : Int32) : Prop :=
  ((¬ sx0 = (-1) → ((x1 = 0 → Ex G d mX11_total 4 [(0, .ref a0), (1, .int x1), (2, .int (x2 + sx0)), (3, .int (x3 + 1))] [] h Q) ∧ (¬ x1 = 0 → Kd G h a0 11 ∧ ∃ q4, hR h a0 7 = some q4 ∧ Kd G h a4 1 ∧ Kd G h q4 10 ∧ Cal G (d - 1) mX10_settle [.ref q4, .int (hI h a4 1), .int (hI h a4 2), .int (hI h a4 3), .int (hI h a4 4), .int (hI h a4 5)] h (fun r7 h8 => r7 = none ∧ ∃ q11, hR h8 a0 7 = some q11 ∧ Kd G h8 q11 10 ∧ Ex G d mX11_total 4 [(0, .ref a0), (1, .int x1), (2, .int (x2 + (hI h8 q11 1))), (3, .int (x3 + 1))] [] h8 Q)))) ∧ (sx0 = (-1) → ((x1 = 0 → Ex G d mX11_total 4 [(0, .ref a0), (1, .int x1), (2, .int (x2 + 9999)), (3, .int (x3 + 1))] [] h Q) ∧ (¬ x1 = 0 → Ex G d mX11_total 4 [(0, .ref a0), (1, .int x1), (2, .int (x2 + 999)), (3, .int (x3 + 1))] [] h Q))))
set_option maxRecDepth 20000 in
theorem t_X11_total_69 {G : GG} {d : Nat} {h : HP} {Q : Option Value → HP → Prop} {a0 : Nat} {x1 : Int32} {x2 : Int32} {x3 : Int32} {a4 : Nat} {sx0 : Int32} (hd1 : 1 ≤ d) (ht : T_X11_total_69 G d h Q a0 x1 x2 x3 a4 sx0) : Ex G d mX11_total 69 [(0, .ref a0), (1, .int x1), (2, .int x2), (3, .int x3), (4, .ref a4)] [.int sx0] h Q := by
  unfold T_X11_total_69 at ht
  refine x_istore (pc2 := 71) [1, 2, 3, 4, 5, 0] (n := 5) (x := sx0) (lv2 := [(0, .ref a0), (1, .int x1), (2, .int x2), (3, .int x3), (4, .ref a4), (5, .int sx0)]) (by decide) rfl dX11_total_69 rfl ?_
  refine x_iload (pc2 := 73) 5 (n := 5) (x := sx0) rfl dX11_total_71 rfl ?_
  refine x_iconst (pc2 := 74) (v := (-1)) (by decide) dX11_total_73 rfl ?_
  refine y_icmp_ne (pc2 := 77) 96 dX11_total_74 (by decide) rfl (fun c1 => ?_) (fun c1 => ?_)
  · replace ht := ht.1 c1
    refine x_iload_n (pc2 := 97) 1 (n := 1) (x := x1) rfl dX11_total_96 rfl ?_
    refine x_if_eq (pc2 := 100) 145 dX11_total_97 (by decide) rfl (fun c2 => ?_) (fun c2 => ?_)
    · replace ht := ht.1 c2
      refine x_iload_n (pc2 := 146) 2 (n := 2) (x := x2) rfl dX11_total_145 rfl ?_
      refine x_iload (pc2 := 148) 5 (n := 5) (x := sx0) rfl dX11_total_146 rfl ?_
      refine x_iadd (pc2 := 149) dX11_total_148 rfl ?_
      refine x_istore_n (pc2 := 150) [1, 2, 0, 3, 4, 5] (n := 2) (x := (x2 + sx0)) (lv2 := [(0, .ref a0), (1, .int x1), (2, .int (x2 + sx0)), (3, .int x3), (4, .ref a4), (5, .int sx0)]) (by decide) rfl dX11_total_149 rfl ?_
      refine x_iinc (pc2 := 153) 3 [1, 2, 3, 0, 4, 5] (i := 3) (x := x3) (v := (x3 + 1)) (lv2 := [(0, .ref a0), (1, .int x1), (2, .int (x2 + sx0)), (3, .int (x3 + 1)), (4, .ref a4), (5, .int sx0)]) rfl (iinc_eq (by decide) _) (by decide) rfl dX11_total_150 rfl ?_
      refine x_goto 4 dX11_total_153 (by decide) ?_
      refine x_sub [0, 1, 2, 3] (lv2 := [(0, .ref a0), (1, .int x1), (2, .int (x2 + sx0)), (3, .int (x3 + 1))]) rfl ?_
      exact ht
    · replace ht := ht.2 c2
      refine x_aload_n (pc2 := 101) 0 (n := 0) (x := a0) rfl dX11_total_100 rfl ?_
      obtain ⟨k3, ht⟩ := ht
      obtain ⟨q4, e5, ht⟩ := ht
      refine y_getR (pc2 := 104) (κ := 11) (k := 7) fl_X11_55 (by decide) (by decide) k3 rfl e5 dX11_total_101 rfl ?_
      refine x_aload (pc2 := 106) 4 (n := 4) (x := a4) rfl dX11_total_104 rfl ?_
      obtain ⟨k6, ht⟩ := ht
      refine y_getI (pc2 := 109) (κ := 1) (k := 1) fl_X11_476 (by decide) (by decide) k6 rfl dX11_total_106 rfl ?_
      refine x_aload (pc2 := 111) 4 (n := 4) (x := a4) rfl dX11_total_109 rfl ?_
      refine y_getI (pc2 := 114) (κ := 1) (k := 2) fl_X11_477 (by decide) (by decide) k6 rfl dX11_total_111 rfl ?_
      refine x_aload (pc2 := 116) 4 (n := 4) (x := a4) rfl dX11_total_114 rfl ?_
      refine y_getI (pc2 := 119) (κ := 1) (k := 3) fl_X11_478 (by decide) (by decide) k6 rfl dX11_total_116 rfl ?_
      refine x_aload (pc2 := 121) 4 (n := 4) (x := a4) rfl dX11_total_119 rfl ?_
      refine y_getI (pc2 := 124) (κ := 1) (k := 4) fl_X11_479 (by decide) (by decide) k6 rfl dX11_total_121 rfl ?_
      refine x_aload (pc2 := 126) 4 (n := 4) (x := a4) rfl dX11_total_124 rfl ?_
      refine y_getI (pc2 := 129) (κ := 1) (k := 5) fl_X11_480 (by decide) (by decide) k6 rfl dX11_total_126 rfl ?_
      obtain ⟨k10, ht⟩ := ht
      refine x_callV (pc2 := 132) (As := [.int (hI h a4 1), .int (hI h a4 2), .int (hI h a4 3), .int (hI h a4 4), .int (hI h a4 5)]) (rest := []) (b := q4) mv_X10_settle ml_X11_439 k10 rfl rfl (Nat.le_of_ble_eq_true rfl) hd1 dX11_total_129 rfl (ht.mono (fun r7 h8 p9 ht' => ?_))
      clear ht
      obtain ⟨rfl, ht⟩ := ht'
      show Ex G d mX11_total 132 [(0, .ref a0), (1, .int x1), (2, .int x2), (3, .int x3), (4, .ref a4), (5, .int sx0)] [] h8 Q
      refine x_iload_n (pc2 := 133) 2 (n := 2) (x := x2) rfl dX11_total_132 rfl ?_
      refine x_aload_n (pc2 := 134) 0 (n := 0) (x := a0) rfl dX11_total_133 rfl ?_
      obtain ⟨q11, e12, ht⟩ := ht
      refine y_getR (pc2 := 137) (κ := 11) (k := 7) fl_X11_55 (by decide) (by decide) (k3.up p9) rfl e12 dX11_total_134 rfl ?_
      obtain ⟨k13, ht⟩ := ht
      refine y_getI (pc2 := 140) (κ := 10) (k := 1) fl_X11_443 (by decide) (by decide) k13 rfl dX11_total_137 rfl ?_
      refine x_iadd (pc2 := 141) dX11_total_140 rfl ?_
      refine x_istore_n (pc2 := 142) [1, 2, 0, 3, 4, 5] (n := 2) (x := (x2 + (hI h8 q11 1))) (lv2 := [(0, .ref a0), (1, .int x1), (2, .int (x2 + (hI h8 q11 1))), (3, .int x3), (4, .ref a4), (5, .int sx0)]) (by decide) rfl dX11_total_141 rfl ?_
      refine x_goto 150 dX11_total_142 (by decide) ?_
      refine x_iinc (pc2 := 153) 3 [1, 2, 3, 0, 4, 5] (i := 3) (x := x3) (v := (x3 + 1)) (lv2 := [(0, .ref a0), (1, .int x1), (2, .int (x2 + (hI h8 q11 1))), (3, .int (x3 + 1)), (4, .ref a4), (5, .int sx0)]) rfl (iinc_eq (by decide) _) (by decide) rfl dX11_total_150 rfl ?_
      refine x_goto 4 dX11_total_153 (by decide) ?_
      refine x_sub [0, 1, 2, 3] (lv2 := [(0, .ref a0), (1, .int x1), (2, .int (x2 + (hI h8 q11 1))), (3, .int (x3 + 1))]) rfl ?_
      exact ht
  · replace ht := ht.2 c1
    refine x_iload_n (pc2 := 78) 2 (n := 2) (x := x2) rfl dX11_total_77 rfl ?_
    refine x_iload_n (pc2 := 79) 1 (n := 1) (x := x1) rfl dX11_total_78 rfl ?_
    refine x_if_eq (pc2 := 82) 88 dX11_total_79 (by decide) rfl (fun c14 => ?_) (fun c14 => ?_)
    · replace ht := ht.1 c14
      refine x_sipush (pc2 := 91) (v := 9999) (by decide) dX11_total_88 rfl ?_
      refine x_iadd (pc2 := 92) dX11_total_91 rfl ?_
      refine x_istore_n (pc2 := 93) [1, 2, 0, 3, 4, 5] (n := 2) (x := (x2 + 9999)) (lv2 := [(0, .ref a0), (1, .int x1), (2, .int (x2 + 9999)), (3, .int x3), (4, .ref a4), (5, .int sx0)]) (by decide) rfl dX11_total_92 rfl ?_
      refine x_goto 150 dX11_total_93 (by decide) ?_
      refine x_iinc (pc2 := 153) 3 [1, 2, 3, 0, 4, 5] (i := 3) (x := x3) (v := (x3 + 1)) (lv2 := [(0, .ref a0), (1, .int x1), (2, .int (x2 + 9999)), (3, .int (x3 + 1)), (4, .ref a4), (5, .int sx0)]) rfl (iinc_eq (by decide) _) (by decide) rfl dX11_total_150 rfl ?_
      refine x_goto 4 dX11_total_153 (by decide) ?_
      refine x_sub [0, 1, 2, 3] (lv2 := [(0, .ref a0), (1, .int x1), (2, .int (x2 + 9999)), (3, .int (x3 + 1))]) rfl ?_
      exact ht
    · replace ht := ht.2 c14
      refine x_sipush (pc2 := 85) (v := 999) (by decide) dX11_total_82 rfl ?_
      refine x_goto 91 dX11_total_85 (by decide) ?_
      refine x_iadd (pc2 := 92) dX11_total_91 rfl ?_
      refine x_istore_n (pc2 := 93) [1, 2, 0, 3, 4, 5] (n := 2) (x := (x2 + 999)) (lv2 := [(0, .ref a0), (1, .int x1), (2, .int (x2 + 999)), (3, .int x3), (4, .ref a4), (5, .int sx0)]) (by decide) rfl dX11_total_92 rfl ?_
      refine x_goto 150 dX11_total_93 (by decide) ?_
      refine x_iinc (pc2 := 153) 3 [1, 2, 3, 0, 4, 5] (i := 3) (x := x3) (v := (x3 + 1)) (lv2 := [(0, .ref a0), (1, .int x1), (2, .int (x2 + 999)), (3, .int (x3 + 1)), (4, .ref a4), (5, .int sx0)]) rfl (iinc_eq (by decide) _) (by decide) rfl dX11_total_150 rfl ?_
      refine x_goto 4 dX11_total_153 (by decide) ?_
      refine x_sub [0, 1, 2, 3] (lv2 := [(0, .ref a0), (1, .int x1), (2, .int (x2 + 999)), (3, .int (x3 + 1))]) rfl ?_
      exact ht
def T_X11_where (G : GG) (d : Nat) (h : HP) (Q : Option Value → HP → Prop) (a0 : Nat) (x1 : Int32) (x2 : Int32) : Prop :=
  Kd G h a0 11 ∧ ∃ q2, hR h a0 12 = some q2 ∧ Kd G h q2 6 ∧ Cal G (d - 1) mX6_isWall [.ref q2, .int x1] h (fun r4 h5 => ∃ v8, r4 = some (.int v8) ∧ ((v8 = 0 → Q (some (.int (-1))) h5) ∧ (¬ v8 = 0 → ((x2 < 0 → Q (some (.int (-1))) h5) ∧ (¬ x2 < 0 → ((x2 ≤ 1 → ∃ q12, hR h5 a0 7 = some q12 ∧ ∃ q14, hR h5 a0 12 = some q14 ∧ Kd G h5 q12 10 ∧ Cal G (d - 1) mX10_survey [.ref q12, .ref q14, .int (-1)] h5 (fun r16 h17 => r16 = none ∧ ∃ q20, hR h17 a0 7 = some q20 ∧ Kd G h17 q20 10 ∧ Cal G (d - 1) mX10_clearGates [.ref q20] h17 (fun r22 h23 => r22 = none ∧ Ex G d mX11_where 43 [(0, .ref a0), (1, .int x1), (2, .int x2), (3, .int 0)] [] h23 Q))) ∧ (¬ x2 ≤ 1 → Q (some (.int (-1))) h5)))))))
set_option maxRecDepth 20000 in
theorem t_X11_where {G : GG} {d : Nat} {h : HP} {Q : Option Value → HP → Prop} {a0 : Nat} {x1 : Int32} {x2 : Int32} (hd1 : 1 ≤ d) (ht : T_X11_where G d h Q a0 x1 x2) : Ex G d mX11_where 0 [(0, .ref a0), (1, .int x1), (2, .int x2)] [] h Q := by
  unfold T_X11_where at ht
  refine x_aload_n (pc2 := 1) 0 (n := 0) (x := a0) rfl dX11_where_0 rfl ?_
  obtain ⟨k1, ht⟩ := ht
  obtain ⟨q2, e3, ht⟩ := ht
  refine y_getR (pc2 := 4) (κ := 11) (k := 12) fl_X11_80 (by decide) (by decide) k1 rfl e3 dX11_where_1 rfl ?_
  refine x_iload_n (pc2 := 5) 1 (n := 1) (x := x1) rfl dX11_where_4 rfl ?_
  obtain ⟨k7, ht⟩ := ht
  refine x_callV (pc2 := 8) (As := [.int x1]) (rest := []) (b := q2) mv_X6_isWall ml_X11_176 k7 rfl rfl (Nat.le_of_ble_eq_true rfl) hd1 dX11_where_5 rfl (ht.mono (fun r4 h5 p6 ht' => ?_))
  clear ht
  obtain ⟨v8, rfl, ht⟩ := ht'
  show Ex G d mX11_where 8 [(0, .ref a0), (1, .int x1), (2, .int x2)] [.int v8] h5 Q
  refine x_if_eq (pc2 := 11) 20 dX11_where_8 (by decide) rfl (fun c9 => ?_) (fun c9 => ?_)
  · replace ht := ht.1 c9
    refine x_iconst (pc2 := 21) (v := (-1)) (by decide) dX11_where_20 rfl ?_
    exact x_ret (ty := .int) rfl rfl dX11_where_21 ht
  · replace ht := ht.2 c9
    refine x_iload_n (pc2 := 12) 2 (n := 2) (x := x2) rfl dX11_where_11 rfl ?_
    refine x_if_lt (pc2 := 15) 20 dX11_where_12 (by decide) rfl (fun c10 => ?_) (fun c10 => ?_)
    · replace ht := ht.1 c10
      refine x_iconst (pc2 := 21) (v := (-1)) (by decide) dX11_where_20 rfl ?_
      exact x_ret (ty := .int) rfl rfl dX11_where_21 ht
    · replace ht := ht.2 c10
      refine x_iload_n (pc2 := 16) 2 (n := 2) (x := x2) rfl dX11_where_15 rfl ?_
      refine x_iconst (pc2 := 17) (v := 1) (by decide) dX11_where_16 rfl ?_
      refine x_icmp_le (pc2 := 20) 22 dX11_where_17 (by decide) rfl (fun c11 => ?_) (fun c11 => ?_)
      · replace ht := ht.1 c11
        refine x_aload_n (pc2 := 23) 0 (n := 0) (x := a0) rfl dX11_where_22 rfl ?_
        obtain ⟨q12, e13, ht⟩ := ht
        refine y_getR (pc2 := 26) (κ := 11) (k := 7) fl_X11_55 (by decide) (by decide) (k1.up p6) rfl e13 dX11_where_23 rfl ?_
        refine x_aload_n (pc2 := 27) 0 (n := 0) (x := a0) rfl dX11_where_26 rfl ?_
        obtain ⟨q14, e15, ht⟩ := ht
        refine y_getR (pc2 := 30) (κ := 11) (k := 12) fl_X11_80 (by decide) (by decide) (k1.up p6) rfl e15 dX11_where_27 rfl ?_
        refine x_iconst (pc2 := 31) (v := (-1)) (by decide) dX11_where_30 rfl ?_
        obtain ⟨k19, ht⟩ := ht
        refine x_callV (pc2 := 34) (As := [.ref q14, .int (-1)]) (rest := []) (b := q12) mv_X10_survey ml_X11_428 k19 rfl rfl (Nat.le_of_ble_eq_true rfl) hd1 dX11_where_31 rfl (ht.mono (fun r16 h17 p18 ht' => ?_))
        clear ht
        obtain ⟨rfl, ht⟩ := ht'
        show Ex G d mX11_where 34 [(0, .ref a0), (1, .int x1), (2, .int x2)] [] h17 Q
        refine x_aload_n (pc2 := 35) 0 (n := 0) (x := a0) rfl dX11_where_34 rfl ?_
        obtain ⟨q20, e21, ht⟩ := ht
        refine y_getR (pc2 := 38) (κ := 11) (k := 7) fl_X11_55 (by decide) (by decide) ((k1.up p6).up p18) rfl e21 dX11_where_35 rfl ?_
        obtain ⟨k25, ht⟩ := ht
        refine x_callV (pc2 := 41) (As := []) (rest := []) (b := q20) mv_X10_clearGates ml_X11_481 k25 rfl rfl (Nat.le_of_ble_eq_true rfl) hd1 dX11_where_38 rfl (ht.mono (fun r22 h23 p24 ht' => ?_))
        clear ht
        obtain ⟨rfl, ht⟩ := ht'
        show Ex G d mX11_where 41 [(0, .ref a0), (1, .int x1), (2, .int x2)] [] h23 Q
        refine x_iconst (pc2 := 42) (v := 0) (by decide) dX11_where_41 rfl ?_
        refine x_istore_n (pc2 := 43) [1, 2, 3, 0] (n := 3) (x := 0) (lv2 := [(0, .ref a0), (1, .int x1), (2, .int x2), (3, .int 0)]) (by decide) rfl dX11_where_42 rfl ?_
        exact ht
      · replace ht := ht.2 c11
        refine x_iconst (pc2 := 21) (v := (-1)) (by decide) dX11_where_20 rfl ?_
        exact x_ret (ty := .int) rfl rfl dX11_where_21 ht
theorem e_X11_where {G : GG} {d : Nat} {h : HP} {Q : Option Value → HP → Prop} {a0 : Nat} {x1 : Int32} {x2 : Int32} (hd1 : 1 ≤ d) (ht : T_X11_where G d h Q a0 x1 x2) : Cal G d mX11_where [.ref a0, .int x1, .int x2] h Q := cal_of rfl (Nat.le_of_ble_eq_true rfl) (t_X11_where hd1 ht)
def T_X11_where_43 (G : GG) (d : Nat) (h : HP) (Q : Option Value → HP → Prop) (a0 : Nat) (x1 : Int32) (x2 : Int32) (x3 : Int32) : Prop :=
  ((6 ≤ x3 → Kd G h a0 11 ∧ ∃ q3, hR h a0 7 = some q3 ∧ ∃ q5, hR h a0 12 = some q5 ∧ Kd G h q5 6 ∧ ∃ q8, hR h q5 7 = some q8 ∧ Kd G h q8 20 ∧ vp_in x1 (hN h q8) ∧ ∃ q12, hR h q8 x1.toNatClampNeg = some q12 ∧ Kd G h q3 10 ∧ Cal G (d - 1) mX10_bestGate [.ref q3, .ref q12] h (fun r14 h15 => ∃ v18, r14 = some (.int v18) ∧ ((¬ x2 = 0 → Q (some (.int (irm v18 40))) h15) ∧ (x2 = 0 → Q (some (.int (v18 / 40))) h15)))) ∧ (¬ 6 ≤ x3 → Kd G h a0 11 ∧ ∃ q21, hR h a0 12 = some q21 ∧ Kd G h q21 6 ∧ ∃ q24, hR h q21 8 = some q24 ∧ Kd G h q24 17 ∧ vp_in x3 (hN h q24) ∧ ∃ q28, hR h q24 x3.toNatClampNeg = some q28 ∧ Kd G h q28 1 ∧ (((hI h q28 0) = 0 → Ex G d mX11_where 43 [(0, .ref a0), (1, .int x1), (2, .int x2), (3, .int (x3 + 1))] [] h Q) ∧ (¬ (hI h q28 0) = 0 → Cal G (d - 1) mX6_hasEnds [.ref q21, .ref q28] h (fun r32 h33 => ∃ v35, r32 = some (.int v35) ∧ ((v35 = 0 → Ex G d mX11_where 43 [(0, .ref a0), (1, .int x1), (2, .int x2), (3, .int (x3 + 1))] [] h33 Q) ∧ (¬ v35 = 0 → ∃ q37, hR h33 a0 12 = some q37 ∧ Kd G h33 q37 6 ∧ ∃ q40, hR h33 q37 7 = some q40 ∧ Kd G h33 q40 20 ∧ vp_in x1 (hN h33 q40) ∧ ∃ q44, hR h33 q40 x1.toNatClampNeg = some q44 ∧ Kd G h33 q44 9 ∧ Cal G (d - 1) mX9_parts [.ref q44, .ref q28] h33 (fun r46 h47 => ∃ v50, r46 = some (.int v50) ∧ ((v50 = 0 → Ex G d mX11_where 43 [(0, .ref a0), (1, .int x1), (2, .int x2), (3, .int (x3 + 1))] [] h47 Q) ∧ (¬ v50 = 0 → ∃ q52, hR h47 a0 7 = some q52 ∧ ∃ q54, hR h47 a0 12 = some q54 ∧ Kd G h47 q54 6 ∧ ∃ q57, hR h47 q54 7 = some q57 ∧ Kd G h47 q57 20 ∧ vp_in x1 (hN h47 q57) ∧ ∃ q61, hR h47 q57 x1.toNatClampNeg = some q61 ∧ Kd G h47 q52 10 ∧ Cal G (d - 1) mX10_tryGates [.ref q52, .ref q61, .ref q28] h47 (fun r63 h64 => r63 = none ∧ Ex G d mX11_where 43 [(0, .ref a0), (1, .int x1), (2, .int x2), (3, .int (x3 + 1))] [] h64 Q)))))))))))
set_option maxRecDepth 20000 in
theorem t_X11_where_43 {G : GG} {d : Nat} {h : HP} {Q : Option Value → HP → Prop} {a0 : Nat} {x1 : Int32} {x2 : Int32} {x3 : Int32} (hd1 : 1 ≤ d) (ht : T_X11_where_43 G d h Q a0 x1 x2 x3) : Ex G d mX11_where 43 [(0, .ref a0), (1, .int x1), (2, .int x2), (3, .int x3)] [] h Q := by
  unfold T_X11_where_43 at ht
  refine x_iload_n (pc2 := 44) 3 (n := 3) (x := x3) rfl dX11_where_43 rfl ?_
  refine x_bipush (pc2 := 46) (v := 6) (by decide) dX11_where_44 rfl ?_
  refine x_icmp_ge (pc2 := 49) 121 dX11_where_46 (by decide) rfl (fun c1 => ?_) (fun c1 => ?_)
  · replace ht := ht.1 c1
    refine x_aload_n (pc2 := 122) 0 (n := 0) (x := a0) rfl dX11_where_121 rfl ?_
    obtain ⟨k2, ht⟩ := ht
    obtain ⟨q3, e4, ht⟩ := ht
    refine y_getR (pc2 := 125) (κ := 11) (k := 7) fl_X11_55 (by decide) (by decide) k2 rfl e4 dX11_where_122 rfl ?_
    refine x_aload_n (pc2 := 126) 0 (n := 0) (x := a0) rfl dX11_where_125 rfl ?_
    obtain ⟨q5, e6, ht⟩ := ht
    refine y_getR (pc2 := 129) (κ := 11) (k := 12) fl_X11_80 (by decide) (by decide) k2 rfl e6 dX11_where_126 rfl ?_
    obtain ⟨k7, ht⟩ := ht
    obtain ⟨q8, e9, ht⟩ := ht
    refine y_getR (pc2 := 132) (κ := 6) (k := 7) fl_X11_182 (by decide) (by decide) k7 rfl e9 dX11_where_129 rfl ?_
    refine x_iload_n (pc2 := 133) 1 (n := 1) (x := x1) rfl dX11_where_132 rfl ?_
    obtain ⟨k10, ht⟩ := ht
    obtain ⟨b11, ht⟩ := ht
    obtain ⟨q12, e13, ht⟩ := ht
    refine y_aaldR (pc2 := 134) (κ := 20) (by decide) k10 b11 e13 dX11_where_133 rfl ?_
    obtain ⟨k17, ht⟩ := ht
    refine x_callV (pc2 := 137) (As := [.ref q12]) (rest := []) (b := q3) mv_X10_bestGate ml_X11_491 k17 rfl rfl (Nat.le_of_ble_eq_true rfl) hd1 dX11_where_134 rfl (ht.mono (fun r14 h15 p16 ht' => ?_))
    clear ht
    obtain ⟨v18, rfl, ht⟩ := ht'
    show Ex G d mX11_where 137 [(0, .ref a0), (1, .int x1), (2, .int x2), (3, .int x3)] [.int v18] h15 Q
    refine x_istore_n (pc2 := 138) [1, 2, 3, 0] (n := 3) (x := v18) (lv2 := [(0, .ref a0), (1, .int x1), (2, .int x2), (3, .int v18)]) (by decide) rfl dX11_where_137 rfl ?_
    refine x_iload_n (pc2 := 139) 2 (n := 2) (x := x2) rfl dX11_where_138 rfl ?_
    refine y_if_ne (pc2 := 142) 149 dX11_where_139 (by decide) rfl (fun c19 => ?_) (fun c19 => ?_)
    · replace ht := ht.1 c19
      refine x_iload_n (pc2 := 150) 3 (n := 3) (x := v18) rfl dX11_where_149 rfl ?_
      refine x_bipush (pc2 := 152) (v := 40) (by decide) dX11_where_150 rfl ?_
      refine y_irem (pc2 := 153) (by decide) dX11_where_152 rfl ?_
      exact x_ret (ty := .int) rfl rfl dX11_where_153 ht
    · replace ht := ht.2 c19
      refine x_iload_n (pc2 := 143) 3 (n := 3) (x := v18) rfl dX11_where_142 rfl ?_
      refine x_bipush (pc2 := 145) (v := 40) (by decide) dX11_where_143 rfl ?_
      refine x_idiv (pc2 := 146) (by decide) dX11_where_145 rfl ?_
      refine x_goto 153 dX11_where_146 (by decide) ?_
      exact x_ret (ty := .int) rfl rfl dX11_where_153 ht
  · replace ht := ht.2 c1
    refine x_aload_n (pc2 := 50) 0 (n := 0) (x := a0) rfl dX11_where_49 rfl ?_
    obtain ⟨k20, ht⟩ := ht
    obtain ⟨q21, e22, ht⟩ := ht
    refine y_getR (pc2 := 53) (κ := 11) (k := 12) fl_X11_80 (by decide) (by decide) k20 rfl e22 dX11_where_50 rfl ?_
    obtain ⟨k23, ht⟩ := ht
    obtain ⟨q24, e25, ht⟩ := ht
    refine y_getR (pc2 := 56) (κ := 6) (k := 8) fl_X11_452 (by decide) (by decide) k23 rfl e25 dX11_where_53 rfl ?_
    refine x_iload_n (pc2 := 57) 3 (n := 3) (x := x3) rfl dX11_where_56 rfl ?_
    obtain ⟨k26, ht⟩ := ht
    obtain ⟨b27, ht⟩ := ht
    obtain ⟨q28, e29, ht⟩ := ht
    refine y_aaldR (pc2 := 58) (κ := 17) (by decide) k26 b27 e29 dX11_where_57 rfl ?_
    refine x_astore (pc2 := 60) [1, 2, 3, 4, 0] (n := 4) (x := q28) (lv2 := [(0, .ref a0), (1, .int x1), (2, .int x2), (3, .int x3), (4, .ref q28)]) (by decide) rfl dX11_where_58 rfl ?_
    refine x_aload (pc2 := 62) 4 (n := 4) (x := q28) rfl dX11_where_60 rfl ?_
    obtain ⟨k30, ht⟩ := ht
    refine y_getI (pc2 := 65) (κ := 1) (k := 0) fl_X11_463 (by decide) (by decide) k30 rfl dX11_where_62 rfl ?_
    refine x_if_eq (pc2 := 68) 115 dX11_where_65 (by decide) rfl (fun c31 => ?_) (fun c31 => ?_)
    · replace ht := ht.1 c31
      refine x_iinc (pc2 := 118) 3 [1, 2, 3, 0, 4] (i := 3) (x := x3) (v := (x3 + 1)) (lv2 := [(0, .ref a0), (1, .int x1), (2, .int x2), (3, .int (x3 + 1)), (4, .ref q28)]) rfl (iinc_eq (by decide) _) (by decide) rfl dX11_where_115 rfl ?_
      refine x_goto 43 dX11_where_118 (by decide) ?_
      refine x_sub [0, 1, 2, 3] (lv2 := [(0, .ref a0), (1, .int x1), (2, .int x2), (3, .int (x3 + 1))]) rfl ?_
      exact ht
    · replace ht := ht.2 c31
      refine x_aload_n (pc2 := 69) 0 (n := 0) (x := a0) rfl dX11_where_68 rfl ?_
      refine y_getR (pc2 := 72) (κ := 11) (k := 12) fl_X11_80 (by decide) (by decide) k20 rfl e22 dX11_where_69 rfl ?_
      refine x_aload (pc2 := 74) 4 (n := 4) (x := q28) rfl dX11_where_72 rfl ?_
      refine x_callV (pc2 := 77) (As := [.ref q28]) (rest := []) (b := q21) mv_X6_hasEnds ml_X11_466 k23 rfl rfl (Nat.le_of_ble_eq_true rfl) hd1 dX11_where_74 rfl (ht.mono (fun r32 h33 p34 ht' => ?_))
      clear ht
      obtain ⟨v35, rfl, ht⟩ := ht'
      show Ex G d mX11_where 77 [(0, .ref a0), (1, .int x1), (2, .int x2), (3, .int x3), (4, .ref q28)] [.int v35] h33 Q
      refine x_if_eq (pc2 := 80) 115 dX11_where_77 (by decide) rfl (fun c36 => ?_) (fun c36 => ?_)
      · replace ht := ht.1 c36
        refine x_iinc (pc2 := 118) 3 [1, 2, 3, 0, 4] (i := 3) (x := x3) (v := (x3 + 1)) (lv2 := [(0, .ref a0), (1, .int x1), (2, .int x2), (3, .int (x3 + 1)), (4, .ref q28)]) rfl (iinc_eq (by decide) _) (by decide) rfl dX11_where_115 rfl ?_
        refine x_goto 43 dX11_where_118 (by decide) ?_
        refine x_sub [0, 1, 2, 3] (lv2 := [(0, .ref a0), (1, .int x1), (2, .int x2), (3, .int (x3 + 1))]) rfl ?_
        exact ht
      · replace ht := ht.2 c36
        refine x_aload_n (pc2 := 81) 0 (n := 0) (x := a0) rfl dX11_where_80 rfl ?_
        obtain ⟨q37, e38, ht⟩ := ht
        refine y_getR (pc2 := 84) (κ := 11) (k := 12) fl_X11_80 (by decide) (by decide) (k20.up p34) rfl e38 dX11_where_81 rfl ?_
        obtain ⟨k39, ht⟩ := ht
        obtain ⟨q40, e41, ht⟩ := ht
        refine y_getR (pc2 := 87) (κ := 6) (k := 7) fl_X11_182 (by decide) (by decide) k39 rfl e41 dX11_where_84 rfl ?_
        refine x_iload_n (pc2 := 88) 1 (n := 1) (x := x1) rfl dX11_where_87 rfl ?_
        obtain ⟨k42, ht⟩ := ht
        obtain ⟨b43, ht⟩ := ht
        obtain ⟨q44, e45, ht⟩ := ht
        refine y_aaldR (pc2 := 89) (κ := 20) (by decide) k42 b43 e45 dX11_where_88 rfl ?_
        refine x_aload (pc2 := 91) 4 (n := 4) (x := q28) rfl dX11_where_89 rfl ?_
        obtain ⟨k49, ht⟩ := ht
        refine x_callV (pc2 := 94) (As := [.ref q28]) (rest := []) (b := q44) mv_X9_parts ml_X11_484 k49 rfl rfl (Nat.le_of_ble_eq_true rfl) hd1 dX11_where_91 rfl (ht.mono (fun r46 h47 p48 ht' => ?_))
        clear ht
        obtain ⟨v50, rfl, ht⟩ := ht'
        show Ex G d mX11_where 94 [(0, .ref a0), (1, .int x1), (2, .int x2), (3, .int x3), (4, .ref q28)] [.int v50] h47 Q
        refine x_if_eq (pc2 := 97) 115 dX11_where_94 (by decide) rfl (fun c51 => ?_) (fun c51 => ?_)
        · replace ht := ht.1 c51
          refine x_iinc (pc2 := 118) 3 [1, 2, 3, 0, 4] (i := 3) (x := x3) (v := (x3 + 1)) (lv2 := [(0, .ref a0), (1, .int x1), (2, .int x2), (3, .int (x3 + 1)), (4, .ref q28)]) rfl (iinc_eq (by decide) _) (by decide) rfl dX11_where_115 rfl ?_
          refine x_goto 43 dX11_where_118 (by decide) ?_
          refine x_sub [0, 1, 2, 3] (lv2 := [(0, .ref a0), (1, .int x1), (2, .int x2), (3, .int (x3 + 1))]) rfl ?_
          exact ht
        · replace ht := ht.2 c51
          refine x_aload_n (pc2 := 98) 0 (n := 0) (x := a0) rfl dX11_where_97 rfl ?_
          obtain ⟨q52, e53, ht⟩ := ht
          refine y_getR (pc2 := 101) (κ := 11) (k := 7) fl_X11_55 (by decide) (by decide) ((k20.up p34).up p48) rfl e53 dX11_where_98 rfl ?_
          refine x_aload_n (pc2 := 102) 0 (n := 0) (x := a0) rfl dX11_where_101 rfl ?_
          obtain ⟨q54, e55, ht⟩ := ht
          refine y_getR (pc2 := 105) (κ := 11) (k := 12) fl_X11_80 (by decide) (by decide) ((k20.up p34).up p48) rfl e55 dX11_where_102 rfl ?_
          obtain ⟨k56, ht⟩ := ht
          obtain ⟨q57, e58, ht⟩ := ht
          refine y_getR (pc2 := 108) (κ := 6) (k := 7) fl_X11_182 (by decide) (by decide) k56 rfl e58 dX11_where_105 rfl ?_
          refine x_iload_n (pc2 := 109) 1 (n := 1) (x := x1) rfl dX11_where_108 rfl ?_
          obtain ⟨k59, ht⟩ := ht
          obtain ⟨b60, ht⟩ := ht
          obtain ⟨q61, e62, ht⟩ := ht
          refine y_aaldR (pc2 := 110) (κ := 20) (by decide) k59 b60 e62 dX11_where_109 rfl ?_
          refine x_aload (pc2 := 112) 4 (n := 4) (x := q28) rfl dX11_where_110 rfl ?_
          obtain ⟨k66, ht⟩ := ht
          refine x_callV (pc2 := 115) (As := [.ref q61, .ref q28]) (rest := []) (b := q52) mv_X10_tryGates ml_X11_487 k66 rfl rfl (Nat.le_of_ble_eq_true rfl) hd1 dX11_where_112 rfl (ht.mono (fun r63 h64 p65 ht' => ?_))
          clear ht
          obtain ⟨rfl, ht⟩ := ht'
          show Ex G d mX11_where 115 [(0, .ref a0), (1, .int x1), (2, .int x2), (3, .int x3), (4, .ref q28)] [] h64 Q
          refine x_iinc (pc2 := 118) 3 [1, 2, 3, 0, 4] (i := 3) (x := x3) (v := (x3 + 1)) (lv2 := [(0, .ref a0), (1, .int x1), (2, .int x2), (3, .int (x3 + 1)), (4, .ref q28)]) rfl (iinc_eq (by decide) _) (by decide) rfl dX11_where_115 rfl ?_
          refine x_goto 43 dX11_where_118 (by decide) ?_
          refine x_sub [0, 1, 2, 3] (lv2 := [(0, .ref a0), (1, .int x1), (2, .int x2), (3, .int (x3 + 1))]) rfl ?_
          exact ht
def T_X11_gains (G : GG) (d : Nat) (h : HP) (Q : Option Value → HP → Prop) (a0 : Nat) (x1 : Int32) : Prop :=
  Kd G h a0 11 ∧ ∃ q2, hR h a0 12 = some q2 ∧ Kd G h q2 6 ∧ Cal G (d - 1) mX6_isWall [.ref q2, .int x1] h (fun r4 h5 => ∃ v8, r4 = some (.int v8) ∧ ((¬ v8 = 0 → ∃ q10, hR h5 a0 7 = some q10 ∧ ∃ q12, hR h5 a0 12 = some q12 ∧ Kd G h5 q10 10 ∧ Cal G (d - 1) mX10_survey [.ref q10, .ref q12, .int (-1)] h5 (fun r14 h15 => r14 = none ∧ Cal G (d - 1) mX11_total [.ref a0, .int 0] h15 (fun r18 h19 => ∃ v21, r18 = some (.int v21) ∧ ∃ q22, hR h19 a0 7 = some q22 ∧ ∃ q24, hR h19 a0 12 = some q24 ∧ Kd G h19 q22 10 ∧ Cal G (d - 1) mX10_survey [.ref q22, .ref q24, .int x1] h19 (fun r26 h27 => r26 = none ∧ Cal G (d - 1) mX11_total [.ref a0, .int 0] h27 (fun r30 h31 => ∃ v33, r30 = some (.int v33) ∧ Q (some (.int (v21 - v33))) h31))))) ∧ (v8 = 0 → Q (some (.int (-100000))) h5)))
set_option maxRecDepth 20000 in
theorem t_X11_gains {G : GG} {d : Nat} {h : HP} {Q : Option Value → HP → Prop} {a0 : Nat} {x1 : Int32} (hd1 : 1 ≤ d) (ht : T_X11_gains G d h Q a0 x1) : Ex G d mX11_gains 0 [(0, .ref a0), (1, .int x1)] [] h Q := by
  unfold T_X11_gains at ht
  refine x_aload_n (pc2 := 1) 0 (n := 0) (x := a0) rfl dX11_gains_0 rfl ?_
  obtain ⟨k1, ht⟩ := ht
  obtain ⟨q2, e3, ht⟩ := ht
  refine y_getR (pc2 := 4) (κ := 11) (k := 12) fl_X11_80 (by decide) (by decide) k1 rfl e3 dX11_gains_1 rfl ?_
  refine x_iload_n (pc2 := 5) 1 (n := 1) (x := x1) rfl dX11_gains_4 rfl ?_
  obtain ⟨k7, ht⟩ := ht
  refine x_callV (pc2 := 8) (As := [.int x1]) (rest := []) (b := q2) mv_X6_isWall ml_X11_176 k7 rfl rfl (Nat.le_of_ble_eq_true rfl) hd1 dX11_gains_5 rfl (ht.mono (fun r4 h5 p6 ht' => ?_))
  clear ht
  obtain ⟨v8, rfl, ht⟩ := ht'
  show Ex G d mX11_gains 8 [(0, .ref a0), (1, .int x1)] [.int v8] h5 Q
  refine y_if_ne (pc2 := 11) 15 dX11_gains_8 (by decide) rfl (fun c9 => ?_) (fun c9 => ?_)
  · replace ht := ht.1 c9
    refine x_aload_n (pc2 := 16) 0 (n := 0) (x := a0) rfl dX11_gains_15 rfl ?_
    obtain ⟨q10, e11, ht⟩ := ht
    refine y_getR (pc2 := 19) (κ := 11) (k := 7) fl_X11_55 (by decide) (by decide) (k1.up p6) rfl e11 dX11_gains_16 rfl ?_
    refine x_aload_n (pc2 := 20) 0 (n := 0) (x := a0) rfl dX11_gains_19 rfl ?_
    obtain ⟨q12, e13, ht⟩ := ht
    refine y_getR (pc2 := 23) (κ := 11) (k := 12) fl_X11_80 (by decide) (by decide) (k1.up p6) rfl e13 dX11_gains_20 rfl ?_
    refine x_iconst (pc2 := 24) (v := (-1)) (by decide) dX11_gains_23 rfl ?_
    obtain ⟨k17, ht⟩ := ht
    refine x_callV (pc2 := 27) (As := [.ref q12, .int (-1)]) (rest := []) (b := q10) mv_X10_survey ml_X11_428 k17 rfl rfl (Nat.le_of_ble_eq_true rfl) hd1 dX11_gains_24 rfl (ht.mono (fun r14 h15 p16 ht' => ?_))
    clear ht
    obtain ⟨rfl, ht⟩ := ht'
    show Ex G d mX11_gains 27 [(0, .ref a0), (1, .int x1)] [] h15 Q
    refine x_aload_n (pc2 := 28) 0 (n := 0) (x := a0) rfl dX11_gains_27 rfl ?_
    refine x_iconst (pc2 := 29) (v := 0) (by decide) dX11_gains_28 rfl ?_
    refine x_callV (pc2 := 32) (As := [.int 0]) (rest := []) (b := a0) mv_X11_total ml_X11_460 ((k1.up p6).up p16) rfl rfl (Nat.le_of_ble_eq_true rfl) hd1 dX11_gains_29 rfl (ht.mono (fun r18 h19 p20 ht' => ?_))
    clear ht
    obtain ⟨v21, rfl, ht⟩ := ht'
    show Ex G d mX11_gains 32 [(0, .ref a0), (1, .int x1)] [.int v21] h19 Q
    refine x_istore_n (pc2 := 33) [1, 2, 0] (n := 2) (x := v21) (lv2 := [(0, .ref a0), (1, .int x1), (2, .int v21)]) (by decide) rfl dX11_gains_32 rfl ?_
    refine x_aload_n (pc2 := 34) 0 (n := 0) (x := a0) rfl dX11_gains_33 rfl ?_
    obtain ⟨q22, e23, ht⟩ := ht
    refine y_getR (pc2 := 37) (κ := 11) (k := 7) fl_X11_55 (by decide) (by decide) (((k1.up p6).up p16).up p20) rfl e23 dX11_gains_34 rfl ?_
    refine x_aload_n (pc2 := 38) 0 (n := 0) (x := a0) rfl dX11_gains_37 rfl ?_
    obtain ⟨q24, e25, ht⟩ := ht
    refine y_getR (pc2 := 41) (κ := 11) (k := 12) fl_X11_80 (by decide) (by decide) (((k1.up p6).up p16).up p20) rfl e25 dX11_gains_38 rfl ?_
    refine x_iload_n (pc2 := 42) 1 (n := 1) (x := x1) rfl dX11_gains_41 rfl ?_
    obtain ⟨k29, ht⟩ := ht
    refine x_callV (pc2 := 45) (As := [.ref q24, .int x1]) (rest := []) (b := q22) mv_X10_survey ml_X11_428 k29 rfl rfl (Nat.le_of_ble_eq_true rfl) hd1 dX11_gains_42 rfl (ht.mono (fun r26 h27 p28 ht' => ?_))
    clear ht
    obtain ⟨rfl, ht⟩ := ht'
    show Ex G d mX11_gains 45 [(0, .ref a0), (1, .int x1), (2, .int v21)] [] h27 Q
    refine x_iload_n (pc2 := 46) 2 (n := 2) (x := v21) rfl dX11_gains_45 rfl ?_
    refine x_aload_n (pc2 := 47) 0 (n := 0) (x := a0) rfl dX11_gains_46 rfl ?_
    refine x_iconst (pc2 := 48) (v := 0) (by decide) dX11_gains_47 rfl ?_
    refine x_callV (pc2 := 51) (As := [.int 0]) (rest := [.int v21]) (b := a0) mv_X11_total ml_X11_460 ((((k1.up p6).up p16).up p20).up p28) rfl rfl (Nat.le_of_ble_eq_true rfl) hd1 dX11_gains_48 rfl (ht.mono (fun r30 h31 p32 ht' => ?_))
    clear ht
    obtain ⟨v33, rfl, ht⟩ := ht'
    show Ex G d mX11_gains 51 [(0, .ref a0), (1, .int x1), (2, .int v21)] [.int v33, .int v21] h31 Q
    refine x_isub (pc2 := 52) dX11_gains_51 rfl ?_
    exact x_ret (ty := .int) rfl rfl dX11_gains_52 ht
  · replace ht := ht.2 c9
    refine x_ldcw (pc2 := 14) (v := (-100000)) ct_X11_494 dX11_gains_11 rfl ?_
    exact x_ret (ty := .int) rfl rfl dX11_gains_14 ht
theorem e_X11_gains {G : GG} {d : Nat} {h : HP} {Q : Option Value → HP → Prop} {a0 : Nat} {x1 : Int32} (hd1 : 1 ≤ d) (ht : T_X11_gains G d h Q a0 x1) : Cal G d mX11_gains [.ref a0, .int x1] h Q := cal_of rfl (Nat.le_of_ble_eq_true rfl) (t_X11_gains hd1 ht)
def T_X11_seed (G : GG) (d : Nat) (h : HP) (Q : Option Value → HP → Prop) (a0 : Nat) (x1 : Int32) : Prop :=
  ((0 ≤ x1 → Kd G h a0 11 ∧ ∃ q3, hR h a0 12 = some q3 ∧ Kd G h q3 6 ∧ Q (some (.int (hI h q3 4))) (sI h q3 4 x1)) ∧ (¬ 0 ≤ x1 → Q (some (.int (-1))) h))
set_option maxRecDepth 20000 in
theorem t_X11_seed {G : GG} {d : Nat} {h : HP} {Q : Option Value → HP → Prop} {a0 : Nat} {x1 : Int32} (ht : T_X11_seed G d h Q a0 x1) : Ex G d mX11_seed 0 [(0, .ref a0), (1, .int x1)] [] h Q := by
  unfold T_X11_seed at ht
  refine x_iload_n (pc2 := 1) 1 (n := 1) (x := x1) rfl dX11_seed_0 rfl ?_
  refine x_if_ge (pc2 := 4) 6 dX11_seed_1 (by decide) rfl (fun c1 => ?_) (fun c1 => ?_)
  · replace ht := ht.1 c1
    refine x_aload_n (pc2 := 7) 0 (n := 0) (x := a0) rfl dX11_seed_6 rfl ?_
    obtain ⟨k2, ht⟩ := ht
    obtain ⟨q3, e4, ht⟩ := ht
    refine y_getR (pc2 := 10) (κ := 11) (k := 12) fl_X11_80 (by decide) (by decide) k2 rfl e4 dX11_seed_7 rfl ?_
    obtain ⟨k5, ht⟩ := ht
    refine y_getI (pc2 := 13) (κ := 6) (k := 4) fl_X11_304 (by decide) (by decide) k5 rfl dX11_seed_10 rfl ?_
    refine x_istore_n (pc2 := 14) [1, 2, 0] (n := 2) (x := (hI h q3 4)) (lv2 := [(0, .ref a0), (1, .int x1), (2, .int (hI h q3 4))]) (by decide) rfl dX11_seed_13 rfl ?_
    refine x_aload_n (pc2 := 15) 0 (n := 0) (x := a0) rfl dX11_seed_14 rfl ?_
    refine y_getR (pc2 := 18) (κ := 11) (k := 12) fl_X11_80 (by decide) (by decide) k2 rfl e4 dX11_seed_15 rfl ?_
    refine x_iload_n (pc2 := 19) 1 (n := 1) (x := x1) rfl dX11_seed_18 rfl ?_
    refine x_putI (pc2 := 22) (κ := 6) (k := 4) fl_X11_304 (by decide) (by decide) (Or.inl rfl) rfl k5 dX11_seed_19 rfl ?_
    refine x_iload_n (pc2 := 23) 2 (n := 2) (x := (hI h q3 4)) rfl dX11_seed_22 rfl ?_
    exact x_ret (ty := .int) rfl rfl dX11_seed_23 ht
  · replace ht := ht.2 c1
    refine x_iconst (pc2 := 5) (v := (-1)) (by decide) dX11_seed_4 rfl ?_
    exact x_ret (ty := .int) rfl rfl dX11_seed_5 ht
theorem e_X11_seed {G : GG} {d : Nat} {h : HP} {Q : Option Value → HP → Prop} {a0 : Nat} {x1 : Int32} (ht : T_X11_seed G d h Q a0 x1) : Cal G d mX11_seed [.ref a0, .int x1] h Q := cal_of rfl (Nat.le_of_ble_eq_true rfl) (t_X11_seed ht)
def T_X11_years (G : GG) (d : Nat) (h : HP) (Q : Option Value → HP → Prop) (a0 : Nat) (x1 : Int32) (x2 : Int32) : Prop :=
  Kd G h a0 11 ∧ Cal G (d - 1) mX11_lawAt [.ref a0, .int x1] h (fun r1 h2 => ∃ v5, r1 = some (va_rf v5) ∧ ((v5 = none → Q (some (.int (-1))) h2) ∧ (∀ q7, v5 = some q7 → ((x2 < 1 → Q (some (.int (-1))) h2) ∧ (¬ x2 < 1 → ((60 < x2 → Q (some (.int (-1))) h2) ∧ (¬ 60 < x2 → ∃ q10, hR h2 a0 12 = some q10 ∧ Kd G h2 q10 6 ∧ ((((hI h2 q10 3) + x2) ≤ 9999 → Cal G (d - 1) mX11_live [.ref a0, .ref q7, .int x2] h2 (fun r14 h15 => ∃ v17, r14 = some (.int v17) ∧ Q (some (.int v17)) h15)) ∧ (¬ ((hI h2 q10 3) + x2) ≤ 9999 → Q (some (.int (-1))) h2)))))))))
set_option maxRecDepth 20000 in
theorem t_X11_years {G : GG} {d : Nat} {h : HP} {Q : Option Value → HP → Prop} {a0 : Nat} {x1 : Int32} {x2 : Int32} (hd1 : 1 ≤ d) (ht : T_X11_years G d h Q a0 x1 x2) : Ex G d mX11_years 0 [(0, .ref a0), (1, .int x1), (2, .int x2)] [] h Q := by
  unfold T_X11_years at ht
  refine x_aload_n (pc2 := 1) 0 (n := 0) (x := a0) rfl dX11_years_0 rfl ?_
  refine x_iload_n (pc2 := 2) 1 (n := 1) (x := x1) rfl dX11_years_1 rfl ?_
  obtain ⟨k4, ht⟩ := ht
  refine x_callV (pc2 := 5) (As := [.int x1]) (rest := []) (b := a0) mv_X11_lawAt ml_X11_133 k4 rfl rfl (Nat.le_of_ble_eq_true rfl) hd1 dX11_years_2 rfl (ht.mono (fun r1 h2 p3 ht' => ?_))
  clear ht
  obtain ⟨v5, rfl, ht⟩ := ht'
  show Ex G d mX11_years 5 [(0, .ref a0), (1, .int x1), (2, .int x2)] [va_rf v5] h2 Q
  refine x_astoreq_n (pc2 := 6) [1, 2, 3, 0] (n := 3) (x := v5) (lv2 := [(0, .ref a0), (1, .int x1), (2, .int x2), (3, va_rf v5)]) (by decide) rfl dX11_years_5 rfl ?_
  refine x_aloadq_n (pc2 := 7) 3 (n := 3) (x := v5) rfl dX11_years_6 rfl ?_
  refine x_ifnull (pc2 := 10) (x := v5) 36 dX11_years_7 (by decide) rfl (fun e6 => ?_) (fun q7 e6 => ?_)
  · replace ht := ht.1 e6
    subst e6
    show Ex G d mX11_years 36 [(0, .ref a0), (1, .int x1), (2, .int x2), (3, va_rf none)] [] h2 Q
    refine x_iconst (pc2 := 37) (v := (-1)) (by decide) dX11_years_36 rfl ?_
    exact x_ret (ty := .int) rfl rfl dX11_years_37 ht
  · replace ht := ht.2 q7 e6
    subst e6
    show Ex G d mX11_years 10 [(0, .ref a0), (1, .int x1), (2, .int x2), (3, .ref q7)] [] h2 Q
    refine x_iload_n (pc2 := 11) 2 (n := 2) (x := x2) rfl dX11_years_10 rfl ?_
    refine x_iconst (pc2 := 12) (v := 1) (by decide) dX11_years_11 rfl ?_
    refine x_icmp_lt (pc2 := 15) 36 dX11_years_12 (by decide) rfl (fun c8 => ?_) (fun c8 => ?_)
    · replace ht := ht.1 c8
      refine x_iconst (pc2 := 37) (v := (-1)) (by decide) dX11_years_36 rfl ?_
      exact x_ret (ty := .int) rfl rfl dX11_years_37 ht
    · replace ht := ht.2 c8
      refine x_iload_n (pc2 := 16) 2 (n := 2) (x := x2) rfl dX11_years_15 rfl ?_
      refine x_bipush (pc2 := 18) (v := 60) (by decide) dX11_years_16 rfl ?_
      refine x_icmp_gt (pc2 := 21) 36 dX11_years_18 (by decide) rfl (fun c9 => ?_) (fun c9 => ?_)
      · replace ht := ht.1 c9
        refine x_iconst (pc2 := 37) (v := (-1)) (by decide) dX11_years_36 rfl ?_
        exact x_ret (ty := .int) rfl rfl dX11_years_37 ht
      · replace ht := ht.2 c9
        refine x_aload_n (pc2 := 22) 0 (n := 0) (x := a0) rfl dX11_years_21 rfl ?_
        obtain ⟨q10, e11, ht⟩ := ht
        refine y_getR (pc2 := 25) (κ := 11) (k := 12) fl_X11_80 (by decide) (by decide) (k4.up p3) rfl e11 dX11_years_22 rfl ?_
        obtain ⟨k12, ht⟩ := ht
        refine y_getI (pc2 := 28) (κ := 6) (k := 3) fl_X11_301 (by decide) (by decide) k12 rfl dX11_years_25 rfl ?_
        refine x_iload_n (pc2 := 29) 2 (n := 2) (x := x2) rfl dX11_years_28 rfl ?_
        refine x_iadd (pc2 := 30) dX11_years_29 rfl ?_
        refine x_sipush (pc2 := 33) (v := 9999) (by decide) dX11_years_30 rfl ?_
        refine x_icmp_le (pc2 := 36) 38 dX11_years_33 (by decide) rfl (fun c13 => ?_) (fun c13 => ?_)
        · replace ht := ht.1 c13
          refine x_aload_n (pc2 := 39) 0 (n := 0) (x := a0) rfl dX11_years_38 rfl ?_
          refine x_aload_n (pc2 := 40) 3 (n := 3) (x := q7) rfl dX11_years_39 rfl ?_
          refine x_iload_n (pc2 := 41) 2 (n := 2) (x := x2) rfl dX11_years_40 rfl ?_
          refine x_callV (pc2 := 44) (As := [.ref q7, .int x2]) (rest := []) (b := a0) mv_X11_live ml_X11_495 (k4.up p3) rfl rfl (Nat.le_of_ble_eq_true rfl) hd1 dX11_years_41 rfl (ht.mono (fun r14 h15 p16 ht' => ?_))
          clear ht
          obtain ⟨v17, rfl, ht⟩ := ht'
          show Ex G d mX11_years 44 [(0, .ref a0), (1, .int x1), (2, .int x2), (3, .ref q7)] [.int v17] h15 Q
          exact x_ret (ty := .int) rfl rfl dX11_years_44 ht
        · replace ht := ht.2 c13
          refine x_iconst (pc2 := 37) (v := (-1)) (by decide) dX11_years_36 rfl ?_
          exact x_ret (ty := .int) rfl rfl dX11_years_37 ht
theorem e_X11_years {G : GG} {d : Nat} {h : HP} {Q : Option Value → HP → Prop} {a0 : Nat} {x1 : Int32} {x2 : Int32} (hd1 : 1 ≤ d) (ht : T_X11_years G d h Q a0 x1 x2) : Cal G d mX11_years [.ref a0, .int x1, .int x2] h Q := cal_of rfl (Nat.le_of_ble_eq_true rfl) (t_X11_years hd1 ht)
def T_X11_after (G : GG) (d : Nat) (h : HP) (Q : Option Value → HP → Prop) (a0 : Nat) (x1 : Int32) (x2 : Int32) (x3 : Int32) : Prop :=
  Kd G h a0 11 ∧ Cal G (d - 1) mX11_lawAt [.ref a0, .int x1] h (fun r1 h2 => ∃ v5, r1 = some (va_rf v5) ∧ ((v5 = none → Q (some (.int (-1))) h2) ∧ (∀ q7, v5 = some q7 → ((x2 < 0 → Q (some (.int (-1))) h2) ∧ (¬ x2 < 0 → ((60 < x2 → Q (some (.int (-1))) h2) ∧ (¬ 60 < x2 → ((x3 < 0 → Q (some (.int (-1))) h2) ∧ (¬ x3 < 0 → ((x3 ≤ 3 → ∃ q12, hR h2 a0 12 = some q12 ∧ ∃ q14, hR h2 a0 13 = some q14 ∧ Kd G h2 q14 6 ∧ Cal G (d - 1) mX6_copyFrom [.ref q14, .ref q12] h2 (fun r16 h17 => r16 = none ∧ ∃ q20, hR h17 a0 13 = some q20 ∧ Cal G (d - 1) mX11_live [.ref a0, .ref q7, .int x2] (sR h17 a0 12 (some q20)) (fun r22 h23 => ∃ v25, r22 = some (.int v25) ∧ Cal G (d - 1) mX11_outlook [.ref a0, .int x3] h23 (fun r26 h27 => ∃ v29, r26 = some (.int v29) ∧ Q (some (.int v29)) (sR h27 a0 12 (some q12)))))) ∧ (¬ x3 ≤ 3 → Q (some (.int (-1))) h2)))))))))))
set_option maxRecDepth 20000 in
theorem t_X11_after {G : GG} {d : Nat} {h : HP} {Q : Option Value → HP → Prop} {a0 : Nat} {x1 : Int32} {x2 : Int32} {x3 : Int32} (hd1 : 1 ≤ d) (ht : T_X11_after G d h Q a0 x1 x2 x3) : Ex G d mX11_after 0 [(0, .ref a0), (1, .int x1), (2, .int x2), (3, .int x3)] [] h Q := by
  unfold T_X11_after at ht
  refine x_aload_n (pc2 := 1) 0 (n := 0) (x := a0) rfl dX11_after_0 rfl ?_
  refine x_iload_n (pc2 := 2) 1 (n := 1) (x := x1) rfl dX11_after_1 rfl ?_
  obtain ⟨k4, ht⟩ := ht
  refine x_callV (pc2 := 5) (As := [.int x1]) (rest := []) (b := a0) mv_X11_lawAt ml_X11_133 k4 rfl rfl (Nat.le_of_ble_eq_true rfl) hd1 dX11_after_2 rfl (ht.mono (fun r1 h2 p3 ht' => ?_))
  clear ht
  obtain ⟨v5, rfl, ht⟩ := ht'
  show Ex G d mX11_after 5 [(0, .ref a0), (1, .int x1), (2, .int x2), (3, .int x3)] [va_rf v5] h2 Q
  refine x_astoreq (pc2 := 7) [1, 2, 3, 4, 0] (n := 4) (x := v5) (lv2 := [(0, .ref a0), (1, .int x1), (2, .int x2), (3, .int x3), (4, va_rf v5)]) (by decide) rfl dX11_after_5 rfl ?_
  refine x_aloadq (pc2 := 9) 4 (n := 4) (x := v5) rfl dX11_after_7 rfl ?_
  refine x_ifnull (pc2 := 12) (x := v5) 31 dX11_after_9 (by decide) rfl (fun e6 => ?_) (fun q7 e6 => ?_)
  · replace ht := ht.1 e6
    subst e6
    show Ex G d mX11_after 31 [(0, .ref a0), (1, .int x1), (2, .int x2), (3, .int x3), (4, va_rf none)] [] h2 Q
    refine x_iconst (pc2 := 32) (v := (-1)) (by decide) dX11_after_31 rfl ?_
    exact x_ret (ty := .int) rfl rfl dX11_after_32 ht
  · replace ht := ht.2 q7 e6
    subst e6
    show Ex G d mX11_after 12 [(0, .ref a0), (1, .int x1), (2, .int x2), (3, .int x3), (4, .ref q7)] [] h2 Q
    refine x_iload_n (pc2 := 13) 2 (n := 2) (x := x2) rfl dX11_after_12 rfl ?_
    refine x_if_lt (pc2 := 16) 31 dX11_after_13 (by decide) rfl (fun c8 => ?_) (fun c8 => ?_)
    · replace ht := ht.1 c8
      refine x_iconst (pc2 := 32) (v := (-1)) (by decide) dX11_after_31 rfl ?_
      exact x_ret (ty := .int) rfl rfl dX11_after_32 ht
    · replace ht := ht.2 c8
      refine x_iload_n (pc2 := 17) 2 (n := 2) (x := x2) rfl dX11_after_16 rfl ?_
      refine x_bipush (pc2 := 19) (v := 60) (by decide) dX11_after_17 rfl ?_
      refine x_icmp_gt (pc2 := 22) 31 dX11_after_19 (by decide) rfl (fun c9 => ?_) (fun c9 => ?_)
      · replace ht := ht.1 c9
        refine x_iconst (pc2 := 32) (v := (-1)) (by decide) dX11_after_31 rfl ?_
        exact x_ret (ty := .int) rfl rfl dX11_after_32 ht
      · replace ht := ht.2 c9
        refine x_iload_n (pc2 := 23) 3 (n := 3) (x := x3) rfl dX11_after_22 rfl ?_
        refine x_if_lt (pc2 := 26) 31 dX11_after_23 (by decide) rfl (fun c10 => ?_) (fun c10 => ?_)
        · replace ht := ht.1 c10
          refine x_iconst (pc2 := 32) (v := (-1)) (by decide) dX11_after_31 rfl ?_
          exact x_ret (ty := .int) rfl rfl dX11_after_32 ht
        · replace ht := ht.2 c10
          refine x_iload_n (pc2 := 27) 3 (n := 3) (x := x3) rfl dX11_after_26 rfl ?_
          refine x_iconst (pc2 := 28) (v := 3) (by decide) dX11_after_27 rfl ?_
          refine x_icmp_le (pc2 := 31) 33 dX11_after_28 (by decide) rfl (fun c11 => ?_) (fun c11 => ?_)
          · replace ht := ht.1 c11
            refine x_aload_n (pc2 := 34) 0 (n := 0) (x := a0) rfl dX11_after_33 rfl ?_
            obtain ⟨q12, e13, ht⟩ := ht
            refine y_getR (pc2 := 37) (κ := 11) (k := 12) fl_X11_80 (by decide) (by decide) (k4.up p3) rfl e13 dX11_after_34 rfl ?_
            refine x_astore (pc2 := 39) [1, 2, 3, 4, 5, 0] (n := 5) (x := q12) (lv2 := [(0, .ref a0), (1, .int x1), (2, .int x2), (3, .int x3), (4, .ref q7), (5, .ref q12)]) (by decide) rfl dX11_after_37 rfl ?_
            refine x_aload_n (pc2 := 40) 0 (n := 0) (x := a0) rfl dX11_after_39 rfl ?_
            obtain ⟨q14, e15, ht⟩ := ht
            refine y_getR (pc2 := 43) (κ := 11) (k := 13) fl_X11_84 (by decide) (by decide) (k4.up p3) rfl e15 dX11_after_40 rfl ?_
            refine x_aload (pc2 := 45) 5 (n := 5) (x := q12) rfl dX11_after_43 rfl ?_
            obtain ⟨k19, ht⟩ := ht
            refine x_callV (pc2 := 48) (As := [.ref q12]) (rest := []) (b := q14) mv_X6_copyFrom ml_X11_499 k19 rfl rfl (Nat.le_of_ble_eq_true rfl) hd1 dX11_after_45 rfl (ht.mono (fun r16 h17 p18 ht' => ?_))
            clear ht
            obtain ⟨rfl, ht⟩ := ht'
            show Ex G d mX11_after 48 [(0, .ref a0), (1, .int x1), (2, .int x2), (3, .int x3), (4, .ref q7), (5, .ref q12)] [] h17 Q
            refine x_aload_n (pc2 := 49) 0 (n := 0) (x := a0) rfl dX11_after_48 rfl ?_
            refine x_aload_n (pc2 := 50) 0 (n := 0) (x := a0) rfl dX11_after_49 rfl ?_
            obtain ⟨q20, e21, ht⟩ := ht
            refine y_getR (pc2 := 53) (κ := 11) (k := 13) fl_X11_84 (by decide) (by decide) ((k4.up p3).up p18) rfl e21 dX11_after_50 rfl ?_
            refine x_putR (pc2 := 56) (v := (some q20)) (κ := 11) (k := 12) fl_X11_80 (by decide) (by decide) (Or.inl rfl) (isRt_o _) ((k4.up p3).up p18) dX11_after_53 rfl ?_
            refine x_aload_n (pc2 := 57) 0 (n := 0) (x := a0) rfl dX11_after_56 rfl ?_
            refine x_aload (pc2 := 59) 4 (n := 4) (x := q7) rfl dX11_after_57 rfl ?_
            refine x_iload_n (pc2 := 60) 2 (n := 2) (x := x2) rfl dX11_after_59 rfl ?_
            refine x_callV (pc2 := 63) (As := [.ref q7, .int x2]) (rest := []) (b := a0) mv_X11_live ml_X11_495 ((k4.up p3).up p18).sR rfl rfl (Nat.le_of_ble_eq_true rfl) hd1 dX11_after_60 rfl (ht.mono (fun r22 h23 p24 ht' => ?_))
            clear ht
            obtain ⟨v25, rfl, ht⟩ := ht'
            show Ex G d mX11_after 63 [(0, .ref a0), (1, .int x1), (2, .int x2), (3, .int x3), (4, .ref q7), (5, .ref q12)] [.int v25] h23 Q
            refine x_pop (pc2 := 64) rfl dX11_after_63 rfl ?_
            refine x_aload_n (pc2 := 65) 0 (n := 0) (x := a0) rfl dX11_after_64 rfl ?_
            refine x_iload_n (pc2 := 66) 3 (n := 3) (x := x3) rfl dX11_after_65 rfl ?_
            refine x_callV (pc2 := 69) (As := [.int x3]) (rest := []) (b := a0) mv_X11_outlook ml_X11_502 (((k4.up p3).up p18).sR.up p24) rfl rfl (Nat.le_of_ble_eq_true rfl) hd1 dX11_after_66 rfl (ht.mono (fun r26 h27 p28 ht' => ?_))
            clear ht
            obtain ⟨v29, rfl, ht⟩ := ht'
            show Ex G d mX11_after 69 [(0, .ref a0), (1, .int x1), (2, .int x2), (3, .int x3), (4, .ref q7), (5, .ref q12)] [.int v29] h27 Q
            refine x_istore (pc2 := 71) [1, 2, 3, 4, 5, 6, 0] (n := 6) (x := v29) (lv2 := [(0, .ref a0), (1, .int x1), (2, .int x2), (3, .int x3), (4, .ref q7), (5, .ref q12), (6, .int v29)]) (by decide) rfl dX11_after_69 rfl ?_
            refine x_aload_n (pc2 := 72) 0 (n := 0) (x := a0) rfl dX11_after_71 rfl ?_
            refine x_aload (pc2 := 74) 5 (n := 5) (x := q12) rfl dX11_after_72 rfl ?_
            refine x_putR (pc2 := 77) (v := (some q12)) (κ := 11) (k := 12) fl_X11_80 (by decide) (by decide) (Or.inl rfl) (isRt_o _) ((((k4.up p3).up p18).sR.up p24).up p28) dX11_after_74 rfl ?_
            refine x_iload (pc2 := 79) 6 (n := 6) (x := v29) rfl dX11_after_77 rfl ?_
            exact x_ret (ty := .int) rfl rfl dX11_after_79 ht
          · replace ht := ht.2 c11
            refine x_iconst (pc2 := 32) (v := (-1)) (by decide) dX11_after_31 rfl ?_
            exact x_ret (ty := .int) rfl rfl dX11_after_32 ht
theorem e_X11_after {G : GG} {d : Nat} {h : HP} {Q : Option Value → HP → Prop} {a0 : Nat} {x1 : Int32} {x2 : Int32} {x3 : Int32} (hd1 : 1 ≤ d) (ht : T_X11_after G d h Q a0 x1 x2 x3) : Cal G d mX11_after [.ref a0, .int x1, .int x2, .int x3] h Q := cal_of rfl (Nat.le_of_ble_eq_true rfl) (t_X11_after hd1 ht)
def T_X11_outlook (G : GG) (d : Nat) (h : HP) (Q : Option Value → HP → Prop) (a0 : Nat) (x1 : Int32) : Prop :=
  ((x1 = 0 → Kd G h a0 11 ∧ ∃ q3, hR h a0 12 = some q3 ∧ Kd G h q3 6 ∧ Cal G (d - 1) mX6_wallCount [.ref q3] h (fun r5 h6 => ∃ v9, r5 = some (.int v9) ∧ Q (some (.int v9)) h6)) ∧ (¬ x1 = 0 → ((x1 = 1 → Kd G h a0 11 ∧ ∃ q12, hR h a0 12 = some q12 ∧ Kd G h q12 6 ∧ Cal G (d - 1) mX6_nestCount [.ref q12] h (fun r14 h15 => ∃ v18, r14 = some (.int v18) ∧ Q (some (.int v18)) h15)) ∧ (¬ x1 = 1 → ((x1 = 2 → Kd G h a0 11 ∧ ∃ q21, hR h a0 12 = some q21 ∧ Kd G h q21 6 ∧ Cal G (d - 1) mX6_deepest [.ref q21] h (fun r23 h24 => ∃ v27, r23 = some (.int v27) ∧ Q (some (.int v27)) h24)) ∧ (¬ x1 = 2 → Kd G h a0 11 ∧ ∃ q29, hR h a0 12 = some q29 ∧ Kd G h q29 6 ∧ Cal G (d - 1) mX6_freeCells [.ref q29] h (fun r31 h32 => ∃ v35, r31 = some (.int v35) ∧ Q (some (.int v35)) h32)))))))
set_option maxRecDepth 20000 in
theorem t_X11_outlook {G : GG} {d : Nat} {h : HP} {Q : Option Value → HP → Prop} {a0 : Nat} {x1 : Int32} (hd1 : 1 ≤ d) (ht : T_X11_outlook G d h Q a0 x1) : Ex G d mX11_outlook 0 [(0, .ref a0), (1, .int x1)] [] h Q := by
  unfold T_X11_outlook at ht
  refine x_iload_n (pc2 := 1) 1 (n := 1) (x := x1) rfl dX11_outlook_0 rfl ?_
  refine y_tcase (x := x1) 0 28 dX11_outlook_1 (by decide) (by decide) rfl (by decide) (fun c1 => ?_) (fun c1 => ?_)
  · replace ht := ht.1 c1
    refine x_aload_n (pc2 := 29) 0 (n := 0) (x := a0) rfl dX11_outlook_28 rfl ?_
    obtain ⟨k2, ht⟩ := ht
    obtain ⟨q3, e4, ht⟩ := ht
    refine y_getR (pc2 := 32) (κ := 11) (k := 12) fl_X11_80 (by decide) (by decide) k2 rfl e4 dX11_outlook_29 rfl ?_
    obtain ⟨k8, ht⟩ := ht
    refine x_callV (pc2 := 35) (As := []) (rest := []) (b := q3) mv_X6_wallCount ml_X11_298 k8 rfl rfl (Nat.le_of_ble_eq_true rfl) hd1 dX11_outlook_32 rfl (ht.mono (fun r5 h6 p7 ht' => ?_))
    clear ht
    obtain ⟨v9, rfl, ht⟩ := ht'
    show Ex G d mX11_outlook 35 [(0, .ref a0), (1, .int x1)] [.int v9] h6 Q
    exact x_ret (ty := .int) rfl rfl dX11_outlook_35 ht
  replace ht := ht.2 c1
  refine y_tcase (x := x1) 1 36 dX11_outlook_1 (by decide) (by decide) rfl (by decide) (fun c10 => ?_) (fun c10 => ?_)
  · replace ht := ht.1 c10
    refine x_aload_n (pc2 := 37) 0 (n := 0) (x := a0) rfl dX11_outlook_36 rfl ?_
    obtain ⟨k11, ht⟩ := ht
    obtain ⟨q12, e13, ht⟩ := ht
    refine y_getR (pc2 := 40) (κ := 11) (k := 12) fl_X11_80 (by decide) (by decide) k11 rfl e13 dX11_outlook_37 rfl ?_
    obtain ⟨k17, ht⟩ := ht
    refine x_callV (pc2 := 43) (As := []) (rest := []) (b := q12) mv_X6_nestCount ml_X11_262 k17 rfl rfl (Nat.le_of_ble_eq_true rfl) hd1 dX11_outlook_40 rfl (ht.mono (fun r14 h15 p16 ht' => ?_))
    clear ht
    obtain ⟨v18, rfl, ht⟩ := ht'
    show Ex G d mX11_outlook 43 [(0, .ref a0), (1, .int x1)] [.int v18] h15 Q
    exact x_ret (ty := .int) rfl rfl dX11_outlook_43 ht
  replace ht := ht.2 c10
  refine y_tcase (x := x1) 2 44 dX11_outlook_1 (by decide) (by decide) rfl (by decide) (fun c19 => ?_) (fun c19 => ?_)
  · replace ht := ht.1 c19
    refine x_aload_n (pc2 := 45) 0 (n := 0) (x := a0) rfl dX11_outlook_44 rfl ?_
    obtain ⟨k20, ht⟩ := ht
    obtain ⟨q21, e22, ht⟩ := ht
    refine y_getR (pc2 := 48) (κ := 11) (k := 12) fl_X11_80 (by decide) (by decide) k20 rfl e22 dX11_outlook_45 rfl ?_
    obtain ⟨k26, ht⟩ := ht
    refine x_callV (pc2 := 51) (As := []) (rest := []) (b := q21) mv_X6_deepest ml_X11_505 k26 rfl rfl (Nat.le_of_ble_eq_true rfl) hd1 dX11_outlook_48 rfl (ht.mono (fun r23 h24 p25 ht' => ?_))
    clear ht
    obtain ⟨v27, rfl, ht⟩ := ht'
    show Ex G d mX11_outlook 51 [(0, .ref a0), (1, .int x1)] [.int v27] h24 Q
    exact x_ret (ty := .int) rfl rfl dX11_outlook_51 ht
  replace ht := ht.2 c19
  have wc1 := ne_ti (z := 0) rfl c1
  have wc10 := ne_ti (z := 1) rfl c10
  have wc19 := ne_ti (z := 2) rfl c19
  refine x_tableOut (x := x1) 52 dX11_outlook_1 (by omega) (by decide) ?_
  refine x_aload_n (pc2 := 53) 0 (n := 0) (x := a0) rfl dX11_outlook_52 rfl ?_
  obtain ⟨k28, ht⟩ := ht
  obtain ⟨q29, e30, ht⟩ := ht
  refine y_getR (pc2 := 56) (κ := 11) (k := 12) fl_X11_80 (by decide) (by decide) k28 rfl e30 dX11_outlook_53 rfl ?_
  obtain ⟨k34, ht⟩ := ht
  refine x_callV (pc2 := 59) (As := []) (rest := []) (b := q29) mv_X6_freeCells ml_X11_265 k34 rfl rfl (Nat.le_of_ble_eq_true rfl) hd1 dX11_outlook_56 rfl (ht.mono (fun r31 h32 p33 ht' => ?_))
  clear ht
  obtain ⟨v35, rfl, ht⟩ := ht'
  show Ex G d mX11_outlook 59 [(0, .ref a0), (1, .int x1)] [.int v35] h32 Q
  exact x_ret (ty := .int) rfl rfl dX11_outlook_59 ht
theorem e_X11_outlook {G : GG} {d : Nat} {h : HP} {Q : Option Value → HP → Prop} {a0 : Nat} {x1 : Int32} (hd1 : 1 ≤ d) (ht : T_X11_outlook G d h Q a0 x1) : Cal G d mX11_outlook [.ref a0, .int x1] h Q := cal_of rfl (Nat.le_of_ble_eq_true rfl) (t_X11_outlook hd1 ht)
def T_X11_live (G : GG) (d : Nat) (h : HP) (Q : Option Value → HP → Prop) (a0 : Nat) (a1 : Nat) (x2 : Int32) : Prop :=
  Ex G d mX11_live 5 [(0, .ref a0), (1, .ref a1), (2, .int x2), (3, .int 0), (4, .int 0)] [] h Q
set_option maxRecDepth 20000 in
theorem t_X11_live {G : GG} {d : Nat} {h : HP} {Q : Option Value → HP → Prop} {a0 : Nat} {a1 : Nat} {x2 : Int32} (ht : T_X11_live G d h Q a0 a1 x2) : Ex G d mX11_live 0 [(0, .ref a0), (1, .ref a1), (2, .int x2)] [] h Q := by
  unfold T_X11_live at ht
  refine x_iconst (pc2 := 1) (v := 0) (by decide) dX11_live_0 rfl ?_
  refine x_istore_n (pc2 := 2) [1, 2, 3, 0] (n := 3) (x := 0) (lv2 := [(0, .ref a0), (1, .ref a1), (2, .int x2), (3, .int 0)]) (by decide) rfl dX11_live_1 rfl ?_
  refine x_iconst (pc2 := 3) (v := 0) (by decide) dX11_live_2 rfl ?_
  refine x_istore (pc2 := 5) [1, 2, 3, 4, 0] (n := 4) (x := 0) (lv2 := [(0, .ref a0), (1, .ref a1), (2, .int x2), (3, .int 0), (4, .int 0)]) (by decide) rfl dX11_live_3 rfl ?_
  exact ht
theorem e_X11_live {G : GG} {d : Nat} {h : HP} {Q : Option Value → HP → Prop} {a0 : Nat} {a1 : Nat} {x2 : Int32} (ht : T_X11_live G d h Q a0 a1 x2) : Cal G d mX11_live [.ref a0, .ref a1, .int x2] h Q := cal_of rfl (Nat.le_of_ble_eq_true rfl) (t_X11_live ht)
def T_X11_live_5 (G : GG) (d : Nat) (h : HP) (Q : Option Value → HP → Prop) (a0 : Nat) (a1 : Nat) (x2 : Int32) (x3 : Int32) (x4 : Int32) : Prop :=
  ((x2 ≤ x4 → Q (some (.int x3)) h) ∧ (¬ x2 ≤ x4 → Kd G h a0 11 ∧ ∃ q3, hR h a0 12 = some q3 ∧ Kd G h q3 6 ∧ (((hI h q3 2) ≤ 0 → Ex G d mX11_live 32 [(0, .ref a0), (1, .ref a1), (2, .int x2), (3, .int x3), (4, .int x4)] [] h Q) ∧ (¬ (hI h q3 2) ≤ 0 → Cal G (d - 1) mX11_drawWall [.ref a0, .ref a1] h (fun r7 h8 => ∃ v10, r7 = some (.int v10) ∧ ((v10 = 0 → Ex G d mX11_live 32 [(0, .ref a0), (1, .ref a1), (2, .int x2), (3, .int x3), (4, .int x4)] [] h8 Q) ∧ (¬ v10 = 0 → Ex G d mX11_live 32 [(0, .ref a0), (1, .ref a1), (2, .int x2), (3, .int (x3 + 1)), (4, .int x4)] [] h8 Q)))))))
set_option maxRecDepth 20000 in
theorem t_X11_live_5 {G : GG} {d : Nat} {h : HP} {Q : Option Value → HP → Prop} {a0 : Nat} {a1 : Nat} {x2 : Int32} {x3 : Int32} {x4 : Int32} (hd1 : 1 ≤ d) (ht : T_X11_live_5 G d h Q a0 a1 x2 x3 x4) : Ex G d mX11_live 5 [(0, .ref a0), (1, .ref a1), (2, .int x2), (3, .int x3), (4, .int x4)] [] h Q := by
  unfold T_X11_live_5 at ht
  refine x_iload (pc2 := 7) 4 (n := 4) (x := x4) rfl dX11_live_5 rfl ?_
  refine x_iload_n (pc2 := 8) 2 (n := 2) (x := x2) rfl dX11_live_7 rfl ?_
  refine x_icmp_ge (pc2 := 11) 51 dX11_live_8 (by decide) rfl (fun c1 => ?_) (fun c1 => ?_)
  · replace ht := ht.1 c1
    refine x_iload_n (pc2 := 52) 3 (n := 3) (x := x3) rfl dX11_live_51 rfl ?_
    exact x_ret (ty := .int) rfl rfl dX11_live_52 ht
  · replace ht := ht.2 c1
    refine x_aload_n (pc2 := 12) 0 (n := 0) (x := a0) rfl dX11_live_11 rfl ?_
    obtain ⟨k2, ht⟩ := ht
    obtain ⟨q3, e4, ht⟩ := ht
    refine y_getR (pc2 := 15) (κ := 11) (k := 12) fl_X11_80 (by decide) (by decide) k2 rfl e4 dX11_live_12 rfl ?_
    obtain ⟨k5, ht⟩ := ht
    refine y_getI (pc2 := 18) (κ := 6) (k := 2) fl_X11_113 (by decide) (by decide) k5 rfl dX11_live_15 rfl ?_
    refine x_if_le (pc2 := 21) 32 dX11_live_18 (by decide) rfl (fun c6 => ?_) (fun c6 => ?_)
    · replace ht := ht.1 c6
      exact ht
    · replace ht := ht.2 c6
      refine x_aload_n (pc2 := 22) 0 (n := 0) (x := a0) rfl dX11_live_21 rfl ?_
      refine x_aload_n (pc2 := 23) 1 (n := 1) (x := a1) rfl dX11_live_22 rfl ?_
      refine x_callV (pc2 := 26) (As := [.ref a1]) (rest := []) (b := a0) mv_X11_drawWall ml_X11_508 k2 rfl rfl (Nat.le_of_ble_eq_true rfl) hd1 dX11_live_23 rfl (ht.mono (fun r7 h8 p9 ht' => ?_))
      clear ht
      obtain ⟨v10, rfl, ht⟩ := ht'
      show Ex G d mX11_live 26 [(0, .ref a0), (1, .ref a1), (2, .int x2), (3, .int x3), (4, .int x4)] [.int v10] h8 Q
      refine x_if_eq (pc2 := 29) 32 dX11_live_26 (by decide) rfl (fun c11 => ?_) (fun c11 => ?_)
      · replace ht := ht.1 c11
        exact ht
      · replace ht := ht.2 c11
        refine x_iinc (pc2 := 32) 3 [1, 2, 3, 0, 4] (i := 3) (x := x3) (v := (x3 + 1)) (lv2 := [(0, .ref a0), (1, .ref a1), (2, .int x2), (3, .int (x3 + 1)), (4, .int x4)]) rfl (iinc_eq (by decide) _) (by decide) rfl dX11_live_29 rfl ?_
        exact ht
def T_X11_live_32 (G : GG) (d : Nat) (h : HP) (Q : Option Value → HP → Prop) (a0 : Nat) (a1 : Nat) (x2 : Int32) (x3 : Int32) (x4 : Int32) : Prop :=
  Kd G h a0 11 ∧ ∃ q2, hR h a0 12 = some q2 ∧ Kd G h q2 6 ∧ Ex G d mX11_live 5 [(0, .ref a0), (1, .ref a1), (2, .int x2), (3, .int x3), (4, .int (x4 + 1))] [] (sI h q2 3 ((hI h q2 3) + 1)) Q
set_option maxRecDepth 20000 in
theorem t_X11_live_32 {G : GG} {d : Nat} {h : HP} {Q : Option Value → HP → Prop} {a0 : Nat} {a1 : Nat} {x2 : Int32} {x3 : Int32} {x4 : Int32} (ht : T_X11_live_32 G d h Q a0 a1 x2 x3 x4) : Ex G d mX11_live 32 [(0, .ref a0), (1, .ref a1), (2, .int x2), (3, .int x3), (4, .int x4)] [] h Q := by
  unfold T_X11_live_32 at ht
  refine x_aload_n (pc2 := 33) 0 (n := 0) (x := a0) rfl dX11_live_32 rfl ?_
  obtain ⟨k1, ht⟩ := ht
  obtain ⟨q2, e3, ht⟩ := ht
  refine y_getR (pc2 := 36) (κ := 11) (k := 12) fl_X11_80 (by decide) (by decide) k1 rfl e3 dX11_live_33 rfl ?_
  refine x_dup (pc2 := 37) rfl dX11_live_36 rfl ?_
  obtain ⟨k4, ht⟩ := ht
  refine y_getI (pc2 := 40) (κ := 6) (k := 3) fl_X11_301 (by decide) (by decide) k4 rfl dX11_live_37 rfl ?_
  refine x_iconst (pc2 := 41) (v := 1) (by decide) dX11_live_40 rfl ?_
  refine x_iadd (pc2 := 42) dX11_live_41 rfl ?_
  refine x_putI (pc2 := 45) (κ := 6) (k := 3) fl_X11_301 (by decide) (by decide) (Or.inl rfl) rfl k4 dX11_live_42 rfl ?_
  refine x_iinc (pc2 := 48) 4 [1, 2, 3, 4, 0] (i := 4) (x := x4) (v := (x4 + 1)) (lv2 := [(0, .ref a0), (1, .ref a1), (2, .int x2), (3, .int x3), (4, .int (x4 + 1))]) rfl (iinc_eq (by decide) _) (by decide) rfl dX11_live_45 rfl ?_
  refine x_goto 5 dX11_live_48 (by decide) ?_
  exact ht
def T_X11_drawWall (G : GG) (d : Nat) (h : HP) (Q : Option Value → HP → Prop) (a0 : Nat) (a1 : Nat) : Prop :=
  Kd G h a0 11 ∧ ∃ q2, hR h a0 12 = some q2 ∧ Kd G h q2 6 ∧ Cal G (d - 1) mX6_draw [.ref q2] h (fun r4 h5 => ∃ v8, r4 = some (.int v8) ∧ ∃ q9, hR h5 a0 12 = some q9 ∧ Kd G h5 q9 6 ∧ Cal G (d - 1) mX6_draw [.ref q9] h5 (fun r11 h12 => ∃ v15, r11 = some (.int v15) ∧ Cal G (d - 1) mX6_outermostAt [.ref q9, .int v15] h12 (fun r16 h17 => ∃ v19, r16 = some (.int v19) ∧ ∃ q20, hR h17 a0 12 = some q20 ∧ Kd G h17 q20 6 ∧ Cal G (d - 1) mX6_draw [.ref q20] h17 (fun r22 h23 => ∃ v26, r22 = some (.int v26) ∧ ∃ q27, hR h23 a0 12 = some q27 ∧ Kd G h23 q27 6 ∧ Cal G (d - 1) mX6_draw [.ref q27] h23 (fun r29 h30 => ∃ v33, r29 = some (.int v33) ∧ ∃ q34, hR h30 a0 12 = some q34 ∧ Kd G h30 q34 6 ∧ Cal G (d - 1) mX6_draw [.ref q34] h30 (fun r36 h37 => ∃ v40, r36 = some (.int v40) ∧ ∃ q41, hR h37 a0 12 = some q41 ∧ Kd G h37 q41 6 ∧ Cal G (d - 1) mX6_draw [.ref q41] h37 (fun r43 h44 => ∃ v47, r43 = some (.int v47) ∧ ∃ q48, hR h44 a0 12 = some q48 ∧ Kd G h44 q48 6 ∧ Cal G (d - 1) mX6_freeNumber [.ref q48] h44 (fun r50 h51 => ∃ v54, r50 = some (.int v54) ∧ ((v19 = (-1) → Q (some (.int 0)) h51) ∧ (¬ v19 = (-1) → ((¬ v54 = (-1) → ∃ q57, hR h51 a0 8 = some q57 ∧ Cal G (d - 1) mX11_aim [.ref a0, .ref q57, .int (irm v8 12), .int v19, .int (-1)] h51 (fun r59 h60 => r59 = none ∧ ∃ q62, hR h60 a0 8 = some q62 ∧ Kd G h60 q62 3 ∧ Cal G (d - 1) mX3_spread [.ref q62, .int (1 + (irm v26 3)), .int (1 + (irm v33 3)), .int (1 + (irm v40 3)), .int (1 + (irm v47 3))] h60 (fun r64 h65 => r64 = none ∧ ∃ q68, hR h65 a0 8 = some q68 ∧ Cal G (d - 1) mX11_mayCome [.ref a0, .ref a1, .ref q68] h65 (fun r70 h71 => ∃ v73, r70 = some (.int v73) ∧ ((¬ v73 = 0 → ∃ q75, hR h71 a0 12 = some q75 ∧ ∃ q77, hR h71 a0 8 = some q77 ∧ Kd G h71 q75 6 ∧ Cal G (d - 1) mX6_raise [.ref q75, .int v54, .ref q77] h71 (fun r79 h80 => r79 = none ∧ Q (some (.int 1)) h80)) ∧ (v73 = 0 → Q (some (.int 0)) h71)))))) ∧ (v54 = (-1) → Q (some (.int 0)) h51))))))))))))
set_option maxRecDepth 20000 in
theorem t_X11_drawWall {G : GG} {d : Nat} {h : HP} {Q : Option Value → HP → Prop} {a0 : Nat} {a1 : Nat} (hd1 : 1 ≤ d) (ht : T_X11_drawWall G d h Q a0 a1) : Ex G d mX11_drawWall 0 [(0, .ref a0), (1, .ref a1)] [] h Q := by
  unfold T_X11_drawWall at ht
  refine x_aload_n (pc2 := 1) 0 (n := 0) (x := a0) rfl dX11_drawWall_0 rfl ?_
  obtain ⟨k1, ht⟩ := ht
  obtain ⟨q2, e3, ht⟩ := ht
  refine y_getR (pc2 := 4) (κ := 11) (k := 12) fl_X11_80 (by decide) (by decide) k1 rfl e3 dX11_drawWall_1 rfl ?_
  obtain ⟨k7, ht⟩ := ht
  refine x_callV (pc2 := 7) (As := []) (rest := []) (b := q2) mv_X6_draw ml_X11_512 k7 rfl rfl (Nat.le_of_ble_eq_true rfl) hd1 dX11_drawWall_4 rfl (ht.mono (fun r4 h5 p6 ht' => ?_))
  clear ht
  obtain ⟨v8, rfl, ht⟩ := ht'
  show Ex G d mX11_drawWall 7 [(0, .ref a0), (1, .ref a1)] [.int v8] h5 Q
  refine x_bipush (pc2 := 9) (v := 12) (by decide) dX11_drawWall_7 rfl ?_
  refine y_irem (pc2 := 10) (by decide) dX11_drawWall_9 rfl ?_
  refine x_istore_n (pc2 := 11) [1, 2, 0] (n := 2) (x := (irm v8 12)) (lv2 := [(0, .ref a0), (1, .ref a1), (2, .int (irm v8 12))]) (by decide) rfl dX11_drawWall_10 rfl ?_
  refine x_aload_n (pc2 := 12) 0 (n := 0) (x := a0) rfl dX11_drawWall_11 rfl ?_
  obtain ⟨q9, e10, ht⟩ := ht
  refine y_getR (pc2 := 15) (κ := 11) (k := 12) fl_X11_80 (by decide) (by decide) (k1.up p6) rfl e10 dX11_drawWall_12 rfl ?_
  refine x_aload_n (pc2 := 16) 0 (n := 0) (x := a0) rfl dX11_drawWall_15 rfl ?_
  refine y_getR (pc2 := 19) (κ := 11) (k := 12) fl_X11_80 (by decide) (by decide) (k1.up p6) rfl e10 dX11_drawWall_16 rfl ?_
  obtain ⟨k14, ht⟩ := ht
  refine x_callV (pc2 := 22) (As := []) (rest := [.ref q9]) (b := q9) mv_X6_draw ml_X11_512 k14 rfl rfl (Nat.le_of_ble_eq_true rfl) hd1 dX11_drawWall_19 rfl (ht.mono (fun r11 h12 p13 ht' => ?_))
  clear ht
  obtain ⟨v15, rfl, ht⟩ := ht'
  show Ex G d mX11_drawWall 22 [(0, .ref a0), (1, .ref a1), (2, .int (irm v8 12))] [.int v15, .ref q9] h12 Q
  refine x_callV (pc2 := 25) (As := [.int v15]) (rest := []) (b := q9) mv_X6_outermostAt ml_X11_515 (k14.up p13) rfl rfl (Nat.le_of_ble_eq_true rfl) hd1 dX11_drawWall_22 rfl (ht.mono (fun r16 h17 p18 ht' => ?_))
  clear ht
  obtain ⟨v19, rfl, ht⟩ := ht'
  show Ex G d mX11_drawWall 25 [(0, .ref a0), (1, .ref a1), (2, .int (irm v8 12))] [.int v19] h17 Q
  refine x_istore_n (pc2 := 26) [1, 2, 3, 0] (n := 3) (x := v19) (lv2 := [(0, .ref a0), (1, .ref a1), (2, .int (irm v8 12)), (3, .int v19)]) (by decide) rfl dX11_drawWall_25 rfl ?_
  refine x_iconst (pc2 := 27) (v := 1) (by decide) dX11_drawWall_26 rfl ?_
  refine x_aload_n (pc2 := 28) 0 (n := 0) (x := a0) rfl dX11_drawWall_27 rfl ?_
  obtain ⟨q20, e21, ht⟩ := ht
  refine y_getR (pc2 := 31) (κ := 11) (k := 12) fl_X11_80 (by decide) (by decide) (((k1.up p6).up p13).up p18) rfl e21 dX11_drawWall_28 rfl ?_
  obtain ⟨k25, ht⟩ := ht
  refine x_callV (pc2 := 34) (As := []) (rest := [.int 1]) (b := q20) mv_X6_draw ml_X11_512 k25 rfl rfl (Nat.le_of_ble_eq_true rfl) hd1 dX11_drawWall_31 rfl (ht.mono (fun r22 h23 p24 ht' => ?_))
  clear ht
  obtain ⟨v26, rfl, ht⟩ := ht'
  show Ex G d mX11_drawWall 34 [(0, .ref a0), (1, .ref a1), (2, .int (irm v8 12)), (3, .int v19)] [.int v26, .int 1] h23 Q
  refine x_iconst (pc2 := 35) (v := 3) (by decide) dX11_drawWall_34 rfl ?_
  refine y_irem (pc2 := 36) (by decide) dX11_drawWall_35 rfl ?_
  refine x_iadd (pc2 := 37) dX11_drawWall_36 rfl ?_
  refine x_istore (pc2 := 39) [1, 2, 3, 4, 0] (n := 4) (x := (1 + (irm v26 3))) (lv2 := [(0, .ref a0), (1, .ref a1), (2, .int (irm v8 12)), (3, .int v19), (4, .int (1 + (irm v26 3)))]) (by decide) rfl dX11_drawWall_37 rfl ?_
  refine x_iconst (pc2 := 40) (v := 1) (by decide) dX11_drawWall_39 rfl ?_
  refine x_aload_n (pc2 := 41) 0 (n := 0) (x := a0) rfl dX11_drawWall_40 rfl ?_
  obtain ⟨q27, e28, ht⟩ := ht
  refine y_getR (pc2 := 44) (κ := 11) (k := 12) fl_X11_80 (by decide) (by decide) ((((k1.up p6).up p13).up p18).up p24) rfl e28 dX11_drawWall_41 rfl ?_
  obtain ⟨k32, ht⟩ := ht
  refine x_callV (pc2 := 47) (As := []) (rest := [.int 1]) (b := q27) mv_X6_draw ml_X11_512 k32 rfl rfl (Nat.le_of_ble_eq_true rfl) hd1 dX11_drawWall_44 rfl (ht.mono (fun r29 h30 p31 ht' => ?_))
  clear ht
  obtain ⟨v33, rfl, ht⟩ := ht'
  show Ex G d mX11_drawWall 47 [(0, .ref a0), (1, .ref a1), (2, .int (irm v8 12)), (3, .int v19), (4, .int (1 + (irm v26 3)))] [.int v33, .int 1] h30 Q
  refine x_iconst (pc2 := 48) (v := 3) (by decide) dX11_drawWall_47 rfl ?_
  refine y_irem (pc2 := 49) (by decide) dX11_drawWall_48 rfl ?_
  refine x_iadd (pc2 := 50) dX11_drawWall_49 rfl ?_
  refine x_istore (pc2 := 52) [1, 2, 3, 4, 5, 0] (n := 5) (x := (1 + (irm v33 3))) (lv2 := [(0, .ref a0), (1, .ref a1), (2, .int (irm v8 12)), (3, .int v19), (4, .int (1 + (irm v26 3))), (5, .int (1 + (irm v33 3)))]) (by decide) rfl dX11_drawWall_50 rfl ?_
  refine x_iconst (pc2 := 53) (v := 1) (by decide) dX11_drawWall_52 rfl ?_
  refine x_aload_n (pc2 := 54) 0 (n := 0) (x := a0) rfl dX11_drawWall_53 rfl ?_
  obtain ⟨q34, e35, ht⟩ := ht
  refine y_getR (pc2 := 57) (κ := 11) (k := 12) fl_X11_80 (by decide) (by decide) (((((k1.up p6).up p13).up p18).up p24).up p31) rfl e35 dX11_drawWall_54 rfl ?_
  obtain ⟨k39, ht⟩ := ht
  refine x_callV (pc2 := 60) (As := []) (rest := [.int 1]) (b := q34) mv_X6_draw ml_X11_512 k39 rfl rfl (Nat.le_of_ble_eq_true rfl) hd1 dX11_drawWall_57 rfl (ht.mono (fun r36 h37 p38 ht' => ?_))
  clear ht
  obtain ⟨v40, rfl, ht⟩ := ht'
  show Ex G d mX11_drawWall 60 [(0, .ref a0), (1, .ref a1), (2, .int (irm v8 12)), (3, .int v19), (4, .int (1 + (irm v26 3))), (5, .int (1 + (irm v33 3)))] [.int v40, .int 1] h37 Q
  refine x_iconst (pc2 := 61) (v := 3) (by decide) dX11_drawWall_60 rfl ?_
  refine y_irem (pc2 := 62) (by decide) dX11_drawWall_61 rfl ?_
  refine x_iadd (pc2 := 63) dX11_drawWall_62 rfl ?_
  refine x_istore (pc2 := 65) [1, 2, 3, 4, 5, 6, 0] (n := 6) (x := (1 + (irm v40 3))) (lv2 := [(0, .ref a0), (1, .ref a1), (2, .int (irm v8 12)), (3, .int v19), (4, .int (1 + (irm v26 3))), (5, .int (1 + (irm v33 3))), (6, .int (1 + (irm v40 3)))]) (by decide) rfl dX11_drawWall_63 rfl ?_
  refine x_iconst (pc2 := 66) (v := 1) (by decide) dX11_drawWall_65 rfl ?_
  refine x_aload_n (pc2 := 67) 0 (n := 0) (x := a0) rfl dX11_drawWall_66 rfl ?_
  obtain ⟨q41, e42, ht⟩ := ht
  refine y_getR (pc2 := 70) (κ := 11) (k := 12) fl_X11_80 (by decide) (by decide) ((((((k1.up p6).up p13).up p18).up p24).up p31).up p38) rfl e42 dX11_drawWall_67 rfl ?_
  obtain ⟨k46, ht⟩ := ht
  refine x_callV (pc2 := 73) (As := []) (rest := [.int 1]) (b := q41) mv_X6_draw ml_X11_512 k46 rfl rfl (Nat.le_of_ble_eq_true rfl) hd1 dX11_drawWall_70 rfl (ht.mono (fun r43 h44 p45 ht' => ?_))
  clear ht
  obtain ⟨v47, rfl, ht⟩ := ht'
  show Ex G d mX11_drawWall 73 [(0, .ref a0), (1, .ref a1), (2, .int (irm v8 12)), (3, .int v19), (4, .int (1 + (irm v26 3))), (5, .int (1 + (irm v33 3))), (6, .int (1 + (irm v40 3)))] [.int v47, .int 1] h44 Q
  refine x_iconst (pc2 := 74) (v := 3) (by decide) dX11_drawWall_73 rfl ?_
  refine y_irem (pc2 := 75) (by decide) dX11_drawWall_74 rfl ?_
  refine x_iadd (pc2 := 76) dX11_drawWall_75 rfl ?_
  refine x_istore (pc2 := 78) [1, 2, 3, 4, 5, 6, 7, 0] (n := 7) (x := (1 + (irm v47 3))) (lv2 := [(0, .ref a0), (1, .ref a1), (2, .int (irm v8 12)), (3, .int v19), (4, .int (1 + (irm v26 3))), (5, .int (1 + (irm v33 3))), (6, .int (1 + (irm v40 3))), (7, .int (1 + (irm v47 3)))]) (by decide) rfl dX11_drawWall_76 rfl ?_
  refine x_aload_n (pc2 := 79) 0 (n := 0) (x := a0) rfl dX11_drawWall_78 rfl ?_
  obtain ⟨q48, e49, ht⟩ := ht
  refine y_getR (pc2 := 82) (κ := 11) (k := 12) fl_X11_80 (by decide) (by decide) (((((((k1.up p6).up p13).up p18).up p24).up p31).up p38).up p45) rfl e49 dX11_drawWall_79 rfl ?_
  obtain ⟨k53, ht⟩ := ht
  refine x_callV (pc2 := 85) (As := []) (rest := []) (b := q48) mv_X6_freeNumber ml_X11_149 k53 rfl rfl (Nat.le_of_ble_eq_true rfl) hd1 dX11_drawWall_82 rfl (ht.mono (fun r50 h51 p52 ht' => ?_))
  clear ht
  obtain ⟨v54, rfl, ht⟩ := ht'
  show Ex G d mX11_drawWall 85 [(0, .ref a0), (1, .ref a1), (2, .int (irm v8 12)), (3, .int v19), (4, .int (1 + (irm v26 3))), (5, .int (1 + (irm v33 3))), (6, .int (1 + (irm v40 3))), (7, .int (1 + (irm v47 3)))] [.int v54] h51 Q
  refine x_istore (pc2 := 87) [1, 2, 3, 4, 5, 6, 7, 8, 0] (n := 8) (x := v54) (lv2 := [(0, .ref a0), (1, .ref a1), (2, .int (irm v8 12)), (3, .int v19), (4, .int (1 + (irm v26 3))), (5, .int (1 + (irm v33 3))), (6, .int (1 + (irm v40 3))), (7, .int (1 + (irm v47 3))), (8, .int v54)]) (by decide) rfl dX11_drawWall_85 rfl ?_
  refine x_iload_n (pc2 := 88) 3 (n := 3) (x := v19) rfl dX11_drawWall_87 rfl ?_
  refine x_iconst (pc2 := 89) (v := (-1)) (by decide) dX11_drawWall_88 rfl ?_
  refine x_icmp_eq (pc2 := 92) 98 dX11_drawWall_89 (by decide) rfl (fun c55 => ?_) (fun c55 => ?_)
  · replace ht := ht.1 c55
    refine x_iconst (pc2 := 99) (v := 0) (by decide) dX11_drawWall_98 rfl ?_
    exact x_retZ rfl (Or.inl rfl) dX11_drawWall_99 ht
  · replace ht := ht.2 c55
    refine x_iload (pc2 := 94) 8 (n := 8) (x := v54) rfl dX11_drawWall_92 rfl ?_
    refine x_iconst (pc2 := 95) (v := (-1)) (by decide) dX11_drawWall_94 rfl ?_
    refine y_icmp_ne (pc2 := 98) 100 dX11_drawWall_95 (by decide) rfl (fun c56 => ?_) (fun c56 => ?_)
    · replace ht := ht.1 c56
      refine x_aload_n (pc2 := 101) 0 (n := 0) (x := a0) rfl dX11_drawWall_100 rfl ?_
      refine x_aload_n (pc2 := 102) 0 (n := 0) (x := a0) rfl dX11_drawWall_101 rfl ?_
      obtain ⟨q57, e58, ht⟩ := ht
      refine y_getR (pc2 := 105) (κ := 11) (k := 8) fl_X11_62 (by decide) (by decide) ((((((((k1.up p6).up p13).up p18).up p24).up p31).up p38).up p45).up p52) rfl e58 dX11_drawWall_102 rfl ?_
      refine x_iload_n (pc2 := 106) 2 (n := 2) (x := (irm v8 12)) rfl dX11_drawWall_105 rfl ?_
      refine x_iload_n (pc2 := 107) 3 (n := 3) (x := v19) rfl dX11_drawWall_106 rfl ?_
      refine x_iconst (pc2 := 108) (v := (-1)) (by decide) dX11_drawWall_107 rfl ?_
      refine x_callV (pc2 := 111) (As := [.ref q57, .int (irm v8 12), .int v19, .int (-1)]) (rest := []) (b := a0) mv_X11_aim ml_X11_379 ((((((((k1.up p6).up p13).up p18).up p24).up p31).up p38).up p45).up p52) rfl rfl (Nat.le_of_ble_eq_true rfl) hd1 dX11_drawWall_108 rfl (ht.mono (fun r59 h60 p61 ht' => ?_))
      clear ht
      obtain ⟨rfl, ht⟩ := ht'
      show Ex G d mX11_drawWall 111 [(0, .ref a0), (1, .ref a1), (2, .int (irm v8 12)), (3, .int v19), (4, .int (1 + (irm v26 3))), (5, .int (1 + (irm v33 3))), (6, .int (1 + (irm v40 3))), (7, .int (1 + (irm v47 3))), (8, .int v54)] [] h60 Q
      refine x_aload_n (pc2 := 112) 0 (n := 0) (x := a0) rfl dX11_drawWall_111 rfl ?_
      obtain ⟨q62, e63, ht⟩ := ht
      refine y_getR (pc2 := 115) (κ := 11) (k := 8) fl_X11_62 (by decide) (by decide) (((((((((k1.up p6).up p13).up p18).up p24).up p31).up p38).up p45).up p52).up p61) rfl e63 dX11_drawWall_112 rfl ?_
      refine x_iload (pc2 := 117) 4 (n := 4) (x := (1 + (irm v26 3))) rfl dX11_drawWall_115 rfl ?_
      refine x_iload (pc2 := 119) 5 (n := 5) (x := (1 + (irm v33 3))) rfl dX11_drawWall_117 rfl ?_
      refine x_iload (pc2 := 121) 6 (n := 6) (x := (1 + (irm v40 3))) rfl dX11_drawWall_119 rfl ?_
      refine x_iload (pc2 := 123) 7 (n := 7) (x := (1 + (irm v47 3))) rfl dX11_drawWall_121 rfl ?_
      obtain ⟨k67, ht⟩ := ht
      refine x_callV (pc2 := 126) (As := [.int (1 + (irm v26 3)), .int (1 + (irm v33 3)), .int (1 + (irm v40 3)), .int (1 + (irm v47 3))]) (rest := []) (b := q62) mv_X3_spread ml_X11_284 k67 rfl rfl (Nat.le_of_ble_eq_true rfl) hd1 dX11_drawWall_123 rfl (ht.mono (fun r64 h65 p66 ht' => ?_))
      clear ht
      obtain ⟨rfl, ht⟩ := ht'
      show Ex G d mX11_drawWall 126 [(0, .ref a0), (1, .ref a1), (2, .int (irm v8 12)), (3, .int v19), (4, .int (1 + (irm v26 3))), (5, .int (1 + (irm v33 3))), (6, .int (1 + (irm v40 3))), (7, .int (1 + (irm v47 3))), (8, .int v54)] [] h65 Q
      refine x_aload_n (pc2 := 127) 0 (n := 0) (x := a0) rfl dX11_drawWall_126 rfl ?_
      refine x_aload_n (pc2 := 128) 1 (n := 1) (x := a1) rfl dX11_drawWall_127 rfl ?_
      refine x_aload_n (pc2 := 129) 0 (n := 0) (x := a0) rfl dX11_drawWall_128 rfl ?_
      obtain ⟨q68, e69, ht⟩ := ht
      refine y_getR (pc2 := 132) (κ := 11) (k := 8) fl_X11_62 (by decide) (by decide) ((((((((((k1.up p6).up p13).up p18).up p24).up p31).up p38).up p45).up p52).up p61).up p66) rfl e69 dX11_drawWall_129 rfl ?_
      refine x_callV (pc2 := 135) (As := [.ref a1, .ref q68]) (rest := []) (b := a0) mv_X11_mayCome ml_X11_145 ((((((((((k1.up p6).up p13).up p18).up p24).up p31).up p38).up p45).up p52).up p61).up p66) rfl rfl (Nat.le_of_ble_eq_true rfl) hd1 dX11_drawWall_132 rfl (ht.mono (fun r70 h71 p72 ht' => ?_))
      clear ht
      obtain ⟨v73, rfl, ht⟩ := ht'
      show Ex G d mX11_drawWall 135 [(0, .ref a0), (1, .ref a1), (2, .int (irm v8 12)), (3, .int v19), (4, .int (1 + (irm v26 3))), (5, .int (1 + (irm v33 3))), (6, .int (1 + (irm v40 3))), (7, .int (1 + (irm v47 3))), (8, .int v54)] [.int v73] h71 Q
      refine y_if_ne (pc2 := 138) 140 dX11_drawWall_135 (by decide) rfl (fun c74 => ?_) (fun c74 => ?_)
      · replace ht := ht.1 c74
        refine x_aload_n (pc2 := 141) 0 (n := 0) (x := a0) rfl dX11_drawWall_140 rfl ?_
        obtain ⟨q75, e76, ht⟩ := ht
        refine y_getR (pc2 := 144) (κ := 11) (k := 12) fl_X11_80 (by decide) (by decide) (((((((((((k1.up p6).up p13).up p18).up p24).up p31).up p38).up p45).up p52).up p61).up p66).up p72) rfl e76 dX11_drawWall_141 rfl ?_
        refine x_iload (pc2 := 146) 8 (n := 8) (x := v54) rfl dX11_drawWall_144 rfl ?_
        refine x_aload_n (pc2 := 147) 0 (n := 0) (x := a0) rfl dX11_drawWall_146 rfl ?_
        obtain ⟨q77, e78, ht⟩ := ht
        refine y_getR (pc2 := 150) (κ := 11) (k := 8) fl_X11_62 (by decide) (by decide) (((((((((((k1.up p6).up p13).up p18).up p24).up p31).up p38).up p45).up p52).up p61).up p66).up p72) rfl e78 dX11_drawWall_147 rfl ?_
        obtain ⟨k82, ht⟩ := ht
        refine x_callV (pc2 := 153) (As := [.int v54, .ref q77]) (rest := []) (b := q75) mv_X6_raise ml_X11_153 k82 rfl rfl (Nat.le_of_ble_eq_true rfl) hd1 dX11_drawWall_150 rfl (ht.mono (fun r79 h80 p81 ht' => ?_))
        clear ht
        obtain ⟨rfl, ht⟩ := ht'
        show Ex G d mX11_drawWall 153 [(0, .ref a0), (1, .ref a1), (2, .int (irm v8 12)), (3, .int v19), (4, .int (1 + (irm v26 3))), (5, .int (1 + (irm v33 3))), (6, .int (1 + (irm v40 3))), (7, .int (1 + (irm v47 3))), (8, .int v54)] [] h80 Q
        refine x_iconst (pc2 := 154) (v := 1) (by decide) dX11_drawWall_153 rfl ?_
        exact x_retZ rfl (Or.inr rfl) dX11_drawWall_154 ht
      · replace ht := ht.2 c74
        refine x_iconst (pc2 := 139) (v := 0) (by decide) dX11_drawWall_138 rfl ?_
        exact x_retZ rfl (Or.inl rfl) dX11_drawWall_139 ht
    · replace ht := ht.2 c56
      refine x_iconst (pc2 := 99) (v := 0) (by decide) dX11_drawWall_98 rfl ?_
      exact x_retZ rfl (Or.inl rfl) dX11_drawWall_99 ht
theorem e_X11_drawWall {G : GG} {d : Nat} {h : HP} {Q : Option Value → HP → Prop} {a0 : Nat} {a1 : Nat} (hd1 : 1 ≤ d) (ht : T_X11_drawWall G d h Q a0 a1) : Cal G d mX11_drawWall [.ref a0, .ref a1] h Q := cal_of rfl (Nat.le_of_ble_eq_true rfl) (t_X11_drawWall hd1 ht)
def T_X11_image (G : GG) (d : Nat) (h : HP) (Q : Option Value → HP → Prop) (a0 : Nat) (x1 : Int32) : Prop :=
  ((x1 < 0 → Q (some (.int (-1))) h) ∧ (¬ x1 < 0 → ((x1 < 4 → Kd G h a0 11 ∧ ∃ q4, hR h a0 5 = some q4 ∧ Kd G h q4 19 ∧ vp_in x1 (hN h q4) ∧ ∀ o8, hR h q4 x1.toNatClampNeg = o8 → ((o8 = none → ∀ q12 h13, q12 = hZ h → h13 = nw h 6 9 → Cal G (d - 1) mX6_init [.ref q12] h13 (fun r17 h18 => r17 = none ∧ ∃ q20, hR h18 a0 5 = some q20 ∧ Kd G h18 q20 19 ∧ vp_in x1 (hN h18 q20) ∧ Kd G h18 q12 6 ∧ ∃ q25, hR (sR h18 q20 x1.toNatClampNeg (some q12)) a0 12 = some q25 ∧ Cal G (d - 1) mX6_copyFrom [.ref q12, .ref q25] (sR h18 q20 x1.toNatClampNeg (some q12)) (fun r27 h28 => r27 = none ∧ ∃ q30, hR h28 a0 12 = some q30 ∧ Kd G h28 q30 6 ∧ Cal G (d - 1) mX6_wallCount [.ref q30] h28 (fun r32 h33 => ∃ v36, r32 = some (.int v36) ∧ Q (some (.int v36)) h33)))) ∧ (∀ q11, o8 = some q11 → ∃ q37, hR h a0 12 = some q37 ∧ Kd G h q11 6 ∧ Cal G (d - 1) mX6_copyFrom [.ref q11, .ref q37] h (fun r39 h40 => r39 = none ∧ ∃ q43, hR h40 a0 12 = some q43 ∧ Kd G h40 q43 6 ∧ Cal G (d - 1) mX6_wallCount [.ref q43] h40 (fun r45 h46 => ∃ v49, r45 = some (.int v49) ∧ Q (some (.int v49)) h46))))) ∧ (¬ x1 < 4 → Q (some (.int (-1))) h))))
set_option maxRecDepth 20000 in
theorem t_X11_image {G : GG} {d : Nat} {h : HP} {Q : Option Value → HP → Prop} {a0 : Nat} {x1 : Int32} (hd1 : 1 ≤ d) (ht : T_X11_image G d h Q a0 x1) : Ex G d mX11_image 0 [(0, .ref a0), (1, .int x1)] [] h Q := by
  unfold T_X11_image at ht
  refine x_iload_n (pc2 := 1) 1 (n := 1) (x := x1) rfl dX11_image_0 rfl ?_
  refine x_if_lt (pc2 := 4) 9 dX11_image_1 (by decide) rfl (fun c1 => ?_) (fun c1 => ?_)
  · replace ht := ht.1 c1
    refine x_iconst (pc2 := 10) (v := (-1)) (by decide) dX11_image_9 rfl ?_
    exact x_ret (ty := .int) rfl rfl dX11_image_10 ht
  · replace ht := ht.2 c1
    refine x_iload_n (pc2 := 5) 1 (n := 1) (x := x1) rfl dX11_image_4 rfl ?_
    refine x_iconst (pc2 := 6) (v := 4) (by decide) dX11_image_5 rfl ?_
    refine x_icmp_lt (pc2 := 9) 11 dX11_image_6 (by decide) rfl (fun c2 => ?_) (fun c2 => ?_)
    · replace ht := ht.1 c2
      refine x_aload_n (pc2 := 12) 0 (n := 0) (x := a0) rfl dX11_image_11 rfl ?_
      obtain ⟨k3, ht⟩ := ht
      obtain ⟨q4, e5, ht⟩ := ht
      refine y_getR (pc2 := 15) (κ := 11) (k := 5) fl_X11_41 (by decide) (by decide) k3 rfl e5 dX11_image_12 rfl ?_
      refine x_iload_n (pc2 := 16) 1 (n := 1) (x := x1) rfl dX11_image_15 rfl ?_
      obtain ⟨k6, ht⟩ := ht
      obtain ⟨b7, ht⟩ := ht
      refine y_aaldq (pc2 := 17) (κ := 19) (by decide) k6 b7 dX11_image_16 rfl (fun o8 e9 => ?_)
      replace ht := ht o8 e9
      refine x_astoreq_n (pc2 := 18) [1, 2, 0] (n := 2) (x := o8) (lv2 := [(0, .ref a0), (1, .int x1), (2, va_rf o8)]) (by decide) rfl dX11_image_17 rfl ?_
      refine x_aloadq_n (pc2 := 19) 2 (n := 2) (x := o8) rfl dX11_image_18 rfl ?_
      refine x_ifnonnull (pc2 := 22) (x := o8) 37 dX11_image_19 (by decide) rfl (fun q11 e10 => ?_) (fun e10 => ?_)
      · replace ht := ht.2 q11 e10
        subst e10
        show Ex G d mX11_image 37 [(0, .ref a0), (1, .int x1), (2, .ref q11)] [] h Q
        refine x_aload_n (pc2 := 38) 2 (n := 2) (x := q11) rfl dX11_image_37 rfl ?_
        refine x_aload_n (pc2 := 39) 0 (n := 0) (x := a0) rfl dX11_image_38 rfl ?_
        obtain ⟨q37, e38, ht⟩ := ht
        refine y_getR (pc2 := 42) (κ := 11) (k := 12) fl_X11_80 (by decide) (by decide) k3 rfl e38 dX11_image_39 rfl ?_
        obtain ⟨k42, ht⟩ := ht
        refine x_callV (pc2 := 45) (As := [.ref q37]) (rest := []) (b := q11) mv_X6_copyFrom ml_X11_499 k42 rfl rfl (Nat.le_of_ble_eq_true rfl) hd1 dX11_image_42 rfl (ht.mono (fun r39 h40 p41 ht' => ?_))
        clear ht
        obtain ⟨rfl, ht⟩ := ht'
        show Ex G d mX11_image 45 [(0, .ref a0), (1, .int x1), (2, .ref q11)] [] h40 Q
        refine x_aload_n (pc2 := 46) 0 (n := 0) (x := a0) rfl dX11_image_45 rfl ?_
        obtain ⟨q43, e44, ht⟩ := ht
        refine y_getR (pc2 := 49) (κ := 11) (k := 12) fl_X11_80 (by decide) (by decide) (k3.up p41) rfl e44 dX11_image_46 rfl ?_
        obtain ⟨k48, ht⟩ := ht
        refine x_callV (pc2 := 52) (As := []) (rest := []) (b := q43) mv_X6_wallCount ml_X11_298 k48 rfl rfl (Nat.le_of_ble_eq_true rfl) hd1 dX11_image_49 rfl (ht.mono (fun r45 h46 p47 ht' => ?_))
        clear ht
        obtain ⟨v49, rfl, ht⟩ := ht'
        show Ex G d mX11_image 52 [(0, .ref a0), (1, .int x1), (2, .ref q11)] [.int v49] h46 Q
        exact x_ret (ty := .int) rfl rfl dX11_image_52 ht
      · replace ht := ht.1 e10
        subst e10
        show Ex G d mX11_image 22 [(0, .ref a0), (1, .int x1), (2, va_rf none)] [] h Q
        refine y_new (pc2 := 25) (κ := 6) cl_X11_39 (by decide) dX11_image_22 rfl (fun q12 h13 e14 e15 p16 => ?_)
        replace ht := ht q12 h13 e14 e15
        refine x_dup (pc2 := 26) rfl dX11_image_25 rfl ?_
        refine x_callI (pc2 := 29) (As := []) (rest := [.ref q12]) (b := q12) mi_X6_init ml_X11_79 rfl rfl (Nat.le_of_ble_eq_true rfl) hd1 dX11_image_26 rfl (ht.mono (fun r17 h18 p19 ht' => ?_))
        clear ht
        obtain ⟨rfl, ht⟩ := ht'
        show Ex G d mX11_image 29 [(0, .ref a0), (1, .int x1), (2, va_rf none)] [.ref q12] h18 Q
        refine x_astore_n (pc2 := 30) [1, 2, 0] (n := 2) (x := q12) (lv2 := [(0, .ref a0), (1, .int x1), (2, .ref q12)]) (by decide) rfl dX11_image_29 rfl ?_
        refine x_aload_n (pc2 := 31) 0 (n := 0) (x := a0) rfl dX11_image_30 rfl ?_
        obtain ⟨q20, e21, ht⟩ := ht
        refine y_getR (pc2 := 34) (κ := 11) (k := 5) fl_X11_41 (by decide) (by decide) ((k3.up p16).up p19) rfl e21 dX11_image_31 rfl ?_
        refine x_iload_n (pc2 := 35) 1 (n := 1) (x := x1) rfl dX11_image_34 rfl ?_
        refine x_aload_n (pc2 := 36) 2 (n := 2) (x := q12) rfl dX11_image_35 rfl ?_
        obtain ⟨k22, ht⟩ := ht
        obtain ⟨b23, ht⟩ := ht
        obtain ⟨k24, ht⟩ := ht
        refine x_aast (pc2 := 37) (κ := 19) (by decide) k22 b23 k24 dX11_image_36 rfl ?_
        refine x_aload_n (pc2 := 38) 2 (n := 2) (x := q12) rfl dX11_image_37 rfl ?_
        refine x_aload_n (pc2 := 39) 0 (n := 0) (x := a0) rfl dX11_image_38 rfl ?_
        obtain ⟨q25, e26, ht⟩ := ht
        refine y_getR (pc2 := 42) (κ := 11) (k := 12) fl_X11_80 (by decide) (by decide) ((k3.up p16).up p19).sR rfl e26 dX11_image_39 rfl ?_
        refine x_callV (pc2 := 45) (As := [.ref q25]) (rest := []) (b := q12) mv_X6_copyFrom ml_X11_499 k24.sR rfl rfl (Nat.le_of_ble_eq_true rfl) hd1 dX11_image_42 rfl (ht.mono (fun r27 h28 p29 ht' => ?_))
        clear ht
        obtain ⟨rfl, ht⟩ := ht'
        show Ex G d mX11_image 45 [(0, .ref a0), (1, .int x1), (2, .ref q12)] [] h28 Q
        refine x_aload_n (pc2 := 46) 0 (n := 0) (x := a0) rfl dX11_image_45 rfl ?_
        obtain ⟨q30, e31, ht⟩ := ht
        refine y_getR (pc2 := 49) (κ := 11) (k := 12) fl_X11_80 (by decide) (by decide) (((k3.up p16).up p19).sR.up p29) rfl e31 dX11_image_46 rfl ?_
        obtain ⟨k35, ht⟩ := ht
        refine x_callV (pc2 := 52) (As := []) (rest := []) (b := q30) mv_X6_wallCount ml_X11_298 k35 rfl rfl (Nat.le_of_ble_eq_true rfl) hd1 dX11_image_49 rfl (ht.mono (fun r32 h33 p34 ht' => ?_))
        clear ht
        obtain ⟨v36, rfl, ht⟩ := ht'
        show Ex G d mX11_image 52 [(0, .ref a0), (1, .int x1), (2, .ref q12)] [.int v36] h33 Q
        exact x_ret (ty := .int) rfl rfl dX11_image_52 ht
    · replace ht := ht.2 c2
      refine x_iconst (pc2 := 10) (v := (-1)) (by decide) dX11_image_9 rfl ?_
      exact x_ret (ty := .int) rfl rfl dX11_image_10 ht
theorem e_X11_image {G : GG} {d : Nat} {h : HP} {Q : Option Value → HP → Prop} {a0 : Nat} {x1 : Int32} (hd1 : 1 ≤ d) (ht : T_X11_image G d h Q a0 x1) : Cal G d mX11_image [.ref a0, .int x1] h Q := cal_of rfl (Nat.le_of_ble_eq_true rfl) (t_X11_image hd1 ht)
def T_X11_back (G : GG) (d : Nat) (h : HP) (Q : Option Value → HP → Prop) (a0 : Nat) (x1 : Int32) : Prop :=
  ((x1 < 0 → Q (some (.int (-1))) h) ∧ (¬ x1 < 0 → ((x1 < 4 → Kd G h a0 11 ∧ ∃ q4, hR h a0 5 = some q4 ∧ Kd G h q4 19 ∧ vp_in x1 (hN h q4) ∧ ∀ o8, hR h q4 x1.toNatClampNeg = o8 → ((o8 = none → Q (some (.int (-1))) h) ∧ (∀ q11, o8 = some q11 → ∃ q12, hR h a0 12 = some q12 ∧ Kd G h q12 6 ∧ Cal G (d - 1) mX6_copyFrom [.ref q12, .ref q11] h (fun r14 h15 => r14 = none ∧ ∃ q18, hR h15 a0 6 = some q18 ∧ ∃ q20, hR h15 a0 12 = some q20 ∧ Kd G h15 q18 7 ∧ Cal G (d - 1) mX7_rebuild [.ref q18, .ref q20] h15 (fun r22 h23 => r22 = none ∧ ∃ q26, hR h23 a0 12 = some q26 ∧ Kd G h23 q26 6 ∧ Cal G (d - 1) mX6_wallCount [.ref q26] h23 (fun r28 h29 => ∃ v32, r28 = some (.int v32) ∧ Q (some (.int v32)) h29)))))) ∧ (¬ x1 < 4 → Q (some (.int (-1))) h))))
set_option maxRecDepth 20000 in
theorem t_X11_back {G : GG} {d : Nat} {h : HP} {Q : Option Value → HP → Prop} {a0 : Nat} {x1 : Int32} (hd1 : 1 ≤ d) (ht : T_X11_back G d h Q a0 x1) : Ex G d mX11_back 0 [(0, .ref a0), (1, .int x1)] [] h Q := by
  unfold T_X11_back at ht
  refine x_iload_n (pc2 := 1) 1 (n := 1) (x := x1) rfl dX11_back_0 rfl ?_
  refine x_if_lt (pc2 := 4) 9 dX11_back_1 (by decide) rfl (fun c1 => ?_) (fun c1 => ?_)
  · replace ht := ht.1 c1
    refine x_iconst (pc2 := 10) (v := (-1)) (by decide) dX11_back_9 rfl ?_
    exact x_ret (ty := .int) rfl rfl dX11_back_10 ht
  · replace ht := ht.2 c1
    refine x_iload_n (pc2 := 5) 1 (n := 1) (x := x1) rfl dX11_back_4 rfl ?_
    refine x_iconst (pc2 := 6) (v := 4) (by decide) dX11_back_5 rfl ?_
    refine x_icmp_lt (pc2 := 9) 11 dX11_back_6 (by decide) rfl (fun c2 => ?_) (fun c2 => ?_)
    · replace ht := ht.1 c2
      refine x_aload_n (pc2 := 12) 0 (n := 0) (x := a0) rfl dX11_back_11 rfl ?_
      obtain ⟨k3, ht⟩ := ht
      obtain ⟨q4, e5, ht⟩ := ht
      refine y_getR (pc2 := 15) (κ := 11) (k := 5) fl_X11_41 (by decide) (by decide) k3 rfl e5 dX11_back_12 rfl ?_
      refine x_iload_n (pc2 := 16) 1 (n := 1) (x := x1) rfl dX11_back_15 rfl ?_
      obtain ⟨k6, ht⟩ := ht
      obtain ⟨b7, ht⟩ := ht
      refine y_aaldq (pc2 := 17) (κ := 19) (by decide) k6 b7 dX11_back_16 rfl (fun o8 e9 => ?_)
      replace ht := ht o8 e9
      refine x_astoreq_n (pc2 := 18) [1, 2, 0] (n := 2) (x := o8) (lv2 := [(0, .ref a0), (1, .int x1), (2, va_rf o8)]) (by decide) rfl dX11_back_17 rfl ?_
      refine x_aloadq_n (pc2 := 19) 2 (n := 2) (x := o8) rfl dX11_back_18 rfl ?_
      refine x_ifnonnull (pc2 := 22) (x := o8) 24 dX11_back_19 (by decide) rfl (fun q11 e10 => ?_) (fun e10 => ?_)
      · replace ht := ht.2 q11 e10
        subst e10
        show Ex G d mX11_back 24 [(0, .ref a0), (1, .int x1), (2, .ref q11)] [] h Q
        refine x_aload_n (pc2 := 25) 0 (n := 0) (x := a0) rfl dX11_back_24 rfl ?_
        obtain ⟨q12, e13, ht⟩ := ht
        refine y_getR (pc2 := 28) (κ := 11) (k := 12) fl_X11_80 (by decide) (by decide) k3 rfl e13 dX11_back_25 rfl ?_
        refine x_aload_n (pc2 := 29) 2 (n := 2) (x := q11) rfl dX11_back_28 rfl ?_
        obtain ⟨k17, ht⟩ := ht
        refine x_callV (pc2 := 32) (As := [.ref q11]) (rest := []) (b := q12) mv_X6_copyFrom ml_X11_499 k17 rfl rfl (Nat.le_of_ble_eq_true rfl) hd1 dX11_back_29 rfl (ht.mono (fun r14 h15 p16 ht' => ?_))
        clear ht
        obtain ⟨rfl, ht⟩ := ht'
        show Ex G d mX11_back 32 [(0, .ref a0), (1, .int x1), (2, .ref q11)] [] h15 Q
        refine x_aload_n (pc2 := 33) 0 (n := 0) (x := a0) rfl dX11_back_32 rfl ?_
        obtain ⟨q18, e19, ht⟩ := ht
        refine y_getR (pc2 := 36) (κ := 11) (k := 6) fl_X11_48 (by decide) (by decide) (k3.up p16) rfl e19 dX11_back_33 rfl ?_
        refine x_aload_n (pc2 := 37) 0 (n := 0) (x := a0) rfl dX11_back_36 rfl ?_
        obtain ⟨q20, e21, ht⟩ := ht
        refine y_getR (pc2 := 40) (κ := 11) (k := 12) fl_X11_80 (by decide) (by decide) (k3.up p16) rfl e21 dX11_back_37 rfl ?_
        obtain ⟨k25, ht⟩ := ht
        refine x_callV (pc2 := 43) (As := [.ref q20]) (rest := []) (b := q18) mv_X7_rebuild ml_X11_110 k25 rfl rfl (Nat.le_of_ble_eq_true rfl) hd1 dX11_back_40 rfl (ht.mono (fun r22 h23 p24 ht' => ?_))
        clear ht
        obtain ⟨rfl, ht⟩ := ht'
        show Ex G d mX11_back 43 [(0, .ref a0), (1, .int x1), (2, .ref q11)] [] h23 Q
        refine x_aload_n (pc2 := 44) 0 (n := 0) (x := a0) rfl dX11_back_43 rfl ?_
        obtain ⟨q26, e27, ht⟩ := ht
        refine y_getR (pc2 := 47) (κ := 11) (k := 12) fl_X11_80 (by decide) (by decide) ((k3.up p16).up p24) rfl e27 dX11_back_44 rfl ?_
        obtain ⟨k31, ht⟩ := ht
        refine x_callV (pc2 := 50) (As := []) (rest := []) (b := q26) mv_X6_wallCount ml_X11_298 k31 rfl rfl (Nat.le_of_ble_eq_true rfl) hd1 dX11_back_47 rfl (ht.mono (fun r28 h29 p30 ht' => ?_))
        clear ht
        obtain ⟨v32, rfl, ht⟩ := ht'
        show Ex G d mX11_back 50 [(0, .ref a0), (1, .int x1), (2, .ref q11)] [.int v32] h29 Q
        exact x_ret (ty := .int) rfl rfl dX11_back_50 ht
      · replace ht := ht.1 e10
        subst e10
        show Ex G d mX11_back 22 [(0, .ref a0), (1, .int x1), (2, va_rf none)] [] h Q
        refine x_iconst (pc2 := 23) (v := (-1)) (by decide) dX11_back_22 rfl ?_
        exact x_ret (ty := .int) rfl rfl dX11_back_23 ht
    · replace ht := ht.2 c2
      refine x_iconst (pc2 := 10) (v := (-1)) (by decide) dX11_back_9 rfl ?_
      exact x_ret (ty := .int) rfl rfl dX11_back_10 ht
theorem e_X11_back {G : GG} {d : Nat} {h : HP} {Q : Option Value → HP → Prop} {a0 : Nat} {x1 : Int32} (hd1 : 1 ≤ d) (ht : T_X11_back G d h Q a0 x1) : Cal G d mX11_back [.ref a0, .int x1] h Q := cal_of rfl (Nat.le_of_ble_eq_true rfl) (t_X11_back hd1 ht)
