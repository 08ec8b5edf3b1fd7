def T_X12_init (G : GG) (d : Nat) (h : HP) (Q : Option Value → HP → Prop) (a0 : Nat) : Prop :=
  ∀ q1 h2, q1 = hZ h → h2 = nw h 13 ((400 : Int32).toNatClampNeg) → Kd G h2 a0 12 ∧ ∀ q7 h8, q7 = hZ (sR h2 a0 0 (some q1)) → h8 = nw (sR h2 a0 0 (some q1)) 14 ((2 : Int32).toNatClampNeg) → ∀ q12 h13, q12 = hZ (sR h8 a0 2 (some q7)) → h13 = nw (sR h8 a0 2 (some q7)) 14 ((4800 : Int32).toNatClampNeg) → ∀ q17 h18, q17 = hZ (sR h13 a0 3 (some q12)) → h18 = nw (sR h13 a0 3 (some q12)) 14 ((13 : Int32).toNatClampNeg) → ∀ q22 h23, q22 = hZ (sR h18 a0 4 (some q17)) → h23 = nw (sR h18 a0 4 (some q17)) 14 ((720 : Int32).toNatClampNeg) → ∀ q27 h28, q27 = hZ (sR h23 a0 5 (some q22)) → h28 = nw (sR h23 a0 5 (some q22)) 14 ((12 : Int32).toNatClampNeg) → ∀ q32 h33, q32 = hZ (sR h28 a0 6 (some q27)) → h33 = nw (sR h28 a0 6 (some q27)) 14 ((12 : Int32).toNatClampNeg) → ∀ q37 h38, q37 = hZ (sR h33 a0 7 (some q32)) → h38 = nw (sR h33 a0 7 (some q32)) 14 ((1600 : Int32).toNatClampNeg) → ∀ q42 h43, q42 = hZ (sR h38 a0 11 (some q37)) → h43 = nw (sR h38 a0 11 (some q37)) 14 ((24 : Int32).toNatClampNeg) → ∀ q47 h48, q47 = hZ (sR h43 a0 12 (some q42)) → h48 = nw (sR h43 a0 12 (some q42)) 14 ((400 : Int32).toNatClampNeg) → ∀ q52 h53, q52 = hZ (sR h48 a0 20 (some q47)) → h53 = nw (sR h48 a0 20 (some q47)) 15 ((64 : Int32).toNatClampNeg) → ∀ q57 h58, q57 = hZ (sR h53 a0 26 (some q52)) → h58 = nw (sR h53 a0 26 (some q52)) 15 ((12 : Int32).toNatClampNeg) → ∀ q62 h63, q62 = hZ (sR h58 a0 28 (some q57)) → h63 = nw (sR h58 a0 28 (some q57)) 14 ((2440 : Int32).toNatClampNeg) → ∀ q67 h68, q67 = hZ (sR h63 a0 29 (some q62)) → h68 = nw (sR h63 a0 29 (some q62)) 14 ((2440 : Int32).toNatClampNeg) → ∀ q72 h73, q72 = hZ (sR h68 a0 30 (some q67)) → h73 = nw (sR h68 a0 30 (some q67)) 14 ((1600 : Int32).toNatClampNeg) → ∀ q77 h78, q77 = hZ (sR h73 a0 43 (some q72)) → h78 = nw (sR h73 a0 43 (some q72)) 14 ((1600 : Int32).toNatClampNeg) → ∀ q82 h83, q82 = hZ (sR h78 a0 44 (some q77)) → h83 = nw (sR h78 a0 44 (some q77)) 14 ((1600 : Int32).toNatClampNeg) → ∀ q87 h88, q87 = hZ (sR h83 a0 45 (some q82)) → h88 = nw (sR h83 a0 45 (some q82)) 16 ((1600 : Int32).toNatClampNeg) → ∀ q92 h93, q92 = hZ (sR h88 a0 46 (some q87)) → h93 = nw (sR h88 a0 46 (some q87)) 14 ((9760 : Int32).toNatClampNeg) → ∀ q97 h98, q97 = hZ (sR h93 a0 49 (some q92)) → h98 = nw (sR h93 a0 49 (some q92)) 16 ((4 : Int32).toNatClampNeg) → ∃ q102, hR (sR h98 a0 50 (some q97)) a0 29 = some q102 ∧ Kd G (sR h98 a0 50 (some q97)) q102 14 ∧ vp_in 0 (hN (sR h98 a0 50 (some q97)) q102) ∧ vp_in 1 (hN (sI (sR h98 a0 50 (some q97)) q102 0 20) q102) ∧ Ex G d mX12_init 192 [(0, .ref a0), (1, .int 0)] [] (sI (sI (sR h98 a0 50 (some q97)) q102 0 20) q102 1 20) Q
set_option maxRecDepth 20000 in
theorem t_X12_init {G : GG} {d : Nat} {h : HP} {Q : Option Value → HP → Prop} {a0 : Nat} (hd1 : 1 ≤ d) (ht : T_X12_init G d h Q a0) : Ex G d mX12_init 0 [(0, .ref a0)] [] h Q := by
  unfold T_X12_init at ht
  refine x_aload_n (pc2 := 1) 0 (n := 0) (x := a0) rfl dX12_init_0 rfl ?_
  refine x_objInit (pc2 := 4) ml_X12_1 hd1 (Nat.le_of_ble_eq_true rfl) dX12_init_1 rfl ?_
  refine x_aload_n (pc2 := 5) 0 (n := 0) (x := a0) rfl dX12_init_4 rfl ?_
  refine x_sipush (pc2 := 8) (v := 400) (by decide) dX12_init_5 rfl ?_
  refine y_newa (pc2 := 10) (κ := 13) (at0 := .byte) ac_byte rfl (by decide) (by decide) (by decide) (by decide) dX12_init_8 rfl (fun q1 h2 e3 e4 p5 => ?_)
  replace ht := ht q1 h2 e3 e4
  obtain ⟨k6, ht⟩ := ht
  refine x_putR (pc2 := 13) (v := (some q1)) (κ := 12) (k := 0) fl_X12_7 (by decide) (by decide) (Or.inr ⟨rfl, rfl⟩) (isRt_a _) k6 dX12_init_10 rfl ?_
  refine x_aload_n (pc2 := 14) 0 (n := 0) (x := a0) rfl dX12_init_13 rfl ?_
  refine x_iconst (pc2 := 15) (v := 2) (by decide) dX12_init_14 rfl ?_
  refine y_newa (pc2 := 17) (κ := 14) (at0 := .int) ac_int rfl (by decide) (by decide) (by decide) (by decide) dX12_init_15 rfl (fun q7 h8 e9 e10 p11 => ?_)
  replace ht := ht q7 h8 e9 e10
  refine x_putR (pc2 := 20) (v := (some q7)) (κ := 12) (k := 2) fl_X12_13 (by decide) (by decide) (Or.inr ⟨rfl, rfl⟩) (isRt_a _) (k6.sR.up p11) dX12_init_17 rfl ?_
  refine x_aload_n (pc2 := 21) 0 (n := 0) (x := a0) rfl dX12_init_20 rfl ?_
  refine x_sipush (pc2 := 24) (v := 4800) (by decide) dX12_init_21 rfl ?_
  refine y_newa (pc2 := 26) (κ := 14) (at0 := .int) ac_int rfl (by decide) (by decide) (by decide) (by decide) dX12_init_24 rfl (fun q12 h13 e14 e15 p16 => ?_)
  replace ht := ht q12 h13 e14 e15
  refine x_putR (pc2 := 29) (v := (some q12)) (κ := 12) (k := 3) fl_X12_17 (by decide) (by decide) (Or.inr ⟨rfl, rfl⟩) (isRt_a _) ((k6.sR.up p11).sR.up p16) dX12_init_26 rfl ?_
  refine x_aload_n (pc2 := 30) 0 (n := 0) (x := a0) rfl dX12_init_29 rfl ?_
  refine x_bipush (pc2 := 32) (v := 13) (by decide) dX12_init_30 rfl ?_
  refine y_newa (pc2 := 34) (κ := 14) (at0 := .int) ac_int rfl (by decide) (by decide) (by decide) (by decide) dX12_init_32 rfl (fun q17 h18 e19 e20 p21 => ?_)
  replace ht := ht q17 h18 e19 e20
  refine x_putR (pc2 := 37) (v := (some q17)) (κ := 12) (k := 4) fl_X12_20 (by decide) (by decide) (Or.inr ⟨rfl, rfl⟩) (isRt_a _) (((k6.sR.up p11).sR.up p16).sR.up p21) dX12_init_34 rfl ?_
  refine x_aload_n (pc2 := 38) 0 (n := 0) (x := a0) rfl dX12_init_37 rfl ?_
  refine x_sipush (pc2 := 41) (v := 720) (by decide) dX12_init_38 rfl ?_
  refine y_newa (pc2 := 43) (κ := 14) (at0 := .int) ac_int rfl (by decide) (by decide) (by decide) (by decide) dX12_init_41 rfl (fun q22 h23 e24 e25 p26 => ?_)
  replace ht := ht q22 h23 e24 e25
  refine x_putR (pc2 := 46) (v := (some q22)) (κ := 12) (k := 5) fl_X12_23 (by decide) (by decide) (Or.inr ⟨rfl, rfl⟩) (isRt_a _) ((((k6.sR.up p11).sR.up p16).sR.up p21).sR.up p26) dX12_init_43 rfl ?_
  refine x_aload_n (pc2 := 47) 0 (n := 0) (x := a0) rfl dX12_init_46 rfl ?_
  refine x_bipush (pc2 := 49) (v := 12) (by decide) dX12_init_47 rfl ?_
  refine y_newa (pc2 := 51) (κ := 14) (at0 := .int) ac_int rfl (by decide) (by decide) (by decide) (by decide) dX12_init_49 rfl (fun q27 h28 e29 e30 p31 => ?_)
  replace ht := ht q27 h28 e29 e30
  refine x_putR (pc2 := 54) (v := (some q27)) (κ := 12) (k := 6) fl_X12_26 (by decide) (by decide) (Or.inr ⟨rfl, rfl⟩) (isRt_a _) (((((k6.sR.up p11).sR.up p16).sR.up p21).sR.up p26).sR.up p31) dX12_init_51 rfl ?_
  refine x_aload_n (pc2 := 55) 0 (n := 0) (x := a0) rfl dX12_init_54 rfl ?_
  refine x_bipush (pc2 := 57) (v := 12) (by decide) dX12_init_55 rfl ?_
  refine y_newa (pc2 := 59) (κ := 14) (at0 := .int) ac_int rfl (by decide) (by decide) (by decide) (by decide) dX12_init_57 rfl (fun q32 h33 e34 e35 p36 => ?_)
  replace ht := ht q32 h33 e34 e35
  refine x_putR (pc2 := 62) (v := (some q32)) (κ := 12) (k := 7) fl_X12_29 (by decide) (by decide) (Or.inr ⟨rfl, rfl⟩) (isRt_a _) ((((((k6.sR.up p11).sR.up p16).sR.up p21).sR.up p26).sR.up p31).sR.up p36) dX12_init_59 rfl ?_
  refine x_aload_n (pc2 := 63) 0 (n := 0) (x := a0) rfl dX12_init_62 rfl ?_
  refine x_sipush (pc2 := 66) (v := 1600) (by decide) dX12_init_63 rfl ?_
  refine y_newa (pc2 := 68) (κ := 14) (at0 := .int) ac_int rfl (by decide) (by decide) (by decide) (by decide) dX12_init_66 rfl (fun q37 h38 e39 e40 p41 => ?_)
  replace ht := ht q37 h38 e39 e40
  refine x_putR (pc2 := 71) (v := (some q37)) (κ := 12) (k := 11) fl_X12_32 (by decide) (by decide) (Or.inr ⟨rfl, rfl⟩) (isRt_a _) (((((((k6.sR.up p11).sR.up p16).sR.up p21).sR.up p26).sR.up p31).sR.up p36).sR.up p41) dX12_init_68 rfl ?_
  refine x_aload_n (pc2 := 72) 0 (n := 0) (x := a0) rfl dX12_init_71 rfl ?_
  refine x_bipush (pc2 := 74) (v := 24) (by decide) dX12_init_72 rfl ?_
  refine y_newa (pc2 := 76) (κ := 14) (at0 := .int) ac_int rfl (by decide) (by decide) (by decide) (by decide) dX12_init_74 rfl (fun q42 h43 e44 e45 p46 => ?_)
  replace ht := ht q42 h43 e44 e45
  refine x_putR (pc2 := 79) (v := (some q42)) (κ := 12) (k := 12) fl_X12_35 (by decide) (by decide) (Or.inr ⟨rfl, rfl⟩) (isRt_a _) ((((((((k6.sR.up p11).sR.up p16).sR.up p21).sR.up p26).sR.up p31).sR.up p36).sR.up p41).sR.up p46) dX12_init_76 rfl ?_
  refine x_aload_n (pc2 := 80) 0 (n := 0) (x := a0) rfl dX12_init_79 rfl ?_
  refine x_sipush (pc2 := 83) (v := 400) (by decide) dX12_init_80 rfl ?_
  refine y_newa (pc2 := 85) (κ := 14) (at0 := .int) ac_int rfl (by decide) (by decide) (by decide) (by decide) dX12_init_83 rfl (fun q47 h48 e49 e50 p51 => ?_)
  replace ht := ht q47 h48 e49 e50
  refine x_putR (pc2 := 88) (v := (some q47)) (κ := 12) (k := 20) fl_X12_38 (by decide) (by decide) (Or.inr ⟨rfl, rfl⟩) (isRt_a _) (((((((((k6.sR.up p11).sR.up p16).sR.up p21).sR.up p26).sR.up p31).sR.up p36).sR.up p41).sR.up p46).sR.up p51) dX12_init_85 rfl ?_
  refine x_aload_n (pc2 := 89) 0 (n := 0) (x := a0) rfl dX12_init_88 rfl ?_
  refine x_bipush (pc2 := 91) (v := 64) (by decide) dX12_init_89 rfl ?_
  refine y_newa (pc2 := 93) (κ := 15) (at0 := .long) ac_long rfl (by decide) (by decide) (by decide) (by decide) dX12_init_91 rfl (fun q52 h53 e54 e55 p56 => ?_)
  replace ht := ht q52 h53 e54 e55
  refine x_putR (pc2 := 96) (v := (some q52)) (κ := 12) (k := 26) fl_X12_41 (by decide) (by decide) (Or.inr ⟨rfl, rfl⟩) (isRt_a _) ((((((((((k6.sR.up p11).sR.up p16).sR.up p21).sR.up p26).sR.up p31).sR.up p36).sR.up p41).sR.up p46).sR.up p51).sR.up p56) dX12_init_93 rfl ?_
  refine x_aload_n (pc2 := 97) 0 (n := 0) (x := a0) rfl dX12_init_96 rfl ?_
  refine x_bipush (pc2 := 99) (v := 12) (by decide) dX12_init_97 rfl ?_
  refine y_newa (pc2 := 101) (κ := 15) (at0 := .long) ac_long rfl (by decide) (by decide) (by decide) (by decide) dX12_init_99 rfl (fun q57 h58 e59 e60 p61 => ?_)
  replace ht := ht q57 h58 e59 e60
  refine x_putR (pc2 := 104) (v := (some q57)) (κ := 12) (k := 28) fl_X12_45 (by decide) (by decide) (Or.inr ⟨rfl, rfl⟩) (isRt_a _) (((((((((((k6.sR.up p11).sR.up p16).sR.up p21).sR.up p26).sR.up p31).sR.up p36).sR.up p41).sR.up p46).sR.up p51).sR.up p56).sR.up p61) dX12_init_101 rfl ?_
  refine x_aload_n (pc2 := 105) 0 (n := 0) (x := a0) rfl dX12_init_104 rfl ?_
  refine x_sipush (pc2 := 108) (v := 2440) (by decide) dX12_init_105 rfl ?_
  refine y_newa (pc2 := 110) (κ := 14) (at0 := .int) ac_int rfl (by decide) (by decide) (by decide) (by decide) dX12_init_108 rfl (fun q62 h63 e64 e65 p66 => ?_)
  replace ht := ht q62 h63 e64 e65
  refine x_putR (pc2 := 113) (v := (some q62)) (κ := 12) (k := 29) fl_X12_48 (by decide) (by decide) (Or.inr ⟨rfl, rfl⟩) (isRt_a _) ((((((((((((k6.sR.up p11).sR.up p16).sR.up p21).sR.up p26).sR.up p31).sR.up p36).sR.up p41).sR.up p46).sR.up p51).sR.up p56).sR.up p61).sR.up p66) dX12_init_110 rfl ?_
  refine x_aload_n (pc2 := 114) 0 (n := 0) (x := a0) rfl dX12_init_113 rfl ?_
  refine x_sipush (pc2 := 117) (v := 2440) (by decide) dX12_init_114 rfl ?_
  refine y_newa (pc2 := 119) (κ := 14) (at0 := .int) ac_int rfl (by decide) (by decide) (by decide) (by decide) dX12_init_117 rfl (fun q67 h68 e69 e70 p71 => ?_)
  replace ht := ht q67 h68 e69 e70
  refine x_putR (pc2 := 122) (v := (some q67)) (κ := 12) (k := 30) fl_X12_51 (by decide) (by decide) (Or.inr ⟨rfl, rfl⟩) (isRt_a _) (((((((((((((k6.sR.up p11).sR.up p16).sR.up p21).sR.up p26).sR.up p31).sR.up p36).sR.up p41).sR.up p46).sR.up p51).sR.up p56).sR.up p61).sR.up p66).sR.up p71) dX12_init_119 rfl ?_
  refine x_aload_n (pc2 := 123) 0 (n := 0) (x := a0) rfl dX12_init_122 rfl ?_
  refine x_sipush (pc2 := 126) (v := 1600) (by decide) dX12_init_123 rfl ?_
  refine y_newa (pc2 := 128) (κ := 14) (at0 := .int) ac_int rfl (by decide) (by decide) (by decide) (by decide) dX12_init_126 rfl (fun q72 h73 e74 e75 p76 => ?_)
  replace ht := ht q72 h73 e74 e75
  refine x_putR (pc2 := 131) (v := (some q72)) (κ := 12) (k := 43) fl_X12_54 (by decide) (by decide) (Or.inr ⟨rfl, rfl⟩) (isRt_a _) ((((((((((((((k6.sR.up p11).sR.up p16).sR.up p21).sR.up p26).sR.up p31).sR.up p36).sR.up p41).sR.up p46).sR.up p51).sR.up p56).sR.up p61).sR.up p66).sR.up p71).sR.up p76) dX12_init_128 rfl ?_
  refine x_aload_n (pc2 := 132) 0 (n := 0) (x := a0) rfl dX12_init_131 rfl ?_
  refine x_sipush (pc2 := 135) (v := 1600) (by decide) dX12_init_132 rfl ?_
  refine y_newa (pc2 := 137) (κ := 14) (at0 := .int) ac_int rfl (by decide) (by decide) (by decide) (by decide) dX12_init_135 rfl (fun q77 h78 e79 e80 p81 => ?_)
  replace ht := ht q77 h78 e79 e80
  refine x_putR (pc2 := 140) (v := (some q77)) (κ := 12) (k := 44) fl_X12_57 (by decide) (by decide) (Or.inr ⟨rfl, rfl⟩) (isRt_a _) (((((((((((((((k6.sR.up p11).sR.up p16).sR.up p21).sR.up p26).sR.up p31).sR.up p36).sR.up p41).sR.up p46).sR.up p51).sR.up p56).sR.up p61).sR.up p66).sR.up p71).sR.up p76).sR.up p81) dX12_init_137 rfl ?_
  refine x_aload_n (pc2 := 141) 0 (n := 0) (x := a0) rfl dX12_init_140 rfl ?_
  refine x_sipush (pc2 := 144) (v := 1600) (by decide) dX12_init_141 rfl ?_
  refine y_newa (pc2 := 146) (κ := 14) (at0 := .int) ac_int rfl (by decide) (by decide) (by decide) (by decide) dX12_init_144 rfl (fun q82 h83 e84 e85 p86 => ?_)
  replace ht := ht q82 h83 e84 e85
  refine x_putR (pc2 := 149) (v := (some q82)) (κ := 12) (k := 45) fl_X12_60 (by decide) (by decide) (Or.inr ⟨rfl, rfl⟩) (isRt_a _) ((((((((((((((((k6.sR.up p11).sR.up p16).sR.up p21).sR.up p26).sR.up p31).sR.up p36).sR.up p41).sR.up p46).sR.up p51).sR.up p56).sR.up p61).sR.up p66).sR.up p71).sR.up p76).sR.up p81).sR.up p86) dX12_init_146 rfl ?_
  refine x_aload_n (pc2 := 150) 0 (n := 0) (x := a0) rfl dX12_init_149 rfl ?_
  refine x_sipush (pc2 := 153) (v := 1600) (by decide) dX12_init_150 rfl ?_
  refine y_newa (pc2 := 155) (κ := 16) (at0 := .boolean) ac_boolean rfl (by decide) (by decide) (by decide) (by decide) dX12_init_153 rfl (fun q87 h88 e89 e90 p91 => ?_)
  replace ht := ht q87 h88 e89 e90
  refine x_putR (pc2 := 158) (v := (some q87)) (κ := 12) (k := 46) fl_X12_63 (by decide) (by decide) (Or.inr ⟨rfl, rfl⟩) (isRt_a _) (((((((((((((((((k6.sR.up p11).sR.up p16).sR.up p21).sR.up p26).sR.up p31).sR.up p36).sR.up p41).sR.up p46).sR.up p51).sR.up p56).sR.up p61).sR.up p66).sR.up p71).sR.up p76).sR.up p81).sR.up p86).sR.up p91) dX12_init_155 rfl ?_
  refine x_aload_n (pc2 := 159) 0 (n := 0) (x := a0) rfl dX12_init_158 rfl ?_
  refine x_sipush (pc2 := 162) (v := 9760) (by decide) dX12_init_159 rfl ?_
  refine y_newa (pc2 := 164) (κ := 14) (at0 := .int) ac_int rfl (by decide) (by decide) (by decide) (by decide) dX12_init_162 rfl (fun q92 h93 e94 e95 p96 => ?_)
  replace ht := ht q92 h93 e94 e95
  refine x_putR (pc2 := 167) (v := (some q92)) (κ := 12) (k := 49) fl_X12_67 (by decide) (by decide) (Or.inr ⟨rfl, rfl⟩) (isRt_a _) ((((((((((((((((((k6.sR.up p11).sR.up p16).sR.up p21).sR.up p26).sR.up p31).sR.up p36).sR.up p41).sR.up p46).sR.up p51).sR.up p56).sR.up p61).sR.up p66).sR.up p71).sR.up p76).sR.up p81).sR.up p86).sR.up p91).sR.up p96) dX12_init_164 rfl ?_
  refine x_aload_n (pc2 := 168) 0 (n := 0) (x := a0) rfl dX12_init_167 rfl ?_
  refine x_iconst (pc2 := 169) (v := 4) (by decide) dX12_init_168 rfl ?_
  refine y_newa (pc2 := 171) (κ := 16) (at0 := .boolean) ac_boolean rfl (by decide) (by decide) (by decide) (by decide) dX12_init_169 rfl (fun q97 h98 e99 e100 p101 => ?_)
  replace ht := ht q97 h98 e99 e100
  refine x_putR (pc2 := 174) (v := (some q97)) (κ := 12) (k := 50) fl_X12_70 (by decide) (by decide) (Or.inr ⟨rfl, rfl⟩) (isRt_a _) (((((((((((((((((((k6.sR.up p11).sR.up p16).sR.up p21).sR.up p26).sR.up p31).sR.up p36).sR.up p41).sR.up p46).sR.up p51).sR.up p56).sR.up p61).sR.up p66).sR.up p71).sR.up p76).sR.up p81).sR.up p86).sR.up p91).sR.up p96).sR.up p101) dX12_init_171 rfl ?_
  refine x_aload_n (pc2 := 175) 0 (n := 0) (x := a0) rfl dX12_init_174 rfl ?_
  obtain ⟨q102, e103, ht⟩ := ht
  refine y_getR (pc2 := 178) (κ := 12) (k := 29) fl_X12_48 (by decide) (by decide) (((((((((((((((((((k6.sR.up p11).sR.up p16).sR.up p21).sR.up p26).sR.up p31).sR.up p36).sR.up p41).sR.up p46).sR.up p51).sR.up p56).sR.up p61).sR.up p66).sR.up p71).sR.up p76).sR.up p81).sR.up p86).sR.up p91).sR.up p96).sR.up p101).sR rfl e103 dX12_init_175 rfl ?_
  refine x_iconst (pc2 := 179) (v := 0) (by decide) dX12_init_178 rfl ?_
  refine x_bipush (pc2 := 181) (v := 20) (by decide) dX12_init_179 rfl ?_
  obtain ⟨k104, ht⟩ := ht
  obtain ⟨b105, ht⟩ := ht
  refine z_iast (pc2 := 182) (k := 0) (by decide) k104 b105 dX12_init_181 rfl ?_
  refine x_aload_n (pc2 := 183) 0 (n := 0) (x := a0) rfl dX12_init_182 rfl ?_
  refine y_getR (pc2 := 186) (κ := 12) (k := 29) fl_X12_48 (by decide) (by decide) (((((((((((((((((((k6.sR.up p11).sR.up p16).sR.up p21).sR.up p26).sR.up p31).sR.up p36).sR.up p41).sR.up p46).sR.up p51).sR.up p56).sR.up p61).sR.up p66).sR.up p71).sR.up p76).sR.up p81).sR.up p86).sR.up p91).sR.up p96).sR.up p101).sR.sI rfl ((hR_sI _ _ _ _ _ _).trans e103) dX12_init_183 rfl ?_
  refine x_iconst (pc2 := 187) (v := 1) (by decide) dX12_init_186 rfl ?_
  refine x_bipush (pc2 := 189) (v := 20) (by decide) dX12_init_187 rfl ?_
  obtain ⟨b106, ht⟩ := ht
  refine z_iast (pc2 := 190) (k := 1) (by decide) k104.sI b106 dX12_init_189 rfl ?_
  refine x_iconst (pc2 := 191) (v := 0) (by decide) dX12_init_190 rfl ?_
  refine x_istore_n (pc2 := 192) [1, 0] (n := 1) (x := 0) (lv2 := [(0, .ref a0), (1, .int 0)]) (by decide) rfl dX12_init_191 rfl ?_
  exact ht
theorem e_X12_init {G : GG} {d : Nat} {h : HP} {Q : Option Value → HP → Prop} {a0 : Nat} (hd1 : 1 ≤ d) (ht : T_X12_init G d h Q a0) : Cal G d mX12_init [.ref a0] h Q := cal_of rfl (Nat.le_of_ble_eq_true rfl) (t_X12_init hd1 ht)
def T_X12_init_192 (G : GG) (d : Nat) (h : HP) (Q : Option Value → HP → Prop) (a0 : Nat) (x1 : Int32) : Prop :=
  ((1600 ≤ x1 → Q none h) ∧ (¬ 1600 ≤ x1 → Kd G h a0 12 ∧ ∃ q3, hR h a0 29 = some q3 ∧ Kd G h q3 14 ∧ vp_in (8 + x1) (hN h q3) ∧ Ex G d mX12_init 192 [(0, .ref a0), (1, .int (x1 + 1))] [] (sI h q3 (8 + x1).toNatClampNeg 1) Q))
set_option maxRecDepth 20000 in
theorem t_X12_init_192 {G : GG} {d : Nat} {h : HP} {Q : Option Value → HP → Prop} {a0 : Nat} {x1 : Int32} (ht : T_X12_init_192 G d h Q a0 x1) : Ex G d mX12_init 192 [(0, .ref a0), (1, .int x1)] [] h Q := by
  unfold T_X12_init_192 at ht
  refine x_iload_n (pc2 := 193) 1 (n := 1) (x := x1) rfl dX12_init_192 rfl ?_
  refine x_sipush (pc2 := 196) (v := 1600) (by decide) dX12_init_193 rfl ?_
  refine x_icmp_ge (pc2 := 199) 215 dX12_init_196 (by decide) rfl (fun c1 => ?_) (fun c1 => ?_)
  · replace ht := ht.1 c1
    exact x_retV rfl dX12_init_215 ht
  · replace ht := ht.2 c1
    refine x_aload_n (pc2 := 200) 0 (n := 0) (x := a0) rfl dX12_init_199 rfl ?_
    obtain ⟨k2, ht⟩ := ht
    obtain ⟨q3, e4, ht⟩ := ht
    refine y_getR (pc2 := 203) (κ := 12) (k := 29) fl_X12_48 (by decide) (by decide) k2 rfl e4 dX12_init_200 rfl ?_
    refine x_bipush (pc2 := 205) (v := 8) (by decide) dX12_init_203 rfl ?_
    refine x_iload_n (pc2 := 206) 1 (n := 1) (x := x1) rfl dX12_init_205 rfl ?_
    refine x_iadd (pc2 := 207) dX12_init_206 rfl ?_
    refine x_iconst (pc2 := 208) (v := 1) (by decide) dX12_init_207 rfl ?_
    obtain ⟨k5, ht⟩ := ht
    obtain ⟨b6, ht⟩ := ht
    refine x_iast (pc2 := 209) k5 b6 dX12_init_208 rfl ?_
    refine x_iinc (pc2 := 212) 1 [1, 0] (i := 1) (x := x1) (v := (x1 + 1)) (lv2 := [(0, .ref a0), (1, .int (x1 + 1))]) rfl (iinc_eq (by decide) _) (by decide) rfl dX12_init_209 rfl ?_
    refine x_goto 192 dX12_init_212 (by decide) ?_
    exact ht
def T_X12_in (G : GG) (d : Nat) (h : HP) (Q : Option Value → HP → Prop) (y0 : Int64) (y2 : Int64) (y4 : Int64) : Prop :=
  (((lg_cmp y0 y2) < 0 → Q (some (.int 0)) h) ∧ (¬ (lg_cmp y0 y2) < 0 → ((0 < (lg_cmp y0 y4) → Q (some (.int 0)) h) ∧ (¬ 0 < (lg_cmp y0 y4) → Q (some (.int 1)) h))))
set_option maxRecDepth 20000 in
theorem t_X12_in {G : GG} {d : Nat} {h : HP} {Q : Option Value → HP → Prop} {y0 : Int64} {y2 : Int64} {y4 : Int64} (ht : T_X12_in G d h Q y0 y2 y4) : Ex G d mX12_in 0 [(0, .long y0), (2, .long y2), (4, .long y4)] [] h Q := by
  unfold T_X12_in at ht
  refine x_lload_n (pc2 := 1) 0 (n := 0) (x := y0) rfl dX12_in_0 rfl ?_
  refine x_lload_n (pc2 := 2) 1 (n := 2) (x := y2) rfl dX12_in_1 rfl ?_
  refine x_lcmp (pc2 := 3) dX12_in_2 rfl ?_
  refine x_if_lt (pc2 := 6) 17 dX12_in_3 (by decide) rfl (fun c1 => ?_) (fun c1 => ?_)
  · replace ht := ht.1 c1
    refine x_iconst (pc2 := 18) (v := 0) (by decide) dX12_in_17 rfl ?_
    exact x_retZ rfl (Or.inl rfl) dX12_in_18 ht
  · replace ht := ht.2 c1
    refine x_lload_n (pc2 := 7) 0 (n := 0) (x := y0) rfl dX12_in_6 rfl ?_
    refine x_lload (pc2 := 9) 2 (n := 4) (x := y4) rfl dX12_in_7 rfl ?_
    refine x_lcmp (pc2 := 10) dX12_in_9 rfl ?_
    refine x_if_gt (pc2 := 13) 17 dX12_in_10 (by decide) rfl (fun c2 => ?_) (fun c2 => ?_)
    · replace ht := ht.1 c2
      refine x_iconst (pc2 := 18) (v := 0) (by decide) dX12_in_17 rfl ?_
      exact x_retZ rfl (Or.inl rfl) dX12_in_18 ht
    · replace ht := ht.2 c2
      refine x_iconst (pc2 := 14) (v := 1) (by decide) dX12_in_13 rfl ?_
      refine x_goto 18 dX12_in_14 (by decide) ?_
      exact x_retZ rfl (Or.inr rfl) dX12_in_18 ht
theorem e_X12_in {G : GG} {d : Nat} {h : HP} {Q : Option Value → HP → Prop} {y0 : Int64} {y2 : Int64} {y4 : Int64} (ht : T_X12_in G d h Q y0 y2 y4) : Cal G d mX12_in [.long y0, .long y2, .long y4] h Q := cal_of rfl (Nat.le_of_ble_eq_true rfl) (t_X12_in ht)
def T_X12_bounded (G : GG) (d : Nat) (h : HP) (Q : Option Value → HP → Prop) (y0 : Int64) (y2 : Int64) (y4 : Int64) : Prop :=
  ((0 ≤ (lg_cmp y0 y2) → (((lg_cmp y0 y4) ≤ 0 → Q (some (.long y0)) h) ∧ (¬ (lg_cmp y0 y4) ≤ 0 → Q (some (.long y4)) h))) ∧ (¬ 0 ≤ (lg_cmp y0 y2) → Q (some (.long y2)) h))
set_option maxRecDepth 20000 in
theorem t_X12_bounded {G : GG} {d : Nat} {h : HP} {Q : Option Value → HP → Prop} {y0 : Int64} {y2 : Int64} {y4 : Int64} (ht : T_X12_bounded G d h Q y0 y2 y4) : Ex G d mX12_bounded 0 [(0, .long y0), (2, .long y2), (4, .long y4)] [] h Q := by
  unfold T_X12_bounded at ht
  refine x_lload_n (pc2 := 1) 0 (n := 0) (x := y0) rfl dX12_bounded_0 rfl ?_
  refine x_lload_n (pc2 := 2) 1 (n := 2) (x := y2) rfl dX12_bounded_1 rfl ?_
  refine x_lcmp (pc2 := 3) dX12_bounded_2 rfl ?_
  refine x_if_ge (pc2 := 6) 10 dX12_bounded_3 (by decide) rfl (fun c1 => ?_) (fun c1 => ?_)
  · replace ht := ht.1 c1
    refine x_lload_n (pc2 := 11) 0 (n := 0) (x := y0) rfl dX12_bounded_10 rfl ?_
    refine x_lload (pc2 := 13) 2 (n := 4) (x := y4) rfl dX12_bounded_11 rfl ?_
    refine x_lcmp (pc2 := 14) dX12_bounded_13 rfl ?_
    refine x_if_le (pc2 := 17) 22 dX12_bounded_14 (by decide) rfl (fun c2 => ?_) (fun c2 => ?_)
    · replace ht := ht.1 c2
      refine x_lload_n (pc2 := 23) 0 (n := 0) (x := y0) rfl dX12_bounded_22 rfl ?_
      exact x_retL rfl dX12_bounded_23 ht
    · replace ht := ht.2 c2
      refine x_lload (pc2 := 19) 2 (n := 4) (x := y4) rfl dX12_bounded_17 rfl ?_
      refine x_goto 23 dX12_bounded_19 (by decide) ?_
      exact x_retL rfl dX12_bounded_23 ht
  · replace ht := ht.2 c1
    refine x_lload_n (pc2 := 7) 1 (n := 2) (x := y2) rfl dX12_bounded_6 rfl ?_
    refine x_goto 23 dX12_bounded_7 (by decide) ?_
    exact x_retL rfl dX12_bounded_23 ht
theorem e_X12_bounded {G : GG} {d : Nat} {h : HP} {Q : Option Value → HP → Prop} {y0 : Int64} {y2 : Int64} {y4 : Int64} (ht : T_X12_bounded G d h Q y0 y2 y4) : Cal G d mX12_bounded [.long y0, .long y2, .long y4] h Q := cal_of rfl (Nat.le_of_ble_eq_true rfl) (t_X12_bounded ht)
def T_X12_four (G : GG) (d : Nat) (h : HP) (Q : Option Value → HP → Prop) (a0 : Nat) (x1 : Int32) : Prop :=
  Ex G d mX12_four 3 [(0, .ref a0), (1, .int x1), (2, .int 24)] [] h Q
set_option maxRecDepth 20000 in
theorem t_X12_four {G : GG} {d : Nat} {h : HP} {Q : Option Value → HP → Prop} {a0 : Nat} {x1 : Int32} (ht : T_X12_four G d h Q a0 x1) : Ex G d mX12_four 0 [(0, .ref a0), (1, .int x1)] [] h Q := by
  unfold T_X12_four at ht
  refine x_bipush (pc2 := 2) (v := 24) (by decide) dX12_four_0 rfl ?_
  refine x_istore_n (pc2 := 3) [1, 2, 0] (n := 2) (x := 24) (lv2 := [(0, .ref a0), (1, .int x1), (2, .int 24)]) (by decide) rfl dX12_four_2 rfl ?_
  exact ht
theorem e_X12_four {G : GG} {d : Nat} {h : HP} {Q : Option Value → HP → Prop} {a0 : Nat} {x1 : Int32} (ht : T_X12_four G d h Q a0 x1) : Cal G d mX12_four [.ref a0, .int x1] h Q := cal_of rfl (Nat.le_of_ble_eq_true rfl) (t_X12_four ht)
def T_X12_four_3 (G : GG) (d : Nat) (h : HP) (Q : Option Value → HP → Prop) (a0 : Nat) (x1 : Int32) (x2 : Int32) : Prop :=
  ((x2 < 0 → Q none h) ∧ (¬ x2 < 0 → Kd G h a0 12 ∧ ∃ q3, hR h a0 0 = some q3 ∧ Kd G h q3 13 ∧ vp_in (hI h a0 1) (hN h q3) ∧ ∀ h7, h7 = (sI (sI h q3 (hI h a0 1).toNatClampNeg ((x1 >>> (x2 &&& 31)).toInt8.toInt32).toInt8.toInt32) a0 1 ((hI (sI h q3 (hI h a0 1).toNatClampNeg ((x1 >>> (x2 &&& 31)).toInt8.toInt32).toInt8.toInt32) a0 1) + 1)) → Ex G d mX12_four 3 [(0, .ref a0), (1, .int x1), (2, .int (x2 + (-8)))] [] h7 Q))
set_option maxRecDepth 20000 in
theorem t_X12_four_3 {G : GG} {d : Nat} {h : HP} {Q : Option Value → HP → Prop} {a0 : Nat} {x1 : Int32} {x2 : Int32} (ht : T_X12_four_3 G d h Q a0 x1 x2) : Ex G d mX12_four 3 [(0, .ref a0), (1, .int x1), (2, .int x2)] [] h Q := by
  unfold T_X12_four_3 at ht
  refine x_iload_n (pc2 := 4) 2 (n := 2) (x := x2) rfl dX12_four_3 rfl ?_
  refine x_if_lt (pc2 := 7) 36 dX12_four_4 (by decide) rfl (fun c1 => ?_) (fun c1 => ?_)
  · replace ht := ht.1 c1
    exact x_retV rfl dX12_four_36 ht
  · replace ht := ht.2 c1
    refine x_aload_n (pc2 := 8) 0 (n := 0) (x := a0) rfl dX12_four_7 rfl ?_
    obtain ⟨k2, ht⟩ := ht
    obtain ⟨q3, e4, ht⟩ := ht
    refine y_getR (pc2 := 11) (κ := 12) (k := 0) fl_X12_7 (by decide) (by decide) k2 rfl e4 dX12_four_8 rfl ?_
    refine x_aload_n (pc2 := 12) 0 (n := 0) (x := a0) rfl dX12_four_11 rfl ?_
    refine y_getI (pc2 := 15) (κ := 12) (k := 1) fl_X12_73 (by decide) (by decide) k2 rfl dX12_four_12 rfl ?_
    refine x_iload_n (pc2 := 16) 1 (n := 1) (x := x1) rfl dX12_four_15 rfl ?_
    refine x_iload_n (pc2 := 17) 2 (n := 2) (x := x2) rfl dX12_four_16 rfl ?_
    refine x_ishr (pc2 := 18) dX12_four_17 rfl ?_
    refine x_i2b (pc2 := 19) dX12_four_18 rfl ?_
    obtain ⟨k5, ht⟩ := ht
    obtain ⟨b6, ht⟩ := ht
    refine x_bast (pc2 := 20) k5 b6 dX12_four_19 rfl ?_
    refine x_aload_n (pc2 := 21) 0 (n := 0) (x := a0) rfl dX12_four_20 rfl ?_
    refine x_dup (pc2 := 22) rfl dX12_four_21 rfl ?_
    refine y_getI (pc2 := 25) (κ := 12) (k := 1) fl_X12_73 (by decide) (by decide) k2.sI rfl dX12_four_22 rfl ?_
    refine x_iconst (pc2 := 26) (v := 1) (by decide) dX12_four_25 rfl ?_
    refine x_iadd (pc2 := 27) dX12_four_26 rfl ?_
    refine x_putI (pc2 := 30) (κ := 12) (k := 1) fl_X12_73 (by decide) (by decide) (Or.inl rfl) rfl k2.sI dX12_four_27 rfl ?_
    refine nm_I (fun h7 e8 p9 => ?_)
    replace ht := ht h7 e8
    refine x_iinc (pc2 := 33) 2 [1, 2, 0] (i := 2) (x := x2) (v := (x2 + (-8))) (lv2 := [(0, .ref a0), (1, .int x1), (2, .int (x2 + (-8)))]) rfl (iinc_eq (by decide) _) (by decide) rfl dX12_four_30 rfl ?_
    refine x_goto 3 dX12_four_33 (by decide) ?_
    exact ht
def T_X12_feed (G : GG) (d : Nat) (h : HP) (Q : Option Value → HP → Prop) (a0 : Nat) (x1 : Int32) (x2 : Int32) (x3 : Int32) (x4 : Int32) (x5 : Int32) : Prop :=
  Kd G h a0 12 ∧ ((((hI h a0 1) + 20) ≤ 400 → Cal G (d - 1) mX12_four [.ref a0, .int x1] h (fun r3 h4 => r3 = none ∧ Cal G (d - 1) mX12_four [.ref a0, .int x2] h4 (fun r6 h7 => r6 = none ∧ Cal G (d - 1) mX12_four [.ref a0, .int x3] h7 (fun r9 h10 => r9 = none ∧ Cal G (d - 1) mX12_four [.ref a0, .int x4] h10 (fun r12 h13 => r12 = none ∧ Cal G (d - 1) mX12_four [.ref a0, .int x5] h13 (fun r15 h16 => r15 = none ∧ Q (some (.int (hI h16 a0 1))) h16)))))) ∧ (¬ ((hI h a0 1) + 20) ≤ 400 → Q (some (.int (-1))) h))
set_option maxRecDepth 20000 in
theorem t_X12_feed {G : GG} {d : Nat} {h : HP} {Q : Option Value → HP → Prop} {a0 : Nat} {x1 : Int32} {x2 : Int32} {x3 : Int32} {x4 : Int32} {x5 : Int32} (hd1 : 1 ≤ d) (ht : T_X12_feed G d h Q a0 x1 x2 x3 x4 x5) : Ex G d mX12_feed 0 [(0, .ref a0), (1, .int x1), (2, .int x2), (3, .int x3), (4, .int x4), (5, .int x5)] [] h Q := by
  unfold T_X12_feed at ht
  refine x_aload_n (pc2 := 1) 0 (n := 0) (x := a0) rfl dX12_feed_0 rfl ?_
  obtain ⟨k1, ht⟩ := ht
  refine y_getI (pc2 := 4) (κ := 12) (k := 1) fl_X12_73 (by decide) (by decide) k1 rfl dX12_feed_1 rfl ?_
  refine x_bipush (pc2 := 6) (v := 20) (by decide) dX12_feed_4 rfl ?_
  refine x_iadd (pc2 := 7) dX12_feed_6 rfl ?_
  refine x_sipush (pc2 := 10) (v := 400) (by decide) dX12_feed_7 rfl ?_
  refine x_icmp_le (pc2 := 13) 15 dX12_feed_10 (by decide) rfl (fun c2 => ?_) (fun c2 => ?_)
  · replace ht := ht.1 c2
    refine x_aload_n (pc2 := 16) 0 (n := 0) (x := a0) rfl dX12_feed_15 rfl ?_
    refine x_iload_n (pc2 := 17) 1 (n := 1) (x := x1) rfl dX12_feed_16 rfl ?_
    refine x_callV (pc2 := 20) (As := [.int x1]) (rest := []) (b := a0) mv_X12_four ml_X12_77 k1 rfl rfl (Nat.le_of_ble_eq_true rfl) hd1 dX12_feed_17 rfl (ht.mono (fun r3 h4 p5 ht' => ?_))
    clear ht
    obtain ⟨rfl, ht⟩ := ht'
    show Ex G d mX12_feed 20 [(0, .ref a0), (1, .int x1), (2, .int x2), (3, .int x3), (4, .int x4), (5, .int x5)] [] h4 Q
    refine x_aload_n (pc2 := 21) 0 (n := 0) (x := a0) rfl dX12_feed_20 rfl ?_
    refine x_iload_n (pc2 := 22) 2 (n := 2) (x := x2) rfl dX12_feed_21 rfl ?_
    refine x_callV (pc2 := 25) (As := [.int x2]) (rest := []) (b := a0) mv_X12_four ml_X12_77 (k1.up p5) rfl rfl (Nat.le_of_ble_eq_true rfl) hd1 dX12_feed_22 rfl (ht.mono (fun r6 h7 p8 ht' => ?_))
    clear ht
    obtain ⟨rfl, ht⟩ := ht'
    show Ex G d mX12_feed 25 [(0, .ref a0), (1, .int x1), (2, .int x2), (3, .int x3), (4, .int x4), (5, .int x5)] [] h7 Q
    refine x_aload_n (pc2 := 26) 0 (n := 0) (x := a0) rfl dX12_feed_25 rfl ?_
    refine x_iload_n (pc2 := 27) 3 (n := 3) (x := x3) rfl dX12_feed_26 rfl ?_
    refine x_callV (pc2 := 30) (As := [.int x3]) (rest := []) (b := a0) mv_X12_four ml_X12_77 ((k1.up p5).up p8) rfl rfl (Nat.le_of_ble_eq_true rfl) hd1 dX12_feed_27 rfl (ht.mono (fun r9 h10 p11 ht' => ?_))
    clear ht
    obtain ⟨rfl, ht⟩ := ht'
    show Ex G d mX12_feed 30 [(0, .ref a0), (1, .int x1), (2, .int x2), (3, .int x3), (4, .int x4), (5, .int x5)] [] h10 Q
    refine x_aload_n (pc2 := 31) 0 (n := 0) (x := a0) rfl dX12_feed_30 rfl ?_
    refine x_iload (pc2 := 33) 4 (n := 4) (x := x4) rfl dX12_feed_31 rfl ?_
    refine x_callV (pc2 := 36) (As := [.int x4]) (rest := []) (b := a0) mv_X12_four ml_X12_77 (((k1.up p5).up p8).up p11) rfl rfl (Nat.le_of_ble_eq_true rfl) hd1 dX12_feed_33 rfl (ht.mono (fun r12 h13 p14 ht' => ?_))
    clear ht
    obtain ⟨rfl, ht⟩ := ht'
    show Ex G d mX12_feed 36 [(0, .ref a0), (1, .int x1), (2, .int x2), (3, .int x3), (4, .int x4), (5, .int x5)] [] h13 Q
    refine x_aload_n (pc2 := 37) 0 (n := 0) (x := a0) rfl dX12_feed_36 rfl ?_
    refine x_iload (pc2 := 39) 5 (n := 5) (x := x5) rfl dX12_feed_37 rfl ?_
    refine x_callV (pc2 := 42) (As := [.int x5]) (rest := []) (b := a0) mv_X12_four ml_X12_77 ((((k1.up p5).up p8).up p11).up p14) rfl rfl (Nat.le_of_ble_eq_true rfl) hd1 dX12_feed_39 rfl (ht.mono (fun r15 h16 p17 ht' => ?_))
    clear ht
    obtain ⟨rfl, ht⟩ := ht'
    show Ex G d mX12_feed 42 [(0, .ref a0), (1, .int x1), (2, .int x2), (3, .int x3), (4, .int x4), (5, .int x5)] [] h16 Q
    refine x_aload_n (pc2 := 43) 0 (n := 0) (x := a0) rfl dX12_feed_42 rfl ?_
    refine y_getI (pc2 := 46) (κ := 12) (k := 1) fl_X12_73 (by decide) (by decide) (((((k1.up p5).up p8).up p11).up p14).up p17) rfl dX12_feed_43 rfl ?_
    exact x_ret (ty := .int) rfl rfl dX12_feed_46 ht
  · replace ht := ht.2 c2
    refine x_iconst (pc2 := 14) (v := (-1)) (by decide) dX12_feed_13 rfl ?_
    exact x_ret (ty := .int) rfl rfl dX12_feed_14 ht
theorem e_X12_feed {G : GG} {d : Nat} {h : HP} {Q : Option Value → HP → Prop} {a0 : Nat} {x1 : Int32} {x2 : Int32} {x3 : Int32} {x4 : Int32} {x5 : Int32} (hd1 : 1 ≤ d) (ht : T_X12_feed G d h Q a0 x1 x2 x3 x4 x5) : Cal G d mX12_feed [.ref a0, .int x1, .int x2, .int x3, .int x4, .int x5] h Q := cal_of rfl (Nat.le_of_ble_eq_true rfl) (t_X12_feed hd1 ht)
def T_X12_end (G : GG) (d : Nat) (h : HP) (Q : Option Value → HP → Prop) (a0 : Nat) (x1 : Int32) : Prop :=
  ((x1 < 0 → Q (some (.int (-1))) h) ∧ (¬ x1 < 0 → Kd G h a0 12 ∧ ((x1 ≤ (hI h a0 1) → Q (some (.int x1)) (sI h a0 1 x1)) ∧ (¬ x1 ≤ (hI h a0 1) → Q (some (.int (-1))) h))))
set_option maxRecDepth 20000 in
theorem t_X12_end {G : GG} {d : Nat} {h : HP} {Q : Option Value → HP → Prop} {a0 : Nat} {x1 : Int32} (ht : T_X12_end G d h Q a0 x1) : Ex G d mX12_end 0 [(0, .ref a0), (1, .int x1)] [] h Q := by
  unfold T_X12_end at ht
  refine x_iload_n (pc2 := 1) 1 (n := 1) (x := x1) rfl dX12_end_0 rfl ?_
  refine x_if_lt (pc2 := 4) 12 dX12_end_1 (by decide) rfl (fun c1 => ?_) (fun c1 => ?_)
  · replace ht := ht.1 c1
    refine x_iconst (pc2 := 13) (v := (-1)) (by decide) dX12_end_12 rfl ?_
    exact x_ret (ty := .int) rfl rfl dX12_end_13 ht
  · replace ht := ht.2 c1
    refine x_iload_n (pc2 := 5) 1 (n := 1) (x := x1) rfl dX12_end_4 rfl ?_
    refine x_aload_n (pc2 := 6) 0 (n := 0) (x := a0) rfl dX12_end_5 rfl ?_
    obtain ⟨k2, ht⟩ := ht
    refine y_getI (pc2 := 9) (κ := 12) (k := 1) fl_X12_73 (by decide) (by decide) k2 rfl dX12_end_6 rfl ?_
    refine x_icmp_le (pc2 := 12) 14 dX12_end_9 (by decide) rfl (fun c3 => ?_) (fun c3 => ?_)
    · replace ht := ht.1 c3
      refine x_aload_n (pc2 := 15) 0 (n := 0) (x := a0) rfl dX12_end_14 rfl ?_
      refine x_iload_n (pc2 := 16) 1 (n := 1) (x := x1) rfl dX12_end_15 rfl ?_
      refine x_putI (pc2 := 19) (κ := 12) (k := 1) fl_X12_73 (by decide) (by decide) (Or.inl rfl) rfl k2 dX12_end_16 rfl ?_
      refine x_iload_n (pc2 := 20) 1 (n := 1) (x := x1) rfl dX12_end_19 rfl ?_
      exact x_ret (ty := .int) rfl rfl dX12_end_20 ht
    · replace ht := ht.2 c3
      refine x_iconst (pc2 := 13) (v := (-1)) (by decide) dX12_end_12 rfl ?_
      exact x_ret (ty := .int) rfl rfl dX12_end_13 ht
theorem e_X12_end {G : GG} {d : Nat} {h : HP} {Q : Option Value → HP → Prop} {a0 : Nat} {x1 : Int32} (ht : T_X12_end G d h Q a0 x1) : Cal G d mX12_end [.ref a0, .int x1] h Q := cal_of rfl (Nat.le_of_ble_eq_true rfl) (t_X12_end ht)
def T_X12_fails (G : GG) (d : Nat) (h : HP) (Q : Option Value → HP → Prop) (a0 : Nat) (x1 : Int32) (x2 : Int32) : Prop :=
  Kd G h a0 12 ∧ ((¬ (hI h a0 14) = 0 → Q (some (.int 0)) h) ∧ ((hI h a0 14) = 0 → Q (some (.int 0)) (sI h a0 14 ((1 + (8 * x2)) + x1))))
set_option maxRecDepth 20000 in
theorem t_X12_fails {G : GG} {d : Nat} {h : HP} {Q : Option Value → HP → Prop} {a0 : Nat} {x1 : Int32} {x2 : Int32} (ht : T_X12_fails G d h Q a0 x1 x2) : Ex G d mX12_fails 0 [(0, .ref a0), (1, .int x1), (2, .int x2)] [] h Q := by
  unfold T_X12_fails at ht
  refine x_aload_n (pc2 := 1) 0 (n := 0) (x := a0) rfl dX12_fails_0 rfl ?_
  obtain ⟨k1, ht⟩ := ht
  refine y_getI (pc2 := 4) (κ := 12) (k := 14) fl_X12_81 (by decide) (by decide) k1 rfl dX12_fails_1 rfl ?_
  refine y_if_ne (pc2 := 7) 19 dX12_fails_4 (by decide) rfl (fun c2 => ?_) (fun c2 => ?_)
  · replace ht := ht.1 c2
    refine x_iconst (pc2 := 20) (v := 0) (by decide) dX12_fails_19 rfl ?_
    exact x_retZ rfl (Or.inl rfl) dX12_fails_20 ht
  · replace ht := ht.2 c2
    refine x_aload_n (pc2 := 8) 0 (n := 0) (x := a0) rfl dX12_fails_7 rfl ?_
    refine x_iconst (pc2 := 9) (v := 1) (by decide) dX12_fails_8 rfl ?_
    refine x_bipush (pc2 := 11) (v := 8) (by decide) dX12_fails_9 rfl ?_
    refine x_iload_n (pc2 := 12) 2 (n := 2) (x := x2) rfl dX12_fails_11 rfl ?_
    refine x_imul (pc2 := 13) dX12_fails_12 rfl ?_
    refine x_iadd (pc2 := 14) dX12_fails_13 rfl ?_
    refine x_iload_n (pc2 := 15) 1 (n := 1) (x := x1) rfl dX12_fails_14 rfl ?_
    refine x_iadd (pc2 := 16) dX12_fails_15 rfl ?_
    refine x_putI (pc2 := 19) (κ := 12) (k := 14) fl_X12_81 (by decide) (by decide) (Or.inl rfl) rfl k1 dX12_fails_16 rfl ?_
    refine x_iconst (pc2 := 20) (v := 0) (by decide) dX12_fails_19 rfl ?_
    exact x_retZ rfl (Or.inl rfl) dX12_fails_20 ht
theorem e_X12_fails {G : GG} {d : Nat} {h : HP} {Q : Option Value → HP → Prop} {a0 : Nat} {x1 : Int32} {x2 : Int32} (ht : T_X12_fails G d h Q a0 x1 x2) : Cal G d mX12_fails [.ref a0, .int x1, .int x2] h Q := cal_of rfl (Nat.le_of_ble_eq_true rfl) (t_X12_fails ht)
def T_X12_see (G : GG) (d : Nat) (h : HP) (Q : Option Value → HP → Prop) (a0 : Nat) : Prop :=
  Kd G h a0 12 ∧ (((hI h a0 1) ≤ (hI h a0 13) → Ex G d mX12_see 38 [(0, .ref a0)] [] h Q) ∧ (¬ (hI h a0 1) ≤ (hI h a0 13) → ∃ q3, hR h a0 0 = some q3 ∧ Kd G h q3 13 ∧ vp_in (hI h a0 13) (hN h q3) ∧ ((¬ (hI h q3 (hI h a0 13).toNatClampNeg) = 32 → Ex G d mX12_see 38 [(0, .ref a0)] [] h Q) ∧ ((hI h q3 (hI h a0 13).toNatClampNeg) = 32 → Ex G d mX12_see 0 [(0, .ref a0)] [] (sI h a0 13 ((hI h a0 13) + 1)) Q))))
set_option maxRecDepth 20000 in
theorem t_X12_see {G : GG} {d : Nat} {h : HP} {Q : Option Value → HP → Prop} {a0 : Nat} (ht : T_X12_see G d h Q a0) : Ex G d mX12_see 0 [(0, .ref a0)] [] h Q := by
  unfold T_X12_see at ht
  refine x_aload_n (pc2 := 1) 0 (n := 0) (x := a0) rfl dX12_see_0 rfl ?_
  obtain ⟨k1, ht⟩ := ht
  refine y_getI (pc2 := 4) (κ := 12) (k := 13) fl_X12_84 (by decide) (by decide) k1 rfl dX12_see_1 rfl ?_
  refine x_aload_n (pc2 := 5) 0 (n := 0) (x := a0) rfl dX12_see_4 rfl ?_
  refine y_getI (pc2 := 8) (κ := 12) (k := 1) fl_X12_73 (by decide) (by decide) k1 rfl dX12_see_5 rfl ?_
  refine x_icmp_ge (pc2 := 11) 38 dX12_see_8 (by decide) rfl (fun c2 => ?_) (fun c2 => ?_)
  · replace ht := ht.1 c2
    exact ht
  · replace ht := ht.2 c2
    refine x_aload_n (pc2 := 12) 0 (n := 0) (x := a0) rfl dX12_see_11 rfl ?_
    obtain ⟨q3, e4, ht⟩ := ht
    refine y_getR (pc2 := 15) (κ := 12) (k := 0) fl_X12_7 (by decide) (by decide) k1 rfl e4 dX12_see_12 rfl ?_
    refine x_aload_n (pc2 := 16) 0 (n := 0) (x := a0) rfl dX12_see_15 rfl ?_
    refine y_getI (pc2 := 19) (κ := 12) (k := 13) fl_X12_84 (by decide) (by decide) k1 rfl dX12_see_16 rfl ?_
    obtain ⟨k5, ht⟩ := ht
    obtain ⟨b6, ht⟩ := ht
    refine x_bald (pc2 := 20) k5 b6 dX12_see_19 rfl ?_
    refine x_bipush (pc2 := 22) (v := 32) (by decide) dX12_see_20 rfl ?_
    refine y_icmp_ne (pc2 := 25) 38 dX12_see_22 (by decide) rfl (fun c7 => ?_) (fun c7 => ?_)
    · replace ht := ht.1 c7
      exact ht
    · replace ht := ht.2 c7
      refine x_aload_n (pc2 := 26) 0 (n := 0) (x := a0) rfl dX12_see_25 rfl ?_
      refine x_dup (pc2 := 27) rfl dX12_see_26 rfl ?_
      refine y_getI (pc2 := 30) (κ := 12) (k := 13) fl_X12_84 (by decide) (by decide) k1 rfl dX12_see_27 rfl ?_
      refine x_iconst (pc2 := 31) (v := 1) (by decide) dX12_see_30 rfl ?_
      refine x_iadd (pc2 := 32) dX12_see_31 rfl ?_
      refine x_putI (pc2 := 35) (κ := 12) (k := 13) fl_X12_84 (by decide) (by decide) (Or.inl rfl) rfl k1 dX12_see_32 rfl ?_
      refine x_goto 0 dX12_see_35 (by decide) ?_
      exact ht
theorem e_X12_see {G : GG} {d : Nat} {h : HP} {Q : Option Value → HP → Prop} {a0 : Nat} (ht : T_X12_see G d h Q a0) : Cal G d mX12_see [.ref a0] h Q := cal_of rfl (Nat.le_of_ble_eq_true rfl) (t_X12_see ht)
def T_X12_see_38 (G : GG) (d : Nat) (h : HP) (Q : Option Value → HP → Prop) (a0 : Nat) : Prop :=
  Kd G h a0 12 ∧ (((hI h a0 1) ≤ (hI h a0 13) → Q (some (.int (-1))) h) ∧ (¬ (hI h a0 1) ≤ (hI h a0 13) → ∃ q3, hR h a0 0 = some q3 ∧ Kd G h q3 13 ∧ vp_in (hI h a0 13) (hN h q3) ∧ Q (some (.int ((hI h q3 (hI h a0 13).toNatClampNeg) &&& 255))) h))
set_option maxRecDepth 20000 in
theorem t_X12_see_38 {G : GG} {d : Nat} {h : HP} {Q : Option Value → HP → Prop} {a0 : Nat} (ht : T_X12_see_38 G d h Q a0) : Ex G d mX12_see 38 [(0, .ref a0)] [] h Q := by
  unfold T_X12_see_38 at ht
  refine x_aload_n (pc2 := 39) 0 (n := 0) (x := a0) rfl dX12_see_38 rfl ?_
  obtain ⟨k1, ht⟩ := ht
  refine y_getI (pc2 := 42) (κ := 12) (k := 13) fl_X12_84 (by decide) (by decide) k1 rfl dX12_see_39 rfl ?_
  refine x_aload_n (pc2 := 43) 0 (n := 0) (x := a0) rfl dX12_see_42 rfl ?_
  refine y_getI (pc2 := 46) (κ := 12) (k := 1) fl_X12_73 (by decide) (by decide) k1 rfl dX12_see_43 rfl ?_
  refine x_icmp_ge (pc2 := 49) 65 dX12_see_46 (by decide) rfl (fun c2 => ?_) (fun c2 => ?_)
  · replace ht := ht.1 c2
    refine x_iconst (pc2 := 66) (v := (-1)) (by decide) dX12_see_65 rfl ?_
    exact x_ret (ty := .int) rfl rfl dX12_see_66 ht
  · replace ht := ht.2 c2
    refine x_aload_n (pc2 := 50) 0 (n := 0) (x := a0) rfl dX12_see_49 rfl ?_
    obtain ⟨q3, e4, ht⟩ := ht
    refine y_getR (pc2 := 53) (κ := 12) (k := 0) fl_X12_7 (by decide) (by decide) k1 rfl e4 dX12_see_50 rfl ?_
    refine x_aload_n (pc2 := 54) 0 (n := 0) (x := a0) rfl dX12_see_53 rfl ?_
    refine y_getI (pc2 := 57) (κ := 12) (k := 13) fl_X12_84 (by decide) (by decide) k1 rfl dX12_see_54 rfl ?_
    obtain ⟨k5, ht⟩ := ht
    obtain ⟨b6, ht⟩ := ht
    refine x_bald (pc2 := 58) k5 b6 dX12_see_57 rfl ?_
    refine x_sipush (pc2 := 61) (v := 255) (by decide) dX12_see_58 rfl ?_
    refine x_iand (pc2 := 62) dX12_see_61 rfl ?_
    refine x_goto 66 dX12_see_62 (by decide) ?_
    exact x_ret (ty := .int) rfl rfl dX12_see_66 ht
def T_X12_isDigit (G : GG) (d : Nat) (h : HP) (Q : Option Value → HP → Prop) (a0 : Nat) (x1 : Int32) : Prop :=
  Kd G h a0 12 ∧ (((hI h a0 1) ≤ x1 → Q (some (.int 0)) h) ∧ (¬ (hI h a0 1) ≤ x1 → ∃ q3, hR h a0 0 = some q3 ∧ Kd G h q3 13 ∧ vp_in x1 (hN h q3) ∧ (((hI h q3 x1.toNatClampNeg) < 48 → Q (some (.int 0)) h) ∧ (¬ (hI h q3 x1.toNatClampNeg) < 48 → vp_in x1 (hN h q3) ∧ ((57 < (hI h q3 x1.toNatClampNeg) → Q (some (.int 0)) h) ∧ (¬ 57 < (hI h q3 x1.toNatClampNeg) → Q (some (.int 1)) h))))))
set_option maxRecDepth 20000 in
theorem t_X12_isDigit {G : GG} {d : Nat} {h : HP} {Q : Option Value → HP → Prop} {a0 : Nat} {x1 : Int32} (ht : T_X12_isDigit G d h Q a0 x1) : Ex G d mX12_isDigit 0 [(0, .ref a0), (1, .int x1)] [] h Q := by
  unfold T_X12_isDigit at ht
  refine x_iload_n (pc2 := 1) 1 (n := 1) (x := x1) rfl dX12_isDigit_0 rfl ?_
  refine x_aload_n (pc2 := 2) 0 (n := 0) (x := a0) rfl dX12_isDigit_1 rfl ?_
  obtain ⟨k1, ht⟩ := ht
  refine y_getI (pc2 := 5) (κ := 12) (k := 1) fl_X12_73 (by decide) (by decide) k1 rfl dX12_isDigit_2 rfl ?_
  refine x_icmp_ge (pc2 := 8) 34 dX12_isDigit_5 (by decide) rfl (fun c2 => ?_) (fun c2 => ?_)
  · replace ht := ht.1 c2
    refine x_iconst (pc2 := 35) (v := 0) (by decide) dX12_isDigit_34 rfl ?_
    exact x_retZ rfl (Or.inl rfl) dX12_isDigit_35 ht
  · replace ht := ht.2 c2
    refine x_aload_n (pc2 := 9) 0 (n := 0) (x := a0) rfl dX12_isDigit_8 rfl ?_
    obtain ⟨q3, e4, ht⟩ := ht
    refine y_getR (pc2 := 12) (κ := 12) (k := 0) fl_X12_7 (by decide) (by decide) k1 rfl e4 dX12_isDigit_9 rfl ?_
    refine x_iload_n (pc2 := 13) 1 (n := 1) (x := x1) rfl dX12_isDigit_12 rfl ?_
    obtain ⟨k5, ht⟩ := ht
    obtain ⟨b6, ht⟩ := ht
    refine x_bald (pc2 := 14) k5 b6 dX12_isDigit_13 rfl ?_
    refine x_bipush (pc2 := 16) (v := 48) (by decide) dX12_isDigit_14 rfl ?_
    refine x_icmp_lt (pc2 := 19) 34 dX12_isDigit_16 (by decide) rfl (fun c7 => ?_) (fun c7 => ?_)
    · replace ht := ht.1 c7
      refine x_iconst (pc2 := 35) (v := 0) (by decide) dX12_isDigit_34 rfl ?_
      exact x_retZ rfl (Or.inl rfl) dX12_isDigit_35 ht
    · replace ht := ht.2 c7
      refine x_aload_n (pc2 := 20) 0 (n := 0) (x := a0) rfl dX12_isDigit_19 rfl ?_
      refine y_getR (pc2 := 23) (κ := 12) (k := 0) fl_X12_7 (by decide) (by decide) k1 rfl e4 dX12_isDigit_20 rfl ?_
      refine x_iload_n (pc2 := 24) 1 (n := 1) (x := x1) rfl dX12_isDigit_23 rfl ?_
      obtain ⟨b8, ht⟩ := ht
      refine x_bald (pc2 := 25) k5 b8 dX12_isDigit_24 rfl ?_
      refine x_bipush (pc2 := 27) (v := 57) (by decide) dX12_isDigit_25 rfl ?_
      refine x_icmp_gt (pc2 := 30) 34 dX12_isDigit_27 (by decide) rfl (fun c9 => ?_) (fun c9 => ?_)
      · replace ht := ht.1 c9
        refine x_iconst (pc2 := 35) (v := 0) (by decide) dX12_isDigit_34 rfl ?_
        exact x_retZ rfl (Or.inl rfl) dX12_isDigit_35 ht
      · replace ht := ht.2 c9
        refine x_iconst (pc2 := 31) (v := 1) (by decide) dX12_isDigit_30 rfl ?_
        refine x_goto 35 dX12_isDigit_31 (by decide) ?_
        exact x_retZ rfl (Or.inr rfl) dX12_isDigit_35 ht
theorem e_X12_isDigit {G : GG} {d : Nat} {h : HP} {Q : Option Value → HP → Prop} {a0 : Nat} {x1 : Int32} (ht : T_X12_isDigit G d h Q a0 x1) : Cal G d mX12_isDigit [.ref a0, .int x1] h Q := cal_of rfl (Nat.le_of_ble_eq_true rfl) (t_X12_isDigit ht)
def T_X12_isLetter (G : GG) (d : Nat) (h : HP) (Q : Option Value → HP → Prop) (a0 : Nat) (x1 : Int32) : Prop :=
  Kd G h a0 12 ∧ (((hI h a0 1) ≤ x1 → Q (some (.int 0)) h) ∧ (¬ (hI h a0 1) ≤ x1 → ∃ q3, hR h a0 0 = some q3 ∧ Kd G h q3 13 ∧ vp_in x1 (hN h q3) ∧ (((hI h q3 x1.toNatClampNeg) < 97 → Q (some (.int 0)) h) ∧ (¬ (hI h q3 x1.toNatClampNeg) < 97 → vp_in x1 (hN h q3) ∧ ((122 < (hI h q3 x1.toNatClampNeg) → Q (some (.int 0)) h) ∧ (¬ 122 < (hI h q3 x1.toNatClampNeg) → Q (some (.int 1)) h))))))
set_option maxRecDepth 20000 in
theorem t_X12_isLetter {G : GG} {d : Nat} {h : HP} {Q : Option Value → HP → Prop} {a0 : Nat} {x1 : Int32} (ht : T_X12_isLetter G d h Q a0 x1) : Ex G d mX12_isLetter 0 [(0, .ref a0), (1, .int x1)] [] h Q := by
  unfold T_X12_isLetter at ht
  refine x_iload_n (pc2 := 1) 1 (n := 1) (x := x1) rfl dX12_isLetter_0 rfl ?_
  refine x_aload_n (pc2 := 2) 0 (n := 0) (x := a0) rfl dX12_isLetter_1 rfl ?_
  obtain ⟨k1, ht⟩ := ht
  refine y_getI (pc2 := 5) (κ := 12) (k := 1) fl_X12_73 (by decide) (by decide) k1 rfl dX12_isLetter_2 rfl ?_
  refine x_icmp_ge (pc2 := 8) 34 dX12_isLetter_5 (by decide) rfl (fun c2 => ?_) (fun c2 => ?_)
  · replace ht := ht.1 c2
    refine x_iconst (pc2 := 35) (v := 0) (by decide) dX12_isLetter_34 rfl ?_
    exact x_retZ rfl (Or.inl rfl) dX12_isLetter_35 ht
  · replace ht := ht.2 c2
    refine x_aload_n (pc2 := 9) 0 (n := 0) (x := a0) rfl dX12_isLetter_8 rfl ?_
    obtain ⟨q3, e4, ht⟩ := ht
    refine y_getR (pc2 := 12) (κ := 12) (k := 0) fl_X12_7 (by decide) (by decide) k1 rfl e4 dX12_isLetter_9 rfl ?_
    refine x_iload_n (pc2 := 13) 1 (n := 1) (x := x1) rfl dX12_isLetter_12 rfl ?_
    obtain ⟨k5, ht⟩ := ht
    obtain ⟨b6, ht⟩ := ht
    refine x_bald (pc2 := 14) k5 b6 dX12_isLetter_13 rfl ?_
    refine x_bipush (pc2 := 16) (v := 97) (by decide) dX12_isLetter_14 rfl ?_
    refine x_icmp_lt (pc2 := 19) 34 dX12_isLetter_16 (by decide) rfl (fun c7 => ?_) (fun c7 => ?_)
    · replace ht := ht.1 c7
      refine x_iconst (pc2 := 35) (v := 0) (by decide) dX12_isLetter_34 rfl ?_
      exact x_retZ rfl (Or.inl rfl) dX12_isLetter_35 ht
    · replace ht := ht.2 c7
      refine x_aload_n (pc2 := 20) 0 (n := 0) (x := a0) rfl dX12_isLetter_19 rfl ?_
      refine y_getR (pc2 := 23) (κ := 12) (k := 0) fl_X12_7 (by decide) (by decide) k1 rfl e4 dX12_isLetter_20 rfl ?_
      refine x_iload_n (pc2 := 24) 1 (n := 1) (x := x1) rfl dX12_isLetter_23 rfl ?_
      obtain ⟨b8, ht⟩ := ht
      refine x_bald (pc2 := 25) k5 b8 dX12_isLetter_24 rfl ?_
      refine x_bipush (pc2 := 27) (v := 122) (by decide) dX12_isLetter_25 rfl ?_
      refine x_icmp_gt (pc2 := 30) 34 dX12_isLetter_27 (by decide) rfl (fun c9 => ?_) (fun c9 => ?_)
      · replace ht := ht.1 c9
        refine x_iconst (pc2 := 35) (v := 0) (by decide) dX12_isLetter_34 rfl ?_
        exact x_retZ rfl (Or.inl rfl) dX12_isLetter_35 ht
      · replace ht := ht.2 c9
        refine x_iconst (pc2 := 31) (v := 1) (by decide) dX12_isLetter_30 rfl ?_
        refine x_goto 35 dX12_isLetter_31 (by decide) ?_
        exact x_retZ rfl (Or.inr rfl) dX12_isLetter_35 ht
theorem e_X12_isLetter {G : GG} {d : Nat} {h : HP} {Q : Option Value → HP → Prop} {a0 : Nat} {x1 : Int32} (ht : T_X12_isLetter G d h Q a0 x1) : Cal G d mX12_isLetter [.ref a0, .int x1] h Q := cal_of rfl (Nat.le_of_ble_eq_true rfl) (t_X12_isLetter ht)
def T_X12_isWord (G : GG) (d : Nat) (h : HP) (Q : Option Value → HP → Prop) (a0 : Nat) (y1 : Int64) : Prop :=
  Kd G h a0 12 ∧ Cal G (d - 1) mX12_see [.ref a0] h (fun r1 h2 => ∃ v5, r1 = some (.int v5) ∧ Ex G d mX12_isWord 10 [(0, .ref a0), (1, .long y1), (3, .long 0), (5, .int 0)] [] h2 Q)
set_option maxRecDepth 20000 in
theorem t_X12_isWord {G : GG} {d : Nat} {h : HP} {Q : Option Value → HP → Prop} {a0 : Nat} {y1 : Int64} (hd1 : 1 ≤ d) (ht : T_X12_isWord G d h Q a0 y1) : Ex G d mX12_isWord 0 [(0, .ref a0), (1, .long y1)] [] h Q := by
  unfold T_X12_isWord at ht
  refine x_aload_n (pc2 := 1) 0 (n := 0) (x := a0) rfl dX12_isWord_0 rfl ?_
  obtain ⟨k4, ht⟩ := ht
  refine x_callV (pc2 := 4) (As := []) (rest := []) (b := a0) mv_X12_see ml_X12_87 k4 rfl rfl (Nat.le_of_ble_eq_true rfl) hd1 dX12_isWord_1 rfl (ht.mono (fun r1 h2 p3 ht' => ?_))
  clear ht
  obtain ⟨v5, rfl, ht⟩ := ht'
  show Ex G d mX12_isWord 4 [(0, .ref a0), (1, .long y1)] [.int v5] h2 Q
  refine x_pop (pc2 := 5) rfl dX12_isWord_4 rfl ?_
  refine x_lconst (pc2 := 6) (v := 0) (by decide) dX12_isWord_5 rfl ?_
  refine x_lstore_n (pc2 := 7) [1, 2, 0] (n := 3) (x := 0) (lv2 := [(0, .ref a0), (1, .long y1), (3, .long 0)]) (by decide) rfl dX12_isWord_6 rfl ?_
  refine x_iconst (pc2 := 8) (v := 0) (by decide) dX12_isWord_7 rfl ?_
  refine x_istore (pc2 := 10) [1, 2, 3, 0] (n := 5) (x := 0) (lv2 := [(0, .ref a0), (1, .long y1), (3, .long 0), (5, .int 0)]) (by decide) rfl dX12_isWord_8 rfl ?_
  exact ht
theorem e_X12_isWord {G : GG} {d : Nat} {h : HP} {Q : Option Value → HP → Prop} {a0 : Nat} {y1 : Int64} (hd1 : 1 ≤ d) (ht : T_X12_isWord G d h Q a0 y1) : Cal G d mX12_isWord [.ref a0, .long y1] h Q := cal_of rfl (Nat.le_of_ble_eq_true rfl) (t_X12_isWord hd1 ht)
def T_X12_isWord_10 (G : GG) (d : Nat) (h : HP) (Q : Option Value → HP → Prop) (a0 : Nat) (y1 : Int64) (y3 : Int64) (x5 : Int32) : Prop :=
  Kd G h a0 12 ∧ Cal G (d - 1) mX12_isLetter [.ref a0, .int ((hI h a0 13) + x5)] h (fun r2 h3 => ∃ v5, r2 = some (.int v5) ∧ ((v5 = 0 → ((x5 ≤ 0 → Q (some (.int 0)) h3) ∧ (¬ x5 ≤ 0 → ((8 ≤ x5 → Q (some (.int 0)) h3) ∧ (¬ 8 ≤ x5 → ((¬ (lg_cmp y3 y1) = 0 → Q (some (.int 0)) h3) ∧ ((lg_cmp y3 y1) = 0 → Q (some (.int 1)) h3))))))) ∧ (¬ v5 = 0 → ((8 ≤ x5 → Ex G d mX12_isWord 10 [(0, .ref a0), (1, .long y1), (3, .long y3), (5, .int (x5 + 1))] [] h3 Q) ∧ (¬ 8 ≤ x5 → ∃ q11, hR h3 a0 0 = some q11 ∧ Kd G h3 q11 13 ∧ vp_in ((hI h3 a0 13) + x5) (hN h3 q11) ∧ Ex G d mX12_isWord 10 [(0, .ref a0), (1, .long y1), (3, .long ((y3 <<< ((8 : Int32).toInt64 &&& 63)) ||| ((hI h3 q11 ((hI h3 a0 13) + x5).toNatClampNeg).toInt64))), (5, .int (x5 + 1))] [] h3 Q)))))
set_option maxRecDepth 20000 in
theorem t_X12_isWord_10 {G : GG} {d : Nat} {h : HP} {Q : Option Value → HP → Prop} {a0 : Nat} {y1 : Int64} {y3 : Int64} {x5 : Int32} (hd1 : 1 ≤ d) (ht : T_X12_isWord_10 G d h Q a0 y1 y3 x5) : Ex G d mX12_isWord 10 [(0, .ref a0), (1, .long y1), (3, .long y3), (5, .int x5)] [] h Q := by
  unfold T_X12_isWord_10 at ht
  refine x_aload_n (pc2 := 11) 0 (n := 0) (x := a0) rfl dX12_isWord_10 rfl ?_
  refine x_aload_n (pc2 := 12) 0 (n := 0) (x := a0) rfl dX12_isWord_11 rfl ?_
  obtain ⟨k1, ht⟩ := ht
  refine y_getI (pc2 := 15) (κ := 12) (k := 13) fl_X12_84 (by decide) (by decide) k1 rfl dX12_isWord_12 rfl ?_
  refine x_iload (pc2 := 17) 3 (n := 5) (x := x5) rfl dX12_isWord_15 rfl ?_
  refine x_iadd (pc2 := 18) dX12_isWord_17 rfl ?_
  refine x_callV (pc2 := 21) (As := [.int ((hI h a0 13) + x5)]) (rest := []) (b := a0) mv_X12_isLetter ml_X12_91 k1 rfl rfl (Nat.le_of_ble_eq_true rfl) hd1 dX12_isWord_18 rfl (ht.mono (fun r2 h3 p4 ht' => ?_))
  clear ht
  obtain ⟨v5, rfl, ht⟩ := ht'
  show Ex G d mX12_isWord 21 [(0, .ref a0), (1, .long y1), (3, .long y3), (5, .int x5)] [.int v5] h3 Q
  refine x_if_eq (pc2 := 24) 56 dX12_isWord_21 (by decide) rfl (fun c6 => ?_) (fun c6 => ?_)
  · replace ht := ht.1 c6
    refine x_iload (pc2 := 58) 3 (n := 5) (x := x5) rfl dX12_isWord_56 rfl ?_
    refine x_if_le (pc2 := 61) 78 dX12_isWord_58 (by decide) rfl (fun c7 => ?_) (fun c7 => ?_)
    · replace ht := ht.1 c7
      refine x_iconst (pc2 := 79) (v := 0) (by decide) dX12_isWord_78 rfl ?_
      exact x_retZ rfl (Or.inl rfl) dX12_isWord_79 ht
    · replace ht := ht.2 c7
      refine x_iload (pc2 := 63) 3 (n := 5) (x := x5) rfl dX12_isWord_61 rfl ?_
      refine x_bipush (pc2 := 65) (v := 8) (by decide) dX12_isWord_63 rfl ?_
      refine x_icmp_ge (pc2 := 68) 78 dX12_isWord_65 (by decide) rfl (fun c8 => ?_) (fun c8 => ?_)
      · replace ht := ht.1 c8
        refine x_iconst (pc2 := 79) (v := 0) (by decide) dX12_isWord_78 rfl ?_
        exact x_retZ rfl (Or.inl rfl) dX12_isWord_79 ht
      · replace ht := ht.2 c8
        refine x_lload_n (pc2 := 69) 2 (n := 3) (x := y3) rfl dX12_isWord_68 rfl ?_
        refine x_lload_n (pc2 := 70) 1 (n := 1) (x := y1) rfl dX12_isWord_69 rfl ?_
        refine x_lcmp (pc2 := 71) dX12_isWord_70 rfl ?_
        refine y_if_ne (pc2 := 74) 78 dX12_isWord_71 (by decide) rfl (fun c9 => ?_) (fun c9 => ?_)
        · replace ht := ht.1 c9
          refine x_iconst (pc2 := 79) (v := 0) (by decide) dX12_isWord_78 rfl ?_
          exact x_retZ rfl (Or.inl rfl) dX12_isWord_79 ht
        · replace ht := ht.2 c9
          refine x_iconst (pc2 := 75) (v := 1) (by decide) dX12_isWord_74 rfl ?_
          refine x_goto 79 dX12_isWord_75 (by decide) ?_
          exact x_retZ rfl (Or.inr rfl) dX12_isWord_79 ht
  · replace ht := ht.2 c6
    refine x_iload (pc2 := 26) 3 (n := 5) (x := x5) rfl dX12_isWord_24 rfl ?_
    refine x_bipush (pc2 := 28) (v := 8) (by decide) dX12_isWord_26 rfl ?_
    refine x_icmp_ge (pc2 := 31) 50 dX12_isWord_28 (by decide) rfl (fun c10 => ?_) (fun c10 => ?_)
    · replace ht := ht.1 c10
      refine x_iinc (pc2 := 53) 3 [1, 2, 3, 0] (i := 5) (x := x5) (v := (x5 + 1)) (lv2 := [(0, .ref a0), (1, .long y1), (3, .long y3), (5, .int (x5 + 1))]) rfl (iinc_eq (by decide) _) (by decide) rfl dX12_isWord_50 rfl ?_
      refine x_goto 10 dX12_isWord_53 (by decide) ?_
      exact ht
    · replace ht := ht.2 c10
      refine x_lload_n (pc2 := 32) 2 (n := 3) (x := y3) rfl dX12_isWord_31 rfl ?_
      refine x_bipush (pc2 := 34) (v := 8) (by decide) dX12_isWord_32 rfl ?_
      refine x_lshl (pc2 := 35) dX12_isWord_34 rfl ?_
      refine x_aload_n (pc2 := 36) 0 (n := 0) (x := a0) rfl dX12_isWord_35 rfl ?_
      obtain ⟨q11, e12, ht⟩ := ht
      refine y_getR (pc2 := 39) (κ := 12) (k := 0) fl_X12_7 (by decide) (by decide) (k1.up p4) rfl e12 dX12_isWord_36 rfl ?_
      refine x_aload_n (pc2 := 40) 0 (n := 0) (x := a0) rfl dX12_isWord_39 rfl ?_
      refine y_getI (pc2 := 43) (κ := 12) (k := 13) fl_X12_84 (by decide) (by decide) (k1.up p4) rfl dX12_isWord_40 rfl ?_
      refine x_iload (pc2 := 45) 3 (n := 5) (x := x5) rfl dX12_isWord_43 rfl ?_
      refine x_iadd (pc2 := 46) dX12_isWord_45 rfl ?_
      obtain ⟨k13, ht⟩ := ht
      obtain ⟨b14, ht⟩ := ht
      refine x_bald (pc2 := 47) k13 b14 dX12_isWord_46 rfl ?_
      refine x_i2l (pc2 := 48) dX12_isWord_47 rfl ?_
      refine x_lor (pc2 := 49) dX12_isWord_48 rfl ?_
      refine x_lstore_n (pc2 := 50) [1, 2, 0, 3] (n := 3) (x := ((y3 <<< ((8 : Int32).toInt64 &&& 63)) ||| ((hI h3 q11 ((hI h3 a0 13) + x5).toNatClampNeg).toInt64))) (lv2 := [(0, .ref a0), (1, .long y1), (3, .long ((y3 <<< ((8 : Int32).toInt64 &&& 63)) ||| ((hI h3 q11 ((hI h3 a0 13) + x5).toNatClampNeg).toInt64))), (5, .int x5)]) (by decide) rfl dX12_isWord_49 rfl ?_
      refine x_iinc (pc2 := 53) 3 [1, 2, 3, 0] (i := 5) (x := x5) (v := (x5 + 1)) (lv2 := [(0, .ref a0), (1, .long y1), (3, .long ((y3 <<< ((8 : Int32).toInt64 &&& 63)) ||| ((hI h3 q11 ((hI h3 a0 13) + x5).toNatClampNeg).toInt64))), (5, .int (x5 + 1))]) rfl (iinc_eq (by decide) _) (by decide) rfl dX12_isWord_50 rfl ?_
      refine x_goto 10 dX12_isWord_53 (by decide) ?_
      exact ht
def T_X12_passWord (G : GG) (d : Nat) (h : HP) (Q : Option Value → HP → Prop) (a0 : Nat) : Prop :=
  Kd G h a0 12 ∧ Cal G (d - 1) mX12_isLetter [.ref a0, .int (hI h a0 13)] h (fun r2 h3 => ∃ v5, r2 = some (.int v5) ∧ ((v5 = 0 → Q none h3) ∧ (¬ v5 = 0 → Ex G d mX12_passWord 0 [(0, .ref a0)] [] (sI h3 a0 13 ((hI h3 a0 13) + 1)) Q)))
set_option maxRecDepth 20000 in
theorem t_X12_passWord {G : GG} {d : Nat} {h : HP} {Q : Option Value → HP → Prop} {a0 : Nat} (hd1 : 1 ≤ d) (ht : T_X12_passWord G d h Q a0) : Ex G d mX12_passWord 0 [(0, .ref a0)] [] h Q := by
  unfold T_X12_passWord at ht
  refine x_aload_n (pc2 := 1) 0 (n := 0) (x := a0) rfl dX12_passWord_0 rfl ?_
  refine x_aload_n (pc2 := 2) 0 (n := 0) (x := a0) rfl dX12_passWord_1 rfl ?_
  obtain ⟨k1, ht⟩ := ht
  refine y_getI (pc2 := 5) (κ := 12) (k := 13) fl_X12_84 (by decide) (by decide) k1 rfl dX12_passWord_2 rfl ?_
  refine x_callV (pc2 := 8) (As := [.int (hI h a0 13)]) (rest := []) (b := a0) mv_X12_isLetter ml_X12_91 k1 rfl rfl (Nat.le_of_ble_eq_true rfl) hd1 dX12_passWord_5 rfl (ht.mono (fun r2 h3 p4 ht' => ?_))
  clear ht
  obtain ⟨v5, rfl, ht⟩ := ht'
  show Ex G d mX12_passWord 8 [(0, .ref a0)] [.int v5] h3 Q
  refine x_if_eq (pc2 := 11) 24 dX12_passWord_8 (by decide) rfl (fun c6 => ?_) (fun c6 => ?_)
  · replace ht := ht.1 c6
    exact x_retV rfl dX12_passWord_24 ht
  · replace ht := ht.2 c6
    refine x_aload_n (pc2 := 12) 0 (n := 0) (x := a0) rfl dX12_passWord_11 rfl ?_
    refine x_dup (pc2 := 13) rfl dX12_passWord_12 rfl ?_
    refine y_getI (pc2 := 16) (κ := 12) (k := 13) fl_X12_84 (by decide) (by decide) (k1.up p4) rfl dX12_passWord_13 rfl ?_
    refine x_iconst (pc2 := 17) (v := 1) (by decide) dX12_passWord_16 rfl ?_
    refine x_iadd (pc2 := 18) dX12_passWord_17 rfl ?_
    refine x_putI (pc2 := 21) (κ := 12) (k := 13) fl_X12_84 (by decide) (by decide) (Or.inl rfl) rfl (k1.up p4) dX12_passWord_18 rfl ?_
    refine x_goto 0 dX12_passWord_21 (by decide) ?_
    exact ht
theorem e_X12_passWord {G : GG} {d : Nat} {h : HP} {Q : Option Value → HP → Prop} {a0 : Nat} (hd1 : 1 ≤ d) (ht : T_X12_passWord G d h Q a0) : Cal G d mX12_passWord [.ref a0] h Q := cal_of rfl (Nat.le_of_ble_eq_true rfl) (t_X12_passWord hd1 ht)
def T_X12_takesWord (G : GG) (d : Nat) (h : HP) (Q : Option Value → HP → Prop) (a0 : Nat) (y1 : Int64) : Prop :=
  Kd G h a0 12 ∧ Cal G (d - 1) mX12_isWord [.ref a0, .long y1] h (fun r1 h2 => ∃ v5, r1 = some (.int v5) ∧ ((¬ v5 = 0 → Cal G (d - 1) mX12_passWord [.ref a0] h2 (fun r7 h8 => r7 = none ∧ Q (some (.int 1)) h8)) ∧ (v5 = 0 → Q (some (.int 0)) h2)))
set_option maxRecDepth 20000 in
theorem t_X12_takesWord {G : GG} {d : Nat} {h : HP} {Q : Option Value → HP → Prop} {a0 : Nat} {y1 : Int64} (hd1 : 1 ≤ d) (ht : T_X12_takesWord G d h Q a0 y1) : Ex G d mX12_takesWord 0 [(0, .ref a0), (1, .long y1)] [] h Q := by
  unfold T_X12_takesWord at ht
  refine x_aload_n (pc2 := 1) 0 (n := 0) (x := a0) rfl dX12_takesWord_0 rfl ?_
  refine x_lload_n (pc2 := 2) 1 (n := 1) (x := y1) rfl dX12_takesWord_1 rfl ?_
  obtain ⟨k4, ht⟩ := ht
  refine x_callV (pc2 := 5) (As := [.long y1]) (rest := []) (b := a0) mv_X12_isWord ml_X12_95 k4 rfl rfl (Nat.le_of_ble_eq_true rfl) hd1 dX12_takesWord_2 rfl (ht.mono (fun r1 h2 p3 ht' => ?_))
  clear ht
  obtain ⟨v5, rfl, ht⟩ := ht'
  show Ex G d mX12_takesWord 5 [(0, .ref a0), (1, .long y1)] [.int v5] h2 Q
  refine y_if_ne (pc2 := 8) 10 dX12_takesWord_5 (by decide) rfl (fun c6 => ?_) (fun c6 => ?_)
  · replace ht := ht.1 c6
    refine x_aload_n (pc2 := 11) 0 (n := 0) (x := a0) rfl dX12_takesWord_10 rfl ?_
    refine x_callV (pc2 := 14) (As := []) (rest := []) (b := a0) mv_X12_passWord ml_X12_99 (k4.up p3) rfl rfl (Nat.le_of_ble_eq_true rfl) hd1 dX12_takesWord_11 rfl (ht.mono (fun r7 h8 p9 ht' => ?_))
    clear ht
    obtain ⟨rfl, ht⟩ := ht'
    show Ex G d mX12_takesWord 14 [(0, .ref a0), (1, .long y1)] [] h8 Q
    refine x_iconst (pc2 := 15) (v := 1) (by decide) dX12_takesWord_14 rfl ?_
    exact x_retZ rfl (Or.inr rfl) dX12_takesWord_15 ht
  · replace ht := ht.2 c6
    refine x_iconst (pc2 := 9) (v := 0) (by decide) dX12_takesWord_8 rfl ?_
    exact x_retZ rfl (Or.inl rfl) dX12_takesWord_9 ht
theorem e_X12_takesWord {G : GG} {d : Nat} {h : HP} {Q : Option Value → HP → Prop} {a0 : Nat} {y1 : Int64} (hd1 : 1 ≤ d) (ht : T_X12_takesWord G d h Q a0 y1) : Cal G d mX12_takesWord [.ref a0, .long y1] h Q := cal_of rfl (Nat.le_of_ble_eq_true rfl) (t_X12_takesWord hd1 ht)
def T_X12_numberHere (G : GG) (d : Nat) (h : HP) (Q : Option Value → HP → Prop) (a0 : Nat) (x1 : Int32) (x2 : Int32) : Prop :=
  Kd G h a0 12 ∧ Cal G (d - 1) mX12_see [.ref a0] h (fun r1 h2 => ∃ v5, r1 = some (.int v5) ∧ Cal G (d - 1) mX12_isDigit [.ref a0, .int (hI h2 a0 13)] h2 (fun r6 h7 => ∃ v9, r6 = some (.int v9) ∧ ((¬ v9 = 0 → Ex G d mX12_numberHere 34 [(0, .ref a0), (1, .int x1), (2, .int x2), (3, .int (hI h7 a0 13)), (4, .int 0)] [] h7 Q) ∧ (v9 = 0 → Cal G (d - 1) mX12_fails [.ref a0, .int 0, .int (hI h7 a0 13)] h7 (fun r11 h12 => ∃ v14, r11 = some (.int v14) ∧ ((v14 = 0 ∨ v14 = 1) ∧ Q (some (.int v14)) h12))))))
set_option maxRecDepth 20000 in
theorem t_X12_numberHere {G : GG} {d : Nat} {h : HP} {Q : Option Value → HP → Prop} {a0 : Nat} {x1 : Int32} {x2 : Int32} (hd1 : 1 ≤ d) (ht : T_X12_numberHere G d h Q a0 x1 x2) : Ex G d mX12_numberHere 0 [(0, .ref a0), (1, .int x1), (2, .int x2)] [] h Q := by
  unfold T_X12_numberHere at ht
  refine x_aload_n (pc2 := 1) 0 (n := 0) (x := a0) rfl dX12_numberHere_0 rfl ?_
  obtain ⟨k4, ht⟩ := ht
  refine x_callV (pc2 := 4) (As := []) (rest := []) (b := a0) mv_X12_see ml_X12_87 k4 rfl rfl (Nat.le_of_ble_eq_true rfl) hd1 dX12_numberHere_1 rfl (ht.mono (fun r1 h2 p3 ht' => ?_))
  clear ht
  obtain ⟨v5, rfl, ht⟩ := ht'
  show Ex G d mX12_numberHere 4 [(0, .ref a0), (1, .int x1), (2, .int x2)] [.int v5] h2 Q
  refine x_pop (pc2 := 5) rfl dX12_numberHere_4 rfl ?_
  refine x_aload_n (pc2 := 6) 0 (n := 0) (x := a0) rfl dX12_numberHere_5 rfl ?_
  refine x_aload_n (pc2 := 7) 0 (n := 0) (x := a0) rfl dX12_numberHere_6 rfl ?_
  refine y_getI (pc2 := 10) (κ := 12) (k := 13) fl_X12_84 (by decide) (by decide) (k4.up p3) rfl dX12_numberHere_7 rfl ?_
  refine x_callV (pc2 := 13) (As := [.int (hI h2 a0 13)]) (rest := []) (b := a0) mv_X12_isDigit ml_X12_102 (k4.up p3) rfl rfl (Nat.le_of_ble_eq_true rfl) hd1 dX12_numberHere_10 rfl (ht.mono (fun r6 h7 p8 ht' => ?_))
  clear ht
  obtain ⟨v9, rfl, ht⟩ := ht'
  show Ex G d mX12_numberHere 13 [(0, .ref a0), (1, .int x1), (2, .int x2)] [.int v9] h7 Q
  refine y_if_ne (pc2 := 16) 26 dX12_numberHere_13 (by decide) rfl (fun c10 => ?_) (fun c10 => ?_)
  · replace ht := ht.1 c10
    refine x_aload_n (pc2 := 27) 0 (n := 0) (x := a0) rfl dX12_numberHere_26 rfl ?_
    refine y_getI (pc2 := 30) (κ := 12) (k := 13) fl_X12_84 (by decide) (by decide) ((k4.up p3).up p8) rfl dX12_numberHere_27 rfl ?_
    refine x_istore_n (pc2 := 31) [1, 2, 3, 0] (n := 3) (x := (hI h7 a0 13)) (lv2 := [(0, .ref a0), (1, .int x1), (2, .int x2), (3, .int (hI h7 a0 13))]) (by decide) rfl dX12_numberHere_30 rfl ?_
    refine x_iconst (pc2 := 32) (v := 0) (by decide) dX12_numberHere_31 rfl ?_
    refine x_istore (pc2 := 34) [1, 2, 3, 4, 0] (n := 4) (x := 0) (lv2 := [(0, .ref a0), (1, .int x1), (2, .int x2), (3, .int (hI h7 a0 13)), (4, .int 0)]) (by decide) rfl dX12_numberHere_32 rfl ?_
    exact ht
  · replace ht := ht.2 c10
    refine x_aload_n (pc2 := 17) 0 (n := 0) (x := a0) rfl dX12_numberHere_16 rfl ?_
    refine x_iconst (pc2 := 18) (v := 0) (by decide) dX12_numberHere_17 rfl ?_
    refine x_aload_n (pc2 := 19) 0 (n := 0) (x := a0) rfl dX12_numberHere_18 rfl ?_
    refine y_getI (pc2 := 22) (κ := 12) (k := 13) fl_X12_84 (by decide) (by decide) ((k4.up p3).up p8) rfl dX12_numberHere_19 rfl ?_
    refine x_callV (pc2 := 25) (As := [.int 0, .int (hI h7 a0 13)]) (rest := []) (b := a0) mv_X12_fails ml_X12_105 ((k4.up p3).up p8) rfl rfl (Nat.le_of_ble_eq_true rfl) hd1 dX12_numberHere_22 rfl (ht.mono (fun r11 h12 p13 ht' => ?_))
    clear ht
    obtain ⟨v14, rfl, ht⟩ := ht'
    show Ex G d mX12_numberHere 25 [(0, .ref a0), (1, .int x1), (2, .int x2)] [.int v14] h12 Q
    exact x_retZ rfl ht.1 dX12_numberHere_25 ht.2
theorem e_X12_numberHere {G : GG} {d : Nat} {h : HP} {Q : Option Value → HP → Prop} {a0 : Nat} {x1 : Int32} {x2 : Int32} (hd1 : 1 ≤ d) (ht : T_X12_numberHere G d h Q a0 x1 x2) : Cal G d mX12_numberHere [.ref a0, .int x1, .int x2] h Q := cal_of rfl (Nat.le_of_ble_eq_true rfl) (t_X12_numberHere hd1 ht)
def T_X12_numberHere_34 (G : GG) (d : Nat) (h : HP) (Q : Option Value → HP → Prop) (a0 : Nat) (x1 : Int32) (x2 : Int32) (x3 : Int32) (x4 : Int32) : Prop :=
  Kd G h a0 12 ∧ Cal G (d - 1) mX12_isDigit [.ref a0, .int (hI h a0 13)] h (fun r2 h3 => ∃ v5, r2 = some (.int v5) ∧ ((v5 = 0 → ((5 < ((hI (sI h3 a0 15 x4) a0 13) - x3) → Ex G d mX12_numberHere 117 [(0, .ref a0), (1, .int x1), (2, .int x2), (3, .int x3), (4, .int x4)] [] (sI h3 a0 15 x4) Q) ∧ (¬ 5 < ((hI (sI h3 a0 15 x4) a0 13) - x3) → Cal G (d - 1) mX12_in [.long (x4.toInt64), .long (x1.toInt64), .long (x2.toInt64)] (sI h3 a0 15 x4) (fun r8 h9 => ∃ v11, r8 = some (.int v11) ∧ ((¬ v11 = 0 → Q (some (.int 1)) h9) ∧ (v11 = 0 → Ex G d mX12_numberHere 117 [(0, .ref a0), (1, .int x1), (2, .int x2), (3, .int x3), (4, .int x4)] [] h9 Q)))))) ∧ (¬ v5 = 0 → ((5 ≤ ((hI h3 a0 13) - x3) → Ex G d mX12_numberHere 34 [(0, .ref a0), (1, .int x1), (2, .int x2), (3, .int x3), (4, .int x4)] [] (sI h3 a0 13 ((hI h3 a0 13) + 1)) Q) ∧ (¬ 5 ≤ ((hI h3 a0 13) - x3) → ∃ q14, hR h3 a0 0 = some q14 ∧ Kd G h3 q14 13 ∧ vp_in (hI h3 a0 13) (hN h3 q14) ∧ Ex G d mX12_numberHere 34 [(0, .ref a0), (1, .int x1), (2, .int x2), (3, .int x3), (4, .int (((10 * x4) + (hI h3 q14 (hI h3 a0 13).toNatClampNeg)) - 48))] [] (sI h3 a0 13 ((hI h3 a0 13) + 1)) Q)))))
set_option maxRecDepth 20000 in
theorem t_X12_numberHere_34 {G : GG} {d : Nat} {h : HP} {Q : Option Value → HP → Prop} {a0 : Nat} {x1 : Int32} {x2 : Int32} {x3 : Int32} {x4 : Int32} (hd1 : 1 ≤ d) (ht : T_X12_numberHere_34 G d h Q a0 x1 x2 x3 x4) : Ex G d mX12_numberHere 34 [(0, .ref a0), (1, .int x1), (2, .int x2), (3, .int x3), (4, .int x4)] [] h Q := by
  unfold T_X12_numberHere_34 at ht
  refine x_aload_n (pc2 := 35) 0 (n := 0) (x := a0) rfl dX12_numberHere_34 rfl ?_
  refine x_aload_n (pc2 := 36) 0 (n := 0) (x := a0) rfl dX12_numberHere_35 rfl ?_
  obtain ⟨k1, ht⟩ := ht
  refine y_getI (pc2 := 39) (κ := 12) (k := 13) fl_X12_84 (by decide) (by decide) k1 rfl dX12_numberHere_36 rfl ?_
  refine x_callV (pc2 := 42) (As := [.int (hI h a0 13)]) (rest := []) (b := a0) mv_X12_isDigit ml_X12_102 k1 rfl rfl (Nat.le_of_ble_eq_true rfl) hd1 dX12_numberHere_39 rfl (ht.mono (fun r2 h3 p4 ht' => ?_))
  clear ht
  obtain ⟨v5, rfl, ht⟩ := ht'
  show Ex G d mX12_numberHere 42 [(0, .ref a0), (1, .int x1), (2, .int x2), (3, .int x3), (4, .int x4)] [.int v5] h3 Q
  refine x_if_eq (pc2 := 45) 88 dX12_numberHere_42 (by decide) rfl (fun c6 => ?_) (fun c6 => ?_)
  · replace ht := ht.1 c6
    refine x_aload_n (pc2 := 89) 0 (n := 0) (x := a0) rfl dX12_numberHere_88 rfl ?_
    refine x_iload (pc2 := 91) 4 (n := 4) (x := x4) rfl dX12_numberHere_89 rfl ?_
    refine x_putI (pc2 := 94) (κ := 12) (k := 15) fl_X12_109 (by decide) (by decide) (Or.inl rfl) rfl (k1.up p4) dX12_numberHere_91 rfl ?_
    refine x_aload_n (pc2 := 95) 0 (n := 0) (x := a0) rfl dX12_numberHere_94 rfl ?_
    refine y_getI (pc2 := 98) (κ := 12) (k := 13) fl_X12_84 (by decide) (by decide) (k1.up p4).sI rfl dX12_numberHere_95 rfl ?_
    refine x_iload_n (pc2 := 99) 3 (n := 3) (x := x3) rfl dX12_numberHere_98 rfl ?_
    refine x_isub (pc2 := 100) dX12_numberHere_99 rfl ?_
    refine x_iconst (pc2 := 101) (v := 5) (by decide) dX12_numberHere_100 rfl ?_
    refine x_icmp_gt (pc2 := 104) 117 dX12_numberHere_101 (by decide) rfl (fun c7 => ?_) (fun c7 => ?_)
    · replace ht := ht.1 c7
      exact ht
    · replace ht := ht.2 c7
      refine x_iload (pc2 := 106) 4 (n := 4) (x := x4) rfl dX12_numberHere_104 rfl ?_
      refine x_i2l (pc2 := 107) dX12_numberHere_106 rfl ?_
      refine x_iload_n (pc2 := 108) 1 (n := 1) (x := x1) rfl dX12_numberHere_107 rfl ?_
      refine x_i2l (pc2 := 109) dX12_numberHere_108 rfl ?_
      refine x_iload_n (pc2 := 110) 2 (n := 2) (x := x2) rfl dX12_numberHere_109 rfl ?_
      refine x_i2l (pc2 := 111) dX12_numberHere_110 rfl ?_
      refine x_callS (pc2 := 114) (As := [.long (x4.toInt64), .long (x1.toInt64), .long (x2.toInt64)]) (rest := []) ms_X12_in ml_X12_112 rfl rfl (Nat.le_of_ble_eq_true rfl) hd1 dX12_numberHere_111 rfl (ht.mono (fun r8 h9 p10 ht' => ?_))
      clear ht
      obtain ⟨v11, rfl, ht⟩ := ht'
      show Ex G d mX12_numberHere 114 [(0, .ref a0), (1, .int x1), (2, .int x2), (3, .int x3), (4, .int x4)] [.int v11] h9 Q
      refine y_if_ne (pc2 := 117) 126 dX12_numberHere_114 (by decide) rfl (fun c12 => ?_) (fun c12 => ?_)
      · replace ht := ht.1 c12
        refine x_iconst (pc2 := 127) (v := 1) (by decide) dX12_numberHere_126 rfl ?_
        refine x_goto 131 dX12_numberHere_127 (by decide) ?_
        exact x_retZ rfl (Or.inr rfl) dX12_numberHere_131 ht
      · replace ht := ht.2 c12
        exact ht
  · replace ht := ht.2 c6
    refine x_aload_n (pc2 := 46) 0 (n := 0) (x := a0) rfl dX12_numberHere_45 rfl ?_
    refine y_getI (pc2 := 49) (κ := 12) (k := 13) fl_X12_84 (by decide) (by decide) (k1.up p4) rfl dX12_numberHere_46 rfl ?_
    refine x_iload_n (pc2 := 50) 3 (n := 3) (x := x3) rfl dX12_numberHere_49 rfl ?_
    refine x_isub (pc2 := 51) dX12_numberHere_50 rfl ?_
    refine x_iconst (pc2 := 52) (v := 5) (by decide) dX12_numberHere_51 rfl ?_
    refine x_icmp_ge (pc2 := 55) 75 dX12_numberHere_52 (by decide) rfl (fun c13 => ?_) (fun c13 => ?_)
    · replace ht := ht.1 c13
      refine x_aload_n (pc2 := 76) 0 (n := 0) (x := a0) rfl dX12_numberHere_75 rfl ?_
      refine x_dup (pc2 := 77) rfl dX12_numberHere_76 rfl ?_
      refine y_getI (pc2 := 80) (κ := 12) (k := 13) fl_X12_84 (by decide) (by decide) (k1.up p4) rfl dX12_numberHere_77 rfl ?_
      refine x_iconst (pc2 := 81) (v := 1) (by decide) dX12_numberHere_80 rfl ?_
      refine x_iadd (pc2 := 82) dX12_numberHere_81 rfl ?_
      refine x_putI (pc2 := 85) (κ := 12) (k := 13) fl_X12_84 (by decide) (by decide) (Or.inl rfl) rfl (k1.up p4) dX12_numberHere_82 rfl ?_
      refine x_goto 34 dX12_numberHere_85 (by decide) ?_
      exact ht
    · replace ht := ht.2 c13
      refine x_bipush (pc2 := 57) (v := 10) (by decide) dX12_numberHere_55 rfl ?_
      refine x_iload (pc2 := 59) 4 (n := 4) (x := x4) rfl dX12_numberHere_57 rfl ?_
      refine x_imul (pc2 := 60) dX12_numberHere_59 rfl ?_
      refine x_aload_n (pc2 := 61) 0 (n := 0) (x := a0) rfl dX12_numberHere_60 rfl ?_
      obtain ⟨q14, e15, ht⟩ := ht
      refine y_getR (pc2 := 64) (κ := 12) (k := 0) fl_X12_7 (by decide) (by decide) (k1.up p4) rfl e15 dX12_numberHere_61 rfl ?_
      refine x_aload_n (pc2 := 65) 0 (n := 0) (x := a0) rfl dX12_numberHere_64 rfl ?_
      refine y_getI (pc2 := 68) (κ := 12) (k := 13) fl_X12_84 (by decide) (by decide) (k1.up p4) rfl dX12_numberHere_65 rfl ?_
      obtain ⟨k16, ht⟩ := ht
      obtain ⟨b17, ht⟩ := ht
      refine x_bald (pc2 := 69) k16 b17 dX12_numberHere_68 rfl ?_
      refine x_iadd (pc2 := 70) dX12_numberHere_69 rfl ?_
      refine x_bipush (pc2 := 72) (v := 48) (by decide) dX12_numberHere_70 rfl ?_
      refine x_isub (pc2 := 73) dX12_numberHere_72 rfl ?_
      refine x_istore (pc2 := 75) [1, 2, 3, 4, 0] (n := 4) (x := (((10 * x4) + (hI h3 q14 (hI h3 a0 13).toNatClampNeg)) - 48)) (lv2 := [(0, .ref a0), (1, .int x1), (2, .int x2), (3, .int x3), (4, .int (((10 * x4) + (hI h3 q14 (hI h3 a0 13).toNatClampNeg)) - 48))]) (by decide) rfl dX12_numberHere_73 rfl ?_
      refine x_aload_n (pc2 := 76) 0 (n := 0) (x := a0) rfl dX12_numberHere_75 rfl ?_
      refine x_dup (pc2 := 77) rfl dX12_numberHere_76 rfl ?_
      refine y_getI (pc2 := 80) (κ := 12) (k := 13) fl_X12_84 (by decide) (by decide) (k1.up p4) rfl dX12_numberHere_77 rfl ?_
      refine x_iconst (pc2 := 81) (v := 1) (by decide) dX12_numberHere_80 rfl ?_
      refine x_iadd (pc2 := 82) dX12_numberHere_81 rfl ?_
      refine x_putI (pc2 := 85) (κ := 12) (k := 13) fl_X12_84 (by decide) (by decide) (Or.inl rfl) rfl (k1.up p4) dX12_numberHere_82 rfl ?_
      refine x_goto 34 dX12_numberHere_85 (by decide) ?_
      exact ht
def T_X12_numberHere_117 (G : GG) (d : Nat) (h : HP) (Q : Option Value → HP → Prop) (a0 : Nat) (x1 : Int32) (x2 : Int32) (x3 : Int32) (x4 : Int32) : Prop :=
  Kd G h a0 12 ∧ Cal G (d - 1) mX12_fails [.ref a0, .int 1, .int x3] h (fun r1 h2 => ∃ v5, r1 = some (.int v5) ∧ ((v5 = 0 → Q (some (.int 0)) h2) ∧ (¬ v5 = 0 → Q (some (.int 1)) h2)))
set_option maxRecDepth 20000 in
theorem t_X12_numberHere_117 {G : GG} {d : Nat} {h : HP} {Q : Option Value → HP → Prop} {a0 : Nat} {x1 : Int32} {x2 : Int32} {x3 : Int32} {x4 : Int32} (hd1 : 1 ≤ d) (ht : T_X12_numberHere_117 G d h Q a0 x1 x2 x3 x4) : Ex G d mX12_numberHere 117 [(0, .ref a0), (1, .int x1), (2, .int x2), (3, .int x3), (4, .int x4)] [] h Q := by
  unfold T_X12_numberHere_117 at ht
  refine x_aload_n (pc2 := 118) 0 (n := 0) (x := a0) rfl dX12_numberHere_117 rfl ?_
  refine x_iconst (pc2 := 119) (v := 1) (by decide) dX12_numberHere_118 rfl ?_
  refine x_iload_n (pc2 := 120) 3 (n := 3) (x := x3) rfl dX12_numberHere_119 rfl ?_
  obtain ⟨k4, ht⟩ := ht
  refine x_callV (pc2 := 123) (As := [.int 1, .int x3]) (rest := []) (b := a0) mv_X12_fails ml_X12_105 k4 rfl rfl (Nat.le_of_ble_eq_true rfl) hd1 dX12_numberHere_120 rfl (ht.mono (fun r1 h2 p3 ht' => ?_))
  clear ht
  obtain ⟨v5, rfl, ht⟩ := ht'
  show Ex G d mX12_numberHere 123 [(0, .ref a0), (1, .int x1), (2, .int x2), (3, .int x3), (4, .int x4)] [.int v5] h2 Q
  refine x_if_eq (pc2 := 126) 130 dX12_numberHere_123 (by decide) rfl (fun c6 => ?_) (fun c6 => ?_)
  · replace ht := ht.1 c6
    refine x_iconst (pc2 := 131) (v := 0) (by decide) dX12_numberHere_130 rfl ?_
    exact x_retZ rfl (Or.inl rfl) dX12_numberHere_131 ht
  · replace ht := ht.2 c6
    refine x_iconst (pc2 := 127) (v := 1) (by decide) dX12_numberHere_126 rfl ?_
    refine x_goto 131 dX12_numberHere_127 (by decide) ?_
    exact x_retZ rfl (Or.inr rfl) dX12_numberHere_131 ht
def T_X12_wordHere (G : GG) (d : Nat) (h : HP) (Q : Option Value → HP → Prop) (a0 : Nat) : Prop :=
  Kd G h a0 12 ∧ Cal G (d - 1) mX12_isWord [.ref a0, .long 1819242087] h (fun r1 h2 => ∃ v5, r1 = some (.int v5) ∧ ((v5 = 0 → Cal G (d - 1) mX12_isWord [.ref a0, .long 512869299304] h2 (fun r7 h8 => ∃ v10, r7 = some (.int v10) ∧ ((v10 = 0 → Cal G (d - 1) mX12_isWord [.ref a0, .long 114784769370228] h8 (fun r12 h13 => ∃ v15, r12 = some (.int v15) ∧ ((v15 = 0 → Cal G (d - 1) mX12_isWord [.ref a0, .long 113741193899620] h13 (fun r17 h18 => ∃ v20, r17 = some (.int v20) ∧ ((v20 = 0 → Cal G (d - 1) mX12_isWord [.ref a0, .long 512970880104] h18 (fun r22 h23 => ∃ v25, r22 = some (.int v25) ∧ ((v25 = 0 → Cal G (d - 1) mX12_isWord [.ref a0, .long 512802712691] h23 (fun r27 h28 => ∃ v30, r27 = some (.int v30) ∧ ((v30 = 0 → Cal G (d - 1) mX12_isWord [.ref a0, .long 491395638642] h28 (fun r32 h33 => ∃ v35, r32 = some (.int v35) ∧ ((v35 = 0 → Cal G (d - 1) mX12_isWord [.ref a0, .long 1684366704] h33 (fun r37 h38 => ∃ v40, r37 = some (.int v40) ∧ ((v40 = 0 → Cal G (d - 1) mX12_isWord [.ref a0, .long 1818848101] h38 (fun r42 h43 => ∃ v45, r42 = some (.int v45) ∧ ((v45 = 0 → Cal G (d - 1) mX12_isWord [.ref a0, .long 7305070] h43 (fun r47 h48 => ∃ v50, r47 = some (.int v50) ∧ ((v50 = 0 → Cal G (d - 1) mX12_isWord [.ref a0, .long 2036687218] h48 (fun r52 h53 => ∃ v55, r52 = some (.int v55) ∧ ((v55 = 0 → Cal G (d - 1) mX12_isWord [.ref a0, .long 7632751] h53 (fun r57 h58 => ∃ v60, r57 = some (.int v60) ∧ ((v60 = 0 → Q (some (.int (-1))) h58) ∧ (¬ v60 = 0 → Q (some (.int 11)) h58)))) ∧ (¬ v55 = 0 → Q (some (.int 10)) h53)))) ∧ (¬ v50 = 0 → Q (some (.int 9)) h48)))) ∧ (¬ v45 = 0 → Q (some (.int 8)) h43)))) ∧ (¬ v40 = 0 → Q (some (.int 7)) h38)))) ∧ (¬ v35 = 0 → Q (some (.int 6)) h33)))) ∧ (¬ v30 = 0 → Q (some (.int 5)) h28)))) ∧ (¬ v25 = 0 → Q (some (.int 4)) h23)))) ∧ (¬ v20 = 0 → Q (some (.int 3)) h18)))) ∧ (¬ v15 = 0 → Q (some (.int 2)) h13)))) ∧ (¬ v10 = 0 → Q (some (.int 1)) h8)))) ∧ (¬ v5 = 0 → Q (some (.int 0)) h2)))
set_option maxRecDepth 20000 in
theorem t_X12_wordHere {G : GG} {d : Nat} {h : HP} {Q : Option Value → HP → Prop} {a0 : Nat} (hd1 : 1 ≤ d) (ht : T_X12_wordHere G d h Q a0) : Ex G d mX12_wordHere 0 [(0, .ref a0)] [] h Q := by
  unfold T_X12_wordHere at ht
  refine x_aload_n (pc2 := 1) 0 (n := 0) (x := a0) rfl dX12_wordHere_0 rfl ?_
  refine x_ldc2 (pc2 := 4) (v := 1819242087) ct_X12_116 dX12_wordHere_1 rfl ?_
  obtain ⟨k4, ht⟩ := ht
  refine x_callV (pc2 := 7) (As := [.long 1819242087]) (rest := []) (b := a0) mv_X12_isWord ml_X12_95 k4 rfl rfl (Nat.le_of_ble_eq_true rfl) hd1 dX12_wordHere_4 rfl (ht.mono (fun r1 h2 p3 ht' => ?_))
  clear ht
  obtain ⟨v5, rfl, ht⟩ := ht'
  show Ex G d mX12_wordHere 7 [(0, .ref a0)] [.int v5] h2 Q
  refine x_if_eq (pc2 := 10) 12 dX12_wordHere_7 (by decide) rfl (fun c6 => ?_) (fun c6 => ?_)
  · replace ht := ht.1 c6
    refine x_aload_n (pc2 := 13) 0 (n := 0) (x := a0) rfl dX12_wordHere_12 rfl ?_
    refine x_ldc2 (pc2 := 16) (v := 512869299304) ct_X12_118 dX12_wordHere_13 rfl ?_
    refine x_callV (pc2 := 19) (As := [.long 512869299304]) (rest := []) (b := a0) mv_X12_isWord ml_X12_95 (k4.up p3) rfl rfl (Nat.le_of_ble_eq_true rfl) hd1 dX12_wordHere_16 rfl (ht.mono (fun r7 h8 p9 ht' => ?_))
    clear ht
    obtain ⟨v10, rfl, ht⟩ := ht'
    show Ex G d mX12_wordHere 19 [(0, .ref a0)] [.int v10] h8 Q
    refine x_if_eq (pc2 := 22) 24 dX12_wordHere_19 (by decide) rfl (fun c11 => ?_) (fun c11 => ?_)
    · replace ht := ht.1 c11
      refine x_aload_n (pc2 := 25) 0 (n := 0) (x := a0) rfl dX12_wordHere_24 rfl ?_
      refine x_ldc2 (pc2 := 28) (v := 114784769370228) ct_X12_120 dX12_wordHere_25 rfl ?_
      refine x_callV (pc2 := 31) (As := [.long 114784769370228]) (rest := []) (b := a0) mv_X12_isWord ml_X12_95 ((k4.up p3).up p9) rfl rfl (Nat.le_of_ble_eq_true rfl) hd1 dX12_wordHere_28 rfl (ht.mono (fun r12 h13 p14 ht' => ?_))
      clear ht
      obtain ⟨v15, rfl, ht⟩ := ht'
      show Ex G d mX12_wordHere 31 [(0, .ref a0)] [.int v15] h13 Q
      refine x_if_eq (pc2 := 34) 36 dX12_wordHere_31 (by decide) rfl (fun c16 => ?_) (fun c16 => ?_)
      · replace ht := ht.1 c16
        refine x_aload_n (pc2 := 37) 0 (n := 0) (x := a0) rfl dX12_wordHere_36 rfl ?_
        refine x_ldc2 (pc2 := 40) (v := 113741193899620) ct_X12_122 dX12_wordHere_37 rfl ?_
        refine x_callV (pc2 := 43) (As := [.long 113741193899620]) (rest := []) (b := a0) mv_X12_isWord ml_X12_95 (((k4.up p3).up p9).up p14) rfl rfl (Nat.le_of_ble_eq_true rfl) hd1 dX12_wordHere_40 rfl (ht.mono (fun r17 h18 p19 ht' => ?_))
        clear ht
        obtain ⟨v20, rfl, ht⟩ := ht'
        show Ex G d mX12_wordHere 43 [(0, .ref a0)] [.int v20] h18 Q
        refine x_if_eq (pc2 := 46) 48 dX12_wordHere_43 (by decide) rfl (fun c21 => ?_) (fun c21 => ?_)
        · replace ht := ht.1 c21
          refine x_aload_n (pc2 := 49) 0 (n := 0) (x := a0) rfl dX12_wordHere_48 rfl ?_
          refine x_ldc2 (pc2 := 52) (v := 512970880104) ct_X12_124 dX12_wordHere_49 rfl ?_
          refine x_callV (pc2 := 55) (As := [.long 512970880104]) (rest := []) (b := a0) mv_X12_isWord ml_X12_95 ((((k4.up p3).up p9).up p14).up p19) rfl rfl (Nat.le_of_ble_eq_true rfl) hd1 dX12_wordHere_52 rfl (ht.mono (fun r22 h23 p24 ht' => ?_))
          clear ht
          obtain ⟨v25, rfl, ht⟩ := ht'
          show Ex G d mX12_wordHere 55 [(0, .ref a0)] [.int v25] h23 Q
          refine x_if_eq (pc2 := 58) 60 dX12_wordHere_55 (by decide) rfl (fun c26 => ?_) (fun c26 => ?_)
          · replace ht := ht.1 c26
            refine x_aload_n (pc2 := 61) 0 (n := 0) (x := a0) rfl dX12_wordHere_60 rfl ?_
            refine x_ldc2 (pc2 := 64) (v := 512802712691) ct_X12_126 dX12_wordHere_61 rfl ?_
            refine x_callV (pc2 := 67) (As := [.long 512802712691]) (rest := []) (b := a0) mv_X12_isWord ml_X12_95 (((((k4.up p3).up p9).up p14).up p19).up p24) rfl rfl (Nat.le_of_ble_eq_true rfl) hd1 dX12_wordHere_64 rfl (ht.mono (fun r27 h28 p29 ht' => ?_))
            clear ht
            obtain ⟨v30, rfl, ht⟩ := ht'
            show Ex G d mX12_wordHere 67 [(0, .ref a0)] [.int v30] h28 Q
            refine x_if_eq (pc2 := 70) 72 dX12_wordHere_67 (by decide) rfl (fun c31 => ?_) (fun c31 => ?_)
            · replace ht := ht.1 c31
              refine x_aload_n (pc2 := 73) 0 (n := 0) (x := a0) rfl dX12_wordHere_72 rfl ?_
              refine x_ldc2 (pc2 := 76) (v := 491395638642) ct_X12_128 dX12_wordHere_73 rfl ?_
              refine x_callV (pc2 := 79) (As := [.long 491395638642]) (rest := []) (b := a0) mv_X12_isWord ml_X12_95 ((((((k4.up p3).up p9).up p14).up p19).up p24).up p29) rfl rfl (Nat.le_of_ble_eq_true rfl) hd1 dX12_wordHere_76 rfl (ht.mono (fun r32 h33 p34 ht' => ?_))
              clear ht
              obtain ⟨v35, rfl, ht⟩ := ht'
              show Ex G d mX12_wordHere 79 [(0, .ref a0)] [.int v35] h33 Q
              refine x_if_eq (pc2 := 82) 85 dX12_wordHere_79 (by decide) rfl (fun c36 => ?_) (fun c36 => ?_)
              · replace ht := ht.1 c36
                refine x_aload_n (pc2 := 86) 0 (n := 0) (x := a0) rfl dX12_wordHere_85 rfl ?_
                refine x_ldc2 (pc2 := 89) (v := 1684366704) ct_X12_130 dX12_wordHere_86 rfl ?_
                refine x_callV (pc2 := 92) (As := [.long 1684366704]) (rest := []) (b := a0) mv_X12_isWord ml_X12_95 (((((((k4.up p3).up p9).up p14).up p19).up p24).up p29).up p34) rfl rfl (Nat.le_of_ble_eq_true rfl) hd1 dX12_wordHere_89 rfl (ht.mono (fun r37 h38 p39 ht' => ?_))
                clear ht
                obtain ⟨v40, rfl, ht⟩ := ht'
                show Ex G d mX12_wordHere 92 [(0, .ref a0)] [.int v40] h38 Q
                refine x_if_eq (pc2 := 95) 98 dX12_wordHere_92 (by decide) rfl (fun c41 => ?_) (fun c41 => ?_)
                · replace ht := ht.1 c41
                  refine x_aload_n (pc2 := 99) 0 (n := 0) (x := a0) rfl dX12_wordHere_98 rfl ?_
                  refine x_ldc2 (pc2 := 102) (v := 1818848101) ct_X12_132 dX12_wordHere_99 rfl ?_
                  refine x_callV (pc2 := 105) (As := [.long 1818848101]) (rest := []) (b := a0) mv_X12_isWord ml_X12_95 ((((((((k4.up p3).up p9).up p14).up p19).up p24).up p29).up p34).up p39) rfl rfl (Nat.le_of_ble_eq_true rfl) hd1 dX12_wordHere_102 rfl (ht.mono (fun r42 h43 p44 ht' => ?_))
                  clear ht
                  obtain ⟨v45, rfl, ht⟩ := ht'
                  show Ex G d mX12_wordHere 105 [(0, .ref a0)] [.int v45] h43 Q
                  refine x_if_eq (pc2 := 108) 111 dX12_wordHere_105 (by decide) rfl (fun c46 => ?_) (fun c46 => ?_)
                  · replace ht := ht.1 c46
                    refine x_aload_n (pc2 := 112) 0 (n := 0) (x := a0) rfl dX12_wordHere_111 rfl ?_
                    refine x_ldc2 (pc2 := 115) (v := 7305070) ct_X12_134 dX12_wordHere_112 rfl ?_
                    refine x_callV (pc2 := 118) (As := [.long 7305070]) (rest := []) (b := a0) mv_X12_isWord ml_X12_95 (((((((((k4.up p3).up p9).up p14).up p19).up p24).up p29).up p34).up p39).up p44) rfl rfl (Nat.le_of_ble_eq_true rfl) hd1 dX12_wordHere_115 rfl (ht.mono (fun r47 h48 p49 ht' => ?_))
                    clear ht
                    obtain ⟨v50, rfl, ht⟩ := ht'
                    show Ex G d mX12_wordHere 118 [(0, .ref a0)] [.int v50] h48 Q
                    refine x_if_eq (pc2 := 121) 124 dX12_wordHere_118 (by decide) rfl (fun c51 => ?_) (fun c51 => ?_)
                    · replace ht := ht.1 c51
                      refine x_aload_n (pc2 := 125) 0 (n := 0) (x := a0) rfl dX12_wordHere_124 rfl ?_
                      refine x_ldc2 (pc2 := 128) (v := 2036687218) ct_X12_136 dX12_wordHere_125 rfl ?_
                      refine x_callV (pc2 := 131) (As := [.long 2036687218]) (rest := []) (b := a0) mv_X12_isWord ml_X12_95 ((((((((((k4.up p3).up p9).up p14).up p19).up p24).up p29).up p34).up p39).up p44).up p49) rfl rfl (Nat.le_of_ble_eq_true rfl) hd1 dX12_wordHere_128 rfl (ht.mono (fun r52 h53 p54 ht' => ?_))
                      clear ht
                      obtain ⟨v55, rfl, ht⟩ := ht'
                      show Ex G d mX12_wordHere 131 [(0, .ref a0)] [.int v55] h53 Q
                      refine x_if_eq (pc2 := 134) 139 dX12_wordHere_131 (by decide) rfl (fun c56 => ?_) (fun c56 => ?_)
                      · replace ht := ht.1 c56
                        refine x_aload_n (pc2 := 140) 0 (n := 0) (x := a0) rfl dX12_wordHere_139 rfl ?_
                        refine x_ldc2 (pc2 := 143) (v := 7632751) ct_X12_138 dX12_wordHere_140 rfl ?_
                        refine x_callV (pc2 := 146) (As := [.long 7632751]) (rest := []) (b := a0) mv_X12_isWord ml_X12_95 (((((((((((k4.up p3).up p9).up p14).up p19).up p24).up p29).up p34).up p39).up p44).up p49).up p54) rfl rfl (Nat.le_of_ble_eq_true rfl) hd1 dX12_wordHere_143 rfl (ht.mono (fun r57 h58 p59 ht' => ?_))
                        clear ht
                        obtain ⟨v60, rfl, ht⟩ := ht'
                        show Ex G d mX12_wordHere 146 [(0, .ref a0)] [.int v60] h58 Q
                        refine x_if_eq (pc2 := 149) 154 dX12_wordHere_146 (by decide) rfl (fun c61 => ?_) (fun c61 => ?_)
                        · replace ht := ht.1 c61
                          refine x_iconst (pc2 := 155) (v := (-1)) (by decide) dX12_wordHere_154 rfl ?_
                          exact x_ret (ty := .int) rfl rfl dX12_wordHere_155 ht
                        · replace ht := ht.2 c61
                          refine x_bipush (pc2 := 151) (v := 11) (by decide) dX12_wordHere_149 rfl ?_
                          refine x_goto 155 dX12_wordHere_151 (by decide) ?_
                          exact x_ret (ty := .int) rfl rfl dX12_wordHere_155 ht
                      · replace ht := ht.2 c56
                        refine x_bipush (pc2 := 136) (v := 10) (by decide) dX12_wordHere_134 rfl ?_
                        refine x_goto 155 dX12_wordHere_136 (by decide) ?_
                        exact x_ret (ty := .int) rfl rfl dX12_wordHere_155 ht
                    · replace ht := ht.2 c51
                      refine x_bipush (pc2 := 123) (v := 9) (by decide) dX12_wordHere_121 rfl ?_
                      exact x_ret (ty := .int) rfl rfl dX12_wordHere_123 ht
                  · replace ht := ht.2 c46
                    refine x_bipush (pc2 := 110) (v := 8) (by decide) dX12_wordHere_108 rfl ?_
                    exact x_ret (ty := .int) rfl rfl dX12_wordHere_110 ht
                · replace ht := ht.2 c41
                  refine x_bipush (pc2 := 97) (v := 7) (by decide) dX12_wordHere_95 rfl ?_
                  exact x_ret (ty := .int) rfl rfl dX12_wordHere_97 ht
              · replace ht := ht.2 c36
                refine x_bipush (pc2 := 84) (v := 6) (by decide) dX12_wordHere_82 rfl ?_
                exact x_ret (ty := .int) rfl rfl dX12_wordHere_84 ht
            · replace ht := ht.2 c31
              refine x_iconst (pc2 := 71) (v := 5) (by decide) dX12_wordHere_70 rfl ?_
              exact x_ret (ty := .int) rfl rfl dX12_wordHere_71 ht
          · replace ht := ht.2 c26
            refine x_iconst (pc2 := 59) (v := 4) (by decide) dX12_wordHere_58 rfl ?_
            exact x_ret (ty := .int) rfl rfl dX12_wordHere_59 ht
        · replace ht := ht.2 c21
          refine x_iconst (pc2 := 47) (v := 3) (by decide) dX12_wordHere_46 rfl ?_
          exact x_ret (ty := .int) rfl rfl dX12_wordHere_47 ht
      · replace ht := ht.2 c16
        refine x_iconst (pc2 := 35) (v := 2) (by decide) dX12_wordHere_34 rfl ?_
        exact x_ret (ty := .int) rfl rfl dX12_wordHere_35 ht
    · replace ht := ht.2 c11
      refine x_iconst (pc2 := 23) (v := 1) (by decide) dX12_wordHere_22 rfl ?_
      exact x_ret (ty := .int) rfl rfl dX12_wordHere_23 ht
  · replace ht := ht.2 c6
    refine x_iconst (pc2 := 11) (v := 0) (by decide) dX12_wordHere_10 rfl ?_
    exact x_ret (ty := .int) rfl rfl dX12_wordHere_11 ht
theorem e_X12_wordHere {G : GG} {d : Nat} {h : HP} {Q : Option Value → HP → Prop} {a0 : Nat} (hd1 : 1 ≤ d) (ht : T_X12_wordHere G d h Q a0) : Cal G d mX12_wordHere [.ref a0] h Q := cal_of rfl (Nat.le_of_ble_eq_true rfl) (t_X12_wordHere hd1 ht)
def T_X12_puts (G : GG) (d : Nat) (h : HP) (Q : Option Value → HP → Prop) (a0 : Nat) (x1 : Int32) (x2 : Int32) : Prop :=
  Kd G h a0 12 ∧ ∃ q2, hR h a0 3 = some q2 ∧ ∃ q4, hR h a0 4 = some q4 ∧ Kd G h q4 14 ∧ vp_in (hI h a0 16) (hN h q4) ∧ Kd G h q2 14 ∧ vp_in ((400 * (hI h a0 16)) + (hI h q4 (hI h a0 16).toNatClampNeg)) (hN h q2) ∧ ∀ h10, h10 = (sI h q2 ((400 * (hI h a0 16)) + (hI h q4 (hI h a0 16).toNatClampNeg)).toNatClampNeg (x1 + (16 * x2))) → vp_in (hI h10 a0 16) (hN h10 q4) ∧ vp_in (hI h10 a0 16) (hN h10 q4) ∧ Q none (sI h10 q4 (hI h10 a0 16).toNatClampNeg ((hI h10 q4 (hI h10 a0 16).toNatClampNeg) + 1))
set_option maxRecDepth 20000 in
theorem t_X12_puts {G : GG} {d : Nat} {h : HP} {Q : Option Value → HP → Prop} {a0 : Nat} {x1 : Int32} {x2 : Int32} (ht : T_X12_puts G d h Q a0 x1 x2) : Ex G d mX12_puts 0 [(0, .ref a0), (1, .int x1), (2, .int x2)] [] h Q := by
  unfold T_X12_puts at ht
  refine x_aload_n (pc2 := 1) 0 (n := 0) (x := a0) rfl dX12_puts_0 rfl ?_
  obtain ⟨k1, ht⟩ := ht
  obtain ⟨q2, e3, ht⟩ := ht
  refine y_getR (pc2 := 4) (κ := 12) (k := 3) fl_X12_17 (by decide) (by decide) k1 rfl e3 dX12_puts_1 rfl ?_
  refine x_sipush (pc2 := 7) (v := 400) (by decide) dX12_puts_4 rfl ?_
  refine x_aload_n (pc2 := 8) 0 (n := 0) (x := a0) rfl dX12_puts_7 rfl ?_
  refine y_getI (pc2 := 11) (κ := 12) (k := 16) fl_X12_140 (by decide) (by decide) k1 rfl dX12_puts_8 rfl ?_
  refine x_imul (pc2 := 12) dX12_puts_11 rfl ?_
  refine x_aload_n (pc2 := 13) 0 (n := 0) (x := a0) rfl dX12_puts_12 rfl ?_
  obtain ⟨q4, e5, ht⟩ := ht
  refine y_getR (pc2 := 16) (κ := 12) (k := 4) fl_X12_20 (by decide) (by decide) k1 rfl e5 dX12_puts_13 rfl ?_
  refine x_aload_n (pc2 := 17) 0 (n := 0) (x := a0) rfl dX12_puts_16 rfl ?_
  refine y_getI (pc2 := 20) (κ := 12) (k := 16) fl_X12_140 (by decide) (by decide) k1 rfl dX12_puts_17 rfl ?_
  obtain ⟨k6, ht⟩ := ht
  obtain ⟨b7, ht⟩ := ht
  refine x_iald (pc2 := 21) k6 b7 dX12_puts_20 rfl ?_
  refine x_iadd (pc2 := 22) dX12_puts_21 rfl ?_
  refine x_iload_n (pc2 := 23) 1 (n := 1) (x := x1) rfl dX12_puts_22 rfl ?_
  refine x_bipush (pc2 := 25) (v := 16) (by decide) dX12_puts_23 rfl ?_
  refine x_iload_n (pc2 := 26) 2 (n := 2) (x := x2) rfl dX12_puts_25 rfl ?_
  refine x_imul (pc2 := 27) dX12_puts_26 rfl ?_
  refine x_iadd (pc2 := 28) dX12_puts_27 rfl ?_
  obtain ⟨k8, ht⟩ := ht
  obtain ⟨b9, ht⟩ := ht
  refine x_iast (pc2 := 29) k8 b9 dX12_puts_28 rfl ?_
  refine nm_I (fun h10 e11 p12 => ?_)
  replace ht := ht h10 e11
  refine x_aload_n (pc2 := 30) 0 (n := 0) (x := a0) rfl dX12_puts_29 rfl ?_
  refine y_getR (pc2 := 33) (κ := 12) (k := 4) fl_X12_20 (by decide) (by decide) (k1.up p12) rfl (by rw [e11]; exact ((hR_sI _ _ _ _ _ _).trans e5)) dX12_puts_30 rfl ?_
  refine x_aload_n (pc2 := 34) 0 (n := 0) (x := a0) rfl dX12_puts_33 rfl ?_
  refine y_getI (pc2 := 37) (κ := 12) (k := 16) fl_X12_140 (by decide) (by decide) (k1.up p12) rfl dX12_puts_34 rfl ?_
  refine x_dup2 (pc2 := 38) rfl rfl dX12_puts_37 rfl ?_
  obtain ⟨b13, ht⟩ := ht
  refine x_iald (pc2 := 39) (k6.up p12) b13 dX12_puts_38 rfl ?_
  refine x_iconst (pc2 := 40) (v := 1) (by decide) dX12_puts_39 rfl ?_
  refine x_iadd (pc2 := 41) dX12_puts_40 rfl ?_
  obtain ⟨b14, ht⟩ := ht
  refine x_iast (pc2 := 42) (k6.up p12) b14 dX12_puts_41 rfl ?_
  exact x_retV rfl dX12_puts_42 ht
theorem e_X12_puts {G : GG} {d : Nat} {h : HP} {Q : Option Value → HP → Prop} {a0 : Nat} {x1 : Int32} {x2 : Int32} (ht : T_X12_puts G d h Q a0 x1 x2) : Cal G d mX12_puts [.ref a0, .int x1, .int x2] h Q := cal_of rfl (Nat.le_of_ble_eq_true rfl) (t_X12_puts ht)
def T_X12_makes (G : GG) (d : Nat) (h : HP) (Q : Option Value → HP → Prop) (a0 : Nat) (x1 : Int32) : Prop :=
  Kd G h a0 12 ∧ ((¬ (hI h a0 17) = 60 → Q (some (.int 1)) (sI h a0 17 ((hI h a0 17) + 1))) ∧ ((hI h a0 17) = 60 → Cal G (d - 1) mX12_fails [.ref a0, .int 3, .int x1] h (fun r3 h4 => ∃ v6, r3 = some (.int v6) ∧ ((v6 = 0 ∨ v6 = 1) ∧ Q (some (.int v6)) h4))))
set_option maxRecDepth 20000 in
theorem t_X12_makes {G : GG} {d : Nat} {h : HP} {Q : Option Value → HP → Prop} {a0 : Nat} {x1 : Int32} (hd1 : 1 ≤ d) (ht : T_X12_makes G d h Q a0 x1) : Ex G d mX12_makes 0 [(0, .ref a0), (1, .int x1)] [] h Q := by
  unfold T_X12_makes at ht
  refine x_aload_n (pc2 := 1) 0 (n := 0) (x := a0) rfl dX12_makes_0 rfl ?_
  obtain ⟨k1, ht⟩ := ht
  refine y_getI (pc2 := 4) (κ := 12) (k := 17) fl_X12_143 (by decide) (by decide) k1 rfl dX12_makes_1 rfl ?_
  refine x_bipush (pc2 := 6) (v := 60) (by decide) dX12_makes_4 rfl ?_
  refine y_icmp_ne (pc2 := 9) 16 dX12_makes_6 (by decide) rfl (fun c2 => ?_) (fun c2 => ?_)
  · replace ht := ht.1 c2
    refine x_aload_n (pc2 := 17) 0 (n := 0) (x := a0) rfl dX12_makes_16 rfl ?_
    refine x_dup (pc2 := 18) rfl dX12_makes_17 rfl ?_
    refine y_getI (pc2 := 21) (κ := 12) (k := 17) fl_X12_143 (by decide) (by decide) k1 rfl dX12_makes_18 rfl ?_
    refine x_iconst (pc2 := 22) (v := 1) (by decide) dX12_makes_21 rfl ?_
    refine x_iadd (pc2 := 23) dX12_makes_22 rfl ?_
    refine x_putI (pc2 := 26) (κ := 12) (k := 17) fl_X12_143 (by decide) (by decide) (Or.inl rfl) rfl k1 dX12_makes_23 rfl ?_
    refine x_iconst (pc2 := 27) (v := 1) (by decide) dX12_makes_26 rfl ?_
    exact x_retZ rfl (Or.inr rfl) dX12_makes_27 ht
  · replace ht := ht.2 c2
    refine x_aload_n (pc2 := 10) 0 (n := 0) (x := a0) rfl dX12_makes_9 rfl ?_
    refine x_iconst (pc2 := 11) (v := 3) (by decide) dX12_makes_10 rfl ?_
    refine x_iload_n (pc2 := 12) 1 (n := 1) (x := x1) rfl dX12_makes_11 rfl ?_
    refine x_callV (pc2 := 15) (As := [.int 3, .int x1]) (rest := []) (b := a0) mv_X12_fails ml_X12_105 k1 rfl rfl (Nat.le_of_ble_eq_true rfl) hd1 dX12_makes_12 rfl (ht.mono (fun r3 h4 p5 ht' => ?_))
    clear ht
    obtain ⟨v6, rfl, ht⟩ := ht'
    show Ex G d mX12_makes 15 [(0, .ref a0), (1, .int x1)] [.int v6] h4 Q
    exact x_retZ rfl ht.1 dX12_makes_15 ht.2
theorem e_X12_makes {G : GG} {d : Nat} {h : HP} {Q : Option Value → HP → Prop} {a0 : Nat} {x1 : Int32} (hd1 : 1 ≤ d) (ht : T_X12_makes G d h Q a0 x1) : Cal G d mX12_makes [.ref a0, .int x1] h Q := cal_of rfl (Nat.le_of_ble_eq_true rfl) (t_X12_makes hd1 ht)
def T_X12_opens (G : GG) (d : Nat) (h : HP) (Q : Option Value → HP → Prop) (a0 : Nat) (x1 : Int32) : Prop :=
  Kd G h a0 12 ∧ ((¬ (hI h a0 18) = 10 → ∃ q3, hR (sI h a0 18 ((hI h a0 18) + 1)) a0 20 = some q3 ∧ Kd G (sI h a0 18 ((hI h a0 18) + 1)) q3 14 ∧ vp_in (hI (sI h a0 18 ((hI h a0 18) + 1)) a0 21) (hN (sI h a0 18 ((hI h a0 18) + 1)) q3) ∧ ∀ h7, h7 = (sI (sI h a0 18 ((hI h a0 18) + 1)) q3 (hI (sI h a0 18 ((hI h a0 18) + 1)) a0 21).toNatClampNeg x1) → Q (some (.int 1)) (sI h7 a0 21 ((hI h7 a0 21) + 1))) ∧ ((hI h a0 18) = 10 → Cal G (d - 1) mX12_fails [.ref a0, .int 2, .int (hI h a0 13)] h (fun r10 h11 => ∃ v13, r10 = some (.int v13) ∧ ((v13 = 0 ∨ v13 = 1) ∧ Q (some (.int v13)) h11))))
set_option maxRecDepth 20000 in
theorem t_X12_opens {G : GG} {d : Nat} {h : HP} {Q : Option Value → HP → Prop} {a0 : Nat} {x1 : Int32} (hd1 : 1 ≤ d) (ht : T_X12_opens G d h Q a0 x1) : Ex G d mX12_opens 0 [(0, .ref a0), (1, .int x1)] [] h Q := by
  unfold T_X12_opens at ht
  refine x_aload_n (pc2 := 1) 0 (n := 0) (x := a0) rfl dX12_opens_0 rfl ?_
  obtain ⟨k1, ht⟩ := ht
  refine y_getI (pc2 := 4) (κ := 12) (k := 18) fl_X12_146 (by decide) (by decide) k1 rfl dX12_opens_1 rfl ?_
  refine x_bipush (pc2 := 6) (v := 10) (by decide) dX12_opens_4 rfl ?_
  refine y_icmp_ne (pc2 := 9) 19 dX12_opens_6 (by decide) rfl (fun c2 => ?_) (fun c2 => ?_)
  · replace ht := ht.1 c2
    refine x_aload_n (pc2 := 20) 0 (n := 0) (x := a0) rfl dX12_opens_19 rfl ?_
    refine x_dup (pc2 := 21) rfl dX12_opens_20 rfl ?_
    refine y_getI (pc2 := 24) (κ := 12) (k := 18) fl_X12_146 (by decide) (by decide) k1 rfl dX12_opens_21 rfl ?_
    refine x_iconst (pc2 := 25) (v := 1) (by decide) dX12_opens_24 rfl ?_
    refine x_iadd (pc2 := 26) dX12_opens_25 rfl ?_
    refine x_putI (pc2 := 29) (κ := 12) (k := 18) fl_X12_146 (by decide) (by decide) (Or.inl rfl) rfl k1 dX12_opens_26 rfl ?_
    refine x_aload_n (pc2 := 30) 0 (n := 0) (x := a0) rfl dX12_opens_29 rfl ?_
    obtain ⟨q3, e4, ht⟩ := ht
    refine y_getR (pc2 := 33) (κ := 12) (k := 20) fl_X12_38 (by decide) (by decide) k1.sI rfl e4 dX12_opens_30 rfl ?_
    refine x_aload_n (pc2 := 34) 0 (n := 0) (x := a0) rfl dX12_opens_33 rfl ?_
    refine y_getI (pc2 := 37) (κ := 12) (k := 21) fl_X12_149 (by decide) (by decide) k1.sI rfl dX12_opens_34 rfl ?_
    refine x_iload_n (pc2 := 38) 1 (n := 1) (x := x1) rfl dX12_opens_37 rfl ?_
    obtain ⟨k5, ht⟩ := ht
    obtain ⟨b6, ht⟩ := ht
    refine x_iast (pc2 := 39) k5 b6 dX12_opens_38 rfl ?_
    refine nm_I (fun h7 e8 p9 => ?_)
    replace ht := ht h7 e8
    refine x_aload_n (pc2 := 40) 0 (n := 0) (x := a0) rfl dX12_opens_39 rfl ?_
    refine x_dup (pc2 := 41) rfl dX12_opens_40 rfl ?_
    refine y_getI (pc2 := 44) (κ := 12) (k := 21) fl_X12_149 (by decide) (by decide) (k1.sI.up p9) rfl dX12_opens_41 rfl ?_
    refine x_iconst (pc2 := 45) (v := 1) (by decide) dX12_opens_44 rfl ?_
    refine x_iadd (pc2 := 46) dX12_opens_45 rfl ?_
    refine x_putI (pc2 := 49) (κ := 12) (k := 21) fl_X12_149 (by decide) (by decide) (Or.inl rfl) rfl (k1.sI.up p9) dX12_opens_46 rfl ?_
    refine x_iconst (pc2 := 50) (v := 1) (by decide) dX12_opens_49 rfl ?_
    exact x_retZ rfl (Or.inr rfl) dX12_opens_50 ht
  · replace ht := ht.2 c2
    refine x_aload_n (pc2 := 10) 0 (n := 0) (x := a0) rfl dX12_opens_9 rfl ?_
    refine x_iconst (pc2 := 11) (v := 2) (by decide) dX12_opens_10 rfl ?_
    refine x_aload_n (pc2 := 12) 0 (n := 0) (x := a0) rfl dX12_opens_11 rfl ?_
    refine y_getI (pc2 := 15) (κ := 12) (k := 13) fl_X12_84 (by decide) (by decide) k1 rfl dX12_opens_12 rfl ?_
    refine x_callV (pc2 := 18) (As := [.int 2, .int (hI h a0 13)]) (rest := []) (b := a0) mv_X12_fails ml_X12_105 k1 rfl rfl (Nat.le_of_ble_eq_true rfl) hd1 dX12_opens_15 rfl (ht.mono (fun r10 h11 p12 ht' => ?_))
    clear ht
    obtain ⟨v13, rfl, ht⟩ := ht'
    show Ex G d mX12_opens 18 [(0, .ref a0), (1, .int x1)] [.int v13] h11 Q
    exact x_retZ rfl ht.1 dX12_opens_18 ht.2
theorem e_X12_opens {G : GG} {d : Nat} {h : HP} {Q : Option Value → HP → Prop} {a0 : Nat} {x1 : Int32} (hd1 : 1 ≤ d) (ht : T_X12_opens G d h Q a0 x1) : Cal G d mX12_opens [.ref a0, .int x1] h Q := cal_of rfl (Nat.le_of_ble_eq_true rfl) (t_X12_opens hd1 ht)
def T_X12_strength (G : GG) (d : Nat) (h : HP) (Q : Option Value → HP → Prop) (x0 : Int32) : Prop :=
  ((¬ x0 = 13 → ((¬ x0 = 12 → ((¬ x0 = 11 → Q (some (.int 0)) h) ∧ (x0 = 11 → Q (some (.int 3)) h))) ∧ (x0 = 12 → Q (some (.int 2)) h))) ∧ (x0 = 13 → Q (some (.int 1)) h))
set_option maxRecDepth 20000 in
theorem t_X12_strength {G : GG} {d : Nat} {h : HP} {Q : Option Value → HP → Prop} {x0 : Int32} (ht : T_X12_strength G d h Q x0) : Ex G d mX12_strength 0 [(0, .int x0)] [] h Q := by
  unfold T_X12_strength at ht
  refine x_iload_n (pc2 := 1) 0 (n := 0) (x := x0) rfl dX12_strength_0 rfl ?_
  refine x_bipush (pc2 := 3) (v := 13) (by decide) dX12_strength_1 rfl ?_
  refine y_icmp_ne (pc2 := 6) 10 dX12_strength_3 (by decide) rfl (fun c1 => ?_) (fun c1 => ?_)
  · replace ht := ht.1 c1
    refine x_iload_n (pc2 := 11) 0 (n := 0) (x := x0) rfl dX12_strength_10 rfl ?_
    refine x_bipush (pc2 := 13) (v := 12) (by decide) dX12_strength_11 rfl ?_
    refine y_icmp_ne (pc2 := 16) 20 dX12_strength_13 (by decide) rfl (fun c2 => ?_) (fun c2 => ?_)
    · replace ht := ht.1 c2
      refine x_iload_n (pc2 := 21) 0 (n := 0) (x := x0) rfl dX12_strength_20 rfl ?_
      refine x_bipush (pc2 := 23) (v := 11) (by decide) dX12_strength_21 rfl ?_
      refine y_icmp_ne (pc2 := 26) 30 dX12_strength_23 (by decide) rfl (fun c3 => ?_) (fun c3 => ?_)
      · replace ht := ht.1 c3
        refine x_iconst (pc2 := 31) (v := 0) (by decide) dX12_strength_30 rfl ?_
        exact x_ret (ty := .int) rfl rfl dX12_strength_31 ht
      · replace ht := ht.2 c3
        refine x_iconst (pc2 := 27) (v := 3) (by decide) dX12_strength_26 rfl ?_
        refine x_goto 31 dX12_strength_27 (by decide) ?_
        exact x_ret (ty := .int) rfl rfl dX12_strength_31 ht
    · replace ht := ht.2 c2
      refine x_iconst (pc2 := 17) (v := 2) (by decide) dX12_strength_16 rfl ?_
      refine x_goto 31 dX12_strength_17 (by decide) ?_
      exact x_ret (ty := .int) rfl rfl dX12_strength_31 ht
  · replace ht := ht.2 c1
    refine x_iconst (pc2 := 7) (v := 1) (by decide) dX12_strength_6 rfl ?_
    refine x_goto 31 dX12_strength_7 (by decide) ?_
    exact x_ret (ty := .int) rfl rfl dX12_strength_31 ht
theorem e_X12_strength {G : GG} {d : Nat} {h : HP} {Q : Option Value → HP → Prop} {x0 : Int32} (ht : T_X12_strength G d h Q x0) : Cal G d mX12_strength [.int x0] h Q := cal_of rfl (Nat.le_of_ble_eq_true rfl) (t_X12_strength ht)
def T_X12_settles (G : GG) (d : Nat) (h : HP) (Q : Option Value → HP → Prop) (a0 : Nat) (x1 : Int32) : Prop :=
  Kd G h a0 12 ∧ (((hI h a0 21) ≤ 0 → Q none h) ∧ (¬ (hI h a0 21) ≤ 0 → ∃ q3, hR h a0 20 = some q3 ∧ Kd G h q3 14 ∧ vp_in ((hI h a0 21) - 1) (hN h q3) ∧ Cal G (d - 1) mX12_strength [.int (hI h q3 ((hI h a0 21) - 1).toNatClampNeg)] h (fun r7 h8 => ∃ v10, r7 = some (.int v10) ∧ ((v10 < x1 → Q none h8) ∧ (¬ v10 < x1 → ∃ q12, hR (sI h8 a0 21 ((hI h8 a0 21) - 1)) a0 20 = some q12 ∧ Kd G (sI h8 a0 21 ((hI h8 a0 21) - 1)) q12 14 ∧ vp_in (hI (sI h8 a0 21 ((hI h8 a0 21) - 1)) a0 21) (hN (sI h8 a0 21 ((hI h8 a0 21) - 1)) q12) ∧ Cal G (d - 1) mX12_puts [.ref a0, .int (hI (sI h8 a0 21 ((hI h8 a0 21) - 1)) q12 (hI (sI h8 a0 21 ((hI h8 a0 21) - 1)) a0 21).toNatClampNeg), .int 0] (sI h8 a0 21 ((hI h8 a0 21) - 1)) (fun r16 h17 => r16 = none ∧ ∃ q19, hR h17 a0 20 = some q19 ∧ Kd G h17 q19 14 ∧ vp_in (hI h17 a0 21) (hN h17 q19) ∧ ((¬ (hI h17 q19 (hI h17 a0 21).toNatClampNeg) = 11 → Ex G d mX12_settles 0 [(0, .ref a0), (1, .int x1)] [] h17 Q) ∧ ((hI h17 q19 (hI h17 a0 21).toNatClampNeg) = 11 → Ex G d mX12_settles 0 [(0, .ref a0), (1, .int x1)] [] (sI h17 a0 18 ((hI h17 a0 18) - 1)) Q))))))))
set_option maxRecDepth 20000 in
theorem t_X12_settles {G : GG} {d : Nat} {h : HP} {Q : Option Value → HP → Prop} {a0 : Nat} {x1 : Int32} (hd1 : 1 ≤ d) (ht : T_X12_settles G d h Q a0 x1) : Ex G d mX12_settles 0 [(0, .ref a0), (1, .int x1)] [] h Q := by
  unfold T_X12_settles at ht
  refine x_aload_n (pc2 := 1) 0 (n := 0) (x := a0) rfl dX12_settles_0 rfl ?_
  obtain ⟨k1, ht⟩ := ht
  refine y_getI (pc2 := 4) (κ := 12) (k := 21) fl_X12_149 (by decide) (by decide) k1 rfl dX12_settles_1 rfl ?_
  refine x_if_le (pc2 := 7) 76 dX12_settles_4 (by decide) rfl (fun c2 => ?_) (fun c2 => ?_)
  · replace ht := ht.1 c2
    exact x_retV rfl dX12_settles_76 ht
  · replace ht := ht.2 c2
    refine x_aload_n (pc2 := 8) 0 (n := 0) (x := a0) rfl dX12_settles_7 rfl ?_
    obtain ⟨q3, e4, ht⟩ := ht
    refine y_getR (pc2 := 11) (κ := 12) (k := 20) fl_X12_38 (by decide) (by decide) k1 rfl e4 dX12_settles_8 rfl ?_
    refine x_aload_n (pc2 := 12) 0 (n := 0) (x := a0) rfl dX12_settles_11 rfl ?_
    refine y_getI (pc2 := 15) (κ := 12) (k := 21) fl_X12_149 (by decide) (by decide) k1 rfl dX12_settles_12 rfl ?_
    refine x_iconst (pc2 := 16) (v := 1) (by decide) dX12_settles_15 rfl ?_
    refine x_isub (pc2 := 17) dX12_settles_16 rfl ?_
    obtain ⟨k5, ht⟩ := ht
    obtain ⟨b6, ht⟩ := ht
    refine x_iald (pc2 := 18) k5 b6 dX12_settles_17 rfl ?_
    refine x_callS (pc2 := 21) (As := [.int (hI h q3 ((hI h a0 21) - 1).toNatClampNeg)]) (rest := []) ms_X12_strength ml_X12_152 rfl rfl (Nat.le_of_ble_eq_true rfl) hd1 dX12_settles_18 rfl (ht.mono (fun r7 h8 p9 ht' => ?_))
    clear ht
    obtain ⟨v10, rfl, ht⟩ := ht'
    show Ex G d mX12_settles 21 [(0, .ref a0), (1, .int x1)] [.int v10] h8 Q
    refine x_iload_n (pc2 := 22) 1 (n := 1) (x := x1) rfl dX12_settles_21 rfl ?_
    refine x_icmp_lt (pc2 := 25) 76 dX12_settles_22 (by decide) rfl (fun c11 => ?_) (fun c11 => ?_)
    · replace ht := ht.1 c11
      exact x_retV rfl dX12_settles_76 ht
    · replace ht := ht.2 c11
      refine x_aload_n (pc2 := 26) 0 (n := 0) (x := a0) rfl dX12_settles_25 rfl ?_
      refine x_dup (pc2 := 27) rfl dX12_settles_26 rfl ?_
      refine y_getI (pc2 := 30) (κ := 12) (k := 21) fl_X12_149 (by decide) (by decide) (k1.up p9) rfl dX12_settles_27 rfl ?_
      refine x_iconst (pc2 := 31) (v := 1) (by decide) dX12_settles_30 rfl ?_
      refine x_isub (pc2 := 32) dX12_settles_31 rfl ?_
      refine x_putI (pc2 := 35) (κ := 12) (k := 21) fl_X12_149 (by decide) (by decide) (Or.inl rfl) rfl (k1.up p9) dX12_settles_32 rfl ?_
      refine x_aload_n (pc2 := 36) 0 (n := 0) (x := a0) rfl dX12_settles_35 rfl ?_
      refine x_aload_n (pc2 := 37) 0 (n := 0) (x := a0) rfl dX12_settles_36 rfl ?_
      obtain ⟨q12, e13, ht⟩ := ht
      refine y_getR (pc2 := 40) (κ := 12) (k := 20) fl_X12_38 (by decide) (by decide) (k1.up p9).sI rfl e13 dX12_settles_37 rfl ?_
      refine x_aload_n (pc2 := 41) 0 (n := 0) (x := a0) rfl dX12_settles_40 rfl ?_
      refine y_getI (pc2 := 44) (κ := 12) (k := 21) fl_X12_149 (by decide) (by decide) (k1.up p9).sI rfl dX12_settles_41 rfl ?_
      obtain ⟨k14, ht⟩ := ht
      obtain ⟨b15, ht⟩ := ht
      refine x_iald (pc2 := 45) k14 b15 dX12_settles_44 rfl ?_
      refine x_iconst (pc2 := 46) (v := 0) (by decide) dX12_settles_45 rfl ?_
      refine x_callV (pc2 := 49) (As := [.int (hI (sI h8 a0 21 ((hI h8 a0 21) - 1)) q12 (hI (sI h8 a0 21 ((hI h8 a0 21) - 1)) a0 21).toNatClampNeg), .int 0]) (rest := []) (b := a0) mv_X12_puts ml_X12_156 (k1.up p9).sI rfl rfl (Nat.le_of_ble_eq_true rfl) hd1 dX12_settles_46 rfl (ht.mono (fun r16 h17 p18 ht' => ?_))
      clear ht
      obtain ⟨rfl, ht⟩ := ht'
      show Ex G d mX12_settles 49 [(0, .ref a0), (1, .int x1)] [] h17 Q
      refine x_aload_n (pc2 := 50) 0 (n := 0) (x := a0) rfl dX12_settles_49 rfl ?_
      obtain ⟨q19, e20, ht⟩ := ht
      refine y_getR (pc2 := 53) (κ := 12) (k := 20) fl_X12_38 (by decide) (by decide) ((k1.up p9).sI.up p18) rfl e20 dX12_settles_50 rfl ?_
      refine x_aload_n (pc2 := 54) 0 (n := 0) (x := a0) rfl dX12_settles_53 rfl ?_
      refine y_getI (pc2 := 57) (κ := 12) (k := 21) fl_X12_149 (by decide) (by decide) ((k1.up p9).sI.up p18) rfl dX12_settles_54 rfl ?_
      obtain ⟨k21, ht⟩ := ht
      obtain ⟨b22, ht⟩ := ht
      refine x_iald (pc2 := 58) k21 b22 dX12_settles_57 rfl ?_
      refine x_bipush (pc2 := 60) (v := 11) (by decide) dX12_settles_58 rfl ?_
      refine y_icmp_ne (pc2 := 63) 0 dX12_settles_60 (by decide) rfl (fun c23 => ?_) (fun c23 => ?_)
      · replace ht := ht.1 c23
        exact ht
      · replace ht := ht.2 c23
        refine x_aload_n (pc2 := 64) 0 (n := 0) (x := a0) rfl dX12_settles_63 rfl ?_
        refine x_dup (pc2 := 65) rfl dX12_settles_64 rfl ?_
        refine y_getI (pc2 := 68) (κ := 12) (k := 18) fl_X12_146 (by decide) (by decide) ((k1.up p9).sI.up p18) rfl dX12_settles_65 rfl ?_
        refine x_iconst (pc2 := 69) (v := 1) (by decide) dX12_settles_68 rfl ?_
        refine x_isub (pc2 := 70) dX12_settles_69 rfl ?_
        refine x_putI (pc2 := 73) (κ := 12) (k := 18) fl_X12_146 (by decide) (by decide) (Or.inl rfl) rfl ((k1.up p9).sI.up p18) dX12_settles_70 rfl ?_
        refine x_goto 0 dX12_settles_73 (by decide) ?_
        exact ht
theorem e_X12_settles {G : GG} {d : Nat} {h : HP} {Q : Option Value → HP → Prop} {a0 : Nat} {x1 : Int32} (hd1 : 1 ≤ d) (ht : T_X12_settles G d h Q a0 x1) : Cal G d mX12_settles [.ref a0, .int x1] h Q := cal_of rfl (Nat.le_of_ble_eq_true rfl) (t_X12_settles hd1 ht)
def T_X12_value (G : GG) (d : Nat) (h : HP) (Q : Option Value → HP → Prop) (a0 : Nat) : Prop :=
  Kd G h a0 12 ∧ Cal G (d - 1) mX12_see [.ref a0] h (fun r1 h2 => ∃ v5, r1 = some (.int v5) ∧ Cal G (d - 1) mX12_isDigit [.ref a0, .int (hI h2 a0 13)] h2 (fun r6 h7 => ∃ v9, r6 = some (.int v9) ∧ ((v9 = 0 → Cal G (d - 1) mX12_wordHere [.ref a0] h7 (fun r11 h12 => ∃ v14, r11 = some (.int v14) ∧ ((0 ≤ v14 → Cal G (d - 1) mX12_makes [.ref a0, .int (hI h2 a0 13)] h12 (fun r16 h17 => ∃ v19, r16 = some (.int v19) ∧ ((¬ v19 = 0 → Cal G (d - 1) mX12_passWord [.ref a0] h17 (fun r21 h22 => r21 = none ∧ Cal G (d - 1) mX12_puts [.ref a0, .int 1, .int v14] h22 (fun r24 h25 => r24 = none ∧ Q (some (.int 1)) h25))) ∧ (v19 = 0 → Q (some (.int 0)) h17)))) ∧ (¬ 0 ≤ v14 → Cal G (d - 1) mX12_fails [.ref a0, .int 0, .int (hI h2 a0 13)] h12 (fun r27 h28 => ∃ v30, r27 = some (.int v30) ∧ ((v30 = 0 ∨ v30 = 1) ∧ Q (some (.int v30)) h28)))))) ∧ (¬ v9 = 0 → Cal G (d - 1) mX12_numberHere [.ref a0, .int 0, .int 99999] h7 (fun r31 h32 => ∃ v34, r31 = some (.int v34) ∧ ((v34 = 0 → Q (some (.int 0)) h32) ∧ (¬ v34 = 0 → Cal G (d - 1) mX12_makes [.ref a0, .int (hI h2 a0 13)] h32 (fun r36 h37 => ∃ v39, r36 = some (.int v39) ∧ ((¬ v39 = 0 → Cal G (d - 1) mX12_puts [.ref a0, .int 0, .int (hI h37 a0 15)] h37 (fun r41 h42 => r41 = none ∧ Q (some (.int 1)) h42)) ∧ (v39 = 0 → Q (some (.int 0)) h37))))))))))
set_option maxRecDepth 20000 in
theorem t_X12_value {G : GG} {d : Nat} {h : HP} {Q : Option Value → HP → Prop} {a0 : Nat} (hd1 : 1 ≤ d) (ht : T_X12_value G d h Q a0) : Ex G d mX12_value 0 [(0, .ref a0)] [] h Q := by
  unfold T_X12_value at ht
  refine x_aload_n (pc2 := 1) 0 (n := 0) (x := a0) rfl dX12_value_0 rfl ?_
  obtain ⟨k4, ht⟩ := ht
  refine x_callV (pc2 := 4) (As := []) (rest := []) (b := a0) mv_X12_see ml_X12_87 k4 rfl rfl (Nat.le_of_ble_eq_true rfl) hd1 dX12_value_1 rfl (ht.mono (fun r1 h2 p3 ht' => ?_))
  clear ht
  obtain ⟨v5, rfl, ht⟩ := ht'
  show Ex G d mX12_value 4 [(0, .ref a0)] [.int v5] h2 Q
  refine x_pop (pc2 := 5) rfl dX12_value_4 rfl ?_
  refine x_aload_n (pc2 := 6) 0 (n := 0) (x := a0) rfl dX12_value_5 rfl ?_
  refine y_getI (pc2 := 9) (κ := 12) (k := 13) fl_X12_84 (by decide) (by decide) (k4.up p3) rfl dX12_value_6 rfl ?_
  refine x_istore_n (pc2 := 10) [1, 0] (n := 1) (x := (hI h2 a0 13)) (lv2 := [(0, .ref a0), (1, .int (hI h2 a0 13))]) (by decide) rfl dX12_value_9 rfl ?_
  refine x_aload_n (pc2 := 11) 0 (n := 0) (x := a0) rfl dX12_value_10 rfl ?_
  refine x_aload_n (pc2 := 12) 0 (n := 0) (x := a0) rfl dX12_value_11 rfl ?_
  refine y_getI (pc2 := 15) (κ := 12) (k := 13) fl_X12_84 (by decide) (by decide) (k4.up p3) rfl dX12_value_12 rfl ?_
  refine x_callV (pc2 := 18) (As := [.int (hI h2 a0 13)]) (rest := []) (b := a0) mv_X12_isDigit ml_X12_102 (k4.up p3) rfl rfl (Nat.le_of_ble_eq_true rfl) hd1 dX12_value_15 rfl (ht.mono (fun r6 h7 p8 ht' => ?_))
  clear ht
  obtain ⟨v9, rfl, ht⟩ := ht'
  show Ex G d mX12_value 18 [(0, .ref a0), (1, .int (hI h2 a0 13))] [.int v9] h7 Q
  refine x_if_eq (pc2 := 21) 52 dX12_value_18 (by decide) rfl (fun c10 => ?_) (fun c10 => ?_)
  · replace ht := ht.1 c10
    refine x_aload_n (pc2 := 53) 0 (n := 0) (x := a0) rfl dX12_value_52 rfl ?_
    refine x_callV (pc2 := 56) (As := []) (rest := []) (b := a0) mv_X12_wordHere ml_X12_167 ((k4.up p3).up p8) rfl rfl (Nat.le_of_ble_eq_true rfl) hd1 dX12_value_53 rfl (ht.mono (fun r11 h12 p13 ht' => ?_))
    clear ht
    obtain ⟨v14, rfl, ht⟩ := ht'
    show Ex G d mX12_value 56 [(0, .ref a0), (1, .int (hI h2 a0 13))] [.int v14] h12 Q
    refine x_istore_n (pc2 := 57) [1, 2, 0] (n := 2) (x := v14) (lv2 := [(0, .ref a0), (1, .int (hI h2 a0 13)), (2, .int v14)]) (by decide) rfl dX12_value_56 rfl ?_
    refine x_iload_n (pc2 := 58) 2 (n := 2) (x := v14) rfl dX12_value_57 rfl ?_
    refine x_if_ge (pc2 := 61) 68 dX12_value_58 (by decide) rfl (fun c15 => ?_) (fun c15 => ?_)
    · replace ht := ht.1 c15
      refine x_aload_n (pc2 := 69) 0 (n := 0) (x := a0) rfl dX12_value_68 rfl ?_
      refine x_iload_n (pc2 := 70) 1 (n := 1) (x := (hI h2 a0 13)) rfl dX12_value_69 rfl ?_
      refine x_callV (pc2 := 73) (As := [.int (hI h2 a0 13)]) (rest := []) (b := a0) mv_X12_makes ml_X12_164 (((k4.up p3).up p8).up p13) rfl rfl (Nat.le_of_ble_eq_true rfl) hd1 dX12_value_70 rfl (ht.mono (fun r16 h17 p18 ht' => ?_))
      clear ht
      obtain ⟨v19, rfl, ht⟩ := ht'
      show Ex G d mX12_value 73 [(0, .ref a0), (1, .int (hI h2 a0 13)), (2, .int v14)] [.int v19] h17 Q
      refine y_if_ne (pc2 := 76) 78 dX12_value_73 (by decide) rfl (fun c20 => ?_) (fun c20 => ?_)
      · replace ht := ht.1 c20
        refine x_aload_n (pc2 := 79) 0 (n := 0) (x := a0) rfl dX12_value_78 rfl ?_
        refine x_callV (pc2 := 82) (As := []) (rest := []) (b := a0) mv_X12_passWord ml_X12_99 ((((k4.up p3).up p8).up p13).up p18) rfl rfl (Nat.le_of_ble_eq_true rfl) hd1 dX12_value_79 rfl (ht.mono (fun r21 h22 p23 ht' => ?_))
        clear ht
        obtain ⟨rfl, ht⟩ := ht'
        show Ex G d mX12_value 82 [(0, .ref a0), (1, .int (hI h2 a0 13)), (2, .int v14)] [] h22 Q
        refine x_aload_n (pc2 := 83) 0 (n := 0) (x := a0) rfl dX12_value_82 rfl ?_
        refine x_iconst (pc2 := 84) (v := 1) (by decide) dX12_value_83 rfl ?_
        refine x_iload_n (pc2 := 85) 2 (n := 2) (x := v14) rfl dX12_value_84 rfl ?_
        refine x_callV (pc2 := 88) (As := [.int 1, .int v14]) (rest := []) (b := a0) mv_X12_puts ml_X12_156 (((((k4.up p3).up p8).up p13).up p18).up p23) rfl rfl (Nat.le_of_ble_eq_true rfl) hd1 dX12_value_85 rfl (ht.mono (fun r24 h25 p26 ht' => ?_))
        clear ht
        obtain ⟨rfl, ht⟩ := ht'
        show Ex G d mX12_value 88 [(0, .ref a0), (1, .int (hI h2 a0 13)), (2, .int v14)] [] h25 Q
        refine x_iconst (pc2 := 89) (v := 1) (by decide) dX12_value_88 rfl ?_
        exact x_retZ rfl (Or.inr rfl) dX12_value_89 ht
      · replace ht := ht.2 c20
        refine x_iconst (pc2 := 77) (v := 0) (by decide) dX12_value_76 rfl ?_
        exact x_retZ rfl (Or.inl rfl) dX12_value_77 ht
    · replace ht := ht.2 c15
      refine x_aload_n (pc2 := 62) 0 (n := 0) (x := a0) rfl dX12_value_61 rfl ?_
      refine x_iconst (pc2 := 63) (v := 0) (by decide) dX12_value_62 rfl ?_
      refine x_iload_n (pc2 := 64) 1 (n := 1) (x := (hI h2 a0 13)) rfl dX12_value_63 rfl ?_
      refine x_callV (pc2 := 67) (As := [.int 0, .int (hI h2 a0 13)]) (rest := []) (b := a0) mv_X12_fails ml_X12_105 (((k4.up p3).up p8).up p13) rfl rfl (Nat.le_of_ble_eq_true rfl) hd1 dX12_value_64 rfl (ht.mono (fun r27 h28 p29 ht' => ?_))
      clear ht
      obtain ⟨v30, rfl, ht⟩ := ht'
      show Ex G d mX12_value 67 [(0, .ref a0), (1, .int (hI h2 a0 13)), (2, .int v14)] [.int v30] h28 Q
      exact x_retZ rfl ht.1 dX12_value_67 ht.2
  · replace ht := ht.2 c10
    refine x_aload_n (pc2 := 22) 0 (n := 0) (x := a0) rfl dX12_value_21 rfl ?_
    refine x_iconst (pc2 := 23) (v := 0) (by decide) dX12_value_22 rfl ?_
    refine x_ldc (pc2 := 25) (v := 99999) ct_X12_160 dX12_value_23 rfl ?_
    refine x_callV (pc2 := 28) (As := [.int 0, .int 99999]) (rest := []) (b := a0) mv_X12_numberHere ml_X12_161 ((k4.up p3).up p8) rfl rfl (Nat.le_of_ble_eq_true rfl) hd1 dX12_value_25 rfl (ht.mono (fun r31 h32 p33 ht' => ?_))
    clear ht
    obtain ⟨v34, rfl, ht⟩ := ht'
    show Ex G d mX12_value 28 [(0, .ref a0), (1, .int (hI h2 a0 13))] [.int v34] h32 Q
    refine x_if_eq (pc2 := 31) 39 dX12_value_28 (by decide) rfl (fun c35 => ?_) (fun c35 => ?_)
    · replace ht := ht.1 c35
      refine x_iconst (pc2 := 40) (v := 0) (by decide) dX12_value_39 rfl ?_
      exact x_retZ rfl (Or.inl rfl) dX12_value_40 ht
    · replace ht := ht.2 c35
      refine x_aload_n (pc2 := 32) 0 (n := 0) (x := a0) rfl dX12_value_31 rfl ?_
      refine x_iload_n (pc2 := 33) 1 (n := 1) (x := (hI h2 a0 13)) rfl dX12_value_32 rfl ?_
      refine x_callV (pc2 := 36) (As := [.int (hI h2 a0 13)]) (rest := []) (b := a0) mv_X12_makes ml_X12_164 (((k4.up p3).up p8).up p33) rfl rfl (Nat.le_of_ble_eq_true rfl) hd1 dX12_value_33 rfl (ht.mono (fun r36 h37 p38 ht' => ?_))
      clear ht
      obtain ⟨v39, rfl, ht⟩ := ht'
      show Ex G d mX12_value 36 [(0, .ref a0), (1, .int (hI h2 a0 13))] [.int v39] h37 Q
      refine y_if_ne (pc2 := 39) 41 dX12_value_36 (by decide) rfl (fun c40 => ?_) (fun c40 => ?_)
      · replace ht := ht.1 c40
        refine x_aload_n (pc2 := 42) 0 (n := 0) (x := a0) rfl dX12_value_41 rfl ?_
        refine x_iconst (pc2 := 43) (v := 0) (by decide) dX12_value_42 rfl ?_
        refine x_aload_n (pc2 := 44) 0 (n := 0) (x := a0) rfl dX12_value_43 rfl ?_
        refine y_getI (pc2 := 47) (κ := 12) (k := 15) fl_X12_109 (by decide) (by decide) ((((k4.up p3).up p8).up p33).up p38) rfl dX12_value_44 rfl ?_
        refine x_callV (pc2 := 50) (As := [.int 0, .int (hI h37 a0 15)]) (rest := []) (b := a0) mv_X12_puts ml_X12_156 ((((k4.up p3).up p8).up p33).up p38) rfl rfl (Nat.le_of_ble_eq_true rfl) hd1 dX12_value_47 rfl (ht.mono (fun r41 h42 p43 ht' => ?_))
        clear ht
        obtain ⟨rfl, ht⟩ := ht'
        show Ex G d mX12_value 50 [(0, .ref a0), (1, .int (hI h2 a0 13))] [] h42 Q
        refine x_iconst (pc2 := 51) (v := 1) (by decide) dX12_value_50 rfl ?_
        exact x_retZ rfl (Or.inr rfl) dX12_value_51 ht
      · replace ht := ht.2 c40
        refine x_iconst (pc2 := 40) (v := 0) (by decide) dX12_value_39 rfl ?_
        exact x_retZ rfl (Or.inl rfl) dX12_value_40 ht
theorem e_X12_value {G : GG} {d : Nat} {h : HP} {Q : Option Value → HP → Prop} {a0 : Nat} (hd1 : 1 ≤ d) (ht : T_X12_value G d h Q a0) : Cal G d mX12_value [.ref a0] h Q := cal_of rfl (Nat.le_of_ble_eq_true rfl) (t_X12_value hd1 ht)
def T_X12_term (G : GG) (d : Nat) (h : HP) (Q : Option Value → HP → Prop) (a0 : Nat) : Prop :=
  Kd G h a0 12 ∧ Cal G (d - 1) mX12_value [.ref a0] h (fun r1 h2 => ∃ v5, r1 = some (.int v5) ∧ ((¬ v5 = 0 → Ex G d mX12_term 9 [(0, .ref a0)] [] h2 Q) ∧ (v5 = 0 → Q (some (.int 0)) h2)))
set_option maxRecDepth 20000 in
theorem t_X12_term {G : GG} {d : Nat} {h : HP} {Q : Option Value → HP → Prop} {a0 : Nat} (hd1 : 1 ≤ d) (ht : T_X12_term G d h Q a0) : Ex G d mX12_term 0 [(0, .ref a0)] [] h Q := by
  unfold T_X12_term at ht
  refine x_aload_n (pc2 := 1) 0 (n := 0) (x := a0) rfl dX12_term_0 rfl ?_
  obtain ⟨k4, ht⟩ := ht
  refine x_callV (pc2 := 4) (As := []) (rest := []) (b := a0) mv_X12_value ml_X12_170 k4 rfl rfl (Nat.le_of_ble_eq_true rfl) hd1 dX12_term_1 rfl (ht.mono (fun r1 h2 p3 ht' => ?_))
  clear ht
  obtain ⟨v5, rfl, ht⟩ := ht'
  show Ex G d mX12_term 4 [(0, .ref a0)] [.int v5] h2 Q
  refine y_if_ne (pc2 := 7) 9 dX12_term_4 (by decide) rfl (fun c6 => ?_) (fun c6 => ?_)
  · replace ht := ht.1 c6
    exact ht
  · replace ht := ht.2 c6
    refine x_iconst (pc2 := 8) (v := 0) (by decide) dX12_term_7 rfl ?_
    exact x_retZ rfl (Or.inl rfl) dX12_term_8 ht
theorem e_X12_term {G : GG} {d : Nat} {h : HP} {Q : Option Value → HP → Prop} {a0 : Nat} (hd1 : 1 ≤ d) (ht : T_X12_term G d h Q a0) : Cal G d mX12_term [.ref a0] h Q := cal_of rfl (Nat.le_of_ble_eq_true rfl) (t_X12_term hd1 ht)
def T_X12_term_9 (G : GG) (d : Nat) (h : HP) (Q : Option Value → HP → Prop) (a0 : Nat) : Prop :=
  Kd G h a0 12 ∧ Cal G (d - 1) mX12_see [.ref a0] h (fun r1 h2 => ∃ v5, r1 = some (.int v5) ∧ ((v5 = 42 → Ex G d mX12_term 27 [(0, .ref a0)] [] h2 Q) ∧ (¬ v5 = 42 → Cal G (d - 1) mX12_see [.ref a0] h2 (fun r7 h8 => ∃ v10, r7 = some (.int v10) ∧ ((¬ v10 = 47 → Q (some (.int 1)) h8) ∧ (v10 = 47 → Ex G d mX12_term 27 [(0, .ref a0)] [] h8 Q))))))
set_option maxRecDepth 20000 in
theorem t_X12_term_9 {G : GG} {d : Nat} {h : HP} {Q : Option Value → HP → Prop} {a0 : Nat} (hd1 : 1 ≤ d) (ht : T_X12_term_9 G d h Q a0) : Ex G d mX12_term 9 [(0, .ref a0)] [] h Q := by
  unfold T_X12_term_9 at ht
  refine x_aload_n (pc2 := 10) 0 (n := 0) (x := a0) rfl dX12_term_9 rfl ?_
  obtain ⟨k4, ht⟩ := ht
  refine x_callV (pc2 := 13) (As := []) (rest := []) (b := a0) mv_X12_see ml_X12_87 k4 rfl rfl (Nat.le_of_ble_eq_true rfl) hd1 dX12_term_10 rfl (ht.mono (fun r1 h2 p3 ht' => ?_))
  clear ht
  obtain ⟨v5, rfl, ht⟩ := ht'
  show Ex G d mX12_term 13 [(0, .ref a0)] [.int v5] h2 Q
  refine x_bipush (pc2 := 15) (v := 42) (by decide) dX12_term_13 rfl ?_
  refine x_icmp_eq (pc2 := 18) 27 dX12_term_15 (by decide) rfl (fun c6 => ?_) (fun c6 => ?_)
  · replace ht := ht.1 c6
    exact ht
  · replace ht := ht.2 c6
    refine x_aload_n (pc2 := 19) 0 (n := 0) (x := a0) rfl dX12_term_18 rfl ?_
    refine x_callV (pc2 := 22) (As := []) (rest := []) (b := a0) mv_X12_see ml_X12_87 (k4.up p3) rfl rfl (Nat.le_of_ble_eq_true rfl) hd1 dX12_term_19 rfl (ht.mono (fun r7 h8 p9 ht' => ?_))
    clear ht
    obtain ⟨v10, rfl, ht⟩ := ht'
    show Ex G d mX12_term 22 [(0, .ref a0)] [.int v10] h8 Q
    refine x_bipush (pc2 := 24) (v := 47) (by decide) dX12_term_22 rfl ?_
    refine y_icmp_ne (pc2 := 27) 75 dX12_term_24 (by decide) rfl (fun c11 => ?_) (fun c11 => ?_)
    · replace ht := ht.1 c11
      refine x_iconst (pc2 := 76) (v := 1) (by decide) dX12_term_75 rfl ?_
      exact x_retZ rfl (Or.inr rfl) dX12_term_76 ht
    · replace ht := ht.2 c11
      exact ht
def T_X12_term_27 (G : GG) (d : Nat) (h : HP) (Q : Option Value → HP → Prop) (a0 : Nat) : Prop :=
  Kd G h a0 12 ∧ ∃ q2, hR h a0 0 = some q2 ∧ Kd G h q2 13 ∧ vp_in (hI h a0 13) (hN h q2) ∧ ((¬ (hI h q2 (hI h a0 13).toNatClampNeg) = 42 → Ex G d mX12_term 46 [(0, .ref a0)] [.int 5] h Q) ∧ ((hI h q2 (hI h a0 13).toNatClampNeg) = 42 → Ex G d mX12_term 46 [(0, .ref a0)] [.int 4] h Q))
set_option maxRecDepth 20000 in
theorem t_X12_term_27 {G : GG} {d : Nat} {h : HP} {Q : Option Value → HP → Prop} {a0 : Nat} (ht : T_X12_term_27 G d h Q a0) : Ex G d mX12_term 27 [(0, .ref a0)] [] h Q := by
  unfold T_X12_term_27 at ht
  refine x_aload_n (pc2 := 28) 0 (n := 0) (x := a0) rfl dX12_term_27 rfl ?_
  obtain ⟨k1, ht⟩ := ht
  obtain ⟨q2, e3, ht⟩ := ht
  refine y_getR (pc2 := 31) (κ := 12) (k := 0) fl_X12_7 (by decide) (by decide) k1 rfl e3 dX12_term_28 rfl ?_
  refine x_aload_n (pc2 := 32) 0 (n := 0) (x := a0) rfl dX12_term_31 rfl ?_
  refine y_getI (pc2 := 35) (κ := 12) (k := 13) fl_X12_84 (by decide) (by decide) k1 rfl dX12_term_32 rfl ?_
  obtain ⟨k4, ht⟩ := ht
  obtain ⟨b5, ht⟩ := ht
  refine x_bald (pc2 := 36) k4 b5 dX12_term_35 rfl ?_
  refine x_bipush (pc2 := 38) (v := 42) (by decide) dX12_term_36 rfl ?_
  refine y_icmp_ne (pc2 := 41) 45 dX12_term_38 (by decide) rfl (fun c6 => ?_) (fun c6 => ?_)
  · replace ht := ht.1 c6
    refine x_iconst (pc2 := 46) (v := 5) (by decide) dX12_term_45 rfl ?_
    exact ht
  · replace ht := ht.2 c6
    refine x_iconst (pc2 := 42) (v := 4) (by decide) dX12_term_41 rfl ?_
    refine x_goto 46 dX12_term_42 (by decide) ?_
    exact ht
def T_X12_term_46 (G : GG) (d : Nat) (h : HP) (Q : Option Value → HP → Prop) (a0 : Nat) (sx0 : Int32) : Prop :=
  Kd G h a0 12 ∧ Cal G (d - 1) mX12_value [.ref a0] (sI h a0 13 ((hI h a0 13) + 1)) (fun r2 h3 => ∃ v5, r2 = some (.int v5) ∧ ((¬ v5 = 0 → Cal G (d - 1) mX12_puts [.ref a0, .int sx0, .int 0] h3 (fun r7 h8 => r7 = none ∧ Ex G d mX12_term 9 [(0, .ref a0)] [] h8 Q)) ∧ (v5 = 0 → Q (some (.int 0)) h3)))
set_option maxRecDepth 20000 in
theorem t_X12_term_46 {G : GG} {d : Nat} {h : HP} {Q : Option Value → HP → Prop} {a0 : Nat} {sx0 : Int32} (hd1 : 1 ≤ d) (ht : T_X12_term_46 G d h Q a0 sx0) : Ex G d mX12_term 46 [(0, .ref a0)] [.int sx0] h Q := by
  unfold T_X12_term_46 at ht
  refine x_istore_n (pc2 := 47) [1, 0] (n := 1) (x := sx0) (lv2 := [(0, .ref a0), (1, .int sx0)]) (by decide) rfl dX12_term_46 rfl ?_
  refine x_aload_n (pc2 := 48) 0 (n := 0) (x := a0) rfl dX12_term_47 rfl ?_
  refine x_dup (pc2 := 49) rfl dX12_term_48 rfl ?_
  obtain ⟨k1, ht⟩ := ht
  refine y_getI (pc2 := 52) (κ := 12) (k := 13) fl_X12_84 (by decide) (by decide) k1 rfl dX12_term_49 rfl ?_
  refine x_iconst (pc2 := 53) (v := 1) (by decide) dX12_term_52 rfl ?_
  refine x_iadd (pc2 := 54) dX12_term_53 rfl ?_
  refine x_putI (pc2 := 57) (κ := 12) (k := 13) fl_X12_84 (by decide) (by decide) (Or.inl rfl) rfl k1 dX12_term_54 rfl ?_
  refine x_aload_n (pc2 := 58) 0 (n := 0) (x := a0) rfl dX12_term_57 rfl ?_
  refine x_callV (pc2 := 61) (As := []) (rest := []) (b := a0) mv_X12_value ml_X12_170 k1.sI rfl rfl (Nat.le_of_ble_eq_true rfl) hd1 dX12_term_58 rfl (ht.mono (fun r2 h3 p4 ht' => ?_))
  clear ht
  obtain ⟨v5, rfl, ht⟩ := ht'
  show Ex G d mX12_term 61 [(0, .ref a0), (1, .int sx0)] [.int v5] h3 Q
  refine y_if_ne (pc2 := 64) 66 dX12_term_61 (by decide) rfl (fun c6 => ?_) (fun c6 => ?_)
  · replace ht := ht.1 c6
    refine x_aload_n (pc2 := 67) 0 (n := 0) (x := a0) rfl dX12_term_66 rfl ?_
    refine x_iload_n (pc2 := 68) 1 (n := 1) (x := sx0) rfl dX12_term_67 rfl ?_
    refine x_iconst (pc2 := 69) (v := 0) (by decide) dX12_term_68 rfl ?_
    refine x_callV (pc2 := 72) (As := [.int sx0, .int 0]) (rest := []) (b := a0) mv_X12_puts ml_X12_156 (k1.sI.up p4) rfl rfl (Nat.le_of_ble_eq_true rfl) hd1 dX12_term_69 rfl (ht.mono (fun r7 h8 p9 ht' => ?_))
    clear ht
    obtain ⟨rfl, ht⟩ := ht'
    show Ex G d mX12_term 72 [(0, .ref a0), (1, .int sx0)] [] h8 Q
    refine x_goto 9 dX12_term_72 (by decide) ?_
    refine x_sub [0] (lv2 := [(0, .ref a0)]) rfl ?_
    exact ht
  · replace ht := ht.2 c6
    refine x_iconst (pc2 := 65) (v := 0) (by decide) dX12_term_64 rfl ?_
    exact x_retZ rfl (Or.inl rfl) dX12_term_65 ht
def T_X12_sum (G : GG) (d : Nat) (h : HP) (Q : Option Value → HP → Prop) (a0 : Nat) : Prop :=
  Kd G h a0 12 ∧ Cal G (d - 1) mX12_term [.ref a0] h (fun r1 h2 => ∃ v5, r1 = some (.int v5) ∧ ((¬ v5 = 0 → Ex G d mX12_sum 9 [(0, .ref a0)] [] h2 Q) ∧ (v5 = 0 → Q (some (.int 0)) h2)))
set_option maxRecDepth 20000 in
theorem t_X12_sum {G : GG} {d : Nat} {h : HP} {Q : Option Value → HP → Prop} {a0 : Nat} (hd1 : 1 ≤ d) (ht : T_X12_sum G d h Q a0) : Ex G d mX12_sum 0 [(0, .ref a0)] [] h Q := by
  unfold T_X12_sum at ht
  refine x_aload_n (pc2 := 1) 0 (n := 0) (x := a0) rfl dX12_sum_0 rfl ?_
  obtain ⟨k4, ht⟩ := ht
  refine x_callV (pc2 := 4) (As := []) (rest := []) (b := a0) mv_X12_term ml_X12_174 k4 rfl rfl (Nat.le_of_ble_eq_true rfl) hd1 dX12_sum_1 rfl (ht.mono (fun r1 h2 p3 ht' => ?_))
  clear ht
  obtain ⟨v5, rfl, ht⟩ := ht'
  show Ex G d mX12_sum 4 [(0, .ref a0)] [.int v5] h2 Q
  refine y_if_ne (pc2 := 7) 9 dX12_sum_4 (by decide) rfl (fun c6 => ?_) (fun c6 => ?_)
  · replace ht := ht.1 c6
    exact ht
  · replace ht := ht.2 c6
    refine x_iconst (pc2 := 8) (v := 0) (by decide) dX12_sum_7 rfl ?_
    exact x_retZ rfl (Or.inl rfl) dX12_sum_8 ht
theorem e_X12_sum {G : GG} {d : Nat} {h : HP} {Q : Option Value → HP → Prop} {a0 : Nat} (hd1 : 1 ≤ d) (ht : T_X12_sum G d h Q a0) : Cal G d mX12_sum [.ref a0] h Q := cal_of rfl (Nat.le_of_ble_eq_true rfl) (t_X12_sum hd1 ht)
def T_X12_sum_9 (G : GG) (d : Nat) (h : HP) (Q : Option Value → HP → Prop) (a0 : Nat) : Prop :=
  Kd G h a0 12 ∧ Cal G (d - 1) mX12_see [.ref a0] h (fun r1 h2 => ∃ v5, r1 = some (.int v5) ∧ ((v5 = 43 → Ex G d mX12_sum 27 [(0, .ref a0)] [] h2 Q) ∧ (¬ v5 = 43 → Cal G (d - 1) mX12_see [.ref a0] h2 (fun r7 h8 => ∃ v10, r7 = some (.int v10) ∧ ((¬ v10 = 45 → Q (some (.int 1)) h8) ∧ (v10 = 45 → Ex G d mX12_sum 27 [(0, .ref a0)] [] h8 Q))))))
set_option maxRecDepth 20000 in
theorem t_X12_sum_9 {G : GG} {d : Nat} {h : HP} {Q : Option Value → HP → Prop} {a0 : Nat} (hd1 : 1 ≤ d) (ht : T_X12_sum_9 G d h Q a0) : Ex G d mX12_sum 9 [(0, .ref a0)] [] h Q := by
  unfold T_X12_sum_9 at ht
  refine x_aload_n (pc2 := 10) 0 (n := 0) (x := a0) rfl dX12_sum_9 rfl ?_
  obtain ⟨k4, ht⟩ := ht
  refine x_callV (pc2 := 13) (As := []) (rest := []) (b := a0) mv_X12_see ml_X12_87 k4 rfl rfl (Nat.le_of_ble_eq_true rfl) hd1 dX12_sum_10 rfl (ht.mono (fun r1 h2 p3 ht' => ?_))
  clear ht
  obtain ⟨v5, rfl, ht⟩ := ht'
  show Ex G d mX12_sum 13 [(0, .ref a0)] [.int v5] h2 Q
  refine x_bipush (pc2 := 15) (v := 43) (by decide) dX12_sum_13 rfl ?_
  refine x_icmp_eq (pc2 := 18) 27 dX12_sum_15 (by decide) rfl (fun c6 => ?_) (fun c6 => ?_)
  · replace ht := ht.1 c6
    exact ht
  · replace ht := ht.2 c6
    refine x_aload_n (pc2 := 19) 0 (n := 0) (x := a0) rfl dX12_sum_18 rfl ?_
    refine x_callV (pc2 := 22) (As := []) (rest := []) (b := a0) mv_X12_see ml_X12_87 (k4.up p3) rfl rfl (Nat.le_of_ble_eq_true rfl) hd1 dX12_sum_19 rfl (ht.mono (fun r7 h8 p9 ht' => ?_))
    clear ht
    obtain ⟨v10, rfl, ht⟩ := ht'
    show Ex G d mX12_sum 22 [(0, .ref a0)] [.int v10] h8 Q
    refine x_bipush (pc2 := 24) (v := 45) (by decide) dX12_sum_22 rfl ?_
    refine y_icmp_ne (pc2 := 27) 75 dX12_sum_24 (by decide) rfl (fun c11 => ?_) (fun c11 => ?_)
    · replace ht := ht.1 c11
      refine x_iconst (pc2 := 76) (v := 1) (by decide) dX12_sum_75 rfl ?_
      exact x_retZ rfl (Or.inr rfl) dX12_sum_76 ht
    · replace ht := ht.2 c11
      exact ht
def T_X12_sum_27 (G : GG) (d : Nat) (h : HP) (Q : Option Value → HP → Prop) (a0 : Nat) : Prop :=
  Kd G h a0 12 ∧ ∃ q2, hR h a0 0 = some q2 ∧ Kd G h q2 13 ∧ vp_in (hI h a0 13) (hN h q2) ∧ ((¬ (hI h q2 (hI h a0 13).toNatClampNeg) = 43 → Ex G d mX12_sum 46 [(0, .ref a0)] [.int 3] h Q) ∧ ((hI h q2 (hI h a0 13).toNatClampNeg) = 43 → Ex G d mX12_sum 46 [(0, .ref a0)] [.int 2] h Q))
set_option maxRecDepth 20000 in
theorem t_X12_sum_27 {G : GG} {d : Nat} {h : HP} {Q : Option Value → HP → Prop} {a0 : Nat} (ht : T_X12_sum_27 G d h Q a0) : Ex G d mX12_sum 27 [(0, .ref a0)] [] h Q := by
  unfold T_X12_sum_27 at ht
  refine x_aload_n (pc2 := 28) 0 (n := 0) (x := a0) rfl dX12_sum_27 rfl ?_
  obtain ⟨k1, ht⟩ := ht
  obtain ⟨q2, e3, ht⟩ := ht
  refine y_getR (pc2 := 31) (κ := 12) (k := 0) fl_X12_7 (by decide) (by decide) k1 rfl e3 dX12_sum_28 rfl ?_
  refine x_aload_n (pc2 := 32) 0 (n := 0) (x := a0) rfl dX12_sum_31 rfl ?_
  refine y_getI (pc2 := 35) (κ := 12) (k := 13) fl_X12_84 (by decide) (by decide) k1 rfl dX12_sum_32 rfl ?_
  obtain ⟨k4, ht⟩ := ht
  obtain ⟨b5, ht⟩ := ht
  refine x_bald (pc2 := 36) k4 b5 dX12_sum_35 rfl ?_
  refine x_bipush (pc2 := 38) (v := 43) (by decide) dX12_sum_36 rfl ?_
  refine y_icmp_ne (pc2 := 41) 45 dX12_sum_38 (by decide) rfl (fun c6 => ?_) (fun c6 => ?_)
  · replace ht := ht.1 c6
    refine x_iconst (pc2 := 46) (v := 3) (by decide) dX12_sum_45 rfl ?_
    exact ht
  · replace ht := ht.2 c6
    refine x_iconst (pc2 := 42) (v := 2) (by decide) dX12_sum_41 rfl ?_
    refine x_goto 46 dX12_sum_42 (by decide) ?_
    exact ht
def T_X12_sum_46 (G : GG) (d : Nat) (h : HP) (Q : Option Value → HP → Prop) (a0 : Nat) (sx0 : Int32) : Prop :=
  Kd G h a0 12 ∧ Cal G (d - 1) mX12_term [.ref a0] (sI h a0 13 ((hI h a0 13) + 1)) (fun r2 h3 => ∃ v5, r2 = some (.int v5) ∧ ((¬ v5 = 0 → Cal G (d - 1) mX12_puts [.ref a0, .int sx0, .int 0] h3 (fun r7 h8 => r7 = none ∧ Ex G d mX12_sum 9 [(0, .ref a0)] [] h8 Q)) ∧ (v5 = 0 → Q (some (.int 0)) h3)))
set_option maxRecDepth 20000 in
theorem t_X12_sum_46 {G : GG} {d : Nat} {h : HP} {Q : Option Value → HP → Prop} {a0 : Nat} {sx0 : Int32} (hd1 : 1 ≤ d) (ht : T_X12_sum_46 G d h Q a0 sx0) : Ex G d mX12_sum 46 [(0, .ref a0)] [.int sx0] h Q := by
  unfold T_X12_sum_46 at ht
  refine x_istore_n (pc2 := 47) [1, 0] (n := 1) (x := sx0) (lv2 := [(0, .ref a0), (1, .int sx0)]) (by decide) rfl dX12_sum_46 rfl ?_
  refine x_aload_n (pc2 := 48) 0 (n := 0) (x := a0) rfl dX12_sum_47 rfl ?_
  refine x_dup (pc2 := 49) rfl dX12_sum_48 rfl ?_
  obtain ⟨k1, ht⟩ := ht
  refine y_getI (pc2 := 52) (κ := 12) (k := 13) fl_X12_84 (by decide) (by decide) k1 rfl dX12_sum_49 rfl ?_
  refine x_iconst (pc2 := 53) (v := 1) (by decide) dX12_sum_52 rfl ?_
  refine x_iadd (pc2 := 54) dX12_sum_53 rfl ?_
  refine x_putI (pc2 := 57) (κ := 12) (k := 13) fl_X12_84 (by decide) (by decide) (Or.inl rfl) rfl k1 dX12_sum_54 rfl ?_
  refine x_aload_n (pc2 := 58) 0 (n := 0) (x := a0) rfl dX12_sum_57 rfl ?_
  refine x_callV (pc2 := 61) (As := []) (rest := []) (b := a0) mv_X12_term ml_X12_174 k1.sI rfl rfl (Nat.le_of_ble_eq_true rfl) hd1 dX12_sum_58 rfl (ht.mono (fun r2 h3 p4 ht' => ?_))
  clear ht
  obtain ⟨v5, rfl, ht⟩ := ht'
  show Ex G d mX12_sum 61 [(0, .ref a0), (1, .int sx0)] [.int v5] h3 Q
  refine y_if_ne (pc2 := 64) 66 dX12_sum_61 (by decide) rfl (fun c6 => ?_) (fun c6 => ?_)
  · replace ht := ht.1 c6
    refine x_aload_n (pc2 := 67) 0 (n := 0) (x := a0) rfl dX12_sum_66 rfl ?_
    refine x_iload_n (pc2 := 68) 1 (n := 1) (x := sx0) rfl dX12_sum_67 rfl ?_
    refine x_iconst (pc2 := 69) (v := 0) (by decide) dX12_sum_68 rfl ?_
    refine x_callV (pc2 := 72) (As := [.int sx0, .int 0]) (rest := []) (b := a0) mv_X12_puts ml_X12_156 (k1.sI.up p4) rfl rfl (Nat.le_of_ble_eq_true rfl) hd1 dX12_sum_69 rfl (ht.mono (fun r7 h8 p9 ht' => ?_))
    clear ht
    obtain ⟨rfl, ht⟩ := ht'
    show Ex G d mX12_sum 72 [(0, .ref a0), (1, .int sx0)] [] h8 Q
    refine x_goto 9 dX12_sum_72 (by decide) ?_
    refine x_sub [0] (lv2 := [(0, .ref a0)]) rfl ?_
    exact ht
  · replace ht := ht.2 c6
    refine x_iconst (pc2 := 65) (v := 0) (by decide) dX12_sum_64 rfl ?_
    exact x_retZ rfl (Or.inl rfl) dX12_sum_65 ht
def T_X12_compare (G : GG) (d : Nat) (h : HP) (Q : Option Value → HP → Prop) (a0 : Nat) : Prop :=
  Kd G h a0 12 ∧ Cal G (d - 1) mX12_sum [.ref a0] h (fun r1 h2 => ∃ v5, r1 = some (.int v5) ∧ ((¬ v5 = 0 → Cal G (d - 1) mX12_see [.ref a0] h2 (fun r7 h8 => ∃ v10, r7 = some (.int v10) ∧ ((v10 = 60 → Ex G d mX12_compare 44 [(0, .ref a0), (1, .int v10), (2, .int (hI h8 a0 13))] [] h8 Q) ∧ (¬ v10 = 60 → ((v10 = 61 → Ex G d mX12_compare 44 [(0, .ref a0), (1, .int v10), (2, .int (hI h8 a0 13))] [] h8 Q) ∧ (¬ v10 = 61 → ((v10 = 62 → Ex G d mX12_compare 44 [(0, .ref a0), (1, .int v10), (2, .int (hI h8 a0 13))] [] h8 Q) ∧ (¬ v10 = 62 → Cal G (d - 1) mX12_fails [.ref a0, .int 0, .int (hI h8 a0 13)] h8 (fun r14 h15 => ∃ v17, r14 = some (.int v17) ∧ ((v17 = 0 ∨ v17 = 1) ∧ Q (some (.int v17)) h15)))))))))) ∧ (v5 = 0 → Q (some (.int 0)) h2)))
set_option maxRecDepth 20000 in
theorem t_X12_compare {G : GG} {d : Nat} {h : HP} {Q : Option Value → HP → Prop} {a0 : Nat} (hd1 : 1 ≤ d) (ht : T_X12_compare G d h Q a0) : Ex G d mX12_compare 0 [(0, .ref a0)] [] h Q := by
  unfold T_X12_compare at ht
  refine x_aload_n (pc2 := 1) 0 (n := 0) (x := a0) rfl dX12_compare_0 rfl ?_
  obtain ⟨k4, ht⟩ := ht
  refine x_callV (pc2 := 4) (As := []) (rest := []) (b := a0) mv_X12_sum ml_X12_177 k4 rfl rfl (Nat.le_of_ble_eq_true rfl) hd1 dX12_compare_1 rfl (ht.mono (fun r1 h2 p3 ht' => ?_))
  clear ht
  obtain ⟨v5, rfl, ht⟩ := ht'
  show Ex G d mX12_compare 4 [(0, .ref a0)] [.int v5] h2 Q
  refine y_if_ne (pc2 := 7) 9 dX12_compare_4 (by decide) rfl (fun c6 => ?_) (fun c6 => ?_)
  · replace ht := ht.1 c6
    refine x_aload_n (pc2 := 10) 0 (n := 0) (x := a0) rfl dX12_compare_9 rfl ?_
    refine x_callV (pc2 := 13) (As := []) (rest := []) (b := a0) mv_X12_see ml_X12_87 (k4.up p3) rfl rfl (Nat.le_of_ble_eq_true rfl) hd1 dX12_compare_10 rfl (ht.mono (fun r7 h8 p9 ht' => ?_))
    clear ht
    obtain ⟨v10, rfl, ht⟩ := ht'
    show Ex G d mX12_compare 13 [(0, .ref a0)] [.int v10] h8 Q
    refine x_istore_n (pc2 := 14) [1, 0] (n := 1) (x := v10) (lv2 := [(0, .ref a0), (1, .int v10)]) (by decide) rfl dX12_compare_13 rfl ?_
    refine x_aload_n (pc2 := 15) 0 (n := 0) (x := a0) rfl dX12_compare_14 rfl ?_
    refine y_getI (pc2 := 18) (κ := 12) (k := 13) fl_X12_84 (by decide) (by decide) ((k4.up p3).up p9) rfl dX12_compare_15 rfl ?_
    refine x_istore_n (pc2 := 19) [1, 2, 0] (n := 2) (x := (hI h8 a0 13)) (lv2 := [(0, .ref a0), (1, .int v10), (2, .int (hI h8 a0 13))]) (by decide) rfl dX12_compare_18 rfl ?_
    refine x_iload_n (pc2 := 20) 1 (n := 1) (x := v10) rfl dX12_compare_19 rfl ?_
    refine x_bipush (pc2 := 22) (v := 60) (by decide) dX12_compare_20 rfl ?_
    refine x_icmp_eq (pc2 := 25) 44 dX12_compare_22 (by decide) rfl (fun c11 => ?_) (fun c11 => ?_)
    · replace ht := ht.1 c11
      exact ht
    · replace ht := ht.2 c11
      refine x_iload_n (pc2 := 26) 1 (n := 1) (x := v10) rfl dX12_compare_25 rfl ?_
      refine x_bipush (pc2 := 28) (v := 61) (by decide) dX12_compare_26 rfl ?_
      refine x_icmp_eq (pc2 := 31) 44 dX12_compare_28 (by decide) rfl (fun c12 => ?_) (fun c12 => ?_)
      · replace ht := ht.1 c12
        exact ht
      · replace ht := ht.2 c12
        refine x_iload_n (pc2 := 32) 1 (n := 1) (x := v10) rfl dX12_compare_31 rfl ?_
        refine x_bipush (pc2 := 34) (v := 62) (by decide) dX12_compare_32 rfl ?_
        refine x_icmp_eq (pc2 := 37) 44 dX12_compare_34 (by decide) rfl (fun c13 => ?_) (fun c13 => ?_)
        · replace ht := ht.1 c13
          exact ht
        · replace ht := ht.2 c13
          refine x_aload_n (pc2 := 38) 0 (n := 0) (x := a0) rfl dX12_compare_37 rfl ?_
          refine x_iconst (pc2 := 39) (v := 0) (by decide) dX12_compare_38 rfl ?_
          refine x_iload_n (pc2 := 40) 2 (n := 2) (x := (hI h8 a0 13)) rfl dX12_compare_39 rfl ?_
          refine x_callV (pc2 := 43) (As := [.int 0, .int (hI h8 a0 13)]) (rest := []) (b := a0) mv_X12_fails ml_X12_105 ((k4.up p3).up p9) rfl rfl (Nat.le_of_ble_eq_true rfl) hd1 dX12_compare_40 rfl (ht.mono (fun r14 h15 p16 ht' => ?_))
          clear ht
          obtain ⟨v17, rfl, ht⟩ := ht'
          show Ex G d mX12_compare 43 [(0, .ref a0), (1, .int v10), (2, .int (hI h8 a0 13))] [.int v17] h15 Q
          exact x_retZ rfl ht.1 dX12_compare_43 ht.2
  · replace ht := ht.2 c6
    refine x_iconst (pc2 := 8) (v := 0) (by decide) dX12_compare_7 rfl ?_
    exact x_retZ rfl (Or.inl rfl) dX12_compare_8 ht
theorem e_X12_compare {G : GG} {d : Nat} {h : HP} {Q : Option Value → HP → Prop} {a0 : Nat} (hd1 : 1 ≤ d) (ht : T_X12_compare G d h Q a0) : Cal G d mX12_compare [.ref a0] h Q := cal_of rfl (Nat.le_of_ble_eq_true rfl) (t_X12_compare hd1 ht)
def T_X12_compare_44 (G : GG) (d : Nat) (h : HP) (Q : Option Value → HP → Prop) (a0 : Nat) (x1 : Int32) (x2 : Int32) : Prop :=
  Kd G h a0 12 ∧ ((x1 = 61 → Ex G d mX12_compare 90 [(0, .ref a0), (1, .int x1), (2, .int x2)] [.int 0] (sI h a0 13 ((hI h a0 13) + 1)) Q) ∧ (¬ x1 = 61 → (((hI (sI h a0 13 ((hI h a0 13) + 1)) a0 1) ≤ (hI (sI h a0 13 ((hI h a0 13) + 1)) a0 13) → Ex G d mX12_compare 90 [(0, .ref a0), (1, .int x1), (2, .int x2)] [.int 0] (sI h a0 13 ((hI h a0 13) + 1)) Q) ∧ (¬ (hI (sI h a0 13 ((hI h a0 13) + 1)) a0 1) ≤ (hI (sI h a0 13 ((hI h a0 13) + 1)) a0 13) → ∃ q4, hR (sI h a0 13 ((hI h a0 13) + 1)) a0 0 = some q4 ∧ Kd G (sI h a0 13 ((hI h a0 13) + 1)) q4 13 ∧ vp_in (hI (sI h a0 13 ((hI h a0 13) + 1)) a0 13) (hN (sI h a0 13 ((hI h a0 13) + 1)) q4) ∧ ((¬ (hI (sI h a0 13 ((hI h a0 13) + 1)) q4 (hI (sI h a0 13 ((hI h a0 13) + 1)) a0 13).toNatClampNeg) = 61 → Ex G d mX12_compare 90 [(0, .ref a0), (1, .int x1), (2, .int x2)] [.int 0] (sI h a0 13 ((hI h a0 13) + 1)) Q) ∧ ((hI (sI h a0 13 ((hI h a0 13) + 1)) q4 (hI (sI h a0 13 ((hI h a0 13) + 1)) a0 13).toNatClampNeg) = 61 → Ex G d mX12_compare 90 [(0, .ref a0), (1, .int x1), (2, .int x2)] [.int 1] (sI h a0 13 ((hI h a0 13) + 1)) Q))))))
set_option maxRecDepth 20000 in
theorem t_X12_compare_44 {G : GG} {d : Nat} {h : HP} {Q : Option Value → HP → Prop} {a0 : Nat} {x1 : Int32} {x2 : Int32} (ht : T_X12_compare_44 G d h Q a0 x1 x2) : Ex G d mX12_compare 44 [(0, .ref a0), (1, .int x1), (2, .int x2)] [] h Q := by
  unfold T_X12_compare_44 at ht
  refine x_aload_n (pc2 := 45) 0 (n := 0) (x := a0) rfl dX12_compare_44 rfl ?_
  refine x_dup (pc2 := 46) rfl dX12_compare_45 rfl ?_
  obtain ⟨k1, ht⟩ := ht
  refine y_getI (pc2 := 49) (κ := 12) (k := 13) fl_X12_84 (by decide) (by decide) k1 rfl dX12_compare_46 rfl ?_
  refine x_iconst (pc2 := 50) (v := 1) (by decide) dX12_compare_49 rfl ?_
  refine x_iadd (pc2 := 51) dX12_compare_50 rfl ?_
  refine x_putI (pc2 := 54) (κ := 12) (k := 13) fl_X12_84 (by decide) (by decide) (Or.inl rfl) rfl k1 dX12_compare_51 rfl ?_
  refine x_iload_n (pc2 := 55) 1 (n := 1) (x := x1) rfl dX12_compare_54 rfl ?_
  refine x_bipush (pc2 := 57) (v := 61) (by decide) dX12_compare_55 rfl ?_
  refine x_icmp_eq (pc2 := 60) 89 dX12_compare_57 (by decide) rfl (fun c2 => ?_) (fun c2 => ?_)
  · replace ht := ht.1 c2
    refine x_iconst (pc2 := 90) (v := 0) (by decide) dX12_compare_89 rfl ?_
    exact ht
  · replace ht := ht.2 c2
    refine x_aload_n (pc2 := 61) 0 (n := 0) (x := a0) rfl dX12_compare_60 rfl ?_
    refine y_getI (pc2 := 64) (κ := 12) (k := 13) fl_X12_84 (by decide) (by decide) k1.sI rfl dX12_compare_61 rfl ?_
    refine x_aload_n (pc2 := 65) 0 (n := 0) (x := a0) rfl dX12_compare_64 rfl ?_
    refine y_getI (pc2 := 68) (κ := 12) (k := 1) fl_X12_73 (by decide) (by decide) k1.sI rfl dX12_compare_65 rfl ?_
    refine x_icmp_ge (pc2 := 71) 89 dX12_compare_68 (by decide) rfl (fun c3 => ?_) (fun c3 => ?_)
    · replace ht := ht.1 c3
      refine x_iconst (pc2 := 90) (v := 0) (by decide) dX12_compare_89 rfl ?_
      exact ht
    · replace ht := ht.2 c3
      refine x_aload_n (pc2 := 72) 0 (n := 0) (x := a0) rfl dX12_compare_71 rfl ?_
      obtain ⟨q4, e5, ht⟩ := ht
      refine y_getR (pc2 := 75) (κ := 12) (k := 0) fl_X12_7 (by decide) (by decide) k1.sI rfl e5 dX12_compare_72 rfl ?_
      refine x_aload_n (pc2 := 76) 0 (n := 0) (x := a0) rfl dX12_compare_75 rfl ?_
      refine y_getI (pc2 := 79) (κ := 12) (k := 13) fl_X12_84 (by decide) (by decide) k1.sI rfl dX12_compare_76 rfl ?_
      obtain ⟨k6, ht⟩ := ht
      obtain ⟨b7, ht⟩ := ht
      refine x_bald (pc2 := 80) k6 b7 dX12_compare_79 rfl ?_
      refine x_bipush (pc2 := 82) (v := 61) (by decide) dX12_compare_80 rfl ?_
      refine y_icmp_ne (pc2 := 85) 89 dX12_compare_82 (by decide) rfl (fun c8 => ?_) (fun c8 => ?_)
      · replace ht := ht.1 c8
        refine x_iconst (pc2 := 90) (v := 0) (by decide) dX12_compare_89 rfl ?_
        exact ht
      · replace ht := ht.2 c8
        refine x_iconst (pc2 := 86) (v := 1) (by decide) dX12_compare_85 rfl ?_
        refine x_goto 90 dX12_compare_86 (by decide) ?_
        exact ht
def T_X12_compare_90 (G : GG) (d : Nat) (h : HP) (Q : Option Value → HP → Prop) (a0 : Nat) (x1 : Int32) (x2 : Int32) (sx0 : Int32) : Prop :=
  ((sx0 = 0 → Ex G d mX12_compare 105 [(0, .ref a0), (1, .int x1), (2, .int x2), (3, .int sx0)] [] h Q) ∧ (¬ sx0 = 0 → Kd G h a0 12 ∧ Ex G d mX12_compare 105 [(0, .ref a0), (1, .int x1), (2, .int x2), (3, .int sx0)] [] (sI h a0 13 ((hI h a0 13) + 1)) Q))
set_option maxRecDepth 20000 in
theorem t_X12_compare_90 {G : GG} {d : Nat} {h : HP} {Q : Option Value → HP → Prop} {a0 : Nat} {x1 : Int32} {x2 : Int32} {sx0 : Int32} (ht : T_X12_compare_90 G d h Q a0 x1 x2 sx0) : Ex G d mX12_compare 90 [(0, .ref a0), (1, .int x1), (2, .int x2)] [.int sx0] h Q := by
  unfold T_X12_compare_90 at ht
  refine x_istore_n (pc2 := 91) [1, 2, 3, 0] (n := 3) (x := sx0) (lv2 := [(0, .ref a0), (1, .int x1), (2, .int x2), (3, .int sx0)]) (by decide) rfl dX12_compare_90 rfl ?_
  refine x_iload_n (pc2 := 92) 3 (n := 3) (x := sx0) rfl dX12_compare_91 rfl ?_
  refine x_if_eq (pc2 := 95) 105 dX12_compare_92 (by decide) rfl (fun c1 => ?_) (fun c1 => ?_)
  · replace ht := ht.1 c1
    exact ht
  · replace ht := ht.2 c1
    refine x_aload_n (pc2 := 96) 0 (n := 0) (x := a0) rfl dX12_compare_95 rfl ?_
    refine x_dup (pc2 := 97) rfl dX12_compare_96 rfl ?_
    obtain ⟨k2, ht⟩ := ht
    refine y_getI (pc2 := 100) (κ := 12) (k := 13) fl_X12_84 (by decide) (by decide) k2 rfl dX12_compare_97 rfl ?_
    refine x_iconst (pc2 := 101) (v := 1) (by decide) dX12_compare_100 rfl ?_
    refine x_iadd (pc2 := 102) dX12_compare_101 rfl ?_
    refine x_putI (pc2 := 105) (κ := 12) (k := 13) fl_X12_84 (by decide) (by decide) (Or.inl rfl) rfl k2 dX12_compare_102 rfl ?_
    exact ht
def T_X12_compare_105 (G : GG) (d : Nat) (h : HP) (Q : Option Value → HP → Prop) (a0 : Nat) (x1 : Int32) (x2 : Int32) (x3 : Int32) : Prop :=
  Kd G h a0 12 ∧ Cal G (d - 1) mX12_makes [.ref a0, .int x2] h (fun r1 h2 => ∃ v5, r1 = some (.int v5) ∧ ((¬ v5 = 0 → ((¬ x1 = 60 → ((¬ x1 = 61 → ((x3 = 0 → Ex G d mX12_compare 152 [(0, .ref a0), (1, .int x1), (2, .int x2), (3, .int x3)] [.int 4] h2 Q) ∧ (¬ x3 = 0 → Ex G d mX12_compare 152 [(0, .ref a0), (1, .int x1), (2, .int x2), (3, .int x3)] [.int 3] h2 Q))) ∧ (x1 = 61 → Ex G d mX12_compare 152 [(0, .ref a0), (1, .int x1), (2, .int x2), (3, .int x3)] [.int 2] h2 Q))) ∧ (x1 = 60 → ((x3 = 0 → Ex G d mX12_compare 152 [(0, .ref a0), (1, .int x1), (2, .int x2), (3, .int x3)] [.int 0] h2 Q) ∧ (¬ x3 = 0 → Ex G d mX12_compare 152 [(0, .ref a0), (1, .int x1), (2, .int x2), (3, .int x3)] [.int 1] h2 Q))))) ∧ (v5 = 0 → Q (some (.int 0)) h2)))
set_option maxRecDepth 20000 in
theorem t_X12_compare_105 {G : GG} {d : Nat} {h : HP} {Q : Option Value → HP → Prop} {a0 : Nat} {x1 : Int32} {x2 : Int32} {x3 : Int32} (hd1 : 1 ≤ d) (ht : T_X12_compare_105 G d h Q a0 x1 x2 x3) : Ex G d mX12_compare 105 [(0, .ref a0), (1, .int x1), (2, .int x2), (3, .int x3)] [] h Q := by
  unfold T_X12_compare_105 at ht
  refine x_aload_n (pc2 := 106) 0 (n := 0) (x := a0) rfl dX12_compare_105 rfl ?_
  refine x_iload_n (pc2 := 107) 2 (n := 2) (x := x2) rfl dX12_compare_106 rfl ?_
  obtain ⟨k4, ht⟩ := ht
  refine x_callV (pc2 := 110) (As := [.int x2]) (rest := []) (b := a0) mv_X12_makes ml_X12_164 k4 rfl rfl (Nat.le_of_ble_eq_true rfl) hd1 dX12_compare_107 rfl (ht.mono (fun r1 h2 p3 ht' => ?_))
  clear ht
  obtain ⟨v5, rfl, ht⟩ := ht'
  show Ex G d mX12_compare 110 [(0, .ref a0), (1, .int x1), (2, .int x2), (3, .int x3)] [.int v5] h2 Q
  refine y_if_ne (pc2 := 113) 115 dX12_compare_110 (by decide) rfl (fun c6 => ?_) (fun c6 => ?_)
  · replace ht := ht.1 c6
    refine x_iload_n (pc2 := 116) 1 (n := 1) (x := x1) rfl dX12_compare_115 rfl ?_
    refine x_bipush (pc2 := 118) (v := 60) (by decide) dX12_compare_116 rfl ?_
    refine y_icmp_ne (pc2 := 121) 133 dX12_compare_118 (by decide) rfl (fun c7 => ?_) (fun c7 => ?_)
    · replace ht := ht.1 c7
      refine x_iload_n (pc2 := 134) 1 (n := 1) (x := x1) rfl dX12_compare_133 rfl ?_
      refine x_bipush (pc2 := 136) (v := 61) (by decide) dX12_compare_134 rfl ?_
      refine y_icmp_ne (pc2 := 139) 143 dX12_compare_136 (by decide) rfl (fun c8 => ?_) (fun c8 => ?_)
      · replace ht := ht.1 c8
        refine x_iload_n (pc2 := 144) 3 (n := 3) (x := x3) rfl dX12_compare_143 rfl ?_
        refine x_if_eq (pc2 := 147) 151 dX12_compare_144 (by decide) rfl (fun c9 => ?_) (fun c9 => ?_)
        · replace ht := ht.1 c9
          refine x_iconst (pc2 := 152) (v := 4) (by decide) dX12_compare_151 rfl ?_
          exact ht
        · replace ht := ht.2 c9
          refine x_iconst (pc2 := 148) (v := 3) (by decide) dX12_compare_147 rfl ?_
          refine x_goto 152 dX12_compare_148 (by decide) ?_
          exact ht
      · replace ht := ht.2 c8
        refine x_iconst (pc2 := 140) (v := 2) (by decide) dX12_compare_139 rfl ?_
        refine x_goto 152 dX12_compare_140 (by decide) ?_
        exact ht
    · replace ht := ht.2 c7
      refine x_iload_n (pc2 := 122) 3 (n := 3) (x := x3) rfl dX12_compare_121 rfl ?_
      refine x_if_eq (pc2 := 125) 129 dX12_compare_122 (by decide) rfl (fun c10 => ?_) (fun c10 => ?_)
      · replace ht := ht.1 c10
        refine x_iconst (pc2 := 130) (v := 0) (by decide) dX12_compare_129 rfl ?_
        refine x_goto 152 dX12_compare_130 (by decide) ?_
        exact ht
      · replace ht := ht.2 c10
        refine x_iconst (pc2 := 126) (v := 1) (by decide) dX12_compare_125 rfl ?_
        refine x_goto 152 dX12_compare_126 (by decide) ?_
        exact ht
  · replace ht := ht.2 c6
    refine x_iconst (pc2 := 114) (v := 0) (by decide) dX12_compare_113 rfl ?_
    exact x_retZ rfl (Or.inl rfl) dX12_compare_114 ht
def T_X12_compare_152 (G : GG) (d : Nat) (h : HP) (Q : Option Value → HP → Prop) (a0 : Nat) (x1 : Int32) (x2 : Int32) (x3 : Int32) (sx0 : Int32) : Prop :=
  Kd G h a0 12 ∧ Cal G (d - 1) mX12_sum [.ref a0] h (fun r1 h2 => ∃ v5, r1 = some (.int v5) ∧ ((¬ v5 = 0 → Cal G (d - 1) mX12_puts [.ref a0, .int (6 + sx0), .int 0] h2 (fun r7 h8 => r7 = none ∧ Q (some (.int 1)) h8)) ∧ (v5 = 0 → Q (some (.int 0)) h2)))
set_option maxRecDepth 20000 in
theorem t_X12_compare_152 {G : GG} {d : Nat} {h : HP} {Q : Option Value → HP → Prop} {a0 : Nat} {x1 : Int32} {x2 : Int32} {x3 : Int32} {sx0 : Int32} (hd1 : 1 ≤ d) (ht : T_X12_compare_152 G d h Q a0 x1 x2 x3 sx0) : Ex G d mX12_compare 152 [(0, .ref a0), (1, .int x1), (2, .int x2), (3, .int x3)] [.int sx0] h Q := by
  unfold T_X12_compare_152 at ht
  refine x_istore (pc2 := 154) [1, 2, 3, 4, 0] (n := 4) (x := sx0) (lv2 := [(0, .ref a0), (1, .int x1), (2, .int x2), (3, .int x3), (4, .int sx0)]) (by decide) rfl dX12_compare_152 rfl ?_
  refine x_aload_n (pc2 := 155) 0 (n := 0) (x := a0) rfl dX12_compare_154 rfl ?_
  obtain ⟨k4, ht⟩ := ht
  refine x_callV (pc2 := 158) (As := []) (rest := []) (b := a0) mv_X12_sum ml_X12_177 k4 rfl rfl (Nat.le_of_ble_eq_true rfl) hd1 dX12_compare_155 rfl (ht.mono (fun r1 h2 p3 ht' => ?_))
  clear ht
  obtain ⟨v5, rfl, ht⟩ := ht'
  show Ex G d mX12_compare 158 [(0, .ref a0), (1, .int x1), (2, .int x2), (3, .int x3), (4, .int sx0)] [.int v5] h2 Q
  refine y_if_ne (pc2 := 161) 163 dX12_compare_158 (by decide) rfl (fun c6 => ?_) (fun c6 => ?_)
  · replace ht := ht.1 c6
    refine x_aload_n (pc2 := 164) 0 (n := 0) (x := a0) rfl dX12_compare_163 rfl ?_
    refine x_bipush (pc2 := 166) (v := 6) (by decide) dX12_compare_164 rfl ?_
    refine x_iload (pc2 := 168) 4 (n := 4) (x := sx0) rfl dX12_compare_166 rfl ?_
    refine x_iadd (pc2 := 169) dX12_compare_168 rfl ?_
    refine x_iconst (pc2 := 170) (v := 0) (by decide) dX12_compare_169 rfl ?_
    refine x_callV (pc2 := 173) (As := [.int (6 + sx0), .int 0]) (rest := []) (b := a0) mv_X12_puts ml_X12_156 (k4.up p3) rfl rfl (Nat.le_of_ble_eq_true rfl) hd1 dX12_compare_170 rfl (ht.mono (fun r7 h8 p9 ht' => ?_))
    clear ht
    obtain ⟨rfl, ht⟩ := ht'
    show Ex G d mX12_compare 173 [(0, .ref a0), (1, .int x1), (2, .int x2), (3, .int x3), (4, .int sx0)] [] h8 Q
    refine x_iconst (pc2 := 174) (v := 1) (by decide) dX12_compare_173 rfl ?_
    exact x_retZ rfl (Or.inr rfl) dX12_compare_174 ht
  · replace ht := ht.2 c6
    refine x_iconst (pc2 := 162) (v := 0) (by decide) dX12_compare_161 rfl ?_
    exact x_retZ rfl (Or.inl rfl) dX12_compare_162 ht
def T_X12_fact (G : GG) (d : Nat) (h : HP) (Q : Option Value → HP → Prop) (a0 : Nat) : Prop :=
  Ex G d mX12_fact 2 [(0, .ref a0), (1, .int 1)] [] h Q
set_option maxRecDepth 20000 in
theorem t_X12_fact {G : GG} {d : Nat} {h : HP} {Q : Option Value → HP → Prop} {a0 : Nat} (ht : T_X12_fact G d h Q a0) : Ex G d mX12_fact 0 [(0, .ref a0)] [] h Q := by
  unfold T_X12_fact at ht
  refine x_iconst (pc2 := 1) (v := 1) (by decide) dX12_fact_0 rfl ?_
  refine x_istore_n (pc2 := 2) [1, 0] (n := 1) (x := 1) (lv2 := [(0, .ref a0), (1, .int 1)]) (by decide) rfl dX12_fact_1 rfl ?_
  exact ht
theorem e_X12_fact {G : GG} {d : Nat} {h : HP} {Q : Option Value → HP → Prop} {a0 : Nat} (ht : T_X12_fact G d h Q a0) : Cal G d mX12_fact [.ref a0] h Q := cal_of rfl (Nat.le_of_ble_eq_true rfl) (t_X12_fact ht)
def T_X12_fact_2 (G : GG) (d : Nat) (h : HP) (Q : Option Value → HP → Prop) (a0 : Nat) (x1 : Int32) : Prop :=
  ((x1 = 0 → Kd G h a0 12 ∧ Cal G (d - 1) mX12_compare [.ref a0] h (fun r2 h3 => ∃ v6, r2 = some (.int v6) ∧ ((v6 = 0 ∨ v6 = 1) ∧ Q (some (.int v6)) h3))) ∧ (¬ x1 = 0 → Kd G h a0 12 ∧ Cal G (d - 1) mX12_see [.ref a0] h (fun r7 h8 => ∃ v11, r7 = some (.int v11) ∧ Cal G (d - 1) mX12_isWord [.ref a0, .long 7237492] h8 (fun r12 h13 => ∃ v15, r12 = some (.int v15) ∧ ((v15 = 0 → ((¬ v11 = 91 → Ex G d mX12_fact 2 [(0, .ref a0), (1, .int 0)] [] h13 Q) ∧ (v11 = 91 → Cal G (d - 1) mX12_opens [.ref a0, .int 91] h13 (fun r18 h19 => ∃ v21, r18 = some (.int v21) ∧ ((¬ v21 = 0 → Ex G d mX12_fact 2 [(0, .ref a0), (1, .int 1)] [] (sI h19 a0 13 ((hI h19 a0 13) + 1)) Q) ∧ (v21 = 0 → Q (some (.int 0)) h19)))))) ∧ (¬ v15 = 0 → Cal G (d - 1) mX12_opens [.ref a0, .int 11] h13 (fun r23 h24 => ∃ v26, r23 = some (.int v26) ∧ ((¬ v26 = 0 → Cal G (d - 1) mX12_passWord [.ref a0] h24 (fun r28 h29 => r28 = none ∧ Ex G d mX12_fact 2 [(0, .ref a0), (1, .int 1)] [] h29 Q)) ∧ (v26 = 0 → Q (some (.int 0)) h24)))))))))
set_option maxRecDepth 20000 in
theorem t_X12_fact_2 {G : GG} {d : Nat} {h : HP} {Q : Option Value → HP → Prop} {a0 : Nat} {x1 : Int32} (hd1 : 1 ≤ d) (ht : T_X12_fact_2 G d h Q a0 x1) : Ex G d mX12_fact 2 [(0, .ref a0), (1, .int x1)] [] h Q := by
  unfold T_X12_fact_2 at ht
  refine x_iload_n (pc2 := 3) 1 (n := 1) (x := x1) rfl dX12_fact_2 rfl ?_
  refine x_if_eq (pc2 := 6) 75 dX12_fact_3 (by decide) rfl (fun c1 => ?_) (fun c1 => ?_)
  · replace ht := ht.1 c1
    refine x_aload_n (pc2 := 76) 0 (n := 0) (x := a0) rfl dX12_fact_75 rfl ?_
    obtain ⟨k5, ht⟩ := ht
    refine x_callV (pc2 := 79) (As := []) (rest := []) (b := a0) mv_X12_compare ml_X12_185 k5 rfl rfl (Nat.le_of_ble_eq_true rfl) hd1 dX12_fact_76 rfl (ht.mono (fun r2 h3 p4 ht' => ?_))
    clear ht
    obtain ⟨v6, rfl, ht⟩ := ht'
    show Ex G d mX12_fact 79 [(0, .ref a0), (1, .int x1)] [.int v6] h3 Q
    exact x_retZ rfl ht.1 dX12_fact_79 ht.2
  · replace ht := ht.2 c1
    refine x_iconst (pc2 := 7) (v := 0) (by decide) dX12_fact_6 rfl ?_
    refine x_istore_n (pc2 := 8) [1, 0] (n := 1) (x := 0) (lv2 := [(0, .ref a0), (1, .int 0)]) (by decide) rfl dX12_fact_7 rfl ?_
    refine x_aload_n (pc2 := 9) 0 (n := 0) (x := a0) rfl dX12_fact_8 rfl ?_
    obtain ⟨k10, ht⟩ := ht
    refine x_callV (pc2 := 12) (As := []) (rest := []) (b := a0) mv_X12_see ml_X12_87 k10 rfl rfl (Nat.le_of_ble_eq_true rfl) hd1 dX12_fact_9 rfl (ht.mono (fun r7 h8 p9 ht' => ?_))
    clear ht
    obtain ⟨v11, rfl, ht⟩ := ht'
    show Ex G d mX12_fact 12 [(0, .ref a0), (1, .int 0)] [.int v11] h8 Q
    refine x_istore_n (pc2 := 13) [1, 2, 0] (n := 2) (x := v11) (lv2 := [(0, .ref a0), (1, .int 0), (2, .int v11)]) (by decide) rfl dX12_fact_12 rfl ?_
    refine x_aload_n (pc2 := 14) 0 (n := 0) (x := a0) rfl dX12_fact_13 rfl ?_
    refine x_ldc2 (pc2 := 17) (v := 7237492) ct_X12_180 dX12_fact_14 rfl ?_
    refine x_callV (pc2 := 20) (As := [.long 7237492]) (rest := []) (b := a0) mv_X12_isWord ml_X12_95 (k10.up p9) rfl rfl (Nat.le_of_ble_eq_true rfl) hd1 dX12_fact_17 rfl (ht.mono (fun r12 h13 p14 ht' => ?_))
    clear ht
    obtain ⟨v15, rfl, ht⟩ := ht'
    show Ex G d mX12_fact 20 [(0, .ref a0), (1, .int 0), (2, .int v11)] [.int v15] h13 Q
    refine x_if_eq (pc2 := 23) 43 dX12_fact_20 (by decide) rfl (fun c16 => ?_) (fun c16 => ?_)
    · replace ht := ht.1 c16
      refine x_iload_n (pc2 := 44) 2 (n := 2) (x := v11) rfl dX12_fact_43 rfl ?_
      refine x_bipush (pc2 := 46) (v := 91) (by decide) dX12_fact_44 rfl ?_
      refine y_icmp_ne (pc2 := 49) 72 dX12_fact_46 (by decide) rfl (fun c17 => ?_) (fun c17 => ?_)
      · replace ht := ht.1 c17
        refine x_goto 2 dX12_fact_72 (by decide) ?_
        refine x_sub [0, 1] (lv2 := [(0, .ref a0), (1, .int 0)]) rfl ?_
        exact ht
      · replace ht := ht.2 c17
        refine x_aload_n (pc2 := 50) 0 (n := 0) (x := a0) rfl dX12_fact_49 rfl ?_
        refine x_bipush (pc2 := 52) (v := 91) (by decide) dX12_fact_50 rfl ?_
        refine x_callV (pc2 := 55) (As := [.int 91]) (rest := []) (b := a0) mv_X12_opens ml_X12_182 ((k10.up p9).up p14) rfl rfl (Nat.le_of_ble_eq_true rfl) hd1 dX12_fact_52 rfl (ht.mono (fun r18 h19 p20 ht' => ?_))
        clear ht
        obtain ⟨v21, rfl, ht⟩ := ht'
        show Ex G d mX12_fact 55 [(0, .ref a0), (1, .int 0), (2, .int v11)] [.int v21] h19 Q
        refine y_if_ne (pc2 := 58) 60 dX12_fact_55 (by decide) rfl (fun c22 => ?_) (fun c22 => ?_)
        · replace ht := ht.1 c22
          refine x_aload_n (pc2 := 61) 0 (n := 0) (x := a0) rfl dX12_fact_60 rfl ?_
          refine x_dup (pc2 := 62) rfl dX12_fact_61 rfl ?_
          refine y_getI (pc2 := 65) (κ := 12) (k := 13) fl_X12_84 (by decide) (by decide) (((k10.up p9).up p14).up p20) rfl dX12_fact_62 rfl ?_
          refine x_iconst (pc2 := 66) (v := 1) (by decide) dX12_fact_65 rfl ?_
          refine x_iadd (pc2 := 67) dX12_fact_66 rfl ?_
          refine x_putI (pc2 := 70) (κ := 12) (k := 13) fl_X12_84 (by decide) (by decide) (Or.inl rfl) rfl (((k10.up p9).up p14).up p20) dX12_fact_67 rfl ?_
          refine x_iconst (pc2 := 71) (v := 1) (by decide) dX12_fact_70 rfl ?_
          refine x_istore_n (pc2 := 72) [1, 0, 2] (n := 1) (x := 1) (lv2 := [(0, .ref a0), (1, .int 1), (2, .int v11)]) (by decide) rfl dX12_fact_71 rfl ?_
          refine x_goto 2 dX12_fact_72 (by decide) ?_
          refine x_sub [0, 1] (lv2 := [(0, .ref a0), (1, .int 1)]) rfl ?_
          exact ht
        · replace ht := ht.2 c22
          refine x_iconst (pc2 := 59) (v := 0) (by decide) dX12_fact_58 rfl ?_
          exact x_retZ rfl (Or.inl rfl) dX12_fact_59 ht
    · replace ht := ht.2 c16
      refine x_aload_n (pc2 := 24) 0 (n := 0) (x := a0) rfl dX12_fact_23 rfl ?_
      refine x_bipush (pc2 := 26) (v := 11) (by decide) dX12_fact_24 rfl ?_
      refine x_callV (pc2 := 29) (As := [.int 11]) (rest := []) (b := a0) mv_X12_opens ml_X12_182 ((k10.up p9).up p14) rfl rfl (Nat.le_of_ble_eq_true rfl) hd1 dX12_fact_26 rfl (ht.mono (fun r23 h24 p25 ht' => ?_))
      clear ht
      obtain ⟨v26, rfl, ht⟩ := ht'
      show Ex G d mX12_fact 29 [(0, .ref a0), (1, .int 0), (2, .int v11)] [.int v26] h24 Q
      refine y_if_ne (pc2 := 32) 34 dX12_fact_29 (by decide) rfl (fun c27 => ?_) (fun c27 => ?_)
      · replace ht := ht.1 c27
        refine x_aload_n (pc2 := 35) 0 (n := 0) (x := a0) rfl dX12_fact_34 rfl ?_
        refine x_callV (pc2 := 38) (As := []) (rest := []) (b := a0) mv_X12_passWord ml_X12_99 (((k10.up p9).up p14).up p25) rfl rfl (Nat.le_of_ble_eq_true rfl) hd1 dX12_fact_35 rfl (ht.mono (fun r28 h29 p30 ht' => ?_))
        clear ht
        obtain ⟨rfl, ht⟩ := ht'
        show Ex G d mX12_fact 38 [(0, .ref a0), (1, .int 0), (2, .int v11)] [] h29 Q
        refine x_iconst (pc2 := 39) (v := 1) (by decide) dX12_fact_38 rfl ?_
        refine x_istore_n (pc2 := 40) [1, 0, 2] (n := 1) (x := 1) (lv2 := [(0, .ref a0), (1, .int 1), (2, .int v11)]) (by decide) rfl dX12_fact_39 rfl ?_
        refine x_goto 72 dX12_fact_40 (by decide) ?_
        refine x_goto 2 dX12_fact_72 (by decide) ?_
        refine x_sub [0, 1] (lv2 := [(0, .ref a0), (1, .int 1)]) rfl ?_
        exact ht
      · replace ht := ht.2 c27
        refine x_iconst (pc2 := 33) (v := 0) (by decide) dX12_fact_32 rfl ?_
        exact x_retZ rfl (Or.inl rfl) dX12_fact_33 ht
def T_X12_isInside (G : GG) (d : Nat) (h : HP) (Q : Option Value → HP → Prop) (a0 : Nat) : Prop :=
  Ex G d mX12_isInside 2 [(0, .ref a0), (1, .int 0)] [] h Q
set_option maxRecDepth 20000 in
theorem t_X12_isInside {G : GG} {d : Nat} {h : HP} {Q : Option Value → HP → Prop} {a0 : Nat} (ht : T_X12_isInside G d h Q a0) : Ex G d mX12_isInside 0 [(0, .ref a0)] [] h Q := by
  unfold T_X12_isInside at ht
  refine x_iconst (pc2 := 1) (v := 0) (by decide) dX12_isInside_0 rfl ?_
  refine x_istore_n (pc2 := 2) [1, 0] (n := 1) (x := 0) (lv2 := [(0, .ref a0), (1, .int 0)]) (by decide) rfl dX12_isInside_1 rfl ?_
  exact ht
theorem e_X12_isInside {G : GG} {d : Nat} {h : HP} {Q : Option Value → HP → Prop} {a0 : Nat} (ht : T_X12_isInside G d h Q a0) : Cal G d mX12_isInside [.ref a0] h Q := cal_of rfl (Nat.le_of_ble_eq_true rfl) (t_X12_isInside ht)
def T_X12_isInside_2 (G : GG) (d : Nat) (h : HP) (Q : Option Value → HP → Prop) (a0 : Nat) (x1 : Int32) : Prop :=
  Kd G h a0 12 ∧ (((hI h a0 21) ≤ x1 → Q (some (.int 0)) h) ∧ (¬ (hI h a0 21) ≤ x1 → ∃ q3, hR h a0 20 = some q3 ∧ Kd G h q3 14 ∧ vp_in x1 (hN h q3) ∧ ((¬ (hI h q3 x1.toNatClampNeg) = 91 → Ex G d mX12_isInside 2 [(0, .ref a0), (1, .int (x1 + 1))] [] h Q) ∧ ((hI h q3 x1.toNatClampNeg) = 91 → Q (some (.int 1)) h))))
set_option maxRecDepth 20000 in
theorem t_X12_isInside_2 {G : GG} {d : Nat} {h : HP} {Q : Option Value → HP → Prop} {a0 : Nat} {x1 : Int32} (ht : T_X12_isInside_2 G d h Q a0 x1) : Ex G d mX12_isInside 2 [(0, .ref a0), (1, .int x1)] [] h Q := by
  unfold T_X12_isInside_2 at ht
  refine x_iload_n (pc2 := 3) 1 (n := 1) (x := x1) rfl dX12_isInside_2 rfl ?_
  refine x_aload_n (pc2 := 4) 0 (n := 0) (x := a0) rfl dX12_isInside_3 rfl ?_
  obtain ⟨k1, ht⟩ := ht
  refine y_getI (pc2 := 7) (κ := 12) (k := 21) fl_X12_149 (by decide) (by decide) k1 rfl dX12_isInside_4 rfl ?_
  refine x_icmp_ge (pc2 := 10) 29 dX12_isInside_7 (by decide) rfl (fun c2 => ?_) (fun c2 => ?_)
  · replace ht := ht.1 c2
    refine x_iconst (pc2 := 30) (v := 0) (by decide) dX12_isInside_29 rfl ?_
    exact x_retZ rfl (Or.inl rfl) dX12_isInside_30 ht
  · replace ht := ht.2 c2
    refine x_aload_n (pc2 := 11) 0 (n := 0) (x := a0) rfl dX12_isInside_10 rfl ?_
    obtain ⟨q3, e4, ht⟩ := ht
    refine y_getR (pc2 := 14) (κ := 12) (k := 20) fl_X12_38 (by decide) (by decide) k1 rfl e4 dX12_isInside_11 rfl ?_
    refine x_iload_n (pc2 := 15) 1 (n := 1) (x := x1) rfl dX12_isInside_14 rfl ?_
    obtain ⟨k5, ht⟩ := ht
    obtain ⟨b6, ht⟩ := ht
    refine x_iald (pc2 := 16) k5 b6 dX12_isInside_15 rfl ?_
    refine x_bipush (pc2 := 18) (v := 91) (by decide) dX12_isInside_16 rfl ?_
    refine y_icmp_ne (pc2 := 21) 23 dX12_isInside_18 (by decide) rfl (fun c7 => ?_) (fun c7 => ?_)
    · replace ht := ht.1 c7
      refine x_iinc (pc2 := 26) 1 [1, 0] (i := 1) (x := x1) (v := (x1 + 1)) (lv2 := [(0, .ref a0), (1, .int (x1 + 1))]) rfl (iinc_eq (by decide) _) (by decide) rfl dX12_isInside_23 rfl ?_
      refine x_goto 2 dX12_isInside_26 (by decide) ?_
      exact ht
    · replace ht := ht.2 c7
      refine x_iconst (pc2 := 22) (v := 1) (by decide) dX12_isInside_21 rfl ?_
      exact x_retZ rfl (Or.inr rfl) dX12_isInside_22 ht
def T_X12_closes (G : GG) (d : Nat) (h : HP) (Q : Option Value → HP → Prop) (a0 : Nat) : Prop :=
  Kd G h a0 12 ∧ Cal G (d - 1) mX12_settles [.ref a0, .int 3] h (fun r1 h2 => r1 = none ∧ Ex G d mX12_closes 5 [(0, .ref a0)] [] h2 Q)
set_option maxRecDepth 20000 in
theorem t_X12_closes {G : GG} {d : Nat} {h : HP} {Q : Option Value → HP → Prop} {a0 : Nat} (hd1 : 1 ≤ d) (ht : T_X12_closes G d h Q a0) : Ex G d mX12_closes 0 [(0, .ref a0)] [] h Q := by
  unfold T_X12_closes at ht
  refine x_aload_n (pc2 := 1) 0 (n := 0) (x := a0) rfl dX12_closes_0 rfl ?_
  refine x_iconst (pc2 := 2) (v := 3) (by decide) dX12_closes_1 rfl ?_
  obtain ⟨k4, ht⟩ := ht
  refine x_callV (pc2 := 5) (As := [.int 3]) (rest := []) (b := a0) mv_X12_settles ml_X12_188 k4 rfl rfl (Nat.le_of_ble_eq_true rfl) hd1 dX12_closes_2 rfl (ht.mono (fun r1 h2 p3 ht' => ?_))
  clear ht
  obtain ⟨rfl, ht⟩ := ht'
  show Ex G d mX12_closes 5 [(0, .ref a0)] [] h2 Q
  exact ht
theorem e_X12_closes {G : GG} {d : Nat} {h : HP} {Q : Option Value → HP → Prop} {a0 : Nat} (hd1 : 1 ≤ d) (ht : T_X12_closes G d h Q a0) : Cal G d mX12_closes [.ref a0] h Q := cal_of rfl (Nat.le_of_ble_eq_true rfl) (t_X12_closes hd1 ht)
def T_X12_closes_5 (G : GG) (d : Nat) (h : HP) (Q : Option Value → HP → Prop) (a0 : Nat) : Prop :=
  Kd G h a0 12 ∧ Cal G (d - 1) mX12_see [.ref a0] h (fun r1 h2 => ∃ v5, r1 = some (.int v5) ∧ ((¬ v5 = 93 → Q none h2) ∧ (v5 = 93 → Cal G (d - 1) mX12_isInside [.ref a0] h2 (fun r7 h8 => ∃ v10, r7 = some (.int v10) ∧ ((v10 = 0 → Q none h8) ∧ (¬ v10 = 0 → Cal G (d - 1) mX12_settles [.ref a0, .int 1] h8 (fun r12 h13 => r12 = none ∧ ∀ h15, h15 = (sI (sI h13 a0 21 ((hI h13 a0 21) - 1)) a0 18 ((hI (sI h13 a0 21 ((hI h13 a0 21) - 1)) a0 18) - 1)) → Cal G (d - 1) mX12_settles [.ref a0, .int 3] (sI h15 a0 13 ((hI h15 a0 13) + 1)) (fun r18 h19 => r18 = none ∧ Ex G d mX12_closes 5 [(0, .ref a0)] [] h19 Q))))))))
set_option maxRecDepth 20000 in
theorem t_X12_closes_5 {G : GG} {d : Nat} {h : HP} {Q : Option Value → HP → Prop} {a0 : Nat} (hd1 : 1 ≤ d) (ht : T_X12_closes_5 G d h Q a0) : Ex G d mX12_closes 5 [(0, .ref a0)] [] h Q := by
  unfold T_X12_closes_5 at ht
  refine x_aload_n (pc2 := 6) 0 (n := 0) (x := a0) rfl dX12_closes_5 rfl ?_
  obtain ⟨k4, ht⟩ := ht
  refine x_callV (pc2 := 9) (As := []) (rest := []) (b := a0) mv_X12_see ml_X12_87 k4 rfl rfl (Nat.le_of_ble_eq_true rfl) hd1 dX12_closes_6 rfl (ht.mono (fun r1 h2 p3 ht' => ?_))
  clear ht
  obtain ⟨v5, rfl, ht⟩ := ht'
  show Ex G d mX12_closes 9 [(0, .ref a0)] [.int v5] h2 Q
  refine x_bipush (pc2 := 11) (v := 93) (by decide) dX12_closes_9 rfl ?_
  refine y_icmp_ne (pc2 := 14) 64 dX12_closes_11 (by decide) rfl (fun c6 => ?_) (fun c6 => ?_)
  · replace ht := ht.1 c6
    exact x_retV rfl dX12_closes_64 ht
  · replace ht := ht.2 c6
    refine x_aload_n (pc2 := 15) 0 (n := 0) (x := a0) rfl dX12_closes_14 rfl ?_
    refine x_callV (pc2 := 18) (As := []) (rest := []) (b := a0) mv_X12_isInside ml_X12_191 (k4.up p3) rfl rfl (Nat.le_of_ble_eq_true rfl) hd1 dX12_closes_15 rfl (ht.mono (fun r7 h8 p9 ht' => ?_))
    clear ht
    obtain ⟨v10, rfl, ht⟩ := ht'
    show Ex G d mX12_closes 18 [(0, .ref a0)] [.int v10] h8 Q
    refine x_if_eq (pc2 := 21) 64 dX12_closes_18 (by decide) rfl (fun c11 => ?_) (fun c11 => ?_)
    · replace ht := ht.1 c11
      exact x_retV rfl dX12_closes_64 ht
    · replace ht := ht.2 c11
      refine x_aload_n (pc2 := 22) 0 (n := 0) (x := a0) rfl dX12_closes_21 rfl ?_
      refine x_iconst (pc2 := 23) (v := 1) (by decide) dX12_closes_22 rfl ?_
      refine x_callV (pc2 := 26) (As := [.int 1]) (rest := []) (b := a0) mv_X12_settles ml_X12_188 ((k4.up p3).up p9) rfl rfl (Nat.le_of_ble_eq_true rfl) hd1 dX12_closes_23 rfl (ht.mono (fun r12 h13 p14 ht' => ?_))
      clear ht
      obtain ⟨rfl, ht⟩ := ht'
      show Ex G d mX12_closes 26 [(0, .ref a0)] [] h13 Q
      refine x_aload_n (pc2 := 27) 0 (n := 0) (x := a0) rfl dX12_closes_26 rfl ?_
      refine x_dup (pc2 := 28) rfl dX12_closes_27 rfl ?_
      refine y_getI (pc2 := 31) (κ := 12) (k := 21) fl_X12_149 (by decide) (by decide) (((k4.up p3).up p9).up p14) rfl dX12_closes_28 rfl ?_
      refine x_iconst (pc2 := 32) (v := 1) (by decide) dX12_closes_31 rfl ?_
      refine x_isub (pc2 := 33) dX12_closes_32 rfl ?_
      refine x_putI (pc2 := 36) (κ := 12) (k := 21) fl_X12_149 (by decide) (by decide) (Or.inl rfl) rfl (((k4.up p3).up p9).up p14) dX12_closes_33 rfl ?_
      refine x_aload_n (pc2 := 37) 0 (n := 0) (x := a0) rfl dX12_closes_36 rfl ?_
      refine x_dup (pc2 := 38) rfl dX12_closes_37 rfl ?_
      refine y_getI (pc2 := 41) (κ := 12) (k := 18) fl_X12_146 (by decide) (by decide) (((k4.up p3).up p9).up p14).sI rfl dX12_closes_38 rfl ?_
      refine x_iconst (pc2 := 42) (v := 1) (by decide) dX12_closes_41 rfl ?_
      refine x_isub (pc2 := 43) dX12_closes_42 rfl ?_
      refine x_putI (pc2 := 46) (κ := 12) (k := 18) fl_X12_146 (by decide) (by decide) (Or.inl rfl) rfl (((k4.up p3).up p9).up p14).sI dX12_closes_43 rfl ?_
      refine nm_I (fun h15 e16 p17 => ?_)
      replace ht := ht h15 e16
      refine x_aload_n (pc2 := 47) 0 (n := 0) (x := a0) rfl dX12_closes_46 rfl ?_
      refine x_dup (pc2 := 48) rfl dX12_closes_47 rfl ?_
      refine y_getI (pc2 := 51) (κ := 12) (k := 13) fl_X12_84 (by decide) (by decide) ((((k4.up p3).up p9).up p14).sI.up p17) rfl dX12_closes_48 rfl ?_
      refine x_iconst (pc2 := 52) (v := 1) (by decide) dX12_closes_51 rfl ?_
      refine x_iadd (pc2 := 53) dX12_closes_52 rfl ?_
      refine x_putI (pc2 := 56) (κ := 12) (k := 13) fl_X12_84 (by decide) (by decide) (Or.inl rfl) rfl ((((k4.up p3).up p9).up p14).sI.up p17) dX12_closes_53 rfl ?_
      refine x_aload_n (pc2 := 57) 0 (n := 0) (x := a0) rfl dX12_closes_56 rfl ?_
      refine x_iconst (pc2 := 58) (v := 3) (by decide) dX12_closes_57 rfl ?_
      refine x_callV (pc2 := 61) (As := [.int 3]) (rest := []) (b := a0) mv_X12_settles ml_X12_188 ((((k4.up p3).up p9).up p14).sI.up p17).sI rfl rfl (Nat.le_of_ble_eq_true rfl) hd1 dX12_closes_58 rfl (ht.mono (fun r18 h19 p20 ht' => ?_))
      clear ht
      obtain ⟨rfl, ht⟩ := ht'
      show Ex G d mX12_closes 61 [(0, .ref a0)] [] h19 Q
      refine x_goto 5 dX12_closes_61 (by decide) ?_
      exact ht
def T_X12_tested (G : GG) (d : Nat) (h : HP) (Q : Option Value → HP → Prop) (a0 : Nat) : Prop :=
  Kd G h a0 12 ∧ Ex G d mX12_tested 12 [(0, .ref a0), (1, .int 1)] [] (sI (sI h a0 21 0) a0 18 0) Q
set_option maxRecDepth 20000 in
theorem t_X12_tested {G : GG} {d : Nat} {h : HP} {Q : Option Value → HP → Prop} {a0 : Nat} (ht : T_X12_tested G d h Q a0) : Ex G d mX12_tested 0 [(0, .ref a0)] [] h Q := by
  unfold T_X12_tested at ht
  refine x_aload_n (pc2 := 1) 0 (n := 0) (x := a0) rfl dX12_tested_0 rfl ?_
  refine x_iconst (pc2 := 2) (v := 0) (by decide) dX12_tested_1 rfl ?_
  obtain ⟨k1, ht⟩ := ht
  refine x_putI (pc2 := 5) (κ := 12) (k := 21) fl_X12_149 (by decide) (by decide) (Or.inl rfl) rfl k1 dX12_tested_2 rfl ?_
  refine x_aload_n (pc2 := 6) 0 (n := 0) (x := a0) rfl dX12_tested_5 rfl ?_
  refine x_iconst (pc2 := 7) (v := 0) (by decide) dX12_tested_6 rfl ?_
  refine x_putI (pc2 := 10) (κ := 12) (k := 18) fl_X12_146 (by decide) (by decide) (Or.inl rfl) rfl k1.sI dX12_tested_7 rfl ?_
  refine x_iconst (pc2 := 11) (v := 1) (by decide) dX12_tested_10 rfl ?_
  refine x_istore_n (pc2 := 12) [1, 0] (n := 1) (x := 1) (lv2 := [(0, .ref a0), (1, .int 1)]) (by decide) rfl dX12_tested_11 rfl ?_
  exact ht
theorem e_X12_tested {G : GG} {d : Nat} {h : HP} {Q : Option Value → HP → Prop} {a0 : Nat} (ht : T_X12_tested G d h Q a0) : Cal G d mX12_tested [.ref a0] h Q := cal_of rfl (Nat.le_of_ble_eq_true rfl) (t_X12_tested ht)
def T_X12_tested_12 (G : GG) (d : Nat) (h : HP) (Q : Option Value → HP → Prop) (a0 : Nat) (x1 : Int32) : Prop :=
  ((x1 = 0 → Kd G h a0 12 ∧ Cal G (d - 1) mX12_isInside [.ref a0] h (fun r2 h3 => ∃ v6, r2 = some (.int v6) ∧ ((v6 = 0 → Cal G (d - 1) mX12_settles [.ref a0, .int 1] h3 (fun r8 h9 => r8 = none ∧ Q (some (.int 1)) h9)) ∧ (¬ v6 = 0 → Cal G (d - 1) mX12_see [.ref a0] h3 (fun r11 h12 => ∃ v14, r11 = some (.int v14) ∧ Cal G (d - 1) mX12_fails [.ref a0, .int 0, .int (hI h12 a0 13)] h12 (fun r15 h16 => ∃ v18, r15 = some (.int v18) ∧ ((v18 = 0 ∨ v18 = 1) ∧ Q (some (.int v18)) h16))))))) ∧ (¬ x1 = 0 → Kd G h a0 12 ∧ Cal G (d - 1) mX12_fact [.ref a0] h (fun r19 h20 => ∃ v23, r19 = some (.int v23) ∧ ((¬ v23 = 0 → Cal G (d - 1) mX12_closes [.ref a0] h20 (fun r25 h26 => r25 = none ∧ Cal G (d - 1) mX12_isWord [.ref a0, .long 6385252] h26 (fun r28 h29 => ∃ v31, r28 = some (.int v31) ∧ ((¬ v31 = 0 → Ex G d mX12_tested 54 [(0, .ref a0), (1, .int x1)] [.int 1] h29 Q) ∧ (v31 = 0 → Cal G (d - 1) mX12_isWord [.ref a0, .long 28530] h29 (fun r33 h34 => ∃ v36, r33 = some (.int v36) ∧ ((v36 = 0 → Ex G d mX12_tested 54 [(0, .ref a0), (1, .int x1)] [.int 0] h34 Q) ∧ (¬ v36 = 0 → Ex G d mX12_tested 54 [(0, .ref a0), (1, .int x1)] [.int 1] h34 Q)))))))) ∧ (v23 = 0 → Q (some (.int 0)) h20)))))
set_option maxRecDepth 20000 in
theorem t_X12_tested_12 {G : GG} {d : Nat} {h : HP} {Q : Option Value → HP → Prop} {a0 : Nat} {x1 : Int32} (hd1 : 1 ≤ d) (ht : T_X12_tested_12 G d h Q a0 x1) : Ex G d mX12_tested 12 [(0, .ref a0), (1, .int x1)] [] h Q := by
  unfold T_X12_tested_12 at ht
  refine x_iload_n (pc2 := 13) 1 (n := 1) (x := x1) rfl dX12_tested_12 rfl ?_
  refine x_if_eq (pc2 := 16) 112 dX12_tested_13 (by decide) rfl (fun c1 => ?_) (fun c1 => ?_)
  · replace ht := ht.1 c1
    refine x_aload_n (pc2 := 113) 0 (n := 0) (x := a0) rfl dX12_tested_112 rfl ?_
    obtain ⟨k5, ht⟩ := ht
    refine x_callV (pc2 := 116) (As := []) (rest := []) (b := a0) mv_X12_isInside ml_X12_191 k5 rfl rfl (Nat.le_of_ble_eq_true rfl) hd1 dX12_tested_113 rfl (ht.mono (fun r2 h3 p4 ht' => ?_))
    clear ht
    obtain ⟨v6, rfl, ht⟩ := ht'
    show Ex G d mX12_tested 116 [(0, .ref a0), (1, .int x1)] [.int v6] h3 Q
    refine x_if_eq (pc2 := 119) 134 dX12_tested_116 (by decide) rfl (fun c7 => ?_) (fun c7 => ?_)
    · replace ht := ht.1 c7
      refine x_aload_n (pc2 := 135) 0 (n := 0) (x := a0) rfl dX12_tested_134 rfl ?_
      refine x_iconst (pc2 := 136) (v := 1) (by decide) dX12_tested_135 rfl ?_
      refine x_callV (pc2 := 139) (As := [.int 1]) (rest := []) (b := a0) mv_X12_settles ml_X12_188 (k5.up p4) rfl rfl (Nat.le_of_ble_eq_true rfl) hd1 dX12_tested_136 rfl (ht.mono (fun r8 h9 p10 ht' => ?_))
      clear ht
      obtain ⟨rfl, ht⟩ := ht'
      show Ex G d mX12_tested 139 [(0, .ref a0), (1, .int x1)] [] h9 Q
      refine x_iconst (pc2 := 140) (v := 1) (by decide) dX12_tested_139 rfl ?_
      exact x_retZ rfl (Or.inr rfl) dX12_tested_140 ht
    · replace ht := ht.2 c7
      refine x_aload_n (pc2 := 120) 0 (n := 0) (x := a0) rfl dX12_tested_119 rfl ?_
      refine x_callV (pc2 := 123) (As := []) (rest := []) (b := a0) mv_X12_see ml_X12_87 (k5.up p4) rfl rfl (Nat.le_of_ble_eq_true rfl) hd1 dX12_tested_120 rfl (ht.mono (fun r11 h12 p13 ht' => ?_))
      clear ht
      obtain ⟨v14, rfl, ht⟩ := ht'
      show Ex G d mX12_tested 123 [(0, .ref a0), (1, .int x1)] [.int v14] h12 Q
      refine x_pop (pc2 := 124) rfl dX12_tested_123 rfl ?_
      refine x_aload_n (pc2 := 125) 0 (n := 0) (x := a0) rfl dX12_tested_124 rfl ?_
      refine x_iconst (pc2 := 126) (v := 0) (by decide) dX12_tested_125 rfl ?_
      refine x_aload_n (pc2 := 127) 0 (n := 0) (x := a0) rfl dX12_tested_126 rfl ?_
      refine y_getI (pc2 := 130) (κ := 12) (k := 13) fl_X12_84 (by decide) (by decide) ((k5.up p4).up p13) rfl dX12_tested_127 rfl ?_
      refine x_callV (pc2 := 133) (As := [.int 0, .int (hI h12 a0 13)]) (rest := []) (b := a0) mv_X12_fails ml_X12_105 ((k5.up p4).up p13) rfl rfl (Nat.le_of_ble_eq_true rfl) hd1 dX12_tested_130 rfl (ht.mono (fun r15 h16 p17 ht' => ?_))
      clear ht
      obtain ⟨v18, rfl, ht⟩ := ht'
      show Ex G d mX12_tested 133 [(0, .ref a0), (1, .int x1)] [.int v18] h16 Q
      exact x_retZ rfl ht.1 dX12_tested_133 ht.2
  · replace ht := ht.2 c1
    refine x_aload_n (pc2 := 17) 0 (n := 0) (x := a0) rfl dX12_tested_16 rfl ?_
    obtain ⟨k22, ht⟩ := ht
    refine x_callV (pc2 := 20) (As := []) (rest := []) (b := a0) mv_X12_fact ml_X12_194 k22 rfl rfl (Nat.le_of_ble_eq_true rfl) hd1 dX12_tested_17 rfl (ht.mono (fun r19 h20 p21 ht' => ?_))
    clear ht
    obtain ⟨v23, rfl, ht⟩ := ht'
    show Ex G d mX12_tested 20 [(0, .ref a0), (1, .int x1)] [.int v23] h20 Q
    refine y_if_ne (pc2 := 23) 25 dX12_tested_20 (by decide) rfl (fun c24 => ?_) (fun c24 => ?_)
    · replace ht := ht.1 c24
      refine x_aload_n (pc2 := 26) 0 (n := 0) (x := a0) rfl dX12_tested_25 rfl ?_
      refine x_callV (pc2 := 29) (As := []) (rest := []) (b := a0) mv_X12_closes ml_X12_197 (k22.up p21) rfl rfl (Nat.le_of_ble_eq_true rfl) hd1 dX12_tested_26 rfl (ht.mono (fun r25 h26 p27 ht' => ?_))
      clear ht
      obtain ⟨rfl, ht⟩ := ht'
      show Ex G d mX12_tested 29 [(0, .ref a0), (1, .int x1)] [] h26 Q
      refine x_aload_n (pc2 := 30) 0 (n := 0) (x := a0) rfl dX12_tested_29 rfl ?_
      refine x_ldc2 (pc2 := 33) (v := 6385252) ct_X12_200 dX12_tested_30 rfl ?_
      refine x_callV (pc2 := 36) (As := [.long 6385252]) (rest := []) (b := a0) mv_X12_isWord ml_X12_95 ((k22.up p21).up p27) rfl rfl (Nat.le_of_ble_eq_true rfl) hd1 dX12_tested_33 rfl (ht.mono (fun r28 h29 p30 ht' => ?_))
      clear ht
      obtain ⟨v31, rfl, ht⟩ := ht'
      show Ex G d mX12_tested 36 [(0, .ref a0), (1, .int x1)] [.int v31] h29 Q
      refine y_if_ne (pc2 := 39) 49 dX12_tested_36 (by decide) rfl (fun c32 => ?_) (fun c32 => ?_)
      · replace ht := ht.1 c32
        refine x_iconst (pc2 := 50) (v := 1) (by decide) dX12_tested_49 rfl ?_
        refine x_goto 54 dX12_tested_50 (by decide) ?_
        exact ht
      · replace ht := ht.2 c32
        refine x_aload_n (pc2 := 40) 0 (n := 0) (x := a0) rfl dX12_tested_39 rfl ?_
        refine x_ldc2 (pc2 := 43) (v := 28530) ct_X12_202 dX12_tested_40 rfl ?_
        refine x_callV (pc2 := 46) (As := [.long 28530]) (rest := []) (b := a0) mv_X12_isWord ml_X12_95 (((k22.up p21).up p27).up p30) rfl rfl (Nat.le_of_ble_eq_true rfl) hd1 dX12_tested_43 rfl (ht.mono (fun r33 h34 p35 ht' => ?_))
        clear ht
        obtain ⟨v36, rfl, ht⟩ := ht'
        show Ex G d mX12_tested 46 [(0, .ref a0), (1, .int x1)] [.int v36] h34 Q
        refine x_if_eq (pc2 := 49) 53 dX12_tested_46 (by decide) rfl (fun c37 => ?_) (fun c37 => ?_)
        · replace ht := ht.1 c37
          refine x_iconst (pc2 := 54) (v := 0) (by decide) dX12_tested_53 rfl ?_
          exact ht
        · replace ht := ht.2 c37
          refine x_iconst (pc2 := 50) (v := 1) (by decide) dX12_tested_49 rfl ?_
          refine x_goto 54 dX12_tested_50 (by decide) ?_
          exact ht
    · replace ht := ht.2 c24
      refine x_iconst (pc2 := 24) (v := 0) (by decide) dX12_tested_23 rfl ?_
      exact x_retZ rfl (Or.inl rfl) dX12_tested_24 ht
def T_X12_tested_54 (G : GG) (d : Nat) (h : HP) (Q : Option Value → HP → Prop) (a0 : Nat) (x1 : Int32) (sx0 : Int32) : Prop :=
  ((sx0 = 0 → Ex G d mX12_tested 12 [(0, .ref a0), (1, .int sx0)] [] h Q) ∧ (¬ sx0 = 0 → Kd G h a0 12 ∧ Cal G (d - 1) mX12_isWord [.ref a0, .long 6385252] h (fun r2 h3 => ∃ v6, r2 = some (.int v6) ∧ ((v6 = 0 → Ex G d mX12_tested 76 [(0, .ref a0), (1, .int sx0)] [.int 13] h3 Q) ∧ (¬ v6 = 0 → Ex G d mX12_tested 76 [(0, .ref a0), (1, .int sx0)] [.int 12] h3 Q)))))
set_option maxRecDepth 20000 in
theorem t_X12_tested_54 {G : GG} {d : Nat} {h : HP} {Q : Option Value → HP → Prop} {a0 : Nat} {x1 : Int32} {sx0 : Int32} (hd1 : 1 ≤ d) (ht : T_X12_tested_54 G d h Q a0 x1 sx0) : Ex G d mX12_tested 54 [(0, .ref a0), (1, .int x1)] [.int sx0] h Q := by
  unfold T_X12_tested_54 at ht
  refine x_istore_n (pc2 := 55) [1, 0] (n := 1) (x := sx0) (lv2 := [(0, .ref a0), (1, .int sx0)]) (by decide) rfl dX12_tested_54 rfl ?_
  refine x_iload_n (pc2 := 56) 1 (n := 1) (x := sx0) rfl dX12_tested_55 rfl ?_
  refine x_if_eq (pc2 := 59) 12 dX12_tested_56 (by decide) rfl (fun c1 => ?_) (fun c1 => ?_)
  · replace ht := ht.1 c1
    exact ht
  · replace ht := ht.2 c1
    refine x_aload_n (pc2 := 60) 0 (n := 0) (x := a0) rfl dX12_tested_59 rfl ?_
    refine x_ldc2 (pc2 := 63) (v := 6385252) ct_X12_200 dX12_tested_60 rfl ?_
    obtain ⟨k5, ht⟩ := ht
    refine x_callV (pc2 := 66) (As := [.long 6385252]) (rest := []) (b := a0) mv_X12_isWord ml_X12_95 k5 rfl rfl (Nat.le_of_ble_eq_true rfl) hd1 dX12_tested_63 rfl (ht.mono (fun r2 h3 p4 ht' => ?_))
    clear ht
    obtain ⟨v6, rfl, ht⟩ := ht'
    show Ex G d mX12_tested 66 [(0, .ref a0), (1, .int sx0)] [.int v6] h3 Q
    refine x_if_eq (pc2 := 69) 74 dX12_tested_66 (by decide) rfl (fun c7 => ?_) (fun c7 => ?_)
    · replace ht := ht.1 c7
      refine x_bipush (pc2 := 76) (v := 13) (by decide) dX12_tested_74 rfl ?_
      exact ht
    · replace ht := ht.2 c7
      refine x_bipush (pc2 := 71) (v := 12) (by decide) dX12_tested_69 rfl ?_
      refine x_goto 76 dX12_tested_71 (by decide) ?_
      exact ht
def T_X12_tested_76 (G : GG) (d : Nat) (h : HP) (Q : Option Value → HP → Prop) (a0 : Nat) (x1 : Int32) (sx0 : Int32) : Prop :=
  Kd G h a0 12 ∧ Cal G (d - 1) mX12_passWord [.ref a0] h (fun r1 h2 => r1 = none ∧ Cal G (d - 1) mX12_strength [.int sx0] h2 (fun r5 h6 => ∃ v8, r5 = some (.int v8) ∧ Cal G (d - 1) mX12_settles [.ref a0, .int v8] h6 (fun r9 h10 => r9 = none ∧ ∃ q12, hR h10 a0 20 = some q12 ∧ Kd G h10 q12 14 ∧ vp_in (hI h10 a0 21) (hN h10 q12) ∧ ∀ h16, h16 = (sI (sI h10 q12 (hI h10 a0 21).toNatClampNeg sx0) a0 21 ((hI (sI h10 q12 (hI h10 a0 21).toNatClampNeg sx0) a0 21) + 1)) → Ex G d mX12_tested 12 [(0, .ref a0), (1, .int x1)] [] h16 Q)))
set_option maxRecDepth 20000 in
theorem t_X12_tested_76 {G : GG} {d : Nat} {h : HP} {Q : Option Value → HP → Prop} {a0 : Nat} {x1 : Int32} {sx0 : Int32} (hd1 : 1 ≤ d) (ht : T_X12_tested_76 G d h Q a0 x1 sx0) : Ex G d mX12_tested 76 [(0, .ref a0), (1, .int x1)] [.int sx0] h Q := by
  unfold T_X12_tested_76 at ht
  refine x_istore_n (pc2 := 77) [1, 2, 0] (n := 2) (x := sx0) (lv2 := [(0, .ref a0), (1, .int x1), (2, .int sx0)]) (by decide) rfl dX12_tested_76 rfl ?_
  refine x_aload_n (pc2 := 78) 0 (n := 0) (x := a0) rfl dX12_tested_77 rfl ?_
  obtain ⟨k4, ht⟩ := ht
  refine x_callV (pc2 := 81) (As := []) (rest := []) (b := a0) mv_X12_passWord ml_X12_99 k4 rfl rfl (Nat.le_of_ble_eq_true rfl) hd1 dX12_tested_78 rfl (ht.mono (fun r1 h2 p3 ht' => ?_))
  clear ht
  obtain ⟨rfl, ht⟩ := ht'
  show Ex G d mX12_tested 81 [(0, .ref a0), (1, .int x1), (2, .int sx0)] [] h2 Q
  refine x_aload_n (pc2 := 82) 0 (n := 0) (x := a0) rfl dX12_tested_81 rfl ?_
  refine x_iload_n (pc2 := 83) 2 (n := 2) (x := sx0) rfl dX12_tested_82 rfl ?_
  refine x_callS (pc2 := 86) (As := [.int sx0]) (rest := [.ref a0]) ms_X12_strength ml_X12_152 rfl rfl (Nat.le_of_ble_eq_true rfl) hd1 dX12_tested_83 rfl (ht.mono (fun r5 h6 p7 ht' => ?_))
  clear ht
  obtain ⟨v8, rfl, ht⟩ := ht'
  show Ex G d mX12_tested 86 [(0, .ref a0), (1, .int x1), (2, .int sx0)] [.int v8, .ref a0] h6 Q
  refine x_callV (pc2 := 89) (As := [.int v8]) (rest := []) (b := a0) mv_X12_settles ml_X12_188 ((k4.up p3).up p7) rfl rfl (Nat.le_of_ble_eq_true rfl) hd1 dX12_tested_86 rfl (ht.mono (fun r9 h10 p11 ht' => ?_))
  clear ht
  obtain ⟨rfl, ht⟩ := ht'
  show Ex G d mX12_tested 89 [(0, .ref a0), (1, .int x1), (2, .int sx0)] [] h10 Q
  refine x_aload_n (pc2 := 90) 0 (n := 0) (x := a0) rfl dX12_tested_89 rfl ?_
  obtain ⟨q12, e13, ht⟩ := ht
  refine y_getR (pc2 := 93) (κ := 12) (k := 20) fl_X12_38 (by decide) (by decide) (((k4.up p3).up p7).up p11) rfl e13 dX12_tested_90 rfl ?_
  refine x_aload_n (pc2 := 94) 0 (n := 0) (x := a0) rfl dX12_tested_93 rfl ?_
  refine y_getI (pc2 := 97) (κ := 12) (k := 21) fl_X12_149 (by decide) (by decide) (((k4.up p3).up p7).up p11) rfl dX12_tested_94 rfl ?_
  refine x_iload_n (pc2 := 98) 2 (n := 2) (x := sx0) rfl dX12_tested_97 rfl ?_
  obtain ⟨k14, ht⟩ := ht
  obtain ⟨b15, ht⟩ := ht
  refine x_iast (pc2 := 99) k14 b15 dX12_tested_98 rfl ?_
  refine x_aload_n (pc2 := 100) 0 (n := 0) (x := a0) rfl dX12_tested_99 rfl ?_
  refine x_dup (pc2 := 101) rfl dX12_tested_100 rfl ?_
  refine y_getI (pc2 := 104) (κ := 12) (k := 21) fl_X12_149 (by decide) (by decide) (((k4.up p3).up p7).up p11).sI rfl dX12_tested_101 rfl ?_
  refine x_iconst (pc2 := 105) (v := 1) (by decide) dX12_tested_104 rfl ?_
  refine x_iadd (pc2 := 106) dX12_tested_105 rfl ?_
  refine x_putI (pc2 := 109) (κ := 12) (k := 21) fl_X12_149 (by decide) (by decide) (Or.inl rfl) rfl (((k4.up p3).up p7).up p11).sI dX12_tested_106 rfl ?_
  refine nm_I (fun h16 e17 p18 => ?_)
  replace ht := ht h16 e17
  refine x_goto 12 dX12_tested_109 (by decide) ?_
  refine x_sub [0, 1] (lv2 := [(0, .ref a0), (1, .int x1)]) rfl ?_
  exact ht
def T_X12_clauseOf (G : GG) (d : Nat) (h : HP) (Q : Option Value → HP → Prop) (a0 : Nat) (x1 : Int32) : Prop :=
  Kd G h a0 12 ∧ Cal G (d - 1) mX12_passWord [.ref a0] h (fun r1 h2 => r1 = none ∧ ∃ q5, hR h2 a0 6 = some q5 ∧ Kd G h2 q5 14 ∧ vp_in (hI h2 a0 16) (hN h2 q5) ∧ ∃ q9, hR h2 a0 5 = some q9 ∧ Kd G h2 q9 14 ∧ vp_in ((60 * (hI h2 a0 16)) + (5 * (hI h2 q5 (hI h2 a0 16).toNatClampNeg))) (hN h2 q9) ∧ ∀ h13, h13 = (sI h2 q9 ((60 * (hI h2 a0 16)) + (5 * (hI h2 q5 (hI h2 a0 16).toNatClampNeg))).toNatClampNeg x1) → ∃ q16, hR h13 a0 4 = some q16 ∧ Kd G h13 q16 14 ∧ vp_in (hI h13 a0 16) (hN h13 q16) ∧ vp_in (((60 * (hI h2 a0 16)) + (5 * (hI h2 q5 (hI h2 a0 16).toNatClampNeg))) + 1) (hN h13 q9) ∧ ∀ h21, h21 = (sI h13 q9 (((60 * (hI h2 a0 16)) + (5 * (hI h2 q5 (hI h2 a0 16).toNatClampNeg))) + 1).toNatClampNeg (hI h13 q16 (hI h13 a0 16).toNatClampNeg)) → ((¬ x1 = 0 → Ex G d mX12_clauseOf 61 [(0, .ref a0), (1, .int x1), (2, .int ((60 * (hI h2 a0 16)) + (5 * (hI h2 q5 (hI h2 a0 16).toNatClampNeg))))] [] h21 Q) ∧ (x1 = 0 → Cal G (d - 1) mX12_sum [.ref a0] h21 (fun r25 h26 => ∃ v28, r25 = some (.int v28) ∧ ((¬ v28 = 0 → Ex G d mX12_clauseOf 61 [(0, .ref a0), (1, .int x1), (2, .int ((60 * (hI h2 a0 16)) + (5 * (hI h2 q5 (hI h2 a0 16).toNatClampNeg))))] [] h26 Q) ∧ (v28 = 0 → Q (some (.int 0)) h26))))))
set_option maxRecDepth 20000 in
theorem t_X12_clauseOf {G : GG} {d : Nat} {h : HP} {Q : Option Value → HP → Prop} {a0 : Nat} {x1 : Int32} (hd1 : 1 ≤ d) (ht : T_X12_clauseOf G d h Q a0 x1) : Ex G d mX12_clauseOf 0 [(0, .ref a0), (1, .int x1)] [] h Q := by
  unfold T_X12_clauseOf at ht
  refine x_aload_n (pc2 := 1) 0 (n := 0) (x := a0) rfl dX12_clauseOf_0 rfl ?_
  obtain ⟨k4, ht⟩ := ht
  refine x_callV (pc2 := 4) (As := []) (rest := []) (b := a0) mv_X12_passWord ml_X12_99 k4 rfl rfl (Nat.le_of_ble_eq_true rfl) hd1 dX12_clauseOf_1 rfl (ht.mono (fun r1 h2 p3 ht' => ?_))
  clear ht
  obtain ⟨rfl, ht⟩ := ht'
  show Ex G d mX12_clauseOf 4 [(0, .ref a0), (1, .int x1)] [] h2 Q
  refine x_bipush (pc2 := 6) (v := 60) (by decide) dX12_clauseOf_4 rfl ?_
  refine x_aload_n (pc2 := 7) 0 (n := 0) (x := a0) rfl dX12_clauseOf_6 rfl ?_
  refine y_getI (pc2 := 10) (κ := 12) (k := 16) fl_X12_140 (by decide) (by decide) (k4.up p3) rfl dX12_clauseOf_7 rfl ?_
  refine x_imul (pc2 := 11) dX12_clauseOf_10 rfl ?_
  refine x_iconst (pc2 := 12) (v := 5) (by decide) dX12_clauseOf_11 rfl ?_
  refine x_aload_n (pc2 := 13) 0 (n := 0) (x := a0) rfl dX12_clauseOf_12 rfl ?_
  obtain ⟨q5, e6, ht⟩ := ht
  refine y_getR (pc2 := 16) (κ := 12) (k := 6) fl_X12_26 (by decide) (by decide) (k4.up p3) rfl e6 dX12_clauseOf_13 rfl ?_
  refine x_aload_n (pc2 := 17) 0 (n := 0) (x := a0) rfl dX12_clauseOf_16 rfl ?_
  refine y_getI (pc2 := 20) (κ := 12) (k := 16) fl_X12_140 (by decide) (by decide) (k4.up p3) rfl dX12_clauseOf_17 rfl ?_
  obtain ⟨k7, ht⟩ := ht
  obtain ⟨b8, ht⟩ := ht
  refine x_iald (pc2 := 21) k7 b8 dX12_clauseOf_20 rfl ?_
  refine x_imul (pc2 := 22) dX12_clauseOf_21 rfl ?_
  refine x_iadd (pc2 := 23) dX12_clauseOf_22 rfl ?_
  refine x_istore_n (pc2 := 24) [1, 2, 0] (n := 2) (x := ((60 * (hI h2 a0 16)) + (5 * (hI h2 q5 (hI h2 a0 16).toNatClampNeg)))) (lv2 := [(0, .ref a0), (1, .int x1), (2, .int ((60 * (hI h2 a0 16)) + (5 * (hI h2 q5 (hI h2 a0 16).toNatClampNeg))))]) (by decide) rfl dX12_clauseOf_23 rfl ?_
  refine x_aload_n (pc2 := 25) 0 (n := 0) (x := a0) rfl dX12_clauseOf_24 rfl ?_
  obtain ⟨q9, e10, ht⟩ := ht
  refine y_getR (pc2 := 28) (κ := 12) (k := 5) fl_X12_23 (by decide) (by decide) (k4.up p3) rfl e10 dX12_clauseOf_25 rfl ?_
  refine x_iload_n (pc2 := 29) 2 (n := 2) (x := ((60 * (hI h2 a0 16)) + (5 * (hI h2 q5 (hI h2 a0 16).toNatClampNeg)))) rfl dX12_clauseOf_28 rfl ?_
  refine x_iload_n (pc2 := 30) 1 (n := 1) (x := x1) rfl dX12_clauseOf_29 rfl ?_
  obtain ⟨k11, ht⟩ := ht
  obtain ⟨b12, ht⟩ := ht
  refine x_iast (pc2 := 31) k11 b12 dX12_clauseOf_30 rfl ?_
  refine nm_I (fun h13 e14 p15 => ?_)
  replace ht := ht h13 e14
  refine x_aload_n (pc2 := 32) 0 (n := 0) (x := a0) rfl dX12_clauseOf_31 rfl ?_
  refine y_getR (pc2 := 35) (κ := 12) (k := 5) fl_X12_23 (by decide) (by decide) ((k4.up p3).up p15) rfl (by rw [e14]; exact ((hR_sI _ _ _ _ _ _).trans e10)) dX12_clauseOf_32 rfl ?_
  refine x_iload_n (pc2 := 36) 2 (n := 2) (x := ((60 * (hI h2 a0 16)) + (5 * (hI h2 q5 (hI h2 a0 16).toNatClampNeg)))) rfl dX12_clauseOf_35 rfl ?_
  refine x_iconst (pc2 := 37) (v := 1) (by decide) dX12_clauseOf_36 rfl ?_
  refine x_iadd (pc2 := 38) dX12_clauseOf_37 rfl ?_
  refine x_aload_n (pc2 := 39) 0 (n := 0) (x := a0) rfl dX12_clauseOf_38 rfl ?_
  obtain ⟨q16, e17, ht⟩ := ht
  refine y_getR (pc2 := 42) (κ := 12) (k := 4) fl_X12_20 (by decide) (by decide) ((k4.up p3).up p15) rfl e17 dX12_clauseOf_39 rfl ?_
  refine x_aload_n (pc2 := 43) 0 (n := 0) (x := a0) rfl dX12_clauseOf_42 rfl ?_
  refine y_getI (pc2 := 46) (κ := 12) (k := 16) fl_X12_140 (by decide) (by decide) ((k4.up p3).up p15) rfl dX12_clauseOf_43 rfl ?_
  obtain ⟨k18, ht⟩ := ht
  obtain ⟨b19, ht⟩ := ht
  refine x_iald (pc2 := 47) k18 b19 dX12_clauseOf_46 rfl ?_
  obtain ⟨b20, ht⟩ := ht
  refine x_iast (pc2 := 48) (k11.up p15) b20 dX12_clauseOf_47 rfl ?_
  refine nm_I (fun h21 e22 p23 => ?_)
  replace ht := ht h21 e22
  refine x_iload_n (pc2 := 49) 1 (n := 1) (x := x1) rfl dX12_clauseOf_48 rfl ?_
  refine y_if_ne (pc2 := 52) 61 dX12_clauseOf_49 (by decide) rfl (fun c24 => ?_) (fun c24 => ?_)
  · replace ht := ht.1 c24
    exact ht
  · replace ht := ht.2 c24
    refine x_aload_n (pc2 := 53) 0 (n := 0) (x := a0) rfl dX12_clauseOf_52 rfl ?_
    refine x_callV (pc2 := 56) (As := []) (rest := []) (b := a0) mv_X12_sum ml_X12_177 (((k4.up p3).up p15).up p23) rfl rfl (Nat.le_of_ble_eq_true rfl) hd1 dX12_clauseOf_53 rfl (ht.mono (fun r25 h26 p27 ht' => ?_))
    clear ht
    obtain ⟨v28, rfl, ht⟩ := ht'
    show Ex G d mX12_clauseOf 56 [(0, .ref a0), (1, .int x1), (2, .int ((60 * (hI h2 a0 16)) + (5 * (hI h2 q5 (hI h2 a0 16).toNatClampNeg))))] [.int v28] h26 Q
    refine y_if_ne (pc2 := 59) 61 dX12_clauseOf_56 (by decide) rfl (fun c29 => ?_) (fun c29 => ?_)
    · replace ht := ht.1 c29
      exact ht
    · replace ht := ht.2 c29
      refine x_iconst (pc2 := 60) (v := 0) (by decide) dX12_clauseOf_59 rfl ?_
      exact x_retZ rfl (Or.inl rfl) dX12_clauseOf_60 ht
theorem e_X12_clauseOf {G : GG} {d : Nat} {h : HP} {Q : Option Value → HP → Prop} {a0 : Nat} {x1 : Int32} (hd1 : 1 ≤ d) (ht : T_X12_clauseOf G d h Q a0 x1) : Cal G d mX12_clauseOf [.ref a0, .int x1] h Q := cal_of rfl (Nat.le_of_ble_eq_true rfl) (t_X12_clauseOf hd1 ht)
def T_X12_clauseOf_61 (G : GG) (d : Nat) (h : HP) (Q : Option Value → HP → Prop) (a0 : Nat) (x1 : Int32) (x2 : Int32) : Prop :=
  Kd G h a0 12 ∧ ∃ q2, hR h a0 5 = some q2 ∧ ∃ q4, hR h a0 4 = some q4 ∧ Kd G h q4 14 ∧ vp_in (hI h a0 16) (hN h q4) ∧ Kd G h q2 14 ∧ vp_in (x2 + 2) (hN h q2) ∧ vp_in (x2 + 3) (hN (sI h q2 (x2 + 2).toNatClampNeg (hI h q4 (hI h a0 16).toNatClampNeg)) q2) ∧ ∀ h11, h11 = (sI (sI h q2 (x2 + 2).toNatClampNeg (hI h q4 (hI h a0 16).toNatClampNeg)) q2 (x2 + 3).toNatClampNeg (-1)) → ((0 < x1 → Ex G d mX12_clauseOf 101 [(0, .ref a0), (1, .int x1), (2, .int x2)] [] h11 Q) ∧ (¬ 0 < x1 → Cal G (d - 1) mX12_takesWord [.ref a0, .long 26982] h11 (fun r15 h16 => ∃ v18, r15 = some (.int v18) ∧ ((v18 = 0 → Ex G d mX12_clauseOf 127 [(0, .ref a0), (1, .int x1), (2, .int x2)] [] h16 Q) ∧ (¬ v18 = 0 → Ex G d mX12_clauseOf 101 [(0, .ref a0), (1, .int x1), (2, .int x2)] [] h16 Q)))))
set_option maxRecDepth 20000 in
theorem t_X12_clauseOf_61 {G : GG} {d : Nat} {h : HP} {Q : Option Value → HP → Prop} {a0 : Nat} {x1 : Int32} {x2 : Int32} (hd1 : 1 ≤ d) (ht : T_X12_clauseOf_61 G d h Q a0 x1 x2) : Ex G d mX12_clauseOf 61 [(0, .ref a0), (1, .int x1), (2, .int x2)] [] h Q := by
  unfold T_X12_clauseOf_61 at ht
  refine x_aload_n (pc2 := 62) 0 (n := 0) (x := a0) rfl dX12_clauseOf_61 rfl ?_
  obtain ⟨k1, ht⟩ := ht
  obtain ⟨q2, e3, ht⟩ := ht
  refine y_getR (pc2 := 65) (κ := 12) (k := 5) fl_X12_23 (by decide) (by decide) k1 rfl e3 dX12_clauseOf_62 rfl ?_
  refine x_iload_n (pc2 := 66) 2 (n := 2) (x := x2) rfl dX12_clauseOf_65 rfl ?_
  refine x_iconst (pc2 := 67) (v := 2) (by decide) dX12_clauseOf_66 rfl ?_
  refine x_iadd (pc2 := 68) dX12_clauseOf_67 rfl ?_
  refine x_aload_n (pc2 := 69) 0 (n := 0) (x := a0) rfl dX12_clauseOf_68 rfl ?_
  obtain ⟨q4, e5, ht⟩ := ht
  refine y_getR (pc2 := 72) (κ := 12) (k := 4) fl_X12_20 (by decide) (by decide) k1 rfl e5 dX12_clauseOf_69 rfl ?_
  refine x_aload_n (pc2 := 73) 0 (n := 0) (x := a0) rfl dX12_clauseOf_72 rfl ?_
  refine y_getI (pc2 := 76) (κ := 12) (k := 16) fl_X12_140 (by decide) (by decide) k1 rfl dX12_clauseOf_73 rfl ?_
  obtain ⟨k6, ht⟩ := ht
  obtain ⟨b7, ht⟩ := ht
  refine x_iald (pc2 := 77) k6 b7 dX12_clauseOf_76 rfl ?_
  obtain ⟨k8, ht⟩ := ht
  obtain ⟨b9, ht⟩ := ht
  refine x_iast (pc2 := 78) k8 b9 dX12_clauseOf_77 rfl ?_
  refine x_aload_n (pc2 := 79) 0 (n := 0) (x := a0) rfl dX12_clauseOf_78 rfl ?_
  refine y_getR (pc2 := 82) (κ := 12) (k := 5) fl_X12_23 (by decide) (by decide) k1.sI rfl ((hR_sI _ _ _ _ _ _).trans e3) dX12_clauseOf_79 rfl ?_
  refine x_iload_n (pc2 := 83) 2 (n := 2) (x := x2) rfl dX12_clauseOf_82 rfl ?_
  refine x_iconst (pc2 := 84) (v := 3) (by decide) dX12_clauseOf_83 rfl ?_
  refine x_iadd (pc2 := 85) dX12_clauseOf_84 rfl ?_
  refine x_iconst (pc2 := 86) (v := (-1)) (by decide) dX12_clauseOf_85 rfl ?_
  obtain ⟨b10, ht⟩ := ht
  refine x_iast (pc2 := 87) k8.sI b10 dX12_clauseOf_86 rfl ?_
  refine nm_I (fun h11 e12 p13 => ?_)
  replace ht := ht h11 e12
  refine x_iload_n (pc2 := 88) 1 (n := 1) (x := x1) rfl dX12_clauseOf_87 rfl ?_
  refine x_if_gt (pc2 := 91) 101 dX12_clauseOf_88 (by decide) rfl (fun c14 => ?_) (fun c14 => ?_)
  · replace ht := ht.1 c14
    exact ht
  · replace ht := ht.2 c14
    refine x_aload_n (pc2 := 92) 0 (n := 0) (x := a0) rfl dX12_clauseOf_91 rfl ?_
    refine x_ldc2 (pc2 := 95) (v := 26982) ct_X12_204 dX12_clauseOf_92 rfl ?_
    refine x_callV (pc2 := 98) (As := [.long 26982]) (rest := []) (b := a0) mv_X12_takesWord ml_X12_206 (k1.sI.up p13) rfl rfl (Nat.le_of_ble_eq_true rfl) hd1 dX12_clauseOf_95 rfl (ht.mono (fun r15 h16 p17 ht' => ?_))
    clear ht
    obtain ⟨v18, rfl, ht⟩ := ht'
    show Ex G d mX12_clauseOf 98 [(0, .ref a0), (1, .int x1), (2, .int x2)] [.int v18] h16 Q
    refine x_if_eq (pc2 := 101) 127 dX12_clauseOf_98 (by decide) rfl (fun c19 => ?_) (fun c19 => ?_)
    · replace ht := ht.1 c19
      exact ht
    · replace ht := ht.2 c19
      exact ht
def T_X12_clauseOf_101 (G : GG) (d : Nat) (h : HP) (Q : Option Value → HP → Prop) (a0 : Nat) (x1 : Int32) (x2 : Int32) : Prop :=
  Kd G h a0 12 ∧ ∃ q2, hR h a0 5 = some q2 ∧ ∃ q4, hR h a0 4 = some q4 ∧ Kd G h q4 14 ∧ vp_in (hI h a0 16) (hN h q4) ∧ Kd G h q2 14 ∧ vp_in (x2 + 3) (hN h q2) ∧ Cal G (d - 1) mX12_tested [.ref a0] (sI h q2 (x2 + 3).toNatClampNeg (hI h q4 (hI h a0 16).toNatClampNeg)) (fun r10 h11 => ∃ v13, r10 = some (.int v13) ∧ ((¬ v13 = 0 → Ex G d mX12_clauseOf 127 [(0, .ref a0), (1, .int x1), (2, .int x2)] [] h11 Q) ∧ (v13 = 0 → Q (some (.int 0)) h11)))
set_option maxRecDepth 20000 in
theorem t_X12_clauseOf_101 {G : GG} {d : Nat} {h : HP} {Q : Option Value → HP → Prop} {a0 : Nat} {x1 : Int32} {x2 : Int32} (hd1 : 1 ≤ d) (ht : T_X12_clauseOf_101 G d h Q a0 x1 x2) : Ex G d mX12_clauseOf 101 [(0, .ref a0), (1, .int x1), (2, .int x2)] [] h Q := by
  unfold T_X12_clauseOf_101 at ht
  refine x_aload_n (pc2 := 102) 0 (n := 0) (x := a0) rfl dX12_clauseOf_101 rfl ?_
  obtain ⟨k1, ht⟩ := ht
  obtain ⟨q2, e3, ht⟩ := ht
  refine y_getR (pc2 := 105) (κ := 12) (k := 5) fl_X12_23 (by decide) (by decide) k1 rfl e3 dX12_clauseOf_102 rfl ?_
  refine x_iload_n (pc2 := 106) 2 (n := 2) (x := x2) rfl dX12_clauseOf_105 rfl ?_
  refine x_iconst (pc2 := 107) (v := 3) (by decide) dX12_clauseOf_106 rfl ?_
  refine x_iadd (pc2 := 108) dX12_clauseOf_107 rfl ?_
  refine x_aload_n (pc2 := 109) 0 (n := 0) (x := a0) rfl dX12_clauseOf_108 rfl ?_
  obtain ⟨q4, e5, ht⟩ := ht
  refine y_getR (pc2 := 112) (κ := 12) (k := 4) fl_X12_20 (by decide) (by decide) k1 rfl e5 dX12_clauseOf_109 rfl ?_
  refine x_aload_n (pc2 := 113) 0 (n := 0) (x := a0) rfl dX12_clauseOf_112 rfl ?_
  refine y_getI (pc2 := 116) (κ := 12) (k := 16) fl_X12_140 (by decide) (by decide) k1 rfl dX12_clauseOf_113 rfl ?_
  obtain ⟨k6, ht⟩ := ht
  obtain ⟨b7, ht⟩ := ht
  refine x_iald (pc2 := 117) k6 b7 dX12_clauseOf_116 rfl ?_
  obtain ⟨k8, ht⟩ := ht
  obtain ⟨b9, ht⟩ := ht
  refine x_iast (pc2 := 118) k8 b9 dX12_clauseOf_117 rfl ?_
  refine x_aload_n (pc2 := 119) 0 (n := 0) (x := a0) rfl dX12_clauseOf_118 rfl ?_
  refine x_callV (pc2 := 122) (As := []) (rest := []) (b := a0) mv_X12_tested ml_X12_209 k1.sI rfl rfl (Nat.le_of_ble_eq_true rfl) hd1 dX12_clauseOf_119 rfl (ht.mono (fun r10 h11 p12 ht' => ?_))
  clear ht
  obtain ⟨v13, rfl, ht⟩ := ht'
  show Ex G d mX12_clauseOf 122 [(0, .ref a0), (1, .int x1), (2, .int x2)] [.int v13] h11 Q
  refine y_if_ne (pc2 := 125) 127 dX12_clauseOf_122 (by decide) rfl (fun c14 => ?_) (fun c14 => ?_)
  · replace ht := ht.1 c14
    exact ht
  · replace ht := ht.2 c14
    refine x_iconst (pc2 := 126) (v := 0) (by decide) dX12_clauseOf_125 rfl ?_
    exact x_retZ rfl (Or.inl rfl) dX12_clauseOf_126 ht
def T_X12_clauseOf_127 (G : GG) (d : Nat) (h : HP) (Q : Option Value → HP → Prop) (a0 : Nat) (x1 : Int32) (x2 : Int32) : Prop :=
  Kd G h a0 12 ∧ ∃ q2, hR h a0 5 = some q2 ∧ ∃ q4, hR h a0 4 = some q4 ∧ Kd G h q4 14 ∧ vp_in (hI h a0 16) (hN h q4) ∧ Kd G h q2 14 ∧ vp_in (x2 + 4) (hN h q2) ∧ ∃ q10, hR (sI h q2 (x2 + 4).toNatClampNeg (hI h q4 (hI h a0 16).toNatClampNeg)) a0 6 = some q10 ∧ Kd G (sI h q2 (x2 + 4).toNatClampNeg (hI h q4 (hI h a0 16).toNatClampNeg)) q10 14 ∧ vp_in (hI (sI h q2 (x2 + 4).toNatClampNeg (hI h q4 (hI h a0 16).toNatClampNeg)) a0 16) (hN (sI h q2 (x2 + 4).toNatClampNeg (hI h q4 (hI h a0 16).toNatClampNeg)) q10) ∧ vp_in (hI (sI h q2 (x2 + 4).toNatClampNeg (hI h q4 (hI h a0 16).toNatClampNeg)) a0 16) (hN (sI h q2 (x2 + 4).toNatClampNeg (hI h q4 (hI h a0 16).toNatClampNeg)) q10) ∧ ∀ h15, h15 = (sI (sI h q2 (x2 + 4).toNatClampNeg (hI h q4 (hI h a0 16).toNatClampNeg)) q10 (hI (sI h q2 (x2 + 4).toNatClampNeg (hI h q4 (hI h a0 16).toNatClampNeg)) a0 16).toNatClampNeg ((hI (sI h q2 (x2 + 4).toNatClampNeg (hI h q4 (hI h a0 16).toNatClampNeg)) q10 (hI (sI h q2 (x2 + 4).toNatClampNeg (hI h q4 (hI h a0 16).toNatClampNeg)) a0 16).toNatClampNeg) + 1)) → Q (some (.int 1)) h15
set_option maxRecDepth 20000 in
theorem t_X12_clauseOf_127 {G : GG} {d : Nat} {h : HP} {Q : Option Value → HP → Prop} {a0 : Nat} {x1 : Int32} {x2 : Int32} (ht : T_X12_clauseOf_127 G d h Q a0 x1 x2) : Ex G d mX12_clauseOf 127 [(0, .ref a0), (1, .int x1), (2, .int x2)] [] h Q := by
  unfold T_X12_clauseOf_127 at ht
  refine x_aload_n (pc2 := 128) 0 (n := 0) (x := a0) rfl dX12_clauseOf_127 rfl ?_
  obtain ⟨k1, ht⟩ := ht
  obtain ⟨q2, e3, ht⟩ := ht
  refine y_getR (pc2 := 131) (κ := 12) (k := 5) fl_X12_23 (by decide) (by decide) k1 rfl e3 dX12_clauseOf_128 rfl ?_
  refine x_iload_n (pc2 := 132) 2 (n := 2) (x := x2) rfl dX12_clauseOf_131 rfl ?_
  refine x_iconst (pc2 := 133) (v := 4) (by decide) dX12_clauseOf_132 rfl ?_
  refine x_iadd (pc2 := 134) dX12_clauseOf_133 rfl ?_
  refine x_aload_n (pc2 := 135) 0 (n := 0) (x := a0) rfl dX12_clauseOf_134 rfl ?_
  obtain ⟨q4, e5, ht⟩ := ht
  refine y_getR (pc2 := 138) (κ := 12) (k := 4) fl_X12_20 (by decide) (by decide) k1 rfl e5 dX12_clauseOf_135 rfl ?_
  refine x_aload_n (pc2 := 139) 0 (n := 0) (x := a0) rfl dX12_clauseOf_138 rfl ?_
  refine y_getI (pc2 := 142) (κ := 12) (k := 16) fl_X12_140 (by decide) (by decide) k1 rfl dX12_clauseOf_139 rfl ?_
  obtain ⟨k6, ht⟩ := ht
  obtain ⟨b7, ht⟩ := ht
  refine x_iald (pc2 := 143) k6 b7 dX12_clauseOf_142 rfl ?_
  obtain ⟨k8, ht⟩ := ht
  obtain ⟨b9, ht⟩ := ht
  refine x_iast (pc2 := 144) k8 b9 dX12_clauseOf_143 rfl ?_
  refine x_aload_n (pc2 := 145) 0 (n := 0) (x := a0) rfl dX12_clauseOf_144 rfl ?_
  obtain ⟨q10, e11, ht⟩ := ht
  refine y_getR (pc2 := 148) (κ := 12) (k := 6) fl_X12_26 (by decide) (by decide) k1.sI rfl e11 dX12_clauseOf_145 rfl ?_
  refine x_aload_n (pc2 := 149) 0 (n := 0) (x := a0) rfl dX12_clauseOf_148 rfl ?_
  refine y_getI (pc2 := 152) (κ := 12) (k := 16) fl_X12_140 (by decide) (by decide) k1.sI rfl dX12_clauseOf_149 rfl ?_
  refine x_dup2 (pc2 := 153) rfl rfl dX12_clauseOf_152 rfl ?_
  obtain ⟨k12, ht⟩ := ht
  obtain ⟨b13, ht⟩ := ht
  refine x_iald (pc2 := 154) k12 b13 dX12_clauseOf_153 rfl ?_
  refine x_iconst (pc2 := 155) (v := 1) (by decide) dX12_clauseOf_154 rfl ?_
  refine x_iadd (pc2 := 156) dX12_clauseOf_155 rfl ?_
  obtain ⟨b14, ht⟩ := ht
  refine x_iast (pc2 := 157) k12 b14 dX12_clauseOf_156 rfl ?_
  refine nm_I (fun h15 e16 p17 => ?_)
  replace ht := ht h15 e16
  refine x_iconst (pc2 := 158) (v := 1) (by decide) dX12_clauseOf_157 rfl ?_
  exact x_retZ rfl (Or.inr rfl) dX12_clauseOf_158 ht
def T_X12_joins (G : GG) (d : Nat) (h : HP) (Q : Option Value → HP → Prop) (a0 : Nat) (x1 : Int32) : Prop :=
  Kd G h a0 12 ∧ ∃ q2, hR h a0 7 = some q2 ∧ Kd G h q2 14 ∧ vp_in (hI h a0 16) (hN h q2) ∧ (((hI h q2 (hI h a0 16).toNatClampNeg) < 0 → Cal G (d - 1) mX12_passWord [.ref a0] h (fun r7 h8 => r7 = none ∧ Cal G (d - 1) mX12_numberHere [.ref a0, .int 0, .int 1] h8 (fun r10 h11 => ∃ v13, r10 = some (.int v13) ∧ ((¬ v13 = 0 → ∃ q15, hR h11 a0 7 = some q15 ∧ Kd G h11 q15 14 ∧ vp_in (hI h11 a0 16) (hN h11 q15) ∧ Q (some (.int 1)) (sI h11 q15 (hI h11 a0 16).toNatClampNeg (hI h11 a0 15))) ∧ (v13 = 0 → Q (some (.int 0)) h11))))) ∧ (¬ (hI h q2 (hI h a0 16).toNatClampNeg) < 0 → Cal G (d - 1) mX12_fails [.ref a0, .int 4, .int x1] h (fun r19 h20 => ∃ v22, r19 = some (.int v22) ∧ ((v22 = 0 ∨ v22 = 1) ∧ Q (some (.int v22)) h20))))
set_option maxRecDepth 20000 in
theorem t_X12_joins {G : GG} {d : Nat} {h : HP} {Q : Option Value → HP → Prop} {a0 : Nat} {x1 : Int32} (hd1 : 1 ≤ d) (ht : T_X12_joins G d h Q a0 x1) : Ex G d mX12_joins 0 [(0, .ref a0), (1, .int x1)] [] h Q := by
  unfold T_X12_joins at ht
  refine x_aload_n (pc2 := 1) 0 (n := 0) (x := a0) rfl dX12_joins_0 rfl ?_
  obtain ⟨k1, ht⟩ := ht
  obtain ⟨q2, e3, ht⟩ := ht
  refine y_getR (pc2 := 4) (κ := 12) (k := 7) fl_X12_29 (by decide) (by decide) k1 rfl e3 dX12_joins_1 rfl ?_
  refine x_aload_n (pc2 := 5) 0 (n := 0) (x := a0) rfl dX12_joins_4 rfl ?_
  refine y_getI (pc2 := 8) (κ := 12) (k := 16) fl_X12_140 (by decide) (by decide) k1 rfl dX12_joins_5 rfl ?_
  obtain ⟨k4, ht⟩ := ht
  obtain ⟨b5, ht⟩ := ht
  refine x_iald (pc2 := 9) k4 b5 dX12_joins_8 rfl ?_
  refine x_if_lt (pc2 := 12) 19 dX12_joins_9 (by decide) rfl (fun c6 => ?_) (fun c6 => ?_)
  · replace ht := ht.1 c6
    refine x_aload_n (pc2 := 20) 0 (n := 0) (x := a0) rfl dX12_joins_19 rfl ?_
    refine x_callV (pc2 := 23) (As := []) (rest := []) (b := a0) mv_X12_passWord ml_X12_99 k1 rfl rfl (Nat.le_of_ble_eq_true rfl) hd1 dX12_joins_20 rfl (ht.mono (fun r7 h8 p9 ht' => ?_))
    clear ht
    obtain ⟨rfl, ht⟩ := ht'
    show Ex G d mX12_joins 23 [(0, .ref a0), (1, .int x1)] [] h8 Q
    refine x_aload_n (pc2 := 24) 0 (n := 0) (x := a0) rfl dX12_joins_23 rfl ?_
    refine x_iconst (pc2 := 25) (v := 0) (by decide) dX12_joins_24 rfl ?_
    refine x_iconst (pc2 := 26) (v := 1) (by decide) dX12_joins_25 rfl ?_
    refine x_callV (pc2 := 29) (As := [.int 0, .int 1]) (rest := []) (b := a0) mv_X12_numberHere ml_X12_161 (k1.up p9) rfl rfl (Nat.le_of_ble_eq_true rfl) hd1 dX12_joins_26 rfl (ht.mono (fun r10 h11 p12 ht' => ?_))
    clear ht
    obtain ⟨v13, rfl, ht⟩ := ht'
    show Ex G d mX12_joins 29 [(0, .ref a0), (1, .int x1)] [.int v13] h11 Q
    refine y_if_ne (pc2 := 32) 34 dX12_joins_29 (by decide) rfl (fun c14 => ?_) (fun c14 => ?_)
    · replace ht := ht.1 c14
      refine x_aload_n (pc2 := 35) 0 (n := 0) (x := a0) rfl dX12_joins_34 rfl ?_
      obtain ⟨q15, e16, ht⟩ := ht
      refine y_getR (pc2 := 38) (κ := 12) (k := 7) fl_X12_29 (by decide) (by decide) ((k1.up p9).up p12) rfl e16 dX12_joins_35 rfl ?_
      refine x_aload_n (pc2 := 39) 0 (n := 0) (x := a0) rfl dX12_joins_38 rfl ?_
      refine y_getI (pc2 := 42) (κ := 12) (k := 16) fl_X12_140 (by decide) (by decide) ((k1.up p9).up p12) rfl dX12_joins_39 rfl ?_
      refine x_aload_n (pc2 := 43) 0 (n := 0) (x := a0) rfl dX12_joins_42 rfl ?_
      refine y_getI (pc2 := 46) (κ := 12) (k := 15) fl_X12_109 (by decide) (by decide) ((k1.up p9).up p12) rfl dX12_joins_43 rfl ?_
      obtain ⟨k17, ht⟩ := ht
      obtain ⟨b18, ht⟩ := ht
      refine x_iast (pc2 := 47) k17 b18 dX12_joins_46 rfl ?_
      refine x_iconst (pc2 := 48) (v := 1) (by decide) dX12_joins_47 rfl ?_
      exact x_retZ rfl (Or.inr rfl) dX12_joins_48 ht
    · replace ht := ht.2 c14
      refine x_iconst (pc2 := 33) (v := 0) (by decide) dX12_joins_32 rfl ?_
      exact x_retZ rfl (Or.inl rfl) dX12_joins_33 ht
  · replace ht := ht.2 c6
    refine x_aload_n (pc2 := 13) 0 (n := 0) (x := a0) rfl dX12_joins_12 rfl ?_
    refine x_iconst (pc2 := 14) (v := 4) (by decide) dX12_joins_13 rfl ?_
    refine x_iload_n (pc2 := 15) 1 (n := 1) (x := x1) rfl dX12_joins_14 rfl ?_
    refine x_callV (pc2 := 18) (As := [.int 4, .int x1]) (rest := []) (b := a0) mv_X12_fails ml_X12_105 k1 rfl rfl (Nat.le_of_ble_eq_true rfl) hd1 dX12_joins_15 rfl (ht.mono (fun r19 h20 p21 ht' => ?_))
    clear ht
    obtain ⟨v22, rfl, ht⟩ := ht'
    show Ex G d mX12_joins 18 [(0, .ref a0), (1, .int x1)] [.int v22] h20 Q
    exact x_retZ rfl ht.1 dX12_joins_18 ht.2
theorem e_X12_joins {G : GG} {d : Nat} {h : HP} {Q : Option Value → HP → Prop} {a0 : Nat} {x1 : Int32} (hd1 : 1 ≤ d) (ht : T_X12_joins G d h Q a0 x1) : Cal G d mX12_joins [.ref a0, .int x1] h Q := cal_of rfl (Nat.le_of_ble_eq_true rfl) (t_X12_joins hd1 ht)
def T_X12_widens (G : GG) (d : Nat) (h : HP) (Q : Option Value → HP → Prop) (a0 : Nat) (x1 : Int32) : Prop :=
  Kd G h a0 12 ∧ (((hI h a0 8) < 0 → Cal G (d - 1) mX12_passWord [.ref a0] h (fun r3 h4 => r3 = none ∧ Cal G (d - 1) mX12_numberHere [.ref a0, .int 5, .int 40] h4 (fun r6 h7 => ∃ v9, r6 = some (.int v9) ∧ ((¬ v9 = 0 → Cal G (d - 1) mX12_numberHere [.ref a0, .int 5, .int 40] (sI h7 a0 8 (hI h7 a0 15)) (fun r11 h12 => ∃ v14, r11 = some (.int v14) ∧ ((¬ v14 = 0 → Q (some (.int 1)) (sI h12 a0 9 (hI h12 a0 15))) ∧ (v14 = 0 → Q (some (.int 0)) h12)))) ∧ (v9 = 0 → Q (some (.int 0)) h7))))) ∧ (¬ (hI h a0 8) < 0 → Cal G (d - 1) mX12_fails [.ref a0, .int 4, .int x1] h (fun r16 h17 => ∃ v19, r16 = some (.int v19) ∧ ((v19 = 0 ∨ v19 = 1) ∧ Q (some (.int v19)) h17))))
set_option maxRecDepth 20000 in
theorem t_X12_widens {G : GG} {d : Nat} {h : HP} {Q : Option Value → HP → Prop} {a0 : Nat} {x1 : Int32} (hd1 : 1 ≤ d) (ht : T_X12_widens G d h Q a0 x1) : Ex G d mX12_widens 0 [(0, .ref a0), (1, .int x1)] [] h Q := by
  unfold T_X12_widens at ht
  refine x_aload_n (pc2 := 1) 0 (n := 0) (x := a0) rfl dX12_widens_0 rfl ?_
  obtain ⟨k1, ht⟩ := ht
  refine y_getI (pc2 := 4) (κ := 12) (k := 8) fl_X12_212 (by decide) (by decide) k1 rfl dX12_widens_1 rfl ?_
  refine x_if_lt (pc2 := 7) 14 dX12_widens_4 (by decide) rfl (fun c2 => ?_) (fun c2 => ?_)
  · replace ht := ht.1 c2
    refine x_aload_n (pc2 := 15) 0 (n := 0) (x := a0) rfl dX12_widens_14 rfl ?_
    refine x_callV (pc2 := 18) (As := []) (rest := []) (b := a0) mv_X12_passWord ml_X12_99 k1 rfl rfl (Nat.le_of_ble_eq_true rfl) hd1 dX12_widens_15 rfl (ht.mono (fun r3 h4 p5 ht' => ?_))
    clear ht
    obtain ⟨rfl, ht⟩ := ht'
    show Ex G d mX12_widens 18 [(0, .ref a0), (1, .int x1)] [] h4 Q
    refine x_aload_n (pc2 := 19) 0 (n := 0) (x := a0) rfl dX12_widens_18 rfl ?_
    refine x_iconst (pc2 := 20) (v := 5) (by decide) dX12_widens_19 rfl ?_
    refine x_bipush (pc2 := 22) (v := 40) (by decide) dX12_widens_20 rfl ?_
    refine x_callV (pc2 := 25) (As := [.int 5, .int 40]) (rest := []) (b := a0) mv_X12_numberHere ml_X12_161 (k1.up p5) rfl rfl (Nat.le_of_ble_eq_true rfl) hd1 dX12_widens_22 rfl (ht.mono (fun r6 h7 p8 ht' => ?_))
    clear ht
    obtain ⟨v9, rfl, ht⟩ := ht'
    show Ex G d mX12_widens 25 [(0, .ref a0), (1, .int x1)] [.int v9] h7 Q
    refine y_if_ne (pc2 := 28) 30 dX12_widens_25 (by decide) rfl (fun c10 => ?_) (fun c10 => ?_)
    · replace ht := ht.1 c10
      refine x_aload_n (pc2 := 31) 0 (n := 0) (x := a0) rfl dX12_widens_30 rfl ?_
      refine x_aload_n (pc2 := 32) 0 (n := 0) (x := a0) rfl dX12_widens_31 rfl ?_
      refine y_getI (pc2 := 35) (κ := 12) (k := 15) fl_X12_109 (by decide) (by decide) ((k1.up p5).up p8) rfl dX12_widens_32 rfl ?_
      refine x_putI (pc2 := 38) (κ := 12) (k := 8) fl_X12_212 (by decide) (by decide) (Or.inl rfl) rfl ((k1.up p5).up p8) dX12_widens_35 rfl ?_
      refine x_aload_n (pc2 := 39) 0 (n := 0) (x := a0) rfl dX12_widens_38 rfl ?_
      refine x_iconst (pc2 := 40) (v := 5) (by decide) dX12_widens_39 rfl ?_
      refine x_bipush (pc2 := 42) (v := 40) (by decide) dX12_widens_40 rfl ?_
      refine x_callV (pc2 := 45) (As := [.int 5, .int 40]) (rest := []) (b := a0) mv_X12_numberHere ml_X12_161 ((k1.up p5).up p8).sI rfl rfl (Nat.le_of_ble_eq_true rfl) hd1 dX12_widens_42 rfl (ht.mono (fun r11 h12 p13 ht' => ?_))
      clear ht
      obtain ⟨v14, rfl, ht⟩ := ht'
      show Ex G d mX12_widens 45 [(0, .ref a0), (1, .int x1)] [.int v14] h12 Q
      refine y_if_ne (pc2 := 48) 50 dX12_widens_45 (by decide) rfl (fun c15 => ?_) (fun c15 => ?_)
      · replace ht := ht.1 c15
        refine x_aload_n (pc2 := 51) 0 (n := 0) (x := a0) rfl dX12_widens_50 rfl ?_
        refine x_aload_n (pc2 := 52) 0 (n := 0) (x := a0) rfl dX12_widens_51 rfl ?_
        refine y_getI (pc2 := 55) (κ := 12) (k := 15) fl_X12_109 (by decide) (by decide) (((k1.up p5).up p8).sI.up p13) rfl dX12_widens_52 rfl ?_
        refine x_putI (pc2 := 58) (κ := 12) (k := 9) fl_X12_215 (by decide) (by decide) (Or.inl rfl) rfl (((k1.up p5).up p8).sI.up p13) dX12_widens_55 rfl ?_
        refine x_iconst (pc2 := 59) (v := 1) (by decide) dX12_widens_58 rfl ?_
        exact x_retZ rfl (Or.inr rfl) dX12_widens_59 ht
      · replace ht := ht.2 c15
        refine x_iconst (pc2 := 49) (v := 0) (by decide) dX12_widens_48 rfl ?_
        exact x_retZ rfl (Or.inl rfl) dX12_widens_49 ht
    · replace ht := ht.2 c10
      refine x_iconst (pc2 := 29) (v := 0) (by decide) dX12_widens_28 rfl ?_
      exact x_retZ rfl (Or.inl rfl) dX12_widens_29 ht
  · replace ht := ht.2 c2
    refine x_aload_n (pc2 := 8) 0 (n := 0) (x := a0) rfl dX12_widens_7 rfl ?_
    refine x_iconst (pc2 := 9) (v := 4) (by decide) dX12_widens_8 rfl ?_
    refine x_iload_n (pc2 := 10) 1 (n := 1) (x := x1) rfl dX12_widens_9 rfl ?_
    refine x_callV (pc2 := 13) (As := [.int 4, .int x1]) (rest := []) (b := a0) mv_X12_fails ml_X12_105 k1 rfl rfl (Nat.le_of_ble_eq_true rfl) hd1 dX12_widens_10 rfl (ht.mono (fun r16 h17 p18 ht' => ?_))
    clear ht
    obtain ⟨v19, rfl, ht⟩ := ht'
    show Ex G d mX12_widens 13 [(0, .ref a0), (1, .int x1)] [.int v19] h17 Q
    exact x_retZ rfl ht.1 dX12_widens_13 ht.2
theorem e_X12_widens {G : GG} {d : Nat} {h : HP} {Q : Option Value → HP → Prop} {a0 : Nat} {x1 : Int32} (hd1 : 1 ≤ d) (ht : T_X12_widens G d h Q a0 x1) : Cal G d mX12_widens [.ref a0, .int x1] h Q := cal_of rfl (Nat.le_of_ble_eq_true rfl) (t_X12_widens hd1 ht)
def T_X12_area (G : GG) (d : Nat) (h : HP) (Q : Option Value → HP → Prop) (a0 : Nat) : Prop :=
  Kd G h a0 12 ∧ Cal G (d - 1) mX12_numberHere [.ref a0, .int 0, .int 40] h (fun r1 h2 => ∃ v5, r1 = some (.int v5) ∧ ((¬ v5 = 0 → Cal G (d - 1) mX12_numberHere [.ref a0, .int 0, .int 40] (sI h2 a0 22 (hI h2 a0 15)) (fun r7 h8 => ∃ v10, r7 = some (.int v10) ∧ ((¬ v10 = 0 → Cal G (d - 1) mX12_numberHere [.ref a0, .int ((hI (sI h8 a0 23 (hI h8 a0 15)) a0 22) + 1), .int 40] (sI h8 a0 23 (hI h8 a0 15)) (fun r12 h13 => ∃ v15, r12 = some (.int v15) ∧ ((¬ v15 = 0 → Cal G (d - 1) mX12_numberHere [.ref a0, .int ((hI (sI h13 a0 24 (hI h13 a0 15)) a0 23) + 1), .int 40] (sI h13 a0 24 (hI h13 a0 15)) (fun r17 h18 => ∃ v20, r17 = some (.int v20) ∧ ((¬ v20 = 0 → Q (some (.int 1)) (sI h18 a0 25 (hI h18 a0 15))) ∧ (v20 = 0 → Q (some (.int 0)) h18)))) ∧ (v15 = 0 → Q (some (.int 0)) h13)))) ∧ (v10 = 0 → Q (some (.int 0)) h8)))) ∧ (v5 = 0 → Q (some (.int 0)) h2)))
set_option maxRecDepth 20000 in
theorem t_X12_area {G : GG} {d : Nat} {h : HP} {Q : Option Value → HP → Prop} {a0 : Nat} (hd1 : 1 ≤ d) (ht : T_X12_area G d h Q a0) : Ex G d mX12_area 0 [(0, .ref a0)] [] h Q := by
  unfold T_X12_area at ht
  refine x_aload_n (pc2 := 1) 0 (n := 0) (x := a0) rfl dX12_area_0 rfl ?_
  refine x_iconst (pc2 := 2) (v := 0) (by decide) dX12_area_1 rfl ?_
  refine x_bipush (pc2 := 4) (v := 40) (by decide) dX12_area_2 rfl ?_
  obtain ⟨k4, ht⟩ := ht
  refine x_callV (pc2 := 7) (As := [.int 0, .int 40]) (rest := []) (b := a0) mv_X12_numberHere ml_X12_161 k4 rfl rfl (Nat.le_of_ble_eq_true rfl) hd1 dX12_area_4 rfl (ht.mono (fun r1 h2 p3 ht' => ?_))
  clear ht
  obtain ⟨v5, rfl, ht⟩ := ht'
  show Ex G d mX12_area 7 [(0, .ref a0)] [.int v5] h2 Q
  refine y_if_ne (pc2 := 10) 12 dX12_area_7 (by decide) rfl (fun c6 => ?_) (fun c6 => ?_)
  · replace ht := ht.1 c6
    refine x_aload_n (pc2 := 13) 0 (n := 0) (x := a0) rfl dX12_area_12 rfl ?_
    refine x_aload_n (pc2 := 14) 0 (n := 0) (x := a0) rfl dX12_area_13 rfl ?_
    refine y_getI (pc2 := 17) (κ := 12) (k := 15) fl_X12_109 (by decide) (by decide) (k4.up p3) rfl dX12_area_14 rfl ?_
    refine x_putI (pc2 := 20) (κ := 12) (k := 22) fl_X12_218 (by decide) (by decide) (Or.inl rfl) rfl (k4.up p3) dX12_area_17 rfl ?_
    refine x_aload_n (pc2 := 21) 0 (n := 0) (x := a0) rfl dX12_area_20 rfl ?_
    refine x_iconst (pc2 := 22) (v := 0) (by decide) dX12_area_21 rfl ?_
    refine x_bipush (pc2 := 24) (v := 40) (by decide) dX12_area_22 rfl ?_
    refine x_callV (pc2 := 27) (As := [.int 0, .int 40]) (rest := []) (b := a0) mv_X12_numberHere ml_X12_161 (k4.up p3).sI rfl rfl (Nat.le_of_ble_eq_true rfl) hd1 dX12_area_24 rfl (ht.mono (fun r7 h8 p9 ht' => ?_))
    clear ht
    obtain ⟨v10, rfl, ht⟩ := ht'
    show Ex G d mX12_area 27 [(0, .ref a0)] [.int v10] h8 Q
    refine y_if_ne (pc2 := 30) 32 dX12_area_27 (by decide) rfl (fun c11 => ?_) (fun c11 => ?_)
    · replace ht := ht.1 c11
      refine x_aload_n (pc2 := 33) 0 (n := 0) (x := a0) rfl dX12_area_32 rfl ?_
      refine x_aload_n (pc2 := 34) 0 (n := 0) (x := a0) rfl dX12_area_33 rfl ?_
      refine y_getI (pc2 := 37) (κ := 12) (k := 15) fl_X12_109 (by decide) (by decide) ((k4.up p3).sI.up p9) rfl dX12_area_34 rfl ?_
      refine x_putI (pc2 := 40) (κ := 12) (k := 23) fl_X12_221 (by decide) (by decide) (Or.inl rfl) rfl ((k4.up p3).sI.up p9) dX12_area_37 rfl ?_
      refine x_aload_n (pc2 := 41) 0 (n := 0) (x := a0) rfl dX12_area_40 rfl ?_
      refine x_aload_n (pc2 := 42) 0 (n := 0) (x := a0) rfl dX12_area_41 rfl ?_
      refine y_getI (pc2 := 45) (κ := 12) (k := 22) fl_X12_218 (by decide) (by decide) ((k4.up p3).sI.up p9).sI rfl dX12_area_42 rfl ?_
      refine x_iconst (pc2 := 46) (v := 1) (by decide) dX12_area_45 rfl ?_
      refine x_iadd (pc2 := 47) dX12_area_46 rfl ?_
      refine x_bipush (pc2 := 49) (v := 40) (by decide) dX12_area_47 rfl ?_
      refine x_callV (pc2 := 52) (As := [.int ((hI (sI h8 a0 23 (hI h8 a0 15)) a0 22) + 1), .int 40]) (rest := []) (b := a0) mv_X12_numberHere ml_X12_161 ((k4.up p3).sI.up p9).sI rfl rfl (Nat.le_of_ble_eq_true rfl) hd1 dX12_area_49 rfl (ht.mono (fun r12 h13 p14 ht' => ?_))
      clear ht
      obtain ⟨v15, rfl, ht⟩ := ht'
      show Ex G d mX12_area 52 [(0, .ref a0)] [.int v15] h13 Q
      refine y_if_ne (pc2 := 55) 57 dX12_area_52 (by decide) rfl (fun c16 => ?_) (fun c16 => ?_)
      · replace ht := ht.1 c16
        refine x_aload_n (pc2 := 58) 0 (n := 0) (x := a0) rfl dX12_area_57 rfl ?_
        refine x_aload_n (pc2 := 59) 0 (n := 0) (x := a0) rfl dX12_area_58 rfl ?_
        refine y_getI (pc2 := 62) (κ := 12) (k := 15) fl_X12_109 (by decide) (by decide) (((k4.up p3).sI.up p9).sI.up p14) rfl dX12_area_59 rfl ?_
        refine x_putI (pc2 := 65) (κ := 12) (k := 24) fl_X12_224 (by decide) (by decide) (Or.inl rfl) rfl (((k4.up p3).sI.up p9).sI.up p14) dX12_area_62 rfl ?_
        refine x_aload_n (pc2 := 66) 0 (n := 0) (x := a0) rfl dX12_area_65 rfl ?_
        refine x_aload_n (pc2 := 67) 0 (n := 0) (x := a0) rfl dX12_area_66 rfl ?_
        refine y_getI (pc2 := 70) (κ := 12) (k := 23) fl_X12_221 (by decide) (by decide) (((k4.up p3).sI.up p9).sI.up p14).sI rfl dX12_area_67 rfl ?_
        refine x_iconst (pc2 := 71) (v := 1) (by decide) dX12_area_70 rfl ?_
        refine x_iadd (pc2 := 72) dX12_area_71 rfl ?_
        refine x_bipush (pc2 := 74) (v := 40) (by decide) dX12_area_72 rfl ?_
        refine x_callV (pc2 := 77) (As := [.int ((hI (sI h13 a0 24 (hI h13 a0 15)) a0 23) + 1), .int 40]) (rest := []) (b := a0) mv_X12_numberHere ml_X12_161 (((k4.up p3).sI.up p9).sI.up p14).sI rfl rfl (Nat.le_of_ble_eq_true rfl) hd1 dX12_area_74 rfl (ht.mono (fun r17 h18 p19 ht' => ?_))
        clear ht
        obtain ⟨v20, rfl, ht⟩ := ht'
        show Ex G d mX12_area 77 [(0, .ref a0)] [.int v20] h18 Q
        refine y_if_ne (pc2 := 80) 82 dX12_area_77 (by decide) rfl (fun c21 => ?_) (fun c21 => ?_)
        · replace ht := ht.1 c21
          refine x_aload_n (pc2 := 83) 0 (n := 0) (x := a0) rfl dX12_area_82 rfl ?_
          refine x_aload_n (pc2 := 84) 0 (n := 0) (x := a0) rfl dX12_area_83 rfl ?_
          refine y_getI (pc2 := 87) (κ := 12) (k := 15) fl_X12_109 (by decide) (by decide) ((((k4.up p3).sI.up p9).sI.up p14).sI.up p19) rfl dX12_area_84 rfl ?_
          refine x_putI (pc2 := 90) (κ := 12) (k := 25) fl_X12_227 (by decide) (by decide) (Or.inl rfl) rfl ((((k4.up p3).sI.up p9).sI.up p14).sI.up p19) dX12_area_87 rfl ?_
          refine x_iconst (pc2 := 91) (v := 1) (by decide) dX12_area_90 rfl ?_
          exact x_retZ rfl (Or.inr rfl) dX12_area_91 ht
        · replace ht := ht.2 c21
          refine x_iconst (pc2 := 81) (v := 0) (by decide) dX12_area_80 rfl ?_
          exact x_retZ rfl (Or.inl rfl) dX12_area_81 ht
      · replace ht := ht.2 c16
        refine x_iconst (pc2 := 56) (v := 0) (by decide) dX12_area_55 rfl ?_
        exact x_retZ rfl (Or.inl rfl) dX12_area_56 ht
    · replace ht := ht.2 c11
      refine x_iconst (pc2 := 31) (v := 0) (by decide) dX12_area_30 rfl ?_
      exact x_retZ rfl (Or.inl rfl) dX12_area_31 ht
  · replace ht := ht.2 c6
    refine x_iconst (pc2 := 11) (v := 0) (by decide) dX12_area_10 rfl ?_
    exact x_retZ rfl (Or.inl rfl) dX12_area_11 ht
theorem e_X12_area {G : GG} {d : Nat} {h : HP} {Q : Option Value → HP → Prop} {a0 : Nat} (hd1 : 1 ≤ d) (ht : T_X12_area G d h Q a0) : Cal G d mX12_area [.ref a0] h Q := cal_of rfl (Nat.le_of_ble_eq_true rfl) (t_X12_area hd1 ht)
def T_X12_isWorth (G : GG) (d : Nat) (h : HP) (Q : Option Value → HP → Prop) (a0 : Nat) : Prop :=
  Kd G h a0 12 ∧ Cal G (d - 1) mX12_passWord [.ref a0] h (fun r1 h2 => r1 = none ∧ Cal G (d - 1) mX12_numberHere [.ref a0, .int 0, .int 99] h2 (fun r5 h6 => ∃ v8, r5 = some (.int v8) ∧ ((¬ v8 = 0 → Cal G (d - 1) mX12_area [.ref a0] h6 (fun r10 h11 => ∃ v13, r10 = some (.int v13) ∧ ((¬ v13 = 0 → Ex G d mX12_isWorth 35 [(0, .ref a0), (1, .int (hI h6 a0 15)), (2, .int (hI h11 a0 23))] [] h11 Q) ∧ (v13 = 0 → Q (some (.int 0)) h11)))) ∧ (v8 = 0 → Q (some (.int 0)) h6))))
set_option maxRecDepth 20000 in
theorem t_X12_isWorth {G : GG} {d : Nat} {h : HP} {Q : Option Value → HP → Prop} {a0 : Nat} (hd1 : 1 ≤ d) (ht : T_X12_isWorth G d h Q a0) : Ex G d mX12_isWorth 0 [(0, .ref a0)] [] h Q := by
  unfold T_X12_isWorth at ht
  refine x_aload_n (pc2 := 1) 0 (n := 0) (x := a0) rfl dX12_isWorth_0 rfl ?_
  obtain ⟨k4, ht⟩ := ht
  refine x_callV (pc2 := 4) (As := []) (rest := []) (b := a0) mv_X12_passWord ml_X12_99 k4 rfl rfl (Nat.le_of_ble_eq_true rfl) hd1 dX12_isWorth_1 rfl (ht.mono (fun r1 h2 p3 ht' => ?_))
  clear ht
  obtain ⟨rfl, ht⟩ := ht'
  show Ex G d mX12_isWorth 4 [(0, .ref a0)] [] h2 Q
  refine x_aload_n (pc2 := 5) 0 (n := 0) (x := a0) rfl dX12_isWorth_4 rfl ?_
  refine x_iconst (pc2 := 6) (v := 0) (by decide) dX12_isWorth_5 rfl ?_
  refine x_bipush (pc2 := 8) (v := 99) (by decide) dX12_isWorth_6 rfl ?_
  refine x_callV (pc2 := 11) (As := [.int 0, .int 99]) (rest := []) (b := a0) mv_X12_numberHere ml_X12_161 (k4.up p3) rfl rfl (Nat.le_of_ble_eq_true rfl) hd1 dX12_isWorth_8 rfl (ht.mono (fun r5 h6 p7 ht' => ?_))
  clear ht
  obtain ⟨v8, rfl, ht⟩ := ht'
  show Ex G d mX12_isWorth 11 [(0, .ref a0)] [.int v8] h6 Q
  refine y_if_ne (pc2 := 14) 16 dX12_isWorth_11 (by decide) rfl (fun c9 => ?_) (fun c9 => ?_)
  · replace ht := ht.1 c9
    refine x_aload_n (pc2 := 17) 0 (n := 0) (x := a0) rfl dX12_isWorth_16 rfl ?_
    refine y_getI (pc2 := 20) (κ := 12) (k := 15) fl_X12_109 (by decide) (by decide) ((k4.up p3).up p7) rfl dX12_isWorth_17 rfl ?_
    refine x_istore_n (pc2 := 21) [1, 0] (n := 1) (x := (hI h6 a0 15)) (lv2 := [(0, .ref a0), (1, .int (hI h6 a0 15))]) (by decide) rfl dX12_isWorth_20 rfl ?_
    refine x_aload_n (pc2 := 22) 0 (n := 0) (x := a0) rfl dX12_isWorth_21 rfl ?_
    refine x_callV (pc2 := 25) (As := []) (rest := []) (b := a0) mv_X12_area ml_X12_230 ((k4.up p3).up p7) rfl rfl (Nat.le_of_ble_eq_true rfl) hd1 dX12_isWorth_22 rfl (ht.mono (fun r10 h11 p12 ht' => ?_))
    clear ht
    obtain ⟨v13, rfl, ht⟩ := ht'
    show Ex G d mX12_isWorth 25 [(0, .ref a0), (1, .int (hI h6 a0 15))] [.int v13] h11 Q
    refine y_if_ne (pc2 := 28) 30 dX12_isWorth_25 (by decide) rfl (fun c14 => ?_) (fun c14 => ?_)
    · replace ht := ht.1 c14
      refine x_aload_n (pc2 := 31) 0 (n := 0) (x := a0) rfl dX12_isWorth_30 rfl ?_
      refine y_getI (pc2 := 34) (κ := 12) (k := 23) fl_X12_221 (by decide) (by decide) (((k4.up p3).up p7).up p12) rfl dX12_isWorth_31 rfl ?_
      refine x_istore_n (pc2 := 35) [1, 2, 0] (n := 2) (x := (hI h11 a0 23)) (lv2 := [(0, .ref a0), (1, .int (hI h6 a0 15)), (2, .int (hI h11 a0 23))]) (by decide) rfl dX12_isWorth_34 rfl ?_
      exact ht
    · replace ht := ht.2 c14
      refine x_iconst (pc2 := 29) (v := 0) (by decide) dX12_isWorth_28 rfl ?_
      exact x_retZ rfl (Or.inl rfl) dX12_isWorth_29 ht
  · replace ht := ht.2 c9
    refine x_iconst (pc2 := 15) (v := 0) (by decide) dX12_isWorth_14 rfl ?_
    exact x_retZ rfl (Or.inl rfl) dX12_isWorth_15 ht
theorem e_X12_isWorth {G : GG} {d : Nat} {h : HP} {Q : Option Value → HP → Prop} {a0 : Nat} (hd1 : 1 ≤ d) (ht : T_X12_isWorth G d h Q a0) : Cal G d mX12_isWorth [.ref a0] h Q := cal_of rfl (Nat.le_of_ble_eq_true rfl) (t_X12_isWorth hd1 ht)
def T_X12_isWorth_35 (G : GG) (d : Nat) (h : HP) (Q : Option Value → HP → Prop) (a0 : Nat) (x1 : Int32) (x2 : Int32) : Prop :=
  Kd G h a0 12 ∧ (((hI h a0 25) ≤ x2 → Q (some (.int 1)) h) ∧ (¬ (hI h a0 25) ≤ x2 → Ex G d mX12_isWorth 48 [(0, .ref a0), (1, .int x1), (2, .int x2), (3, .int (hI h a0 22))] [] h Q))
set_option maxRecDepth 20000 in
theorem t_X12_isWorth_35 {G : GG} {d : Nat} {h : HP} {Q : Option Value → HP → Prop} {a0 : Nat} {x1 : Int32} {x2 : Int32} (ht : T_X12_isWorth_35 G d h Q a0 x1 x2) : Ex G d mX12_isWorth 35 [(0, .ref a0), (1, .int x1), (2, .int x2)] [] h Q := by
  unfold T_X12_isWorth_35 at ht
  refine x_iload_n (pc2 := 36) 2 (n := 2) (x := x2) rfl dX12_isWorth_35 rfl ?_
  refine x_aload_n (pc2 := 37) 0 (n := 0) (x := a0) rfl dX12_isWorth_36 rfl ?_
  obtain ⟨k1, ht⟩ := ht
  refine y_getI (pc2 := 40) (κ := 12) (k := 25) fl_X12_227 (by decide) (by decide) k1 rfl dX12_isWorth_37 rfl ?_
  refine x_icmp_ge (pc2 := 43) 100 dX12_isWorth_40 (by decide) rfl (fun c2 => ?_) (fun c2 => ?_)
  · replace ht := ht.1 c2
    refine x_iconst (pc2 := 101) (v := 1) (by decide) dX12_isWorth_100 rfl ?_
    exact x_retZ rfl (Or.inr rfl) dX12_isWorth_101 ht
  · replace ht := ht.2 c2
    refine x_aload_n (pc2 := 44) 0 (n := 0) (x := a0) rfl dX12_isWorth_43 rfl ?_
    refine y_getI (pc2 := 47) (κ := 12) (k := 22) fl_X12_218 (by decide) (by decide) k1 rfl dX12_isWorth_44 rfl ?_
    refine x_istore_n (pc2 := 48) [1, 2, 3, 0] (n := 3) (x := (hI h a0 22)) (lv2 := [(0, .ref a0), (1, .int x1), (2, .int x2), (3, .int (hI h a0 22))]) (by decide) rfl dX12_isWorth_47 rfl ?_
    exact ht
def T_X12_isWorth_48 (G : GG) (d : Nat) (h : HP) (Q : Option Value → HP → Prop) (a0 : Nat) (x1 : Int32) (x2 : Int32) (x3 : Int32) : Prop :=
  Kd G h a0 12 ∧ (((hI h a0 24) ≤ x3 → Ex G d mX12_isWorth 35 [(0, .ref a0), (1, .int x1), (2, .int (x2 + 1))] [] h Q) ∧ (¬ (hI h a0 24) ≤ x3 → ∃ q3, hR h a0 11 = some q3 ∧ Kd G h q3 14 ∧ vp_in ((40 * x2) + x3) (hN h q3) ∧ vp_in ((40 * x2) + x3) (hN h q3) ∧ ∀ h8, h8 = (sI h q3 ((40 * x2) + x3).toNatClampNeg ((((hI h q3 ((40 * x2) + x3).toNatClampNeg) / 128) * 128) + x1)) → Ex G d mX12_isWorth 48 [(0, .ref a0), (1, .int x1), (2, .int x2), (3, .int (x3 + 1))] [] h8 Q))
set_option maxRecDepth 20000 in
theorem t_X12_isWorth_48 {G : GG} {d : Nat} {h : HP} {Q : Option Value → HP → Prop} {a0 : Nat} {x1 : Int32} {x2 : Int32} {x3 : Int32} (ht : T_X12_isWorth_48 G d h Q a0 x1 x2 x3) : Ex G d mX12_isWorth 48 [(0, .ref a0), (1, .int x1), (2, .int x2), (3, .int x3)] [] h Q := by
  unfold T_X12_isWorth_48 at ht
  refine x_iload_n (pc2 := 49) 3 (n := 3) (x := x3) rfl dX12_isWorth_48 rfl ?_
  refine x_aload_n (pc2 := 50) 0 (n := 0) (x := a0) rfl dX12_isWorth_49 rfl ?_
  obtain ⟨k1, ht⟩ := ht
  refine y_getI (pc2 := 53) (κ := 12) (k := 24) fl_X12_224 (by decide) (by decide) k1 rfl dX12_isWorth_50 rfl ?_
  refine x_icmp_ge (pc2 := 56) 94 dX12_isWorth_53 (by decide) rfl (fun c2 => ?_) (fun c2 => ?_)
  · replace ht := ht.1 c2
    refine x_iinc (pc2 := 97) 2 [1, 2, 0, 3] (i := 2) (x := x2) (v := (x2 + 1)) (lv2 := [(0, .ref a0), (1, .int x1), (2, .int (x2 + 1)), (3, .int x3)]) rfl (iinc_eq (by decide) _) (by decide) rfl dX12_isWorth_94 rfl ?_
    refine x_goto 35 dX12_isWorth_97 (by decide) ?_
    refine x_sub [0, 1, 2] (lv2 := [(0, .ref a0), (1, .int x1), (2, .int (x2 + 1))]) rfl ?_
    exact ht
  · replace ht := ht.2 c2
    refine x_aload_n (pc2 := 57) 0 (n := 0) (x := a0) rfl dX12_isWorth_56 rfl ?_
    obtain ⟨q3, e4, ht⟩ := ht
    refine y_getR (pc2 := 60) (κ := 12) (k := 11) fl_X12_32 (by decide) (by decide) k1 rfl e4 dX12_isWorth_57 rfl ?_
    refine x_bipush (pc2 := 62) (v := 40) (by decide) dX12_isWorth_60 rfl ?_
    refine x_iload_n (pc2 := 63) 2 (n := 2) (x := x2) rfl dX12_isWorth_62 rfl ?_
    refine x_imul (pc2 := 64) dX12_isWorth_63 rfl ?_
    refine x_iload_n (pc2 := 65) 3 (n := 3) (x := x3) rfl dX12_isWorth_64 rfl ?_
    refine x_iadd (pc2 := 66) dX12_isWorth_65 rfl ?_
    refine x_aload_n (pc2 := 67) 0 (n := 0) (x := a0) rfl dX12_isWorth_66 rfl ?_
    refine y_getR (pc2 := 70) (κ := 12) (k := 11) fl_X12_32 (by decide) (by decide) k1 rfl e4 dX12_isWorth_67 rfl ?_
    refine x_bipush (pc2 := 72) (v := 40) (by decide) dX12_isWorth_70 rfl ?_
    refine x_iload_n (pc2 := 73) 2 (n := 2) (x := x2) rfl dX12_isWorth_72 rfl ?_
    refine x_imul (pc2 := 74) dX12_isWorth_73 rfl ?_
    refine x_iload_n (pc2 := 75) 3 (n := 3) (x := x3) rfl dX12_isWorth_74 rfl ?_
    refine x_iadd (pc2 := 76) dX12_isWorth_75 rfl ?_
    obtain ⟨k5, ht⟩ := ht
    obtain ⟨b6, ht⟩ := ht
    refine x_iald (pc2 := 77) k5 b6 dX12_isWorth_76 rfl ?_
    refine x_sipush (pc2 := 80) (v := 128) (by decide) dX12_isWorth_77 rfl ?_
    refine x_idiv (pc2 := 81) (by decide) dX12_isWorth_80 rfl ?_
    refine x_sipush (pc2 := 84) (v := 128) (by decide) dX12_isWorth_81 rfl ?_
    refine x_imul (pc2 := 85) dX12_isWorth_84 rfl ?_
    refine x_iload_n (pc2 := 86) 1 (n := 1) (x := x1) rfl dX12_isWorth_85 rfl ?_
    refine x_iadd (pc2 := 87) dX12_isWorth_86 rfl ?_
    obtain ⟨b7, ht⟩ := ht
    refine x_iast (pc2 := 88) k5 b7 dX12_isWorth_87 rfl ?_
    refine nm_I (fun h8 e9 p10 => ?_)
    replace ht := ht h8 e9
    refine x_iinc (pc2 := 91) 3 [1, 2, 3, 0] (i := 3) (x := x3) (v := (x3 + 1)) (lv2 := [(0, .ref a0), (1, .int x1), (2, .int x2), (3, .int (x3 + 1))]) rfl (iinc_eq (by decide) _) (by decide) rfl dX12_isWorth_88 rfl ?_
    refine x_goto 48 dX12_isWorth_91 (by decide) ?_
    exact ht
def T_X12_isRiverHere (G : GG) (d : Nat) (h : HP) (Q : Option Value → HP → Prop) (a0 : Nat) : Prop :=
  Kd G h a0 12 ∧ Cal G (d - 1) mX12_passWord [.ref a0] h (fun r1 h2 => r1 = none ∧ Cal G (d - 1) mX12_area [.ref a0] h2 (fun r5 h6 => ∃ v8, r5 = some (.int v8) ∧ ((¬ v8 = 0 → Ex G d mX12_isRiverHere 18 [(0, .ref a0), (1, .int (hI h6 a0 23))] [] h6 Q) ∧ (v8 = 0 → Q (some (.int 0)) h6))))
set_option maxRecDepth 20000 in
theorem t_X12_isRiverHere {G : GG} {d : Nat} {h : HP} {Q : Option Value → HP → Prop} {a0 : Nat} (hd1 : 1 ≤ d) (ht : T_X12_isRiverHere G d h Q a0) : Ex G d mX12_isRiverHere 0 [(0, .ref a0)] [] h Q := by
  unfold T_X12_isRiverHere at ht
  refine x_aload_n (pc2 := 1) 0 (n := 0) (x := a0) rfl dX12_isRiverHere_0 rfl ?_
  obtain ⟨k4, ht⟩ := ht
  refine x_callV (pc2 := 4) (As := []) (rest := []) (b := a0) mv_X12_passWord ml_X12_99 k4 rfl rfl (Nat.le_of_ble_eq_true rfl) hd1 dX12_isRiverHere_1 rfl (ht.mono (fun r1 h2 p3 ht' => ?_))
  clear ht
  obtain ⟨rfl, ht⟩ := ht'
  show Ex G d mX12_isRiverHere 4 [(0, .ref a0)] [] h2 Q
  refine x_aload_n (pc2 := 5) 0 (n := 0) (x := a0) rfl dX12_isRiverHere_4 rfl ?_
  refine x_callV (pc2 := 8) (As := []) (rest := []) (b := a0) mv_X12_area ml_X12_230 (k4.up p3) rfl rfl (Nat.le_of_ble_eq_true rfl) hd1 dX12_isRiverHere_5 rfl (ht.mono (fun r5 h6 p7 ht' => ?_))
  clear ht
  obtain ⟨v8, rfl, ht⟩ := ht'
  show Ex G d mX12_isRiverHere 8 [(0, .ref a0)] [.int v8] h6 Q
  refine y_if_ne (pc2 := 11) 13 dX12_isRiverHere_8 (by decide) rfl (fun c9 => ?_) (fun c9 => ?_)
  · replace ht := ht.1 c9
    refine x_aload_n (pc2 := 14) 0 (n := 0) (x := a0) rfl dX12_isRiverHere_13 rfl ?_
    refine y_getI (pc2 := 17) (κ := 12) (k := 23) fl_X12_221 (by decide) (by decide) ((k4.up p3).up p7) rfl dX12_isRiverHere_14 rfl ?_
    refine x_istore_n (pc2 := 18) [1, 0] (n := 1) (x := (hI h6 a0 23)) (lv2 := [(0, .ref a0), (1, .int (hI h6 a0 23))]) (by decide) rfl dX12_isRiverHere_17 rfl ?_
    exact ht
  · replace ht := ht.2 c9
    refine x_iconst (pc2 := 12) (v := 0) (by decide) dX12_isRiverHere_11 rfl ?_
    exact x_retZ rfl (Or.inl rfl) dX12_isRiverHere_12 ht
theorem e_X12_isRiverHere {G : GG} {d : Nat} {h : HP} {Q : Option Value → HP → Prop} {a0 : Nat} (hd1 : 1 ≤ d) (ht : T_X12_isRiverHere G d h Q a0) : Cal G d mX12_isRiverHere [.ref a0] h Q := cal_of rfl (Nat.le_of_ble_eq_true rfl) (t_X12_isRiverHere hd1 ht)
def T_X12_isRiverHere_18 (G : GG) (d : Nat) (h : HP) (Q : Option Value → HP → Prop) (a0 : Nat) (x1 : Int32) : Prop :=
  Kd G h a0 12 ∧ (((hI h a0 25) ≤ x1 → Q (some (.int 1)) h) ∧ (¬ (hI h a0 25) ≤ x1 → Ex G d mX12_isRiverHere 31 [(0, .ref a0), (1, .int x1), (2, .int (hI h a0 22))] [] h Q))
set_option maxRecDepth 20000 in
theorem t_X12_isRiverHere_18 {G : GG} {d : Nat} {h : HP} {Q : Option Value → HP → Prop} {a0 : Nat} {x1 : Int32} (ht : T_X12_isRiverHere_18 G d h Q a0 x1) : Ex G d mX12_isRiverHere 18 [(0, .ref a0), (1, .int x1)] [] h Q := by
  unfold T_X12_isRiverHere_18 at ht
  refine x_iload_n (pc2 := 19) 1 (n := 1) (x := x1) rfl dX12_isRiverHere_18 rfl ?_
  refine x_aload_n (pc2 := 20) 0 (n := 0) (x := a0) rfl dX12_isRiverHere_19 rfl ?_
  obtain ⟨k1, ht⟩ := ht
  refine y_getI (pc2 := 23) (κ := 12) (k := 25) fl_X12_227 (by decide) (by decide) k1 rfl dX12_isRiverHere_20 rfl ?_
  refine x_icmp_ge (pc2 := 26) 68 dX12_isRiverHere_23 (by decide) rfl (fun c2 => ?_) (fun c2 => ?_)
  · replace ht := ht.1 c2
    refine x_iconst (pc2 := 69) (v := 1) (by decide) dX12_isRiverHere_68 rfl ?_
    exact x_retZ rfl (Or.inr rfl) dX12_isRiverHere_69 ht
  · replace ht := ht.2 c2
    refine x_aload_n (pc2 := 27) 0 (n := 0) (x := a0) rfl dX12_isRiverHere_26 rfl ?_
    refine y_getI (pc2 := 30) (κ := 12) (k := 22) fl_X12_218 (by decide) (by decide) k1 rfl dX12_isRiverHere_27 rfl ?_
    refine x_istore_n (pc2 := 31) [1, 2, 0] (n := 2) (x := (hI h a0 22)) (lv2 := [(0, .ref a0), (1, .int x1), (2, .int (hI h a0 22))]) (by decide) rfl dX12_isRiverHere_30 rfl ?_
    exact ht
def T_X12_isRiverHere_31 (G : GG) (d : Nat) (h : HP) (Q : Option Value → HP → Prop) (a0 : Nat) (x1 : Int32) (x2 : Int32) : Prop :=
  Kd G h a0 12 ∧ (((hI h a0 24) ≤ x2 → Ex G d mX12_isRiverHere 18 [(0, .ref a0), (1, .int (x1 + 1))] [] h Q) ∧ (¬ (hI h a0 24) ≤ x2 → ∃ q3, hR h a0 11 = some q3 ∧ Kd G h q3 14 ∧ vp_in ((40 * x1) + x2) (hN h q3) ∧ vp_in ((40 * x1) + x2) (hN h q3) ∧ ∀ h8, h8 = (sI h q3 ((40 * x1) + x2).toNatClampNeg ((hI h q3 ((40 * x1) + x2).toNatClampNeg) ||| 128)) → Ex G d mX12_isRiverHere 31 [(0, .ref a0), (1, .int x1), (2, .int (x2 + 1))] [] h8 Q))
set_option maxRecDepth 20000 in
theorem t_X12_isRiverHere_31 {G : GG} {d : Nat} {h : HP} {Q : Option Value → HP → Prop} {a0 : Nat} {x1 : Int32} {x2 : Int32} (ht : T_X12_isRiverHere_31 G d h Q a0 x1 x2) : Ex G d mX12_isRiverHere 31 [(0, .ref a0), (1, .int x1), (2, .int x2)] [] h Q := by
  unfold T_X12_isRiverHere_31 at ht
  refine x_iload_n (pc2 := 32) 2 (n := 2) (x := x2) rfl dX12_isRiverHere_31 rfl ?_
  refine x_aload_n (pc2 := 33) 0 (n := 0) (x := a0) rfl dX12_isRiverHere_32 rfl ?_
  obtain ⟨k1, ht⟩ := ht
  refine y_getI (pc2 := 36) (κ := 12) (k := 24) fl_X12_224 (by decide) (by decide) k1 rfl dX12_isRiverHere_33 rfl ?_
  refine x_icmp_ge (pc2 := 39) 62 dX12_isRiverHere_36 (by decide) rfl (fun c2 => ?_) (fun c2 => ?_)
  · replace ht := ht.1 c2
    refine x_iinc (pc2 := 65) 1 [1, 0, 2] (i := 1) (x := x1) (v := (x1 + 1)) (lv2 := [(0, .ref a0), (1, .int (x1 + 1)), (2, .int x2)]) rfl (iinc_eq (by decide) _) (by decide) rfl dX12_isRiverHere_62 rfl ?_
    refine x_goto 18 dX12_isRiverHere_65 (by decide) ?_
    refine x_sub [0, 1] (lv2 := [(0, .ref a0), (1, .int (x1 + 1))]) rfl ?_
    exact ht
  · replace ht := ht.2 c2
    refine x_aload_n (pc2 := 40) 0 (n := 0) (x := a0) rfl dX12_isRiverHere_39 rfl ?_
    obtain ⟨q3, e4, ht⟩ := ht
    refine y_getR (pc2 := 43) (κ := 12) (k := 11) fl_X12_32 (by decide) (by decide) k1 rfl e4 dX12_isRiverHere_40 rfl ?_
    refine x_bipush (pc2 := 45) (v := 40) (by decide) dX12_isRiverHere_43 rfl ?_
    refine x_iload_n (pc2 := 46) 1 (n := 1) (x := x1) rfl dX12_isRiverHere_45 rfl ?_
    refine x_imul (pc2 := 47) dX12_isRiverHere_46 rfl ?_
    refine x_iload_n (pc2 := 48) 2 (n := 2) (x := x2) rfl dX12_isRiverHere_47 rfl ?_
    refine x_iadd (pc2 := 49) dX12_isRiverHere_48 rfl ?_
    refine x_dup2 (pc2 := 50) rfl rfl dX12_isRiverHere_49 rfl ?_
    obtain ⟨k5, ht⟩ := ht
    obtain ⟨b6, ht⟩ := ht
    refine x_iald (pc2 := 51) k5 b6 dX12_isRiverHere_50 rfl ?_
    refine x_sipush (pc2 := 54) (v := 128) (by decide) dX12_isRiverHere_51 rfl ?_
    refine x_ior (pc2 := 55) dX12_isRiverHere_54 rfl ?_
    obtain ⟨b7, ht⟩ := ht
    refine x_iast (pc2 := 56) k5 b7 dX12_isRiverHere_55 rfl ?_
    refine nm_I (fun h8 e9 p10 => ?_)
    replace ht := ht h8 e9
    refine x_iinc (pc2 := 59) 2 [1, 2, 0] (i := 2) (x := x2) (v := (x2 + 1)) (lv2 := [(0, .ref a0), (1, .int x1), (2, .int (x2 + 1))]) rfl (iinc_eq (by decide) _) (by decide) rfl dX12_isRiverHere_56 rfl ?_
    refine x_goto 31 dX12_isRiverHere_59 (by decide) ?_
    exact ht
def T_X12_isWellHere (G : GG) (d : Nat) (h : HP) (Q : Option Value → HP → Prop) (a0 : Nat) : Prop :=
  Kd G h a0 12 ∧ Cal G (d - 1) mX12_passWord [.ref a0] h (fun r1 h2 => r1 = none ∧ Cal G (d - 1) mX12_numberHere [.ref a0, .int 0, .int 39] h2 (fun r5 h6 => ∃ v8, r5 = some (.int v8) ∧ ((¬ v8 = 0 → Cal G (d - 1) mX12_numberHere [.ref a0, .int 0, .int 39] h6 (fun r10 h11 => ∃ v13, r10 = some (.int v13) ∧ ((¬ v13 = 0 → ∃ q15, hR h11 a0 11 = some q15 ∧ Kd G h11 q15 14 ∧ vp_in ((40 * (hI h11 a0 15)) + (hI h6 a0 15)) (hN h11 q15) ∧ vp_in ((40 * (hI h11 a0 15)) + (hI h6 a0 15)) (hN h11 q15) ∧ ∀ h20, h20 = (sI h11 q15 ((40 * (hI h11 a0 15)) + (hI h6 a0 15)).toNatClampNeg ((hI h11 q15 ((40 * (hI h11 a0 15)) + (hI h6 a0 15)).toNatClampNeg) ||| 256)) → Q (some (.int 1)) h20) ∧ (v13 = 0 → Q (some (.int 0)) h11)))) ∧ (v8 = 0 → Q (some (.int 0)) h6))))
set_option maxRecDepth 20000 in
theorem t_X12_isWellHere {G : GG} {d : Nat} {h : HP} {Q : Option Value → HP → Prop} {a0 : Nat} (hd1 : 1 ≤ d) (ht : T_X12_isWellHere G d h Q a0) : Ex G d mX12_isWellHere 0 [(0, .ref a0)] [] h Q := by
  unfold T_X12_isWellHere at ht
  refine x_aload_n (pc2 := 1) 0 (n := 0) (x := a0) rfl dX12_isWellHere_0 rfl ?_
  obtain ⟨k4, ht⟩ := ht
  refine x_callV (pc2 := 4) (As := []) (rest := []) (b := a0) mv_X12_passWord ml_X12_99 k4 rfl rfl (Nat.le_of_ble_eq_true rfl) hd1 dX12_isWellHere_1 rfl (ht.mono (fun r1 h2 p3 ht' => ?_))
  clear ht
  obtain ⟨rfl, ht⟩ := ht'
  show Ex G d mX12_isWellHere 4 [(0, .ref a0)] [] h2 Q
  refine x_aload_n (pc2 := 5) 0 (n := 0) (x := a0) rfl dX12_isWellHere_4 rfl ?_
  refine x_iconst (pc2 := 6) (v := 0) (by decide) dX12_isWellHere_5 rfl ?_
  refine x_bipush (pc2 := 8) (v := 39) (by decide) dX12_isWellHere_6 rfl ?_
  refine x_callV (pc2 := 11) (As := [.int 0, .int 39]) (rest := []) (b := a0) mv_X12_numberHere ml_X12_161 (k4.up p3) rfl rfl (Nat.le_of_ble_eq_true rfl) hd1 dX12_isWellHere_8 rfl (ht.mono (fun r5 h6 p7 ht' => ?_))
  clear ht
  obtain ⟨v8, rfl, ht⟩ := ht'
  show Ex G d mX12_isWellHere 11 [(0, .ref a0)] [.int v8] h6 Q
  refine y_if_ne (pc2 := 14) 16 dX12_isWellHere_11 (by decide) rfl (fun c9 => ?_) (fun c9 => ?_)
  · replace ht := ht.1 c9
    refine x_aload_n (pc2 := 17) 0 (n := 0) (x := a0) rfl dX12_isWellHere_16 rfl ?_
    refine y_getI (pc2 := 20) (κ := 12) (k := 15) fl_X12_109 (by decide) (by decide) ((k4.up p3).up p7) rfl dX12_isWellHere_17 rfl ?_
    refine x_istore_n (pc2 := 21) [1, 0] (n := 1) (x := (hI h6 a0 15)) (lv2 := [(0, .ref a0), (1, .int (hI h6 a0 15))]) (by decide) rfl dX12_isWellHere_20 rfl ?_
    refine x_aload_n (pc2 := 22) 0 (n := 0) (x := a0) rfl dX12_isWellHere_21 rfl ?_
    refine x_iconst (pc2 := 23) (v := 0) (by decide) dX12_isWellHere_22 rfl ?_
    refine x_bipush (pc2 := 25) (v := 39) (by decide) dX12_isWellHere_23 rfl ?_
    refine x_callV (pc2 := 28) (As := [.int 0, .int 39]) (rest := []) (b := a0) mv_X12_numberHere ml_X12_161 ((k4.up p3).up p7) rfl rfl (Nat.le_of_ble_eq_true rfl) hd1 dX12_isWellHere_25 rfl (ht.mono (fun r10 h11 p12 ht' => ?_))
    clear ht
    obtain ⟨v13, rfl, ht⟩ := ht'
    show Ex G d mX12_isWellHere 28 [(0, .ref a0), (1, .int (hI h6 a0 15))] [.int v13] h11 Q
    refine y_if_ne (pc2 := 31) 33 dX12_isWellHere_28 (by decide) rfl (fun c14 => ?_) (fun c14 => ?_)
    · replace ht := ht.1 c14
      refine x_aload_n (pc2 := 34) 0 (n := 0) (x := a0) rfl dX12_isWellHere_33 rfl ?_
      obtain ⟨q15, e16, ht⟩ := ht
      refine y_getR (pc2 := 37) (κ := 12) (k := 11) fl_X12_32 (by decide) (by decide) (((k4.up p3).up p7).up p12) rfl e16 dX12_isWellHere_34 rfl ?_
      refine x_bipush (pc2 := 39) (v := 40) (by decide) dX12_isWellHere_37 rfl ?_
      refine x_aload_n (pc2 := 40) 0 (n := 0) (x := a0) rfl dX12_isWellHere_39 rfl ?_
      refine y_getI (pc2 := 43) (κ := 12) (k := 15) fl_X12_109 (by decide) (by decide) (((k4.up p3).up p7).up p12) rfl dX12_isWellHere_40 rfl ?_
      refine x_imul (pc2 := 44) dX12_isWellHere_43 rfl ?_
      refine x_iload_n (pc2 := 45) 1 (n := 1) (x := (hI h6 a0 15)) rfl dX12_isWellHere_44 rfl ?_
      refine x_iadd (pc2 := 46) dX12_isWellHere_45 rfl ?_
      refine x_dup2 (pc2 := 47) rfl rfl dX12_isWellHere_46 rfl ?_
      obtain ⟨k17, ht⟩ := ht
      obtain ⟨b18, ht⟩ := ht
      refine x_iald (pc2 := 48) k17 b18 dX12_isWellHere_47 rfl ?_
      refine x_sipush (pc2 := 51) (v := 256) (by decide) dX12_isWellHere_48 rfl ?_
      refine x_ior (pc2 := 52) dX12_isWellHere_51 rfl ?_
      obtain ⟨b19, ht⟩ := ht
      refine x_iast (pc2 := 53) k17 b19 dX12_isWellHere_52 rfl ?_
      refine nm_I (fun h20 e21 p22 => ?_)
      replace ht := ht h20 e21
      refine x_iconst (pc2 := 54) (v := 1) (by decide) dX12_isWellHere_53 rfl ?_
      exact x_retZ rfl (Or.inr rfl) dX12_isWellHere_54 ht
    · replace ht := ht.2 c14
      refine x_iconst (pc2 := 32) (v := 0) (by decide) dX12_isWellHere_31 rfl ?_
      exact x_retZ rfl (Or.inl rfl) dX12_isWellHere_32 ht
  · replace ht := ht.2 c9
    refine x_iconst (pc2 := 15) (v := 0) (by decide) dX12_isWellHere_14 rfl ?_
    exact x_retZ rfl (Or.inl rfl) dX12_isWellHere_15 ht
theorem e_X12_isWellHere {G : GG} {d : Nat} {h : HP} {Q : Option Value → HP → Prop} {a0 : Nat} (hd1 : 1 ≤ d) (ht : T_X12_isWellHere G d h Q a0) : Cal G d mX12_isWellHere [.ref a0] h Q := cal_of rfl (Nat.le_of_ble_eq_true rfl) (t_X12_isWellHere hd1 ht)
def T_X12_isHouseHere (G : GG) (d : Nat) (h : HP) (Q : Option Value → HP → Prop) (a0 : Nat) (x1 : Int32) : Prop :=
  Kd G h a0 12 ∧ ((¬ (hI h a0 10) = 6 → Cal G (d - 1) mX12_passWord [.ref a0] h (fun r3 h4 => r3 = none ∧ Cal G (d - 1) mX12_see [.ref a0] h4 (fun r6 h7 => ∃ v9, r6 = some (.int v9) ∧ Cal G (d - 1) mX12_area [.ref a0] h7 (fun r10 h11 => ∃ v13, r10 = some (.int v13) ∧ ((¬ v13 = 0 → Ex G d mX12_isHouseHere 41 [(0, .ref a0), (1, .int x1), (2, .int (hI h7 a0 13)), (3, .int 0)] [] h11 Q) ∧ (v13 = 0 → Q (some (.int 0)) h11)))))) ∧ ((hI h a0 10) = 6 → Cal G (d - 1) mX12_fails [.ref a0, .int 4, .int x1] h (fun r15 h16 => ∃ v18, r15 = some (.int v18) ∧ ((v18 = 0 ∨ v18 = 1) ∧ Q (some (.int v18)) h16))))
set_option maxRecDepth 20000 in
theorem t_X12_isHouseHere {G : GG} {d : Nat} {h : HP} {Q : Option Value → HP → Prop} {a0 : Nat} {x1 : Int32} (hd1 : 1 ≤ d) (ht : T_X12_isHouseHere G d h Q a0 x1) : Ex G d mX12_isHouseHere 0 [(0, .ref a0), (1, .int x1)] [] h Q := by
  unfold T_X12_isHouseHere at ht
  refine x_aload_n (pc2 := 1) 0 (n := 0) (x := a0) rfl dX12_isHouseHere_0 rfl ?_
  obtain ⟨k1, ht⟩ := ht
  refine y_getI (pc2 := 4) (κ := 12) (k := 10) fl_X12_233 (by decide) (by decide) k1 rfl dX12_isHouseHere_1 rfl ?_
  refine x_bipush (pc2 := 6) (v := 6) (by decide) dX12_isHouseHere_4 rfl ?_
  refine y_icmp_ne (pc2 := 9) 16 dX12_isHouseHere_6 (by decide) rfl (fun c2 => ?_) (fun c2 => ?_)
  · replace ht := ht.1 c2
    refine x_aload_n (pc2 := 17) 0 (n := 0) (x := a0) rfl dX12_isHouseHere_16 rfl ?_
    refine x_callV (pc2 := 20) (As := []) (rest := []) (b := a0) mv_X12_passWord ml_X12_99 k1 rfl rfl (Nat.le_of_ble_eq_true rfl) hd1 dX12_isHouseHere_17 rfl (ht.mono (fun r3 h4 p5 ht' => ?_))
    clear ht
    obtain ⟨rfl, ht⟩ := ht'
    show Ex G d mX12_isHouseHere 20 [(0, .ref a0), (1, .int x1)] [] h4 Q
    refine x_aload_n (pc2 := 21) 0 (n := 0) (x := a0) rfl dX12_isHouseHere_20 rfl ?_
    refine x_callV (pc2 := 24) (As := []) (rest := []) (b := a0) mv_X12_see ml_X12_87 (k1.up p5) rfl rfl (Nat.le_of_ble_eq_true rfl) hd1 dX12_isHouseHere_21 rfl (ht.mono (fun r6 h7 p8 ht' => ?_))
    clear ht
    obtain ⟨v9, rfl, ht⟩ := ht'
    show Ex G d mX12_isHouseHere 24 [(0, .ref a0), (1, .int x1)] [.int v9] h7 Q
    refine x_pop (pc2 := 25) rfl dX12_isHouseHere_24 rfl ?_
    refine x_aload_n (pc2 := 26) 0 (n := 0) (x := a0) rfl dX12_isHouseHere_25 rfl ?_
    refine y_getI (pc2 := 29) (κ := 12) (k := 13) fl_X12_84 (by decide) (by decide) ((k1.up p5).up p8) rfl dX12_isHouseHere_26 rfl ?_
    refine x_istore_n (pc2 := 30) [1, 2, 0] (n := 2) (x := (hI h7 a0 13)) (lv2 := [(0, .ref a0), (1, .int x1), (2, .int (hI h7 a0 13))]) (by decide) rfl dX12_isHouseHere_29 rfl ?_
    refine x_aload_n (pc2 := 31) 0 (n := 0) (x := a0) rfl dX12_isHouseHere_30 rfl ?_
    refine x_callV (pc2 := 34) (As := []) (rest := []) (b := a0) mv_X12_area ml_X12_230 ((k1.up p5).up p8) rfl rfl (Nat.le_of_ble_eq_true rfl) hd1 dX12_isHouseHere_31 rfl (ht.mono (fun r10 h11 p12 ht' => ?_))
    clear ht
    obtain ⟨v13, rfl, ht⟩ := ht'
    show Ex G d mX12_isHouseHere 34 [(0, .ref a0), (1, .int x1), (2, .int (hI h7 a0 13))] [.int v13] h11 Q
    refine y_if_ne (pc2 := 37) 39 dX12_isHouseHere_34 (by decide) rfl (fun c14 => ?_) (fun c14 => ?_)
    · replace ht := ht.1 c14
      refine x_iconst (pc2 := 40) (v := 0) (by decide) dX12_isHouseHere_39 rfl ?_
      refine x_istore_n (pc2 := 41) [1, 2, 3, 0] (n := 3) (x := 0) (lv2 := [(0, .ref a0), (1, .int x1), (2, .int (hI h7 a0 13)), (3, .int 0)]) (by decide) rfl dX12_isHouseHere_40 rfl ?_
      exact ht
    · replace ht := ht.2 c14
      refine x_iconst (pc2 := 38) (v := 0) (by decide) dX12_isHouseHere_37 rfl ?_
      exact x_retZ rfl (Or.inl rfl) dX12_isHouseHere_38 ht
  · replace ht := ht.2 c2
    refine x_aload_n (pc2 := 10) 0 (n := 0) (x := a0) rfl dX12_isHouseHere_9 rfl ?_
    refine x_iconst (pc2 := 11) (v := 4) (by decide) dX12_isHouseHere_10 rfl ?_
    refine x_iload_n (pc2 := 12) 1 (n := 1) (x := x1) rfl dX12_isHouseHere_11 rfl ?_
    refine x_callV (pc2 := 15) (As := [.int 4, .int x1]) (rest := []) (b := a0) mv_X12_fails ml_X12_105 k1 rfl rfl (Nat.le_of_ble_eq_true rfl) hd1 dX12_isHouseHere_12 rfl (ht.mono (fun r15 h16 p17 ht' => ?_))
    clear ht
    obtain ⟨v18, rfl, ht⟩ := ht'
    show Ex G d mX12_isHouseHere 15 [(0, .ref a0), (1, .int x1)] [.int v18] h16 Q
    exact x_retZ rfl ht.1 dX12_isHouseHere_15 ht.2
theorem e_X12_isHouseHere {G : GG} {d : Nat} {h : HP} {Q : Option Value → HP → Prop} {a0 : Nat} {x1 : Int32} (hd1 : 1 ≤ d) (ht : T_X12_isHouseHere G d h Q a0 x1) : Cal G d mX12_isHouseHere [.ref a0, .int x1] h Q := cal_of rfl (Nat.le_of_ble_eq_true rfl) (t_X12_isHouseHere hd1 ht)
def T_X12_isHouseHere_41 (G : GG) (d : Nat) (h : HP) (Q : Option Value → HP → Prop) (a0 : Nat) (x1 : Int32) (x2 : Int32) (x3 : Int32) : Prop :=
  Kd G h a0 12 ∧ (((hI h a0 10) ≤ x3 → ∃ q3, hR h a0 12 = some q3 ∧ Kd G h q3 14 ∧ vp_in (4 * (hI h a0 10)) (hN h q3) ∧ vp_in ((4 * (hI (sI h q3 (4 * (hI h a0 10)).toNatClampNeg (hI h a0 22)) a0 10)) + 1) (hN (sI h q3 (4 * (hI h a0 10)).toNatClampNeg (hI h a0 22)) q3) ∧ ∀ h8, h8 = (sI (sI h q3 (4 * (hI h a0 10)).toNatClampNeg (hI h a0 22)) q3 ((4 * (hI (sI h q3 (4 * (hI h a0 10)).toNatClampNeg (hI h a0 22)) a0 10)) + 1).toNatClampNeg (hI (sI h q3 (4 * (hI h a0 10)).toNatClampNeg (hI h a0 22)) a0 23)) → vp_in ((4 * (hI h8 a0 10)) + 2) (hN h8 q3) ∧ vp_in ((4 * (hI (sI h8 q3 ((4 * (hI h8 a0 10)) + 2).toNatClampNeg (hI h8 a0 24)) a0 10)) + 3) (hN (sI h8 q3 ((4 * (hI h8 a0 10)) + 2).toNatClampNeg (hI h8 a0 24)) q3) ∧ ∀ h13, h13 = (sI (sI h8 q3 ((4 * (hI h8 a0 10)) + 2).toNatClampNeg (hI h8 a0 24)) q3 ((4 * (hI (sI h8 q3 ((4 * (hI h8 a0 10)) + 2).toNatClampNeg (hI h8 a0 24)) a0 10)) + 3).toNatClampNeg (hI (sI h8 q3 ((4 * (hI h8 a0 10)) + 2).toNatClampNeg (hI h8 a0 24)) a0 25)) → Q (some (.int 1)) (sI h13 a0 10 ((hI h13 a0 10) + 1))) ∧ (¬ (hI h a0 10) ≤ x3 → ∃ q16, hR h a0 12 = some q16 ∧ Kd G h q16 14 ∧ vp_in (4 * x3) (hN h q16) ∧ vp_in ((4 * x3) + 1) (hN h q16) ∧ vp_in ((4 * x3) + 2) (hN h q16) ∧ vp_in ((4 * x3) + 3) (hN h q16) ∧ Cal G (d - 1) mX12_areClear [.int (hI h a0 22), .int (hI h a0 23), .int (hI h a0 24), .int (hI h a0 25), .int (hI h q16 (4 * x3).toNatClampNeg), .int (hI h q16 ((4 * x3) + 1).toNatClampNeg), .int (hI h q16 ((4 * x3) + 2).toNatClampNeg), .int (hI h q16 ((4 * x3) + 3).toNatClampNeg)] h (fun r23 h24 => ∃ v26, r23 = some (.int v26) ∧ ((¬ v26 = 0 → Ex G d mX12_isHouseHere 41 [(0, .ref a0), (1, .int x1), (2, .int x2), (3, .int (x3 + 1))] [] h24 Q) ∧ (v26 = 0 → Cal G (d - 1) mX12_fails [.ref a0, .int 5, .int x2] h24 (fun r28 h29 => ∃ v31, r28 = some (.int v31) ∧ ((v31 = 0 ∨ v31 = 1) ∧ Q (some (.int v31)) h29)))))))
set_option maxRecDepth 20000 in
theorem t_X12_isHouseHere_41 {G : GG} {d : Nat} {h : HP} {Q : Option Value → HP → Prop} {a0 : Nat} {x1 : Int32} {x2 : Int32} {x3 : Int32} (hd1 : 1 ≤ d) (ht : T_X12_isHouseHere_41 G d h Q a0 x1 x2 x3) : Ex G d mX12_isHouseHere 41 [(0, .ref a0), (1, .int x1), (2, .int x2), (3, .int x3)] [] h Q := by
  unfold T_X12_isHouseHere_41 at ht
  refine x_iload_n (pc2 := 42) 3 (n := 3) (x := x3) rfl dX12_isHouseHere_41 rfl ?_
  refine x_aload_n (pc2 := 43) 0 (n := 0) (x := a0) rfl dX12_isHouseHere_42 rfl ?_
  obtain ⟨k1, ht⟩ := ht
  refine y_getI (pc2 := 46) (κ := 12) (k := 10) fl_X12_233 (by decide) (by decide) k1 rfl dX12_isHouseHere_43 rfl ?_
  refine x_icmp_ge (pc2 := 49) 122 dX12_isHouseHere_46 (by decide) rfl (fun c2 => ?_) (fun c2 => ?_)
  · replace ht := ht.1 c2
    refine x_aload_n (pc2 := 123) 0 (n := 0) (x := a0) rfl dX12_isHouseHere_122 rfl ?_
    obtain ⟨q3, e4, ht⟩ := ht
    refine y_getR (pc2 := 126) (κ := 12) (k := 12) fl_X12_35 (by decide) (by decide) k1 rfl e4 dX12_isHouseHere_123 rfl ?_
    refine x_iconst (pc2 := 127) (v := 4) (by decide) dX12_isHouseHere_126 rfl ?_
    refine x_aload_n (pc2 := 128) 0 (n := 0) (x := a0) rfl dX12_isHouseHere_127 rfl ?_
    refine y_getI (pc2 := 131) (κ := 12) (k := 10) fl_X12_233 (by decide) (by decide) k1 rfl dX12_isHouseHere_128 rfl ?_
    refine x_imul (pc2 := 132) dX12_isHouseHere_131 rfl ?_
    refine x_aload_n (pc2 := 133) 0 (n := 0) (x := a0) rfl dX12_isHouseHere_132 rfl ?_
    refine y_getI (pc2 := 136) (κ := 12) (k := 22) fl_X12_218 (by decide) (by decide) k1 rfl dX12_isHouseHere_133 rfl ?_
    obtain ⟨k5, ht⟩ := ht
    obtain ⟨b6, ht⟩ := ht
    refine x_iast (pc2 := 137) k5 b6 dX12_isHouseHere_136 rfl ?_
    refine x_aload_n (pc2 := 138) 0 (n := 0) (x := a0) rfl dX12_isHouseHere_137 rfl ?_
    refine y_getR (pc2 := 141) (κ := 12) (k := 12) fl_X12_35 (by decide) (by decide) k1.sI rfl ((hR_sI _ _ _ _ _ _).trans e4) dX12_isHouseHere_138 rfl ?_
    refine x_iconst (pc2 := 142) (v := 4) (by decide) dX12_isHouseHere_141 rfl ?_
    refine x_aload_n (pc2 := 143) 0 (n := 0) (x := a0) rfl dX12_isHouseHere_142 rfl ?_
    refine y_getI (pc2 := 146) (κ := 12) (k := 10) fl_X12_233 (by decide) (by decide) k1.sI rfl dX12_isHouseHere_143 rfl ?_
    refine x_imul (pc2 := 147) dX12_isHouseHere_146 rfl ?_
    refine x_iconst (pc2 := 148) (v := 1) (by decide) dX12_isHouseHere_147 rfl ?_
    refine x_iadd (pc2 := 149) dX12_isHouseHere_148 rfl ?_
    refine x_aload_n (pc2 := 150) 0 (n := 0) (x := a0) rfl dX12_isHouseHere_149 rfl ?_
    refine y_getI (pc2 := 153) (κ := 12) (k := 23) fl_X12_221 (by decide) (by decide) k1.sI rfl dX12_isHouseHere_150 rfl ?_
    obtain ⟨b7, ht⟩ := ht
    refine x_iast (pc2 := 154) k5.sI b7 dX12_isHouseHere_153 rfl ?_
    refine nm_I (fun h8 e9 p10 => ?_)
    replace ht := ht h8 e9
    refine x_aload_n (pc2 := 155) 0 (n := 0) (x := a0) rfl dX12_isHouseHere_154 rfl ?_
    refine y_getR (pc2 := 158) (κ := 12) (k := 12) fl_X12_35 (by decide) (by decide) (k1.sI.up p10) rfl (by rw [e9]; exact ((hR_sI _ _ _ _ _ _).trans ((hR_sI _ _ _ _ _ _).trans e4))) dX12_isHouseHere_155 rfl ?_
    refine x_iconst (pc2 := 159) (v := 4) (by decide) dX12_isHouseHere_158 rfl ?_
    refine x_aload_n (pc2 := 160) 0 (n := 0) (x := a0) rfl dX12_isHouseHere_159 rfl ?_
    refine y_getI (pc2 := 163) (κ := 12) (k := 10) fl_X12_233 (by decide) (by decide) (k1.sI.up p10) rfl dX12_isHouseHere_160 rfl ?_
    refine x_imul (pc2 := 164) dX12_isHouseHere_163 rfl ?_
    refine x_iconst (pc2 := 165) (v := 2) (by decide) dX12_isHouseHere_164 rfl ?_
    refine x_iadd (pc2 := 166) dX12_isHouseHere_165 rfl ?_
    refine x_aload_n (pc2 := 167) 0 (n := 0) (x := a0) rfl dX12_isHouseHere_166 rfl ?_
    refine y_getI (pc2 := 170) (κ := 12) (k := 24) fl_X12_224 (by decide) (by decide) (k1.sI.up p10) rfl dX12_isHouseHere_167 rfl ?_
    obtain ⟨b11, ht⟩ := ht
    refine x_iast (pc2 := 171) (k5.sI.up p10) b11 dX12_isHouseHere_170 rfl ?_
    refine x_aload_n (pc2 := 172) 0 (n := 0) (x := a0) rfl dX12_isHouseHere_171 rfl ?_
    refine y_getR (pc2 := 175) (κ := 12) (k := 12) fl_X12_35 (by decide) (by decide) (k1.sI.up p10).sI rfl ((hR_sI _ _ _ _ _ _).trans (by rw [e9]; exact ((hR_sI _ _ _ _ _ _).trans ((hR_sI _ _ _ _ _ _).trans e4)))) dX12_isHouseHere_172 rfl ?_
    refine x_iconst (pc2 := 176) (v := 4) (by decide) dX12_isHouseHere_175 rfl ?_
    refine x_aload_n (pc2 := 177) 0 (n := 0) (x := a0) rfl dX12_isHouseHere_176 rfl ?_
    refine y_getI (pc2 := 180) (κ := 12) (k := 10) fl_X12_233 (by decide) (by decide) (k1.sI.up p10).sI rfl dX12_isHouseHere_177 rfl ?_
    refine x_imul (pc2 := 181) dX12_isHouseHere_180 rfl ?_
    refine x_iconst (pc2 := 182) (v := 3) (by decide) dX12_isHouseHere_181 rfl ?_
    refine x_iadd (pc2 := 183) dX12_isHouseHere_182 rfl ?_
    refine x_aload_n (pc2 := 184) 0 (n := 0) (x := a0) rfl dX12_isHouseHere_183 rfl ?_
    refine y_getI (pc2 := 187) (κ := 12) (k := 25) fl_X12_227 (by decide) (by decide) (k1.sI.up p10).sI rfl dX12_isHouseHere_184 rfl ?_
    obtain ⟨b12, ht⟩ := ht
    refine x_iast (pc2 := 188) (k5.sI.up p10).sI b12 dX12_isHouseHere_187 rfl ?_
    refine nm_I (fun h13 e14 p15 => ?_)
    replace ht := ht h13 e14
    refine x_aload_n (pc2 := 189) 0 (n := 0) (x := a0) rfl dX12_isHouseHere_188 rfl ?_
    refine x_dup (pc2 := 190) rfl dX12_isHouseHere_189 rfl ?_
    refine y_getI (pc2 := 193) (κ := 12) (k := 10) fl_X12_233 (by decide) (by decide) ((k1.sI.up p10).sI.up p15) rfl dX12_isHouseHere_190 rfl ?_
    refine x_iconst (pc2 := 194) (v := 1) (by decide) dX12_isHouseHere_193 rfl ?_
    refine x_iadd (pc2 := 195) dX12_isHouseHere_194 rfl ?_
    refine x_putI (pc2 := 198) (κ := 12) (k := 10) fl_X12_233 (by decide) (by decide) (Or.inl rfl) rfl ((k1.sI.up p10).sI.up p15) dX12_isHouseHere_195 rfl ?_
    refine x_iconst (pc2 := 199) (v := 1) (by decide) dX12_isHouseHere_198 rfl ?_
    exact x_retZ rfl (Or.inr rfl) dX12_isHouseHere_199 ht
  · replace ht := ht.2 c2
    refine x_aload_n (pc2 := 50) 0 (n := 0) (x := a0) rfl dX12_isHouseHere_49 rfl ?_
    refine y_getI (pc2 := 53) (κ := 12) (k := 22) fl_X12_218 (by decide) (by decide) k1 rfl dX12_isHouseHere_50 rfl ?_
    refine x_aload_n (pc2 := 54) 0 (n := 0) (x := a0) rfl dX12_isHouseHere_53 rfl ?_
    refine y_getI (pc2 := 57) (κ := 12) (k := 23) fl_X12_221 (by decide) (by decide) k1 rfl dX12_isHouseHere_54 rfl ?_
    refine x_aload_n (pc2 := 58) 0 (n := 0) (x := a0) rfl dX12_isHouseHere_57 rfl ?_
    refine y_getI (pc2 := 61) (κ := 12) (k := 24) fl_X12_224 (by decide) (by decide) k1 rfl dX12_isHouseHere_58 rfl ?_
    refine x_aload_n (pc2 := 62) 0 (n := 0) (x := a0) rfl dX12_isHouseHere_61 rfl ?_
    refine y_getI (pc2 := 65) (κ := 12) (k := 25) fl_X12_227 (by decide) (by decide) k1 rfl dX12_isHouseHere_62 rfl ?_
    refine x_aload_n (pc2 := 66) 0 (n := 0) (x := a0) rfl dX12_isHouseHere_65 rfl ?_
    obtain ⟨q16, e17, ht⟩ := ht
    refine y_getR (pc2 := 69) (κ := 12) (k := 12) fl_X12_35 (by decide) (by decide) k1 rfl e17 dX12_isHouseHere_66 rfl ?_
    refine x_iconst (pc2 := 70) (v := 4) (by decide) dX12_isHouseHere_69 rfl ?_
    refine x_iload_n (pc2 := 71) 3 (n := 3) (x := x3) rfl dX12_isHouseHere_70 rfl ?_
    refine x_imul (pc2 := 72) dX12_isHouseHere_71 rfl ?_
    obtain ⟨k18, ht⟩ := ht
    obtain ⟨b19, ht⟩ := ht
    refine x_iald (pc2 := 73) k18 b19 dX12_isHouseHere_72 rfl ?_
    refine x_aload_n (pc2 := 74) 0 (n := 0) (x := a0) rfl dX12_isHouseHere_73 rfl ?_
    refine y_getR (pc2 := 77) (κ := 12) (k := 12) fl_X12_35 (by decide) (by decide) k1 rfl e17 dX12_isHouseHere_74 rfl ?_
    refine x_iconst (pc2 := 78) (v := 4) (by decide) dX12_isHouseHere_77 rfl ?_
    refine x_iload_n (pc2 := 79) 3 (n := 3) (x := x3) rfl dX12_isHouseHere_78 rfl ?_
    refine x_imul (pc2 := 80) dX12_isHouseHere_79 rfl ?_
    refine x_iconst (pc2 := 81) (v := 1) (by decide) dX12_isHouseHere_80 rfl ?_
    refine x_iadd (pc2 := 82) dX12_isHouseHere_81 rfl ?_
    obtain ⟨b20, ht⟩ := ht
    refine x_iald (pc2 := 83) k18 b20 dX12_isHouseHere_82 rfl ?_
    refine x_aload_n (pc2 := 84) 0 (n := 0) (x := a0) rfl dX12_isHouseHere_83 rfl ?_
    refine y_getR (pc2 := 87) (κ := 12) (k := 12) fl_X12_35 (by decide) (by decide) k1 rfl e17 dX12_isHouseHere_84 rfl ?_
    refine x_iconst (pc2 := 88) (v := 4) (by decide) dX12_isHouseHere_87 rfl ?_
    refine x_iload_n (pc2 := 89) 3 (n := 3) (x := x3) rfl dX12_isHouseHere_88 rfl ?_
    refine x_imul (pc2 := 90) dX12_isHouseHere_89 rfl ?_
    refine x_iconst (pc2 := 91) (v := 2) (by decide) dX12_isHouseHere_90 rfl ?_
    refine x_iadd (pc2 := 92) dX12_isHouseHere_91 rfl ?_
    obtain ⟨b21, ht⟩ := ht
    refine x_iald (pc2 := 93) k18 b21 dX12_isHouseHere_92 rfl ?_
    refine x_aload_n (pc2 := 94) 0 (n := 0) (x := a0) rfl dX12_isHouseHere_93 rfl ?_
    refine y_getR (pc2 := 97) (κ := 12) (k := 12) fl_X12_35 (by decide) (by decide) k1 rfl e17 dX12_isHouseHere_94 rfl ?_
    refine x_iconst (pc2 := 98) (v := 4) (by decide) dX12_isHouseHere_97 rfl ?_
    refine x_iload_n (pc2 := 99) 3 (n := 3) (x := x3) rfl dX12_isHouseHere_98 rfl ?_
    refine x_imul (pc2 := 100) dX12_isHouseHere_99 rfl ?_
    refine x_iconst (pc2 := 101) (v := 3) (by decide) dX12_isHouseHere_100 rfl ?_
    refine x_iadd (pc2 := 102) dX12_isHouseHere_101 rfl ?_
    obtain ⟨b22, ht⟩ := ht
    refine x_iald (pc2 := 103) k18 b22 dX12_isHouseHere_102 rfl ?_
    refine x_callS (pc2 := 106) (As := [.int (hI h a0 22), .int (hI h a0 23), .int (hI h a0 24), .int (hI h a0 25), .int (hI h q16 (4 * x3).toNatClampNeg), .int (hI h q16 ((4 * x3) + 1).toNatClampNeg), .int (hI h q16 ((4 * x3) + 2).toNatClampNeg), .int (hI h q16 ((4 * x3) + 3).toNatClampNeg)]) (rest := []) ms_X12_areClear ml_X12_236 rfl rfl (Nat.le_of_ble_eq_true rfl) hd1 dX12_isHouseHere_103 rfl (ht.mono (fun r23 h24 p25 ht' => ?_))
    clear ht
    obtain ⟨v26, rfl, ht⟩ := ht'
    show Ex G d mX12_isHouseHere 106 [(0, .ref a0), (1, .int x1), (2, .int x2), (3, .int x3)] [.int v26] h24 Q
    refine y_if_ne (pc2 := 109) 116 dX12_isHouseHere_106 (by decide) rfl (fun c27 => ?_) (fun c27 => ?_)
    · replace ht := ht.1 c27
      refine x_iinc (pc2 := 119) 3 [1, 2, 3, 0] (i := 3) (x := x3) (v := (x3 + 1)) (lv2 := [(0, .ref a0), (1, .int x1), (2, .int x2), (3, .int (x3 + 1))]) rfl (iinc_eq (by decide) _) (by decide) rfl dX12_isHouseHere_116 rfl ?_
      refine x_goto 41 dX12_isHouseHere_119 (by decide) ?_
      exact ht
    · replace ht := ht.2 c27
      refine x_aload_n (pc2 := 110) 0 (n := 0) (x := a0) rfl dX12_isHouseHere_109 rfl ?_
      refine x_iconst (pc2 := 111) (v := 5) (by decide) dX12_isHouseHere_110 rfl ?_
      refine x_iload_n (pc2 := 112) 2 (n := 2) (x := x2) rfl dX12_isHouseHere_111 rfl ?_
      refine x_callV (pc2 := 115) (As := [.int 5, .int x2]) (rest := []) (b := a0) mv_X12_fails ml_X12_105 (k1.up p25) rfl rfl (Nat.le_of_ble_eq_true rfl) hd1 dX12_isHouseHere_112 rfl (ht.mono (fun r28 h29 p30 ht' => ?_))
      clear ht
      obtain ⟨v31, rfl, ht⟩ := ht'
      show Ex G d mX12_isHouseHere 115 [(0, .ref a0), (1, .int x1), (2, .int x2), (3, .int x3)] [.int v31] h29 Q
      exact x_retZ rfl ht.1 dX12_isHouseHere_115 ht.2
def T_X12_clauseHere (G : GG) (d : Nat) (h : HP) (Q : Option Value → HP → Prop) (a0 : Nat) : Prop :=
  Kd G h a0 12 ∧ Cal G (d - 1) mX12_see [.ref a0] h (fun r1 h2 => ∃ v5, r1 = some (.int v5) ∧ Cal G (d - 1) mX12_isWord [.ref a0, .long 2003395685] h2 (fun r6 h7 => ∃ v9, r6 = some (.int v9) ∧ ((¬ v9 = 0 → Ex G d mX12_clauseHere 65 [(0, .ref a0), (1, .int (hI h2 a0 13))] [.int 1] h7 Q) ∧ (v9 = 0 → Cal G (d - 1) mX12_isWord [.ref a0, .long 512970880104] h7 (fun r11 h12 => ∃ v14, r11 = some (.int v14) ∧ ((¬ v14 = 0 → Ex G d mX12_clauseHere 65 [(0, .ref a0), (1, .int (hI h2 a0 13))] [.int 1] h12 Q) ∧ (v14 = 0 → Cal G (d - 1) mX12_isWord [.ref a0, .long 491395638642] h12 (fun r16 h17 => ∃ v19, r16 = some (.int v19) ∧ ((¬ v19 = 0 → Ex G d mX12_clauseHere 65 [(0, .ref a0), (1, .int (hI h2 a0 13))] [.int 1] h17 Q) ∧ (v19 = 0 → Cal G (d - 1) mX12_isWord [.ref a0, .long 2003135596] h17 (fun r21 h22 => ∃ v24, r21 = some (.int v24) ∧ ((¬ v24 = 0 → Ex G d mX12_clauseHere 65 [(0, .ref a0), (1, .int (hI h2 a0 13))] [.int 1] h22 Q) ∧ (v24 = 0 → Cal G (d - 1) mX12_isWord [.ref a0, .long 448546567013] h22 (fun r26 h27 => ∃ v29, r26 = some (.int v29) ∧ ((v29 = 0 → Ex G d mX12_clauseHere 65 [(0, .ref a0), (1, .int (hI h2 a0 13))] [.int 0] h27 Q) ∧ (¬ v29 = 0 → Ex G d mX12_clauseHere 65 [(0, .ref a0), (1, .int (hI h2 a0 13))] [.int 1] h27 Q))))))))))))))))
set_option maxRecDepth 20000 in
theorem t_X12_clauseHere {G : GG} {d : Nat} {h : HP} {Q : Option Value → HP → Prop} {a0 : Nat} (hd1 : 1 ≤ d) (ht : T_X12_clauseHere G d h Q a0) : Ex G d mX12_clauseHere 0 [(0, .ref a0)] [] h Q := by
  unfold T_X12_clauseHere at ht
  refine x_aload_n (pc2 := 1) 0 (n := 0) (x := a0) rfl dX12_clauseHere_0 rfl ?_
  obtain ⟨k4, ht⟩ := ht
  refine x_callV (pc2 := 4) (As := []) (rest := []) (b := a0) mv_X12_see ml_X12_87 k4 rfl rfl (Nat.le_of_ble_eq_true rfl) hd1 dX12_clauseHere_1 rfl (ht.mono (fun r1 h2 p3 ht' => ?_))
  clear ht
  obtain ⟨v5, rfl, ht⟩ := ht'
  show Ex G d mX12_clauseHere 4 [(0, .ref a0)] [.int v5] h2 Q
  refine x_pop (pc2 := 5) rfl dX12_clauseHere_4 rfl ?_
  refine x_aload_n (pc2 := 6) 0 (n := 0) (x := a0) rfl dX12_clauseHere_5 rfl ?_
  refine y_getI (pc2 := 9) (κ := 12) (k := 13) fl_X12_84 (by decide) (by decide) (k4.up p3) rfl dX12_clauseHere_6 rfl ?_
  refine x_istore_n (pc2 := 10) [1, 0] (n := 1) (x := (hI h2 a0 13)) (lv2 := [(0, .ref a0), (1, .int (hI h2 a0 13))]) (by decide) rfl dX12_clauseHere_9 rfl ?_
  refine x_aload_n (pc2 := 11) 0 (n := 0) (x := a0) rfl dX12_clauseHere_10 rfl ?_
  refine x_ldc2 (pc2 := 14) (v := 2003395685) ct_X12_240 dX12_clauseHere_11 rfl ?_
  refine x_callV (pc2 := 17) (As := [.long 2003395685]) (rest := []) (b := a0) mv_X12_isWord ml_X12_95 (k4.up p3) rfl rfl (Nat.le_of_ble_eq_true rfl) hd1 dX12_clauseHere_14 rfl (ht.mono (fun r6 h7 p8 ht' => ?_))
  clear ht
  obtain ⟨v9, rfl, ht⟩ := ht'
  show Ex G d mX12_clauseHere 17 [(0, .ref a0), (1, .int (hI h2 a0 13))] [.int v9] h7 Q
  refine y_if_ne (pc2 := 20) 60 dX12_clauseHere_17 (by decide) rfl (fun c10 => ?_) (fun c10 => ?_)
  · replace ht := ht.1 c10
    refine x_iconst (pc2 := 61) (v := 1) (by decide) dX12_clauseHere_60 rfl ?_
    refine x_goto 65 dX12_clauseHere_61 (by decide) ?_
    exact ht
  · replace ht := ht.2 c10
    refine x_aload_n (pc2 := 21) 0 (n := 0) (x := a0) rfl dX12_clauseHere_20 rfl ?_
    refine x_ldc2 (pc2 := 24) (v := 512970880104) ct_X12_124 dX12_clauseHere_21 rfl ?_
    refine x_callV (pc2 := 27) (As := [.long 512970880104]) (rest := []) (b := a0) mv_X12_isWord ml_X12_95 ((k4.up p3).up p8) rfl rfl (Nat.le_of_ble_eq_true rfl) hd1 dX12_clauseHere_24 rfl (ht.mono (fun r11 h12 p13 ht' => ?_))
    clear ht
    obtain ⟨v14, rfl, ht⟩ := ht'
    show Ex G d mX12_clauseHere 27 [(0, .ref a0), (1, .int (hI h2 a0 13))] [.int v14] h12 Q
    refine y_if_ne (pc2 := 30) 60 dX12_clauseHere_27 (by decide) rfl (fun c15 => ?_) (fun c15 => ?_)
    · replace ht := ht.1 c15
      refine x_iconst (pc2 := 61) (v := 1) (by decide) dX12_clauseHere_60 rfl ?_
      refine x_goto 65 dX12_clauseHere_61 (by decide) ?_
      exact ht
    · replace ht := ht.2 c15
      refine x_aload_n (pc2 := 31) 0 (n := 0) (x := a0) rfl dX12_clauseHere_30 rfl ?_
      refine x_ldc2 (pc2 := 34) (v := 491395638642) ct_X12_128 dX12_clauseHere_31 rfl ?_
      refine x_callV (pc2 := 37) (As := [.long 491395638642]) (rest := []) (b := a0) mv_X12_isWord ml_X12_95 (((k4.up p3).up p8).up p13) rfl rfl (Nat.le_of_ble_eq_true rfl) hd1 dX12_clauseHere_34 rfl (ht.mono (fun r16 h17 p18 ht' => ?_))
      clear ht
      obtain ⟨v19, rfl, ht⟩ := ht'
      show Ex G d mX12_clauseHere 37 [(0, .ref a0), (1, .int (hI h2 a0 13))] [.int v19] h17 Q
      refine y_if_ne (pc2 := 40) 60 dX12_clauseHere_37 (by decide) rfl (fun c20 => ?_) (fun c20 => ?_)
      · replace ht := ht.1 c20
        refine x_iconst (pc2 := 61) (v := 1) (by decide) dX12_clauseHere_60 rfl ?_
        refine x_goto 65 dX12_clauseHere_61 (by decide) ?_
        exact ht
      · replace ht := ht.2 c20
        refine x_aload_n (pc2 := 41) 0 (n := 0) (x := a0) rfl dX12_clauseHere_40 rfl ?_
        refine x_ldc2 (pc2 := 44) (v := 2003135596) ct_X12_242 dX12_clauseHere_41 rfl ?_
        refine x_callV (pc2 := 47) (As := [.long 2003135596]) (rest := []) (b := a0) mv_X12_isWord ml_X12_95 ((((k4.up p3).up p8).up p13).up p18) rfl rfl (Nat.le_of_ble_eq_true rfl) hd1 dX12_clauseHere_44 rfl (ht.mono (fun r21 h22 p23 ht' => ?_))
        clear ht
        obtain ⟨v24, rfl, ht⟩ := ht'
        show Ex G d mX12_clauseHere 47 [(0, .ref a0), (1, .int (hI h2 a0 13))] [.int v24] h22 Q
        refine y_if_ne (pc2 := 50) 60 dX12_clauseHere_47 (by decide) rfl (fun c25 => ?_) (fun c25 => ?_)
        · replace ht := ht.1 c25
          refine x_iconst (pc2 := 61) (v := 1) (by decide) dX12_clauseHere_60 rfl ?_
          refine x_goto 65 dX12_clauseHere_61 (by decide) ?_
          exact ht
        · replace ht := ht.2 c25
          refine x_aload_n (pc2 := 51) 0 (n := 0) (x := a0) rfl dX12_clauseHere_50 rfl ?_
          refine x_ldc2 (pc2 := 54) (v := 448546567013) ct_X12_244 dX12_clauseHere_51 rfl ?_
          refine x_callV (pc2 := 57) (As := [.long 448546567013]) (rest := []) (b := a0) mv_X12_isWord ml_X12_95 (((((k4.up p3).up p8).up p13).up p18).up p23) rfl rfl (Nat.le_of_ble_eq_true rfl) hd1 dX12_clauseHere_54 rfl (ht.mono (fun r26 h27 p28 ht' => ?_))
          clear ht
          obtain ⟨v29, rfl, ht⟩ := ht'
          show Ex G d mX12_clauseHere 57 [(0, .ref a0), (1, .int (hI h2 a0 13))] [.int v29] h27 Q
          refine x_if_eq (pc2 := 60) 64 dX12_clauseHere_57 (by decide) rfl (fun c30 => ?_) (fun c30 => ?_)
          · replace ht := ht.1 c30
            refine x_iconst (pc2 := 65) (v := 0) (by decide) dX12_clauseHere_64 rfl ?_
            exact ht
          · replace ht := ht.2 c30
            refine x_iconst (pc2 := 61) (v := 1) (by decide) dX12_clauseHere_60 rfl ?_
            refine x_goto 65 dX12_clauseHere_61 (by decide) ?_
            exact ht
theorem e_X12_clauseHere {G : GG} {d : Nat} {h : HP} {Q : Option Value → HP → Prop} {a0 : Nat} (hd1 : 1 ≤ d) (ht : T_X12_clauseHere G d h Q a0) : Cal G d mX12_clauseHere [.ref a0] h Q := cal_of rfl (Nat.le_of_ble_eq_true rfl) (t_X12_clauseHere hd1 ht)
def T_X12_clauseHere_65 (G : GG) (d : Nat) (h : HP) (Q : Option Value → HP → Prop) (a0 : Nat) (x1 : Int32) (sx0 : Int32) : Prop :=
  Kd G h a0 12 ∧ Cal G (d - 1) mX12_isWord [.ref a0, .long 6709618] h (fun r1 h2 => ∃ v5, r1 = some (.int v5) ∧ ((¬ v5 = 0 → Ex G d mX12_clauseHere 111 [(0, .ref a0), (1, .int x1), (2, .int sx0)] [.int 1] h2 Q) ∧ (v5 = 0 → Cal G (d - 1) mX12_isWord [.ref a0, .long 7168377] h2 (fun r7 h8 => ∃ v10, r7 = some (.int v10) ∧ ((¬ v10 = 0 → Ex G d mX12_clauseHere 111 [(0, .ref a0), (1, .int x1), (2, .int sx0)] [.int 1] h8 Q) ∧ (v10 = 0 → Cal G (d - 1) mX12_isWord [.ref a0, .long 7237492] h8 (fun r12 h13 => ∃ v15, r12 = some (.int v15) ∧ ((¬ v15 = 0 → Ex G d mX12_clauseHere 111 [(0, .ref a0), (1, .int x1), (2, .int sx0)] [.int 1] h13 Q) ∧ (v15 = 0 → Cal G (d - 1) mX12_isWord [.ref a0, .long 1785686382] h13 (fun r17 h18 => ∃ v20, r17 = some (.int v20) ∧ ((v20 = 0 → Ex G d mX12_clauseHere 111 [(0, .ref a0), (1, .int x1), (2, .int sx0)] [.int 0] h18 Q) ∧ (¬ v20 = 0 → Ex G d mX12_clauseHere 111 [(0, .ref a0), (1, .int x1), (2, .int sx0)] [.int 1] h18 Q))))))))))))
set_option maxRecDepth 20000 in
theorem t_X12_clauseHere_65 {G : GG} {d : Nat} {h : HP} {Q : Option Value → HP → Prop} {a0 : Nat} {x1 : Int32} {sx0 : Int32} (hd1 : 1 ≤ d) (ht : T_X12_clauseHere_65 G d h Q a0 x1 sx0) : Ex G d mX12_clauseHere 65 [(0, .ref a0), (1, .int x1)] [.int sx0] h Q := by
  unfold T_X12_clauseHere_65 at ht
  refine x_istore_n (pc2 := 66) [1, 2, 0] (n := 2) (x := sx0) (lv2 := [(0, .ref a0), (1, .int x1), (2, .int sx0)]) (by decide) rfl dX12_clauseHere_65 rfl ?_
  refine x_aload_n (pc2 := 67) 0 (n := 0) (x := a0) rfl dX12_clauseHere_66 rfl ?_
  refine x_ldc2 (pc2 := 70) (v := 6709618) ct_X12_246 dX12_clauseHere_67 rfl ?_
  obtain ⟨k4, ht⟩ := ht
  refine x_callV (pc2 := 73) (As := [.long 6709618]) (rest := []) (b := a0) mv_X12_isWord ml_X12_95 k4 rfl rfl (Nat.le_of_ble_eq_true rfl) hd1 dX12_clauseHere_70 rfl (ht.mono (fun r1 h2 p3 ht' => ?_))
  clear ht
  obtain ⟨v5, rfl, ht⟩ := ht'
  show Ex G d mX12_clauseHere 73 [(0, .ref a0), (1, .int x1), (2, .int sx0)] [.int v5] h2 Q
  refine y_if_ne (pc2 := 76) 106 dX12_clauseHere_73 (by decide) rfl (fun c6 => ?_) (fun c6 => ?_)
  · replace ht := ht.1 c6
    refine x_iconst (pc2 := 107) (v := 1) (by decide) dX12_clauseHere_106 rfl ?_
    refine x_goto 111 dX12_clauseHere_107 (by decide) ?_
    exact ht
  · replace ht := ht.2 c6
    refine x_aload_n (pc2 := 77) 0 (n := 0) (x := a0) rfl dX12_clauseHere_76 rfl ?_
    refine x_ldc2 (pc2 := 80) (v := 7168377) ct_X12_248 dX12_clauseHere_77 rfl ?_
    refine x_callV (pc2 := 83) (As := [.long 7168377]) (rest := []) (b := a0) mv_X12_isWord ml_X12_95 (k4.up p3) rfl rfl (Nat.le_of_ble_eq_true rfl) hd1 dX12_clauseHere_80 rfl (ht.mono (fun r7 h8 p9 ht' => ?_))
    clear ht
    obtain ⟨v10, rfl, ht⟩ := ht'
    show Ex G d mX12_clauseHere 83 [(0, .ref a0), (1, .int x1), (2, .int sx0)] [.int v10] h8 Q
    refine y_if_ne (pc2 := 86) 106 dX12_clauseHere_83 (by decide) rfl (fun c11 => ?_) (fun c11 => ?_)
    · replace ht := ht.1 c11
      refine x_iconst (pc2 := 107) (v := 1) (by decide) dX12_clauseHere_106 rfl ?_
      refine x_goto 111 dX12_clauseHere_107 (by decide) ?_
      exact ht
    · replace ht := ht.2 c11
      refine x_aload_n (pc2 := 87) 0 (n := 0) (x := a0) rfl dX12_clauseHere_86 rfl ?_
      refine x_ldc2 (pc2 := 90) (v := 7237492) ct_X12_180 dX12_clauseHere_87 rfl ?_
      refine x_callV (pc2 := 93) (As := [.long 7237492]) (rest := []) (b := a0) mv_X12_isWord ml_X12_95 ((k4.up p3).up p9) rfl rfl (Nat.le_of_ble_eq_true rfl) hd1 dX12_clauseHere_90 rfl (ht.mono (fun r12 h13 p14 ht' => ?_))
      clear ht
      obtain ⟨v15, rfl, ht⟩ := ht'
      show Ex G d mX12_clauseHere 93 [(0, .ref a0), (1, .int x1), (2, .int sx0)] [.int v15] h13 Q
      refine y_if_ne (pc2 := 96) 106 dX12_clauseHere_93 (by decide) rfl (fun c16 => ?_) (fun c16 => ?_)
      · replace ht := ht.1 c16
        refine x_iconst (pc2 := 107) (v := 1) (by decide) dX12_clauseHere_106 rfl ?_
        refine x_goto 111 dX12_clauseHere_107 (by decide) ?_
        exact ht
      · replace ht := ht.2 c16
        refine x_aload_n (pc2 := 97) 0 (n := 0) (x := a0) rfl dX12_clauseHere_96 rfl ?_
        refine x_ldc2 (pc2 := 100) (v := 1785686382) ct_X12_250 dX12_clauseHere_97 rfl ?_
        refine x_callV (pc2 := 103) (As := [.long 1785686382]) (rest := []) (b := a0) mv_X12_isWord ml_X12_95 (((k4.up p3).up p9).up p14) rfl rfl (Nat.le_of_ble_eq_true rfl) hd1 dX12_clauseHere_100 rfl (ht.mono (fun r17 h18 p19 ht' => ?_))
        clear ht
        obtain ⟨v20, rfl, ht⟩ := ht'
        show Ex G d mX12_clauseHere 103 [(0, .ref a0), (1, .int x1), (2, .int sx0)] [.int v20] h18 Q
        refine x_if_eq (pc2 := 106) 110 dX12_clauseHere_103 (by decide) rfl (fun c21 => ?_) (fun c21 => ?_)
        · replace ht := ht.1 c21
          refine x_iconst (pc2 := 111) (v := 0) (by decide) dX12_clauseHere_110 rfl ?_
          exact ht
        · replace ht := ht.2 c21
          refine x_iconst (pc2 := 107) (v := 1) (by decide) dX12_clauseHere_106 rfl ?_
          refine x_goto 111 dX12_clauseHere_107 (by decide) ?_
          exact ht
def T_X12_clauseHere_111 (G : GG) (d : Nat) (h : HP) (Q : Option Value → HP → Prop) (a0 : Nat) (x1 : Int32) (x2 : Int32) (sx0 : Int32) : Prop :=
  Kd G h a0 12 ∧ ((¬ (hI h a0 16) = 12 → ((6 ≤ (hI h a0 16) → Cal G (d - 1) mX12_isWord [.ref a0, .long 2002873972] h (fun r4 h5 => ∃ v7, r4 = some (.int v7) ∧ Ex G d mX12_clauseHere 145 [(0, .ref a0), (1, .int x1), (2, .int x2), (3, .int sx0)] [.int v7] h5 Q)) ∧ (¬ 6 ≤ (hI h a0 16) → Ex G d mX12_clauseHere 145 [(0, .ref a0), (1, .int x1), (2, .int x2), (3, .int sx0)] [.int sx0] h Q))) ∧ ((hI h a0 16) = 12 → Ex G d mX12_clauseHere 145 [(0, .ref a0), (1, .int x1), (2, .int x2), (3, .int sx0)] [.int x2] h Q))
set_option maxRecDepth 20000 in
theorem t_X12_clauseHere_111 {G : GG} {d : Nat} {h : HP} {Q : Option Value → HP → Prop} {a0 : Nat} {x1 : Int32} {x2 : Int32} {sx0 : Int32} (hd1 : 1 ≤ d) (ht : T_X12_clauseHere_111 G d h Q a0 x1 x2 sx0) : Ex G d mX12_clauseHere 111 [(0, .ref a0), (1, .int x1), (2, .int x2)] [.int sx0] h Q := by
  unfold T_X12_clauseHere_111 at ht
  refine x_istore_n (pc2 := 112) [1, 2, 3, 0] (n := 3) (x := sx0) (lv2 := [(0, .ref a0), (1, .int x1), (2, .int x2), (3, .int sx0)]) (by decide) rfl dX12_clauseHere_111 rfl ?_
  refine x_aload_n (pc2 := 113) 0 (n := 0) (x := a0) rfl dX12_clauseHere_112 rfl ?_
  obtain ⟨k1, ht⟩ := ht
  refine y_getI (pc2 := 116) (κ := 12) (k := 16) fl_X12_140 (by decide) (by decide) k1 rfl dX12_clauseHere_113 rfl ?_
  refine x_bipush (pc2 := 118) (v := 12) (by decide) dX12_clauseHere_116 rfl ?_
  refine y_icmp_ne (pc2 := 121) 125 dX12_clauseHere_118 (by decide) rfl (fun c2 => ?_) (fun c2 => ?_)
  · replace ht := ht.1 c2
    refine x_aload_n (pc2 := 126) 0 (n := 0) (x := a0) rfl dX12_clauseHere_125 rfl ?_
    refine y_getI (pc2 := 129) (κ := 12) (k := 16) fl_X12_140 (by decide) (by decide) k1 rfl dX12_clauseHere_126 rfl ?_
    refine x_bipush (pc2 := 131) (v := 6) (by decide) dX12_clauseHere_129 rfl ?_
    refine x_icmp_ge (pc2 := 134) 138 dX12_clauseHere_131 (by decide) rfl (fun c3 => ?_) (fun c3 => ?_)
    · replace ht := ht.1 c3
      refine x_aload_n (pc2 := 139) 0 (n := 0) (x := a0) rfl dX12_clauseHere_138 rfl ?_
      refine x_ldc2 (pc2 := 142) (v := 2002873972) ct_X12_252 dX12_clauseHere_139 rfl ?_
      refine x_callV (pc2 := 145) (As := [.long 2002873972]) (rest := []) (b := a0) mv_X12_isWord ml_X12_95 k1 rfl rfl (Nat.le_of_ble_eq_true rfl) hd1 dX12_clauseHere_142 rfl (ht.mono (fun r4 h5 p6 ht' => ?_))
      clear ht
      obtain ⟨v7, rfl, ht⟩ := ht'
      show Ex G d mX12_clauseHere 145 [(0, .ref a0), (1, .int x1), (2, .int x2), (3, .int sx0)] [.int v7] h5 Q
      exact ht
    · replace ht := ht.2 c3
      refine x_iload_n (pc2 := 135) 3 (n := 3) (x := sx0) rfl dX12_clauseHere_134 rfl ?_
      refine x_goto 145 dX12_clauseHere_135 (by decide) ?_
      exact ht
  · replace ht := ht.2 c2
    refine x_iload_n (pc2 := 122) 2 (n := 2) (x := x2) rfl dX12_clauseHere_121 rfl ?_
    refine x_goto 145 dX12_clauseHere_122 (by decide) ?_
    exact ht
def T_X12_clauseHere_145 (G : GG) (d : Nat) (h : HP) (Q : Option Value → HP → Prop) (a0 : Nat) (x1 : Int32) (x2 : Int32) (x3 : Int32) (sx0 : Int32) : Prop :=
  ((¬ sx0 = 0 → Kd G h a0 12 ∧ ((¬ (hI h a0 16) = 12 → Ex G d mX12_clauseHere 179 [(0, .ref a0), (1, .int x1), (2, .int x2), (3, .int x3), (4, .int sx0)] [.int 12, .int (hI h a0 19)] h Q) ∧ ((hI h a0 16) = 12 → Ex G d mX12_clauseHere 179 [(0, .ref a0), (1, .int x1), (2, .int x2), (3, .int x3), (4, .int sx0)] [.int 24, .int (hI h a0 19)] h Q))) ∧ (sx0 = 0 → Kd G h a0 12 ∧ Cal G (d - 1) mX12_fails [.ref a0, .int 0, .int x1] h (fun r4 h5 => ∃ v8, r4 = some (.int v8) ∧ ((v8 = 0 ∨ v8 = 1) ∧ Q (some (.int v8)) h5))))
set_option maxRecDepth 20000 in
theorem t_X12_clauseHere_145 {G : GG} {d : Nat} {h : HP} {Q : Option Value → HP → Prop} {a0 : Nat} {x1 : Int32} {x2 : Int32} {x3 : Int32} {sx0 : Int32} (hd1 : 1 ≤ d) (ht : T_X12_clauseHere_145 G d h Q a0 x1 x2 x3 sx0) : Ex G d mX12_clauseHere 145 [(0, .ref a0), (1, .int x1), (2, .int x2), (3, .int x3)] [.int sx0] h Q := by
  unfold T_X12_clauseHere_145 at ht
  refine x_istore (pc2 := 147) [1, 2, 3, 4, 0] (n := 4) (x := sx0) (lv2 := [(0, .ref a0), (1, .int x1), (2, .int x2), (3, .int x3), (4, .int sx0)]) (by decide) rfl dX12_clauseHere_145 rfl ?_
  refine x_iload (pc2 := 149) 4 (n := 4) (x := sx0) rfl dX12_clauseHere_147 rfl ?_
  refine y_if_ne (pc2 := 152) 159 dX12_clauseHere_149 (by decide) rfl (fun c1 => ?_) (fun c1 => ?_)
  · replace ht := ht.1 c1
    refine x_aload_n (pc2 := 160) 0 (n := 0) (x := a0) rfl dX12_clauseHere_159 rfl ?_
    obtain ⟨k2, ht⟩ := ht
    refine y_getI (pc2 := 163) (κ := 12) (k := 19) fl_X12_254 (by decide) (by decide) k2 rfl dX12_clauseHere_160 rfl ?_
    refine x_aload_n (pc2 := 164) 0 (n := 0) (x := a0) rfl dX12_clauseHere_163 rfl ?_
    refine y_getI (pc2 := 167) (κ := 12) (k := 16) fl_X12_140 (by decide) (by decide) k2 rfl dX12_clauseHere_164 rfl ?_
    refine x_bipush (pc2 := 169) (v := 12) (by decide) dX12_clauseHere_167 rfl ?_
    refine y_icmp_ne (pc2 := 172) 177 dX12_clauseHere_169 (by decide) rfl (fun c3 => ?_) (fun c3 => ?_)
    · replace ht := ht.1 c3
      refine x_bipush (pc2 := 179) (v := 12) (by decide) dX12_clauseHere_177 rfl ?_
      exact ht
    · replace ht := ht.2 c3
      refine x_bipush (pc2 := 174) (v := 24) (by decide) dX12_clauseHere_172 rfl ?_
      refine x_goto 179 dX12_clauseHere_174 (by decide) ?_
      exact ht
  · replace ht := ht.2 c1
    refine x_aload_n (pc2 := 153) 0 (n := 0) (x := a0) rfl dX12_clauseHere_152 rfl ?_
    refine x_iconst (pc2 := 154) (v := 0) (by decide) dX12_clauseHere_153 rfl ?_
    refine x_iload_n (pc2 := 155) 1 (n := 1) (x := x1) rfl dX12_clauseHere_154 rfl ?_
    obtain ⟨k7, ht⟩ := ht
    refine x_callV (pc2 := 158) (As := [.int 0, .int x1]) (rest := []) (b := a0) mv_X12_fails ml_X12_105 k7 rfl rfl (Nat.le_of_ble_eq_true rfl) hd1 dX12_clauseHere_155 rfl (ht.mono (fun r4 h5 p6 ht' => ?_))
    clear ht
    obtain ⟨v8, rfl, ht⟩ := ht'
    show Ex G d mX12_clauseHere 158 [(0, .ref a0), (1, .int x1), (2, .int x2), (3, .int x3), (4, .int sx0)] [.int v8] h5 Q
    exact x_retZ rfl ht.1 dX12_clauseHere_158 ht.2
def T_X12_clauseHere_179 (G : GG) (d : Nat) (h : HP) (Q : Option Value → HP → Prop) (a0 : Nat) (x1 : Int32) (x2 : Int32) (x3 : Int32) (x4 : Int32) (sx0 : Int32) (sx1 : Int32) : Prop :=
  ((¬ sx0 = sx1 → Kd G h a0 12 ∧ ((¬ (hI (sI h a0 19 ((hI h a0 19) + 1)) a0 16) = 12 → Cal G (d - 1) mX12_isWord [.ref a0, .long 1785686382] (sI h a0 19 ((hI h a0 19) + 1)) (fun r4 h5 => ∃ v7, r4 = some (.int v7) ∧ ((v7 = 0 → Cal G (d - 1) mX12_isWord [.ref a0, .long 7168377] h5 (fun r9 h10 => ∃ v12, r9 = some (.int v12) ∧ ((v12 = 0 → Cal G (d - 1) mX12_isWord [.ref a0, .long 7237492] h10 (fun r14 h15 => ∃ v17, r14 = some (.int v17) ∧ ((v17 = 0 → Cal G (d - 1) mX12_clauseOf [.ref a0, .int 0] h15 (fun r19 h20 => ∃ v22, r19 = some (.int v22) ∧ ((v22 = 0 ∨ v22 = 1) ∧ Q (some (.int v22)) h20))) ∧ (¬ v17 = 0 → Cal G (d - 1) mX12_clauseOf [.ref a0, .int 2] h15 (fun r23 h24 => ∃ v26, r23 = some (.int v26) ∧ ((v26 = 0 ∨ v26 = 1) ∧ Q (some (.int v26)) h24)))))) ∧ (¬ v12 = 0 → Cal G (d - 1) mX12_clauseOf [.ref a0, .int 1] h10 (fun r27 h28 => ∃ v30, r27 = some (.int v30) ∧ ((v30 = 0 ∨ v30 = 1) ∧ Q (some (.int v30)) h28)))))) ∧ (¬ v7 = 0 → Cal G (d - 1) mX12_joins [.ref a0, .int x1] h5 (fun r31 h32 => ∃ v34, r31 = some (.int v34) ∧ ((v34 = 0 ∨ v34 = 1) ∧ Q (some (.int v34)) h32)))))) ∧ ((hI (sI h a0 19 ((hI h a0 19) + 1)) a0 16) = 12 → Cal G (d - 1) mX12_isWord [.ref a0, .long 2003395685] (sI h a0 19 ((hI h a0 19) + 1)) (fun r35 h36 => ∃ v38, r35 = some (.int v38) ∧ ((v38 = 0 → Cal G (d - 1) mX12_isWord [.ref a0, .long 512970880104] h36 (fun r40 h41 => ∃ v43, r40 = some (.int v43) ∧ ((v43 = 0 → Cal G (d - 1) mX12_isWord [.ref a0, .long 491395638642] h41 (fun r45 h46 => ∃ v48, r45 = some (.int v48) ∧ ((v48 = 0 → Cal G (d - 1) mX12_isWord [.ref a0, .long 2003135596] h46 (fun r50 h51 => ∃ v53, r50 = some (.int v53) ∧ ((v53 = 0 → Cal G (d - 1) mX12_isHouseHere [.ref a0, .int x1] h51 (fun r55 h56 => ∃ v58, r55 = some (.int v58) ∧ ((v58 = 0 ∨ v58 = 1) ∧ Q (some (.int v58)) h56))) ∧ (¬ v53 = 0 → Cal G (d - 1) mX12_isWellHere [.ref a0] h51 (fun r59 h60 => ∃ v62, r59 = some (.int v62) ∧ ((v62 = 0 ∨ v62 = 1) ∧ Q (some (.int v62)) h60)))))) ∧ (¬ v48 = 0 → Cal G (d - 1) mX12_isRiverHere [.ref a0] h46 (fun r63 h64 => ∃ v66, r63 = some (.int v66) ∧ ((v66 = 0 ∨ v66 = 1) ∧ Q (some (.int v66)) h64)))))) ∧ (¬ v43 = 0 → Cal G (d - 1) mX12_isWorth [.ref a0] h41 (fun r67 h68 => ∃ v70, r67 = some (.int v70) ∧ ((v70 = 0 ∨ v70 = 1) ∧ Q (some (.int v70)) h68)))))) ∧ (¬ v38 = 0 → Cal G (d - 1) mX12_widens [.ref a0, .int x1] h36 (fun r71 h72 => ∃ v74, r71 = some (.int v74) ∧ ((v74 = 0 ∨ v74 = 1) ∧ Q (some (.int v74)) h72)))))))) ∧ (sx0 = sx1 → Kd G h a0 12 ∧ Cal G (d - 1) mX12_fails [.ref a0, .int 4, .int x1] h (fun r75 h76 => ∃ v79, r75 = some (.int v79) ∧ ((v79 = 0 ∨ v79 = 1) ∧ Q (some (.int v79)) h76))))
set_option maxRecDepth 20000 in
theorem t_X12_clauseHere_179 {G : GG} {d : Nat} {h : HP} {Q : Option Value → HP → Prop} {a0 : Nat} {x1 : Int32} {x2 : Int32} {x3 : Int32} {x4 : Int32} {sx0 : Int32} {sx1 : Int32} (hd1 : 1 ≤ d) (ht : T_X12_clauseHere_179 G d h Q a0 x1 x2 x3 x4 sx0 sx1) : Ex G d mX12_clauseHere 179 [(0, .ref a0), (1, .int x1), (2, .int x2), (3, .int x3), (4, .int x4)] [.int sx1, .int sx0] h Q := by
  unfold T_X12_clauseHere_179 at ht
  refine y_icmp_ne (pc2 := 182) 189 dX12_clauseHere_179 (by decide) rfl (fun c1 => ?_) (fun c1 => ?_)
  · replace ht := ht.1 c1
    refine x_aload_n (pc2 := 190) 0 (n := 0) (x := a0) rfl dX12_clauseHere_189 rfl ?_
    refine x_dup (pc2 := 191) rfl dX12_clauseHere_190 rfl ?_
    obtain ⟨k2, ht⟩ := ht
    refine y_getI (pc2 := 194) (κ := 12) (k := 19) fl_X12_254 (by decide) (by decide) k2 rfl dX12_clauseHere_191 rfl ?_
    refine x_iconst (pc2 := 195) (v := 1) (by decide) dX12_clauseHere_194 rfl ?_
    refine x_iadd (pc2 := 196) dX12_clauseHere_195 rfl ?_
    refine x_putI (pc2 := 199) (κ := 12) (k := 19) fl_X12_254 (by decide) (by decide) (Or.inl rfl) rfl k2 dX12_clauseHere_196 rfl ?_
    refine x_aload_n (pc2 := 200) 0 (n := 0) (x := a0) rfl dX12_clauseHere_199 rfl ?_
    refine y_getI (pc2 := 203) (κ := 12) (k := 16) fl_X12_140 (by decide) (by decide) k2.sI rfl dX12_clauseHere_200 rfl ?_
    refine x_bipush (pc2 := 205) (v := 12) (by decide) dX12_clauseHere_203 rfl ?_
    refine y_icmp_ne (pc2 := 208) 283 dX12_clauseHere_205 (by decide) rfl (fun c3 => ?_) (fun c3 => ?_)
    · replace ht := ht.1 c3
      refine x_aload_n (pc2 := 284) 0 (n := 0) (x := a0) rfl dX12_clauseHere_283 rfl ?_
      refine x_ldc2 (pc2 := 287) (v := 1785686382) ct_X12_250 dX12_clauseHere_284 rfl ?_
      refine x_callV (pc2 := 290) (As := [.long 1785686382]) (rest := []) (b := a0) mv_X12_isWord ml_X12_95 k2.sI rfl rfl (Nat.le_of_ble_eq_true rfl) hd1 dX12_clauseHere_287 rfl (ht.mono (fun r4 h5 p6 ht' => ?_))
      clear ht
      obtain ⟨v7, rfl, ht⟩ := ht'
      show Ex G d mX12_clauseHere 290 [(0, .ref a0), (1, .int x1), (2, .int x2), (3, .int x3), (4, .int x4)] [.int v7] h5 Q
      refine x_if_eq (pc2 := 293) 299 dX12_clauseHere_290 (by decide) rfl (fun c8 => ?_) (fun c8 => ?_)
      · replace ht := ht.1 c8
        refine x_aload_n (pc2 := 300) 0 (n := 0) (x := a0) rfl dX12_clauseHere_299 rfl ?_
        refine x_aload_n (pc2 := 301) 0 (n := 0) (x := a0) rfl dX12_clauseHere_300 rfl ?_
        refine x_ldc2 (pc2 := 304) (v := 7168377) ct_X12_248 dX12_clauseHere_301 rfl ?_
        refine x_callV (pc2 := 307) (As := [.long 7168377]) (rest := [.ref a0]) (b := a0) mv_X12_isWord ml_X12_95 (k2.sI.up p6) rfl rfl (Nat.le_of_ble_eq_true rfl) hd1 dX12_clauseHere_304 rfl (ht.mono (fun r9 h10 p11 ht' => ?_))
        clear ht
        obtain ⟨v12, rfl, ht⟩ := ht'
        show Ex G d mX12_clauseHere 307 [(0, .ref a0), (1, .int x1), (2, .int x2), (3, .int x3), (4, .int x4)] [.int v12, .ref a0] h10 Q
        refine x_if_eq (pc2 := 310) 314 dX12_clauseHere_307 (by decide) rfl (fun c13 => ?_) (fun c13 => ?_)
        · replace ht := ht.1 c13
          refine x_aload_n (pc2 := 315) 0 (n := 0) (x := a0) rfl dX12_clauseHere_314 rfl ?_
          refine x_ldc2 (pc2 := 318) (v := 7237492) ct_X12_180 dX12_clauseHere_315 rfl ?_
          refine x_callV (pc2 := 321) (As := [.long 7237492]) (rest := [.ref a0]) (b := a0) mv_X12_isWord ml_X12_95 ((k2.sI.up p6).up p11) rfl rfl (Nat.le_of_ble_eq_true rfl) hd1 dX12_clauseHere_318 rfl (ht.mono (fun r14 h15 p16 ht' => ?_))
          clear ht
          obtain ⟨v17, rfl, ht⟩ := ht'
          show Ex G d mX12_clauseHere 321 [(0, .ref a0), (1, .int x1), (2, .int x2), (3, .int x3), (4, .int x4)] [.int v17, .ref a0] h15 Q
          refine x_if_eq (pc2 := 324) 328 dX12_clauseHere_321 (by decide) rfl (fun c18 => ?_) (fun c18 => ?_)
          · replace ht := ht.1 c18
            refine x_iconst (pc2 := 329) (v := 0) (by decide) dX12_clauseHere_328 rfl ?_
            refine x_callV (pc2 := 332) (As := [.int 0]) (rest := []) (b := a0) mv_X12_clauseOf ml_X12_275 (((k2.sI.up p6).up p11).up p16) rfl rfl (Nat.le_of_ble_eq_true rfl) hd1 dX12_clauseHere_329 rfl (ht.mono (fun r19 h20 p21 ht' => ?_))
            clear ht
            obtain ⟨v22, rfl, ht⟩ := ht'
            show Ex G d mX12_clauseHere 332 [(0, .ref a0), (1, .int x1), (2, .int x2), (3, .int x3), (4, .int x4)] [.int v22] h20 Q
            exact x_retZ rfl ht.1 dX12_clauseHere_332 ht.2
          · replace ht := ht.2 c18
            refine x_iconst (pc2 := 325) (v := 2) (by decide) dX12_clauseHere_324 rfl ?_
            refine x_goto 329 dX12_clauseHere_325 (by decide) ?_
            refine x_callV (pc2 := 332) (As := [.int 2]) (rest := []) (b := a0) mv_X12_clauseOf ml_X12_275 (((k2.sI.up p6).up p11).up p16) rfl rfl (Nat.le_of_ble_eq_true rfl) hd1 dX12_clauseHere_329 rfl (ht.mono (fun r23 h24 p25 ht' => ?_))
            clear ht
            obtain ⟨v26, rfl, ht⟩ := ht'
            show Ex G d mX12_clauseHere 332 [(0, .ref a0), (1, .int x1), (2, .int x2), (3, .int x3), (4, .int x4)] [.int v26] h24 Q
            exact x_retZ rfl ht.1 dX12_clauseHere_332 ht.2
        · replace ht := ht.2 c13
          refine x_iconst (pc2 := 311) (v := 1) (by decide) dX12_clauseHere_310 rfl ?_
          refine x_goto 329 dX12_clauseHere_311 (by decide) ?_
          refine x_callV (pc2 := 332) (As := [.int 1]) (rest := []) (b := a0) mv_X12_clauseOf ml_X12_275 ((k2.sI.up p6).up p11) rfl rfl (Nat.le_of_ble_eq_true rfl) hd1 dX12_clauseHere_329 rfl (ht.mono (fun r27 h28 p29 ht' => ?_))
          clear ht
          obtain ⟨v30, rfl, ht⟩ := ht'
          show Ex G d mX12_clauseHere 332 [(0, .ref a0), (1, .int x1), (2, .int x2), (3, .int x3), (4, .int x4)] [.int v30] h28 Q
          exact x_retZ rfl ht.1 dX12_clauseHere_332 ht.2
      · replace ht := ht.2 c8
        refine x_aload_n (pc2 := 294) 0 (n := 0) (x := a0) rfl dX12_clauseHere_293 rfl ?_
        refine x_iload_n (pc2 := 295) 1 (n := 1) (x := x1) rfl dX12_clauseHere_294 rfl ?_
        refine x_callV (pc2 := 298) (As := [.int x1]) (rest := []) (b := a0) mv_X12_joins ml_X12_272 (k2.sI.up p6) rfl rfl (Nat.le_of_ble_eq_true rfl) hd1 dX12_clauseHere_295 rfl (ht.mono (fun r31 h32 p33 ht' => ?_))
        clear ht
        obtain ⟨v34, rfl, ht⟩ := ht'
        show Ex G d mX12_clauseHere 298 [(0, .ref a0), (1, .int x1), (2, .int x2), (3, .int x3), (4, .int x4)] [.int v34] h32 Q
        exact x_retZ rfl ht.1 dX12_clauseHere_298 ht.2
    · replace ht := ht.2 c3
      refine x_aload_n (pc2 := 209) 0 (n := 0) (x := a0) rfl dX12_clauseHere_208 rfl ?_
      refine x_ldc2 (pc2 := 212) (v := 2003395685) ct_X12_240 dX12_clauseHere_209 rfl ?_
      refine x_callV (pc2 := 215) (As := [.long 2003395685]) (rest := []) (b := a0) mv_X12_isWord ml_X12_95 k2.sI rfl rfl (Nat.le_of_ble_eq_true rfl) hd1 dX12_clauseHere_212 rfl (ht.mono (fun r35 h36 p37 ht' => ?_))
      clear ht
      obtain ⟨v38, rfl, ht⟩ := ht'
      show Ex G d mX12_clauseHere 215 [(0, .ref a0), (1, .int x1), (2, .int x2), (3, .int x3), (4, .int x4)] [.int v38] h36 Q
      refine x_if_eq (pc2 := 218) 226 dX12_clauseHere_215 (by decide) rfl (fun c39 => ?_) (fun c39 => ?_)
      · replace ht := ht.1 c39
        refine x_aload_n (pc2 := 227) 0 (n := 0) (x := a0) rfl dX12_clauseHere_226 rfl ?_
        refine x_ldc2 (pc2 := 230) (v := 512970880104) ct_X12_124 dX12_clauseHere_227 rfl ?_
        refine x_callV (pc2 := 233) (As := [.long 512970880104]) (rest := []) (b := a0) mv_X12_isWord ml_X12_95 (k2.sI.up p37) rfl rfl (Nat.le_of_ble_eq_true rfl) hd1 dX12_clauseHere_230 rfl (ht.mono (fun r40 h41 p42 ht' => ?_))
        clear ht
        obtain ⟨v43, rfl, ht⟩ := ht'
        show Ex G d mX12_clauseHere 233 [(0, .ref a0), (1, .int x1), (2, .int x2), (3, .int x3), (4, .int x4)] [.int v43] h41 Q
        refine x_if_eq (pc2 := 236) 243 dX12_clauseHere_233 (by decide) rfl (fun c44 => ?_) (fun c44 => ?_)
        · replace ht := ht.1 c44
          refine x_aload_n (pc2 := 244) 0 (n := 0) (x := a0) rfl dX12_clauseHere_243 rfl ?_
          refine x_ldc2 (pc2 := 247) (v := 491395638642) ct_X12_128 dX12_clauseHere_244 rfl ?_
          refine x_callV (pc2 := 250) (As := [.long 491395638642]) (rest := []) (b := a0) mv_X12_isWord ml_X12_95 ((k2.sI.up p37).up p42) rfl rfl (Nat.le_of_ble_eq_true rfl) hd1 dX12_clauseHere_247 rfl (ht.mono (fun r45 h46 p47 ht' => ?_))
          clear ht
          obtain ⟨v48, rfl, ht⟩ := ht'
          show Ex G d mX12_clauseHere 250 [(0, .ref a0), (1, .int x1), (2, .int x2), (3, .int x3), (4, .int x4)] [.int v48] h46 Q
          refine x_if_eq (pc2 := 253) 260 dX12_clauseHere_250 (by decide) rfl (fun c49 => ?_) (fun c49 => ?_)
          · replace ht := ht.1 c49
            refine x_aload_n (pc2 := 261) 0 (n := 0) (x := a0) rfl dX12_clauseHere_260 rfl ?_
            refine x_ldc2 (pc2 := 264) (v := 2003135596) ct_X12_242 dX12_clauseHere_261 rfl ?_
            refine x_callV (pc2 := 267) (As := [.long 2003135596]) (rest := []) (b := a0) mv_X12_isWord ml_X12_95 (((k2.sI.up p37).up p42).up p47) rfl rfl (Nat.le_of_ble_eq_true rfl) hd1 dX12_clauseHere_264 rfl (ht.mono (fun r50 h51 p52 ht' => ?_))
            clear ht
            obtain ⟨v53, rfl, ht⟩ := ht'
            show Ex G d mX12_clauseHere 267 [(0, .ref a0), (1, .int x1), (2, .int x2), (3, .int x3), (4, .int x4)] [.int v53] h51 Q
            refine x_if_eq (pc2 := 270) 277 dX12_clauseHere_267 (by decide) rfl (fun c54 => ?_) (fun c54 => ?_)
            · replace ht := ht.1 c54
              refine x_aload_n (pc2 := 278) 0 (n := 0) (x := a0) rfl dX12_clauseHere_277 rfl ?_
              refine x_iload_n (pc2 := 279) 1 (n := 1) (x := x1) rfl dX12_clauseHere_278 rfl ?_
              refine x_callV (pc2 := 282) (As := [.int x1]) (rest := []) (b := a0) mv_X12_isHouseHere ml_X12_269 ((((k2.sI.up p37).up p42).up p47).up p52) rfl rfl (Nat.le_of_ble_eq_true rfl) hd1 dX12_clauseHere_279 rfl (ht.mono (fun r55 h56 p57 ht' => ?_))
              clear ht
              obtain ⟨v58, rfl, ht⟩ := ht'
              show Ex G d mX12_clauseHere 282 [(0, .ref a0), (1, .int x1), (2, .int x2), (3, .int x3), (4, .int x4)] [.int v58] h56 Q
              exact x_retZ rfl ht.1 dX12_clauseHere_282 ht.2
            · replace ht := ht.2 c54
              refine x_aload_n (pc2 := 271) 0 (n := 0) (x := a0) rfl dX12_clauseHere_270 rfl ?_
              refine x_callV (pc2 := 274) (As := []) (rest := []) (b := a0) mv_X12_isWellHere ml_X12_266 ((((k2.sI.up p37).up p42).up p47).up p52) rfl rfl (Nat.le_of_ble_eq_true rfl) hd1 dX12_clauseHere_271 rfl (ht.mono (fun r59 h60 p61 ht' => ?_))
              clear ht
              obtain ⟨v62, rfl, ht⟩ := ht'
              show Ex G d mX12_clauseHere 274 [(0, .ref a0), (1, .int x1), (2, .int x2), (3, .int x3), (4, .int x4)] [.int v62] h60 Q
              refine x_goto 282 dX12_clauseHere_274 (by decide) ?_
              exact x_retZ rfl ht.1 dX12_clauseHere_282 ht.2
          · replace ht := ht.2 c49
            refine x_aload_n (pc2 := 254) 0 (n := 0) (x := a0) rfl dX12_clauseHere_253 rfl ?_
            refine x_callV (pc2 := 257) (As := []) (rest := []) (b := a0) mv_X12_isRiverHere ml_X12_263 (((k2.sI.up p37).up p42).up p47) rfl rfl (Nat.le_of_ble_eq_true rfl) hd1 dX12_clauseHere_254 rfl (ht.mono (fun r63 h64 p65 ht' => ?_))
            clear ht
            obtain ⟨v66, rfl, ht⟩ := ht'
            show Ex G d mX12_clauseHere 257 [(0, .ref a0), (1, .int x1), (2, .int x2), (3, .int x3), (4, .int x4)] [.int v66] h64 Q
            refine x_goto 282 dX12_clauseHere_257 (by decide) ?_
            exact x_retZ rfl ht.1 dX12_clauseHere_282 ht.2
        · replace ht := ht.2 c44
          refine x_aload_n (pc2 := 237) 0 (n := 0) (x := a0) rfl dX12_clauseHere_236 rfl ?_
          refine x_callV (pc2 := 240) (As := []) (rest := []) (b := a0) mv_X12_isWorth ml_X12_260 ((k2.sI.up p37).up p42) rfl rfl (Nat.le_of_ble_eq_true rfl) hd1 dX12_clauseHere_237 rfl (ht.mono (fun r67 h68 p69 ht' => ?_))
          clear ht
          obtain ⟨v70, rfl, ht⟩ := ht'
          show Ex G d mX12_clauseHere 240 [(0, .ref a0), (1, .int x1), (2, .int x2), (3, .int x3), (4, .int x4)] [.int v70] h68 Q
          refine x_goto 282 dX12_clauseHere_240 (by decide) ?_
          exact x_retZ rfl ht.1 dX12_clauseHere_282 ht.2
      · replace ht := ht.2 c39
        refine x_aload_n (pc2 := 219) 0 (n := 0) (x := a0) rfl dX12_clauseHere_218 rfl ?_
        refine x_iload_n (pc2 := 220) 1 (n := 1) (x := x1) rfl dX12_clauseHere_219 rfl ?_
        refine x_callV (pc2 := 223) (As := [.int x1]) (rest := []) (b := a0) mv_X12_widens ml_X12_257 (k2.sI.up p37) rfl rfl (Nat.le_of_ble_eq_true rfl) hd1 dX12_clauseHere_220 rfl (ht.mono (fun r71 h72 p73 ht' => ?_))
        clear ht
        obtain ⟨v74, rfl, ht⟩ := ht'
        show Ex G d mX12_clauseHere 223 [(0, .ref a0), (1, .int x1), (2, .int x2), (3, .int x3), (4, .int x4)] [.int v74] h72 Q
        refine x_goto 282 dX12_clauseHere_223 (by decide) ?_
        exact x_retZ rfl ht.1 dX12_clauseHere_282 ht.2
  · replace ht := ht.2 c1
    refine x_aload_n (pc2 := 183) 0 (n := 0) (x := a0) rfl dX12_clauseHere_182 rfl ?_
    refine x_iconst (pc2 := 184) (v := 4) (by decide) dX12_clauseHere_183 rfl ?_
    refine x_iload_n (pc2 := 185) 1 (n := 1) (x := x1) rfl dX12_clauseHere_184 rfl ?_
    obtain ⟨k78, ht⟩ := ht
    refine x_callV (pc2 := 188) (As := [.int 4, .int x1]) (rest := []) (b := a0) mv_X12_fails ml_X12_105 k78 rfl rfl (Nat.le_of_ble_eq_true rfl) hd1 dX12_clauseHere_185 rfl (ht.mono (fun r75 h76 p77 ht' => ?_))
    clear ht
    obtain ⟨v79, rfl, ht⟩ := ht'
    show Ex G d mX12_clauseHere 188 [(0, .ref a0), (1, .int x1), (2, .int x2), (3, .int x3), (4, .int x4)] [.int v79] h76 Q
    exact x_retZ rfl ht.1 dX12_clauseHere_188 ht.2
def T_X12_readsAll (G : GG) (d : Nat) (h : HP) (Q : Option Value → HP → Prop) (a0 : Nat) : Prop :=
  Kd G h a0 12 ∧ ∃ q2, hR h a0 4 = some q2 ∧ Kd G h q2 14 ∧ vp_in (hI h a0 16) (hN h q2) ∧ Cal G (d - 1) mX12_clauseHere [.ref a0] (sI (sI (sI (sI (sI h q2 (hI h a0 16).toNatClampNeg 0) a0 19 0) a0 13 0) a0 14 0) a0 17 0) (fun r6 h7 => ∃ v9, r6 = some (.int v9) ∧ Ex G d mX12_readsAll 35 [(0, .ref a0), (1, .int v9)] [] h7 Q)
set_option maxRecDepth 20000 in
theorem t_X12_readsAll {G : GG} {d : Nat} {h : HP} {Q : Option Value → HP → Prop} {a0 : Nat} (hd1 : 1 ≤ d) (ht : T_X12_readsAll G d h Q a0) : Ex G d mX12_readsAll 0 [(0, .ref a0)] [] h Q := by
  unfold T_X12_readsAll at ht
  refine x_aload_n (pc2 := 1) 0 (n := 0) (x := a0) rfl dX12_readsAll_0 rfl ?_
  obtain ⟨k1, ht⟩ := ht
  obtain ⟨q2, e3, ht⟩ := ht
  refine y_getR (pc2 := 4) (κ := 12) (k := 4) fl_X12_20 (by decide) (by decide) k1 rfl e3 dX12_readsAll_1 rfl ?_
  refine x_aload_n (pc2 := 5) 0 (n := 0) (x := a0) rfl dX12_readsAll_4 rfl ?_
  refine y_getI (pc2 := 8) (κ := 12) (k := 16) fl_X12_140 (by decide) (by decide) k1 rfl dX12_readsAll_5 rfl ?_
  refine x_iconst (pc2 := 9) (v := 0) (by decide) dX12_readsAll_8 rfl ?_
  obtain ⟨k4, ht⟩ := ht
  obtain ⟨b5, ht⟩ := ht
  refine x_iast (pc2 := 10) k4 b5 dX12_readsAll_9 rfl ?_
  refine x_aload_n (pc2 := 11) 0 (n := 0) (x := a0) rfl dX12_readsAll_10 rfl ?_
  refine x_iconst (pc2 := 12) (v := 0) (by decide) dX12_readsAll_11 rfl ?_
  refine x_putI (pc2 := 15) (κ := 12) (k := 19) fl_X12_254 (by decide) (by decide) (Or.inl rfl) rfl k1.sI dX12_readsAll_12 rfl ?_
  refine x_aload_n (pc2 := 16) 0 (n := 0) (x := a0) rfl dX12_readsAll_15 rfl ?_
  refine x_iconst (pc2 := 17) (v := 0) (by decide) dX12_readsAll_16 rfl ?_
  refine x_putI (pc2 := 20) (κ := 12) (k := 13) fl_X12_84 (by decide) (by decide) (Or.inl rfl) rfl k1.sI.sI dX12_readsAll_17 rfl ?_
  refine x_aload_n (pc2 := 21) 0 (n := 0) (x := a0) rfl dX12_readsAll_20 rfl ?_
  refine x_iconst (pc2 := 22) (v := 0) (by decide) dX12_readsAll_21 rfl ?_
  refine x_putI (pc2 := 25) (κ := 12) (k := 14) fl_X12_81 (by decide) (by decide) (Or.inl rfl) rfl k1.sI.sI.sI dX12_readsAll_22 rfl ?_
  refine x_aload_n (pc2 := 26) 0 (n := 0) (x := a0) rfl dX12_readsAll_25 rfl ?_
  refine x_iconst (pc2 := 27) (v := 0) (by decide) dX12_readsAll_26 rfl ?_
  refine x_putI (pc2 := 30) (κ := 12) (k := 17) fl_X12_143 (by decide) (by decide) (Or.inl rfl) rfl k1.sI.sI.sI.sI dX12_readsAll_27 rfl ?_
  refine x_aload_n (pc2 := 31) 0 (n := 0) (x := a0) rfl dX12_readsAll_30 rfl ?_
  refine x_callV (pc2 := 34) (As := []) (rest := []) (b := a0) mv_X12_clauseHere ml_X12_278 k1.sI.sI.sI.sI.sI rfl rfl (Nat.le_of_ble_eq_true rfl) hd1 dX12_readsAll_31 rfl (ht.mono (fun r6 h7 p8 ht' => ?_))
  clear ht
  obtain ⟨v9, rfl, ht⟩ := ht'
  show Ex G d mX12_readsAll 34 [(0, .ref a0)] [.int v9] h7 Q
  refine x_istore_n (pc2 := 35) [1, 0] (n := 1) (x := v9) (lv2 := [(0, .ref a0), (1, .int v9)]) (by decide) rfl dX12_readsAll_34 rfl ?_
  exact ht
theorem e_X12_readsAll {G : GG} {d : Nat} {h : HP} {Q : Option Value → HP → Prop} {a0 : Nat} (hd1 : 1 ≤ d) (ht : T_X12_readsAll G d h Q a0) : Cal G d mX12_readsAll [.ref a0] h Q := cal_of rfl (Nat.le_of_ble_eq_true rfl) (t_X12_readsAll hd1 ht)
def T_X12_readsAll_35 (G : GG) (d : Nat) (h : HP) (Q : Option Value → HP → Prop) (a0 : Nat) (x1 : Int32) : Prop :=
  ((x1 = 0 → Ex G d mX12_readsAll 66 [(0, .ref a0), (1, .int x1)] [] h Q) ∧ (¬ x1 = 0 → Kd G h a0 12 ∧ Cal G (d - 1) mX12_see [.ref a0] h (fun r2 h3 => ∃ v6, r2 = some (.int v6) ∧ ((¬ v6 = 59 → Ex G d mX12_readsAll 66 [(0, .ref a0), (1, .int x1)] [] h3 Q) ∧ (v6 = 59 → Cal G (d - 1) mX12_clauseHere [.ref a0] (sI h3 a0 13 ((hI h3 a0 13) + 1)) (fun r8 h9 => ∃ v11, r8 = some (.int v11) ∧ Ex G d mX12_readsAll 35 [(0, .ref a0), (1, .int v11)] [] h9 Q))))))
set_option maxRecDepth 20000 in
theorem t_X12_readsAll_35 {G : GG} {d : Nat} {h : HP} {Q : Option Value → HP → Prop} {a0 : Nat} {x1 : Int32} (hd1 : 1 ≤ d) (ht : T_X12_readsAll_35 G d h Q a0 x1) : Ex G d mX12_readsAll 35 [(0, .ref a0), (1, .int x1)] [] h Q := by
  unfold T_X12_readsAll_35 at ht
  refine x_iload_n (pc2 := 36) 1 (n := 1) (x := x1) rfl dX12_readsAll_35 rfl ?_
  refine x_if_eq (pc2 := 39) 66 dX12_readsAll_36 (by decide) rfl (fun c1 => ?_) (fun c1 => ?_)
  · replace ht := ht.1 c1
    exact ht
  · replace ht := ht.2 c1
    refine x_aload_n (pc2 := 40) 0 (n := 0) (x := a0) rfl dX12_readsAll_39 rfl ?_
    obtain ⟨k5, ht⟩ := ht
    refine x_callV (pc2 := 43) (As := []) (rest := []) (b := a0) mv_X12_see ml_X12_87 k5 rfl rfl (Nat.le_of_ble_eq_true rfl) hd1 dX12_readsAll_40 rfl (ht.mono (fun r2 h3 p4 ht' => ?_))
    clear ht
    obtain ⟨v6, rfl, ht⟩ := ht'
    show Ex G d mX12_readsAll 43 [(0, .ref a0), (1, .int x1)] [.int v6] h3 Q
    refine x_bipush (pc2 := 45) (v := 59) (by decide) dX12_readsAll_43 rfl ?_
    refine y_icmp_ne (pc2 := 48) 66 dX12_readsAll_45 (by decide) rfl (fun c7 => ?_) (fun c7 => ?_)
    · replace ht := ht.1 c7
      exact ht
    · replace ht := ht.2 c7
      refine x_aload_n (pc2 := 49) 0 (n := 0) (x := a0) rfl dX12_readsAll_48 rfl ?_
      refine x_dup (pc2 := 50) rfl dX12_readsAll_49 rfl ?_
      refine y_getI (pc2 := 53) (κ := 12) (k := 13) fl_X12_84 (by decide) (by decide) (k5.up p4) rfl dX12_readsAll_50 rfl ?_
      refine x_iconst (pc2 := 54) (v := 1) (by decide) dX12_readsAll_53 rfl ?_
      refine x_iadd (pc2 := 55) dX12_readsAll_54 rfl ?_
      refine x_putI (pc2 := 58) (κ := 12) (k := 13) fl_X12_84 (by decide) (by decide) (Or.inl rfl) rfl (k5.up p4) dX12_readsAll_55 rfl ?_
      refine x_aload_n (pc2 := 59) 0 (n := 0) (x := a0) rfl dX12_readsAll_58 rfl ?_
      refine x_callV (pc2 := 62) (As := []) (rest := []) (b := a0) mv_X12_clauseHere ml_X12_278 (k5.up p4).sI rfl rfl (Nat.le_of_ble_eq_true rfl) hd1 dX12_readsAll_59 rfl (ht.mono (fun r8 h9 p10 ht' => ?_))
      clear ht
      obtain ⟨v11, rfl, ht⟩ := ht'
      show Ex G d mX12_readsAll 62 [(0, .ref a0), (1, .int x1)] [.int v11] h9 Q
      refine x_istore_n (pc2 := 63) [1, 0] (n := 1) (x := v11) (lv2 := [(0, .ref a0), (1, .int v11)]) (by decide) rfl dX12_readsAll_62 rfl ?_
      refine x_goto 35 dX12_readsAll_63 (by decide) ?_
      exact ht
def T_X12_readsAll_66 (G : GG) (d : Nat) (h : HP) (Q : Option Value → HP → Prop) (a0 : Nat) (x1 : Int32) : Prop :=
  ((x1 = 0 → Kd G h a0 12 ∧ ((¬ (hI h a0 14) = 0 → Q (some (.int 0)) h) ∧ ((hI h a0 14) = 0 → Q (some (.int 1)) h))) ∧ (¬ x1 = 0 → Kd G h a0 12 ∧ Cal G (d - 1) mX12_see [.ref a0] h (fun r4 h5 => ∃ v8, r4 = some (.int v8) ∧ ((v8 = (-1) → ((¬ (hI h5 a0 14) = 0 → Q (some (.int 0)) h5) ∧ ((hI h5 a0 14) = 0 → Q (some (.int 1)) h5))) ∧ (¬ v8 = (-1) → Cal G (d - 1) mX12_fails [.ref a0, .int 0, .int (hI h5 a0 13)] h5 (fun r11 h12 => ∃ v14, r11 = some (.int v14) ∧ ((¬ (hI h12 a0 14) = 0 → Q (some (.int 0)) h12) ∧ ((hI h12 a0 14) = 0 → Q (some (.int 1)) h12))))))))
set_option maxRecDepth 20000 in
theorem t_X12_readsAll_66 {G : GG} {d : Nat} {h : HP} {Q : Option Value → HP → Prop} {a0 : Nat} {x1 : Int32} (hd1 : 1 ≤ d) (ht : T_X12_readsAll_66 G d h Q a0 x1) : Ex G d mX12_readsAll 66 [(0, .ref a0), (1, .int x1)] [] h Q := by
  unfold T_X12_readsAll_66 at ht
  refine x_iload_n (pc2 := 67) 1 (n := 1) (x := x1) rfl dX12_readsAll_66 rfl ?_
  refine x_if_eq (pc2 := 70) 88 dX12_readsAll_67 (by decide) rfl (fun c1 => ?_) (fun c1 => ?_)
  · replace ht := ht.1 c1
    refine x_aload_n (pc2 := 89) 0 (n := 0) (x := a0) rfl dX12_readsAll_88 rfl ?_
    obtain ⟨k2, ht⟩ := ht
    refine y_getI (pc2 := 92) (κ := 12) (k := 14) fl_X12_81 (by decide) (by decide) k2 rfl dX12_readsAll_89 rfl ?_
    refine y_if_ne (pc2 := 95) 99 dX12_readsAll_92 (by decide) rfl (fun c3 => ?_) (fun c3 => ?_)
    · replace ht := ht.1 c3
      refine x_iconst (pc2 := 100) (v := 0) (by decide) dX12_readsAll_99 rfl ?_
      exact x_retZ rfl (Or.inl rfl) dX12_readsAll_100 ht
    · replace ht := ht.2 c3
      refine x_iconst (pc2 := 96) (v := 1) (by decide) dX12_readsAll_95 rfl ?_
      refine x_goto 100 dX12_readsAll_96 (by decide) ?_
      exact x_retZ rfl (Or.inr rfl) dX12_readsAll_100 ht
  · replace ht := ht.2 c1
    refine x_aload_n (pc2 := 71) 0 (n := 0) (x := a0) rfl dX12_readsAll_70 rfl ?_
    obtain ⟨k7, ht⟩ := ht
    refine x_callV (pc2 := 74) (As := []) (rest := []) (b := a0) mv_X12_see ml_X12_87 k7 rfl rfl (Nat.le_of_ble_eq_true rfl) hd1 dX12_readsAll_71 rfl (ht.mono (fun r4 h5 p6 ht' => ?_))
    clear ht
    obtain ⟨v8, rfl, ht⟩ := ht'
    show Ex G d mX12_readsAll 74 [(0, .ref a0), (1, .int x1)] [.int v8] h5 Q
    refine x_iconst (pc2 := 75) (v := (-1)) (by decide) dX12_readsAll_74 rfl ?_
    refine x_icmp_eq (pc2 := 78) 88 dX12_readsAll_75 (by decide) rfl (fun c9 => ?_) (fun c9 => ?_)
    · replace ht := ht.1 c9
      refine x_aload_n (pc2 := 89) 0 (n := 0) (x := a0) rfl dX12_readsAll_88 rfl ?_
      refine y_getI (pc2 := 92) (κ := 12) (k := 14) fl_X12_81 (by decide) (by decide) (k7.up p6) rfl dX12_readsAll_89 rfl ?_
      refine y_if_ne (pc2 := 95) 99 dX12_readsAll_92 (by decide) rfl (fun c10 => ?_) (fun c10 => ?_)
      · replace ht := ht.1 c10
        refine x_iconst (pc2 := 100) (v := 0) (by decide) dX12_readsAll_99 rfl ?_
        exact x_retZ rfl (Or.inl rfl) dX12_readsAll_100 ht
      · replace ht := ht.2 c10
        refine x_iconst (pc2 := 96) (v := 1) (by decide) dX12_readsAll_95 rfl ?_
        refine x_goto 100 dX12_readsAll_96 (by decide) ?_
        exact x_retZ rfl (Or.inr rfl) dX12_readsAll_100 ht
    · replace ht := ht.2 c9
      refine x_aload_n (pc2 := 79) 0 (n := 0) (x := a0) rfl dX12_readsAll_78 rfl ?_
      refine x_iconst (pc2 := 80) (v := 0) (by decide) dX12_readsAll_79 rfl ?_
      refine x_aload_n (pc2 := 81) 0 (n := 0) (x := a0) rfl dX12_readsAll_80 rfl ?_
      refine y_getI (pc2 := 84) (κ := 12) (k := 13) fl_X12_84 (by decide) (by decide) (k7.up p6) rfl dX12_readsAll_81 rfl ?_
      refine x_callV (pc2 := 87) (As := [.int 0, .int (hI h5 a0 13)]) (rest := []) (b := a0) mv_X12_fails ml_X12_105 (k7.up p6) rfl rfl (Nat.le_of_ble_eq_true rfl) hd1 dX12_readsAll_84 rfl (ht.mono (fun r11 h12 p13 ht' => ?_))
      clear ht
      obtain ⟨v14, rfl, ht⟩ := ht'
      show Ex G d mX12_readsAll 87 [(0, .ref a0), (1, .int x1)] [.int v14] h12 Q
      refine x_pop (pc2 := 88) rfl dX12_readsAll_87 rfl ?_
      refine x_aload_n (pc2 := 89) 0 (n := 0) (x := a0) rfl dX12_readsAll_88 rfl ?_
      refine y_getI (pc2 := 92) (κ := 12) (k := 14) fl_X12_81 (by decide) (by decide) ((k7.up p6).up p13) rfl dX12_readsAll_89 rfl ?_
      refine y_if_ne (pc2 := 95) 99 dX12_readsAll_92 (by decide) rfl (fun c15 => ?_) (fun c15 => ?_)
      · replace ht := ht.1 c15
        refine x_iconst (pc2 := 100) (v := 0) (by decide) dX12_readsAll_99 rfl ?_
        exact x_retZ rfl (Or.inl rfl) dX12_readsAll_100 ht
      · replace ht := ht.2 c15
        refine x_iconst (pc2 := 96) (v := 1) (by decide) dX12_readsAll_95 rfl ?_
        refine x_goto 100 dX12_readsAll_96 (by decide) ?_
        exact x_retZ rfl (Or.inr rfl) dX12_readsAll_100 ht
def T_X12_text (G : GG) (d : Nat) (h : HP) (Q : Option Value → HP → Prop) (a0 : Nat) (x1 : Int32) : Prop :=
  Cal G (d - 1) mX12_in [.long (x1.toInt64), .long 0, .long 1] h (fun r1 h2 => ∃ v4, r1 = some (.int v4) ∧ ((v4 = 0 → Q (some (.int (-1))) h2) ∧ (¬ v4 = 0 → Kd G h2 a0 12 ∧ ∃ q7, hR h2 a0 2 = some q7 ∧ Kd G h2 q7 14 ∧ vp_in x1 (hN h2 q7) ∧ ((¬ (hI h2 q7 x1.toNatClampNeg) = 6 → vp_in x1 (hN h2 q7) ∧ ∃ q13, hR (sI h2 a0 16 ((6 * x1) + (hI h2 q7 x1.toNatClampNeg))) a0 6 = some q13 ∧ Kd G (sI h2 a0 16 ((6 * x1) + (hI h2 q7 x1.toNatClampNeg))) q13 14 ∧ vp_in (hI (sI h2 a0 16 ((6 * x1) + (hI h2 q7 x1.toNatClampNeg))) a0 16) (hN (sI h2 a0 16 ((6 * x1) + (hI h2 q7 x1.toNatClampNeg))) q13) ∧ ∀ h17, h17 = (sI (sI h2 a0 16 ((6 * x1) + (hI h2 q7 x1.toNatClampNeg))) q13 (hI (sI h2 a0 16 ((6 * x1) + (hI h2 q7 x1.toNatClampNeg))) a0 16).toNatClampNeg 0) → ∃ q20, hR h17 a0 7 = some q20 ∧ Kd G h17 q20 14 ∧ vp_in (hI h17 a0 16) (hN h17 q20) ∧ Cal G (d - 1) mX12_readsAll [.ref a0] (sI h17 q20 (hI h17 a0 16).toNatClampNeg (-1)) (fun r24 h25 => ∃ v27, r24 = some (.int v27) ∧ ((¬ v27 = 0 → ∃ q29, hR (sI h25 a0 1 0) a0 2 = some q29 ∧ Kd G (sI h25 a0 1 0) q29 14 ∧ vp_in x1 (hN (sI h25 a0 1 0) q29) ∧ vp_in x1 (hN (sI h25 a0 1 0) q29) ∧ vp_in x1 (hN (sI (sI h25 a0 1 0) q29 x1.toNatClampNeg ((hI (sI h25 a0 1 0) q29 x1.toNatClampNeg) + 1)) q29) ∧ Q (some (.int ((hI (sI (sI h25 a0 1 0) q29 x1.toNatClampNeg ((hI (sI h25 a0 1 0) q29 x1.toNatClampNeg) + 1)) q29 x1.toNatClampNeg) - 1))) (sI (sI h25 a0 1 0) q29 x1.toNatClampNeg ((hI (sI h25 a0 1 0) q29 x1.toNatClampNeg) + 1))) ∧ (v27 = 0 → Q (some (.int ((-2) - (hI (sI h25 a0 1 0) a0 14)))) (sI h25 a0 1 0))))) ∧ ((hI h2 q7 x1.toNatClampNeg) = 6 → Q (some (.int (-1))) h2)))))
set_option maxRecDepth 20000 in
theorem t_X12_text {G : GG} {d : Nat} {h : HP} {Q : Option Value → HP → Prop} {a0 : Nat} {x1 : Int32} (hd1 : 1 ≤ d) (ht : T_X12_text G d h Q a0 x1) : Ex G d mX12_text 0 [(0, .ref a0), (1, .int x1)] [] h Q := by
  unfold T_X12_text at ht
  refine x_iload_n (pc2 := 1) 1 (n := 1) (x := x1) rfl dX12_text_0 rfl ?_
  refine x_i2l (pc2 := 2) dX12_text_1 rfl ?_
  refine x_lconst (pc2 := 3) (v := 0) (by decide) dX12_text_2 rfl ?_
  refine x_lconst (pc2 := 4) (v := 1) (by decide) dX12_text_3 rfl ?_
  refine x_callS (pc2 := 7) (As := [.long (x1.toInt64), .long 0, .long 1]) (rest := []) ms_X12_in ml_X12_112 rfl rfl (Nat.le_of_ble_eq_true rfl) hd1 dX12_text_4 rfl (ht.mono (fun r1 h2 p3 ht' => ?_))
  clear ht
  obtain ⟨v4, rfl, ht⟩ := ht'
  show Ex G d mX12_text 7 [(0, .ref a0), (1, .int x1)] [.int v4] h2 Q
  refine x_if_eq (pc2 := 10) 21 dX12_text_7 (by decide) rfl (fun c5 => ?_) (fun c5 => ?_)
  · replace ht := ht.1 c5
    refine x_iconst (pc2 := 22) (v := (-1)) (by decide) dX12_text_21 rfl ?_
    exact x_ret (ty := .int) rfl rfl dX12_text_22 ht
  · replace ht := ht.2 c5
    refine x_aload_n (pc2 := 11) 0 (n := 0) (x := a0) rfl dX12_text_10 rfl ?_
    obtain ⟨k6, ht⟩ := ht
    obtain ⟨q7, e8, ht⟩ := ht
    refine y_getR (pc2 := 14) (κ := 12) (k := 2) fl_X12_13 (by decide) (by decide) k6 rfl e8 dX12_text_11 rfl ?_
    refine x_iload_n (pc2 := 15) 1 (n := 1) (x := x1) rfl dX12_text_14 rfl ?_
    obtain ⟨k9, ht⟩ := ht
    obtain ⟨b10, ht⟩ := ht
    refine x_iald (pc2 := 16) k9 b10 dX12_text_15 rfl ?_
    refine x_bipush (pc2 := 18) (v := 6) (by decide) dX12_text_16 rfl ?_
    refine y_icmp_ne (pc2 := 21) 23 dX12_text_18 (by decide) rfl (fun c11 => ?_) (fun c11 => ?_)
    · replace ht := ht.1 c11
      refine x_aload_n (pc2 := 24) 0 (n := 0) (x := a0) rfl dX12_text_23 rfl ?_
      refine x_bipush (pc2 := 26) (v := 6) (by decide) dX12_text_24 rfl ?_
      refine x_iload_n (pc2 := 27) 1 (n := 1) (x := x1) rfl dX12_text_26 rfl ?_
      refine x_imul (pc2 := 28) dX12_text_27 rfl ?_
      refine x_aload_n (pc2 := 29) 0 (n := 0) (x := a0) rfl dX12_text_28 rfl ?_
      refine y_getR (pc2 := 32) (κ := 12) (k := 2) fl_X12_13 (by decide) (by decide) k6 rfl e8 dX12_text_29 rfl ?_
      refine x_iload_n (pc2 := 33) 1 (n := 1) (x := x1) rfl dX12_text_32 rfl ?_
      obtain ⟨b12, ht⟩ := ht
      refine x_iald (pc2 := 34) k9 b12 dX12_text_33 rfl ?_
      refine x_iadd (pc2 := 35) dX12_text_34 rfl ?_
      refine x_putI (pc2 := 38) (κ := 12) (k := 16) fl_X12_140 (by decide) (by decide) (Or.inl rfl) rfl k6 dX12_text_35 rfl ?_
      refine x_aload_n (pc2 := 39) 0 (n := 0) (x := a0) rfl dX12_text_38 rfl ?_
      obtain ⟨q13, e14, ht⟩ := ht
      refine y_getR (pc2 := 42) (κ := 12) (k := 6) fl_X12_26 (by decide) (by decide) k6.sI rfl e14 dX12_text_39 rfl ?_
      refine x_aload_n (pc2 := 43) 0 (n := 0) (x := a0) rfl dX12_text_42 rfl ?_
      refine y_getI (pc2 := 46) (κ := 12) (k := 16) fl_X12_140 (by decide) (by decide) k6.sI rfl dX12_text_43 rfl ?_
      refine x_iconst (pc2 := 47) (v := 0) (by decide) dX12_text_46 rfl ?_
      obtain ⟨k15, ht⟩ := ht
      obtain ⟨b16, ht⟩ := ht
      refine x_iast (pc2 := 48) k15 b16 dX12_text_47 rfl ?_
      refine nm_I (fun h17 e18 p19 => ?_)
      replace ht := ht h17 e18
      refine x_aload_n (pc2 := 49) 0 (n := 0) (x := a0) rfl dX12_text_48 rfl ?_
      obtain ⟨q20, e21, ht⟩ := ht
      refine y_getR (pc2 := 52) (κ := 12) (k := 7) fl_X12_29 (by decide) (by decide) (k6.sI.up p19) rfl e21 dX12_text_49 rfl ?_
      refine x_aload_n (pc2 := 53) 0 (n := 0) (x := a0) rfl dX12_text_52 rfl ?_
      refine y_getI (pc2 := 56) (κ := 12) (k := 16) fl_X12_140 (by decide) (by decide) (k6.sI.up p19) rfl dX12_text_53 rfl ?_
      refine x_iconst (pc2 := 57) (v := (-1)) (by decide) dX12_text_56 rfl ?_
      obtain ⟨k22, ht⟩ := ht
      obtain ⟨b23, ht⟩ := ht
      refine x_iast (pc2 := 58) k22 b23 dX12_text_57 rfl ?_
      refine x_aload_n (pc2 := 59) 0 (n := 0) (x := a0) rfl dX12_text_58 rfl ?_
      refine x_callV (pc2 := 62) (As := []) (rest := []) (b := a0) mv_X12_readsAll ml_X12_281 (k6.sI.up p19).sI rfl rfl (Nat.le_of_ble_eq_true rfl) hd1 dX12_text_59 rfl (ht.mono (fun r24 h25 p26 ht' => ?_))
      clear ht
      obtain ⟨v27, rfl, ht⟩ := ht'
      show Ex G d mX12_text 62 [(0, .ref a0), (1, .int x1)] [.int v27] h25 Q
      refine x_istore_n (pc2 := 63) [1, 2, 0] (n := 2) (x := v27) (lv2 := [(0, .ref a0), (1, .int x1), (2, .int v27)]) (by decide) rfl dX12_text_62 rfl ?_
      refine x_aload_n (pc2 := 64) 0 (n := 0) (x := a0) rfl dX12_text_63 rfl ?_
      refine x_iconst (pc2 := 65) (v := 0) (by decide) dX12_text_64 rfl ?_
      refine x_putI (pc2 := 68) (κ := 12) (k := 1) fl_X12_73 (by decide) (by decide) (Or.inl rfl) rfl ((k6.sI.up p19).sI.up p26) dX12_text_65 rfl ?_
      refine x_iload_n (pc2 := 69) 2 (n := 2) (x := v27) rfl dX12_text_68 rfl ?_
      refine y_if_ne (pc2 := 72) 80 dX12_text_69 (by decide) rfl (fun c28 => ?_) (fun c28 => ?_)
      · replace ht := ht.1 c28
        refine x_aload_n (pc2 := 81) 0 (n := 0) (x := a0) rfl dX12_text_80 rfl ?_
        obtain ⟨q29, e30, ht⟩ := ht
        refine y_getR (pc2 := 84) (κ := 12) (k := 2) fl_X12_13 (by decide) (by decide) ((k6.sI.up p19).sI.up p26).sI rfl e30 dX12_text_81 rfl ?_
        refine x_iload_n (pc2 := 85) 1 (n := 1) (x := x1) rfl dX12_text_84 rfl ?_
        refine x_dup2 (pc2 := 86) rfl rfl dX12_text_85 rfl ?_
        obtain ⟨k31, ht⟩ := ht
        obtain ⟨b32, ht⟩ := ht
        refine x_iald (pc2 := 87) k31 b32 dX12_text_86 rfl ?_
        refine x_iconst (pc2 := 88) (v := 1) (by decide) dX12_text_87 rfl ?_
        refine x_iadd (pc2 := 89) dX12_text_88 rfl ?_
        obtain ⟨b33, ht⟩ := ht
        refine x_iast (pc2 := 90) k31 b33 dX12_text_89 rfl ?_
        refine x_aload_n (pc2 := 91) 0 (n := 0) (x := a0) rfl dX12_text_90 rfl ?_
        refine y_getR (pc2 := 94) (κ := 12) (k := 2) fl_X12_13 (by decide) (by decide) ((k6.sI.up p19).sI.up p26).sI.sI rfl ((hR_sI _ _ _ _ _ _).trans e30) dX12_text_91 rfl ?_
        refine x_iload_n (pc2 := 95) 1 (n := 1) (x := x1) rfl dX12_text_94 rfl ?_
        obtain ⟨b34, ht⟩ := ht
        refine x_iald (pc2 := 96) k31.sI b34 dX12_text_95 rfl ?_
        refine x_iconst (pc2 := 97) (v := 1) (by decide) dX12_text_96 rfl ?_
        refine x_isub (pc2 := 98) dX12_text_97 rfl ?_
        exact x_ret (ty := .int) rfl rfl dX12_text_98 ht
      · replace ht := ht.2 c28
        refine x_bipush (pc2 := 74) (v := (-2)) (by decide) dX12_text_72 rfl ?_
        refine x_aload_n (pc2 := 75) 0 (n := 0) (x := a0) rfl dX12_text_74 rfl ?_
        refine y_getI (pc2 := 78) (κ := 12) (k := 14) fl_X12_81 (by decide) (by decide) ((k6.sI.up p19).sI.up p26).sI rfl dX12_text_75 rfl ?_
        refine x_isub (pc2 := 79) dX12_text_78 rfl ?_
        exact x_ret (ty := .int) rfl rfl dX12_text_79 ht
    · replace ht := ht.2 c11
      refine x_iconst (pc2 := 22) (v := (-1)) (by decide) dX12_text_21 rfl ?_
      exact x_ret (ty := .int) rfl rfl dX12_text_22 ht
theorem e_X12_text {G : GG} {d : Nat} {h : HP} {Q : Option Value → HP → Prop} {a0 : Nat} {x1 : Int32} (hd1 : 1 ≤ d) (ht : T_X12_text G d h Q a0 x1) : Cal G d mX12_text [.ref a0, .int x1] h Q := cal_of rfl (Nat.le_of_ble_eq_true rfl) (t_X12_text hd1 ht)
def T_X12_land (G : GG) (d : Nat) (h : HP) (Q : Option Value → HP → Prop) (a0 : Nat) : Prop :=
  Kd G h a0 12 ∧ Ex G d mX12_land 18 [(0, .ref a0), (1, .int 0)] [] (sI (sI (sI h a0 16 12) a0 8 (-1)) a0 10 0) Q
set_option maxRecDepth 20000 in
theorem t_X12_land {G : GG} {d : Nat} {h : HP} {Q : Option Value → HP → Prop} {a0 : Nat} (ht : T_X12_land G d h Q a0) : Ex G d mX12_land 0 [(0, .ref a0)] [] h Q := by
  unfold T_X12_land at ht
  refine x_aload_n (pc2 := 1) 0 (n := 0) (x := a0) rfl dX12_land_0 rfl ?_
  refine x_bipush (pc2 := 3) (v := 12) (by decide) dX12_land_1 rfl ?_
  obtain ⟨k1, ht⟩ := ht
  refine x_putI (pc2 := 6) (κ := 12) (k := 16) fl_X12_140 (by decide) (by decide) (Or.inl rfl) rfl k1 dX12_land_3 rfl ?_
  refine x_aload_n (pc2 := 7) 0 (n := 0) (x := a0) rfl dX12_land_6 rfl ?_
  refine x_iconst (pc2 := 8) (v := (-1)) (by decide) dX12_land_7 rfl ?_
  refine x_putI (pc2 := 11) (κ := 12) (k := 8) fl_X12_212 (by decide) (by decide) (Or.inl rfl) rfl k1.sI dX12_land_8 rfl ?_
  refine x_aload_n (pc2 := 12) 0 (n := 0) (x := a0) rfl dX12_land_11 rfl ?_
  refine x_iconst (pc2 := 13) (v := 0) (by decide) dX12_land_12 rfl ?_
  refine x_putI (pc2 := 16) (κ := 12) (k := 10) fl_X12_233 (by decide) (by decide) (Or.inl rfl) rfl k1.sI.sI dX12_land_13 rfl ?_
  refine x_iconst (pc2 := 17) (v := 0) (by decide) dX12_land_16 rfl ?_
  refine x_istore_n (pc2 := 18) [1, 0] (n := 1) (x := 0) (lv2 := [(0, .ref a0), (1, .int 0)]) (by decide) rfl dX12_land_17 rfl ?_
  exact ht
theorem e_X12_land {G : GG} {d : Nat} {h : HP} {Q : Option Value → HP → Prop} {a0 : Nat} (ht : T_X12_land G d h Q a0) : Cal G d mX12_land [.ref a0] h Q := cal_of rfl (Nat.le_of_ble_eq_true rfl) (t_X12_land ht)
def T_X12_land_18 (G : GG) (d : Nat) (h : HP) (Q : Option Value → HP → Prop) (a0 : Nat) (x1 : Int32) : Prop :=
  ((1600 ≤ x1 → Kd G h a0 12 ∧ Cal G (d - 1) mX12_readsAll [.ref a0] h (fun r2 h3 => ∃ v6, r2 = some (.int v6) ∧ ((0 ≤ (hI h3 a0 8) → Ex G d mX12_land 59 [(0, .ref a0), (1, .int v6)] [.int (hI h3 a0 8)] h3 Q) ∧ (¬ 0 ≤ (hI h3 a0 8) → Ex G d mX12_land 59 [(0, .ref a0), (1, .int v6)] [.int 20] h3 Q)))) ∧ (¬ 1600 ≤ x1 → Kd G h a0 12 ∧ ∃ q9, hR h a0 11 = some q9 ∧ Kd G h q9 14 ∧ vp_in x1 (hN h q9) ∧ Ex G d mX12_land 18 [(0, .ref a0), (1, .int (x1 + 1))] [] (sI h q9 x1.toNatClampNeg 1) Q))
set_option maxRecDepth 20000 in
theorem t_X12_land_18 {G : GG} {d : Nat} {h : HP} {Q : Option Value → HP → Prop} {a0 : Nat} {x1 : Int32} (hd1 : 1 ≤ d) (ht : T_X12_land_18 G d h Q a0 x1) : Ex G d mX12_land 18 [(0, .ref a0), (1, .int x1)] [] h Q := by
  unfold T_X12_land_18 at ht
  refine x_iload_n (pc2 := 19) 1 (n := 1) (x := x1) rfl dX12_land_18 rfl ?_
  refine x_sipush (pc2 := 22) (v := 1600) (by decide) dX12_land_19 rfl ?_
  refine x_icmp_ge (pc2 := 25) 38 dX12_land_22 (by decide) rfl (fun c1 => ?_) (fun c1 => ?_)
  · replace ht := ht.1 c1
    refine x_aload_n (pc2 := 39) 0 (n := 0) (x := a0) rfl dX12_land_38 rfl ?_
    obtain ⟨k5, ht⟩ := ht
    refine x_callV (pc2 := 42) (As := []) (rest := []) (b := a0) mv_X12_readsAll ml_X12_281 k5 rfl rfl (Nat.le_of_ble_eq_true rfl) hd1 dX12_land_39 rfl (ht.mono (fun r2 h3 p4 ht' => ?_))
    clear ht
    obtain ⟨v6, rfl, ht⟩ := ht'
    show Ex G d mX12_land 42 [(0, .ref a0), (1, .int x1)] [.int v6] h3 Q
    refine x_istore_n (pc2 := 43) [1, 0] (n := 1) (x := v6) (lv2 := [(0, .ref a0), (1, .int v6)]) (by decide) rfl dX12_land_42 rfl ?_
    refine x_aload_n (pc2 := 44) 0 (n := 0) (x := a0) rfl dX12_land_43 rfl ?_
    refine y_getI (pc2 := 47) (κ := 12) (k := 8) fl_X12_212 (by decide) (by decide) (k5.up p4) rfl dX12_land_44 rfl ?_
    refine x_if_ge (pc2 := 50) 55 dX12_land_47 (by decide) rfl (fun c7 => ?_) (fun c7 => ?_)
    · replace ht := ht.1 c7
      refine x_aload_n (pc2 := 56) 0 (n := 0) (x := a0) rfl dX12_land_55 rfl ?_
      refine y_getI (pc2 := 59) (κ := 12) (k := 8) fl_X12_212 (by decide) (by decide) (k5.up p4) rfl dX12_land_56 rfl ?_
      exact ht
    · replace ht := ht.2 c7
      refine x_bipush (pc2 := 52) (v := 20) (by decide) dX12_land_50 rfl ?_
      refine x_goto 59 dX12_land_52 (by decide) ?_
      exact ht
  · replace ht := ht.2 c1
    refine x_aload_n (pc2 := 26) 0 (n := 0) (x := a0) rfl dX12_land_25 rfl ?_
    obtain ⟨k8, ht⟩ := ht
    obtain ⟨q9, e10, ht⟩ := ht
    refine y_getR (pc2 := 29) (κ := 12) (k := 11) fl_X12_32 (by decide) (by decide) k8 rfl e10 dX12_land_26 rfl ?_
    refine x_iload_n (pc2 := 30) 1 (n := 1) (x := x1) rfl dX12_land_29 rfl ?_
    refine x_iconst (pc2 := 31) (v := 1) (by decide) dX12_land_30 rfl ?_
    obtain ⟨k11, ht⟩ := ht
    obtain ⟨b12, ht⟩ := ht
    refine x_iast (pc2 := 32) k11 b12 dX12_land_31 rfl ?_
    refine x_iinc (pc2 := 35) 1 [1, 0] (i := 1) (x := x1) (v := (x1 + 1)) (lv2 := [(0, .ref a0), (1, .int (x1 + 1))]) rfl (iinc_eq (by decide) _) (by decide) rfl dX12_land_32 rfl ?_
    refine x_goto 18 dX12_land_35 (by decide) ?_
    exact ht
def T_X12_land_59 (G : GG) (d : Nat) (h : HP) (Q : Option Value → HP → Prop) (a0 : Nat) (x1 : Int32) (sx0 : Int32) : Prop :=
  Kd G h a0 12 ∧ ((0 ≤ (hI h a0 8) → Ex G d mX12_land 80 [(0, .ref a0), (1, .int x1), (2, .int sx0), (3, .int (hI h a0 9)), (4, .int 0)] [] h Q) ∧ (¬ 0 ≤ (hI h a0 8) → Ex G d mX12_land 80 [(0, .ref a0), (1, .int x1), (2, .int sx0), (3, .int 20), (4, .int 0)] [] h Q))
set_option maxRecDepth 20000 in
theorem t_X12_land_59 {G : GG} {d : Nat} {h : HP} {Q : Option Value → HP → Prop} {a0 : Nat} {x1 : Int32} {sx0 : Int32} (ht : T_X12_land_59 G d h Q a0 x1 sx0) : Ex G d mX12_land 59 [(0, .ref a0), (1, .int x1)] [.int sx0] h Q := by
  unfold T_X12_land_59 at ht
  refine x_istore_n (pc2 := 60) [1, 2, 0] (n := 2) (x := sx0) (lv2 := [(0, .ref a0), (1, .int x1), (2, .int sx0)]) (by decide) rfl dX12_land_59 rfl ?_
  refine x_aload_n (pc2 := 61) 0 (n := 0) (x := a0) rfl dX12_land_60 rfl ?_
  obtain ⟨k1, ht⟩ := ht
  refine y_getI (pc2 := 64) (κ := 12) (k := 8) fl_X12_212 (by decide) (by decide) k1 rfl dX12_land_61 rfl ?_
  refine x_if_ge (pc2 := 67) 72 dX12_land_64 (by decide) rfl (fun c2 => ?_) (fun c2 => ?_)
  · replace ht := ht.1 c2
    refine x_aload_n (pc2 := 73) 0 (n := 0) (x := a0) rfl dX12_land_72 rfl ?_
    refine y_getI (pc2 := 76) (κ := 12) (k := 9) fl_X12_215 (by decide) (by decide) k1 rfl dX12_land_73 rfl ?_
    refine x_istore_n (pc2 := 77) [1, 2, 3, 0] (n := 3) (x := (hI h a0 9)) (lv2 := [(0, .ref a0), (1, .int x1), (2, .int sx0), (3, .int (hI h a0 9))]) (by decide) rfl dX12_land_76 rfl ?_
    refine x_iconst (pc2 := 78) (v := 0) (by decide) dX12_land_77 rfl ?_
    refine x_istore (pc2 := 80) [1, 2, 3, 4, 0] (n := 4) (x := 0) (lv2 := [(0, .ref a0), (1, .int x1), (2, .int sx0), (3, .int (hI h a0 9)), (4, .int 0)]) (by decide) rfl dX12_land_78 rfl ?_
    exact ht
  · replace ht := ht.2 c2
    refine x_bipush (pc2 := 69) (v := 20) (by decide) dX12_land_67 rfl ?_
    refine x_goto 76 dX12_land_69 (by decide) ?_
    refine x_istore_n (pc2 := 77) [1, 2, 3, 0] (n := 3) (x := 20) (lv2 := [(0, .ref a0), (1, .int x1), (2, .int sx0), (3, .int 20)]) (by decide) rfl dX12_land_76 rfl ?_
    refine x_iconst (pc2 := 78) (v := 0) (by decide) dX12_land_77 rfl ?_
    refine x_istore (pc2 := 80) [1, 2, 3, 4, 0] (n := 4) (x := 0) (lv2 := [(0, .ref a0), (1, .int x1), (2, .int sx0), (3, .int 20), (4, .int 0)]) (by decide) rfl dX12_land_78 rfl ?_
    exact ht
def T_X12_land_80 (G : GG) (d : Nat) (h : HP) (Q : Option Value → HP → Prop) (a0 : Nat) (x1 : Int32) (x2 : Int32) (x3 : Int32) (x4 : Int32) : Prop :=
  Kd G h a0 12 ∧ (((hI h a0 10) ≤ x4 → Ex G d mX12_land 139 [(0, .ref a0), (1, .int x1), (2, .int x2), (3, .int x3), (4, .int x4)] [] h Q) ∧ (¬ (hI h a0 10) ≤ x4 → ((x1 = 0 → Ex G d mX12_land 139 [(0, .ref a0), (1, .int x1), (2, .int x2), (3, .int x3), (4, .int x4)] [] h Q) ∧ (¬ x1 = 0 → ∃ q4, hR h a0 12 = some q4 ∧ Kd G h q4 14 ∧ vp_in ((4 * x4) + 2) (hN h q4) ∧ ((x2 < (hI h q4 ((4 * x4) + 2).toNatClampNeg) → Cal G (d - 1) mX12_fails [.ref a0, .int 5, .int (hI h a0 13)] h (fun r9 h10 => ∃ v12, r9 = some (.int v12) ∧ Ex G d mX12_land 80 [(0, .ref a0), (1, .int v12), (2, .int x2), (3, .int x3), (4, .int (x4 + 1))] [] h10 Q)) ∧ (¬ x2 < (hI h q4 ((4 * x4) + 2).toNatClampNeg) → vp_in ((4 * x4) + 3) (hN h q4) ∧ (((hI h q4 ((4 * x4) + 3).toNatClampNeg) ≤ x3 → Ex G d mX12_land 80 [(0, .ref a0), (1, .int x1), (2, .int x2), (3, .int x3), (4, .int (x4 + 1))] [] h Q) ∧ (¬ (hI h q4 ((4 * x4) + 3).toNatClampNeg) ≤ x3 → Cal G (d - 1) mX12_fails [.ref a0, .int 5, .int (hI h a0 13)] h (fun r15 h16 => ∃ v18, r15 = some (.int v18) ∧ Ex G d mX12_land 80 [(0, .ref a0), (1, .int v18), (2, .int x2), (3, .int x3), (4, .int (x4 + 1))] [] h16 Q)))))))))
set_option maxRecDepth 20000 in
theorem t_X12_land_80 {G : GG} {d : Nat} {h : HP} {Q : Option Value → HP → Prop} {a0 : Nat} {x1 : Int32} {x2 : Int32} {x3 : Int32} {x4 : Int32} (hd1 : 1 ≤ d) (ht : T_X12_land_80 G d h Q a0 x1 x2 x3 x4) : Ex G d mX12_land 80 [(0, .ref a0), (1, .int x1), (2, .int x2), (3, .int x3), (4, .int x4)] [] h Q := by
  unfold T_X12_land_80 at ht
  refine x_iload (pc2 := 82) 4 (n := 4) (x := x4) rfl dX12_land_80 rfl ?_
  refine x_aload_n (pc2 := 83) 0 (n := 0) (x := a0) rfl dX12_land_82 rfl ?_
  obtain ⟨k1, ht⟩ := ht
  refine y_getI (pc2 := 86) (κ := 12) (k := 10) fl_X12_233 (by decide) (by decide) k1 rfl dX12_land_83 rfl ?_
  refine x_icmp_ge (pc2 := 89) 139 dX12_land_86 (by decide) rfl (fun c2 => ?_) (fun c2 => ?_)
  · replace ht := ht.1 c2
    exact ht
  · replace ht := ht.2 c2
    refine x_iload_n (pc2 := 90) 1 (n := 1) (x := x1) rfl dX12_land_89 rfl ?_
    refine x_if_eq (pc2 := 93) 139 dX12_land_90 (by decide) rfl (fun c3 => ?_) (fun c3 => ?_)
    · replace ht := ht.1 c3
      exact ht
    · replace ht := ht.2 c3
      refine x_aload_n (pc2 := 94) 0 (n := 0) (x := a0) rfl dX12_land_93 rfl ?_
      obtain ⟨q4, e5, ht⟩ := ht
      refine y_getR (pc2 := 97) (κ := 12) (k := 12) fl_X12_35 (by decide) (by decide) k1 rfl e5 dX12_land_94 rfl ?_
      refine x_iconst (pc2 := 98) (v := 4) (by decide) dX12_land_97 rfl ?_
      refine x_iload (pc2 := 100) 4 (n := 4) (x := x4) rfl dX12_land_98 rfl ?_
      refine x_imul (pc2 := 101) dX12_land_100 rfl ?_
      refine x_iconst (pc2 := 102) (v := 2) (by decide) dX12_land_101 rfl ?_
      refine x_iadd (pc2 := 103) dX12_land_102 rfl ?_
      obtain ⟨k6, ht⟩ := ht
      obtain ⟨b7, ht⟩ := ht
      refine x_iald (pc2 := 104) k6 b7 dX12_land_103 rfl ?_
      refine x_iload_n (pc2 := 105) 2 (n := 2) (x := x2) rfl dX12_land_104 rfl ?_
      refine x_icmp_gt (pc2 := 108) 123 dX12_land_105 (by decide) rfl (fun c8 => ?_) (fun c8 => ?_)
      · replace ht := ht.1 c8
        refine x_aload_n (pc2 := 124) 0 (n := 0) (x := a0) rfl dX12_land_123 rfl ?_
        refine x_iconst (pc2 := 125) (v := 5) (by decide) dX12_land_124 rfl ?_
        refine x_aload_n (pc2 := 126) 0 (n := 0) (x := a0) rfl dX12_land_125 rfl ?_
        refine y_getI (pc2 := 129) (κ := 12) (k := 13) fl_X12_84 (by decide) (by decide) k1 rfl dX12_land_126 rfl ?_
        refine x_callV (pc2 := 132) (As := [.int 5, .int (hI h a0 13)]) (rest := []) (b := a0) mv_X12_fails ml_X12_105 k1 rfl rfl (Nat.le_of_ble_eq_true rfl) hd1 dX12_land_129 rfl (ht.mono (fun r9 h10 p11 ht' => ?_))
        clear ht
        obtain ⟨v12, rfl, ht⟩ := ht'
        show Ex G d mX12_land 132 [(0, .ref a0), (1, .int x1), (2, .int x2), (3, .int x3), (4, .int x4)] [.int v12] h10 Q
        refine x_istore_n (pc2 := 133) [1, 0, 2, 3, 4] (n := 1) (x := v12) (lv2 := [(0, .ref a0), (1, .int v12), (2, .int x2), (3, .int x3), (4, .int x4)]) (by decide) rfl dX12_land_132 rfl ?_
        refine x_iinc (pc2 := 136) 4 [1, 2, 3, 4, 0] (i := 4) (x := x4) (v := (x4 + 1)) (lv2 := [(0, .ref a0), (1, .int v12), (2, .int x2), (3, .int x3), (4, .int (x4 + 1))]) rfl (iinc_eq (by decide) _) (by decide) rfl dX12_land_133 rfl ?_
        refine x_goto 80 dX12_land_136 (by decide) ?_
        exact ht
      · replace ht := ht.2 c8
        refine x_aload_n (pc2 := 109) 0 (n := 0) (x := a0) rfl dX12_land_108 rfl ?_
        refine y_getR (pc2 := 112) (κ := 12) (k := 12) fl_X12_35 (by decide) (by decide) k1 rfl e5 dX12_land_109 rfl ?_
        refine x_iconst (pc2 := 113) (v := 4) (by decide) dX12_land_112 rfl ?_
        refine x_iload (pc2 := 115) 4 (n := 4) (x := x4) rfl dX12_land_113 rfl ?_
        refine x_imul (pc2 := 116) dX12_land_115 rfl ?_
        refine x_iconst (pc2 := 117) (v := 3) (by decide) dX12_land_116 rfl ?_
        refine x_iadd (pc2 := 118) dX12_land_117 rfl ?_
        obtain ⟨b13, ht⟩ := ht
        refine x_iald (pc2 := 119) k6 b13 dX12_land_118 rfl ?_
        refine x_iload_n (pc2 := 120) 3 (n := 3) (x := x3) rfl dX12_land_119 rfl ?_
        refine x_icmp_le (pc2 := 123) 133 dX12_land_120 (by decide) rfl (fun c14 => ?_) (fun c14 => ?_)
        · replace ht := ht.1 c14
          refine x_iinc (pc2 := 136) 4 [1, 2, 3, 4, 0] (i := 4) (x := x4) (v := (x4 + 1)) (lv2 := [(0, .ref a0), (1, .int x1), (2, .int x2), (3, .int x3), (4, .int (x4 + 1))]) rfl (iinc_eq (by decide) _) (by decide) rfl dX12_land_133 rfl ?_
          refine x_goto 80 dX12_land_136 (by decide) ?_
          exact ht
        · replace ht := ht.2 c14
          refine x_aload_n (pc2 := 124) 0 (n := 0) (x := a0) rfl dX12_land_123 rfl ?_
          refine x_iconst (pc2 := 125) (v := 5) (by decide) dX12_land_124 rfl ?_
          refine x_aload_n (pc2 := 126) 0 (n := 0) (x := a0) rfl dX12_land_125 rfl ?_
          refine y_getI (pc2 := 129) (κ := 12) (k := 13) fl_X12_84 (by decide) (by decide) k1 rfl dX12_land_126 rfl ?_
          refine x_callV (pc2 := 132) (As := [.int 5, .int (hI h a0 13)]) (rest := []) (b := a0) mv_X12_fails ml_X12_105 k1 rfl rfl (Nat.le_of_ble_eq_true rfl) hd1 dX12_land_129 rfl (ht.mono (fun r15 h16 p17 ht' => ?_))
          clear ht
          obtain ⟨v18, rfl, ht⟩ := ht'
          show Ex G d mX12_land 132 [(0, .ref a0), (1, .int x1), (2, .int x2), (3, .int x3), (4, .int x4)] [.int v18] h16 Q
          refine x_istore_n (pc2 := 133) [1, 0, 2, 3, 4] (n := 1) (x := v18) (lv2 := [(0, .ref a0), (1, .int v18), (2, .int x2), (3, .int x3), (4, .int x4)]) (by decide) rfl dX12_land_132 rfl ?_
          refine x_iinc (pc2 := 136) 4 [1, 2, 3, 4, 0] (i := 4) (x := x4) (v := (x4 + 1)) (lv2 := [(0, .ref a0), (1, .int v18), (2, .int x2), (3, .int x3), (4, .int (x4 + 1))]) rfl (iinc_eq (by decide) _) (by decide) rfl dX12_land_133 rfl ?_
          refine x_goto 80 dX12_land_136 (by decide) ?_
          exact ht
def T_X12_land_139 (G : GG) (d : Nat) (h : HP) (Q : Option Value → HP → Prop) (a0 : Nat) (x1 : Int32) (x2 : Int32) (x3 : Int32) (x4 : Int32) : Prop :=
  Kd G h a0 12 ∧ ((¬ x1 = 0 → ∃ q3, hR (sI h a0 1 0) a0 29 = some q3 ∧ Kd G (sI h a0 1 0) q3 14 ∧ vp_in 0 (hN (sI h a0 1 0) q3) ∧ vp_in 1 (hN (sI (sI h a0 1 0) q3 0 x2) q3) ∧ vp_in 2 (hN (sI (sI (sI h a0 1 0) q3 0 x2) q3 1 x3) q3) ∧ ∀ h9, h9 = (sI (sI (sI (sI h a0 1 0) q3 0 x2) q3 1 x3) q3 2 (hI (sI (sI (sI h a0 1 0) q3 0 x2) q3 1 x3) a0 10)) → vp_in 3 (hN h9 q3) ∧ Ex G d mX12_land 190 [(0, .ref a0), (1, .int x1), (2, .int x2), (3, .int x3), (4, .int 0)] [] (sI h9 q3 3 0) Q) ∧ (x1 = 0 → Q (some (.int ((-2) - (hI (sI h a0 1 0) a0 14)))) (sI h a0 1 0)))
set_option maxRecDepth 20000 in
theorem t_X12_land_139 {G : GG} {d : Nat} {h : HP} {Q : Option Value → HP → Prop} {a0 : Nat} {x1 : Int32} {x2 : Int32} {x3 : Int32} {x4 : Int32} (ht : T_X12_land_139 G d h Q a0 x1 x2 x3 x4) : Ex G d mX12_land 139 [(0, .ref a0), (1, .int x1), (2, .int x2), (3, .int x3), (4, .int x4)] [] h Q := by
  unfold T_X12_land_139 at ht
  refine x_aload_n (pc2 := 140) 0 (n := 0) (x := a0) rfl dX12_land_139 rfl ?_
  refine x_iconst (pc2 := 141) (v := 0) (by decide) dX12_land_140 rfl ?_
  obtain ⟨k1, ht⟩ := ht
  refine x_putI (pc2 := 144) (κ := 12) (k := 1) fl_X12_73 (by decide) (by decide) (Or.inl rfl) rfl k1 dX12_land_141 rfl ?_
  refine x_iload_n (pc2 := 145) 1 (n := 1) (x := x1) rfl dX12_land_144 rfl ?_
  refine y_if_ne (pc2 := 148) 156 dX12_land_145 (by decide) rfl (fun c2 => ?_) (fun c2 => ?_)
  · replace ht := ht.1 c2
    refine x_aload_n (pc2 := 157) 0 (n := 0) (x := a0) rfl dX12_land_156 rfl ?_
    obtain ⟨q3, e4, ht⟩ := ht
    refine y_getR (pc2 := 160) (κ := 12) (k := 29) fl_X12_48 (by decide) (by decide) k1.sI rfl e4 dX12_land_157 rfl ?_
    refine x_iconst (pc2 := 161) (v := 0) (by decide) dX12_land_160 rfl ?_
    refine x_iload_n (pc2 := 162) 2 (n := 2) (x := x2) rfl dX12_land_161 rfl ?_
    obtain ⟨k5, ht⟩ := ht
    obtain ⟨b6, ht⟩ := ht
    refine z_iast (pc2 := 163) (k := 0) (by decide) k5 b6 dX12_land_162 rfl ?_
    refine x_aload_n (pc2 := 164) 0 (n := 0) (x := a0) rfl dX12_land_163 rfl ?_
    refine y_getR (pc2 := 167) (κ := 12) (k := 29) fl_X12_48 (by decide) (by decide) k1.sI.sI rfl ((hR_sI _ _ _ _ _ _).trans e4) dX12_land_164 rfl ?_
    refine x_iconst (pc2 := 168) (v := 1) (by decide) dX12_land_167 rfl ?_
    refine x_iload_n (pc2 := 169) 3 (n := 3) (x := x3) rfl dX12_land_168 rfl ?_
    obtain ⟨b7, ht⟩ := ht
    refine z_iast (pc2 := 170) (k := 1) (by decide) k5.sI b7 dX12_land_169 rfl ?_
    refine x_aload_n (pc2 := 171) 0 (n := 0) (x := a0) rfl dX12_land_170 rfl ?_
    refine y_getR (pc2 := 174) (κ := 12) (k := 29) fl_X12_48 (by decide) (by decide) k1.sI.sI.sI rfl ((hR_sI _ _ _ _ _ _).trans ((hR_sI _ _ _ _ _ _).trans e4)) dX12_land_171 rfl ?_
    refine x_iconst (pc2 := 175) (v := 2) (by decide) dX12_land_174 rfl ?_
    refine x_aload_n (pc2 := 176) 0 (n := 0) (x := a0) rfl dX12_land_175 rfl ?_
    refine y_getI (pc2 := 179) (κ := 12) (k := 10) fl_X12_233 (by decide) (by decide) k1.sI.sI.sI rfl dX12_land_176 rfl ?_
    obtain ⟨b8, ht⟩ := ht
    refine z_iast (pc2 := 180) (k := 2) (by decide) k5.sI.sI b8 dX12_land_179 rfl ?_
    refine nm_I (fun h9 e10 p11 => ?_)
    replace ht := ht h9 e10
    refine x_aload_n (pc2 := 181) 0 (n := 0) (x := a0) rfl dX12_land_180 rfl ?_
    refine y_getR (pc2 := 184) (κ := 12) (k := 29) fl_X12_48 (by decide) (by decide) (k1.sI.sI.sI.up p11) rfl (by rw [e10]; exact ((hR_sI _ _ _ _ _ _).trans ((hR_sI _ _ _ _ _ _).trans ((hR_sI _ _ _ _ _ _).trans e4)))) dX12_land_181 rfl ?_
    refine x_iconst (pc2 := 185) (v := 3) (by decide) dX12_land_184 rfl ?_
    refine x_iconst (pc2 := 186) (v := 0) (by decide) dX12_land_185 rfl ?_
    obtain ⟨b12, ht⟩ := ht
    refine z_iast (pc2 := 187) (k := 3) (by decide) (k5.sI.sI.up p11) b12 dX12_land_186 rfl ?_
    refine x_iconst (pc2 := 188) (v := 0) (by decide) dX12_land_187 rfl ?_
    refine x_istore (pc2 := 190) [1, 2, 3, 4, 0] (n := 4) (x := 0) (lv2 := [(0, .ref a0), (1, .int x1), (2, .int x2), (3, .int x3), (4, .int 0)]) (by decide) rfl dX12_land_188 rfl ?_
    exact ht
  · replace ht := ht.2 c2
    refine x_bipush (pc2 := 150) (v := (-2)) (by decide) dX12_land_148 rfl ?_
    refine x_aload_n (pc2 := 151) 0 (n := 0) (x := a0) rfl dX12_land_150 rfl ?_
    refine y_getI (pc2 := 154) (κ := 12) (k := 14) fl_X12_81 (by decide) (by decide) k1.sI rfl dX12_land_151 rfl ?_
    refine x_isub (pc2 := 155) dX12_land_154 rfl ?_
    exact x_ret (ty := .int) rfl rfl dX12_land_155 ht
def T_X12_land_190 (G : GG) (d : Nat) (h : HP) (Q : Option Value → HP → Prop) (a0 : Nat) (x1 : Int32) (x2 : Int32) (x3 : Int32) (x4 : Int32) : Prop :=
  ((1600 ≤ x4 → Ex G d mX12_land 224 [(0, .ref a0), (1, .int x1), (2, .int x2), (3, .int x3), (4, .int 0)] [] h Q) ∧ (¬ 1600 ≤ x4 → Kd G h a0 12 ∧ ∃ q3, hR h a0 29 = some q3 ∧ ∃ q5, hR h a0 11 = some q5 ∧ Kd G h q5 14 ∧ vp_in x4 (hN h q5) ∧ Kd G h q3 14 ∧ vp_in (8 + x4) (hN h q3) ∧ Ex G d mX12_land 190 [(0, .ref a0), (1, .int x1), (2, .int x2), (3, .int x3), (4, .int (x4 + 1))] [] (sI h q3 (8 + x4).toNatClampNeg (hI h q5 x4.toNatClampNeg)) Q))
set_option maxRecDepth 20000 in
theorem t_X12_land_190 {G : GG} {d : Nat} {h : HP} {Q : Option Value → HP → Prop} {a0 : Nat} {x1 : Int32} {x2 : Int32} {x3 : Int32} {x4 : Int32} (ht : T_X12_land_190 G d h Q a0 x1 x2 x3 x4) : Ex G d mX12_land 190 [(0, .ref a0), (1, .int x1), (2, .int x2), (3, .int x3), (4, .int x4)] [] h Q := by
  unfold T_X12_land_190 at ht
  refine x_iload (pc2 := 192) 4 (n := 4) (x := x4) rfl dX12_land_190 rfl ?_
  refine x_sipush (pc2 := 195) (v := 1600) (by decide) dX12_land_192 rfl ?_
  refine x_icmp_ge (pc2 := 198) 221 dX12_land_195 (by decide) rfl (fun c1 => ?_) (fun c1 => ?_)
  · replace ht := ht.1 c1
    refine x_iconst (pc2 := 222) (v := 0) (by decide) dX12_land_221 rfl ?_
    refine x_istore (pc2 := 224) [1, 2, 3, 4, 0] (n := 4) (x := 0) (lv2 := [(0, .ref a0), (1, .int x1), (2, .int x2), (3, .int x3), (4, .int 0)]) (by decide) rfl dX12_land_222 rfl ?_
    exact ht
  · replace ht := ht.2 c1
    refine x_aload_n (pc2 := 199) 0 (n := 0) (x := a0) rfl dX12_land_198 rfl ?_
    obtain ⟨k2, ht⟩ := ht
    obtain ⟨q3, e4, ht⟩ := ht
    refine y_getR (pc2 := 202) (κ := 12) (k := 29) fl_X12_48 (by decide) (by decide) k2 rfl e4 dX12_land_199 rfl ?_
    refine x_bipush (pc2 := 204) (v := 8) (by decide) dX12_land_202 rfl ?_
    refine x_iload (pc2 := 206) 4 (n := 4) (x := x4) rfl dX12_land_204 rfl ?_
    refine x_iadd (pc2 := 207) dX12_land_206 rfl ?_
    refine x_aload_n (pc2 := 208) 0 (n := 0) (x := a0) rfl dX12_land_207 rfl ?_
    obtain ⟨q5, e6, ht⟩ := ht
    refine y_getR (pc2 := 211) (κ := 12) (k := 11) fl_X12_32 (by decide) (by decide) k2 rfl e6 dX12_land_208 rfl ?_
    refine x_iload (pc2 := 213) 4 (n := 4) (x := x4) rfl dX12_land_211 rfl ?_
    obtain ⟨k7, ht⟩ := ht
    obtain ⟨b8, ht⟩ := ht
    refine x_iald (pc2 := 214) k7 b8 dX12_land_213 rfl ?_
    obtain ⟨k9, ht⟩ := ht
    obtain ⟨b10, ht⟩ := ht
    refine x_iast (pc2 := 215) k9 b10 dX12_land_214 rfl ?_
    refine x_iinc (pc2 := 218) 4 [1, 2, 3, 4, 0] (i := 4) (x := x4) (v := (x4 + 1)) (lv2 := [(0, .ref a0), (1, .int x1), (2, .int x2), (3, .int x3), (4, .int (x4 + 1))]) rfl (iinc_eq (by decide) _) (by decide) rfl dX12_land_215 rfl ?_
    refine x_goto 190 dX12_land_218 (by decide) ?_
    exact ht
def T_X12_land_224 (G : GG) (d : Nat) (h : HP) (Q : Option Value → HP → Prop) (a0 : Nat) (x1 : Int32) (x2 : Int32) (x3 : Int32) (x4 : Int32) : Prop :=
  ((54 ≤ x4 → Ex G d mX12_land 251 [(0, .ref a0), (1, .int x1), (2, .int x2), (3, .int x3), (4, .int 0)] [] h Q) ∧ (¬ 54 ≤ x4 → Kd G h a0 12 ∧ ∃ q3, hR h a0 29 = some q3 ∧ Cal G (d - 1) mX12_placeOf [.int x4] h (fun r5 h6 => ∃ v8, r5 = some (.int v8) ∧ Kd G h6 q3 14 ∧ vp_in v8 (hN h6 q3) ∧ Ex G d mX12_land 224 [(0, .ref a0), (1, .int x1), (2, .int x2), (3, .int x3), (4, .int (x4 + 1))] [] (sI h6 q3 v8.toNatClampNeg 0) Q)))
set_option maxRecDepth 20000 in
theorem t_X12_land_224 {G : GG} {d : Nat} {h : HP} {Q : Option Value → HP → Prop} {a0 : Nat} {x1 : Int32} {x2 : Int32} {x3 : Int32} {x4 : Int32} (hd1 : 1 ≤ d) (ht : T_X12_land_224 G d h Q a0 x1 x2 x3 x4) : Ex G d mX12_land 224 [(0, .ref a0), (1, .int x1), (2, .int x2), (3, .int x3), (4, .int x4)] [] h Q := by
  unfold T_X12_land_224 at ht
  refine x_iload (pc2 := 226) 4 (n := 4) (x := x4) rfl dX12_land_224 rfl ?_
  refine x_bipush (pc2 := 228) (v := 54) (by decide) dX12_land_226 rfl ?_
  refine x_icmp_ge (pc2 := 231) 248 dX12_land_228 (by decide) rfl (fun c1 => ?_) (fun c1 => ?_)
  · replace ht := ht.1 c1
    refine x_iconst (pc2 := 249) (v := 0) (by decide) dX12_land_248 rfl ?_
    refine x_istore (pc2 := 251) [1, 2, 3, 4, 0] (n := 4) (x := 0) (lv2 := [(0, .ref a0), (1, .int x1), (2, .int x2), (3, .int x3), (4, .int 0)]) (by decide) rfl dX12_land_249 rfl ?_
    exact ht
  · replace ht := ht.2 c1
    refine x_aload_n (pc2 := 232) 0 (n := 0) (x := a0) rfl dX12_land_231 rfl ?_
    obtain ⟨k2, ht⟩ := ht
    obtain ⟨q3, e4, ht⟩ := ht
    refine y_getR (pc2 := 235) (κ := 12) (k := 29) fl_X12_48 (by decide) (by decide) k2 rfl e4 dX12_land_232 rfl ?_
    refine x_iload (pc2 := 237) 4 (n := 4) (x := x4) rfl dX12_land_235 rfl ?_
    refine x_callS (pc2 := 240) (As := [.int x4]) (rest := [.ref q3]) ms_X12_placeOf ml_X12_284 rfl rfl (Nat.le_of_ble_eq_true rfl) hd1 dX12_land_237 rfl (ht.mono (fun r5 h6 p7 ht' => ?_))
    clear ht
    obtain ⟨v8, rfl, ht⟩ := ht'
    show Ex G d mX12_land 240 [(0, .ref a0), (1, .int x1), (2, .int x2), (3, .int x3), (4, .int x4)] [.int v8, .ref q3] h6 Q
    refine x_iconst (pc2 := 241) (v := 0) (by decide) dX12_land_240 rfl ?_
    obtain ⟨k9, ht⟩ := ht
    obtain ⟨b10, ht⟩ := ht
    refine x_iast (pc2 := 242) k9 b10 dX12_land_241 rfl ?_
    refine x_iinc (pc2 := 245) 4 [1, 2, 3, 4, 0] (i := 4) (x := x4) (v := (x4 + 1)) (lv2 := [(0, .ref a0), (1, .int x1), (2, .int x2), (3, .int x3), (4, .int (x4 + 1))]) rfl (iinc_eq (by decide) _) (by decide) rfl dX12_land_242 rfl ?_
    refine x_goto 224 dX12_land_245 (by decide) ?_
    exact ht
def T_X12_land_251 (G : GG) (d : Nat) (h : HP) (Q : Option Value → HP → Prop) (a0 : Nat) (x1 : Int32) (x2 : Int32) (x3 : Int32) (x4 : Int32) : Prop :=
  Kd G h a0 12 ∧ (((hI h a0 10) ≤ x4 → Ex G d mX12_land 318 [(0, .ref a0), (1, .int x1), (2, .int x2), (3, .int x3), (4, .int 0)] [] h Q) ∧ (¬ (hI h a0 10) ≤ x4 → ∃ q3, hR h a0 12 = some q3 ∧ Kd G h q3 14 ∧ vp_in (4 * x4) (hN h q3) ∧ vp_in ((4 * x4) + 1) (hN h q3) ∧ vp_in ((4 * x4) + 2) (hN h q3) ∧ vp_in ((4 * x4) + 3) (hN h q3) ∧ Cal G (d - 1) mX12_comes [.ref a0, .int x4, .int (hI h q3 (4 * x4).toNatClampNeg), .int (hI h q3 ((4 * x4) + 1).toNatClampNeg), .int (hI h q3 ((4 * x4) + 2).toNatClampNeg), .int (hI h q3 ((4 * x4) + 3).toNatClampNeg), .int (-1)] h (fun r10 h11 => r10 = none ∧ Ex G d mX12_land 251 [(0, .ref a0), (1, .int x1), (2, .int x2), (3, .int x3), (4, .int (x4 + 1))] [] h11 Q)))
set_option maxRecDepth 20000 in
theorem t_X12_land_251 {G : GG} {d : Nat} {h : HP} {Q : Option Value → HP → Prop} {a0 : Nat} {x1 : Int32} {x2 : Int32} {x3 : Int32} {x4 : Int32} (hd1 : 1 ≤ d) (ht : T_X12_land_251 G d h Q a0 x1 x2 x3 x4) : Ex G d mX12_land 251 [(0, .ref a0), (1, .int x1), (2, .int x2), (3, .int x3), (4, .int x4)] [] h Q := by
  unfold T_X12_land_251 at ht
  refine x_iload (pc2 := 253) 4 (n := 4) (x := x4) rfl dX12_land_251 rfl ?_
  refine x_aload_n (pc2 := 254) 0 (n := 0) (x := a0) rfl dX12_land_253 rfl ?_
  obtain ⟨k1, ht⟩ := ht
  refine y_getI (pc2 := 257) (κ := 12) (k := 10) fl_X12_233 (by decide) (by decide) k1 rfl dX12_land_254 rfl ?_
  refine x_icmp_ge (pc2 := 260) 315 dX12_land_257 (by decide) rfl (fun c2 => ?_) (fun c2 => ?_)
  · replace ht := ht.1 c2
    refine x_iconst (pc2 := 316) (v := 0) (by decide) dX12_land_315 rfl ?_
    refine x_istore (pc2 := 318) [1, 2, 3, 4, 0] (n := 4) (x := 0) (lv2 := [(0, .ref a0), (1, .int x1), (2, .int x2), (3, .int x3), (4, .int 0)]) (by decide) rfl dX12_land_316 rfl ?_
    exact ht
  · replace ht := ht.2 c2
    refine x_aload_n (pc2 := 261) 0 (n := 0) (x := a0) rfl dX12_land_260 rfl ?_
    refine x_iload (pc2 := 263) 4 (n := 4) (x := x4) rfl dX12_land_261 rfl ?_
    refine x_aload_n (pc2 := 264) 0 (n := 0) (x := a0) rfl dX12_land_263 rfl ?_
    obtain ⟨q3, e4, ht⟩ := ht
    refine y_getR (pc2 := 267) (κ := 12) (k := 12) fl_X12_35 (by decide) (by decide) k1 rfl e4 dX12_land_264 rfl ?_
    refine x_iconst (pc2 := 268) (v := 4) (by decide) dX12_land_267 rfl ?_
    refine x_iload (pc2 := 270) 4 (n := 4) (x := x4) rfl dX12_land_268 rfl ?_
    refine x_imul (pc2 := 271) dX12_land_270 rfl ?_
    obtain ⟨k5, ht⟩ := ht
    obtain ⟨b6, ht⟩ := ht
    refine x_iald (pc2 := 272) k5 b6 dX12_land_271 rfl ?_
    refine x_aload_n (pc2 := 273) 0 (n := 0) (x := a0) rfl dX12_land_272 rfl ?_
    refine y_getR (pc2 := 276) (κ := 12) (k := 12) fl_X12_35 (by decide) (by decide) k1 rfl e4 dX12_land_273 rfl ?_
    refine x_iconst (pc2 := 277) (v := 4) (by decide) dX12_land_276 rfl ?_
    refine x_iload (pc2 := 279) 4 (n := 4) (x := x4) rfl dX12_land_277 rfl ?_
    refine x_imul (pc2 := 280) dX12_land_279 rfl ?_
    refine x_iconst (pc2 := 281) (v := 1) (by decide) dX12_land_280 rfl ?_
    refine x_iadd (pc2 := 282) dX12_land_281 rfl ?_
    obtain ⟨b7, ht⟩ := ht
    refine x_iald (pc2 := 283) k5 b7 dX12_land_282 rfl ?_
    refine x_aload_n (pc2 := 284) 0 (n := 0) (x := a0) rfl dX12_land_283 rfl ?_
    refine y_getR (pc2 := 287) (κ := 12) (k := 12) fl_X12_35 (by decide) (by decide) k1 rfl e4 dX12_land_284 rfl ?_
    refine x_iconst (pc2 := 288) (v := 4) (by decide) dX12_land_287 rfl ?_
    refine x_iload (pc2 := 290) 4 (n := 4) (x := x4) rfl dX12_land_288 rfl ?_
    refine x_imul (pc2 := 291) dX12_land_290 rfl ?_
    refine x_iconst (pc2 := 292) (v := 2) (by decide) dX12_land_291 rfl ?_
    refine x_iadd (pc2 := 293) dX12_land_292 rfl ?_
    obtain ⟨b8, ht⟩ := ht
    refine x_iald (pc2 := 294) k5 b8 dX12_land_293 rfl ?_
    refine x_aload_n (pc2 := 295) 0 (n := 0) (x := a0) rfl dX12_land_294 rfl ?_
    refine y_getR (pc2 := 298) (κ := 12) (k := 12) fl_X12_35 (by decide) (by decide) k1 rfl e4 dX12_land_295 rfl ?_
    refine x_iconst (pc2 := 299) (v := 4) (by decide) dX12_land_298 rfl ?_
    refine x_iload (pc2 := 301) 4 (n := 4) (x := x4) rfl dX12_land_299 rfl ?_
    refine x_imul (pc2 := 302) dX12_land_301 rfl ?_
    refine x_iconst (pc2 := 303) (v := 3) (by decide) dX12_land_302 rfl ?_
    refine x_iadd (pc2 := 304) dX12_land_303 rfl ?_
    obtain ⟨b9, ht⟩ := ht
    refine x_iald (pc2 := 305) k5 b9 dX12_land_304 rfl ?_
    refine x_iconst (pc2 := 306) (v := (-1)) (by decide) dX12_land_305 rfl ?_
    refine x_callV (pc2 := 309) (As := [.int x4, .int (hI h q3 (4 * x4).toNatClampNeg), .int (hI h q3 ((4 * x4) + 1).toNatClampNeg), .int (hI h q3 ((4 * x4) + 2).toNatClampNeg), .int (hI h q3 ((4 * x4) + 3).toNatClampNeg), .int (-1)]) (rest := []) (b := a0) mv_X12_comes ml_X12_287 k1 rfl rfl (Nat.le_of_ble_eq_true rfl) hd1 dX12_land_306 rfl (ht.mono (fun r10 h11 p12 ht' => ?_))
    clear ht
    obtain ⟨rfl, ht⟩ := ht'
    show Ex G d mX12_land 309 [(0, .ref a0), (1, .int x1), (2, .int x2), (3, .int x3), (4, .int x4)] [] h11 Q
    refine x_iinc (pc2 := 312) 4 [1, 2, 3, 4, 0] (i := 4) (x := x4) (v := (x4 + 1)) (lv2 := [(0, .ref a0), (1, .int x1), (2, .int x2), (3, .int x3), (4, .int (x4 + 1))]) rfl (iinc_eq (by decide) _) (by decide) rfl dX12_land_309 rfl ?_
    refine x_goto 251 dX12_land_312 (by decide) ?_
    exact ht
def T_X12_land_318 (G : GG) (d : Nat) (h : HP) (Q : Option Value → HP → Prop) (a0 : Nat) (x1 : Int32) (x2 : Int32) (x3 : Int32) (x4 : Int32) : Prop :=
  ((6 ≤ x4 → Kd G h a0 12 ∧ Q (some (.int (hI h a0 10))) h) ∧ (¬ 6 ≤ x4 → Kd G h a0 12 ∧ ∃ q4, hR h a0 29 = some q4 ∧ Kd G h q4 14 ∧ vp_in (2400 + (6 * x4)) (hN h q4) ∧ Ex G d mX12_land 318 [(0, .ref a0), (1, .int x1), (2, .int x2), (3, .int x3), (4, .int (x4 + 1))] [] (sI h q4 (2400 + (6 * x4)).toNatClampNeg 0) Q))
set_option maxRecDepth 20000 in
theorem t_X12_land_318 {G : GG} {d : Nat} {h : HP} {Q : Option Value → HP → Prop} {a0 : Nat} {x1 : Int32} {x2 : Int32} {x3 : Int32} {x4 : Int32} (ht : T_X12_land_318 G d h Q a0 x1 x2 x3 x4) : Ex G d mX12_land 318 [(0, .ref a0), (1, .int x1), (2, .int x2), (3, .int x3), (4, .int x4)] [] h Q := by
  unfold T_X12_land_318 at ht
  refine x_iload (pc2 := 320) 4 (n := 4) (x := x4) rfl dX12_land_318 rfl ?_
  refine x_bipush (pc2 := 322) (v := 6) (by decide) dX12_land_320 rfl ?_
  refine x_icmp_ge (pc2 := 325) 346 dX12_land_322 (by decide) rfl (fun c1 => ?_) (fun c1 => ?_)
  · replace ht := ht.1 c1
    refine x_aload_n (pc2 := 347) 0 (n := 0) (x := a0) rfl dX12_land_346 rfl ?_
    obtain ⟨k2, ht⟩ := ht
    refine y_getI (pc2 := 350) (κ := 12) (k := 10) fl_X12_233 (by decide) (by decide) k2 rfl dX12_land_347 rfl ?_
    exact x_ret (ty := .int) rfl rfl dX12_land_350 ht
  · replace ht := ht.2 c1
    refine x_aload_n (pc2 := 326) 0 (n := 0) (x := a0) rfl dX12_land_325 rfl ?_
    obtain ⟨k3, ht⟩ := ht
    obtain ⟨q4, e5, ht⟩ := ht
    refine y_getR (pc2 := 329) (κ := 12) (k := 29) fl_X12_48 (by decide) (by decide) k3 rfl e5 dX12_land_326 rfl ?_
    refine x_sipush (pc2 := 332) (v := 2400) (by decide) dX12_land_329 rfl ?_
    refine x_bipush (pc2 := 334) (v := 6) (by decide) dX12_land_332 rfl ?_
    refine x_iload (pc2 := 336) 4 (n := 4) (x := x4) rfl dX12_land_334 rfl ?_
    refine x_imul (pc2 := 337) dX12_land_336 rfl ?_
    refine x_iadd (pc2 := 338) dX12_land_337 rfl ?_
    refine x_iconst (pc2 := 339) (v := 0) (by decide) dX12_land_338 rfl ?_
    obtain ⟨k6, ht⟩ := ht
    obtain ⟨b7, ht⟩ := ht
    refine x_iast (pc2 := 340) k6 b7 dX12_land_339 rfl ?_
    refine x_iinc (pc2 := 343) 4 [1, 2, 3, 4, 0] (i := 4) (x := x4) (v := (x4 + 1)) (lv2 := [(0, .ref a0), (1, .int x1), (2, .int x2), (3, .int x3), (4, .int (x4 + 1))]) rfl (iinc_eq (by decide) _) (by decide) rfl dX12_land_340 rfl ?_
    refine x_goto 318 dX12_land_343 (by decide) ?_
    exact ht
