def T_L_law (G : GG) (d : Nat) (h : HP) (Q : Option Value → HP → Prop)  : Prop :=
  ∀ q1 h2, q1 = hZ h → h2 = nw h 11 16 → Cal G (d - 1) mX11_init [.ref q1] h2 (fun r6 h7 => r6 = none ∧ ∀ q9 h10, q9 = hZ h7 → h10 = nw h7 12 51 → Cal G (d - 1) mX12_init [.ref q9] h10 (fun r14 h15 => r14 = none ∧ Ex G d mL_law 18 [(0, .ref (G.2.1 3)), (1, .ref q1), (2, .ref q9), (3, .int 0)] [] h15 Q))
set_option maxRecDepth 20000 in
theorem t_L_law {G : GG} {d : Nat} {h : HP} {Q : Option Value → HP → Prop}  (hd1 : 1 ≤ d) (ht : T_L_law G d h Q ) : Ex G d mL_law 0 [(0, .ref (G.2.1 3))] [] h Q := by
  unfold T_L_law at ht
  refine y_new (pc2 := 3) (κ := 11) cl_L_7 (by decide) dL_law_0 rfl (fun q1 h2 e3 e4 p5 => ?_)
  replace ht := ht q1 h2 e3 e4
  refine x_dup (pc2 := 4) rfl dL_law_3 rfl ?_
  refine x_callI (pc2 := 7) (As := []) (rest := [.ref q1]) (b := q1) mi_X11_init ml_L_9 rfl rfl (Nat.le_of_ble_eq_true rfl) hd1 dL_law_4 rfl (ht.mono (fun r6 h7 p8 ht' => ?_))
  clear ht
  obtain ⟨rfl, ht⟩ := ht'
  show Ex G d mL_law 7 [(0, .ref (G.2.1 3))] [.ref q1] h7 Q
  refine x_astore_n (pc2 := 8) [1, 0] (n := 1) (x := q1) (lv2 := [(0, .ref (G.2.1 3)), (1, .ref q1)]) (by decide) rfl dL_law_7 rfl ?_
  refine y_new (pc2 := 11) (κ := 12) cl_L_10 (by decide) dL_law_8 rfl (fun q9 h10 e11 e12 p13 => ?_)
  replace ht := ht q9 h10 e11 e12
  refine x_dup (pc2 := 12) rfl dL_law_11 rfl ?_
  refine x_callI (pc2 := 15) (As := []) (rest := [.ref q9]) (b := q9) mi_X12_init ml_L_12 rfl rfl (Nat.le_of_ble_eq_true rfl) hd1 dL_law_12 rfl (ht.mono (fun r14 h15 p16 ht' => ?_))
  clear ht
  obtain ⟨rfl, ht⟩ := ht'
  show Ex G d mL_law 15 [(0, .ref (G.2.1 3)), (1, .ref q1)] [.ref q9] h15 Q
  refine x_astore_n (pc2 := 16) [1, 2, 0] (n := 2) (x := q9) (lv2 := [(0, .ref (G.2.1 3)), (1, .ref q1), (2, .ref q9)]) (by decide) rfl dL_law_15 rfl ?_
  refine x_iconst (pc2 := 17) (v := 0) (by decide) dL_law_16 rfl ?_
  refine x_istore_n (pc2 := 18) [1, 2, 3, 0] (n := 3) (x := 0) (lv2 := [(0, .ref (G.2.1 3)), (1, .ref q1), (2, .ref q9), (3, .int 0)]) (by decide) rfl dL_law_17 rfl ?_
  exact ht
def T_L_law_18 (G : GG) (d : Nat) (h : HP) (Q : Option Value → HP → Prop) (a1 : Nat) (a2 : Nat) (x3 : Int32) : Prop :=
  ((((Int32.ofNat G.2.2.1) - 9) < x3 → Q (some (.int 1)) h) ∧ (¬ ((Int32.ofNat G.2.2.1) - 9) < x3 → vp_in x3 G.2.2.1 ∧ ((((G.2.2.2 x3.toNatClampNeg) &&& 31) = 0 → vp_in (x3 + 1) G.2.2.1 ∧ vp_in (x3 + 2) G.2.2.1 ∧ vp_in (x3 + 3) G.2.2.1 ∧ vp_in (x3 + 4) G.2.2.1 ∧ vp_in (x3 + 5) G.2.2.1 ∧ Kd G h a1 11 ∧ Cal G (d - 1) mX11_feed [.ref a1, .int (G.2.2.2 (x3 + 1).toNatClampNeg), .int (G.2.2.2 (x3 + 2).toNatClampNeg), .int (G.2.2.2 (x3 + 3).toNatClampNeg), .int (G.2.2.2 (x3 + 4).toNatClampNeg), .int (G.2.2.2 (x3 + 5).toNatClampNeg)] h (fun r9 h10 => ∃ v13, r9 = some (.int v13) ∧ vp_in (x3 + 1) G.2.2.1 ∧ vp_in (x3 + 2) G.2.2.1 ∧ vp_in (x3 + 3) G.2.2.1 ∧ vp_in (x3 + 4) G.2.2.1 ∧ vp_in (x3 + 5) G.2.2.1 ∧ Kd G h10 a2 12 ∧ Cal G (d - 1) mX12_feed [.ref a2, .int (G.2.2.2 (x3 + 1).toNatClampNeg), .int (G.2.2.2 (x3 + 2).toNatClampNeg), .int (G.2.2.2 (x3 + 3).toNatClampNeg), .int (G.2.2.2 (x3 + 4).toNatClampNeg), .int (G.2.2.2 (x3 + 5).toNatClampNeg)] h10 (fun r19 h20 => ∃ v23, r19 = some (.int v23) ∧ ((v13 = v23 → Ex G d mL_law 18 [(0, .ref (G.2.1 3)), (1, .ref a1), (2, .ref a2), (3, .int (x3 + 9))] [] h20 Q) ∧ (¬ v13 = v23 → Q (some (.int 0)) h20))))) ∧ (¬ ((G.2.2.2 x3.toNatClampNeg) &&& 31) = 0 → ((((G.2.2.2 x3.toNatClampNeg) &&& 31) = 1 → vp_in (x3 + 1) G.2.2.1 ∧ Kd G h a1 11 ∧ Cal G (d - 1) mX11_end [.ref a1, .int (G.2.2.2 (x3 + 1).toNatClampNeg)] h (fun r27 h28 => ∃ v31, r27 = some (.int v31) ∧ vp_in (x3 + 1) G.2.2.1 ∧ Kd G h28 a2 12 ∧ Cal G (d - 1) mX12_end [.ref a2, .int (G.2.2.2 (x3 + 1).toNatClampNeg)] h28 (fun r33 h34 => ∃ v37, r33 = some (.int v37) ∧ ((v31 = v37 → Ex G d mL_law 18 [(0, .ref (G.2.1 3)), (1, .ref a1), (2, .ref a2), (3, .int (x3 + 9))] [] h34 Q) ∧ (¬ v31 = v37 → Q (some (.int 0)) h34))))) ∧ (¬ ((G.2.2.2 x3.toNatClampNeg) &&& 31) = 1 → ((((G.2.2.2 x3.toNatClampNeg) &&& 31) = 2 → Kd G h a1 11 ∧ Cal G (d - 1) mX11_land [.ref a1] h (fun r40 h41 => ∃ v44, r40 = some (.int v44) ∧ Kd G h41 a2 12 ∧ Cal G (d - 1) mX12_land [.ref a2] h41 (fun r45 h46 => ∃ v49, r45 = some (.int v49) ∧ ((v44 = v49 → Ex G d mL_law 18 [(0, .ref (G.2.1 3)), (1, .ref a1), (2, .ref a2), (3, .int (x3 + 9))] [] h46 Q) ∧ (¬ v44 = v49 → Q (some (.int 0)) h46))))) ∧ (¬ ((G.2.2.2 x3.toNatClampNeg) &&& 31) = 2 → ((((G.2.2.2 x3.toNatClampNeg) &&& 31) = 3 → vp_in (x3 + 1) G.2.2.1 ∧ Kd G h a1 11 ∧ Cal G (d - 1) mX11_text [.ref a1, .int (G.2.2.2 (x3 + 1).toNatClampNeg)] h (fun r53 h54 => ∃ v57, r53 = some (.int v57) ∧ vp_in (x3 + 1) G.2.2.1 ∧ Kd G h54 a2 12 ∧ Cal G (d - 1) mX12_text [.ref a2, .int (G.2.2.2 (x3 + 1).toNatClampNeg)] h54 (fun r59 h60 => ∃ v63, r59 = some (.int v63) ∧ ((v57 = v63 → Ex G d mL_law 18 [(0, .ref (G.2.1 3)), (1, .ref a1), (2, .ref a2), (3, .int (x3 + 9))] [] h60 Q) ∧ (¬ v57 = v63 → Q (some (.int 0)) h60))))) ∧ (¬ ((G.2.2.2 x3.toNatClampNeg) &&& 31) = 3 → ((((G.2.2.2 x3.toNatClampNeg) &&& 31) = 4 → vp_in (x3 + 1) G.2.2.1 ∧ vp_in (x3 + 2) G.2.2.1 ∧ vp_in (x3 + 3) G.2.2.1 ∧ Kd G h a1 11 ∧ Cal G (d - 1) mX11_like [.ref a1, .int (G.2.2.2 (x3 + 1).toNatClampNeg), .int (G.2.2.2 (x3 + 2).toNatClampNeg), .int (G.2.2.2 (x3 + 3).toNatClampNeg)] h (fun r69 h70 => ∃ v73, r69 = some (.int v73) ∧ vp_in (x3 + 1) G.2.2.1 ∧ vp_in (x3 + 2) G.2.2.1 ∧ vp_in (x3 + 3) G.2.2.1 ∧ Kd G h70 a2 12 ∧ Cal G (d - 1) mX12_like [.ref a2, .int (G.2.2.2 (x3 + 1).toNatClampNeg), .int (G.2.2.2 (x3 + 2).toNatClampNeg), .int (G.2.2.2 (x3 + 3).toNatClampNeg)] h70 (fun r77 h78 => ∃ v81, r77 = some (.int v81) ∧ ((v73 = v81 → Ex G d mL_law 18 [(0, .ref (G.2.1 3)), (1, .ref a1), (2, .ref a2), (3, .int (x3 + 9))] [] h78 Q) ∧ (¬ v73 = v81 → Q (some (.int 0)) h78))))) ∧ (¬ ((G.2.2.2 x3.toNatClampNeg) &&& 31) = 4 → ((((G.2.2.2 x3.toNatClampNeg) &&& 31) = 5 → vp_in (x3 + 1) G.2.2.1 ∧ vp_in (x3 + 2) G.2.2.1 ∧ vp_in (x3 + 3) G.2.2.1 ∧ vp_in (x3 + 4) G.2.2.1 ∧ vp_in (x3 + 5) G.2.2.1 ∧ vp_in (x3 + 6) G.2.2.1 ∧ vp_in (x3 + 7) G.2.2.1 ∧ vp_in (x3 + 8) G.2.2.1 ∧ Kd G h a1 11 ∧ Cal G (d - 1) mX11_can [.ref a1, .int (G.2.2.2 (x3 + 1).toNatClampNeg), .int (G.2.2.2 (x3 + 2).toNatClampNeg), .int (G.2.2.2 (x3 + 3).toNatClampNeg), .int (G.2.2.2 (x3 + 4).toNatClampNeg), .int (G.2.2.2 (x3 + 5).toNatClampNeg), .int (G.2.2.2 (x3 + 6).toNatClampNeg), .int (G.2.2.2 (x3 + 7).toNatClampNeg), .int (G.2.2.2 (x3 + 8).toNatClampNeg)] h (fun r92 h93 => ∃ v96, r92 = some (.int v96) ∧ vp_in (x3 + 1) G.2.2.1 ∧ vp_in (x3 + 2) G.2.2.1 ∧ vp_in (x3 + 3) G.2.2.1 ∧ vp_in (x3 + 4) G.2.2.1 ∧ vp_in (x3 + 5) G.2.2.1 ∧ vp_in (x3 + 6) G.2.2.1 ∧ vp_in (x3 + 7) G.2.2.1 ∧ vp_in (x3 + 8) G.2.2.1 ∧ Kd G h93 a2 12 ∧ Cal G (d - 1) mX12_can [.ref a2, .int (G.2.2.2 (x3 + 1).toNatClampNeg), .int (G.2.2.2 (x3 + 2).toNatClampNeg), .int (G.2.2.2 (x3 + 3).toNatClampNeg), .int (G.2.2.2 (x3 + 4).toNatClampNeg), .int (G.2.2.2 (x3 + 5).toNatClampNeg), .int (G.2.2.2 (x3 + 6).toNatClampNeg), .int (G.2.2.2 (x3 + 7).toNatClampNeg), .int (G.2.2.2 (x3 + 8).toNatClampNeg)] h93 (fun r105 h106 => ∃ v109, r105 = some (.int v109) ∧ ((v96 = v109 → Ex G d mL_law 18 [(0, .ref (G.2.1 3)), (1, .ref a1), (2, .ref a2), (3, .int (x3 + 9))] [] h106 Q) ∧ (¬ v96 = v109 → Q (some (.int 0)) h106))))) ∧ (¬ ((G.2.2.2 x3.toNatClampNeg) &&& 31) = 5 → ((((G.2.2.2 x3.toNatClampNeg) &&& 31) = 6 → vp_in (x3 + 1) G.2.2.1 ∧ vp_in (x3 + 2) G.2.2.1 ∧ vp_in (x3 + 3) G.2.2.1 ∧ vp_in (x3 + 4) G.2.2.1 ∧ vp_in (x3 + 5) G.2.2.1 ∧ vp_in (x3 + 6) G.2.2.1 ∧ vp_in (x3 + 7) G.2.2.1 ∧ vp_in (x3 + 8) G.2.2.1 ∧ Kd G h a1 11 ∧ Cal G (d - 1) mX11_build [.ref a1, .int (G.2.2.2 (x3 + 1).toNatClampNeg), .int (G.2.2.2 (x3 + 2).toNatClampNeg), .int (G.2.2.2 (x3 + 3).toNatClampNeg), .int (G.2.2.2 (x3 + 4).toNatClampNeg), .int (G.2.2.2 (x3 + 5).toNatClampNeg), .int (G.2.2.2 (x3 + 6).toNatClampNeg), .int (G.2.2.2 (x3 + 7).toNatClampNeg), .int (G.2.2.2 (x3 + 8).toNatClampNeg)] h (fun r120 h121 => ∃ v124, r120 = some (.int v124) ∧ vp_in (x3 + 1) G.2.2.1 ∧ vp_in (x3 + 2) G.2.2.1 ∧ vp_in (x3 + 3) G.2.2.1 ∧ vp_in (x3 + 4) G.2.2.1 ∧ vp_in (x3 + 5) G.2.2.1 ∧ vp_in (x3 + 6) G.2.2.1 ∧ vp_in (x3 + 7) G.2.2.1 ∧ vp_in (x3 + 8) G.2.2.1 ∧ Kd G h121 a2 12 ∧ Cal G (d - 1) mX12_build [.ref a2, .int (G.2.2.2 (x3 + 1).toNatClampNeg), .int (G.2.2.2 (x3 + 2).toNatClampNeg), .int (G.2.2.2 (x3 + 3).toNatClampNeg), .int (G.2.2.2 (x3 + 4).toNatClampNeg), .int (G.2.2.2 (x3 + 5).toNatClampNeg), .int (G.2.2.2 (x3 + 6).toNatClampNeg), .int (G.2.2.2 (x3 + 7).toNatClampNeg), .int (G.2.2.2 (x3 + 8).toNatClampNeg)] h121 (fun r133 h134 => ∃ v137, r133 = some (.int v137) ∧ ((v124 = v137 → Ex G d mL_law 18 [(0, .ref (G.2.1 3)), (1, .ref a1), (2, .ref a2), (3, .int (x3 + 9))] [] h134 Q) ∧ (¬ v124 = v137 → Q (some (.int 0)) h134))))) ∧ (¬ ((G.2.2.2 x3.toNatClampNeg) &&& 31) = 6 → ((((G.2.2.2 x3.toNatClampNeg) &&& 31) = 7 → vp_in (x3 + 1) G.2.2.1 ∧ vp_in (x3 + 2) G.2.2.1 ∧ vp_in (x3 + 3) G.2.2.1 ∧ vp_in (x3 + 4) G.2.2.1 ∧ vp_in (x3 + 5) G.2.2.1 ∧ vp_in (x3 + 6) G.2.2.1 ∧ vp_in (x3 + 7) G.2.2.1 ∧ vp_in (x3 + 8) G.2.2.1 ∧ Kd G h a1 11 ∧ Cal G (d - 1) mX11_wish [.ref a1, .int (G.2.2.2 (x3 + 1).toNatClampNeg), .int (G.2.2.2 (x3 + 2).toNatClampNeg), .int (G.2.2.2 (x3 + 3).toNatClampNeg), .int (G.2.2.2 (x3 + 4).toNatClampNeg), .int (G.2.2.2 (x3 + 5).toNatClampNeg), .int (G.2.2.2 (x3 + 6).toNatClampNeg), .int (G.2.2.2 (x3 + 7).toNatClampNeg), .int (G.2.2.2 (x3 + 8).toNatClampNeg)] h (fun r148 h149 => ∃ v152, r148 = some (.long v152) ∧ vp_in (x3 + 1) G.2.2.1 ∧ vp_in (x3 + 2) G.2.2.1 ∧ vp_in (x3 + 3) G.2.2.1 ∧ vp_in (x3 + 4) G.2.2.1 ∧ vp_in (x3 + 5) G.2.2.1 ∧ vp_in (x3 + 6) G.2.2.1 ∧ vp_in (x3 + 7) G.2.2.1 ∧ vp_in (x3 + 8) G.2.2.1 ∧ Kd G h149 a2 12 ∧ Cal G (d - 1) mX12_wish [.ref a2, .int (G.2.2.2 (x3 + 1).toNatClampNeg), .int (G.2.2.2 (x3 + 2).toNatClampNeg), .int (G.2.2.2 (x3 + 3).toNatClampNeg), .int (G.2.2.2 (x3 + 4).toNatClampNeg), .int (G.2.2.2 (x3 + 5).toNatClampNeg), .int (G.2.2.2 (x3 + 6).toNatClampNeg), .int (G.2.2.2 (x3 + 7).toNatClampNeg), .int (G.2.2.2 (x3 + 8).toNatClampNeg)] h149 (fun r161 h162 => ∃ v165, r161 = some (.long v165) ∧ (((lg_cmp v152 v165) = 0 → Ex G d mL_law 18 [(0, .ref (G.2.1 3)), (1, .ref a1), (2, .ref a2), (3, .int (x3 + 9))] [] h162 Q) ∧ (¬ (lg_cmp v152 v165) = 0 → Q (some (.int 0)) h162))))) ∧ (¬ ((G.2.2.2 x3.toNatClampNeg) &&& 31) = 7 → ((((G.2.2.2 x3.toNatClampNeg) &&& 31) = 8 → vp_in (x3 + 1) G.2.2.1 ∧ Kd G h a1 11 ∧ Cal G (d - 1) mX11_pull [.ref a1, .int (G.2.2.2 (x3 + 1).toNatClampNeg)] h (fun r169 h170 => ∃ v173, r169 = some (.int v173) ∧ vp_in (x3 + 1) G.2.2.1 ∧ Kd G h170 a2 12 ∧ Cal G (d - 1) mX12_pull [.ref a2, .int (G.2.2.2 (x3 + 1).toNatClampNeg)] h170 (fun r175 h176 => ∃ v179, r175 = some (.int v179) ∧ ((v173 = v179 → Ex G d mL_law 18 [(0, .ref (G.2.1 3)), (1, .ref a1), (2, .ref a2), (3, .int (x3 + 9))] [] h176 Q) ∧ (¬ v173 = v179 → Q (some (.int 0)) h176))))) ∧ (¬ ((G.2.2.2 x3.toNatClampNeg) &&& 31) = 8 → ((((G.2.2.2 x3.toNatClampNeg) &&& 31) = 9 → vp_in (x3 + 1) G.2.2.1 ∧ vp_in (x3 + 2) G.2.2.1 ∧ vp_in (x3 + 3) G.2.2.1 ∧ vp_in (x3 + 4) G.2.2.1 ∧ Kd G h a1 11 ∧ Cal G (d - 1) mX11_gate [.ref a1, .int (G.2.2.2 (x3 + 1).toNatClampNeg), .int (G.2.2.2 (x3 + 2).toNatClampNeg), .int (G.2.2.2 (x3 + 3).toNatClampNeg), .int (G.2.2.2 (x3 + 4).toNatClampNeg)] h (fun r186 h187 => ∃ v190, r186 = some (.int v190) ∧ vp_in (x3 + 1) G.2.2.1 ∧ vp_in (x3 + 2) G.2.2.1 ∧ vp_in (x3 + 3) G.2.2.1 ∧ vp_in (x3 + 4) G.2.2.1 ∧ Kd G h187 a2 12 ∧ Cal G (d - 1) mX12_gate [.ref a2, .int (G.2.2.2 (x3 + 1).toNatClampNeg), .int (G.2.2.2 (x3 + 2).toNatClampNeg), .int (G.2.2.2 (x3 + 3).toNatClampNeg), .int (G.2.2.2 (x3 + 4).toNatClampNeg)] h187 (fun r195 h196 => ∃ v199, r195 = some (.int v199) ∧ ((v190 = v199 → Ex G d mL_law 18 [(0, .ref (G.2.1 3)), (1, .ref a1), (2, .ref a2), (3, .int (x3 + 9))] [] h196 Q) ∧ (¬ v190 = v199 → Q (some (.int 0)) h196))))) ∧ (¬ ((G.2.2.2 x3.toNatClampNeg) &&& 31) = 9 → ((((G.2.2.2 x3.toNatClampNeg) &&& 31) = 10 → vp_in (x3 + 1) G.2.2.1 ∧ vp_in (x3 + 2) G.2.2.1 ∧ vp_in (x3 + 3) G.2.2.1 ∧ (((G.2.2.2 (x3 + 3).toNatClampNeg) = 0 → Ex G d mL_law 735 [(0, .ref (G.2.1 3)), (1, .ref a1), (2, .ref a2), (3, .int x3)] [.int 0, .int (G.2.2.2 (x3 + 2).toNatClampNeg), .int (G.2.2.2 (x3 + 1).toNatClampNeg), .ref a1] h Q) ∧ (¬ (G.2.2.2 (x3 + 3).toNatClampNeg) = 0 → Ex G d mL_law 735 [(0, .ref (G.2.1 3)), (1, .ref a1), (2, .ref a2), (3, .int x3)] [.int 1, .int (G.2.2.2 (x3 + 2).toNatClampNeg), .int (G.2.2.2 (x3 + 1).toNatClampNeg), .ref a1] h Q))) ∧ (¬ ((G.2.2.2 x3.toNatClampNeg) &&& 31) = 10 → ((((G.2.2.2 x3.toNatClampNeg) &&& 31) = 11 → vp_in (x3 + 1) G.2.2.1 ∧ vp_in (x3 + 2) G.2.2.1 ∧ Kd G h a1 11 ∧ Cal G (d - 1) mX11_thing [.ref a1, .int (G.2.2.2 (x3 + 1).toNatClampNeg), .int (G.2.2.2 (x3 + 2).toNatClampNeg)] h (fun r209 h210 => ∃ v213, r209 = some (.int v213) ∧ vp_in (x3 + 1) G.2.2.1 ∧ vp_in (x3 + 2) G.2.2.1 ∧ Kd G h210 a2 12 ∧ Cal G (d - 1) mX12_thing [.ref a2, .int (G.2.2.2 (x3 + 1).toNatClampNeg), .int (G.2.2.2 (x3 + 2).toNatClampNeg)] h210 (fun r216 h217 => ∃ v220, r216 = some (.int v220) ∧ ((v213 = v220 → Ex G d mL_law 18 [(0, .ref (G.2.1 3)), (1, .ref a1), (2, .ref a2), (3, .int (x3 + 9))] [] h217 Q) ∧ (¬ v213 = v220 → Q (some (.int 0)) h217))))) ∧ (¬ ((G.2.2.2 x3.toNatClampNeg) &&& 31) = 11 → ((((G.2.2.2 x3.toNatClampNeg) &&& 31) = 12 → vp_in (x3 + 1) G.2.2.1 ∧ vp_in (x3 + 2) G.2.2.1 ∧ vp_in (x3 + 3) G.2.2.1 ∧ Kd G h a1 11 ∧ Cal G (d - 1) mX11_cell [.ref a1, .int (G.2.2.2 (x3 + 1).toNatClampNeg), .int (G.2.2.2 (x3 + 2).toNatClampNeg), .int (G.2.2.2 (x3 + 3).toNatClampNeg)] h (fun r226 h227 => ∃ v230, r226 = some (.int v230) ∧ vp_in (x3 + 1) G.2.2.1 ∧ vp_in (x3 + 2) G.2.2.1 ∧ vp_in (x3 + 3) G.2.2.1 ∧ Kd G h227 a2 12 ∧ Cal G (d - 1) mX12_cell [.ref a2, .int (G.2.2.2 (x3 + 1).toNatClampNeg), .int (G.2.2.2 (x3 + 2).toNatClampNeg), .int (G.2.2.2 (x3 + 3).toNatClampNeg)] h227 (fun r234 h235 => ∃ v238, r234 = some (.int v238) ∧ ((v230 = v238 → Ex G d mL_law 18 [(0, .ref (G.2.1 3)), (1, .ref a1), (2, .ref a2), (3, .int (x3 + 9))] [] h235 Q) ∧ (¬ v230 = v238 → Q (some (.int 0)) h235))))) ∧ (¬ ((G.2.2.2 x3.toNatClampNeg) &&& 31) = 12 → ((((G.2.2.2 x3.toNatClampNeg) &&& 31) = 13 → vp_in (x3 + 1) G.2.2.1 ∧ vp_in (x3 + 2) G.2.2.1 ∧ Kd G h a1 11 ∧ Cal G (d - 1) mX11_inside [.ref a1, .int (G.2.2.2 (x3 + 1).toNatClampNeg), .int (G.2.2.2 (x3 + 2).toNatClampNeg)] h (fun r243 h244 => ∃ v247, r243 = some (.int v247) ∧ vp_in (x3 + 1) G.2.2.1 ∧ vp_in (x3 + 2) G.2.2.1 ∧ Kd G h244 a2 12 ∧ Cal G (d - 1) mX12_inside [.ref a2, .int (G.2.2.2 (x3 + 1).toNatClampNeg), .int (G.2.2.2 (x3 + 2).toNatClampNeg)] h244 (fun r250 h251 => ∃ v254, r250 = some (.int v254) ∧ ((v247 = v254 → Ex G d mL_law 18 [(0, .ref (G.2.1 3)), (1, .ref a1), (2, .ref a2), (3, .int (x3 + 9))] [] h251 Q) ∧ (¬ v247 = v254 → Q (some (.int 0)) h251))))) ∧ (¬ ((G.2.2.2 x3.toNatClampNeg) &&& 31) = 13 → ((((G.2.2.2 x3.toNatClampNeg) &&& 31) = 14 → vp_in (x3 + 1) G.2.2.1 ∧ vp_in (x3 + 2) G.2.2.1 ∧ vp_in (x3 + 3) G.2.2.1 ∧ vp_in (x3 + 4) G.2.2.1 ∧ vp_in (x3 + 5) G.2.2.1 ∧ vp_in (x3 + 6) G.2.2.1 ∧ vp_in (x3 + 7) G.2.2.1 ∧ Kd G h a1 11 ∧ Cal G (d - 1) mX11_best [.ref a1, .int (G.2.2.2 (x3 + 1).toNatClampNeg), .int (G.2.2.2 (x3 + 2).toNatClampNeg), .int (G.2.2.2 (x3 + 3).toNatClampNeg), .int (G.2.2.2 (x3 + 4).toNatClampNeg), .int (G.2.2.2 (x3 + 5).toNatClampNeg), .int (G.2.2.2 (x3 + 6).toNatClampNeg), .int (G.2.2.2 (x3 + 7).toNatClampNeg)] h (fun r264 h265 => ∃ v268, r264 = some (.int v268) ∧ vp_in (x3 + 1) G.2.2.1 ∧ vp_in (x3 + 2) G.2.2.1 ∧ vp_in (x3 + 3) G.2.2.1 ∧ vp_in (x3 + 4) G.2.2.1 ∧ vp_in (x3 + 5) G.2.2.1 ∧ vp_in (x3 + 6) G.2.2.1 ∧ vp_in (x3 + 7) G.2.2.1 ∧ Kd G h265 a2 12 ∧ Cal G (d - 1) mX12_best [.ref a2, .int (G.2.2.2 (x3 + 1).toNatClampNeg), .int (G.2.2.2 (x3 + 2).toNatClampNeg), .int (G.2.2.2 (x3 + 3).toNatClampNeg), .int (G.2.2.2 (x3 + 4).toNatClampNeg), .int (G.2.2.2 (x3 + 5).toNatClampNeg), .int (G.2.2.2 (x3 + 6).toNatClampNeg), .int (G.2.2.2 (x3 + 7).toNatClampNeg)] h265 (fun r276 h277 => ∃ v280, r276 = some (.int v280) ∧ ((v268 = v280 → Ex G d mL_law 18 [(0, .ref (G.2.1 3)), (1, .ref a1), (2, .ref a2), (3, .int (x3 + 9))] [] h277 Q) ∧ (¬ v268 = v280 → Q (some (.int 0)) h277))))) ∧ (¬ ((G.2.2.2 x3.toNatClampNeg) &&& 31) = 14 → ((((G.2.2.2 x3.toNatClampNeg) &&& 31) = 15 → vp_in (x3 + 1) G.2.2.1 ∧ vp_in (x3 + 2) G.2.2.1 ∧ vp_in (x3 + 3) G.2.2.1 ∧ vp_in (x3 + 4) G.2.2.1 ∧ vp_in (x3 + 5) G.2.2.1 ∧ vp_in (x3 + 6) G.2.2.1 ∧ vp_in (x3 + 7) G.2.2.1 ∧ Kd G h a1 11 ∧ Cal G (d - 1) mX11_ahead [.ref a1, .int (G.2.2.2 (x3 + 1).toNatClampNeg), .int (G.2.2.2 (x3 + 2).toNatClampNeg), .int (G.2.2.2 (x3 + 3).toNatClampNeg), .int (G.2.2.2 (x3 + 4).toNatClampNeg), .int (G.2.2.2 (x3 + 5).toNatClampNeg), .int (G.2.2.2 (x3 + 6).toNatClampNeg), .int (G.2.2.2 (x3 + 7).toNatClampNeg)] h (fun r290 h291 => ∃ v294, r290 = some (.int v294) ∧ vp_in (x3 + 1) G.2.2.1 ∧ vp_in (x3 + 2) G.2.2.1 ∧ vp_in (x3 + 3) G.2.2.1 ∧ vp_in (x3 + 4) G.2.2.1 ∧ vp_in (x3 + 5) G.2.2.1 ∧ vp_in (x3 + 6) G.2.2.1 ∧ vp_in (x3 + 7) G.2.2.1 ∧ Kd G h291 a2 12 ∧ Cal G (d - 1) mX12_ahead [.ref a2, .int (G.2.2.2 (x3 + 1).toNatClampNeg), .int (G.2.2.2 (x3 + 2).toNatClampNeg), .int (G.2.2.2 (x3 + 3).toNatClampNeg), .int (G.2.2.2 (x3 + 4).toNatClampNeg), .int (G.2.2.2 (x3 + 5).toNatClampNeg), .int (G.2.2.2 (x3 + 6).toNatClampNeg), .int (G.2.2.2 (x3 + 7).toNatClampNeg)] h291 (fun r302 h303 => ∃ v306, r302 = some (.int v306) ∧ ((v294 = v306 → Ex G d mL_law 18 [(0, .ref (G.2.1 3)), (1, .ref a1), (2, .ref a2), (3, .int (x3 + 9))] [] h303 Q) ∧ (¬ v294 = v306 → Q (some (.int 0)) h303))))) ∧ (¬ ((G.2.2.2 x3.toNatClampNeg) &&& 31) = 15 → ((((G.2.2.2 x3.toNatClampNeg) &&& 31) = 16 → vp_in (x3 + 1) G.2.2.1 ∧ vp_in (x3 + 2) G.2.2.1 ∧ vp_in (x3 + 3) G.2.2.1 ∧ vp_in (x3 + 4) G.2.2.1 ∧ vp_in (x3 + 5) G.2.2.1 ∧ Kd G h a1 11 ∧ Cal G (d - 1) mX11_least [.ref a1, .int (G.2.2.2 (x3 + 1).toNatClampNeg), .int (G.2.2.2 (x3 + 2).toNatClampNeg), .int (G.2.2.2 (x3 + 3).toNatClampNeg), .int (G.2.2.2 (x3 + 4).toNatClampNeg), .int (G.2.2.2 (x3 + 5).toNatClampNeg)] h (fun r314 h315 => ∃ v318, r314 = some (.int v318) ∧ vp_in (x3 + 1) G.2.2.1 ∧ vp_in (x3 + 2) G.2.2.1 ∧ vp_in (x3 + 3) G.2.2.1 ∧ vp_in (x3 + 4) G.2.2.1 ∧ vp_in (x3 + 5) G.2.2.1 ∧ Kd G h315 a2 12 ∧ Cal G (d - 1) mX12_least [.ref a2, .int (G.2.2.2 (x3 + 1).toNatClampNeg), .int (G.2.2.2 (x3 + 2).toNatClampNeg), .int (G.2.2.2 (x3 + 3).toNatClampNeg), .int (G.2.2.2 (x3 + 4).toNatClampNeg), .int (G.2.2.2 (x3 + 5).toNatClampNeg)] h315 (fun r324 h325 => ∃ v328, r324 = some (.int v328) ∧ ((v318 = v328 → Ex G d mL_law 18 [(0, .ref (G.2.1 3)), (1, .ref a1), (2, .ref a2), (3, .int (x3 + 9))] [] h325 Q) ∧ (¬ v318 = v328 → Q (some (.int 0)) h325))))) ∧ (¬ ((G.2.2.2 x3.toNatClampNeg) &&& 31) = 16 → ((((G.2.2.2 x3.toNatClampNeg) &&& 31) = 17 → vp_in (x3 + 1) G.2.2.1 ∧ vp_in (x3 + 2) G.2.2.1 ∧ vp_in (x3 + 3) G.2.2.1 ∧ Kd G h a1 11 ∧ Cal G (d - 1) mX11_most [.ref a1, .int (G.2.2.2 (x3 + 1).toNatClampNeg), .int (G.2.2.2 (x3 + 2).toNatClampNeg), .int (G.2.2.2 (x3 + 3).toNatClampNeg)] h (fun r334 h335 => ∃ v338, r334 = some (.int v338) ∧ vp_in (x3 + 1) G.2.2.1 ∧ vp_in (x3 + 2) G.2.2.1 ∧ vp_in (x3 + 3) G.2.2.1 ∧ Kd G h335 a2 12 ∧ Cal G (d - 1) mX12_most [.ref a2, .int (G.2.2.2 (x3 + 1).toNatClampNeg), .int (G.2.2.2 (x3 + 2).toNatClampNeg), .int (G.2.2.2 (x3 + 3).toNatClampNeg)] h335 (fun r342 h343 => ∃ v346, r342 = some (.int v346) ∧ ((v338 = v346 → Ex G d mL_law 18 [(0, .ref (G.2.1 3)), (1, .ref a1), (2, .ref a2), (3, .int (x3 + 9))] [] h343 Q) ∧ (¬ v338 = v346 → Q (some (.int 0)) h343))))) ∧ (¬ ((G.2.2.2 x3.toNatClampNeg) &&& 31) = 17 → ((((G.2.2.2 x3.toNatClampNeg) &&& 31) = 18 → vp_in (x3 + 1) G.2.2.1 ∧ Kd G h a1 11 ∧ Cal G (d - 1) mX11_nests [.ref a1, .int (G.2.2.2 (x3 + 1).toNatClampNeg)] h (fun r350 h351 => ∃ v354, r350 = some (.int v354) ∧ vp_in (x3 + 1) G.2.2.1 ∧ Kd G h351 a2 12 ∧ Cal G (d - 1) mX12_nests [.ref a2, .int (G.2.2.2 (x3 + 1).toNatClampNeg)] h351 (fun r356 h357 => ∃ v360, r356 = some (.int v360) ∧ ((v354 = v360 → Ex G d mL_law 18 [(0, .ref (G.2.1 3)), (1, .ref a1), (2, .ref a2), (3, .int (x3 + 9))] [] h357 Q) ∧ (¬ v354 = v360 → Q (some (.int 0)) h357))))) ∧ (¬ ((G.2.2.2 x3.toNatClampNeg) &&& 31) = 18 → ((((G.2.2.2 x3.toNatClampNeg) &&& 31) = 19 → vp_in (x3 + 1) G.2.2.1 ∧ vp_in (x3 + 2) G.2.2.1 ∧ Kd G h a1 11 ∧ Cal G (d - 1) mX11_between [.ref a1, .int (G.2.2.2 (x3 + 1).toNatClampNeg), .int (G.2.2.2 (x3 + 2).toNatClampNeg)] h (fun r365 h366 => ∃ v369, r365 = some (.int v369) ∧ vp_in (x3 + 1) G.2.2.1 ∧ vp_in (x3 + 2) G.2.2.1 ∧ Kd G h366 a2 12 ∧ Cal G (d - 1) mX12_between [.ref a2, .int (G.2.2.2 (x3 + 1).toNatClampNeg), .int (G.2.2.2 (x3 + 2).toNatClampNeg)] h366 (fun r372 h373 => ∃ v376, r372 = some (.int v376) ∧ ((v369 = v376 → Ex G d mL_law 18 [(0, .ref (G.2.1 3)), (1, .ref a1), (2, .ref a2), (3, .int (x3 + 9))] [] h373 Q) ∧ (¬ v369 = v376 → Q (some (.int 0)) h373))))) ∧ (¬ ((G.2.2.2 x3.toNatClampNeg) &&& 31) = 19 → ((((G.2.2.2 x3.toNatClampNeg) &&& 31) = 20 → vp_in (x3 + 1) G.2.2.1 ∧ vp_in (x3 + 2) G.2.2.1 ∧ vp_in (x3 + 3) G.2.2.1 ∧ vp_in (x3 + 4) G.2.2.1 ∧ vp_in (x3 + 5) G.2.2.1 ∧ vp_in (x3 + 6) G.2.2.1 ∧ Kd G h a1 11 ∧ Cal G (d - 1) mX11_way [.ref a1, .int (G.2.2.2 (x3 + 1).toNatClampNeg), .int (G.2.2.2 (x3 + 2).toNatClampNeg), .int (G.2.2.2 (x3 + 3).toNatClampNeg), .int (G.2.2.2 (x3 + 4).toNatClampNeg), .int (G.2.2.2 (x3 + 5).toNatClampNeg), .int (G.2.2.2 (x3 + 6).toNatClampNeg)] h (fun r385 h386 => ∃ v389, r385 = some (.int v389) ∧ vp_in (x3 + 1) G.2.2.1 ∧ vp_in (x3 + 2) G.2.2.1 ∧ vp_in (x3 + 3) G.2.2.1 ∧ vp_in (x3 + 4) G.2.2.1 ∧ vp_in (x3 + 5) G.2.2.1 ∧ vp_in (x3 + 6) G.2.2.1 ∧ Kd G h386 a2 12 ∧ Cal G (d - 1) mX12_way [.ref a2, .int (G.2.2.2 (x3 + 1).toNatClampNeg), .int (G.2.2.2 (x3 + 2).toNatClampNeg), .int (G.2.2.2 (x3 + 3).toNatClampNeg), .int (G.2.2.2 (x3 + 4).toNatClampNeg), .int (G.2.2.2 (x3 + 5).toNatClampNeg), .int (G.2.2.2 (x3 + 6).toNatClampNeg)] h386 (fun r396 h397 => ∃ v400, r396 = some (.int v400) ∧ ((v389 = v400 → Ex G d mL_law 18 [(0, .ref (G.2.1 3)), (1, .ref a1), (2, .ref a2), (3, .int (x3 + 9))] [] h397 Q) ∧ (¬ v389 = v400 → Q (some (.int 0)) h397))))) ∧ (¬ ((G.2.2.2 x3.toNatClampNeg) &&& 31) = 20 → ((((G.2.2.2 x3.toNatClampNeg) &&& 31) = 21 → vp_in (x3 + 1) G.2.2.1 ∧ vp_in (x3 + 2) G.2.2.1 ∧ vp_in (x3 + 3) G.2.2.1 ∧ vp_in (x3 + 4) G.2.2.1 ∧ vp_in (x3 + 5) G.2.2.1 ∧ vp_in (x3 + 6) G.2.2.1 ∧ Kd G h a1 11 ∧ Cal G (d - 1) mX11_errand [.ref a1, .int (G.2.2.2 (x3 + 1).toNatClampNeg), .int (G.2.2.2 (x3 + 2).toNatClampNeg), .int (G.2.2.2 (x3 + 3).toNatClampNeg), .int (G.2.2.2 (x3 + 4).toNatClampNeg), .int (G.2.2.2 (x3 + 5).toNatClampNeg), .int (G.2.2.2 (x3 + 6).toNatClampNeg)] h (fun r409 h410 => ∃ v413, r409 = some (.int v413) ∧ vp_in (x3 + 1) G.2.2.1 ∧ vp_in (x3 + 2) G.2.2.1 ∧ vp_in (x3 + 3) G.2.2.1 ∧ vp_in (x3 + 4) G.2.2.1 ∧ vp_in (x3 + 5) G.2.2.1 ∧ vp_in (x3 + 6) G.2.2.1 ∧ Kd G h410 a2 12 ∧ Cal G (d - 1) mX12_errand [.ref a2, .int (G.2.2.2 (x3 + 1).toNatClampNeg), .int (G.2.2.2 (x3 + 2).toNatClampNeg), .int (G.2.2.2 (x3 + 3).toNatClampNeg), .int (G.2.2.2 (x3 + 4).toNatClampNeg), .int (G.2.2.2 (x3 + 5).toNatClampNeg), .int (G.2.2.2 (x3 + 6).toNatClampNeg)] h410 (fun r420 h421 => ∃ v424, r420 = some (.int v424) ∧ ((v413 = v424 → Ex G d mL_law 18 [(0, .ref (G.2.1 3)), (1, .ref a1), (2, .ref a2), (3, .int (x3 + 9))] [] h421 Q) ∧ (¬ v413 = v424 → Q (some (.int 0)) h421))))) ∧ (¬ ((G.2.2.2 x3.toNatClampNeg) &&& 31) = 21 → ((((G.2.2.2 x3.toNatClampNeg) &&& 31) = 22 → vp_in (x3 + 1) G.2.2.1 ∧ Kd G h a1 11 ∧ Cal G (d - 1) mX11_sum [.ref a1, .int (G.2.2.2 (x3 + 1).toNatClampNeg)] h (fun r428 h429 => ∃ v432, r428 = some (.int v432) ∧ vp_in (x3 + 1) G.2.2.1 ∧ Kd G h429 a2 12 ∧ Cal G (d - 1) mX12_sum_ [.ref a2, .int (G.2.2.2 (x3 + 1).toNatClampNeg)] h429 (fun r434 h435 => ∃ v438, r434 = some (.int v438) ∧ ((v432 = v438 → Ex G d mL_law 18 [(0, .ref (G.2.1 3)), (1, .ref a1), (2, .ref a2), (3, .int (x3 + 9))] [] h435 Q) ∧ (¬ v432 = v438 → Q (some (.int 0)) h435))))) ∧ (¬ ((G.2.2.2 x3.toNatClampNeg) &&& 31) = 22 → ((((G.2.2.2 x3.toNatClampNeg) &&& 31) = 23 → vp_in (x3 + 1) G.2.2.1 ∧ vp_in (x3 + 2) G.2.2.1 ∧ Kd G h a1 11 ∧ Cal G (d - 1) mX11_where [.ref a1, .int (G.2.2.2 (x3 + 1).toNatClampNeg), .int (G.2.2.2 (x3 + 2).toNatClampNeg)] h (fun r443 h444 => ∃ v447, r443 = some (.int v447) ∧ vp_in (x3 + 1) G.2.2.1 ∧ vp_in (x3 + 2) G.2.2.1 ∧ Kd G h444 a2 12 ∧ Cal G (d - 1) mX12_where [.ref a2, .int (G.2.2.2 (x3 + 1).toNatClampNeg), .int (G.2.2.2 (x3 + 2).toNatClampNeg)] h444 (fun r450 h451 => ∃ v454, r450 = some (.int v454) ∧ ((v447 = v454 → Ex G d mL_law 18 [(0, .ref (G.2.1 3)), (1, .ref a1), (2, .ref a2), (3, .int (x3 + 9))] [] h451 Q) ∧ (¬ v447 = v454 → Q (some (.int 0)) h451))))) ∧ (¬ ((G.2.2.2 x3.toNatClampNeg) &&& 31) = 23 → ((((G.2.2.2 x3.toNatClampNeg) &&& 31) = 24 → vp_in (x3 + 1) G.2.2.1 ∧ Kd G h a1 11 ∧ Cal G (d - 1) mX11_gains [.ref a1, .int (G.2.2.2 (x3 + 1).toNatClampNeg)] h (fun r458 h459 => ∃ v462, r458 = some (.int v462) ∧ vp_in (x3 + 1) G.2.2.1 ∧ Kd G h459 a2 12 ∧ Cal G (d - 1) mX12_gains [.ref a2, .int (G.2.2.2 (x3 + 1).toNatClampNeg)] h459 (fun r464 h465 => ∃ v468, r464 = some (.int v468) ∧ ((v462 = v468 → Ex G d mL_law 18 [(0, .ref (G.2.1 3)), (1, .ref a1), (2, .ref a2), (3, .int (x3 + 9))] [] h465 Q) ∧ (¬ v462 = v468 → Q (some (.int 0)) h465))))) ∧ (¬ ((G.2.2.2 x3.toNatClampNeg) &&& 31) = 24 → ((((G.2.2.2 x3.toNatClampNeg) &&& 31) = 25 → vp_in (x3 + 1) G.2.2.1 ∧ Kd G h a1 11 ∧ Cal G (d - 1) mX11_seed [.ref a1, .int (G.2.2.2 (x3 + 1).toNatClampNeg)] h (fun r472 h473 => ∃ v476, r472 = some (.int v476) ∧ vp_in (x3 + 1) G.2.2.1 ∧ Kd G h473 a2 12 ∧ Cal G (d - 1) mX12_seed [.ref a2, .int (G.2.2.2 (x3 + 1).toNatClampNeg)] h473 (fun r478 h479 => ∃ v482, r478 = some (.int v482) ∧ ((v476 = v482 → Ex G d mL_law 18 [(0, .ref (G.2.1 3)), (1, .ref a1), (2, .ref a2), (3, .int (x3 + 9))] [] h479 Q) ∧ (¬ v476 = v482 → Q (some (.int 0)) h479))))) ∧ (¬ ((G.2.2.2 x3.toNatClampNeg) &&& 31) = 25 → ((((G.2.2.2 x3.toNatClampNeg) &&& 31) = 26 → vp_in (x3 + 1) G.2.2.1 ∧ vp_in (x3 + 2) G.2.2.1 ∧ Kd G h a1 11 ∧ Cal G (d - 1) mX11_years [.ref a1, .int (G.2.2.2 (x3 + 1).toNatClampNeg), .int (G.2.2.2 (x3 + 2).toNatClampNeg)] h (fun r487 h488 => ∃ v491, r487 = some (.int v491) ∧ vp_in (x3 + 1) G.2.2.1 ∧ vp_in (x3 + 2) G.2.2.1 ∧ Kd G h488 a2 12 ∧ Cal G (d - 1) mX12_years [.ref a2, .int (G.2.2.2 (x3 + 1).toNatClampNeg), .int (G.2.2.2 (x3 + 2).toNatClampNeg)] h488 (fun r494 h495 => ∃ v498, r494 = some (.int v498) ∧ ((v491 = v498 → Ex G d mL_law 18 [(0, .ref (G.2.1 3)), (1, .ref a1), (2, .ref a2), (3, .int (x3 + 9))] [] h495 Q) ∧ (¬ v491 = v498 → Q (some (.int 0)) h495))))) ∧ (¬ ((G.2.2.2 x3.toNatClampNeg) &&& 31) = 26 → ((((G.2.2.2 x3.toNatClampNeg) &&& 31) = 27 → vp_in (x3 + 1) G.2.2.1 ∧ vp_in (x3 + 2) G.2.2.1 ∧ vp_in (x3 + 3) G.2.2.1 ∧ Kd G h a1 11 ∧ Cal G (d - 1) mX11_after [.ref a1, .int (G.2.2.2 (x3 + 1).toNatClampNeg), .int (G.2.2.2 (x3 + 2).toNatClampNeg), .int (G.2.2.2 (x3 + 3).toNatClampNeg)] h (fun r504 h505 => ∃ v508, r504 = some (.int v508) ∧ vp_in (x3 + 1) G.2.2.1 ∧ vp_in (x3 + 2) G.2.2.1 ∧ vp_in (x3 + 3) G.2.2.1 ∧ Kd G h505 a2 12 ∧ Cal G (d - 1) mX12_after [.ref a2, .int (G.2.2.2 (x3 + 1).toNatClampNeg), .int (G.2.2.2 (x3 + 2).toNatClampNeg), .int (G.2.2.2 (x3 + 3).toNatClampNeg)] h505 (fun r512 h513 => ∃ v516, r512 = some (.int v516) ∧ ((v508 = v516 → Ex G d mL_law 18 [(0, .ref (G.2.1 3)), (1, .ref a1), (2, .ref a2), (3, .int (x3 + 9))] [] h513 Q) ∧ (¬ v508 = v516 → Q (some (.int 0)) h513))))) ∧ (¬ ((G.2.2.2 x3.toNatClampNeg) &&& 31) = 27 → ((((G.2.2.2 x3.toNatClampNeg) &&& 31) = 28 → vp_in (x3 + 1) G.2.2.1 ∧ Kd G h a1 11 ∧ Cal G (d - 1) mX11_count [.ref a1, .int (G.2.2.2 (x3 + 1).toNatClampNeg)] h (fun r520 h521 => ∃ v524, r520 = some (.int v524) ∧ vp_in (x3 + 1) G.2.2.1 ∧ Kd G h521 a2 12 ∧ Cal G (d - 1) mX12_count [.ref a2, .int (G.2.2.2 (x3 + 1).toNatClampNeg)] h521 (fun r526 h527 => ∃ v530, r526 = some (.int v530) ∧ ((v524 = v530 → Ex G d mL_law 18 [(0, .ref (G.2.1 3)), (1, .ref a1), (2, .ref a2), (3, .int (x3 + 9))] [] h527 Q) ∧ (¬ v524 = v530 → Q (some (.int 0)) h527))))) ∧ (¬ ((G.2.2.2 x3.toNatClampNeg) &&& 31) = 28 → ((((G.2.2.2 x3.toNatClampNeg) &&& 31) = 29 → vp_in (x3 + 1) G.2.2.1 ∧ Kd G h a1 11 ∧ Cal G (d - 1) mX11_image [.ref a1, .int (G.2.2.2 (x3 + 1).toNatClampNeg)] h (fun r534 h535 => ∃ v538, r534 = some (.int v538) ∧ vp_in (x3 + 1) G.2.2.1 ∧ Kd G h535 a2 12 ∧ Cal G (d - 1) mX12_image [.ref a2, .int (G.2.2.2 (x3 + 1).toNatClampNeg)] h535 (fun r540 h541 => ∃ v544, r540 = some (.int v544) ∧ ((v538 = v544 → Ex G d mL_law 18 [(0, .ref (G.2.1 3)), (1, .ref a1), (2, .ref a2), (3, .int (x3 + 9))] [] h541 Q) ∧ (¬ v538 = v544 → Q (some (.int 0)) h541))))) ∧ (¬ ((G.2.2.2 x3.toNatClampNeg) &&& 31) = 29 → ((((G.2.2.2 x3.toNatClampNeg) &&& 31) = 30 → vp_in (x3 + 1) G.2.2.1 ∧ Kd G h a1 11 ∧ Cal G (d - 1) mX11_back [.ref a1, .int (G.2.2.2 (x3 + 1).toNatClampNeg)] h (fun r548 h549 => ∃ v552, r548 = some (.int v552) ∧ vp_in (x3 + 1) G.2.2.1 ∧ Kd G h549 a2 12 ∧ Cal G (d - 1) mX12_back [.ref a2, .int (G.2.2.2 (x3 + 1).toNatClampNeg)] h549 (fun r554 h555 => ∃ v558, r554 = some (.int v558) ∧ ((v552 = v558 → Ex G d mL_law 18 [(0, .ref (G.2.1 3)), (1, .ref a1), (2, .ref a2), (3, .int (x3 + 9))] [] h555 Q) ∧ (¬ v552 = v558 → Q (some (.int 0)) h555))))) ∧ (¬ ((G.2.2.2 x3.toNatClampNeg) &&& 31) = 30 → Ex G d mL_law 18 [(0, .ref (G.2.1 3)), (1, .ref a1), (2, .ref a2), (3, .int (x3 + 9))] [] h Q))))))))))))))))))))))))))))))))))))))))))))))))))))))))))))))))
set_option maxRecDepth 20000 in
theorem t_L_law_18 {G : GG} {d : Nat} {h : HP} {Q : Option Value → HP → Prop} {a1 : Nat} {a2 : Nat} {x3 : Int32} (hd1 : 1 ≤ d) (ht : T_L_law_18 G d h Q a1 a2 x3) : Ex G d mL_law 18 [(0, .ref (G.2.1 3)), (1, .ref a1), (2, .ref a2), (3, .int x3)] [] h Q := by
  unfold T_L_law_18 at ht
  refine x_iload_n (pc2 := 19) 3 (n := 3) (x := x3) rfl dL_law_18 rfl ?_
  refine x_aload_n (pc2 := 20) 0 (n := 0) (x := (G.2.1 3)) rfl dL_law_19 rfl ?_
  refine x_scriptLen (pc2 := 21) dL_law_20 rfl ?_
  refine x_bipush (pc2 := 23) (v := 9) (by decide) dL_law_21 rfl ?_
  refine x_isub (pc2 := 24) dL_law_23 rfl ?_
  refine x_icmp_gt (pc2 := 27) 1618 dL_law_24 (by decide) rfl (fun c1 => ?_) (fun c1 => ?_)
  · replace ht := ht.1 c1
    refine x_iconst (pc2 := 1619) (v := 1) (by decide) dL_law_1618 rfl ?_
    exact x_retZ rfl (Or.inr rfl) dL_law_1619 ht
  · replace ht := ht.2 c1
    refine x_aload_n (pc2 := 28) 0 (n := 0) (x := (G.2.1 3)) rfl dL_law_27 rfl ?_
    refine x_iload_n (pc2 := 29) 3 (n := 3) (x := x3) rfl dL_law_28 rfl ?_
    obtain ⟨b2, ht⟩ := ht
    refine x_script (pc2 := 30) b2 dL_law_29 rfl ?_
    refine x_bipush (pc2 := 32) (v := 31) (by decide) dL_law_30 rfl ?_
    refine x_iand (pc2 := 33) dL_law_32 rfl ?_
    refine y_tcase (x := ((G.2.2.2 x3.toNatClampNeg) &&& 31)) 0 172 dL_law_33 (by decide) (by decide) rfl (by decide) (fun c3 => ?_) (fun c3 => ?_)
    · replace ht := ht.1 c3
      refine x_aload_n (pc2 := 173) 1 (n := 1) (x := a1) rfl dL_law_172 rfl ?_
      refine x_aload_n (pc2 := 174) 0 (n := 0) (x := (G.2.1 3)) rfl dL_law_173 rfl ?_
      refine x_iload_n (pc2 := 175) 3 (n := 3) (x := x3) rfl dL_law_174 rfl ?_
      refine x_iconst (pc2 := 176) (v := 1) (by decide) dL_law_175 rfl ?_
      refine x_iadd (pc2 := 177) dL_law_176 rfl ?_
      obtain ⟨b4, ht⟩ := ht
      refine x_script (pc2 := 178) b4 dL_law_177 rfl ?_
      refine x_aload_n (pc2 := 179) 0 (n := 0) (x := (G.2.1 3)) rfl dL_law_178 rfl ?_
      refine x_iload_n (pc2 := 180) 3 (n := 3) (x := x3) rfl dL_law_179 rfl ?_
      refine x_iconst (pc2 := 181) (v := 2) (by decide) dL_law_180 rfl ?_
      refine x_iadd (pc2 := 182) dL_law_181 rfl ?_
      obtain ⟨b5, ht⟩ := ht
      refine x_script (pc2 := 183) b5 dL_law_182 rfl ?_
      refine x_aload_n (pc2 := 184) 0 (n := 0) (x := (G.2.1 3)) rfl dL_law_183 rfl ?_
      refine x_iload_n (pc2 := 185) 3 (n := 3) (x := x3) rfl dL_law_184 rfl ?_
      refine x_iconst (pc2 := 186) (v := 3) (by decide) dL_law_185 rfl ?_
      refine x_iadd (pc2 := 187) dL_law_186 rfl ?_
      obtain ⟨b6, ht⟩ := ht
      refine x_script (pc2 := 188) b6 dL_law_187 rfl ?_
      refine x_aload_n (pc2 := 189) 0 (n := 0) (x := (G.2.1 3)) rfl dL_law_188 rfl ?_
      refine x_iload_n (pc2 := 190) 3 (n := 3) (x := x3) rfl dL_law_189 rfl ?_
      refine x_iconst (pc2 := 191) (v := 4) (by decide) dL_law_190 rfl ?_
      refine x_iadd (pc2 := 192) dL_law_191 rfl ?_
      obtain ⟨b7, ht⟩ := ht
      refine x_script (pc2 := 193) b7 dL_law_192 rfl ?_
      refine x_aload_n (pc2 := 194) 0 (n := 0) (x := (G.2.1 3)) rfl dL_law_193 rfl ?_
      refine x_iload_n (pc2 := 195) 3 (n := 3) (x := x3) rfl dL_law_194 rfl ?_
      refine x_iconst (pc2 := 196) (v := 5) (by decide) dL_law_195 rfl ?_
      refine x_iadd (pc2 := 197) dL_law_196 rfl ?_
      obtain ⟨b8, ht⟩ := ht
      refine x_script (pc2 := 198) b8 dL_law_197 rfl ?_
      obtain ⟨k12, ht⟩ := ht
      refine x_callV (pc2 := 201) (As := [.int (G.2.2.2 (x3 + 1).toNatClampNeg), .int (G.2.2.2 (x3 + 2).toNatClampNeg), .int (G.2.2.2 (x3 + 3).toNatClampNeg), .int (G.2.2.2 (x3 + 4).toNatClampNeg), .int (G.2.2.2 (x3 + 5).toNatClampNeg)]) (rest := []) (b := a1) mv_X11_feed ml_L_13 k12 rfl rfl (Nat.le_of_ble_eq_true rfl) hd1 dL_law_198 rfl (ht.mono (fun r9 h10 p11 ht' => ?_))
      clear ht
      obtain ⟨v13, rfl, ht⟩ := ht'
      show Ex G d mL_law 201 [(0, .ref (G.2.1 3)), (1, .ref a1), (2, .ref a2), (3, .int x3)] [.int v13] h10 Q
      refine x_aload_n (pc2 := 202) 2 (n := 2) (x := a2) rfl dL_law_201 rfl ?_
      refine x_aload_n (pc2 := 203) 0 (n := 0) (x := (G.2.1 3)) rfl dL_law_202 rfl ?_
      refine x_iload_n (pc2 := 204) 3 (n := 3) (x := x3) rfl dL_law_203 rfl ?_
      refine x_iconst (pc2 := 205) (v := 1) (by decide) dL_law_204 rfl ?_
      refine x_iadd (pc2 := 206) dL_law_205 rfl ?_
      obtain ⟨b14, ht⟩ := ht
      refine x_script (pc2 := 207) b14 dL_law_206 rfl ?_
      refine x_aload_n (pc2 := 208) 0 (n := 0) (x := (G.2.1 3)) rfl dL_law_207 rfl ?_
      refine x_iload_n (pc2 := 209) 3 (n := 3) (x := x3) rfl dL_law_208 rfl ?_
      refine x_iconst (pc2 := 210) (v := 2) (by decide) dL_law_209 rfl ?_
      refine x_iadd (pc2 := 211) dL_law_210 rfl ?_
      obtain ⟨b15, ht⟩ := ht
      refine x_script (pc2 := 212) b15 dL_law_211 rfl ?_
      refine x_aload_n (pc2 := 213) 0 (n := 0) (x := (G.2.1 3)) rfl dL_law_212 rfl ?_
      refine x_iload_n (pc2 := 214) 3 (n := 3) (x := x3) rfl dL_law_213 rfl ?_
      refine x_iconst (pc2 := 215) (v := 3) (by decide) dL_law_214 rfl ?_
      refine x_iadd (pc2 := 216) dL_law_215 rfl ?_
      obtain ⟨b16, ht⟩ := ht
      refine x_script (pc2 := 217) b16 dL_law_216 rfl ?_
      refine x_aload_n (pc2 := 218) 0 (n := 0) (x := (G.2.1 3)) rfl dL_law_217 rfl ?_
      refine x_iload_n (pc2 := 219) 3 (n := 3) (x := x3) rfl dL_law_218 rfl ?_
      refine x_iconst (pc2 := 220) (v := 4) (by decide) dL_law_219 rfl ?_
      refine x_iadd (pc2 := 221) dL_law_220 rfl ?_
      obtain ⟨b17, ht⟩ := ht
      refine x_script (pc2 := 222) b17 dL_law_221 rfl ?_
      refine x_aload_n (pc2 := 223) 0 (n := 0) (x := (G.2.1 3)) rfl dL_law_222 rfl ?_
      refine x_iload_n (pc2 := 224) 3 (n := 3) (x := x3) rfl dL_law_223 rfl ?_
      refine x_iconst (pc2 := 225) (v := 5) (by decide) dL_law_224 rfl ?_
      refine x_iadd (pc2 := 226) dL_law_225 rfl ?_
      obtain ⟨b18, ht⟩ := ht
      refine x_script (pc2 := 227) b18 dL_law_226 rfl ?_
      obtain ⟨k22, ht⟩ := ht
      refine x_callV (pc2 := 230) (As := [.int (G.2.2.2 (x3 + 1).toNatClampNeg), .int (G.2.2.2 (x3 + 2).toNatClampNeg), .int (G.2.2.2 (x3 + 3).toNatClampNeg), .int (G.2.2.2 (x3 + 4).toNatClampNeg), .int (G.2.2.2 (x3 + 5).toNatClampNeg)]) (rest := [.int v13]) (b := a2) mv_X12_feed ml_L_17 k22 rfl rfl (Nat.le_of_ble_eq_true rfl) hd1 dL_law_227 rfl (ht.mono (fun r19 h20 p21 ht' => ?_))
      clear ht
      obtain ⟨v23, rfl, ht⟩ := ht'
      show Ex G d mL_law 230 [(0, .ref (G.2.1 3)), (1, .ref a1), (2, .ref a2), (3, .int x3)] [.int v23, .int v13] h20 Q
      refine x_icmp_eq (pc2 := 233) 1612 dL_law_230 (by decide) rfl (fun c24 => ?_) (fun c24 => ?_)
      · replace ht := ht.1 c24
        refine x_iinc (pc2 := 1615) 3 [1, 2, 3, 0] (i := 3) (x := x3) (v := (x3 + 9)) (lv2 := [(0, .ref (G.2.1 3)), (1, .ref a1), (2, .ref a2), (3, .int (x3 + 9))]) rfl (iinc_eq (by decide) _) (by decide) rfl dL_law_1612 rfl ?_
        refine x_goto 18 dL_law_1615 (by decide) ?_
        exact ht
      · replace ht := ht.2 c24
        refine x_iconst (pc2 := 234) (v := 0) (by decide) dL_law_233 rfl ?_
        exact x_retZ rfl (Or.inl rfl) dL_law_234 ht
    replace ht := ht.2 c3
    refine y_tcase (x := ((G.2.2.2 x3.toNatClampNeg) &&& 31)) 1 235 dL_law_33 (by decide) (by decide) rfl (by decide) (fun c25 => ?_) (fun c25 => ?_)
    · replace ht := ht.1 c25
      refine x_aload_n (pc2 := 236) 1 (n := 1) (x := a1) rfl dL_law_235 rfl ?_
      refine x_aload_n (pc2 := 237) 0 (n := 0) (x := (G.2.1 3)) rfl dL_law_236 rfl ?_
      refine x_iload_n (pc2 := 238) 3 (n := 3) (x := x3) rfl dL_law_237 rfl ?_
      refine x_iconst (pc2 := 239) (v := 1) (by decide) dL_law_238 rfl ?_
      refine x_iadd (pc2 := 240) dL_law_239 rfl ?_
      obtain ⟨b26, ht⟩ := ht
      refine x_script (pc2 := 241) b26 dL_law_240 rfl ?_
      obtain ⟨k30, ht⟩ := ht
      refine x_callV (pc2 := 244) (As := [.int (G.2.2.2 (x3 + 1).toNatClampNeg)]) (rest := []) (b := a1) mv_X11_end ml_L_18 k30 rfl rfl (Nat.le_of_ble_eq_true rfl) hd1 dL_law_241 rfl (ht.mono (fun r27 h28 p29 ht' => ?_))
      clear ht
      obtain ⟨v31, rfl, ht⟩ := ht'
      show Ex G d mL_law 244 [(0, .ref (G.2.1 3)), (1, .ref a1), (2, .ref a2), (3, .int x3)] [.int v31] h28 Q
      refine x_aload_n (pc2 := 245) 2 (n := 2) (x := a2) rfl dL_law_244 rfl ?_
      refine x_aload_n (pc2 := 246) 0 (n := 0) (x := (G.2.1 3)) rfl dL_law_245 rfl ?_
      refine x_iload_n (pc2 := 247) 3 (n := 3) (x := x3) rfl dL_law_246 rfl ?_
      refine x_iconst (pc2 := 248) (v := 1) (by decide) dL_law_247 rfl ?_
      refine x_iadd (pc2 := 249) dL_law_248 rfl ?_
      obtain ⟨b32, ht⟩ := ht
      refine x_script (pc2 := 250) b32 dL_law_249 rfl ?_
      obtain ⟨k36, ht⟩ := ht
      refine x_callV (pc2 := 253) (As := [.int (G.2.2.2 (x3 + 1).toNatClampNeg)]) (rest := [.int v31]) (b := a2) mv_X12_end ml_L_22 k36 rfl rfl (Nat.le_of_ble_eq_true rfl) hd1 dL_law_250 rfl (ht.mono (fun r33 h34 p35 ht' => ?_))
      clear ht
      obtain ⟨v37, rfl, ht⟩ := ht'
      show Ex G d mL_law 253 [(0, .ref (G.2.1 3)), (1, .ref a1), (2, .ref a2), (3, .int x3)] [.int v37, .int v31] h34 Q
      refine x_icmp_eq (pc2 := 256) 1612 dL_law_253 (by decide) rfl (fun c38 => ?_) (fun c38 => ?_)
      · replace ht := ht.1 c38
        refine x_iinc (pc2 := 1615) 3 [1, 2, 3, 0] (i := 3) (x := x3) (v := (x3 + 9)) (lv2 := [(0, .ref (G.2.1 3)), (1, .ref a1), (2, .ref a2), (3, .int (x3 + 9))]) rfl (iinc_eq (by decide) _) (by decide) rfl dL_law_1612 rfl ?_
        refine x_goto 18 dL_law_1615 (by decide) ?_
        exact ht
      · replace ht := ht.2 c38
        refine x_iconst (pc2 := 257) (v := 0) (by decide) dL_law_256 rfl ?_
        exact x_retZ rfl (Or.inl rfl) dL_law_257 ht
    replace ht := ht.2 c25
    refine y_tcase (x := ((G.2.2.2 x3.toNatClampNeg) &&& 31)) 2 258 dL_law_33 (by decide) (by decide) rfl (by decide) (fun c39 => ?_) (fun c39 => ?_)
    · replace ht := ht.1 c39
      refine x_aload_n (pc2 := 259) 1 (n := 1) (x := a1) rfl dL_law_258 rfl ?_
      obtain ⟨k43, ht⟩ := ht
      refine x_callV (pc2 := 262) (As := []) (rest := []) (b := a1) mv_X11_land ml_L_23 k43 rfl rfl (Nat.le_of_ble_eq_true rfl) hd1 dL_law_259 rfl (ht.mono (fun r40 h41 p42 ht' => ?_))
      clear ht
      obtain ⟨v44, rfl, ht⟩ := ht'
      show Ex G d mL_law 262 [(0, .ref (G.2.1 3)), (1, .ref a1), (2, .ref a2), (3, .int x3)] [.int v44] h41 Q
      refine x_aload_n (pc2 := 263) 2 (n := 2) (x := a2) rfl dL_law_262 rfl ?_
      obtain ⟨k48, ht⟩ := ht
      refine x_callV (pc2 := 266) (As := []) (rest := [.int v44]) (b := a2) mv_X12_land ml_L_27 k48 rfl rfl (Nat.le_of_ble_eq_true rfl) hd1 dL_law_263 rfl (ht.mono (fun r45 h46 p47 ht' => ?_))
      clear ht
      obtain ⟨v49, rfl, ht⟩ := ht'
      show Ex G d mL_law 266 [(0, .ref (G.2.1 3)), (1, .ref a1), (2, .ref a2), (3, .int x3)] [.int v49, .int v44] h46 Q
      refine x_icmp_eq (pc2 := 269) 1612 dL_law_266 (by decide) rfl (fun c50 => ?_) (fun c50 => ?_)
      · replace ht := ht.1 c50
        refine x_iinc (pc2 := 1615) 3 [1, 2, 3, 0] (i := 3) (x := x3) (v := (x3 + 9)) (lv2 := [(0, .ref (G.2.1 3)), (1, .ref a1), (2, .ref a2), (3, .int (x3 + 9))]) rfl (iinc_eq (by decide) _) (by decide) rfl dL_law_1612 rfl ?_
        refine x_goto 18 dL_law_1615 (by decide) ?_
        exact ht
      · replace ht := ht.2 c50
        refine x_iconst (pc2 := 270) (v := 0) (by decide) dL_law_269 rfl ?_
        exact x_retZ rfl (Or.inl rfl) dL_law_270 ht
    replace ht := ht.2 c39
    refine y_tcase (x := ((G.2.2.2 x3.toNatClampNeg) &&& 31)) 3 271 dL_law_33 (by decide) (by decide) rfl (by decide) (fun c51 => ?_) (fun c51 => ?_)
    · replace ht := ht.1 c51
      refine x_aload_n (pc2 := 272) 1 (n := 1) (x := a1) rfl dL_law_271 rfl ?_
      refine x_aload_n (pc2 := 273) 0 (n := 0) (x := (G.2.1 3)) rfl dL_law_272 rfl ?_
      refine x_iload_n (pc2 := 274) 3 (n := 3) (x := x3) rfl dL_law_273 rfl ?_
      refine x_iconst (pc2 := 275) (v := 1) (by decide) dL_law_274 rfl ?_
      refine x_iadd (pc2 := 276) dL_law_275 rfl ?_
      obtain ⟨b52, ht⟩ := ht
      refine x_script (pc2 := 277) b52 dL_law_276 rfl ?_
      obtain ⟨k56, ht⟩ := ht
      refine x_callV (pc2 := 280) (As := [.int (G.2.2.2 (x3 + 1).toNatClampNeg)]) (rest := []) (b := a1) mv_X11_text ml_L_28 k56 rfl rfl (Nat.le_of_ble_eq_true rfl) hd1 dL_law_277 rfl (ht.mono (fun r53 h54 p55 ht' => ?_))
      clear ht
      obtain ⟨v57, rfl, ht⟩ := ht'
      show Ex G d mL_law 280 [(0, .ref (G.2.1 3)), (1, .ref a1), (2, .ref a2), (3, .int x3)] [.int v57] h54 Q
      refine x_aload_n (pc2 := 281) 2 (n := 2) (x := a2) rfl dL_law_280 rfl ?_
      refine x_aload_n (pc2 := 282) 0 (n := 0) (x := (G.2.1 3)) rfl dL_law_281 rfl ?_
      refine x_iload_n (pc2 := 283) 3 (n := 3) (x := x3) rfl dL_law_282 rfl ?_
      refine x_iconst (pc2 := 284) (v := 1) (by decide) dL_law_283 rfl ?_
      refine x_iadd (pc2 := 285) dL_law_284 rfl ?_
      obtain ⟨b58, ht⟩ := ht
      refine x_script (pc2 := 286) b58 dL_law_285 rfl ?_
      obtain ⟨k62, ht⟩ := ht
      refine x_callV (pc2 := 289) (As := [.int (G.2.2.2 (x3 + 1).toNatClampNeg)]) (rest := [.int v57]) (b := a2) mv_X12_text ml_L_31 k62 rfl rfl (Nat.le_of_ble_eq_true rfl) hd1 dL_law_286 rfl (ht.mono (fun r59 h60 p61 ht' => ?_))
      clear ht
      obtain ⟨v63, rfl, ht⟩ := ht'
      show Ex G d mL_law 289 [(0, .ref (G.2.1 3)), (1, .ref a1), (2, .ref a2), (3, .int x3)] [.int v63, .int v57] h60 Q
      refine x_icmp_eq (pc2 := 292) 1612 dL_law_289 (by decide) rfl (fun c64 => ?_) (fun c64 => ?_)
      · replace ht := ht.1 c64
        refine x_iinc (pc2 := 1615) 3 [1, 2, 3, 0] (i := 3) (x := x3) (v := (x3 + 9)) (lv2 := [(0, .ref (G.2.1 3)), (1, .ref a1), (2, .ref a2), (3, .int (x3 + 9))]) rfl (iinc_eq (by decide) _) (by decide) rfl dL_law_1612 rfl ?_
        refine x_goto 18 dL_law_1615 (by decide) ?_
        exact ht
      · replace ht := ht.2 c64
        refine x_iconst (pc2 := 293) (v := 0) (by decide) dL_law_292 rfl ?_
        exact x_retZ rfl (Or.inl rfl) dL_law_293 ht
    replace ht := ht.2 c51
    refine y_tcase (x := ((G.2.2.2 x3.toNatClampNeg) &&& 31)) 4 294 dL_law_33 (by decide) (by decide) rfl (by decide) (fun c65 => ?_) (fun c65 => ?_)
    · replace ht := ht.1 c65
      refine x_aload_n (pc2 := 295) 1 (n := 1) (x := a1) rfl dL_law_294 rfl ?_
      refine x_aload_n (pc2 := 296) 0 (n := 0) (x := (G.2.1 3)) rfl dL_law_295 rfl ?_
      refine x_iload_n (pc2 := 297) 3 (n := 3) (x := x3) rfl dL_law_296 rfl ?_
      refine x_iconst (pc2 := 298) (v := 1) (by decide) dL_law_297 rfl ?_
      refine x_iadd (pc2 := 299) dL_law_298 rfl ?_
      obtain ⟨b66, ht⟩ := ht
      refine x_script (pc2 := 300) b66 dL_law_299 rfl ?_
      refine x_aload_n (pc2 := 301) 0 (n := 0) (x := (G.2.1 3)) rfl dL_law_300 rfl ?_
      refine x_iload_n (pc2 := 302) 3 (n := 3) (x := x3) rfl dL_law_301 rfl ?_
      refine x_iconst (pc2 := 303) (v := 2) (by decide) dL_law_302 rfl ?_
      refine x_iadd (pc2 := 304) dL_law_303 rfl ?_
      obtain ⟨b67, ht⟩ := ht
      refine x_script (pc2 := 305) b67 dL_law_304 rfl ?_
      refine x_aload_n (pc2 := 306) 0 (n := 0) (x := (G.2.1 3)) rfl dL_law_305 rfl ?_
      refine x_iload_n (pc2 := 307) 3 (n := 3) (x := x3) rfl dL_law_306 rfl ?_
      refine x_iconst (pc2 := 308) (v := 3) (by decide) dL_law_307 rfl ?_
      refine x_iadd (pc2 := 309) dL_law_308 rfl ?_
      obtain ⟨b68, ht⟩ := ht
      refine x_script (pc2 := 310) b68 dL_law_309 rfl ?_
      obtain ⟨k72, ht⟩ := ht
      refine x_callV (pc2 := 313) (As := [.int (G.2.2.2 (x3 + 1).toNatClampNeg), .int (G.2.2.2 (x3 + 2).toNatClampNeg), .int (G.2.2.2 (x3 + 3).toNatClampNeg)]) (rest := []) (b := a1) mv_X11_like ml_L_32 k72 rfl rfl (Nat.le_of_ble_eq_true rfl) hd1 dL_law_310 rfl (ht.mono (fun r69 h70 p71 ht' => ?_))
      clear ht
      obtain ⟨v73, rfl, ht⟩ := ht'
      show Ex G d mL_law 313 [(0, .ref (G.2.1 3)), (1, .ref a1), (2, .ref a2), (3, .int x3)] [.int v73] h70 Q
      refine x_aload_n (pc2 := 314) 2 (n := 2) (x := a2) rfl dL_law_313 rfl ?_
      refine x_aload_n (pc2 := 315) 0 (n := 0) (x := (G.2.1 3)) rfl dL_law_314 rfl ?_
      refine x_iload_n (pc2 := 316) 3 (n := 3) (x := x3) rfl dL_law_315 rfl ?_
      refine x_iconst (pc2 := 317) (v := 1) (by decide) dL_law_316 rfl ?_
      refine x_iadd (pc2 := 318) dL_law_317 rfl ?_
      obtain ⟨b74, ht⟩ := ht
      refine x_script (pc2 := 319) b74 dL_law_318 rfl ?_
      refine x_aload_n (pc2 := 320) 0 (n := 0) (x := (G.2.1 3)) rfl dL_law_319 rfl ?_
      refine x_iload_n (pc2 := 321) 3 (n := 3) (x := x3) rfl dL_law_320 rfl ?_
      refine x_iconst (pc2 := 322) (v := 2) (by decide) dL_law_321 rfl ?_
      refine x_iadd (pc2 := 323) dL_law_322 rfl ?_
      obtain ⟨b75, ht⟩ := ht
      refine x_script (pc2 := 324) b75 dL_law_323 rfl ?_
      refine x_aload_n (pc2 := 325) 0 (n := 0) (x := (G.2.1 3)) rfl dL_law_324 rfl ?_
      refine x_iload_n (pc2 := 326) 3 (n := 3) (x := x3) rfl dL_law_325 rfl ?_
      refine x_iconst (pc2 := 327) (v := 3) (by decide) dL_law_326 rfl ?_
      refine x_iadd (pc2 := 328) dL_law_327 rfl ?_
      obtain ⟨b76, ht⟩ := ht
      refine x_script (pc2 := 329) b76 dL_law_328 rfl ?_
      obtain ⟨k80, ht⟩ := ht
      refine x_callV (pc2 := 332) (As := [.int (G.2.2.2 (x3 + 1).toNatClampNeg), .int (G.2.2.2 (x3 + 2).toNatClampNeg), .int (G.2.2.2 (x3 + 3).toNatClampNeg)]) (rest := [.int v73]) (b := a2) mv_X12_like ml_L_36 k80 rfl rfl (Nat.le_of_ble_eq_true rfl) hd1 dL_law_329 rfl (ht.mono (fun r77 h78 p79 ht' => ?_))
      clear ht
      obtain ⟨v81, rfl, ht⟩ := ht'
      show Ex G d mL_law 332 [(0, .ref (G.2.1 3)), (1, .ref a1), (2, .ref a2), (3, .int x3)] [.int v81, .int v73] h78 Q
      refine x_icmp_eq (pc2 := 335) 1612 dL_law_332 (by decide) rfl (fun c82 => ?_) (fun c82 => ?_)
      · replace ht := ht.1 c82
        refine x_iinc (pc2 := 1615) 3 [1, 2, 3, 0] (i := 3) (x := x3) (v := (x3 + 9)) (lv2 := [(0, .ref (G.2.1 3)), (1, .ref a1), (2, .ref a2), (3, .int (x3 + 9))]) rfl (iinc_eq (by decide) _) (by decide) rfl dL_law_1612 rfl ?_
        refine x_goto 18 dL_law_1615 (by decide) ?_
        exact ht
      · replace ht := ht.2 c82
        refine x_iconst (pc2 := 336) (v := 0) (by decide) dL_law_335 rfl ?_
        exact x_retZ rfl (Or.inl rfl) dL_law_336 ht
    replace ht := ht.2 c65
    refine y_tcase (x := ((G.2.2.2 x3.toNatClampNeg) &&& 31)) 5 337 dL_law_33 (by decide) (by decide) rfl (by decide) (fun c83 => ?_) (fun c83 => ?_)
    · replace ht := ht.1 c83
      refine x_aload_n (pc2 := 338) 1 (n := 1) (x := a1) rfl dL_law_337 rfl ?_
      refine x_aload_n (pc2 := 339) 0 (n := 0) (x := (G.2.1 3)) rfl dL_law_338 rfl ?_
      refine x_iload_n (pc2 := 340) 3 (n := 3) (x := x3) rfl dL_law_339 rfl ?_
      refine x_iconst (pc2 := 341) (v := 1) (by decide) dL_law_340 rfl ?_
      refine x_iadd (pc2 := 342) dL_law_341 rfl ?_
      obtain ⟨b84, ht⟩ := ht
      refine x_script (pc2 := 343) b84 dL_law_342 rfl ?_
      refine x_aload_n (pc2 := 344) 0 (n := 0) (x := (G.2.1 3)) rfl dL_law_343 rfl ?_
      refine x_iload_n (pc2 := 345) 3 (n := 3) (x := x3) rfl dL_law_344 rfl ?_
      refine x_iconst (pc2 := 346) (v := 2) (by decide) dL_law_345 rfl ?_
      refine x_iadd (pc2 := 347) dL_law_346 rfl ?_
      obtain ⟨b85, ht⟩ := ht
      refine x_script (pc2 := 348) b85 dL_law_347 rfl ?_
      refine x_aload_n (pc2 := 349) 0 (n := 0) (x := (G.2.1 3)) rfl dL_law_348 rfl ?_
      refine x_iload_n (pc2 := 350) 3 (n := 3) (x := x3) rfl dL_law_349 rfl ?_
      refine x_iconst (pc2 := 351) (v := 3) (by decide) dL_law_350 rfl ?_
      refine x_iadd (pc2 := 352) dL_law_351 rfl ?_
      obtain ⟨b86, ht⟩ := ht
      refine x_script (pc2 := 353) b86 dL_law_352 rfl ?_
      refine x_aload_n (pc2 := 354) 0 (n := 0) (x := (G.2.1 3)) rfl dL_law_353 rfl ?_
      refine x_iload_n (pc2 := 355) 3 (n := 3) (x := x3) rfl dL_law_354 rfl ?_
      refine x_iconst (pc2 := 356) (v := 4) (by decide) dL_law_355 rfl ?_
      refine x_iadd (pc2 := 357) dL_law_356 rfl ?_
      obtain ⟨b87, ht⟩ := ht
      refine x_script (pc2 := 358) b87 dL_law_357 rfl ?_
      refine x_aload_n (pc2 := 359) 0 (n := 0) (x := (G.2.1 3)) rfl dL_law_358 rfl ?_
      refine x_iload_n (pc2 := 360) 3 (n := 3) (x := x3) rfl dL_law_359 rfl ?_
      refine x_iconst (pc2 := 361) (v := 5) (by decide) dL_law_360 rfl ?_
      refine x_iadd (pc2 := 362) dL_law_361 rfl ?_
      obtain ⟨b88, ht⟩ := ht
      refine x_script (pc2 := 363) b88 dL_law_362 rfl ?_
      refine x_aload_n (pc2 := 364) 0 (n := 0) (x := (G.2.1 3)) rfl dL_law_363 rfl ?_
      refine x_iload_n (pc2 := 365) 3 (n := 3) (x := x3) rfl dL_law_364 rfl ?_
      refine x_bipush (pc2 := 367) (v := 6) (by decide) dL_law_365 rfl ?_
      refine x_iadd (pc2 := 368) dL_law_367 rfl ?_
      obtain ⟨b89, ht⟩ := ht
      refine x_script (pc2 := 369) b89 dL_law_368 rfl ?_
      refine x_aload_n (pc2 := 370) 0 (n := 0) (x := (G.2.1 3)) rfl dL_law_369 rfl ?_
      refine x_iload_n (pc2 := 371) 3 (n := 3) (x := x3) rfl dL_law_370 rfl ?_
      refine x_bipush (pc2 := 373) (v := 7) (by decide) dL_law_371 rfl ?_
      refine x_iadd (pc2 := 374) dL_law_373 rfl ?_
      obtain ⟨b90, ht⟩ := ht
      refine x_script (pc2 := 375) b90 dL_law_374 rfl ?_
      refine x_aload_n (pc2 := 376) 0 (n := 0) (x := (G.2.1 3)) rfl dL_law_375 rfl ?_
      refine x_iload_n (pc2 := 377) 3 (n := 3) (x := x3) rfl dL_law_376 rfl ?_
      refine x_bipush (pc2 := 379) (v := 8) (by decide) dL_law_377 rfl ?_
      refine x_iadd (pc2 := 380) dL_law_379 rfl ?_
      obtain ⟨b91, ht⟩ := ht
      refine x_script (pc2 := 381) b91 dL_law_380 rfl ?_
      obtain ⟨k95, ht⟩ := ht
      refine x_callV (pc2 := 384) (As := [.int (G.2.2.2 (x3 + 1).toNatClampNeg), .int (G.2.2.2 (x3 + 2).toNatClampNeg), .int (G.2.2.2 (x3 + 3).toNatClampNeg), .int (G.2.2.2 (x3 + 4).toNatClampNeg), .int (G.2.2.2 (x3 + 5).toNatClampNeg), .int (G.2.2.2 (x3 + 6).toNatClampNeg), .int (G.2.2.2 (x3 + 7).toNatClampNeg), .int (G.2.2.2 (x3 + 8).toNatClampNeg)]) (rest := []) (b := a1) mv_X11_can ml_L_37 k95 rfl rfl (Nat.le_of_ble_eq_true rfl) hd1 dL_law_381 rfl (ht.mono (fun r92 h93 p94 ht' => ?_))
      clear ht
      obtain ⟨v96, rfl, ht⟩ := ht'
      show Ex G d mL_law 384 [(0, .ref (G.2.1 3)), (1, .ref a1), (2, .ref a2), (3, .int x3)] [.int v96] h93 Q
      refine x_aload_n (pc2 := 385) 2 (n := 2) (x := a2) rfl dL_law_384 rfl ?_
      refine x_aload_n (pc2 := 386) 0 (n := 0) (x := (G.2.1 3)) rfl dL_law_385 rfl ?_
      refine x_iload_n (pc2 := 387) 3 (n := 3) (x := x3) rfl dL_law_386 rfl ?_
      refine x_iconst (pc2 := 388) (v := 1) (by decide) dL_law_387 rfl ?_
      refine x_iadd (pc2 := 389) dL_law_388 rfl ?_
      obtain ⟨b97, ht⟩ := ht
      refine x_script (pc2 := 390) b97 dL_law_389 rfl ?_
      refine x_aload_n (pc2 := 391) 0 (n := 0) (x := (G.2.1 3)) rfl dL_law_390 rfl ?_
      refine x_iload_n (pc2 := 392) 3 (n := 3) (x := x3) rfl dL_law_391 rfl ?_
      refine x_iconst (pc2 := 393) (v := 2) (by decide) dL_law_392 rfl ?_
      refine x_iadd (pc2 := 394) dL_law_393 rfl ?_
      obtain ⟨b98, ht⟩ := ht
      refine x_script (pc2 := 395) b98 dL_law_394 rfl ?_
      refine x_aload_n (pc2 := 396) 0 (n := 0) (x := (G.2.1 3)) rfl dL_law_395 rfl ?_
      refine x_iload_n (pc2 := 397) 3 (n := 3) (x := x3) rfl dL_law_396 rfl ?_
      refine x_iconst (pc2 := 398) (v := 3) (by decide) dL_law_397 rfl ?_
      refine x_iadd (pc2 := 399) dL_law_398 rfl ?_
      obtain ⟨b99, ht⟩ := ht
      refine x_script (pc2 := 400) b99 dL_law_399 rfl ?_
      refine x_aload_n (pc2 := 401) 0 (n := 0) (x := (G.2.1 3)) rfl dL_law_400 rfl ?_
      refine x_iload_n (pc2 := 402) 3 (n := 3) (x := x3) rfl dL_law_401 rfl ?_
      refine x_iconst (pc2 := 403) (v := 4) (by decide) dL_law_402 rfl ?_
      refine x_iadd (pc2 := 404) dL_law_403 rfl ?_
      obtain ⟨b100, ht⟩ := ht
      refine x_script (pc2 := 405) b100 dL_law_404 rfl ?_
      refine x_aload_n (pc2 := 406) 0 (n := 0) (x := (G.2.1 3)) rfl dL_law_405 rfl ?_
      refine x_iload_n (pc2 := 407) 3 (n := 3) (x := x3) rfl dL_law_406 rfl ?_
      refine x_iconst (pc2 := 408) (v := 5) (by decide) dL_law_407 rfl ?_
      refine x_iadd (pc2 := 409) dL_law_408 rfl ?_
      obtain ⟨b101, ht⟩ := ht
      refine x_script (pc2 := 410) b101 dL_law_409 rfl ?_
      refine x_aload_n (pc2 := 411) 0 (n := 0) (x := (G.2.1 3)) rfl dL_law_410 rfl ?_
      refine x_iload_n (pc2 := 412) 3 (n := 3) (x := x3) rfl dL_law_411 rfl ?_
      refine x_bipush (pc2 := 414) (v := 6) (by decide) dL_law_412 rfl ?_
      refine x_iadd (pc2 := 415) dL_law_414 rfl ?_
      obtain ⟨b102, ht⟩ := ht
      refine x_script (pc2 := 416) b102 dL_law_415 rfl ?_
      refine x_aload_n (pc2 := 417) 0 (n := 0) (x := (G.2.1 3)) rfl dL_law_416 rfl ?_
      refine x_iload_n (pc2 := 418) 3 (n := 3) (x := x3) rfl dL_law_417 rfl ?_
      refine x_bipush (pc2 := 420) (v := 7) (by decide) dL_law_418 rfl ?_
      refine x_iadd (pc2 := 421) dL_law_420 rfl ?_
      obtain ⟨b103, ht⟩ := ht
      refine x_script (pc2 := 422) b103 dL_law_421 rfl ?_
      refine x_aload_n (pc2 := 423) 0 (n := 0) (x := (G.2.1 3)) rfl dL_law_422 rfl ?_
      refine x_iload_n (pc2 := 424) 3 (n := 3) (x := x3) rfl dL_law_423 rfl ?_
      refine x_bipush (pc2 := 426) (v := 8) (by decide) dL_law_424 rfl ?_
      refine x_iadd (pc2 := 427) dL_law_426 rfl ?_
      obtain ⟨b104, ht⟩ := ht
      refine x_script (pc2 := 428) b104 dL_law_427 rfl ?_
      obtain ⟨k108, ht⟩ := ht
      refine x_callV (pc2 := 431) (As := [.int (G.2.2.2 (x3 + 1).toNatClampNeg), .int (G.2.2.2 (x3 + 2).toNatClampNeg), .int (G.2.2.2 (x3 + 3).toNatClampNeg), .int (G.2.2.2 (x3 + 4).toNatClampNeg), .int (G.2.2.2 (x3 + 5).toNatClampNeg), .int (G.2.2.2 (x3 + 6).toNatClampNeg), .int (G.2.2.2 (x3 + 7).toNatClampNeg), .int (G.2.2.2 (x3 + 8).toNatClampNeg)]) (rest := [.int v96]) (b := a2) mv_X12_can ml_L_41 k108 rfl rfl (Nat.le_of_ble_eq_true rfl) hd1 dL_law_428 rfl (ht.mono (fun r105 h106 p107 ht' => ?_))
      clear ht
      obtain ⟨v109, rfl, ht⟩ := ht'
      show Ex G d mL_law 431 [(0, .ref (G.2.1 3)), (1, .ref a1), (2, .ref a2), (3, .int x3)] [.int v109, .int v96] h106 Q
      refine x_icmp_eq (pc2 := 434) 1612 dL_law_431 (by decide) rfl (fun c110 => ?_) (fun c110 => ?_)
      · replace ht := ht.1 c110
        refine x_iinc (pc2 := 1615) 3 [1, 2, 3, 0] (i := 3) (x := x3) (v := (x3 + 9)) (lv2 := [(0, .ref (G.2.1 3)), (1, .ref a1), (2, .ref a2), (3, .int (x3 + 9))]) rfl (iinc_eq (by decide) _) (by decide) rfl dL_law_1612 rfl ?_
        refine x_goto 18 dL_law_1615 (by decide) ?_
        exact ht
      · replace ht := ht.2 c110
        refine x_iconst (pc2 := 435) (v := 0) (by decide) dL_law_434 rfl ?_
        exact x_retZ rfl (Or.inl rfl) dL_law_435 ht
    replace ht := ht.2 c83
    refine y_tcase (x := ((G.2.2.2 x3.toNatClampNeg) &&& 31)) 6 436 dL_law_33 (by decide) (by decide) rfl (by decide) (fun c111 => ?_) (fun c111 => ?_)
    · replace ht := ht.1 c111
      refine x_aload_n (pc2 := 437) 1 (n := 1) (x := a1) rfl dL_law_436 rfl ?_
      refine x_aload_n (pc2 := 438) 0 (n := 0) (x := (G.2.1 3)) rfl dL_law_437 rfl ?_
      refine x_iload_n (pc2 := 439) 3 (n := 3) (x := x3) rfl dL_law_438 rfl ?_
      refine x_iconst (pc2 := 440) (v := 1) (by decide) dL_law_439 rfl ?_
      refine x_iadd (pc2 := 441) dL_law_440 rfl ?_
      obtain ⟨b112, ht⟩ := ht
      refine x_script (pc2 := 442) b112 dL_law_441 rfl ?_
      refine x_aload_n (pc2 := 443) 0 (n := 0) (x := (G.2.1 3)) rfl dL_law_442 rfl ?_
      refine x_iload_n (pc2 := 444) 3 (n := 3) (x := x3) rfl dL_law_443 rfl ?_
      refine x_iconst (pc2 := 445) (v := 2) (by decide) dL_law_444 rfl ?_
      refine x_iadd (pc2 := 446) dL_law_445 rfl ?_
      obtain ⟨b113, ht⟩ := ht
      refine x_script (pc2 := 447) b113 dL_law_446 rfl ?_
      refine x_aload_n (pc2 := 448) 0 (n := 0) (x := (G.2.1 3)) rfl dL_law_447 rfl ?_
      refine x_iload_n (pc2 := 449) 3 (n := 3) (x := x3) rfl dL_law_448 rfl ?_
      refine x_iconst (pc2 := 450) (v := 3) (by decide) dL_law_449 rfl ?_
      refine x_iadd (pc2 := 451) dL_law_450 rfl ?_
      obtain ⟨b114, ht⟩ := ht
      refine x_script (pc2 := 452) b114 dL_law_451 rfl ?_
      refine x_aload_n (pc2 := 453) 0 (n := 0) (x := (G.2.1 3)) rfl dL_law_452 rfl ?_
      refine x_iload_n (pc2 := 454) 3 (n := 3) (x := x3) rfl dL_law_453 rfl ?_
      refine x_iconst (pc2 := 455) (v := 4) (by decide) dL_law_454 rfl ?_
      refine x_iadd (pc2 := 456) dL_law_455 rfl ?_
      obtain ⟨b115, ht⟩ := ht
      refine x_script (pc2 := 457) b115 dL_law_456 rfl ?_
      refine x_aload_n (pc2 := 458) 0 (n := 0) (x := (G.2.1 3)) rfl dL_law_457 rfl ?_
      refine x_iload_n (pc2 := 459) 3 (n := 3) (x := x3) rfl dL_law_458 rfl ?_
      refine x_iconst (pc2 := 460) (v := 5) (by decide) dL_law_459 rfl ?_
      refine x_iadd (pc2 := 461) dL_law_460 rfl ?_
      obtain ⟨b116, ht⟩ := ht
      refine x_script (pc2 := 462) b116 dL_law_461 rfl ?_
      refine x_aload_n (pc2 := 463) 0 (n := 0) (x := (G.2.1 3)) rfl dL_law_462 rfl ?_
      refine x_iload_n (pc2 := 464) 3 (n := 3) (x := x3) rfl dL_law_463 rfl ?_
      refine x_bipush (pc2 := 466) (v := 6) (by decide) dL_law_464 rfl ?_
      refine x_iadd (pc2 := 467) dL_law_466 rfl ?_
      obtain ⟨b117, ht⟩ := ht
      refine x_script (pc2 := 468) b117 dL_law_467 rfl ?_
      refine x_aload_n (pc2 := 469) 0 (n := 0) (x := (G.2.1 3)) rfl dL_law_468 rfl ?_
      refine x_iload_n (pc2 := 470) 3 (n := 3) (x := x3) rfl dL_law_469 rfl ?_
      refine x_bipush (pc2 := 472) (v := 7) (by decide) dL_law_470 rfl ?_
      refine x_iadd (pc2 := 473) dL_law_472 rfl ?_
      obtain ⟨b118, ht⟩ := ht
      refine x_script (pc2 := 474) b118 dL_law_473 rfl ?_
      refine x_aload_n (pc2 := 475) 0 (n := 0) (x := (G.2.1 3)) rfl dL_law_474 rfl ?_
      refine x_iload_n (pc2 := 476) 3 (n := 3) (x := x3) rfl dL_law_475 rfl ?_
      refine x_bipush (pc2 := 478) (v := 8) (by decide) dL_law_476 rfl ?_
      refine x_iadd (pc2 := 479) dL_law_478 rfl ?_
      obtain ⟨b119, ht⟩ := ht
      refine x_script (pc2 := 480) b119 dL_law_479 rfl ?_
      obtain ⟨k123, ht⟩ := ht
      refine x_callV (pc2 := 483) (As := [.int (G.2.2.2 (x3 + 1).toNatClampNeg), .int (G.2.2.2 (x3 + 2).toNatClampNeg), .int (G.2.2.2 (x3 + 3).toNatClampNeg), .int (G.2.2.2 (x3 + 4).toNatClampNeg), .int (G.2.2.2 (x3 + 5).toNatClampNeg), .int (G.2.2.2 (x3 + 6).toNatClampNeg), .int (G.2.2.2 (x3 + 7).toNatClampNeg), .int (G.2.2.2 (x3 + 8).toNatClampNeg)]) (rest := []) (b := a1) mv_X11_build ml_L_42 k123 rfl rfl (Nat.le_of_ble_eq_true rfl) hd1 dL_law_480 rfl (ht.mono (fun r120 h121 p122 ht' => ?_))
      clear ht
      obtain ⟨v124, rfl, ht⟩ := ht'
      show Ex G d mL_law 483 [(0, .ref (G.2.1 3)), (1, .ref a1), (2, .ref a2), (3, .int x3)] [.int v124] h121 Q
      refine x_aload_n (pc2 := 484) 2 (n := 2) (x := a2) rfl dL_law_483 rfl ?_
      refine x_aload_n (pc2 := 485) 0 (n := 0) (x := (G.2.1 3)) rfl dL_law_484 rfl ?_
      refine x_iload_n (pc2 := 486) 3 (n := 3) (x := x3) rfl dL_law_485 rfl ?_
      refine x_iconst (pc2 := 487) (v := 1) (by decide) dL_law_486 rfl ?_
      refine x_iadd (pc2 := 488) dL_law_487 rfl ?_
      obtain ⟨b125, ht⟩ := ht
      refine x_script (pc2 := 489) b125 dL_law_488 rfl ?_
      refine x_aload_n (pc2 := 490) 0 (n := 0) (x := (G.2.1 3)) rfl dL_law_489 rfl ?_
      refine x_iload_n (pc2 := 491) 3 (n := 3) (x := x3) rfl dL_law_490 rfl ?_
      refine x_iconst (pc2 := 492) (v := 2) (by decide) dL_law_491 rfl ?_
      refine x_iadd (pc2 := 493) dL_law_492 rfl ?_
      obtain ⟨b126, ht⟩ := ht
      refine x_script (pc2 := 494) b126 dL_law_493 rfl ?_
      refine x_aload_n (pc2 := 495) 0 (n := 0) (x := (G.2.1 3)) rfl dL_law_494 rfl ?_
      refine x_iload_n (pc2 := 496) 3 (n := 3) (x := x3) rfl dL_law_495 rfl ?_
      refine x_iconst (pc2 := 497) (v := 3) (by decide) dL_law_496 rfl ?_
      refine x_iadd (pc2 := 498) dL_law_497 rfl ?_
      obtain ⟨b127, ht⟩ := ht
      refine x_script (pc2 := 499) b127 dL_law_498 rfl ?_
      refine x_aload_n (pc2 := 500) 0 (n := 0) (x := (G.2.1 3)) rfl dL_law_499 rfl ?_
      refine x_iload_n (pc2 := 501) 3 (n := 3) (x := x3) rfl dL_law_500 rfl ?_
      refine x_iconst (pc2 := 502) (v := 4) (by decide) dL_law_501 rfl ?_
      refine x_iadd (pc2 := 503) dL_law_502 rfl ?_
      obtain ⟨b128, ht⟩ := ht
      refine x_script (pc2 := 504) b128 dL_law_503 rfl ?_
      refine x_aload_n (pc2 := 505) 0 (n := 0) (x := (G.2.1 3)) rfl dL_law_504 rfl ?_
      refine x_iload_n (pc2 := 506) 3 (n := 3) (x := x3) rfl dL_law_505 rfl ?_
      refine x_iconst (pc2 := 507) (v := 5) (by decide) dL_law_506 rfl ?_
      refine x_iadd (pc2 := 508) dL_law_507 rfl ?_
      obtain ⟨b129, ht⟩ := ht
      refine x_script (pc2 := 509) b129 dL_law_508 rfl ?_
      refine x_aload_n (pc2 := 510) 0 (n := 0) (x := (G.2.1 3)) rfl dL_law_509 rfl ?_
      refine x_iload_n (pc2 := 511) 3 (n := 3) (x := x3) rfl dL_law_510 rfl ?_
      refine x_bipush (pc2 := 513) (v := 6) (by decide) dL_law_511 rfl ?_
      refine x_iadd (pc2 := 514) dL_law_513 rfl ?_
      obtain ⟨b130, ht⟩ := ht
      refine x_script (pc2 := 515) b130 dL_law_514 rfl ?_
      refine x_aload_n (pc2 := 516) 0 (n := 0) (x := (G.2.1 3)) rfl dL_law_515 rfl ?_
      refine x_iload_n (pc2 := 517) 3 (n := 3) (x := x3) rfl dL_law_516 rfl ?_
      refine x_bipush (pc2 := 519) (v := 7) (by decide) dL_law_517 rfl ?_
      refine x_iadd (pc2 := 520) dL_law_519 rfl ?_
      obtain ⟨b131, ht⟩ := ht
      refine x_script (pc2 := 521) b131 dL_law_520 rfl ?_
      refine x_aload_n (pc2 := 522) 0 (n := 0) (x := (G.2.1 3)) rfl dL_law_521 rfl ?_
      refine x_iload_n (pc2 := 523) 3 (n := 3) (x := x3) rfl dL_law_522 rfl ?_
      refine x_bipush (pc2 := 525) (v := 8) (by decide) dL_law_523 rfl ?_
      refine x_iadd (pc2 := 526) dL_law_525 rfl ?_
      obtain ⟨b132, ht⟩ := ht
      refine x_script (pc2 := 527) b132 dL_law_526 rfl ?_
      obtain ⟨k136, ht⟩ := ht
      refine x_callV (pc2 := 530) (As := [.int (G.2.2.2 (x3 + 1).toNatClampNeg), .int (G.2.2.2 (x3 + 2).toNatClampNeg), .int (G.2.2.2 (x3 + 3).toNatClampNeg), .int (G.2.2.2 (x3 + 4).toNatClampNeg), .int (G.2.2.2 (x3 + 5).toNatClampNeg), .int (G.2.2.2 (x3 + 6).toNatClampNeg), .int (G.2.2.2 (x3 + 7).toNatClampNeg), .int (G.2.2.2 (x3 + 8).toNatClampNeg)]) (rest := [.int v124]) (b := a2) mv_X12_build ml_L_45 k136 rfl rfl (Nat.le_of_ble_eq_true rfl) hd1 dL_law_527 rfl (ht.mono (fun r133 h134 p135 ht' => ?_))
      clear ht
      obtain ⟨v137, rfl, ht⟩ := ht'
      show Ex G d mL_law 530 [(0, .ref (G.2.1 3)), (1, .ref a1), (2, .ref a2), (3, .int x3)] [.int v137, .int v124] h134 Q
      refine x_icmp_eq (pc2 := 533) 1612 dL_law_530 (by decide) rfl (fun c138 => ?_) (fun c138 => ?_)
      · replace ht := ht.1 c138
        refine x_iinc (pc2 := 1615) 3 [1, 2, 3, 0] (i := 3) (x := x3) (v := (x3 + 9)) (lv2 := [(0, .ref (G.2.1 3)), (1, .ref a1), (2, .ref a2), (3, .int (x3 + 9))]) rfl (iinc_eq (by decide) _) (by decide) rfl dL_law_1612 rfl ?_
        refine x_goto 18 dL_law_1615 (by decide) ?_
        exact ht
      · replace ht := ht.2 c138
        refine x_iconst (pc2 := 534) (v := 0) (by decide) dL_law_533 rfl ?_
        exact x_retZ rfl (Or.inl rfl) dL_law_534 ht
    replace ht := ht.2 c111
    refine y_tcase (x := ((G.2.2.2 x3.toNatClampNeg) &&& 31)) 7 535 dL_law_33 (by decide) (by decide) rfl (by decide) (fun c139 => ?_) (fun c139 => ?_)
    · replace ht := ht.1 c139
      refine x_aload_n (pc2 := 536) 1 (n := 1) (x := a1) rfl dL_law_535 rfl ?_
      refine x_aload_n (pc2 := 537) 0 (n := 0) (x := (G.2.1 3)) rfl dL_law_536 rfl ?_
      refine x_iload_n (pc2 := 538) 3 (n := 3) (x := x3) rfl dL_law_537 rfl ?_
      refine x_iconst (pc2 := 539) (v := 1) (by decide) dL_law_538 rfl ?_
      refine x_iadd (pc2 := 540) dL_law_539 rfl ?_
      obtain ⟨b140, ht⟩ := ht
      refine x_script (pc2 := 541) b140 dL_law_540 rfl ?_
      refine x_aload_n (pc2 := 542) 0 (n := 0) (x := (G.2.1 3)) rfl dL_law_541 rfl ?_
      refine x_iload_n (pc2 := 543) 3 (n := 3) (x := x3) rfl dL_law_542 rfl ?_
      refine x_iconst (pc2 := 544) (v := 2) (by decide) dL_law_543 rfl ?_
      refine x_iadd (pc2 := 545) dL_law_544 rfl ?_
      obtain ⟨b141, ht⟩ := ht
      refine x_script (pc2 := 546) b141 dL_law_545 rfl ?_
      refine x_aload_n (pc2 := 547) 0 (n := 0) (x := (G.2.1 3)) rfl dL_law_546 rfl ?_
      refine x_iload_n (pc2 := 548) 3 (n := 3) (x := x3) rfl dL_law_547 rfl ?_
      refine x_iconst (pc2 := 549) (v := 3) (by decide) dL_law_548 rfl ?_
      refine x_iadd (pc2 := 550) dL_law_549 rfl ?_
      obtain ⟨b142, ht⟩ := ht
      refine x_script (pc2 := 551) b142 dL_law_550 rfl ?_
      refine x_aload_n (pc2 := 552) 0 (n := 0) (x := (G.2.1 3)) rfl dL_law_551 rfl ?_
      refine x_iload_n (pc2 := 553) 3 (n := 3) (x := x3) rfl dL_law_552 rfl ?_
      refine x_iconst (pc2 := 554) (v := 4) (by decide) dL_law_553 rfl ?_
      refine x_iadd (pc2 := 555) dL_law_554 rfl ?_
      obtain ⟨b143, ht⟩ := ht
      refine x_script (pc2 := 556) b143 dL_law_555 rfl ?_
      refine x_aload_n (pc2 := 557) 0 (n := 0) (x := (G.2.1 3)) rfl dL_law_556 rfl ?_
      refine x_iload_n (pc2 := 558) 3 (n := 3) (x := x3) rfl dL_law_557 rfl ?_
      refine x_iconst (pc2 := 559) (v := 5) (by decide) dL_law_558 rfl ?_
      refine x_iadd (pc2 := 560) dL_law_559 rfl ?_
      obtain ⟨b144, ht⟩ := ht
      refine x_script (pc2 := 561) b144 dL_law_560 rfl ?_
      refine x_aload_n (pc2 := 562) 0 (n := 0) (x := (G.2.1 3)) rfl dL_law_561 rfl ?_
      refine x_iload_n (pc2 := 563) 3 (n := 3) (x := x3) rfl dL_law_562 rfl ?_
      refine x_bipush (pc2 := 565) (v := 6) (by decide) dL_law_563 rfl ?_
      refine x_iadd (pc2 := 566) dL_law_565 rfl ?_
      obtain ⟨b145, ht⟩ := ht
      refine x_script (pc2 := 567) b145 dL_law_566 rfl ?_
      refine x_aload_n (pc2 := 568) 0 (n := 0) (x := (G.2.1 3)) rfl dL_law_567 rfl ?_
      refine x_iload_n (pc2 := 569) 3 (n := 3) (x := x3) rfl dL_law_568 rfl ?_
      refine x_bipush (pc2 := 571) (v := 7) (by decide) dL_law_569 rfl ?_
      refine x_iadd (pc2 := 572) dL_law_571 rfl ?_
      obtain ⟨b146, ht⟩ := ht
      refine x_script (pc2 := 573) b146 dL_law_572 rfl ?_
      refine x_aload_n (pc2 := 574) 0 (n := 0) (x := (G.2.1 3)) rfl dL_law_573 rfl ?_
      refine x_iload_n (pc2 := 575) 3 (n := 3) (x := x3) rfl dL_law_574 rfl ?_
      refine x_bipush (pc2 := 577) (v := 8) (by decide) dL_law_575 rfl ?_
      refine x_iadd (pc2 := 578) dL_law_577 rfl ?_
      obtain ⟨b147, ht⟩ := ht
      refine x_script (pc2 := 579) b147 dL_law_578 rfl ?_
      obtain ⟨k151, ht⟩ := ht
      refine x_callV (pc2 := 582) (As := [.int (G.2.2.2 (x3 + 1).toNatClampNeg), .int (G.2.2.2 (x3 + 2).toNatClampNeg), .int (G.2.2.2 (x3 + 3).toNatClampNeg), .int (G.2.2.2 (x3 + 4).toNatClampNeg), .int (G.2.2.2 (x3 + 5).toNatClampNeg), .int (G.2.2.2 (x3 + 6).toNatClampNeg), .int (G.2.2.2 (x3 + 7).toNatClampNeg), .int (G.2.2.2 (x3 + 8).toNatClampNeg)]) (rest := []) (b := a1) mv_X11_wish ml_L_46 k151 rfl rfl (Nat.le_of_ble_eq_true rfl) hd1 dL_law_579 rfl (ht.mono (fun r148 h149 p150 ht' => ?_))
      clear ht
      obtain ⟨v152, rfl, ht⟩ := ht'
      show Ex G d mL_law 582 [(0, .ref (G.2.1 3)), (1, .ref a1), (2, .ref a2), (3, .int x3)] [.long v152] h149 Q
      refine x_aload_n (pc2 := 583) 2 (n := 2) (x := a2) rfl dL_law_582 rfl ?_
      refine x_aload_n (pc2 := 584) 0 (n := 0) (x := (G.2.1 3)) rfl dL_law_583 rfl ?_
      refine x_iload_n (pc2 := 585) 3 (n := 3) (x := x3) rfl dL_law_584 rfl ?_
      refine x_iconst (pc2 := 586) (v := 1) (by decide) dL_law_585 rfl ?_
      refine x_iadd (pc2 := 587) dL_law_586 rfl ?_
      obtain ⟨b153, ht⟩ := ht
      refine x_script (pc2 := 588) b153 dL_law_587 rfl ?_
      refine x_aload_n (pc2 := 589) 0 (n := 0) (x := (G.2.1 3)) rfl dL_law_588 rfl ?_
      refine x_iload_n (pc2 := 590) 3 (n := 3) (x := x3) rfl dL_law_589 rfl ?_
      refine x_iconst (pc2 := 591) (v := 2) (by decide) dL_law_590 rfl ?_
      refine x_iadd (pc2 := 592) dL_law_591 rfl ?_
      obtain ⟨b154, ht⟩ := ht
      refine x_script (pc2 := 593) b154 dL_law_592 rfl ?_
      refine x_aload_n (pc2 := 594) 0 (n := 0) (x := (G.2.1 3)) rfl dL_law_593 rfl ?_
      refine x_iload_n (pc2 := 595) 3 (n := 3) (x := x3) rfl dL_law_594 rfl ?_
      refine x_iconst (pc2 := 596) (v := 3) (by decide) dL_law_595 rfl ?_
      refine x_iadd (pc2 := 597) dL_law_596 rfl ?_
      obtain ⟨b155, ht⟩ := ht
      refine x_script (pc2 := 598) b155 dL_law_597 rfl ?_
      refine x_aload_n (pc2 := 599) 0 (n := 0) (x := (G.2.1 3)) rfl dL_law_598 rfl ?_
      refine x_iload_n (pc2 := 600) 3 (n := 3) (x := x3) rfl dL_law_599 rfl ?_
      refine x_iconst (pc2 := 601) (v := 4) (by decide) dL_law_600 rfl ?_
      refine x_iadd (pc2 := 602) dL_law_601 rfl ?_
      obtain ⟨b156, ht⟩ := ht
      refine x_script (pc2 := 603) b156 dL_law_602 rfl ?_
      refine x_aload_n (pc2 := 604) 0 (n := 0) (x := (G.2.1 3)) rfl dL_law_603 rfl ?_
      refine x_iload_n (pc2 := 605) 3 (n := 3) (x := x3) rfl dL_law_604 rfl ?_
      refine x_iconst (pc2 := 606) (v := 5) (by decide) dL_law_605 rfl ?_
      refine x_iadd (pc2 := 607) dL_law_606 rfl ?_
      obtain ⟨b157, ht⟩ := ht
      refine x_script (pc2 := 608) b157 dL_law_607 rfl ?_
      refine x_aload_n (pc2 := 609) 0 (n := 0) (x := (G.2.1 3)) rfl dL_law_608 rfl ?_
      refine x_iload_n (pc2 := 610) 3 (n := 3) (x := x3) rfl dL_law_609 rfl ?_
      refine x_bipush (pc2 := 612) (v := 6) (by decide) dL_law_610 rfl ?_
      refine x_iadd (pc2 := 613) dL_law_612 rfl ?_
      obtain ⟨b158, ht⟩ := ht
      refine x_script (pc2 := 614) b158 dL_law_613 rfl ?_
      refine x_aload_n (pc2 := 615) 0 (n := 0) (x := (G.2.1 3)) rfl dL_law_614 rfl ?_
      refine x_iload_n (pc2 := 616) 3 (n := 3) (x := x3) rfl dL_law_615 rfl ?_
      refine x_bipush (pc2 := 618) (v := 7) (by decide) dL_law_616 rfl ?_
      refine x_iadd (pc2 := 619) dL_law_618 rfl ?_
      obtain ⟨b159, ht⟩ := ht
      refine x_script (pc2 := 620) b159 dL_law_619 rfl ?_
      refine x_aload_n (pc2 := 621) 0 (n := 0) (x := (G.2.1 3)) rfl dL_law_620 rfl ?_
      refine x_iload_n (pc2 := 622) 3 (n := 3) (x := x3) rfl dL_law_621 rfl ?_
      refine x_bipush (pc2 := 624) (v := 8) (by decide) dL_law_622 rfl ?_
      refine x_iadd (pc2 := 625) dL_law_624 rfl ?_
      obtain ⟨b160, ht⟩ := ht
      refine x_script (pc2 := 626) b160 dL_law_625 rfl ?_
      obtain ⟨k164, ht⟩ := ht
      refine x_callV (pc2 := 629) (As := [.int (G.2.2.2 (x3 + 1).toNatClampNeg), .int (G.2.2.2 (x3 + 2).toNatClampNeg), .int (G.2.2.2 (x3 + 3).toNatClampNeg), .int (G.2.2.2 (x3 + 4).toNatClampNeg), .int (G.2.2.2 (x3 + 5).toNatClampNeg), .int (G.2.2.2 (x3 + 6).toNatClampNeg), .int (G.2.2.2 (x3 + 7).toNatClampNeg), .int (G.2.2.2 (x3 + 8).toNatClampNeg)]) (rest := [.long v152]) (b := a2) mv_X12_wish ml_L_50 k164 rfl rfl (Nat.le_of_ble_eq_true rfl) hd1 dL_law_626 rfl (ht.mono (fun r161 h162 p163 ht' => ?_))
      clear ht
      obtain ⟨v165, rfl, ht⟩ := ht'
      show Ex G d mL_law 629 [(0, .ref (G.2.1 3)), (1, .ref a1), (2, .ref a2), (3, .int x3)] [.long v165, .long v152] h162 Q
      refine x_lcmp (pc2 := 630) dL_law_629 rfl ?_
      refine x_if_eq (pc2 := 633) 1612 dL_law_630 (by decide) rfl (fun c166 => ?_) (fun c166 => ?_)
      · replace ht := ht.1 c166
        refine x_iinc (pc2 := 1615) 3 [1, 2, 3, 0] (i := 3) (x := x3) (v := (x3 + 9)) (lv2 := [(0, .ref (G.2.1 3)), (1, .ref a1), (2, .ref a2), (3, .int (x3 + 9))]) rfl (iinc_eq (by decide) _) (by decide) rfl dL_law_1612 rfl ?_
        refine x_goto 18 dL_law_1615 (by decide) ?_
        exact ht
      · replace ht := ht.2 c166
        refine x_iconst (pc2 := 634) (v := 0) (by decide) dL_law_633 rfl ?_
        exact x_retZ rfl (Or.inl rfl) dL_law_634 ht
    replace ht := ht.2 c139
    refine y_tcase (x := ((G.2.2.2 x3.toNatClampNeg) &&& 31)) 8 635 dL_law_33 (by decide) (by decide) rfl (by decide) (fun c167 => ?_) (fun c167 => ?_)
    · replace ht := ht.1 c167
      refine x_aload_n (pc2 := 636) 1 (n := 1) (x := a1) rfl dL_law_635 rfl ?_
      refine x_aload_n (pc2 := 637) 0 (n := 0) (x := (G.2.1 3)) rfl dL_law_636 rfl ?_
      refine x_iload_n (pc2 := 638) 3 (n := 3) (x := x3) rfl dL_law_637 rfl ?_
      refine x_iconst (pc2 := 639) (v := 1) (by decide) dL_law_638 rfl ?_
      refine x_iadd (pc2 := 640) dL_law_639 rfl ?_
      obtain ⟨b168, ht⟩ := ht
      refine x_script (pc2 := 641) b168 dL_law_640 rfl ?_
      obtain ⟨k172, ht⟩ := ht
      refine x_callV (pc2 := 644) (As := [.int (G.2.2.2 (x3 + 1).toNatClampNeg)]) (rest := []) (b := a1) mv_X11_pull ml_L_51 k172 rfl rfl (Nat.le_of_ble_eq_true rfl) hd1 dL_law_641 rfl (ht.mono (fun r169 h170 p171 ht' => ?_))
      clear ht
      obtain ⟨v173, rfl, ht⟩ := ht'
      show Ex G d mL_law 644 [(0, .ref (G.2.1 3)), (1, .ref a1), (2, .ref a2), (3, .int x3)] [.int v173] h170 Q
      refine x_aload_n (pc2 := 645) 2 (n := 2) (x := a2) rfl dL_law_644 rfl ?_
      refine x_aload_n (pc2 := 646) 0 (n := 0) (x := (G.2.1 3)) rfl dL_law_645 rfl ?_
      refine x_iload_n (pc2 := 647) 3 (n := 3) (x := x3) rfl dL_law_646 rfl ?_
      refine x_iconst (pc2 := 648) (v := 1) (by decide) dL_law_647 rfl ?_
      refine x_iadd (pc2 := 649) dL_law_648 rfl ?_
      obtain ⟨b174, ht⟩ := ht
      refine x_script (pc2 := 650) b174 dL_law_649 rfl ?_
      obtain ⟨k178, ht⟩ := ht
      refine x_callV (pc2 := 653) (As := [.int (G.2.2.2 (x3 + 1).toNatClampNeg)]) (rest := [.int v173]) (b := a2) mv_X12_pull ml_L_55 k178 rfl rfl (Nat.le_of_ble_eq_true rfl) hd1 dL_law_650 rfl (ht.mono (fun r175 h176 p177 ht' => ?_))
      clear ht
      obtain ⟨v179, rfl, ht⟩ := ht'
      show Ex G d mL_law 653 [(0, .ref (G.2.1 3)), (1, .ref a1), (2, .ref a2), (3, .int x3)] [.int v179, .int v173] h176 Q
      refine x_icmp_eq (pc2 := 656) 1612 dL_law_653 (by decide) rfl (fun c180 => ?_) (fun c180 => ?_)
      · replace ht := ht.1 c180
        refine x_iinc (pc2 := 1615) 3 [1, 2, 3, 0] (i := 3) (x := x3) (v := (x3 + 9)) (lv2 := [(0, .ref (G.2.1 3)), (1, .ref a1), (2, .ref a2), (3, .int (x3 + 9))]) rfl (iinc_eq (by decide) _) (by decide) rfl dL_law_1612 rfl ?_
        refine x_goto 18 dL_law_1615 (by decide) ?_
        exact ht
      · replace ht := ht.2 c180
        refine x_iconst (pc2 := 657) (v := 0) (by decide) dL_law_656 rfl ?_
        exact x_retZ rfl (Or.inl rfl) dL_law_657 ht
    replace ht := ht.2 c167
    refine y_tcase (x := ((G.2.2.2 x3.toNatClampNeg) &&& 31)) 9 658 dL_law_33 (by decide) (by decide) rfl (by decide) (fun c181 => ?_) (fun c181 => ?_)
    · replace ht := ht.1 c181
      refine x_aload_n (pc2 := 659) 1 (n := 1) (x := a1) rfl dL_law_658 rfl ?_
      refine x_aload_n (pc2 := 660) 0 (n := 0) (x := (G.2.1 3)) rfl dL_law_659 rfl ?_
      refine x_iload_n (pc2 := 661) 3 (n := 3) (x := x3) rfl dL_law_660 rfl ?_
      refine x_iconst (pc2 := 662) (v := 1) (by decide) dL_law_661 rfl ?_
      refine x_iadd (pc2 := 663) dL_law_662 rfl ?_
      obtain ⟨b182, ht⟩ := ht
      refine x_script (pc2 := 664) b182 dL_law_663 rfl ?_
      refine x_aload_n (pc2 := 665) 0 (n := 0) (x := (G.2.1 3)) rfl dL_law_664 rfl ?_
      refine x_iload_n (pc2 := 666) 3 (n := 3) (x := x3) rfl dL_law_665 rfl ?_
      refine x_iconst (pc2 := 667) (v := 2) (by decide) dL_law_666 rfl ?_
      refine x_iadd (pc2 := 668) dL_law_667 rfl ?_
      obtain ⟨b183, ht⟩ := ht
      refine x_script (pc2 := 669) b183 dL_law_668 rfl ?_
      refine x_aload_n (pc2 := 670) 0 (n := 0) (x := (G.2.1 3)) rfl dL_law_669 rfl ?_
      refine x_iload_n (pc2 := 671) 3 (n := 3) (x := x3) rfl dL_law_670 rfl ?_
      refine x_iconst (pc2 := 672) (v := 3) (by decide) dL_law_671 rfl ?_
      refine x_iadd (pc2 := 673) dL_law_672 rfl ?_
      obtain ⟨b184, ht⟩ := ht
      refine x_script (pc2 := 674) b184 dL_law_673 rfl ?_
      refine x_aload_n (pc2 := 675) 0 (n := 0) (x := (G.2.1 3)) rfl dL_law_674 rfl ?_
      refine x_iload_n (pc2 := 676) 3 (n := 3) (x := x3) rfl dL_law_675 rfl ?_
      refine x_iconst (pc2 := 677) (v := 4) (by decide) dL_law_676 rfl ?_
      refine x_iadd (pc2 := 678) dL_law_677 rfl ?_
      obtain ⟨b185, ht⟩ := ht
      refine x_script (pc2 := 679) b185 dL_law_678 rfl ?_
      obtain ⟨k189, ht⟩ := ht
      refine x_callV (pc2 := 682) (As := [.int (G.2.2.2 (x3 + 1).toNatClampNeg), .int (G.2.2.2 (x3 + 2).toNatClampNeg), .int (G.2.2.2 (x3 + 3).toNatClampNeg), .int (G.2.2.2 (x3 + 4).toNatClampNeg)]) (rest := []) (b := a1) mv_X11_gate ml_L_56 k189 rfl rfl (Nat.le_of_ble_eq_true rfl) hd1 dL_law_679 rfl (ht.mono (fun r186 h187 p188 ht' => ?_))
      clear ht
      obtain ⟨v190, rfl, ht⟩ := ht'
      show Ex G d mL_law 682 [(0, .ref (G.2.1 3)), (1, .ref a1), (2, .ref a2), (3, .int x3)] [.int v190] h187 Q
      refine x_aload_n (pc2 := 683) 2 (n := 2) (x := a2) rfl dL_law_682 rfl ?_
      refine x_aload_n (pc2 := 684) 0 (n := 0) (x := (G.2.1 3)) rfl dL_law_683 rfl ?_
      refine x_iload_n (pc2 := 685) 3 (n := 3) (x := x3) rfl dL_law_684 rfl ?_
      refine x_iconst (pc2 := 686) (v := 1) (by decide) dL_law_685 rfl ?_
      refine x_iadd (pc2 := 687) dL_law_686 rfl ?_
      obtain ⟨b191, ht⟩ := ht
      refine x_script (pc2 := 688) b191 dL_law_687 rfl ?_
      refine x_aload_n (pc2 := 689) 0 (n := 0) (x := (G.2.1 3)) rfl dL_law_688 rfl ?_
      refine x_iload_n (pc2 := 690) 3 (n := 3) (x := x3) rfl dL_law_689 rfl ?_
      refine x_iconst (pc2 := 691) (v := 2) (by decide) dL_law_690 rfl ?_
      refine x_iadd (pc2 := 692) dL_law_691 rfl ?_
      obtain ⟨b192, ht⟩ := ht
      refine x_script (pc2 := 693) b192 dL_law_692 rfl ?_
      refine x_aload_n (pc2 := 694) 0 (n := 0) (x := (G.2.1 3)) rfl dL_law_693 rfl ?_
      refine x_iload_n (pc2 := 695) 3 (n := 3) (x := x3) rfl dL_law_694 rfl ?_
      refine x_iconst (pc2 := 696) (v := 3) (by decide) dL_law_695 rfl ?_
      refine x_iadd (pc2 := 697) dL_law_696 rfl ?_
      obtain ⟨b193, ht⟩ := ht
      refine x_script (pc2 := 698) b193 dL_law_697 rfl ?_
      refine x_aload_n (pc2 := 699) 0 (n := 0) (x := (G.2.1 3)) rfl dL_law_698 rfl ?_
      refine x_iload_n (pc2 := 700) 3 (n := 3) (x := x3) rfl dL_law_699 rfl ?_
      refine x_iconst (pc2 := 701) (v := 4) (by decide) dL_law_700 rfl ?_
      refine x_iadd (pc2 := 702) dL_law_701 rfl ?_
      obtain ⟨b194, ht⟩ := ht
      refine x_script (pc2 := 703) b194 dL_law_702 rfl ?_
      obtain ⟨k198, ht⟩ := ht
      refine x_callV (pc2 := 706) (As := [.int (G.2.2.2 (x3 + 1).toNatClampNeg), .int (G.2.2.2 (x3 + 2).toNatClampNeg), .int (G.2.2.2 (x3 + 3).toNatClampNeg), .int (G.2.2.2 (x3 + 4).toNatClampNeg)]) (rest := [.int v190]) (b := a2) mv_X12_gate ml_L_60 k198 rfl rfl (Nat.le_of_ble_eq_true rfl) hd1 dL_law_703 rfl (ht.mono (fun r195 h196 p197 ht' => ?_))
      clear ht
      obtain ⟨v199, rfl, ht⟩ := ht'
      show Ex G d mL_law 706 [(0, .ref (G.2.1 3)), (1, .ref a1), (2, .ref a2), (3, .int x3)] [.int v199, .int v190] h196 Q
      refine x_icmp_eq (pc2 := 709) 1612 dL_law_706 (by decide) rfl (fun c200 => ?_) (fun c200 => ?_)
      · replace ht := ht.1 c200
        refine x_iinc (pc2 := 1615) 3 [1, 2, 3, 0] (i := 3) (x := x3) (v := (x3 + 9)) (lv2 := [(0, .ref (G.2.1 3)), (1, .ref a1), (2, .ref a2), (3, .int (x3 + 9))]) rfl (iinc_eq (by decide) _) (by decide) rfl dL_law_1612 rfl ?_
        refine x_goto 18 dL_law_1615 (by decide) ?_
        exact ht
      · replace ht := ht.2 c200
        refine x_iconst (pc2 := 710) (v := 0) (by decide) dL_law_709 rfl ?_
        exact x_retZ rfl (Or.inl rfl) dL_law_710 ht
    replace ht := ht.2 c181
    refine y_tcase (x := ((G.2.2.2 x3.toNatClampNeg) &&& 31)) 10 711 dL_law_33 (by decide) (by decide) rfl (by decide) (fun c201 => ?_) (fun c201 => ?_)
    · replace ht := ht.1 c201
      refine x_aload_n (pc2 := 712) 1 (n := 1) (x := a1) rfl dL_law_711 rfl ?_
      refine x_aload_n (pc2 := 713) 0 (n := 0) (x := (G.2.1 3)) rfl dL_law_712 rfl ?_
      refine x_iload_n (pc2 := 714) 3 (n := 3) (x := x3) rfl dL_law_713 rfl ?_
      refine x_iconst (pc2 := 715) (v := 1) (by decide) dL_law_714 rfl ?_
      refine x_iadd (pc2 := 716) dL_law_715 rfl ?_
      obtain ⟨b202, ht⟩ := ht
      refine x_script (pc2 := 717) b202 dL_law_716 rfl ?_
      refine x_aload_n (pc2 := 718) 0 (n := 0) (x := (G.2.1 3)) rfl dL_law_717 rfl ?_
      refine x_iload_n (pc2 := 719) 3 (n := 3) (x := x3) rfl dL_law_718 rfl ?_
      refine x_iconst (pc2 := 720) (v := 2) (by decide) dL_law_719 rfl ?_
      refine x_iadd (pc2 := 721) dL_law_720 rfl ?_
      obtain ⟨b203, ht⟩ := ht
      refine x_script (pc2 := 722) b203 dL_law_721 rfl ?_
      refine x_aload_n (pc2 := 723) 0 (n := 0) (x := (G.2.1 3)) rfl dL_law_722 rfl ?_
      refine x_iload_n (pc2 := 724) 3 (n := 3) (x := x3) rfl dL_law_723 rfl ?_
      refine x_iconst (pc2 := 725) (v := 3) (by decide) dL_law_724 rfl ?_
      refine x_iadd (pc2 := 726) dL_law_725 rfl ?_
      obtain ⟨b204, ht⟩ := ht
      refine x_script (pc2 := 727) b204 dL_law_726 rfl ?_
      refine x_if_eq (pc2 := 730) 734 dL_law_727 (by decide) rfl (fun c205 => ?_) (fun c205 => ?_)
      · replace ht := ht.1 c205
        refine x_iconst (pc2 := 735) (v := 0) (by decide) dL_law_734 rfl ?_
        exact ht
      · replace ht := ht.2 c205
        refine x_iconst (pc2 := 731) (v := 1) (by decide) dL_law_730 rfl ?_
        refine x_goto 735 dL_law_731 (by decide) ?_
        exact ht
    replace ht := ht.2 c201
    refine y_tcase (x := ((G.2.2.2 x3.toNatClampNeg) &&& 31)) 11 770 dL_law_33 (by decide) (by decide) rfl (by decide) (fun c206 => ?_) (fun c206 => ?_)
    · replace ht := ht.1 c206
      refine x_aload_n (pc2 := 771) 1 (n := 1) (x := a1) rfl dL_law_770 rfl ?_
      refine x_aload_n (pc2 := 772) 0 (n := 0) (x := (G.2.1 3)) rfl dL_law_771 rfl ?_
      refine x_iload_n (pc2 := 773) 3 (n := 3) (x := x3) rfl dL_law_772 rfl ?_
      refine x_iconst (pc2 := 774) (v := 1) (by decide) dL_law_773 rfl ?_
      refine x_iadd (pc2 := 775) dL_law_774 rfl ?_
      obtain ⟨b207, ht⟩ := ht
      refine x_script (pc2 := 776) b207 dL_law_775 rfl ?_
      refine x_aload_n (pc2 := 777) 0 (n := 0) (x := (G.2.1 3)) rfl dL_law_776 rfl ?_
      refine x_iload_n (pc2 := 778) 3 (n := 3) (x := x3) rfl dL_law_777 rfl ?_
      refine x_iconst (pc2 := 779) (v := 2) (by decide) dL_law_778 rfl ?_
      refine x_iadd (pc2 := 780) dL_law_779 rfl ?_
      obtain ⟨b208, ht⟩ := ht
      refine x_script (pc2 := 781) b208 dL_law_780 rfl ?_
      obtain ⟨k212, ht⟩ := ht
      refine x_callV (pc2 := 784) (As := [.int (G.2.2.2 (x3 + 1).toNatClampNeg), .int (G.2.2.2 (x3 + 2).toNatClampNeg)]) (rest := []) (b := a1) mv_X11_thing ml_L_66 k212 rfl rfl (Nat.le_of_ble_eq_true rfl) hd1 dL_law_781 rfl (ht.mono (fun r209 h210 p211 ht' => ?_))
      clear ht
      obtain ⟨v213, rfl, ht⟩ := ht'
      show Ex G d mL_law 784 [(0, .ref (G.2.1 3)), (1, .ref a1), (2, .ref a2), (3, .int x3)] [.int v213] h210 Q
      refine x_aload_n (pc2 := 785) 2 (n := 2) (x := a2) rfl dL_law_784 rfl ?_
      refine x_aload_n (pc2 := 786) 0 (n := 0) (x := (G.2.1 3)) rfl dL_law_785 rfl ?_
      refine x_iload_n (pc2 := 787) 3 (n := 3) (x := x3) rfl dL_law_786 rfl ?_
      refine x_iconst (pc2 := 788) (v := 1) (by decide) dL_law_787 rfl ?_
      refine x_iadd (pc2 := 789) dL_law_788 rfl ?_
      obtain ⟨b214, ht⟩ := ht
      refine x_script (pc2 := 790) b214 dL_law_789 rfl ?_
      refine x_aload_n (pc2 := 791) 0 (n := 0) (x := (G.2.1 3)) rfl dL_law_790 rfl ?_
      refine x_iload_n (pc2 := 792) 3 (n := 3) (x := x3) rfl dL_law_791 rfl ?_
      refine x_iconst (pc2 := 793) (v := 2) (by decide) dL_law_792 rfl ?_
      refine x_iadd (pc2 := 794) dL_law_793 rfl ?_
      obtain ⟨b215, ht⟩ := ht
      refine x_script (pc2 := 795) b215 dL_law_794 rfl ?_
      obtain ⟨k219, ht⟩ := ht
      refine x_callV (pc2 := 798) (As := [.int (G.2.2.2 (x3 + 1).toNatClampNeg), .int (G.2.2.2 (x3 + 2).toNatClampNeg)]) (rest := [.int v213]) (b := a2) mv_X12_thing ml_L_70 k219 rfl rfl (Nat.le_of_ble_eq_true rfl) hd1 dL_law_795 rfl (ht.mono (fun r216 h217 p218 ht' => ?_))
      clear ht
      obtain ⟨v220, rfl, ht⟩ := ht'
      show Ex G d mL_law 798 [(0, .ref (G.2.1 3)), (1, .ref a1), (2, .ref a2), (3, .int x3)] [.int v220, .int v213] h217 Q
      refine x_icmp_eq (pc2 := 801) 1612 dL_law_798 (by decide) rfl (fun c221 => ?_) (fun c221 => ?_)
      · replace ht := ht.1 c221
        refine x_iinc (pc2 := 1615) 3 [1, 2, 3, 0] (i := 3) (x := x3) (v := (x3 + 9)) (lv2 := [(0, .ref (G.2.1 3)), (1, .ref a1), (2, .ref a2), (3, .int (x3 + 9))]) rfl (iinc_eq (by decide) _) (by decide) rfl dL_law_1612 rfl ?_
        refine x_goto 18 dL_law_1615 (by decide) ?_
        exact ht
      · replace ht := ht.2 c221
        refine x_iconst (pc2 := 802) (v := 0) (by decide) dL_law_801 rfl ?_
        exact x_retZ rfl (Or.inl rfl) dL_law_802 ht
    replace ht := ht.2 c206
    refine y_tcase (x := ((G.2.2.2 x3.toNatClampNeg) &&& 31)) 12 803 dL_law_33 (by decide) (by decide) rfl (by decide) (fun c222 => ?_) (fun c222 => ?_)
    · replace ht := ht.1 c222
      refine x_aload_n (pc2 := 804) 1 (n := 1) (x := a1) rfl dL_law_803 rfl ?_
      refine x_aload_n (pc2 := 805) 0 (n := 0) (x := (G.2.1 3)) rfl dL_law_804 rfl ?_
      refine x_iload_n (pc2 := 806) 3 (n := 3) (x := x3) rfl dL_law_805 rfl ?_
      refine x_iconst (pc2 := 807) (v := 1) (by decide) dL_law_806 rfl ?_
      refine x_iadd (pc2 := 808) dL_law_807 rfl ?_
      obtain ⟨b223, ht⟩ := ht
      refine x_script (pc2 := 809) b223 dL_law_808 rfl ?_
      refine x_aload_n (pc2 := 810) 0 (n := 0) (x := (G.2.1 3)) rfl dL_law_809 rfl ?_
      refine x_iload_n (pc2 := 811) 3 (n := 3) (x := x3) rfl dL_law_810 rfl ?_
      refine x_iconst (pc2 := 812) (v := 2) (by decide) dL_law_811 rfl ?_
      refine x_iadd (pc2 := 813) dL_law_812 rfl ?_
      obtain ⟨b224, ht⟩ := ht
      refine x_script (pc2 := 814) b224 dL_law_813 rfl ?_
      refine x_aload_n (pc2 := 815) 0 (n := 0) (x := (G.2.1 3)) rfl dL_law_814 rfl ?_
      refine x_iload_n (pc2 := 816) 3 (n := 3) (x := x3) rfl dL_law_815 rfl ?_
      refine x_iconst (pc2 := 817) (v := 3) (by decide) dL_law_816 rfl ?_
      refine x_iadd (pc2 := 818) dL_law_817 rfl ?_
      obtain ⟨b225, ht⟩ := ht
      refine x_script (pc2 := 819) b225 dL_law_818 rfl ?_
      obtain ⟨k229, ht⟩ := ht
      refine x_callV (pc2 := 822) (As := [.int (G.2.2.2 (x3 + 1).toNatClampNeg), .int (G.2.2.2 (x3 + 2).toNatClampNeg), .int (G.2.2.2 (x3 + 3).toNatClampNeg)]) (rest := []) (b := a1) mv_X11_cell ml_L_71 k229 rfl rfl (Nat.le_of_ble_eq_true rfl) hd1 dL_law_819 rfl (ht.mono (fun r226 h227 p228 ht' => ?_))
      clear ht
      obtain ⟨v230, rfl, ht⟩ := ht'
      show Ex G d mL_law 822 [(0, .ref (G.2.1 3)), (1, .ref a1), (2, .ref a2), (3, .int x3)] [.int v230] h227 Q
      refine x_aload_n (pc2 := 823) 2 (n := 2) (x := a2) rfl dL_law_822 rfl ?_
      refine x_aload_n (pc2 := 824) 0 (n := 0) (x := (G.2.1 3)) rfl dL_law_823 rfl ?_
      refine x_iload_n (pc2 := 825) 3 (n := 3) (x := x3) rfl dL_law_824 rfl ?_
      refine x_iconst (pc2 := 826) (v := 1) (by decide) dL_law_825 rfl ?_
      refine x_iadd (pc2 := 827) dL_law_826 rfl ?_
      obtain ⟨b231, ht⟩ := ht
      refine x_script (pc2 := 828) b231 dL_law_827 rfl ?_
      refine x_aload_n (pc2 := 829) 0 (n := 0) (x := (G.2.1 3)) rfl dL_law_828 rfl ?_
      refine x_iload_n (pc2 := 830) 3 (n := 3) (x := x3) rfl dL_law_829 rfl ?_
      refine x_iconst (pc2 := 831) (v := 2) (by decide) dL_law_830 rfl ?_
      refine x_iadd (pc2 := 832) dL_law_831 rfl ?_
      obtain ⟨b232, ht⟩ := ht
      refine x_script (pc2 := 833) b232 dL_law_832 rfl ?_
      refine x_aload_n (pc2 := 834) 0 (n := 0) (x := (G.2.1 3)) rfl dL_law_833 rfl ?_
      refine x_iload_n (pc2 := 835) 3 (n := 3) (x := x3) rfl dL_law_834 rfl ?_
      refine x_iconst (pc2 := 836) (v := 3) (by decide) dL_law_835 rfl ?_
      refine x_iadd (pc2 := 837) dL_law_836 rfl ?_
      obtain ⟨b233, ht⟩ := ht
      refine x_script (pc2 := 838) b233 dL_law_837 rfl ?_
      obtain ⟨k237, ht⟩ := ht
      refine x_callV (pc2 := 841) (As := [.int (G.2.2.2 (x3 + 1).toNatClampNeg), .int (G.2.2.2 (x3 + 2).toNatClampNeg), .int (G.2.2.2 (x3 + 3).toNatClampNeg)]) (rest := [.int v230]) (b := a2) mv_X12_cell ml_L_74 k237 rfl rfl (Nat.le_of_ble_eq_true rfl) hd1 dL_law_838 rfl (ht.mono (fun r234 h235 p236 ht' => ?_))
      clear ht
      obtain ⟨v238, rfl, ht⟩ := ht'
      show Ex G d mL_law 841 [(0, .ref (G.2.1 3)), (1, .ref a1), (2, .ref a2), (3, .int x3)] [.int v238, .int v230] h235 Q
      refine x_icmp_eq (pc2 := 844) 1612 dL_law_841 (by decide) rfl (fun c239 => ?_) (fun c239 => ?_)
      · replace ht := ht.1 c239
        refine x_iinc (pc2 := 1615) 3 [1, 2, 3, 0] (i := 3) (x := x3) (v := (x3 + 9)) (lv2 := [(0, .ref (G.2.1 3)), (1, .ref a1), (2, .ref a2), (3, .int (x3 + 9))]) rfl (iinc_eq (by decide) _) (by decide) rfl dL_law_1612 rfl ?_
        refine x_goto 18 dL_law_1615 (by decide) ?_
        exact ht
      · replace ht := ht.2 c239
        refine x_iconst (pc2 := 845) (v := 0) (by decide) dL_law_844 rfl ?_
        exact x_retZ rfl (Or.inl rfl) dL_law_845 ht
    replace ht := ht.2 c222
    refine y_tcase (x := ((G.2.2.2 x3.toNatClampNeg) &&& 31)) 13 846 dL_law_33 (by decide) (by decide) rfl (by decide) (fun c240 => ?_) (fun c240 => ?_)
    · replace ht := ht.1 c240
      refine x_aload_n (pc2 := 847) 1 (n := 1) (x := a1) rfl dL_law_846 rfl ?_
      refine x_aload_n (pc2 := 848) 0 (n := 0) (x := (G.2.1 3)) rfl dL_law_847 rfl ?_
      refine x_iload_n (pc2 := 849) 3 (n := 3) (x := x3) rfl dL_law_848 rfl ?_
      refine x_iconst (pc2 := 850) (v := 1) (by decide) dL_law_849 rfl ?_
      refine x_iadd (pc2 := 851) dL_law_850 rfl ?_
      obtain ⟨b241, ht⟩ := ht
      refine x_script (pc2 := 852) b241 dL_law_851 rfl ?_
      refine x_aload_n (pc2 := 853) 0 (n := 0) (x := (G.2.1 3)) rfl dL_law_852 rfl ?_
      refine x_iload_n (pc2 := 854) 3 (n := 3) (x := x3) rfl dL_law_853 rfl ?_
      refine x_iconst (pc2 := 855) (v := 2) (by decide) dL_law_854 rfl ?_
      refine x_iadd (pc2 := 856) dL_law_855 rfl ?_
      obtain ⟨b242, ht⟩ := ht
      refine x_script (pc2 := 857) b242 dL_law_856 rfl ?_
      obtain ⟨k246, ht⟩ := ht
      refine x_callV (pc2 := 860) (As := [.int (G.2.2.2 (x3 + 1).toNatClampNeg), .int (G.2.2.2 (x3 + 2).toNatClampNeg)]) (rest := []) (b := a1) mv_X11_inside ml_L_75 k246 rfl rfl (Nat.le_of_ble_eq_true rfl) hd1 dL_law_857 rfl (ht.mono (fun r243 h244 p245 ht' => ?_))
      clear ht
      obtain ⟨v247, rfl, ht⟩ := ht'
      show Ex G d mL_law 860 [(0, .ref (G.2.1 3)), (1, .ref a1), (2, .ref a2), (3, .int x3)] [.int v247] h244 Q
      refine x_aload_n (pc2 := 861) 2 (n := 2) (x := a2) rfl dL_law_860 rfl ?_
      refine x_aload_n (pc2 := 862) 0 (n := 0) (x := (G.2.1 3)) rfl dL_law_861 rfl ?_
      refine x_iload_n (pc2 := 863) 3 (n := 3) (x := x3) rfl dL_law_862 rfl ?_
      refine x_iconst (pc2 := 864) (v := 1) (by decide) dL_law_863 rfl ?_
      refine x_iadd (pc2 := 865) dL_law_864 rfl ?_
      obtain ⟨b248, ht⟩ := ht
      refine x_script (pc2 := 866) b248 dL_law_865 rfl ?_
      refine x_aload_n (pc2 := 867) 0 (n := 0) (x := (G.2.1 3)) rfl dL_law_866 rfl ?_
      refine x_iload_n (pc2 := 868) 3 (n := 3) (x := x3) rfl dL_law_867 rfl ?_
      refine x_iconst (pc2 := 869) (v := 2) (by decide) dL_law_868 rfl ?_
      refine x_iadd (pc2 := 870) dL_law_869 rfl ?_
      obtain ⟨b249, ht⟩ := ht
      refine x_script (pc2 := 871) b249 dL_law_870 rfl ?_
      obtain ⟨k253, ht⟩ := ht
      refine x_callV (pc2 := 874) (As := [.int (G.2.2.2 (x3 + 1).toNatClampNeg), .int (G.2.2.2 (x3 + 2).toNatClampNeg)]) (rest := [.int v247]) (b := a2) mv_X12_inside ml_L_78 k253 rfl rfl (Nat.le_of_ble_eq_true rfl) hd1 dL_law_871 rfl (ht.mono (fun r250 h251 p252 ht' => ?_))
      clear ht
      obtain ⟨v254, rfl, ht⟩ := ht'
      show Ex G d mL_law 874 [(0, .ref (G.2.1 3)), (1, .ref a1), (2, .ref a2), (3, .int x3)] [.int v254, .int v247] h251 Q
      refine x_icmp_eq (pc2 := 877) 1612 dL_law_874 (by decide) rfl (fun c255 => ?_) (fun c255 => ?_)
      · replace ht := ht.1 c255
        refine x_iinc (pc2 := 1615) 3 [1, 2, 3, 0] (i := 3) (x := x3) (v := (x3 + 9)) (lv2 := [(0, .ref (G.2.1 3)), (1, .ref a1), (2, .ref a2), (3, .int (x3 + 9))]) rfl (iinc_eq (by decide) _) (by decide) rfl dL_law_1612 rfl ?_
        refine x_goto 18 dL_law_1615 (by decide) ?_
        exact ht
      · replace ht := ht.2 c255
        refine x_iconst (pc2 := 878) (v := 0) (by decide) dL_law_877 rfl ?_
        exact x_retZ rfl (Or.inl rfl) dL_law_878 ht
    replace ht := ht.2 c240
    refine y_tcase (x := ((G.2.2.2 x3.toNatClampNeg) &&& 31)) 14 879 dL_law_33 (by decide) (by decide) rfl (by decide) (fun c256 => ?_) (fun c256 => ?_)
    · replace ht := ht.1 c256
      refine x_aload_n (pc2 := 880) 1 (n := 1) (x := a1) rfl dL_law_879 rfl ?_
      refine x_aload_n (pc2 := 881) 0 (n := 0) (x := (G.2.1 3)) rfl dL_law_880 rfl ?_
      refine x_iload_n (pc2 := 882) 3 (n := 3) (x := x3) rfl dL_law_881 rfl ?_
      refine x_iconst (pc2 := 883) (v := 1) (by decide) dL_law_882 rfl ?_
      refine x_iadd (pc2 := 884) dL_law_883 rfl ?_
      obtain ⟨b257, ht⟩ := ht
      refine x_script (pc2 := 885) b257 dL_law_884 rfl ?_
      refine x_aload_n (pc2 := 886) 0 (n := 0) (x := (G.2.1 3)) rfl dL_law_885 rfl ?_
      refine x_iload_n (pc2 := 887) 3 (n := 3) (x := x3) rfl dL_law_886 rfl ?_
      refine x_iconst (pc2 := 888) (v := 2) (by decide) dL_law_887 rfl ?_
      refine x_iadd (pc2 := 889) dL_law_888 rfl ?_
      obtain ⟨b258, ht⟩ := ht
      refine x_script (pc2 := 890) b258 dL_law_889 rfl ?_
      refine x_aload_n (pc2 := 891) 0 (n := 0) (x := (G.2.1 3)) rfl dL_law_890 rfl ?_
      refine x_iload_n (pc2 := 892) 3 (n := 3) (x := x3) rfl dL_law_891 rfl ?_
      refine x_iconst (pc2 := 893) (v := 3) (by decide) dL_law_892 rfl ?_
      refine x_iadd (pc2 := 894) dL_law_893 rfl ?_
      obtain ⟨b259, ht⟩ := ht
      refine x_script (pc2 := 895) b259 dL_law_894 rfl ?_
      refine x_aload_n (pc2 := 896) 0 (n := 0) (x := (G.2.1 3)) rfl dL_law_895 rfl ?_
      refine x_iload_n (pc2 := 897) 3 (n := 3) (x := x3) rfl dL_law_896 rfl ?_
      refine x_iconst (pc2 := 898) (v := 4) (by decide) dL_law_897 rfl ?_
      refine x_iadd (pc2 := 899) dL_law_898 rfl ?_
      obtain ⟨b260, ht⟩ := ht
      refine x_script (pc2 := 900) b260 dL_law_899 rfl ?_
      refine x_aload_n (pc2 := 901) 0 (n := 0) (x := (G.2.1 3)) rfl dL_law_900 rfl ?_
      refine x_iload_n (pc2 := 902) 3 (n := 3) (x := x3) rfl dL_law_901 rfl ?_
      refine x_iconst (pc2 := 903) (v := 5) (by decide) dL_law_902 rfl ?_
      refine x_iadd (pc2 := 904) dL_law_903 rfl ?_
      obtain ⟨b261, ht⟩ := ht
      refine x_script (pc2 := 905) b261 dL_law_904 rfl ?_
      refine x_aload_n (pc2 := 906) 0 (n := 0) (x := (G.2.1 3)) rfl dL_law_905 rfl ?_
      refine x_iload_n (pc2 := 907) 3 (n := 3) (x := x3) rfl dL_law_906 rfl ?_
      refine x_bipush (pc2 := 909) (v := 6) (by decide) dL_law_907 rfl ?_
      refine x_iadd (pc2 := 910) dL_law_909 rfl ?_
      obtain ⟨b262, ht⟩ := ht
      refine x_script (pc2 := 911) b262 dL_law_910 rfl ?_
      refine x_aload_n (pc2 := 912) 0 (n := 0) (x := (G.2.1 3)) rfl dL_law_911 rfl ?_
      refine x_iload_n (pc2 := 913) 3 (n := 3) (x := x3) rfl dL_law_912 rfl ?_
      refine x_bipush (pc2 := 915) (v := 7) (by decide) dL_law_913 rfl ?_
      refine x_iadd (pc2 := 916) dL_law_915 rfl ?_
      obtain ⟨b263, ht⟩ := ht
      refine x_script (pc2 := 917) b263 dL_law_916 rfl ?_
      obtain ⟨k267, ht⟩ := ht
      refine x_callV (pc2 := 920) (As := [.int (G.2.2.2 (x3 + 1).toNatClampNeg), .int (G.2.2.2 (x3 + 2).toNatClampNeg), .int (G.2.2.2 (x3 + 3).toNatClampNeg), .int (G.2.2.2 (x3 + 4).toNatClampNeg), .int (G.2.2.2 (x3 + 5).toNatClampNeg), .int (G.2.2.2 (x3 + 6).toNatClampNeg), .int (G.2.2.2 (x3 + 7).toNatClampNeg)]) (rest := []) (b := a1) mv_X11_best ml_L_79 k267 rfl rfl (Nat.le_of_ble_eq_true rfl) hd1 dL_law_917 rfl (ht.mono (fun r264 h265 p266 ht' => ?_))
      clear ht
      obtain ⟨v268, rfl, ht⟩ := ht'
      show Ex G d mL_law 920 [(0, .ref (G.2.1 3)), (1, .ref a1), (2, .ref a2), (3, .int x3)] [.int v268] h265 Q
      refine x_aload_n (pc2 := 921) 2 (n := 2) (x := a2) rfl dL_law_920 rfl ?_
      refine x_aload_n (pc2 := 922) 0 (n := 0) (x := (G.2.1 3)) rfl dL_law_921 rfl ?_
      refine x_iload_n (pc2 := 923) 3 (n := 3) (x := x3) rfl dL_law_922 rfl ?_
      refine x_iconst (pc2 := 924) (v := 1) (by decide) dL_law_923 rfl ?_
      refine x_iadd (pc2 := 925) dL_law_924 rfl ?_
      obtain ⟨b269, ht⟩ := ht
      refine x_script (pc2 := 926) b269 dL_law_925 rfl ?_
      refine x_aload_n (pc2 := 927) 0 (n := 0) (x := (G.2.1 3)) rfl dL_law_926 rfl ?_
      refine x_iload_n (pc2 := 928) 3 (n := 3) (x := x3) rfl dL_law_927 rfl ?_
      refine x_iconst (pc2 := 929) (v := 2) (by decide) dL_law_928 rfl ?_
      refine x_iadd (pc2 := 930) dL_law_929 rfl ?_
      obtain ⟨b270, ht⟩ := ht
      refine x_script (pc2 := 931) b270 dL_law_930 rfl ?_
      refine x_aload_n (pc2 := 932) 0 (n := 0) (x := (G.2.1 3)) rfl dL_law_931 rfl ?_
      refine x_iload_n (pc2 := 933) 3 (n := 3) (x := x3) rfl dL_law_932 rfl ?_
      refine x_iconst (pc2 := 934) (v := 3) (by decide) dL_law_933 rfl ?_
      refine x_iadd (pc2 := 935) dL_law_934 rfl ?_
      obtain ⟨b271, ht⟩ := ht
      refine x_script (pc2 := 936) b271 dL_law_935 rfl ?_
      refine x_aload_n (pc2 := 937) 0 (n := 0) (x := (G.2.1 3)) rfl dL_law_936 rfl ?_
      refine x_iload_n (pc2 := 938) 3 (n := 3) (x := x3) rfl dL_law_937 rfl ?_
      refine x_iconst (pc2 := 939) (v := 4) (by decide) dL_law_938 rfl ?_
      refine x_iadd (pc2 := 940) dL_law_939 rfl ?_
      obtain ⟨b272, ht⟩ := ht
      refine x_script (pc2 := 941) b272 dL_law_940 rfl ?_
      refine x_aload_n (pc2 := 942) 0 (n := 0) (x := (G.2.1 3)) rfl dL_law_941 rfl ?_
      refine x_iload_n (pc2 := 943) 3 (n := 3) (x := x3) rfl dL_law_942 rfl ?_
      refine x_iconst (pc2 := 944) (v := 5) (by decide) dL_law_943 rfl ?_
      refine x_iadd (pc2 := 945) dL_law_944 rfl ?_
      obtain ⟨b273, ht⟩ := ht
      refine x_script (pc2 := 946) b273 dL_law_945 rfl ?_
      refine x_aload_n (pc2 := 947) 0 (n := 0) (x := (G.2.1 3)) rfl dL_law_946 rfl ?_
      refine x_iload_n (pc2 := 948) 3 (n := 3) (x := x3) rfl dL_law_947 rfl ?_
      refine x_bipush (pc2 := 950) (v := 6) (by decide) dL_law_948 rfl ?_
      refine x_iadd (pc2 := 951) dL_law_950 rfl ?_
      obtain ⟨b274, ht⟩ := ht
      refine x_script (pc2 := 952) b274 dL_law_951 rfl ?_
      refine x_aload_n (pc2 := 953) 0 (n := 0) (x := (G.2.1 3)) rfl dL_law_952 rfl ?_
      refine x_iload_n (pc2 := 954) 3 (n := 3) (x := x3) rfl dL_law_953 rfl ?_
      refine x_bipush (pc2 := 956) (v := 7) (by decide) dL_law_954 rfl ?_
      refine x_iadd (pc2 := 957) dL_law_956 rfl ?_
      obtain ⟨b275, ht⟩ := ht
      refine x_script (pc2 := 958) b275 dL_law_957 rfl ?_
      obtain ⟨k279, ht⟩ := ht
      refine x_callV (pc2 := 961) (As := [.int (G.2.2.2 (x3 + 1).toNatClampNeg), .int (G.2.2.2 (x3 + 2).toNatClampNeg), .int (G.2.2.2 (x3 + 3).toNatClampNeg), .int (G.2.2.2 (x3 + 4).toNatClampNeg), .int (G.2.2.2 (x3 + 5).toNatClampNeg), .int (G.2.2.2 (x3 + 6).toNatClampNeg), .int (G.2.2.2 (x3 + 7).toNatClampNeg)]) (rest := [.int v268]) (b := a2) mv_X12_best ml_L_83 k279 rfl rfl (Nat.le_of_ble_eq_true rfl) hd1 dL_law_958 rfl (ht.mono (fun r276 h277 p278 ht' => ?_))
      clear ht
      obtain ⟨v280, rfl, ht⟩ := ht'
      show Ex G d mL_law 961 [(0, .ref (G.2.1 3)), (1, .ref a1), (2, .ref a2), (3, .int x3)] [.int v280, .int v268] h277 Q
      refine x_icmp_eq (pc2 := 964) 1612 dL_law_961 (by decide) rfl (fun c281 => ?_) (fun c281 => ?_)
      · replace ht := ht.1 c281
        refine x_iinc (pc2 := 1615) 3 [1, 2, 3, 0] (i := 3) (x := x3) (v := (x3 + 9)) (lv2 := [(0, .ref (G.2.1 3)), (1, .ref a1), (2, .ref a2), (3, .int (x3 + 9))]) rfl (iinc_eq (by decide) _) (by decide) rfl dL_law_1612 rfl ?_
        refine x_goto 18 dL_law_1615 (by decide) ?_
        exact ht
      · replace ht := ht.2 c281
        refine x_iconst (pc2 := 965) (v := 0) (by decide) dL_law_964 rfl ?_
        exact x_retZ rfl (Or.inl rfl) dL_law_965 ht
    replace ht := ht.2 c256
    refine y_tcase (x := ((G.2.2.2 x3.toNatClampNeg) &&& 31)) 15 966 dL_law_33 (by decide) (by decide) rfl (by decide) (fun c282 => ?_) (fun c282 => ?_)
    · replace ht := ht.1 c282
      refine x_aload_n (pc2 := 967) 1 (n := 1) (x := a1) rfl dL_law_966 rfl ?_
      refine x_aload_n (pc2 := 968) 0 (n := 0) (x := (G.2.1 3)) rfl dL_law_967 rfl ?_
      refine x_iload_n (pc2 := 969) 3 (n := 3) (x := x3) rfl dL_law_968 rfl ?_
      refine x_iconst (pc2 := 970) (v := 1) (by decide) dL_law_969 rfl ?_
      refine x_iadd (pc2 := 971) dL_law_970 rfl ?_
      obtain ⟨b283, ht⟩ := ht
      refine x_script (pc2 := 972) b283 dL_law_971 rfl ?_
      refine x_aload_n (pc2 := 973) 0 (n := 0) (x := (G.2.1 3)) rfl dL_law_972 rfl ?_
      refine x_iload_n (pc2 := 974) 3 (n := 3) (x := x3) rfl dL_law_973 rfl ?_
      refine x_iconst (pc2 := 975) (v := 2) (by decide) dL_law_974 rfl ?_
      refine x_iadd (pc2 := 976) dL_law_975 rfl ?_
      obtain ⟨b284, ht⟩ := ht
      refine x_script (pc2 := 977) b284 dL_law_976 rfl ?_
      refine x_aload_n (pc2 := 978) 0 (n := 0) (x := (G.2.1 3)) rfl dL_law_977 rfl ?_
      refine x_iload_n (pc2 := 979) 3 (n := 3) (x := x3) rfl dL_law_978 rfl ?_
      refine x_iconst (pc2 := 980) (v := 3) (by decide) dL_law_979 rfl ?_
      refine x_iadd (pc2 := 981) dL_law_980 rfl ?_
      obtain ⟨b285, ht⟩ := ht
      refine x_script (pc2 := 982) b285 dL_law_981 rfl ?_
      refine x_aload_n (pc2 := 983) 0 (n := 0) (x := (G.2.1 3)) rfl dL_law_982 rfl ?_
      refine x_iload_n (pc2 := 984) 3 (n := 3) (x := x3) rfl dL_law_983 rfl ?_
      refine x_iconst (pc2 := 985) (v := 4) (by decide) dL_law_984 rfl ?_
      refine x_iadd (pc2 := 986) dL_law_985 rfl ?_
      obtain ⟨b286, ht⟩ := ht
      refine x_script (pc2 := 987) b286 dL_law_986 rfl ?_
      refine x_aload_n (pc2 := 988) 0 (n := 0) (x := (G.2.1 3)) rfl dL_law_987 rfl ?_
      refine x_iload_n (pc2 := 989) 3 (n := 3) (x := x3) rfl dL_law_988 rfl ?_
      refine x_iconst (pc2 := 990) (v := 5) (by decide) dL_law_989 rfl ?_
      refine x_iadd (pc2 := 991) dL_law_990 rfl ?_
      obtain ⟨b287, ht⟩ := ht
      refine x_script (pc2 := 992) b287 dL_law_991 rfl ?_
      refine x_aload_n (pc2 := 993) 0 (n := 0) (x := (G.2.1 3)) rfl dL_law_992 rfl ?_
      refine x_iload_n (pc2 := 994) 3 (n := 3) (x := x3) rfl dL_law_993 rfl ?_
      refine x_bipush (pc2 := 996) (v := 6) (by decide) dL_law_994 rfl ?_
      refine x_iadd (pc2 := 997) dL_law_996 rfl ?_
      obtain ⟨b288, ht⟩ := ht
      refine x_script (pc2 := 998) b288 dL_law_997 rfl ?_
      refine x_aload_n (pc2 := 999) 0 (n := 0) (x := (G.2.1 3)) rfl dL_law_998 rfl ?_
      refine x_iload_n (pc2 := 1000) 3 (n := 3) (x := x3) rfl dL_law_999 rfl ?_
      refine x_bipush (pc2 := 1002) (v := 7) (by decide) dL_law_1000 rfl ?_
      refine x_iadd (pc2 := 1003) dL_law_1002 rfl ?_
      obtain ⟨b289, ht⟩ := ht
      refine x_script (pc2 := 1004) b289 dL_law_1003 rfl ?_
      obtain ⟨k293, ht⟩ := ht
      refine x_callV (pc2 := 1007) (As := [.int (G.2.2.2 (x3 + 1).toNatClampNeg), .int (G.2.2.2 (x3 + 2).toNatClampNeg), .int (G.2.2.2 (x3 + 3).toNatClampNeg), .int (G.2.2.2 (x3 + 4).toNatClampNeg), .int (G.2.2.2 (x3 + 5).toNatClampNeg), .int (G.2.2.2 (x3 + 6).toNatClampNeg), .int (G.2.2.2 (x3 + 7).toNatClampNeg)]) (rest := []) (b := a1) mv_X11_ahead ml_L_84 k293 rfl rfl (Nat.le_of_ble_eq_true rfl) hd1 dL_law_1004 rfl (ht.mono (fun r290 h291 p292 ht' => ?_))
      clear ht
      obtain ⟨v294, rfl, ht⟩ := ht'
      show Ex G d mL_law 1007 [(0, .ref (G.2.1 3)), (1, .ref a1), (2, .ref a2), (3, .int x3)] [.int v294] h291 Q
      refine x_aload_n (pc2 := 1008) 2 (n := 2) (x := a2) rfl dL_law_1007 rfl ?_
      refine x_aload_n (pc2 := 1009) 0 (n := 0) (x := (G.2.1 3)) rfl dL_law_1008 rfl ?_
      refine x_iload_n (pc2 := 1010) 3 (n := 3) (x := x3) rfl dL_law_1009 rfl ?_
      refine x_iconst (pc2 := 1011) (v := 1) (by decide) dL_law_1010 rfl ?_
      refine x_iadd (pc2 := 1012) dL_law_1011 rfl ?_
      obtain ⟨b295, ht⟩ := ht
      refine x_script (pc2 := 1013) b295 dL_law_1012 rfl ?_
      refine x_aload_n (pc2 := 1014) 0 (n := 0) (x := (G.2.1 3)) rfl dL_law_1013 rfl ?_
      refine x_iload_n (pc2 := 1015) 3 (n := 3) (x := x3) rfl dL_law_1014 rfl ?_
      refine x_iconst (pc2 := 1016) (v := 2) (by decide) dL_law_1015 rfl ?_
      refine x_iadd (pc2 := 1017) dL_law_1016 rfl ?_
      obtain ⟨b296, ht⟩ := ht
      refine x_script (pc2 := 1018) b296 dL_law_1017 rfl ?_
      refine x_aload_n (pc2 := 1019) 0 (n := 0) (x := (G.2.1 3)) rfl dL_law_1018 rfl ?_
      refine x_iload_n (pc2 := 1020) 3 (n := 3) (x := x3) rfl dL_law_1019 rfl ?_
      refine x_iconst (pc2 := 1021) (v := 3) (by decide) dL_law_1020 rfl ?_
      refine x_iadd (pc2 := 1022) dL_law_1021 rfl ?_
      obtain ⟨b297, ht⟩ := ht
      refine x_script (pc2 := 1023) b297 dL_law_1022 rfl ?_
      refine x_aload_n (pc2 := 1024) 0 (n := 0) (x := (G.2.1 3)) rfl dL_law_1023 rfl ?_
      refine x_iload_n (pc2 := 1025) 3 (n := 3) (x := x3) rfl dL_law_1024 rfl ?_
      refine x_iconst (pc2 := 1026) (v := 4) (by decide) dL_law_1025 rfl ?_
      refine x_iadd (pc2 := 1027) dL_law_1026 rfl ?_
      obtain ⟨b298, ht⟩ := ht
      refine x_script (pc2 := 1028) b298 dL_law_1027 rfl ?_
      refine x_aload_n (pc2 := 1029) 0 (n := 0) (x := (G.2.1 3)) rfl dL_law_1028 rfl ?_
      refine x_iload_n (pc2 := 1030) 3 (n := 3) (x := x3) rfl dL_law_1029 rfl ?_
      refine x_iconst (pc2 := 1031) (v := 5) (by decide) dL_law_1030 rfl ?_
      refine x_iadd (pc2 := 1032) dL_law_1031 rfl ?_
      obtain ⟨b299, ht⟩ := ht
      refine x_script (pc2 := 1033) b299 dL_law_1032 rfl ?_
      refine x_aload_n (pc2 := 1034) 0 (n := 0) (x := (G.2.1 3)) rfl dL_law_1033 rfl ?_
      refine x_iload_n (pc2 := 1035) 3 (n := 3) (x := x3) rfl dL_law_1034 rfl ?_
      refine x_bipush (pc2 := 1037) (v := 6) (by decide) dL_law_1035 rfl ?_
      refine x_iadd (pc2 := 1038) dL_law_1037 rfl ?_
      obtain ⟨b300, ht⟩ := ht
      refine x_script (pc2 := 1039) b300 dL_law_1038 rfl ?_
      refine x_aload_n (pc2 := 1040) 0 (n := 0) (x := (G.2.1 3)) rfl dL_law_1039 rfl ?_
      refine x_iload_n (pc2 := 1041) 3 (n := 3) (x := x3) rfl dL_law_1040 rfl ?_
      refine x_bipush (pc2 := 1043) (v := 7) (by decide) dL_law_1041 rfl ?_
      refine x_iadd (pc2 := 1044) dL_law_1043 rfl ?_
      obtain ⟨b301, ht⟩ := ht
      refine x_script (pc2 := 1045) b301 dL_law_1044 rfl ?_
      obtain ⟨k305, ht⟩ := ht
      refine x_callV (pc2 := 1048) (As := [.int (G.2.2.2 (x3 + 1).toNatClampNeg), .int (G.2.2.2 (x3 + 2).toNatClampNeg), .int (G.2.2.2 (x3 + 3).toNatClampNeg), .int (G.2.2.2 (x3 + 4).toNatClampNeg), .int (G.2.2.2 (x3 + 5).toNatClampNeg), .int (G.2.2.2 (x3 + 6).toNatClampNeg), .int (G.2.2.2 (x3 + 7).toNatClampNeg)]) (rest := [.int v294]) (b := a2) mv_X12_ahead ml_L_87 k305 rfl rfl (Nat.le_of_ble_eq_true rfl) hd1 dL_law_1045 rfl (ht.mono (fun r302 h303 p304 ht' => ?_))
      clear ht
      obtain ⟨v306, rfl, ht⟩ := ht'
      show Ex G d mL_law 1048 [(0, .ref (G.2.1 3)), (1, .ref a1), (2, .ref a2), (3, .int x3)] [.int v306, .int v294] h303 Q
      refine x_icmp_eq (pc2 := 1051) 1612 dL_law_1048 (by decide) rfl (fun c307 => ?_) (fun c307 => ?_)
      · replace ht := ht.1 c307
        refine x_iinc (pc2 := 1615) 3 [1, 2, 3, 0] (i := 3) (x := x3) (v := (x3 + 9)) (lv2 := [(0, .ref (G.2.1 3)), (1, .ref a1), (2, .ref a2), (3, .int (x3 + 9))]) rfl (iinc_eq (by decide) _) (by decide) rfl dL_law_1612 rfl ?_
        refine x_goto 18 dL_law_1615 (by decide) ?_
        exact ht
      · replace ht := ht.2 c307
        refine x_iconst (pc2 := 1052) (v := 0) (by decide) dL_law_1051 rfl ?_
        exact x_retZ rfl (Or.inl rfl) dL_law_1052 ht
    replace ht := ht.2 c282
    refine y_tcase (x := ((G.2.2.2 x3.toNatClampNeg) &&& 31)) 16 1053 dL_law_33 (by decide) (by decide) rfl (by decide) (fun c308 => ?_) (fun c308 => ?_)
    · replace ht := ht.1 c308
      refine x_aload_n (pc2 := 1054) 1 (n := 1) (x := a1) rfl dL_law_1053 rfl ?_
      refine x_aload_n (pc2 := 1055) 0 (n := 0) (x := (G.2.1 3)) rfl dL_law_1054 rfl ?_
      refine x_iload_n (pc2 := 1056) 3 (n := 3) (x := x3) rfl dL_law_1055 rfl ?_
      refine x_iconst (pc2 := 1057) (v := 1) (by decide) dL_law_1056 rfl ?_
      refine x_iadd (pc2 := 1058) dL_law_1057 rfl ?_
      obtain ⟨b309, ht⟩ := ht
      refine x_script (pc2 := 1059) b309 dL_law_1058 rfl ?_
      refine x_aload_n (pc2 := 1060) 0 (n := 0) (x := (G.2.1 3)) rfl dL_law_1059 rfl ?_
      refine x_iload_n (pc2 := 1061) 3 (n := 3) (x := x3) rfl dL_law_1060 rfl ?_
      refine x_iconst (pc2 := 1062) (v := 2) (by decide) dL_law_1061 rfl ?_
      refine x_iadd (pc2 := 1063) dL_law_1062 rfl ?_
      obtain ⟨b310, ht⟩ := ht
      refine x_script (pc2 := 1064) b310 dL_law_1063 rfl ?_
      refine x_aload_n (pc2 := 1065) 0 (n := 0) (x := (G.2.1 3)) rfl dL_law_1064 rfl ?_
      refine x_iload_n (pc2 := 1066) 3 (n := 3) (x := x3) rfl dL_law_1065 rfl ?_
      refine x_iconst (pc2 := 1067) (v := 3) (by decide) dL_law_1066 rfl ?_
      refine x_iadd (pc2 := 1068) dL_law_1067 rfl ?_
      obtain ⟨b311, ht⟩ := ht
      refine x_script (pc2 := 1069) b311 dL_law_1068 rfl ?_
      refine x_aload_n (pc2 := 1070) 0 (n := 0) (x := (G.2.1 3)) rfl dL_law_1069 rfl ?_
      refine x_iload_n (pc2 := 1071) 3 (n := 3) (x := x3) rfl dL_law_1070 rfl ?_
      refine x_iconst (pc2 := 1072) (v := 4) (by decide) dL_law_1071 rfl ?_
      refine x_iadd (pc2 := 1073) dL_law_1072 rfl ?_
      obtain ⟨b312, ht⟩ := ht
      refine x_script (pc2 := 1074) b312 dL_law_1073 rfl ?_
      refine x_aload_n (pc2 := 1075) 0 (n := 0) (x := (G.2.1 3)) rfl dL_law_1074 rfl ?_
      refine x_iload_n (pc2 := 1076) 3 (n := 3) (x := x3) rfl dL_law_1075 rfl ?_
      refine x_iconst (pc2 := 1077) (v := 5) (by decide) dL_law_1076 rfl ?_
      refine x_iadd (pc2 := 1078) dL_law_1077 rfl ?_
      obtain ⟨b313, ht⟩ := ht
      refine x_script (pc2 := 1079) b313 dL_law_1078 rfl ?_
      obtain ⟨k317, ht⟩ := ht
      refine x_callV (pc2 := 1082) (As := [.int (G.2.2.2 (x3 + 1).toNatClampNeg), .int (G.2.2.2 (x3 + 2).toNatClampNeg), .int (G.2.2.2 (x3 + 3).toNatClampNeg), .int (G.2.2.2 (x3 + 4).toNatClampNeg), .int (G.2.2.2 (x3 + 5).toNatClampNeg)]) (rest := []) (b := a1) mv_X11_least ml_L_88 k317 rfl rfl (Nat.le_of_ble_eq_true rfl) hd1 dL_law_1079 rfl (ht.mono (fun r314 h315 p316 ht' => ?_))
      clear ht
      obtain ⟨v318, rfl, ht⟩ := ht'
      show Ex G d mL_law 1082 [(0, .ref (G.2.1 3)), (1, .ref a1), (2, .ref a2), (3, .int x3)] [.int v318] h315 Q
      refine x_aload_n (pc2 := 1083) 2 (n := 2) (x := a2) rfl dL_law_1082 rfl ?_
      refine x_aload_n (pc2 := 1084) 0 (n := 0) (x := (G.2.1 3)) rfl dL_law_1083 rfl ?_
      refine x_iload_n (pc2 := 1085) 3 (n := 3) (x := x3) rfl dL_law_1084 rfl ?_
      refine x_iconst (pc2 := 1086) (v := 1) (by decide) dL_law_1085 rfl ?_
      refine x_iadd (pc2 := 1087) dL_law_1086 rfl ?_
      obtain ⟨b319, ht⟩ := ht
      refine x_script (pc2 := 1088) b319 dL_law_1087 rfl ?_
      refine x_aload_n (pc2 := 1089) 0 (n := 0) (x := (G.2.1 3)) rfl dL_law_1088 rfl ?_
      refine x_iload_n (pc2 := 1090) 3 (n := 3) (x := x3) rfl dL_law_1089 rfl ?_
      refine x_iconst (pc2 := 1091) (v := 2) (by decide) dL_law_1090 rfl ?_
      refine x_iadd (pc2 := 1092) dL_law_1091 rfl ?_
      obtain ⟨b320, ht⟩ := ht
      refine x_script (pc2 := 1093) b320 dL_law_1092 rfl ?_
      refine x_aload_n (pc2 := 1094) 0 (n := 0) (x := (G.2.1 3)) rfl dL_law_1093 rfl ?_
      refine x_iload_n (pc2 := 1095) 3 (n := 3) (x := x3) rfl dL_law_1094 rfl ?_
      refine x_iconst (pc2 := 1096) (v := 3) (by decide) dL_law_1095 rfl ?_
      refine x_iadd (pc2 := 1097) dL_law_1096 rfl ?_
      obtain ⟨b321, ht⟩ := ht
      refine x_script (pc2 := 1098) b321 dL_law_1097 rfl ?_
      refine x_aload_n (pc2 := 1099) 0 (n := 0) (x := (G.2.1 3)) rfl dL_law_1098 rfl ?_
      refine x_iload_n (pc2 := 1100) 3 (n := 3) (x := x3) rfl dL_law_1099 rfl ?_
      refine x_iconst (pc2 := 1101) (v := 4) (by decide) dL_law_1100 rfl ?_
      refine x_iadd (pc2 := 1102) dL_law_1101 rfl ?_
      obtain ⟨b322, ht⟩ := ht
      refine x_script (pc2 := 1103) b322 dL_law_1102 rfl ?_
      refine x_aload_n (pc2 := 1104) 0 (n := 0) (x := (G.2.1 3)) rfl dL_law_1103 rfl ?_
      refine x_iload_n (pc2 := 1105) 3 (n := 3) (x := x3) rfl dL_law_1104 rfl ?_
      refine x_iconst (pc2 := 1106) (v := 5) (by decide) dL_law_1105 rfl ?_
      refine x_iadd (pc2 := 1107) dL_law_1106 rfl ?_
      obtain ⟨b323, ht⟩ := ht
      refine x_script (pc2 := 1108) b323 dL_law_1107 rfl ?_
      obtain ⟨k327, ht⟩ := ht
      refine x_callV (pc2 := 1111) (As := [.int (G.2.2.2 (x3 + 1).toNatClampNeg), .int (G.2.2.2 (x3 + 2).toNatClampNeg), .int (G.2.2.2 (x3 + 3).toNatClampNeg), .int (G.2.2.2 (x3 + 4).toNatClampNeg), .int (G.2.2.2 (x3 + 5).toNatClampNeg)]) (rest := [.int v318]) (b := a2) mv_X12_least ml_L_91 k327 rfl rfl (Nat.le_of_ble_eq_true rfl) hd1 dL_law_1108 rfl (ht.mono (fun r324 h325 p326 ht' => ?_))
      clear ht
      obtain ⟨v328, rfl, ht⟩ := ht'
      show Ex G d mL_law 1111 [(0, .ref (G.2.1 3)), (1, .ref a1), (2, .ref a2), (3, .int x3)] [.int v328, .int v318] h325 Q
      refine x_icmp_eq (pc2 := 1114) 1612 dL_law_1111 (by decide) rfl (fun c329 => ?_) (fun c329 => ?_)
      · replace ht := ht.1 c329
        refine x_iinc (pc2 := 1615) 3 [1, 2, 3, 0] (i := 3) (x := x3) (v := (x3 + 9)) (lv2 := [(0, .ref (G.2.1 3)), (1, .ref a1), (2, .ref a2), (3, .int (x3 + 9))]) rfl (iinc_eq (by decide) _) (by decide) rfl dL_law_1612 rfl ?_
        refine x_goto 18 dL_law_1615 (by decide) ?_
        exact ht
      · replace ht := ht.2 c329
        refine x_iconst (pc2 := 1115) (v := 0) (by decide) dL_law_1114 rfl ?_
        exact x_retZ rfl (Or.inl rfl) dL_law_1115 ht
    replace ht := ht.2 c308
    refine y_tcase (x := ((G.2.2.2 x3.toNatClampNeg) &&& 31)) 17 1116 dL_law_33 (by decide) (by decide) rfl (by decide) (fun c330 => ?_) (fun c330 => ?_)
    · replace ht := ht.1 c330
      refine x_aload_n (pc2 := 1117) 1 (n := 1) (x := a1) rfl dL_law_1116 rfl ?_
      refine x_aload_n (pc2 := 1118) 0 (n := 0) (x := (G.2.1 3)) rfl dL_law_1117 rfl ?_
      refine x_iload_n (pc2 := 1119) 3 (n := 3) (x := x3) rfl dL_law_1118 rfl ?_
      refine x_iconst (pc2 := 1120) (v := 1) (by decide) dL_law_1119 rfl ?_
      refine x_iadd (pc2 := 1121) dL_law_1120 rfl ?_
      obtain ⟨b331, ht⟩ := ht
      refine x_script (pc2 := 1122) b331 dL_law_1121 rfl ?_
      refine x_aload_n (pc2 := 1123) 0 (n := 0) (x := (G.2.1 3)) rfl dL_law_1122 rfl ?_
      refine x_iload_n (pc2 := 1124) 3 (n := 3) (x := x3) rfl dL_law_1123 rfl ?_
      refine x_iconst (pc2 := 1125) (v := 2) (by decide) dL_law_1124 rfl ?_
      refine x_iadd (pc2 := 1126) dL_law_1125 rfl ?_
      obtain ⟨b332, ht⟩ := ht
      refine x_script (pc2 := 1127) b332 dL_law_1126 rfl ?_
      refine x_aload_n (pc2 := 1128) 0 (n := 0) (x := (G.2.1 3)) rfl dL_law_1127 rfl ?_
      refine x_iload_n (pc2 := 1129) 3 (n := 3) (x := x3) rfl dL_law_1128 rfl ?_
      refine x_iconst (pc2 := 1130) (v := 3) (by decide) dL_law_1129 rfl ?_
      refine x_iadd (pc2 := 1131) dL_law_1130 rfl ?_
      obtain ⟨b333, ht⟩ := ht
      refine x_script (pc2 := 1132) b333 dL_law_1131 rfl ?_
      obtain ⟨k337, ht⟩ := ht
      refine x_callV (pc2 := 1135) (As := [.int (G.2.2.2 (x3 + 1).toNatClampNeg), .int (G.2.2.2 (x3 + 2).toNatClampNeg), .int (G.2.2.2 (x3 + 3).toNatClampNeg)]) (rest := []) (b := a1) mv_X11_most ml_L_92 k337 rfl rfl (Nat.le_of_ble_eq_true rfl) hd1 dL_law_1132 rfl (ht.mono (fun r334 h335 p336 ht' => ?_))
      clear ht
      obtain ⟨v338, rfl, ht⟩ := ht'
      show Ex G d mL_law 1135 [(0, .ref (G.2.1 3)), (1, .ref a1), (2, .ref a2), (3, .int x3)] [.int v338] h335 Q
      refine x_aload_n (pc2 := 1136) 2 (n := 2) (x := a2) rfl dL_law_1135 rfl ?_
      refine x_aload_n (pc2 := 1137) 0 (n := 0) (x := (G.2.1 3)) rfl dL_law_1136 rfl ?_
      refine x_iload_n (pc2 := 1138) 3 (n := 3) (x := x3) rfl dL_law_1137 rfl ?_
      refine x_iconst (pc2 := 1139) (v := 1) (by decide) dL_law_1138 rfl ?_
      refine x_iadd (pc2 := 1140) dL_law_1139 rfl ?_
      obtain ⟨b339, ht⟩ := ht
      refine x_script (pc2 := 1141) b339 dL_law_1140 rfl ?_
      refine x_aload_n (pc2 := 1142) 0 (n := 0) (x := (G.2.1 3)) rfl dL_law_1141 rfl ?_
      refine x_iload_n (pc2 := 1143) 3 (n := 3) (x := x3) rfl dL_law_1142 rfl ?_
      refine x_iconst (pc2 := 1144) (v := 2) (by decide) dL_law_1143 rfl ?_
      refine x_iadd (pc2 := 1145) dL_law_1144 rfl ?_
      obtain ⟨b340, ht⟩ := ht
      refine x_script (pc2 := 1146) b340 dL_law_1145 rfl ?_
      refine x_aload_n (pc2 := 1147) 0 (n := 0) (x := (G.2.1 3)) rfl dL_law_1146 rfl ?_
      refine x_iload_n (pc2 := 1148) 3 (n := 3) (x := x3) rfl dL_law_1147 rfl ?_
      refine x_iconst (pc2 := 1149) (v := 3) (by decide) dL_law_1148 rfl ?_
      refine x_iadd (pc2 := 1150) dL_law_1149 rfl ?_
      obtain ⟨b341, ht⟩ := ht
      refine x_script (pc2 := 1151) b341 dL_law_1150 rfl ?_
      obtain ⟨k345, ht⟩ := ht
      refine x_callV (pc2 := 1154) (As := [.int (G.2.2.2 (x3 + 1).toNatClampNeg), .int (G.2.2.2 (x3 + 2).toNatClampNeg), .int (G.2.2.2 (x3 + 3).toNatClampNeg)]) (rest := [.int v338]) (b := a2) mv_X12_most ml_L_95 k345 rfl rfl (Nat.le_of_ble_eq_true rfl) hd1 dL_law_1151 rfl (ht.mono (fun r342 h343 p344 ht' => ?_))
      clear ht
      obtain ⟨v346, rfl, ht⟩ := ht'
      show Ex G d mL_law 1154 [(0, .ref (G.2.1 3)), (1, .ref a1), (2, .ref a2), (3, .int x3)] [.int v346, .int v338] h343 Q
      refine x_icmp_eq (pc2 := 1157) 1612 dL_law_1154 (by decide) rfl (fun c347 => ?_) (fun c347 => ?_)
      · replace ht := ht.1 c347
        refine x_iinc (pc2 := 1615) 3 [1, 2, 3, 0] (i := 3) (x := x3) (v := (x3 + 9)) (lv2 := [(0, .ref (G.2.1 3)), (1, .ref a1), (2, .ref a2), (3, .int (x3 + 9))]) rfl (iinc_eq (by decide) _) (by decide) rfl dL_law_1612 rfl ?_
        refine x_goto 18 dL_law_1615 (by decide) ?_
        exact ht
      · replace ht := ht.2 c347
        refine x_iconst (pc2 := 1158) (v := 0) (by decide) dL_law_1157 rfl ?_
        exact x_retZ rfl (Or.inl rfl) dL_law_1158 ht
    replace ht := ht.2 c330
    refine y_tcase (x := ((G.2.2.2 x3.toNatClampNeg) &&& 31)) 18 1159 dL_law_33 (by decide) (by decide) rfl (by decide) (fun c348 => ?_) (fun c348 => ?_)
    · replace ht := ht.1 c348
      refine x_aload_n (pc2 := 1160) 1 (n := 1) (x := a1) rfl dL_law_1159 rfl ?_
      refine x_aload_n (pc2 := 1161) 0 (n := 0) (x := (G.2.1 3)) rfl dL_law_1160 rfl ?_
      refine x_iload_n (pc2 := 1162) 3 (n := 3) (x := x3) rfl dL_law_1161 rfl ?_
      refine x_iconst (pc2 := 1163) (v := 1) (by decide) dL_law_1162 rfl ?_
      refine x_iadd (pc2 := 1164) dL_law_1163 rfl ?_
      obtain ⟨b349, ht⟩ := ht
      refine x_script (pc2 := 1165) b349 dL_law_1164 rfl ?_
      obtain ⟨k353, ht⟩ := ht
      refine x_callV (pc2 := 1168) (As := [.int (G.2.2.2 (x3 + 1).toNatClampNeg)]) (rest := []) (b := a1) mv_X11_nests ml_L_96 k353 rfl rfl (Nat.le_of_ble_eq_true rfl) hd1 dL_law_1165 rfl (ht.mono (fun r350 h351 p352 ht' => ?_))
      clear ht
      obtain ⟨v354, rfl, ht⟩ := ht'
      show Ex G d mL_law 1168 [(0, .ref (G.2.1 3)), (1, .ref a1), (2, .ref a2), (3, .int x3)] [.int v354] h351 Q
      refine x_aload_n (pc2 := 1169) 2 (n := 2) (x := a2) rfl dL_law_1168 rfl ?_
      refine x_aload_n (pc2 := 1170) 0 (n := 0) (x := (G.2.1 3)) rfl dL_law_1169 rfl ?_
      refine x_iload_n (pc2 := 1171) 3 (n := 3) (x := x3) rfl dL_law_1170 rfl ?_
      refine x_iconst (pc2 := 1172) (v := 1) (by decide) dL_law_1171 rfl ?_
      refine x_iadd (pc2 := 1173) dL_law_1172 rfl ?_
      obtain ⟨b355, ht⟩ := ht
      refine x_script (pc2 := 1174) b355 dL_law_1173 rfl ?_
      obtain ⟨k359, ht⟩ := ht
      refine x_callV (pc2 := 1177) (As := [.int (G.2.2.2 (x3 + 1).toNatClampNeg)]) (rest := [.int v354]) (b := a2) mv_X12_nests ml_L_99 k359 rfl rfl (Nat.le_of_ble_eq_true rfl) hd1 dL_law_1174 rfl (ht.mono (fun r356 h357 p358 ht' => ?_))
      clear ht
      obtain ⟨v360, rfl, ht⟩ := ht'
      show Ex G d mL_law 1177 [(0, .ref (G.2.1 3)), (1, .ref a1), (2, .ref a2), (3, .int x3)] [.int v360, .int v354] h357 Q
      refine x_icmp_eq (pc2 := 1180) 1612 dL_law_1177 (by decide) rfl (fun c361 => ?_) (fun c361 => ?_)
      · replace ht := ht.1 c361
        refine x_iinc (pc2 := 1615) 3 [1, 2, 3, 0] (i := 3) (x := x3) (v := (x3 + 9)) (lv2 := [(0, .ref (G.2.1 3)), (1, .ref a1), (2, .ref a2), (3, .int (x3 + 9))]) rfl (iinc_eq (by decide) _) (by decide) rfl dL_law_1612 rfl ?_
        refine x_goto 18 dL_law_1615 (by decide) ?_
        exact ht
      · replace ht := ht.2 c361
        refine x_iconst (pc2 := 1181) (v := 0) (by decide) dL_law_1180 rfl ?_
        exact x_retZ rfl (Or.inl rfl) dL_law_1181 ht
    replace ht := ht.2 c348
    refine y_tcase (x := ((G.2.2.2 x3.toNatClampNeg) &&& 31)) 19 1182 dL_law_33 (by decide) (by decide) rfl (by decide) (fun c362 => ?_) (fun c362 => ?_)
    · replace ht := ht.1 c362
      refine x_aload_n (pc2 := 1183) 1 (n := 1) (x := a1) rfl dL_law_1182 rfl ?_
      refine x_aload_n (pc2 := 1184) 0 (n := 0) (x := (G.2.1 3)) rfl dL_law_1183 rfl ?_
      refine x_iload_n (pc2 := 1185) 3 (n := 3) (x := x3) rfl dL_law_1184 rfl ?_
      refine x_iconst (pc2 := 1186) (v := 1) (by decide) dL_law_1185 rfl ?_
      refine x_iadd (pc2 := 1187) dL_law_1186 rfl ?_
      obtain ⟨b363, ht⟩ := ht
      refine x_script (pc2 := 1188) b363 dL_law_1187 rfl ?_
      refine x_aload_n (pc2 := 1189) 0 (n := 0) (x := (G.2.1 3)) rfl dL_law_1188 rfl ?_
      refine x_iload_n (pc2 := 1190) 3 (n := 3) (x := x3) rfl dL_law_1189 rfl ?_
      refine x_iconst (pc2 := 1191) (v := 2) (by decide) dL_law_1190 rfl ?_
      refine x_iadd (pc2 := 1192) dL_law_1191 rfl ?_
      obtain ⟨b364, ht⟩ := ht
      refine x_script (pc2 := 1193) b364 dL_law_1192 rfl ?_
      obtain ⟨k368, ht⟩ := ht
      refine x_callV (pc2 := 1196) (As := [.int (G.2.2.2 (x3 + 1).toNatClampNeg), .int (G.2.2.2 (x3 + 2).toNatClampNeg)]) (rest := []) (b := a1) mv_X11_between ml_L_100 k368 rfl rfl (Nat.le_of_ble_eq_true rfl) hd1 dL_law_1193 rfl (ht.mono (fun r365 h366 p367 ht' => ?_))
      clear ht
      obtain ⟨v369, rfl, ht⟩ := ht'
      show Ex G d mL_law 1196 [(0, .ref (G.2.1 3)), (1, .ref a1), (2, .ref a2), (3, .int x3)] [.int v369] h366 Q
      refine x_aload_n (pc2 := 1197) 2 (n := 2) (x := a2) rfl dL_law_1196 rfl ?_
      refine x_aload_n (pc2 := 1198) 0 (n := 0) (x := (G.2.1 3)) rfl dL_law_1197 rfl ?_
      refine x_iload_n (pc2 := 1199) 3 (n := 3) (x := x3) rfl dL_law_1198 rfl ?_
      refine x_iconst (pc2 := 1200) (v := 1) (by decide) dL_law_1199 rfl ?_
      refine x_iadd (pc2 := 1201) dL_law_1200 rfl ?_
      obtain ⟨b370, ht⟩ := ht
      refine x_script (pc2 := 1202) b370 dL_law_1201 rfl ?_
      refine x_aload_n (pc2 := 1203) 0 (n := 0) (x := (G.2.1 3)) rfl dL_law_1202 rfl ?_
      refine x_iload_n (pc2 := 1204) 3 (n := 3) (x := x3) rfl dL_law_1203 rfl ?_
      refine x_iconst (pc2 := 1205) (v := 2) (by decide) dL_law_1204 rfl ?_
      refine x_iadd (pc2 := 1206) dL_law_1205 rfl ?_
      obtain ⟨b371, ht⟩ := ht
      refine x_script (pc2 := 1207) b371 dL_law_1206 rfl ?_
      obtain ⟨k375, ht⟩ := ht
      refine x_callV (pc2 := 1210) (As := [.int (G.2.2.2 (x3 + 1).toNatClampNeg), .int (G.2.2.2 (x3 + 2).toNatClampNeg)]) (rest := [.int v369]) (b := a2) mv_X12_between ml_L_103 k375 rfl rfl (Nat.le_of_ble_eq_true rfl) hd1 dL_law_1207 rfl (ht.mono (fun r372 h373 p374 ht' => ?_))
      clear ht
      obtain ⟨v376, rfl, ht⟩ := ht'
      show Ex G d mL_law 1210 [(0, .ref (G.2.1 3)), (1, .ref a1), (2, .ref a2), (3, .int x3)] [.int v376, .int v369] h373 Q
      refine x_icmp_eq (pc2 := 1213) 1612 dL_law_1210 (by decide) rfl (fun c377 => ?_) (fun c377 => ?_)
      · replace ht := ht.1 c377
        refine x_iinc (pc2 := 1615) 3 [1, 2, 3, 0] (i := 3) (x := x3) (v := (x3 + 9)) (lv2 := [(0, .ref (G.2.1 3)), (1, .ref a1), (2, .ref a2), (3, .int (x3 + 9))]) rfl (iinc_eq (by decide) _) (by decide) rfl dL_law_1612 rfl ?_
        refine x_goto 18 dL_law_1615 (by decide) ?_
        exact ht
      · replace ht := ht.2 c377
        refine x_iconst (pc2 := 1214) (v := 0) (by decide) dL_law_1213 rfl ?_
        exact x_retZ rfl (Or.inl rfl) dL_law_1214 ht
    replace ht := ht.2 c362
    refine y_tcase (x := ((G.2.2.2 x3.toNatClampNeg) &&& 31)) 20 1215 dL_law_33 (by decide) (by decide) rfl (by decide) (fun c378 => ?_) (fun c378 => ?_)
    · replace ht := ht.1 c378
      refine x_aload_n (pc2 := 1216) 1 (n := 1) (x := a1) rfl dL_law_1215 rfl ?_
      refine x_aload_n (pc2 := 1217) 0 (n := 0) (x := (G.2.1 3)) rfl dL_law_1216 rfl ?_
      refine x_iload_n (pc2 := 1218) 3 (n := 3) (x := x3) rfl dL_law_1217 rfl ?_
      refine x_iconst (pc2 := 1219) (v := 1) (by decide) dL_law_1218 rfl ?_
      refine x_iadd (pc2 := 1220) dL_law_1219 rfl ?_
      obtain ⟨b379, ht⟩ := ht
      refine x_script (pc2 := 1221) b379 dL_law_1220 rfl ?_
      refine x_aload_n (pc2 := 1222) 0 (n := 0) (x := (G.2.1 3)) rfl dL_law_1221 rfl ?_
      refine x_iload_n (pc2 := 1223) 3 (n := 3) (x := x3) rfl dL_law_1222 rfl ?_
      refine x_iconst (pc2 := 1224) (v := 2) (by decide) dL_law_1223 rfl ?_
      refine x_iadd (pc2 := 1225) dL_law_1224 rfl ?_
      obtain ⟨b380, ht⟩ := ht
      refine x_script (pc2 := 1226) b380 dL_law_1225 rfl ?_
      refine x_aload_n (pc2 := 1227) 0 (n := 0) (x := (G.2.1 3)) rfl dL_law_1226 rfl ?_
      refine x_iload_n (pc2 := 1228) 3 (n := 3) (x := x3) rfl dL_law_1227 rfl ?_
      refine x_iconst (pc2 := 1229) (v := 3) (by decide) dL_law_1228 rfl ?_
      refine x_iadd (pc2 := 1230) dL_law_1229 rfl ?_
      obtain ⟨b381, ht⟩ := ht
      refine x_script (pc2 := 1231) b381 dL_law_1230 rfl ?_
      refine x_aload_n (pc2 := 1232) 0 (n := 0) (x := (G.2.1 3)) rfl dL_law_1231 rfl ?_
      refine x_iload_n (pc2 := 1233) 3 (n := 3) (x := x3) rfl dL_law_1232 rfl ?_
      refine x_iconst (pc2 := 1234) (v := 4) (by decide) dL_law_1233 rfl ?_
      refine x_iadd (pc2 := 1235) dL_law_1234 rfl ?_
      obtain ⟨b382, ht⟩ := ht
      refine x_script (pc2 := 1236) b382 dL_law_1235 rfl ?_
      refine x_aload_n (pc2 := 1237) 0 (n := 0) (x := (G.2.1 3)) rfl dL_law_1236 rfl ?_
      refine x_iload_n (pc2 := 1238) 3 (n := 3) (x := x3) rfl dL_law_1237 rfl ?_
      refine x_iconst (pc2 := 1239) (v := 5) (by decide) dL_law_1238 rfl ?_
      refine x_iadd (pc2 := 1240) dL_law_1239 rfl ?_
      obtain ⟨b383, ht⟩ := ht
      refine x_script (pc2 := 1241) b383 dL_law_1240 rfl ?_
      refine x_aload_n (pc2 := 1242) 0 (n := 0) (x := (G.2.1 3)) rfl dL_law_1241 rfl ?_
      refine x_iload_n (pc2 := 1243) 3 (n := 3) (x := x3) rfl dL_law_1242 rfl ?_
      refine x_bipush (pc2 := 1245) (v := 6) (by decide) dL_law_1243 rfl ?_
      refine x_iadd (pc2 := 1246) dL_law_1245 rfl ?_
      obtain ⟨b384, ht⟩ := ht
      refine x_script (pc2 := 1247) b384 dL_law_1246 rfl ?_
      obtain ⟨k388, ht⟩ := ht
      refine x_callV (pc2 := 1250) (As := [.int (G.2.2.2 (x3 + 1).toNatClampNeg), .int (G.2.2.2 (x3 + 2).toNatClampNeg), .int (G.2.2.2 (x3 + 3).toNatClampNeg), .int (G.2.2.2 (x3 + 4).toNatClampNeg), .int (G.2.2.2 (x3 + 5).toNatClampNeg), .int (G.2.2.2 (x3 + 6).toNatClampNeg)]) (rest := []) (b := a1) mv_X11_way ml_L_104 k388 rfl rfl (Nat.le_of_ble_eq_true rfl) hd1 dL_law_1247 rfl (ht.mono (fun r385 h386 p387 ht' => ?_))
      clear ht
      obtain ⟨v389, rfl, ht⟩ := ht'
      show Ex G d mL_law 1250 [(0, .ref (G.2.1 3)), (1, .ref a1), (2, .ref a2), (3, .int x3)] [.int v389] h386 Q
      refine x_aload_n (pc2 := 1251) 2 (n := 2) (x := a2) rfl dL_law_1250 rfl ?_
      refine x_aload_n (pc2 := 1252) 0 (n := 0) (x := (G.2.1 3)) rfl dL_law_1251 rfl ?_
      refine x_iload_n (pc2 := 1253) 3 (n := 3) (x := x3) rfl dL_law_1252 rfl ?_
      refine x_iconst (pc2 := 1254) (v := 1) (by decide) dL_law_1253 rfl ?_
      refine x_iadd (pc2 := 1255) dL_law_1254 rfl ?_
      obtain ⟨b390, ht⟩ := ht
      refine x_script (pc2 := 1256) b390 dL_law_1255 rfl ?_
      refine x_aload_n (pc2 := 1257) 0 (n := 0) (x := (G.2.1 3)) rfl dL_law_1256 rfl ?_
      refine x_iload_n (pc2 := 1258) 3 (n := 3) (x := x3) rfl dL_law_1257 rfl ?_
      refine x_iconst (pc2 := 1259) (v := 2) (by decide) dL_law_1258 rfl ?_
      refine x_iadd (pc2 := 1260) dL_law_1259 rfl ?_
      obtain ⟨b391, ht⟩ := ht
      refine x_script (pc2 := 1261) b391 dL_law_1260 rfl ?_
      refine x_aload_n (pc2 := 1262) 0 (n := 0) (x := (G.2.1 3)) rfl dL_law_1261 rfl ?_
      refine x_iload_n (pc2 := 1263) 3 (n := 3) (x := x3) rfl dL_law_1262 rfl ?_
      refine x_iconst (pc2 := 1264) (v := 3) (by decide) dL_law_1263 rfl ?_
      refine x_iadd (pc2 := 1265) dL_law_1264 rfl ?_
      obtain ⟨b392, ht⟩ := ht
      refine x_script (pc2 := 1266) b392 dL_law_1265 rfl ?_
      refine x_aload_n (pc2 := 1267) 0 (n := 0) (x := (G.2.1 3)) rfl dL_law_1266 rfl ?_
      refine x_iload_n (pc2 := 1268) 3 (n := 3) (x := x3) rfl dL_law_1267 rfl ?_
      refine x_iconst (pc2 := 1269) (v := 4) (by decide) dL_law_1268 rfl ?_
      refine x_iadd (pc2 := 1270) dL_law_1269 rfl ?_
      obtain ⟨b393, ht⟩ := ht
      refine x_script (pc2 := 1271) b393 dL_law_1270 rfl ?_
      refine x_aload_n (pc2 := 1272) 0 (n := 0) (x := (G.2.1 3)) rfl dL_law_1271 rfl ?_
      refine x_iload_n (pc2 := 1273) 3 (n := 3) (x := x3) rfl dL_law_1272 rfl ?_
      refine x_iconst (pc2 := 1274) (v := 5) (by decide) dL_law_1273 rfl ?_
      refine x_iadd (pc2 := 1275) dL_law_1274 rfl ?_
      obtain ⟨b394, ht⟩ := ht
      refine x_script (pc2 := 1276) b394 dL_law_1275 rfl ?_
      refine x_aload_n (pc2 := 1277) 0 (n := 0) (x := (G.2.1 3)) rfl dL_law_1276 rfl ?_
      refine x_iload_n (pc2 := 1278) 3 (n := 3) (x := x3) rfl dL_law_1277 rfl ?_
      refine x_bipush (pc2 := 1280) (v := 6) (by decide) dL_law_1278 rfl ?_
      refine x_iadd (pc2 := 1281) dL_law_1280 rfl ?_
      obtain ⟨b395, ht⟩ := ht
      refine x_script (pc2 := 1282) b395 dL_law_1281 rfl ?_
      obtain ⟨k399, ht⟩ := ht
      refine x_callV (pc2 := 1285) (As := [.int (G.2.2.2 (x3 + 1).toNatClampNeg), .int (G.2.2.2 (x3 + 2).toNatClampNeg), .int (G.2.2.2 (x3 + 3).toNatClampNeg), .int (G.2.2.2 (x3 + 4).toNatClampNeg), .int (G.2.2.2 (x3 + 5).toNatClampNeg), .int (G.2.2.2 (x3 + 6).toNatClampNeg)]) (rest := [.int v389]) (b := a2) mv_X12_way ml_L_108 k399 rfl rfl (Nat.le_of_ble_eq_true rfl) hd1 dL_law_1282 rfl (ht.mono (fun r396 h397 p398 ht' => ?_))
      clear ht
      obtain ⟨v400, rfl, ht⟩ := ht'
      show Ex G d mL_law 1285 [(0, .ref (G.2.1 3)), (1, .ref a1), (2, .ref a2), (3, .int x3)] [.int v400, .int v389] h397 Q
      refine x_icmp_eq (pc2 := 1288) 1612 dL_law_1285 (by decide) rfl (fun c401 => ?_) (fun c401 => ?_)
      · replace ht := ht.1 c401
        refine x_iinc (pc2 := 1615) 3 [1, 2, 3, 0] (i := 3) (x := x3) (v := (x3 + 9)) (lv2 := [(0, .ref (G.2.1 3)), (1, .ref a1), (2, .ref a2), (3, .int (x3 + 9))]) rfl (iinc_eq (by decide) _) (by decide) rfl dL_law_1612 rfl ?_
        refine x_goto 18 dL_law_1615 (by decide) ?_
        exact ht
      · replace ht := ht.2 c401
        refine x_iconst (pc2 := 1289) (v := 0) (by decide) dL_law_1288 rfl ?_
        exact x_retZ rfl (Or.inl rfl) dL_law_1289 ht
    replace ht := ht.2 c378
    refine y_tcase (x := ((G.2.2.2 x3.toNatClampNeg) &&& 31)) 21 1290 dL_law_33 (by decide) (by decide) rfl (by decide) (fun c402 => ?_) (fun c402 => ?_)
    · replace ht := ht.1 c402
      refine x_aload_n (pc2 := 1291) 1 (n := 1) (x := a1) rfl dL_law_1290 rfl ?_
      refine x_aload_n (pc2 := 1292) 0 (n := 0) (x := (G.2.1 3)) rfl dL_law_1291 rfl ?_
      refine x_iload_n (pc2 := 1293) 3 (n := 3) (x := x3) rfl dL_law_1292 rfl ?_
      refine x_iconst (pc2 := 1294) (v := 1) (by decide) dL_law_1293 rfl ?_
      refine x_iadd (pc2 := 1295) dL_law_1294 rfl ?_
      obtain ⟨b403, ht⟩ := ht
      refine x_script (pc2 := 1296) b403 dL_law_1295 rfl ?_
      refine x_aload_n (pc2 := 1297) 0 (n := 0) (x := (G.2.1 3)) rfl dL_law_1296 rfl ?_
      refine x_iload_n (pc2 := 1298) 3 (n := 3) (x := x3) rfl dL_law_1297 rfl ?_
      refine x_iconst (pc2 := 1299) (v := 2) (by decide) dL_law_1298 rfl ?_
      refine x_iadd (pc2 := 1300) dL_law_1299 rfl ?_
      obtain ⟨b404, ht⟩ := ht
      refine x_script (pc2 := 1301) b404 dL_law_1300 rfl ?_
      refine x_aload_n (pc2 := 1302) 0 (n := 0) (x := (G.2.1 3)) rfl dL_law_1301 rfl ?_
      refine x_iload_n (pc2 := 1303) 3 (n := 3) (x := x3) rfl dL_law_1302 rfl ?_
      refine x_iconst (pc2 := 1304) (v := 3) (by decide) dL_law_1303 rfl ?_
      refine x_iadd (pc2 := 1305) dL_law_1304 rfl ?_
      obtain ⟨b405, ht⟩ := ht
      refine x_script (pc2 := 1306) b405 dL_law_1305 rfl ?_
      refine x_aload_n (pc2 := 1307) 0 (n := 0) (x := (G.2.1 3)) rfl dL_law_1306 rfl ?_
      refine x_iload_n (pc2 := 1308) 3 (n := 3) (x := x3) rfl dL_law_1307 rfl ?_
      refine x_iconst (pc2 := 1309) (v := 4) (by decide) dL_law_1308 rfl ?_
      refine x_iadd (pc2 := 1310) dL_law_1309 rfl ?_
      obtain ⟨b406, ht⟩ := ht
      refine x_script (pc2 := 1311) b406 dL_law_1310 rfl ?_
      refine x_aload_n (pc2 := 1312) 0 (n := 0) (x := (G.2.1 3)) rfl dL_law_1311 rfl ?_
      refine x_iload_n (pc2 := 1313) 3 (n := 3) (x := x3) rfl dL_law_1312 rfl ?_
      refine x_iconst (pc2 := 1314) (v := 5) (by decide) dL_law_1313 rfl ?_
      refine x_iadd (pc2 := 1315) dL_law_1314 rfl ?_
      obtain ⟨b407, ht⟩ := ht
      refine x_script (pc2 := 1316) b407 dL_law_1315 rfl ?_
      refine x_aload_n (pc2 := 1317) 0 (n := 0) (x := (G.2.1 3)) rfl dL_law_1316 rfl ?_
      refine x_iload_n (pc2 := 1318) 3 (n := 3) (x := x3) rfl dL_law_1317 rfl ?_
      refine x_bipush (pc2 := 1320) (v := 6) (by decide) dL_law_1318 rfl ?_
      refine x_iadd (pc2 := 1321) dL_law_1320 rfl ?_
      obtain ⟨b408, ht⟩ := ht
      refine x_script (pc2 := 1322) b408 dL_law_1321 rfl ?_
      obtain ⟨k412, ht⟩ := ht
      refine x_callV (pc2 := 1325) (As := [.int (G.2.2.2 (x3 + 1).toNatClampNeg), .int (G.2.2.2 (x3 + 2).toNatClampNeg), .int (G.2.2.2 (x3 + 3).toNatClampNeg), .int (G.2.2.2 (x3 + 4).toNatClampNeg), .int (G.2.2.2 (x3 + 5).toNatClampNeg), .int (G.2.2.2 (x3 + 6).toNatClampNeg)]) (rest := []) (b := a1) mv_X11_errand ml_L_109 k412 rfl rfl (Nat.le_of_ble_eq_true rfl) hd1 dL_law_1322 rfl (ht.mono (fun r409 h410 p411 ht' => ?_))
      clear ht
      obtain ⟨v413, rfl, ht⟩ := ht'
      show Ex G d mL_law 1325 [(0, .ref (G.2.1 3)), (1, .ref a1), (2, .ref a2), (3, .int x3)] [.int v413] h410 Q
      refine x_aload_n (pc2 := 1326) 2 (n := 2) (x := a2) rfl dL_law_1325 rfl ?_
      refine x_aload_n (pc2 := 1327) 0 (n := 0) (x := (G.2.1 3)) rfl dL_law_1326 rfl ?_
      refine x_iload_n (pc2 := 1328) 3 (n := 3) (x := x3) rfl dL_law_1327 rfl ?_
      refine x_iconst (pc2 := 1329) (v := 1) (by decide) dL_law_1328 rfl ?_
      refine x_iadd (pc2 := 1330) dL_law_1329 rfl ?_
      obtain ⟨b414, ht⟩ := ht
      refine x_script (pc2 := 1331) b414 dL_law_1330 rfl ?_
      refine x_aload_n (pc2 := 1332) 0 (n := 0) (x := (G.2.1 3)) rfl dL_law_1331 rfl ?_
      refine x_iload_n (pc2 := 1333) 3 (n := 3) (x := x3) rfl dL_law_1332 rfl ?_
      refine x_iconst (pc2 := 1334) (v := 2) (by decide) dL_law_1333 rfl ?_
      refine x_iadd (pc2 := 1335) dL_law_1334 rfl ?_
      obtain ⟨b415, ht⟩ := ht
      refine x_script (pc2 := 1336) b415 dL_law_1335 rfl ?_
      refine x_aload_n (pc2 := 1337) 0 (n := 0) (x := (G.2.1 3)) rfl dL_law_1336 rfl ?_
      refine x_iload_n (pc2 := 1338) 3 (n := 3) (x := x3) rfl dL_law_1337 rfl ?_
      refine x_iconst (pc2 := 1339) (v := 3) (by decide) dL_law_1338 rfl ?_
      refine x_iadd (pc2 := 1340) dL_law_1339 rfl ?_
      obtain ⟨b416, ht⟩ := ht
      refine x_script (pc2 := 1341) b416 dL_law_1340 rfl ?_
      refine x_aload_n (pc2 := 1342) 0 (n := 0) (x := (G.2.1 3)) rfl dL_law_1341 rfl ?_
      refine x_iload_n (pc2 := 1343) 3 (n := 3) (x := x3) rfl dL_law_1342 rfl ?_
      refine x_iconst (pc2 := 1344) (v := 4) (by decide) dL_law_1343 rfl ?_
      refine x_iadd (pc2 := 1345) dL_law_1344 rfl ?_
      obtain ⟨b417, ht⟩ := ht
      refine x_script (pc2 := 1346) b417 dL_law_1345 rfl ?_
      refine x_aload_n (pc2 := 1347) 0 (n := 0) (x := (G.2.1 3)) rfl dL_law_1346 rfl ?_
      refine x_iload_n (pc2 := 1348) 3 (n := 3) (x := x3) rfl dL_law_1347 rfl ?_
      refine x_iconst (pc2 := 1349) (v := 5) (by decide) dL_law_1348 rfl ?_
      refine x_iadd (pc2 := 1350) dL_law_1349 rfl ?_
      obtain ⟨b418, ht⟩ := ht
      refine x_script (pc2 := 1351) b418 dL_law_1350 rfl ?_
      refine x_aload_n (pc2 := 1352) 0 (n := 0) (x := (G.2.1 3)) rfl dL_law_1351 rfl ?_
      refine x_iload_n (pc2 := 1353) 3 (n := 3) (x := x3) rfl dL_law_1352 rfl ?_
      refine x_bipush (pc2 := 1355) (v := 6) (by decide) dL_law_1353 rfl ?_
      refine x_iadd (pc2 := 1356) dL_law_1355 rfl ?_
      obtain ⟨b419, ht⟩ := ht
      refine x_script (pc2 := 1357) b419 dL_law_1356 rfl ?_
      obtain ⟨k423, ht⟩ := ht
      refine x_callV (pc2 := 1360) (As := [.int (G.2.2.2 (x3 + 1).toNatClampNeg), .int (G.2.2.2 (x3 + 2).toNatClampNeg), .int (G.2.2.2 (x3 + 3).toNatClampNeg), .int (G.2.2.2 (x3 + 4).toNatClampNeg), .int (G.2.2.2 (x3 + 5).toNatClampNeg), .int (G.2.2.2 (x3 + 6).toNatClampNeg)]) (rest := [.int v413]) (b := a2) mv_X12_errand ml_L_113 k423 rfl rfl (Nat.le_of_ble_eq_true rfl) hd1 dL_law_1357 rfl (ht.mono (fun r420 h421 p422 ht' => ?_))
      clear ht
      obtain ⟨v424, rfl, ht⟩ := ht'
      show Ex G d mL_law 1360 [(0, .ref (G.2.1 3)), (1, .ref a1), (2, .ref a2), (3, .int x3)] [.int v424, .int v413] h421 Q
      refine x_icmp_eq (pc2 := 1363) 1612 dL_law_1360 (by decide) rfl (fun c425 => ?_) (fun c425 => ?_)
      · replace ht := ht.1 c425
        refine x_iinc (pc2 := 1615) 3 [1, 2, 3, 0] (i := 3) (x := x3) (v := (x3 + 9)) (lv2 := [(0, .ref (G.2.1 3)), (1, .ref a1), (2, .ref a2), (3, .int (x3 + 9))]) rfl (iinc_eq (by decide) _) (by decide) rfl dL_law_1612 rfl ?_
        refine x_goto 18 dL_law_1615 (by decide) ?_
        exact ht
      · replace ht := ht.2 c425
        refine x_iconst (pc2 := 1364) (v := 0) (by decide) dL_law_1363 rfl ?_
        exact x_retZ rfl (Or.inl rfl) dL_law_1364 ht
    replace ht := ht.2 c402
    refine y_tcase (x := ((G.2.2.2 x3.toNatClampNeg) &&& 31)) 22 1365 dL_law_33 (by decide) (by decide) rfl (by decide) (fun c426 => ?_) (fun c426 => ?_)
    · replace ht := ht.1 c426
      refine x_aload_n (pc2 := 1366) 1 (n := 1) (x := a1) rfl dL_law_1365 rfl ?_
      refine x_aload_n (pc2 := 1367) 0 (n := 0) (x := (G.2.1 3)) rfl dL_law_1366 rfl ?_
      refine x_iload_n (pc2 := 1368) 3 (n := 3) (x := x3) rfl dL_law_1367 rfl ?_
      refine x_iconst (pc2 := 1369) (v := 1) (by decide) dL_law_1368 rfl ?_
      refine x_iadd (pc2 := 1370) dL_law_1369 rfl ?_
      obtain ⟨b427, ht⟩ := ht
      refine x_script (pc2 := 1371) b427 dL_law_1370 rfl ?_
      obtain ⟨k431, ht⟩ := ht
      refine x_callV (pc2 := 1374) (As := [.int (G.2.2.2 (x3 + 1).toNatClampNeg)]) (rest := []) (b := a1) mv_X11_sum ml_L_114 k431 rfl rfl (Nat.le_of_ble_eq_true rfl) hd1 dL_law_1371 rfl (ht.mono (fun r428 h429 p430 ht' => ?_))
      clear ht
      obtain ⟨v432, rfl, ht⟩ := ht'
      show Ex G d mL_law 1374 [(0, .ref (G.2.1 3)), (1, .ref a1), (2, .ref a2), (3, .int x3)] [.int v432] h429 Q
      refine x_aload_n (pc2 := 1375) 2 (n := 2) (x := a2) rfl dL_law_1374 rfl ?_
      refine x_aload_n (pc2 := 1376) 0 (n := 0) (x := (G.2.1 3)) rfl dL_law_1375 rfl ?_
      refine x_iload_n (pc2 := 1377) 3 (n := 3) (x := x3) rfl dL_law_1376 rfl ?_
      refine x_iconst (pc2 := 1378) (v := 1) (by decide) dL_law_1377 rfl ?_
      refine x_iadd (pc2 := 1379) dL_law_1378 rfl ?_
      obtain ⟨b433, ht⟩ := ht
      refine x_script (pc2 := 1380) b433 dL_law_1379 rfl ?_
      obtain ⟨k437, ht⟩ := ht
      refine x_callV (pc2 := 1383) (As := [.int (G.2.2.2 (x3 + 1).toNatClampNeg)]) (rest := [.int v432]) (b := a2) mv_X12_sum_ ml_L_117 k437 rfl rfl (Nat.le_of_ble_eq_true rfl) hd1 dL_law_1380 rfl (ht.mono (fun r434 h435 p436 ht' => ?_))
      clear ht
      obtain ⟨v438, rfl, ht⟩ := ht'
      show Ex G d mL_law 1383 [(0, .ref (G.2.1 3)), (1, .ref a1), (2, .ref a2), (3, .int x3)] [.int v438, .int v432] h435 Q
      refine x_icmp_eq (pc2 := 1386) 1612 dL_law_1383 (by decide) rfl (fun c439 => ?_) (fun c439 => ?_)
      · replace ht := ht.1 c439
        refine x_iinc (pc2 := 1615) 3 [1, 2, 3, 0] (i := 3) (x := x3) (v := (x3 + 9)) (lv2 := [(0, .ref (G.2.1 3)), (1, .ref a1), (2, .ref a2), (3, .int (x3 + 9))]) rfl (iinc_eq (by decide) _) (by decide) rfl dL_law_1612 rfl ?_
        refine x_goto 18 dL_law_1615 (by decide) ?_
        exact ht
      · replace ht := ht.2 c439
        refine x_iconst (pc2 := 1387) (v := 0) (by decide) dL_law_1386 rfl ?_
        exact x_retZ rfl (Or.inl rfl) dL_law_1387 ht
    replace ht := ht.2 c426
    refine y_tcase (x := ((G.2.2.2 x3.toNatClampNeg) &&& 31)) 23 1388 dL_law_33 (by decide) (by decide) rfl (by decide) (fun c440 => ?_) (fun c440 => ?_)
    · replace ht := ht.1 c440
      refine x_aload_n (pc2 := 1389) 1 (n := 1) (x := a1) rfl dL_law_1388 rfl ?_
      refine x_aload_n (pc2 := 1390) 0 (n := 0) (x := (G.2.1 3)) rfl dL_law_1389 rfl ?_
      refine x_iload_n (pc2 := 1391) 3 (n := 3) (x := x3) rfl dL_law_1390 rfl ?_
      refine x_iconst (pc2 := 1392) (v := 1) (by decide) dL_law_1391 rfl ?_
      refine x_iadd (pc2 := 1393) dL_law_1392 rfl ?_
      obtain ⟨b441, ht⟩ := ht
      refine x_script (pc2 := 1394) b441 dL_law_1393 rfl ?_
      refine x_aload_n (pc2 := 1395) 0 (n := 0) (x := (G.2.1 3)) rfl dL_law_1394 rfl ?_
      refine x_iload_n (pc2 := 1396) 3 (n := 3) (x := x3) rfl dL_law_1395 rfl ?_
      refine x_iconst (pc2 := 1397) (v := 2) (by decide) dL_law_1396 rfl ?_
      refine x_iadd (pc2 := 1398) dL_law_1397 rfl ?_
      obtain ⟨b442, ht⟩ := ht
      refine x_script (pc2 := 1399) b442 dL_law_1398 rfl ?_
      obtain ⟨k446, ht⟩ := ht
      refine x_callV (pc2 := 1402) (As := [.int (G.2.2.2 (x3 + 1).toNatClampNeg), .int (G.2.2.2 (x3 + 2).toNatClampNeg)]) (rest := []) (b := a1) mv_X11_where ml_L_118 k446 rfl rfl (Nat.le_of_ble_eq_true rfl) hd1 dL_law_1399 rfl (ht.mono (fun r443 h444 p445 ht' => ?_))
      clear ht
      obtain ⟨v447, rfl, ht⟩ := ht'
      show Ex G d mL_law 1402 [(0, .ref (G.2.1 3)), (1, .ref a1), (2, .ref a2), (3, .int x3)] [.int v447] h444 Q
      refine x_aload_n (pc2 := 1403) 2 (n := 2) (x := a2) rfl dL_law_1402 rfl ?_
      refine x_aload_n (pc2 := 1404) 0 (n := 0) (x := (G.2.1 3)) rfl dL_law_1403 rfl ?_
      refine x_iload_n (pc2 := 1405) 3 (n := 3) (x := x3) rfl dL_law_1404 rfl ?_
      refine x_iconst (pc2 := 1406) (v := 1) (by decide) dL_law_1405 rfl ?_
      refine x_iadd (pc2 := 1407) dL_law_1406 rfl ?_
      obtain ⟨b448, ht⟩ := ht
      refine x_script (pc2 := 1408) b448 dL_law_1407 rfl ?_
      refine x_aload_n (pc2 := 1409) 0 (n := 0) (x := (G.2.1 3)) rfl dL_law_1408 rfl ?_
      refine x_iload_n (pc2 := 1410) 3 (n := 3) (x := x3) rfl dL_law_1409 rfl ?_
      refine x_iconst (pc2 := 1411) (v := 2) (by decide) dL_law_1410 rfl ?_
      refine x_iadd (pc2 := 1412) dL_law_1411 rfl ?_
      obtain ⟨b449, ht⟩ := ht
      refine x_script (pc2 := 1413) b449 dL_law_1412 rfl ?_
      obtain ⟨k453, ht⟩ := ht
      refine x_callV (pc2 := 1416) (As := [.int (G.2.2.2 (x3 + 1).toNatClampNeg), .int (G.2.2.2 (x3 + 2).toNatClampNeg)]) (rest := [.int v447]) (b := a2) mv_X12_where ml_L_121 k453 rfl rfl (Nat.le_of_ble_eq_true rfl) hd1 dL_law_1413 rfl (ht.mono (fun r450 h451 p452 ht' => ?_))
      clear ht
      obtain ⟨v454, rfl, ht⟩ := ht'
      show Ex G d mL_law 1416 [(0, .ref (G.2.1 3)), (1, .ref a1), (2, .ref a2), (3, .int x3)] [.int v454, .int v447] h451 Q
      refine x_icmp_eq (pc2 := 1419) 1612 dL_law_1416 (by decide) rfl (fun c455 => ?_) (fun c455 => ?_)
      · replace ht := ht.1 c455
        refine x_iinc (pc2 := 1615) 3 [1, 2, 3, 0] (i := 3) (x := x3) (v := (x3 + 9)) (lv2 := [(0, .ref (G.2.1 3)), (1, .ref a1), (2, .ref a2), (3, .int (x3 + 9))]) rfl (iinc_eq (by decide) _) (by decide) rfl dL_law_1612 rfl ?_
        refine x_goto 18 dL_law_1615 (by decide) ?_
        exact ht
      · replace ht := ht.2 c455
        refine x_iconst (pc2 := 1420) (v := 0) (by decide) dL_law_1419 rfl ?_
        exact x_retZ rfl (Or.inl rfl) dL_law_1420 ht
    replace ht := ht.2 c440
    refine y_tcase (x := ((G.2.2.2 x3.toNatClampNeg) &&& 31)) 24 1421 dL_law_33 (by decide) (by decide) rfl (by decide) (fun c456 => ?_) (fun c456 => ?_)
    · replace ht := ht.1 c456
      refine x_aload_n (pc2 := 1422) 1 (n := 1) (x := a1) rfl dL_law_1421 rfl ?_
      refine x_aload_n (pc2 := 1423) 0 (n := 0) (x := (G.2.1 3)) rfl dL_law_1422 rfl ?_
      refine x_iload_n (pc2 := 1424) 3 (n := 3) (x := x3) rfl dL_law_1423 rfl ?_
      refine x_iconst (pc2 := 1425) (v := 1) (by decide) dL_law_1424 rfl ?_
      refine x_iadd (pc2 := 1426) dL_law_1425 rfl ?_
      obtain ⟨b457, ht⟩ := ht
      refine x_script (pc2 := 1427) b457 dL_law_1426 rfl ?_
      obtain ⟨k461, ht⟩ := ht
      refine x_callV (pc2 := 1430) (As := [.int (G.2.2.2 (x3 + 1).toNatClampNeg)]) (rest := []) (b := a1) mv_X11_gains ml_L_122 k461 rfl rfl (Nat.le_of_ble_eq_true rfl) hd1 dL_law_1427 rfl (ht.mono (fun r458 h459 p460 ht' => ?_))
      clear ht
      obtain ⟨v462, rfl, ht⟩ := ht'
      show Ex G d mL_law 1430 [(0, .ref (G.2.1 3)), (1, .ref a1), (2, .ref a2), (3, .int x3)] [.int v462] h459 Q
      refine x_aload_n (pc2 := 1431) 2 (n := 2) (x := a2) rfl dL_law_1430 rfl ?_
      refine x_aload_n (pc2 := 1432) 0 (n := 0) (x := (G.2.1 3)) rfl dL_law_1431 rfl ?_
      refine x_iload_n (pc2 := 1433) 3 (n := 3) (x := x3) rfl dL_law_1432 rfl ?_
      refine x_iconst (pc2 := 1434) (v := 1) (by decide) dL_law_1433 rfl ?_
      refine x_iadd (pc2 := 1435) dL_law_1434 rfl ?_
      obtain ⟨b463, ht⟩ := ht
      refine x_script (pc2 := 1436) b463 dL_law_1435 rfl ?_
      obtain ⟨k467, ht⟩ := ht
      refine x_callV (pc2 := 1439) (As := [.int (G.2.2.2 (x3 + 1).toNatClampNeg)]) (rest := [.int v462]) (b := a2) mv_X12_gains ml_L_125 k467 rfl rfl (Nat.le_of_ble_eq_true rfl) hd1 dL_law_1436 rfl (ht.mono (fun r464 h465 p466 ht' => ?_))
      clear ht
      obtain ⟨v468, rfl, ht⟩ := ht'
      show Ex G d mL_law 1439 [(0, .ref (G.2.1 3)), (1, .ref a1), (2, .ref a2), (3, .int x3)] [.int v468, .int v462] h465 Q
      refine x_icmp_eq (pc2 := 1442) 1612 dL_law_1439 (by decide) rfl (fun c469 => ?_) (fun c469 => ?_)
      · replace ht := ht.1 c469
        refine x_iinc (pc2 := 1615) 3 [1, 2, 3, 0] (i := 3) (x := x3) (v := (x3 + 9)) (lv2 := [(0, .ref (G.2.1 3)), (1, .ref a1), (2, .ref a2), (3, .int (x3 + 9))]) rfl (iinc_eq (by decide) _) (by decide) rfl dL_law_1612 rfl ?_
        refine x_goto 18 dL_law_1615 (by decide) ?_
        exact ht
      · replace ht := ht.2 c469
        refine x_iconst (pc2 := 1443) (v := 0) (by decide) dL_law_1442 rfl ?_
        exact x_retZ rfl (Or.inl rfl) dL_law_1443 ht
    replace ht := ht.2 c456
    refine y_tcase (x := ((G.2.2.2 x3.toNatClampNeg) &&& 31)) 25 1444 dL_law_33 (by decide) (by decide) rfl (by decide) (fun c470 => ?_) (fun c470 => ?_)
    · replace ht := ht.1 c470
      refine x_aload_n (pc2 := 1445) 1 (n := 1) (x := a1) rfl dL_law_1444 rfl ?_
      refine x_aload_n (pc2 := 1446) 0 (n := 0) (x := (G.2.1 3)) rfl dL_law_1445 rfl ?_
      refine x_iload_n (pc2 := 1447) 3 (n := 3) (x := x3) rfl dL_law_1446 rfl ?_
      refine x_iconst (pc2 := 1448) (v := 1) (by decide) dL_law_1447 rfl ?_
      refine x_iadd (pc2 := 1449) dL_law_1448 rfl ?_
      obtain ⟨b471, ht⟩ := ht
      refine x_script (pc2 := 1450) b471 dL_law_1449 rfl ?_
      obtain ⟨k475, ht⟩ := ht
      refine x_callV (pc2 := 1453) (As := [.int (G.2.2.2 (x3 + 1).toNatClampNeg)]) (rest := []) (b := a1) mv_X11_seed ml_L_126 k475 rfl rfl (Nat.le_of_ble_eq_true rfl) hd1 dL_law_1450 rfl (ht.mono (fun r472 h473 p474 ht' => ?_))
      clear ht
      obtain ⟨v476, rfl, ht⟩ := ht'
      show Ex G d mL_law 1453 [(0, .ref (G.2.1 3)), (1, .ref a1), (2, .ref a2), (3, .int x3)] [.int v476] h473 Q
      refine x_aload_n (pc2 := 1454) 2 (n := 2) (x := a2) rfl dL_law_1453 rfl ?_
      refine x_aload_n (pc2 := 1455) 0 (n := 0) (x := (G.2.1 3)) rfl dL_law_1454 rfl ?_
      refine x_iload_n (pc2 := 1456) 3 (n := 3) (x := x3) rfl dL_law_1455 rfl ?_
      refine x_iconst (pc2 := 1457) (v := 1) (by decide) dL_law_1456 rfl ?_
      refine x_iadd (pc2 := 1458) dL_law_1457 rfl ?_
      obtain ⟨b477, ht⟩ := ht
      refine x_script (pc2 := 1459) b477 dL_law_1458 rfl ?_
      obtain ⟨k481, ht⟩ := ht
      refine x_callV (pc2 := 1462) (As := [.int (G.2.2.2 (x3 + 1).toNatClampNeg)]) (rest := [.int v476]) (b := a2) mv_X12_seed ml_L_129 k481 rfl rfl (Nat.le_of_ble_eq_true rfl) hd1 dL_law_1459 rfl (ht.mono (fun r478 h479 p480 ht' => ?_))
      clear ht
      obtain ⟨v482, rfl, ht⟩ := ht'
      show Ex G d mL_law 1462 [(0, .ref (G.2.1 3)), (1, .ref a1), (2, .ref a2), (3, .int x3)] [.int v482, .int v476] h479 Q
      refine x_icmp_eq (pc2 := 1465) 1612 dL_law_1462 (by decide) rfl (fun c483 => ?_) (fun c483 => ?_)
      · replace ht := ht.1 c483
        refine x_iinc (pc2 := 1615) 3 [1, 2, 3, 0] (i := 3) (x := x3) (v := (x3 + 9)) (lv2 := [(0, .ref (G.2.1 3)), (1, .ref a1), (2, .ref a2), (3, .int (x3 + 9))]) rfl (iinc_eq (by decide) _) (by decide) rfl dL_law_1612 rfl ?_
        refine x_goto 18 dL_law_1615 (by decide) ?_
        exact ht
      · replace ht := ht.2 c483
        refine x_iconst (pc2 := 1466) (v := 0) (by decide) dL_law_1465 rfl ?_
        exact x_retZ rfl (Or.inl rfl) dL_law_1466 ht
    replace ht := ht.2 c470
    refine y_tcase (x := ((G.2.2.2 x3.toNatClampNeg) &&& 31)) 26 1467 dL_law_33 (by decide) (by decide) rfl (by decide) (fun c484 => ?_) (fun c484 => ?_)
    · replace ht := ht.1 c484
      refine x_aload_n (pc2 := 1468) 1 (n := 1) (x := a1) rfl dL_law_1467 rfl ?_
      refine x_aload_n (pc2 := 1469) 0 (n := 0) (x := (G.2.1 3)) rfl dL_law_1468 rfl ?_
      refine x_iload_n (pc2 := 1470) 3 (n := 3) (x := x3) rfl dL_law_1469 rfl ?_
      refine x_iconst (pc2 := 1471) (v := 1) (by decide) dL_law_1470 rfl ?_
      refine x_iadd (pc2 := 1472) dL_law_1471 rfl ?_
      obtain ⟨b485, ht⟩ := ht
      refine x_script (pc2 := 1473) b485 dL_law_1472 rfl ?_
      refine x_aload_n (pc2 := 1474) 0 (n := 0) (x := (G.2.1 3)) rfl dL_law_1473 rfl ?_
      refine x_iload_n (pc2 := 1475) 3 (n := 3) (x := x3) rfl dL_law_1474 rfl ?_
      refine x_iconst (pc2 := 1476) (v := 2) (by decide) dL_law_1475 rfl ?_
      refine x_iadd (pc2 := 1477) dL_law_1476 rfl ?_
      obtain ⟨b486, ht⟩ := ht
      refine x_script (pc2 := 1478) b486 dL_law_1477 rfl ?_
      obtain ⟨k490, ht⟩ := ht
      refine x_callV (pc2 := 1481) (As := [.int (G.2.2.2 (x3 + 1).toNatClampNeg), .int (G.2.2.2 (x3 + 2).toNatClampNeg)]) (rest := []) (b := a1) mv_X11_years ml_L_130 k490 rfl rfl (Nat.le_of_ble_eq_true rfl) hd1 dL_law_1478 rfl (ht.mono (fun r487 h488 p489 ht' => ?_))
      clear ht
      obtain ⟨v491, rfl, ht⟩ := ht'
      show Ex G d mL_law 1481 [(0, .ref (G.2.1 3)), (1, .ref a1), (2, .ref a2), (3, .int x3)] [.int v491] h488 Q
      refine x_aload_n (pc2 := 1482) 2 (n := 2) (x := a2) rfl dL_law_1481 rfl ?_
      refine x_aload_n (pc2 := 1483) 0 (n := 0) (x := (G.2.1 3)) rfl dL_law_1482 rfl ?_
      refine x_iload_n (pc2 := 1484) 3 (n := 3) (x := x3) rfl dL_law_1483 rfl ?_
      refine x_iconst (pc2 := 1485) (v := 1) (by decide) dL_law_1484 rfl ?_
      refine x_iadd (pc2 := 1486) dL_law_1485 rfl ?_
      obtain ⟨b492, ht⟩ := ht
      refine x_script (pc2 := 1487) b492 dL_law_1486 rfl ?_
      refine x_aload_n (pc2 := 1488) 0 (n := 0) (x := (G.2.1 3)) rfl dL_law_1487 rfl ?_
      refine x_iload_n (pc2 := 1489) 3 (n := 3) (x := x3) rfl dL_law_1488 rfl ?_
      refine x_iconst (pc2 := 1490) (v := 2) (by decide) dL_law_1489 rfl ?_
      refine x_iadd (pc2 := 1491) dL_law_1490 rfl ?_
      obtain ⟨b493, ht⟩ := ht
      refine x_script (pc2 := 1492) b493 dL_law_1491 rfl ?_
      obtain ⟨k497, ht⟩ := ht
      refine x_callV (pc2 := 1495) (As := [.int (G.2.2.2 (x3 + 1).toNatClampNeg), .int (G.2.2.2 (x3 + 2).toNatClampNeg)]) (rest := [.int v491]) (b := a2) mv_X12_years ml_L_133 k497 rfl rfl (Nat.le_of_ble_eq_true rfl) hd1 dL_law_1492 rfl (ht.mono (fun r494 h495 p496 ht' => ?_))
      clear ht
      obtain ⟨v498, rfl, ht⟩ := ht'
      show Ex G d mL_law 1495 [(0, .ref (G.2.1 3)), (1, .ref a1), (2, .ref a2), (3, .int x3)] [.int v498, .int v491] h495 Q
      refine x_icmp_eq (pc2 := 1498) 1612 dL_law_1495 (by decide) rfl (fun c499 => ?_) (fun c499 => ?_)
      · replace ht := ht.1 c499
        refine x_iinc (pc2 := 1615) 3 [1, 2, 3, 0] (i := 3) (x := x3) (v := (x3 + 9)) (lv2 := [(0, .ref (G.2.1 3)), (1, .ref a1), (2, .ref a2), (3, .int (x3 + 9))]) rfl (iinc_eq (by decide) _) (by decide) rfl dL_law_1612 rfl ?_
        refine x_goto 18 dL_law_1615 (by decide) ?_
        exact ht
      · replace ht := ht.2 c499
        refine x_iconst (pc2 := 1499) (v := 0) (by decide) dL_law_1498 rfl ?_
        exact x_retZ rfl (Or.inl rfl) dL_law_1499 ht
    replace ht := ht.2 c484
    refine y_tcase (x := ((G.2.2.2 x3.toNatClampNeg) &&& 31)) 27 1500 dL_law_33 (by decide) (by decide) rfl (by decide) (fun c500 => ?_) (fun c500 => ?_)
    · replace ht := ht.1 c500
      refine x_aload_n (pc2 := 1501) 1 (n := 1) (x := a1) rfl dL_law_1500 rfl ?_
      refine x_aload_n (pc2 := 1502) 0 (n := 0) (x := (G.2.1 3)) rfl dL_law_1501 rfl ?_
      refine x_iload_n (pc2 := 1503) 3 (n := 3) (x := x3) rfl dL_law_1502 rfl ?_
      refine x_iconst (pc2 := 1504) (v := 1) (by decide) dL_law_1503 rfl ?_
      refine x_iadd (pc2 := 1505) dL_law_1504 rfl ?_
      obtain ⟨b501, ht⟩ := ht
      refine x_script (pc2 := 1506) b501 dL_law_1505 rfl ?_
      refine x_aload_n (pc2 := 1507) 0 (n := 0) (x := (G.2.1 3)) rfl dL_law_1506 rfl ?_
      refine x_iload_n (pc2 := 1508) 3 (n := 3) (x := x3) rfl dL_law_1507 rfl ?_
      refine x_iconst (pc2 := 1509) (v := 2) (by decide) dL_law_1508 rfl ?_
      refine x_iadd (pc2 := 1510) dL_law_1509 rfl ?_
      obtain ⟨b502, ht⟩ := ht
      refine x_script (pc2 := 1511) b502 dL_law_1510 rfl ?_
      refine x_aload_n (pc2 := 1512) 0 (n := 0) (x := (G.2.1 3)) rfl dL_law_1511 rfl ?_
      refine x_iload_n (pc2 := 1513) 3 (n := 3) (x := x3) rfl dL_law_1512 rfl ?_
      refine x_iconst (pc2 := 1514) (v := 3) (by decide) dL_law_1513 rfl ?_
      refine x_iadd (pc2 := 1515) dL_law_1514 rfl ?_
      obtain ⟨b503, ht⟩ := ht
      refine x_script (pc2 := 1516) b503 dL_law_1515 rfl ?_
      obtain ⟨k507, ht⟩ := ht
      refine x_callV (pc2 := 1519) (As := [.int (G.2.2.2 (x3 + 1).toNatClampNeg), .int (G.2.2.2 (x3 + 2).toNatClampNeg), .int (G.2.2.2 (x3 + 3).toNatClampNeg)]) (rest := []) (b := a1) mv_X11_after ml_L_134 k507 rfl rfl (Nat.le_of_ble_eq_true rfl) hd1 dL_law_1516 rfl (ht.mono (fun r504 h505 p506 ht' => ?_))
      clear ht
      obtain ⟨v508, rfl, ht⟩ := ht'
      show Ex G d mL_law 1519 [(0, .ref (G.2.1 3)), (1, .ref a1), (2, .ref a2), (3, .int x3)] [.int v508] h505 Q
      refine x_aload_n (pc2 := 1520) 2 (n := 2) (x := a2) rfl dL_law_1519 rfl ?_
      refine x_aload_n (pc2 := 1521) 0 (n := 0) (x := (G.2.1 3)) rfl dL_law_1520 rfl ?_
      refine x_iload_n (pc2 := 1522) 3 (n := 3) (x := x3) rfl dL_law_1521 rfl ?_
      refine x_iconst (pc2 := 1523) (v := 1) (by decide) dL_law_1522 rfl ?_
      refine x_iadd (pc2 := 1524) dL_law_1523 rfl ?_
      obtain ⟨b509, ht⟩ := ht
      refine x_script (pc2 := 1525) b509 dL_law_1524 rfl ?_
      refine x_aload_n (pc2 := 1526) 0 (n := 0) (x := (G.2.1 3)) rfl dL_law_1525 rfl ?_
      refine x_iload_n (pc2 := 1527) 3 (n := 3) (x := x3) rfl dL_law_1526 rfl ?_
      refine x_iconst (pc2 := 1528) (v := 2) (by decide) dL_law_1527 rfl ?_
      refine x_iadd (pc2 := 1529) dL_law_1528 rfl ?_
      obtain ⟨b510, ht⟩ := ht
      refine x_script (pc2 := 1530) b510 dL_law_1529 rfl ?_
      refine x_aload_n (pc2 := 1531) 0 (n := 0) (x := (G.2.1 3)) rfl dL_law_1530 rfl ?_
      refine x_iload_n (pc2 := 1532) 3 (n := 3) (x := x3) rfl dL_law_1531 rfl ?_
      refine x_iconst (pc2 := 1533) (v := 3) (by decide) dL_law_1532 rfl ?_
      refine x_iadd (pc2 := 1534) dL_law_1533 rfl ?_
      obtain ⟨b511, ht⟩ := ht
      refine x_script (pc2 := 1535) b511 dL_law_1534 rfl ?_
      obtain ⟨k515, ht⟩ := ht
      refine x_callV (pc2 := 1538) (As := [.int (G.2.2.2 (x3 + 1).toNatClampNeg), .int (G.2.2.2 (x3 + 2).toNatClampNeg), .int (G.2.2.2 (x3 + 3).toNatClampNeg)]) (rest := [.int v508]) (b := a2) mv_X12_after ml_L_137 k515 rfl rfl (Nat.le_of_ble_eq_true rfl) hd1 dL_law_1535 rfl (ht.mono (fun r512 h513 p514 ht' => ?_))
      clear ht
      obtain ⟨v516, rfl, ht⟩ := ht'
      show Ex G d mL_law 1538 [(0, .ref (G.2.1 3)), (1, .ref a1), (2, .ref a2), (3, .int x3)] [.int v516, .int v508] h513 Q
      refine x_icmp_eq (pc2 := 1541) 1612 dL_law_1538 (by decide) rfl (fun c517 => ?_) (fun c517 => ?_)
      · replace ht := ht.1 c517
        refine x_iinc (pc2 := 1615) 3 [1, 2, 3, 0] (i := 3) (x := x3) (v := (x3 + 9)) (lv2 := [(0, .ref (G.2.1 3)), (1, .ref a1), (2, .ref a2), (3, .int (x3 + 9))]) rfl (iinc_eq (by decide) _) (by decide) rfl dL_law_1612 rfl ?_
        refine x_goto 18 dL_law_1615 (by decide) ?_
        exact ht
      · replace ht := ht.2 c517
        refine x_iconst (pc2 := 1542) (v := 0) (by decide) dL_law_1541 rfl ?_
        exact x_retZ rfl (Or.inl rfl) dL_law_1542 ht
    replace ht := ht.2 c500
    refine y_tcase (x := ((G.2.2.2 x3.toNatClampNeg) &&& 31)) 28 1543 dL_law_33 (by decide) (by decide) rfl (by decide) (fun c518 => ?_) (fun c518 => ?_)
    · replace ht := ht.1 c518
      refine x_aload_n (pc2 := 1544) 1 (n := 1) (x := a1) rfl dL_law_1543 rfl ?_
      refine x_aload_n (pc2 := 1545) 0 (n := 0) (x := (G.2.1 3)) rfl dL_law_1544 rfl ?_
      refine x_iload_n (pc2 := 1546) 3 (n := 3) (x := x3) rfl dL_law_1545 rfl ?_
      refine x_iconst (pc2 := 1547) (v := 1) (by decide) dL_law_1546 rfl ?_
      refine x_iadd (pc2 := 1548) dL_law_1547 rfl ?_
      obtain ⟨b519, ht⟩ := ht
      refine x_script (pc2 := 1549) b519 dL_law_1548 rfl ?_
      obtain ⟨k523, ht⟩ := ht
      refine x_callV (pc2 := 1552) (As := [.int (G.2.2.2 (x3 + 1).toNatClampNeg)]) (rest := []) (b := a1) mv_X11_count ml_L_138 k523 rfl rfl (Nat.le_of_ble_eq_true rfl) hd1 dL_law_1549 rfl (ht.mono (fun r520 h521 p522 ht' => ?_))
      clear ht
      obtain ⟨v524, rfl, ht⟩ := ht'
      show Ex G d mL_law 1552 [(0, .ref (G.2.1 3)), (1, .ref a1), (2, .ref a2), (3, .int x3)] [.int v524] h521 Q
      refine x_aload_n (pc2 := 1553) 2 (n := 2) (x := a2) rfl dL_law_1552 rfl ?_
      refine x_aload_n (pc2 := 1554) 0 (n := 0) (x := (G.2.1 3)) rfl dL_law_1553 rfl ?_
      refine x_iload_n (pc2 := 1555) 3 (n := 3) (x := x3) rfl dL_law_1554 rfl ?_
      refine x_iconst (pc2 := 1556) (v := 1) (by decide) dL_law_1555 rfl ?_
      refine x_iadd (pc2 := 1557) dL_law_1556 rfl ?_
      obtain ⟨b525, ht⟩ := ht
      refine x_script (pc2 := 1558) b525 dL_law_1557 rfl ?_
      obtain ⟨k529, ht⟩ := ht
      refine x_callV (pc2 := 1561) (As := [.int (G.2.2.2 (x3 + 1).toNatClampNeg)]) (rest := [.int v524]) (b := a2) mv_X12_count ml_L_141 k529 rfl rfl (Nat.le_of_ble_eq_true rfl) hd1 dL_law_1558 rfl (ht.mono (fun r526 h527 p528 ht' => ?_))
      clear ht
      obtain ⟨v530, rfl, ht⟩ := ht'
      show Ex G d mL_law 1561 [(0, .ref (G.2.1 3)), (1, .ref a1), (2, .ref a2), (3, .int x3)] [.int v530, .int v524] h527 Q
      refine x_icmp_eq (pc2 := 1564) 1612 dL_law_1561 (by decide) rfl (fun c531 => ?_) (fun c531 => ?_)
      · replace ht := ht.1 c531
        refine x_iinc (pc2 := 1615) 3 [1, 2, 3, 0] (i := 3) (x := x3) (v := (x3 + 9)) (lv2 := [(0, .ref (G.2.1 3)), (1, .ref a1), (2, .ref a2), (3, .int (x3 + 9))]) rfl (iinc_eq (by decide) _) (by decide) rfl dL_law_1612 rfl ?_
        refine x_goto 18 dL_law_1615 (by decide) ?_
        exact ht
      · replace ht := ht.2 c531
        refine x_iconst (pc2 := 1565) (v := 0) (by decide) dL_law_1564 rfl ?_
        exact x_retZ rfl (Or.inl rfl) dL_law_1565 ht
    replace ht := ht.2 c518
    refine y_tcase (x := ((G.2.2.2 x3.toNatClampNeg) &&& 31)) 29 1566 dL_law_33 (by decide) (by decide) rfl (by decide) (fun c532 => ?_) (fun c532 => ?_)
    · replace ht := ht.1 c532
      refine x_aload_n (pc2 := 1567) 1 (n := 1) (x := a1) rfl dL_law_1566 rfl ?_
      refine x_aload_n (pc2 := 1568) 0 (n := 0) (x := (G.2.1 3)) rfl dL_law_1567 rfl ?_
      refine x_iload_n (pc2 := 1569) 3 (n := 3) (x := x3) rfl dL_law_1568 rfl ?_
      refine x_iconst (pc2 := 1570) (v := 1) (by decide) dL_law_1569 rfl ?_
      refine x_iadd (pc2 := 1571) dL_law_1570 rfl ?_
      obtain ⟨b533, ht⟩ := ht
      refine x_script (pc2 := 1572) b533 dL_law_1571 rfl ?_
      obtain ⟨k537, ht⟩ := ht
      refine x_callV (pc2 := 1575) (As := [.int (G.2.2.2 (x3 + 1).toNatClampNeg)]) (rest := []) (b := a1) mv_X11_image ml_L_142 k537 rfl rfl (Nat.le_of_ble_eq_true rfl) hd1 dL_law_1572 rfl (ht.mono (fun r534 h535 p536 ht' => ?_))
      clear ht
      obtain ⟨v538, rfl, ht⟩ := ht'
      show Ex G d mL_law 1575 [(0, .ref (G.2.1 3)), (1, .ref a1), (2, .ref a2), (3, .int x3)] [.int v538] h535 Q
      refine x_aload_n (pc2 := 1576) 2 (n := 2) (x := a2) rfl dL_law_1575 rfl ?_
      refine x_aload_n (pc2 := 1577) 0 (n := 0) (x := (G.2.1 3)) rfl dL_law_1576 rfl ?_
      refine x_iload_n (pc2 := 1578) 3 (n := 3) (x := x3) rfl dL_law_1577 rfl ?_
      refine x_iconst (pc2 := 1579) (v := 1) (by decide) dL_law_1578 rfl ?_
      refine x_iadd (pc2 := 1580) dL_law_1579 rfl ?_
      obtain ⟨b539, ht⟩ := ht
      refine x_script (pc2 := 1581) b539 dL_law_1580 rfl ?_
      obtain ⟨k543, ht⟩ := ht
      refine x_callV (pc2 := 1584) (As := [.int (G.2.2.2 (x3 + 1).toNatClampNeg)]) (rest := [.int v538]) (b := a2) mv_X12_image ml_L_145 k543 rfl rfl (Nat.le_of_ble_eq_true rfl) hd1 dL_law_1581 rfl (ht.mono (fun r540 h541 p542 ht' => ?_))
      clear ht
      obtain ⟨v544, rfl, ht⟩ := ht'
      show Ex G d mL_law 1584 [(0, .ref (G.2.1 3)), (1, .ref a1), (2, .ref a2), (3, .int x3)] [.int v544, .int v538] h541 Q
      refine x_icmp_eq (pc2 := 1587) 1612 dL_law_1584 (by decide) rfl (fun c545 => ?_) (fun c545 => ?_)
      · replace ht := ht.1 c545
        refine x_iinc (pc2 := 1615) 3 [1, 2, 3, 0] (i := 3) (x := x3) (v := (x3 + 9)) (lv2 := [(0, .ref (G.2.1 3)), (1, .ref a1), (2, .ref a2), (3, .int (x3 + 9))]) rfl (iinc_eq (by decide) _) (by decide) rfl dL_law_1612 rfl ?_
        refine x_goto 18 dL_law_1615 (by decide) ?_
        exact ht
      · replace ht := ht.2 c545
        refine x_iconst (pc2 := 1588) (v := 0) (by decide) dL_law_1587 rfl ?_
        exact x_retZ rfl (Or.inl rfl) dL_law_1588 ht
    replace ht := ht.2 c532
    refine y_tcase (x := ((G.2.2.2 x3.toNatClampNeg) &&& 31)) 30 1589 dL_law_33 (by decide) (by decide) rfl (by decide) (fun c546 => ?_) (fun c546 => ?_)
    · replace ht := ht.1 c546
      refine x_aload_n (pc2 := 1590) 1 (n := 1) (x := a1) rfl dL_law_1589 rfl ?_
      refine x_aload_n (pc2 := 1591) 0 (n := 0) (x := (G.2.1 3)) rfl dL_law_1590 rfl ?_
      refine x_iload_n (pc2 := 1592) 3 (n := 3) (x := x3) rfl dL_law_1591 rfl ?_
      refine x_iconst (pc2 := 1593) (v := 1) (by decide) dL_law_1592 rfl ?_
      refine x_iadd (pc2 := 1594) dL_law_1593 rfl ?_
      obtain ⟨b547, ht⟩ := ht
      refine x_script (pc2 := 1595) b547 dL_law_1594 rfl ?_
      obtain ⟨k551, ht⟩ := ht
      refine x_callV (pc2 := 1598) (As := [.int (G.2.2.2 (x3 + 1).toNatClampNeg)]) (rest := []) (b := a1) mv_X11_back ml_L_146 k551 rfl rfl (Nat.le_of_ble_eq_true rfl) hd1 dL_law_1595 rfl (ht.mono (fun r548 h549 p550 ht' => ?_))
      clear ht
      obtain ⟨v552, rfl, ht⟩ := ht'
      show Ex G d mL_law 1598 [(0, .ref (G.2.1 3)), (1, .ref a1), (2, .ref a2), (3, .int x3)] [.int v552] h549 Q
      refine x_aload_n (pc2 := 1599) 2 (n := 2) (x := a2) rfl dL_law_1598 rfl ?_
      refine x_aload_n (pc2 := 1600) 0 (n := 0) (x := (G.2.1 3)) rfl dL_law_1599 rfl ?_
      refine x_iload_n (pc2 := 1601) 3 (n := 3) (x := x3) rfl dL_law_1600 rfl ?_
      refine x_iconst (pc2 := 1602) (v := 1) (by decide) dL_law_1601 rfl ?_
      refine x_iadd (pc2 := 1603) dL_law_1602 rfl ?_
      obtain ⟨b553, ht⟩ := ht
      refine x_script (pc2 := 1604) b553 dL_law_1603 rfl ?_
      obtain ⟨k557, ht⟩ := ht
      refine x_callV (pc2 := 1607) (As := [.int (G.2.2.2 (x3 + 1).toNatClampNeg)]) (rest := [.int v552]) (b := a2) mv_X12_back ml_L_149 k557 rfl rfl (Nat.le_of_ble_eq_true rfl) hd1 dL_law_1604 rfl (ht.mono (fun r554 h555 p556 ht' => ?_))
      clear ht
      obtain ⟨v558, rfl, ht⟩ := ht'
      show Ex G d mL_law 1607 [(0, .ref (G.2.1 3)), (1, .ref a1), (2, .ref a2), (3, .int x3)] [.int v558, .int v552] h555 Q
      refine x_icmp_eq (pc2 := 1610) 1612 dL_law_1607 (by decide) rfl (fun c559 => ?_) (fun c559 => ?_)
      · replace ht := ht.1 c559
        refine x_iinc (pc2 := 1615) 3 [1, 2, 3, 0] (i := 3) (x := x3) (v := (x3 + 9)) (lv2 := [(0, .ref (G.2.1 3)), (1, .ref a1), (2, .ref a2), (3, .int (x3 + 9))]) rfl (iinc_eq (by decide) _) (by decide) rfl dL_law_1612 rfl ?_
        refine x_goto 18 dL_law_1615 (by decide) ?_
        exact ht
      · replace ht := ht.2 c559
        refine x_iconst (pc2 := 1611) (v := 0) (by decide) dL_law_1610 rfl ?_
        exact x_retZ rfl (Or.inl rfl) dL_law_1611 ht
    replace ht := ht.2 c546
    have wc3 := ne_ti (z := 0) rfl c3
    have wc25 := ne_ti (z := 1) rfl c25
    have wc39 := ne_ti (z := 2) rfl c39
    have wc51 := ne_ti (z := 3) rfl c51
    have wc65 := ne_ti (z := 4) rfl c65
    have wc83 := ne_ti (z := 5) rfl c83
    have wc111 := ne_ti (z := 6) rfl c111
    have wc139 := ne_ti (z := 7) rfl c139
    have wc167 := ne_ti (z := 8) rfl c167
    have wc181 := ne_ti (z := 9) rfl c181
    have wc201 := ne_ti (z := 10) rfl c201
    have wc206 := ne_ti (z := 11) rfl c206
    have wc222 := ne_ti (z := 12) rfl c222
    have wc240 := ne_ti (z := 13) rfl c240
    have wc256 := ne_ti (z := 14) rfl c256
    have wc282 := ne_ti (z := 15) rfl c282
    have wc308 := ne_ti (z := 16) rfl c308
    have wc330 := ne_ti (z := 17) rfl c330
    have wc348 := ne_ti (z := 18) rfl c348
    have wc362 := ne_ti (z := 19) rfl c362
    have wc378 := ne_ti (z := 20) rfl c378
    have wc402 := ne_ti (z := 21) rfl c402
    have wc426 := ne_ti (z := 22) rfl c426
    have wc440 := ne_ti (z := 23) rfl c440
    have wc456 := ne_ti (z := 24) rfl c456
    have wc470 := ne_ti (z := 25) rfl c470
    have wc484 := ne_ti (z := 26) rfl c484
    have wc500 := ne_ti (z := 27) rfl c500
    have wc518 := ne_ti (z := 28) rfl c518
    have wc532 := ne_ti (z := 29) rfl c532
    have wc546 := ne_ti (z := 30) rfl c546
    refine x_tableOut (x := ((G.2.2.2 x3.toNatClampNeg) &&& 31)) 1612 dL_law_33 (by omega) (by decide) ?_
    refine x_iinc (pc2 := 1615) 3 [1, 2, 3, 0] (i := 3) (x := x3) (v := (x3 + 9)) (lv2 := [(0, .ref (G.2.1 3)), (1, .ref a1), (2, .ref a2), (3, .int (x3 + 9))]) rfl (iinc_eq (by decide) _) (by decide) rfl dL_law_1612 rfl ?_
    refine x_goto 18 dL_law_1615 (by decide) ?_
    exact ht
def T_L_law_735 (G : GG) (d : Nat) (h : HP) (Q : Option Value → HP → Prop) (a1 : Nat) (a2 : Nat) (x3 : Int32) (sa0 : Nat) (sx1 : Int32) (sx2 : Int32) (sx3 : Int32) : Prop :=
  Kd G h sa0 11 ∧ Cal G (d - 1) mX11_key [.ref sa0, .int sx1, .int sx2, .int sx3] h (fun r1 h2 => ∃ v5, r1 = some (.int v5) ∧ vp_in (x3 + 1) G.2.2.1 ∧ vp_in (x3 + 2) G.2.2.1 ∧ vp_in (x3 + 3) G.2.2.1 ∧ (((G.2.2.2 (x3 + 3).toNatClampNeg) = 0 → Kd G h2 a2 12 ∧ Cal G (d - 1) mX12_key [.ref a2, .int (G.2.2.2 (x3 + 1).toNatClampNeg), .int (G.2.2.2 (x3 + 2).toNatClampNeg), .int 0] h2 (fun r10 h11 => ∃ v14, r10 = some (.int v14) ∧ ((v5 = v14 → Ex G d mL_law 18 [(0, .ref (G.2.1 3)), (1, .ref a1), (2, .ref a2), (3, .int (x3 + 9))] [] h11 Q) ∧ (¬ v5 = v14 → Q (some (.int 0)) h11)))) ∧ (¬ (G.2.2.2 (x3 + 3).toNatClampNeg) = 0 → Kd G h2 a2 12 ∧ Cal G (d - 1) mX12_key [.ref a2, .int (G.2.2.2 (x3 + 1).toNatClampNeg), .int (G.2.2.2 (x3 + 2).toNatClampNeg), .int 1] h2 (fun r16 h17 => ∃ v20, r16 = some (.int v20) ∧ ((v5 = v20 → Ex G d mL_law 18 [(0, .ref (G.2.1 3)), (1, .ref a1), (2, .ref a2), (3, .int (x3 + 9))] [] h17 Q) ∧ (¬ v5 = v20 → Q (some (.int 0)) h17))))))
set_option maxRecDepth 20000 in
theorem t_L_law_735 {G : GG} {d : Nat} {h : HP} {Q : Option Value → HP → Prop} {a1 : Nat} {a2 : Nat} {x3 : Int32} {sa0 : Nat} {sx1 : Int32} {sx2 : Int32} {sx3 : Int32} (hd1 : 1 ≤ d) (ht : T_L_law_735 G d h Q a1 a2 x3 sa0 sx1 sx2 sx3) : Ex G d mL_law 735 [(0, .ref (G.2.1 3)), (1, .ref a1), (2, .ref a2), (3, .int x3)] [.int sx3, .int sx2, .int sx1, .ref sa0] h Q := by
  unfold T_L_law_735 at ht
  obtain ⟨k4, ht⟩ := ht
  refine x_callV (pc2 := 738) (As := [.int sx1, .int sx2, .int sx3]) (rest := []) (b := sa0) mv_X11_key ml_L_61 k4 rfl rfl (Nat.le_of_ble_eq_true rfl) hd1 dL_law_735 rfl (ht.mono (fun r1 h2 p3 ht' => ?_))
  clear ht
  obtain ⟨v5, rfl, ht⟩ := ht'
  show Ex G d mL_law 738 [(0, .ref (G.2.1 3)), (1, .ref a1), (2, .ref a2), (3, .int x3)] [.int v5] h2 Q
  refine x_aload_n (pc2 := 739) 2 (n := 2) (x := a2) rfl dL_law_738 rfl ?_
  refine x_aload_n (pc2 := 740) 0 (n := 0) (x := (G.2.1 3)) rfl dL_law_739 rfl ?_
  refine x_iload_n (pc2 := 741) 3 (n := 3) (x := x3) rfl dL_law_740 rfl ?_
  refine x_iconst (pc2 := 742) (v := 1) (by decide) dL_law_741 rfl ?_
  refine x_iadd (pc2 := 743) dL_law_742 rfl ?_
  obtain ⟨b6, ht⟩ := ht
  refine x_script (pc2 := 744) b6 dL_law_743 rfl ?_
  refine x_aload_n (pc2 := 745) 0 (n := 0) (x := (G.2.1 3)) rfl dL_law_744 rfl ?_
  refine x_iload_n (pc2 := 746) 3 (n := 3) (x := x3) rfl dL_law_745 rfl ?_
  refine x_iconst (pc2 := 747) (v := 2) (by decide) dL_law_746 rfl ?_
  refine x_iadd (pc2 := 748) dL_law_747 rfl ?_
  obtain ⟨b7, ht⟩ := ht
  refine x_script (pc2 := 749) b7 dL_law_748 rfl ?_
  refine x_aload_n (pc2 := 750) 0 (n := 0) (x := (G.2.1 3)) rfl dL_law_749 rfl ?_
  refine x_iload_n (pc2 := 751) 3 (n := 3) (x := x3) rfl dL_law_750 rfl ?_
  refine x_iconst (pc2 := 752) (v := 3) (by decide) dL_law_751 rfl ?_
  refine x_iadd (pc2 := 753) dL_law_752 rfl ?_
  obtain ⟨b8, ht⟩ := ht
  refine x_script (pc2 := 754) b8 dL_law_753 rfl ?_
  refine x_if_eq (pc2 := 757) 761 dL_law_754 (by decide) rfl (fun c9 => ?_) (fun c9 => ?_)
  · replace ht := ht.1 c9
    refine x_iconst (pc2 := 762) (v := 0) (by decide) dL_law_761 rfl ?_
    obtain ⟨k13, ht⟩ := ht
    refine x_callV (pc2 := 765) (As := [.int (G.2.2.2 (x3 + 1).toNatClampNeg), .int (G.2.2.2 (x3 + 2).toNatClampNeg), .int 0]) (rest := [.int v5]) (b := a2) mv_X12_key ml_L_65 k13 rfl rfl (Nat.le_of_ble_eq_true rfl) hd1 dL_law_762 rfl (ht.mono (fun r10 h11 p12 ht' => ?_))
    clear ht
    obtain ⟨v14, rfl, ht⟩ := ht'
    show Ex G d mL_law 765 [(0, .ref (G.2.1 3)), (1, .ref a1), (2, .ref a2), (3, .int x3)] [.int v14, .int v5] h11 Q
    refine x_icmp_eq (pc2 := 768) 1612 dL_law_765 (by decide) rfl (fun c15 => ?_) (fun c15 => ?_)
    · replace ht := ht.1 c15
      refine x_iinc (pc2 := 1615) 3 [1, 2, 3, 0] (i := 3) (x := x3) (v := (x3 + 9)) (lv2 := [(0, .ref (G.2.1 3)), (1, .ref a1), (2, .ref a2), (3, .int (x3 + 9))]) rfl (iinc_eq (by decide) _) (by decide) rfl dL_law_1612 rfl ?_
      refine x_goto 18 dL_law_1615 (by decide) ?_
      exact ht
    · replace ht := ht.2 c15
      refine x_iconst (pc2 := 769) (v := 0) (by decide) dL_law_768 rfl ?_
      exact x_retZ rfl (Or.inl rfl) dL_law_769 ht
  · replace ht := ht.2 c9
    refine x_iconst (pc2 := 758) (v := 1) (by decide) dL_law_757 rfl ?_
    refine x_goto 762 dL_law_758 (by decide) ?_
    obtain ⟨k19, ht⟩ := ht
    refine x_callV (pc2 := 765) (As := [.int (G.2.2.2 (x3 + 1).toNatClampNeg), .int (G.2.2.2 (x3 + 2).toNatClampNeg), .int 1]) (rest := [.int v5]) (b := a2) mv_X12_key ml_L_65 k19 rfl rfl (Nat.le_of_ble_eq_true rfl) hd1 dL_law_762 rfl (ht.mono (fun r16 h17 p18 ht' => ?_))
    clear ht
    obtain ⟨v20, rfl, ht⟩ := ht'
    show Ex G d mL_law 765 [(0, .ref (G.2.1 3)), (1, .ref a1), (2, .ref a2), (3, .int x3)] [.int v20, .int v5] h17 Q
    refine x_icmp_eq (pc2 := 768) 1612 dL_law_765 (by decide) rfl (fun c21 => ?_) (fun c21 => ?_)
    · replace ht := ht.1 c21
      refine x_iinc (pc2 := 1615) 3 [1, 2, 3, 0] (i := 3) (x := x3) (v := (x3 + 9)) (lv2 := [(0, .ref (G.2.1 3)), (1, .ref a1), (2, .ref a2), (3, .int (x3 + 9))]) rfl (iinc_eq (by decide) _) (by decide) rfl dL_law_1612 rfl ?_
      refine x_goto 18 dL_law_1615 (by decide) ?_
      exact ht
    · replace ht := ht.2 c21
      refine x_iconst (pc2 := 769) (v := 0) (by decide) dL_law_768 rfl ?_
      exact x_retZ rfl (Or.inl rfl) dL_law_769 ht
