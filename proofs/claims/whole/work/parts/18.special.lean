/-! ===== arraycopy, the constant text ===== -/
def cpI (h : HP) (a0 sp a dp n : Nat) : HP := (fun b j => if b = a ∧ dp ≤ j ∧ j < dp + n then h.1 a0 (sp + (j - dp)) else h.1 b j, h.2)
theorem hI_cp (h : HP) (a0 sp a dp n b j : Nat) : hI (cpI h a0 sp a dp n) b j = if b = a ∧ dp ≤ j ∧ j < dp + n then hI h a0 (sp + (j - dp)) else hI h b j := rfl
theorem hL_cp (h : HP) (a0 sp a dp n b j : Nat) : hL (cpI h a0 sp a dp n) b j = hL h b j := rfl
theorem hR_cp (h : HP) (a0 sp a dp n b j : Nat) : hR (cpI h a0 sp a dp n) b j = hR h b j := rfl
theorem hK_cp (h : HP) (a0 sp a dp n b : Nat) : hK (cpI h a0 sp a dp n) b = hK h b := rfl
theorem hN_cp (h : HP) (a0 sp a dp n b : Nat) : hN (cpI h a0 sp a dp n) b = hN h b := rfl
theorem hZ_cp (h : HP) (a0 sp a dp n : Nat) : hZ (cpI h a0 sp a dp n) = hZ h := rfl
theorem hU_cp (h : HP) (a0 sp a dp n : Nat) : hU (cpI h a0 sp a dp n) = hU h := rfl
theorem kp_cp (h : HP) (a0 sp a dp n : Nat) : KP h (cpI h a0 sp a dp n) := ⟨Nat.le_refl _, Nat.le_refl _, fun _ _ => ⟨rfl, rfl⟩⟩
theorem bs_X10_92 : Cond.fieldLink RX10 92 "RoundAnothers$Ways" "BESIDE" "[I" ∈ tb := tb_c5 229 rfl rfl
theorem ml_X6_55 : Cond.methodLink RX6 55 arraycopyName ∈ tb := tb_c4 13 rfl rfl
theorem ml_J7_150 : Cond.methodLink RJ7 150 arraycopyName ∈ tb := tb_c4 101 rfl rfl
theorem tb_acs : Cond.static arraycopyName ∈ tb := tb_c4 14 rfl rfl
theorem tb_acn : Cond.native arraycopyName ∈ tb := tb_c4 15 rfl rfl
theorem tb_aci : Cond.initialized "java/lang/System" ∈ tb := tb_c1 18 rfl rfl
section XS
variable {G : GG} {d : Nat} {M : MM} {pc pc2 : Nat} {lv lv2 : List (Nat × Value)} {st : List Value} {h : HP} {Q : Option Value → HP → Prop}
theorem nm_C {a0 sp a dp n : Nat} (kx : ∀ h1, h1 = cpI h a0 sp a dp n → KP h h1 → Ex G d M pc lv st h1 Q) : Ex G d M pc lv st (cpI h a0 sp a dp n) Q := kx _ rfl (kp_cp _ _ _ _ _ _)
theorem toInt_clamp {z : Int32} (hz : ¬ z < 0) : z.toInt = (z.toNatClampNeg : Int) := by
  have hz0 : (0 : Int) ≤ z.toInt := by
    have := Int32.not_lt.mp hz
    simpa using Int32.le_iff_toInt_le.mp this
  show z.toInt = ((z.toInt.toNat : Nat) : Int)
  omega
set_option maxHeartbeats 1000000 in
theorem x_copy {a0 a i : Nat} {sp dp n : Int32} (k0 : Kd G h a0 14) (k1 : Kd G h a 14) (hb : ¬ sp < 0 ∧ ¬ dp < 0 ∧ ¬ n < 0 ∧ sp.toNatClampNeg + n.toNatClampNeg ≤ hN h a0 ∧ dp.toNatClampNeg + n.toNatClampNeg ≤ hN h a) (hw : Cond.methodLink M.1.cls i arraycopyName ∈ tb) (hd1 : 1 ≤ d) (hcat : (st.map fun v => v.category).sum ≤ 8)
    (hd : decode M.2.1 pc = .ok (.invokestatic i, 3)) (hp : pc + 3 = pc2) (kx : Ex G d M pc2 lv st (cpI h a0 sp.toNatClampNeg a dp.toNatClampNeg n.toNatClampNeg) Q) : Ex G d M pc lv (.int n :: .int dp :: .ref a :: .int sp :: .ref a0 :: st) h Q := by
  subst hp
  obtain ⟨r, h2, q1, qk, q4⟩ := kx
  refine ⟨r, h2, q1, (kp_cp _ _ _ _ _ _).tr qk, ?_⟩
  intro p l e R s m args below meth c dC dI dA QF z u hA hd1' hd2 hz hu hc hs hr H locs ls hC hl
  obtain ⟨hx, hbc, hml, -, hown, hts, -, -, hKX, -⟩ := id hA
  obtain ⟨b1, b2, b3, b4, b5⟩ := hb
  obtain ⟨cs, s1, s2, s3, s4, s5, s6⟩ := arr_of hKX hC k0 (by decide)
  obtain ⟨cd, t1, t2, t3, t4, t5, t6⟩ := arr_of hKX hC k1 (by decide)
  intro T hT X
  obtain ⟨-, ks, hks, cms, hkks⟩ := id s2
  obtain ⟨-, kd, hkd, cmd, hkkd⟩ := id t2
  obtain ⟨vm', X', step⟩ := X.arraycopy hx hown (hts _ hw) (hts _ tb_acn) (hts _ tb_acs) (hts _ tb_aci) (src := a0) (dst := a) (cs := cs) (cd := cd) (srcPos := sp) (destPos := dp) (n := n) (by rw [hT]; exact s1) (by rw [hT]; exact t1)
    (fun _ q => by rw [s6] at q; cases q) (fun _ q => by rw [t6] at q; cases q) s3 t3 hks hkd hkks hkkd (by rfl) b1 b2 b3
    (by rw [toInt_clamp b1, toInt_clamp b3, s4]; omega) (by rw [toInt_clamp b2, toInt_clamp b3, t4]; omega)
    (fun vm₁ _ j hj => by
      have ee : cs.slots.getD (sp.toNatClampNeg + j) .null = .int (hI h a0 (sp.toNatClampNeg + j)) := by
        rw [Array.getD_eq_getD_getElem?, s5 _ (by omega)]; rfl
      rw [ee]
      exact ⟨rfl, trivial⟩)
    (g := F0 m pc ls (.int n :: .int dp :: .ref a :: .int sp :: .ref a0 :: st)) rfl (hl.1.trans hml.symm) (rest := st) rfl (by rw [hbc]; exact hd) (by omega) (by
      have hnf : nativeFrameWords "java/lang/System" "arraycopy" 5 + 11 ≤ 50 := by decide
      show 2 * 0 + _ + _ ≤ _; omega)
  have ec : copied cs cd sp dp n = arrV (dA 14) (hN h a) (fun j => Value.int (va_cpy (fun k => hI h a0 k) (fun k => hI h a k) sp.toNatClampNeg dp.toNatClampNeg n.toNatClampNeg j)) := by
    rw [s6, t6]
    exact va_copied (fun z => .int z) (dA 14) (dA 14) (fun k => hI h a0 k) (fun k => hI h a k) b4
  rw [ec] at X' step
  have hla : a < H.size := (Array.getElem?_eq_some_iff.mp t1).1
  have hC1 : CU G dC dI dA s (cpI h a0 sp.toNatClampNeg a dp.toNatClampNeg n.toNatClampNeg) (H.setIfInBounds a (arrV (dA 14) (hN h a) (fun j => Value.int (va_cpy (fun k => hI h a0 k) (fun k => hI h a k) sp.toNatClampNeg dp.toNatClampNeg n.toNatClampNeg j)))) (locs ++ (cs.stretch sp.toNatClampNeg n.toNatClampNeg).zipIdx.map fun q => ⟨a, dp.toNatClampNeg + q.2⟩) := by
    have oq : ∀ q : Nat, q ≠ a → (H.setIfInBounds a (arrV (dA 14) (hN h a) (fun j => Value.int (va_cpy (fun k => hI h a0 k) (fun k => hI h a k) sp.toNatClampNeg dp.toNatClampNeg n.toNatClampNeg j))))[q]? = H[q]? := fun q hq => by simp [Array.getElem?_setIfInBounds, Ne.symm hq]
    refine ⟨by rw [Array.size_setIfInBounds]; exact hC.1, fun b g1 g2 => ?_, ?_⟩
    · rw [hZ_cp] at g2
      by_cases hb : b = a
      · subst hb
        refine Or.inr ⟨by rw [hK_cp, k1.1]; decide, by rw [hK_cp, k1.1]; decide, by rw [hN_cp]; exact (cu_arr hC k1 (by decide)).2.1, ?_⟩
        rw [hK_cp, k1.1, hN_cp]
        simp only [Array.getElem?_setIfInBounds, hla, if_true]
        congr 2
        funext j
        show _ = Value.int _
        rw [hI_cp]
        unfold va_cpy
        by_cases hj : dp.toNatClampNeg ≤ j ∧ j < dp.toNatClampNeg + n.toNatClampNeg
        · rw [if_pos hj, if_pos ⟨rfl, hj⟩]
        · rw [if_neg hj, if_neg (fun q => hj q.2)]
      · exact (hC.2.1 b g1 g2).kept (oq b hb) (fun k => by rw [hI_cp, if_neg (fun q => hb q.1)]) (fun _ => rfl) (fun _ => rfl) rfl rfl
    · have hS := hC.2.2
      refine ⟨by rw [Array.size_setIfInBounds]; exact hS.1, fun q g1 g2 => ?_, fun q hq => ?_⟩
      · rw [oq q (fun e => g2 (by rw [e]; exact k1.2.1))]
        exact hS.2.1 q g1 g2
      · rcases List.mem_append.mp hq with g | g
        · exact hS.2.2 q g
        · obtain ⟨y, -, hy⟩ := List.mem_map.mp g
          rw [← hy]
          exact k1.2.1
  have w := q4 p l e R s m args below meth c dC dI dA QF z u hA hd1' hd2 hz hu hc hs hr _ _ ls hC1 hl
  obtain ⟨t, a1, c1⟩ := w _ (by rw [← hT]; rfl) X'
  exact ⟨t, step t a1, c1⟩
/-- the bytes of the text -/
def wdAt (k : Nat) : Int32 := wdBy.getD k 0
theorem x_ldcS (hd : decode M.2.1 pc = .ok (.ldc 64, 2)) (hm : M.1.cls = RX8) (hp : pc + 2 = pc2) (kx : Ex G d M pc2 lv (.ref (G.2.1 1) :: st) h Q) : Ex G d M pc lv st h Q := by
  subst hp
  refine ex_step (fun p l e R s m args below meth c dC dI dA QF cells slots H locs ls hA hC hl kk => ?_) kx
  have hX := hA.2.2.2.2.2.2.2.2.2.2.2.2.1
  exact va_ldcS hA.1 hA.2.1 (own := "RoundAnothers$Tape") (by have := hA.2.2.2.2.1; rw [hm] at this; exact this) hX hd (kk ls hl)
end XS
/-! the JDK's walk over that text -/
def MT (M : MM) (n : Nat) : Prop := Cond.code M.1 M.2.1 M.2.2.1 M.2.2.2 ∈ tb ∧ Cond.instanceMethod M.1 ∈ tb ∧ Cond.selects M.1.cls M.1 M.1 ∈ tb ∧ M.1.cls = "java/lang/String" ∧ (M.1.cls ≠ "java/lang/invoke/MethodHandle" ∧ M.1.cls ≠ "java/lang/invoke/VarHandle" ∧ (parseMethodDescriptor M.1.desc).map (fun d => d.parameters.length) = some n) ∧ M.2.2.1 ≤ 45
theorem mt_length : MT mJ0_length_8abf5 0 := ⟨tb_c3 127 rfl rfl, tb_c3 125 rfl rfl, tb_c3 126 rfl rfl, rfl, ⟨by decide +kernel, by decide +kernel, rfl⟩, by decide⟩
theorem mt_charAt : MT mJ0_charAt_5068e 1 := ⟨tb_c3 137 rfl rfl, tb_c3 135 rfl rfl, tb_c3 136 rfl rfl, rfl, ⟨by decide +kernel, by decide +kernel, rfl⟩, by decide⟩
theorem mt_coder : MT mJ0_coder_7d493 0 := ⟨tb_c3 131 rfl rfl, tb_c3 129 rfl rfl, tb_c3 130 rfl rfl, rfl, ⟨by decide +kernel, by decide +kernel, rfl⟩, by decide⟩
theorem mt_latin : MT mJ0_isLatin1_aae02 0 := ⟨tb_c3 141 rfl rfl, tb_c3 139 rfl rfl, tb_c3 140 rfl rfl, rfl, ⟨by decide +kernel, by decide +kernel, rfl⟩, by decide⟩
theorem fl_J0_9 : Cond.fieldLink RJ0 9 "java/lang/String" "value" "[B" ∈ tb := tb_c9 138 rfl rfl
theorem fl_J0_15 : Cond.fieldLink RJ0 15 "java/lang/String" "coder" "B" ∈ tb := tb_c9 139 rfl rfl
theorem fl_J0_38 : Cond.fieldLink RJ0 38 "java/lang/String" "COMPACT_STRINGS" "Z" ∈ tb := tb_c3 132 rfl rfl
theorem fl_J0_1053 : Cond.fieldLink RJ0 1053 "jdk/internal/util/Preconditions" "SIOOBE_FORMATTER" "Ljava/util/function/BiFunction;" ∈ tb := tb_c3 148 rfl rfl
theorem tb_strI : Cond.initialized "java/lang/String" ∈ tb := tb_c1 14 rfl rfl
section XT
variable {G : GG} {d : Nat} {M M' : MM} {pc pc2 : Nat} {lv lv2 : List (Nat × Value)} {st st0 rest : List Value} {h : HP} {Q : Option Value → HP → Prop}
theorem x_callT {n i : Nat} {As : List Value} (hm : MT M' n) (hw : Cond.methodLink M.1.cls i M'.1 ∈ tb) (hn : As.length = n) (hst : st0 = As.reverse ++ .ref (G.2.1 1) :: rest) (hcat : (rest.map fun v => v.category).sum ≤ 8) (hd1 : 1 ≤ d) (hd : decode M.2.1 pc = .ok (.invokevirtual i, 3)) (hp : pc + 3 = pc2)
    (k : Cal G (d - 1) M' (.ref (G.2.1 1) :: As) h (fun r h' => Ex G d M pc2 lv (r.toList ++ rest) h' Q)) : Ex G d M pc lv st0 h Q := by
  subst hp
  refine ex_call k ?_
  intro p l e R s m args below meth c dC dI dA cells slots mc ms H locs ls r h1 hA hR1 hR2 hC hl hf1 hf2 hM
  obtain ⟨m1, m2, m3, m4, m6, m7⟩ := hm
  obtain ⟨hx, hbd, hml, -, hown, hts, -, -, hKX, hSX⟩ := id hA
  have hcell : ∃ cellB : Cell, H[G.2.1 1]? = some cellB ∧ cellB.vm.isStatics = false ∧ s.vm.findClass M'.1.cls = some cellB.cls := by
    have hE := hSX.2.2.2.2.1
    obtain ⟨cell, q1, q2, q3⟩ := vk_recv (i := 0) hE (by decide) hC.2.2
    exact ⟨cell, q1, q2, by rw [m4]; exact q3⟩
  exact va_runV (Ts := tb) (own := M.1.cls) (C := M'.1.cls) (As := As) ⟨hx, hbd, hml, hown, hts⟩ hM ⟨callB_of n hts (good_cons m1) rfl rfl rfl (hts _ (by rw [m4]; exact tb_strI)) (hts _ hw) m6 ⟨by show d - 1 + 1 ≤ _; omega, by show 8 + (M'.2.2.1 + 11) + 64 * (d - 1) ≤ _; omega⟩, hts _ m2, hts _ m3⟩ ⟨pcx_blind, hcell, pcx_pre hKX hSX hC⟩ rfl hn hl.1 hst (lv_room hcat) hd ⟨hf1, hf2⟩
theorem x_sval (hm : M.1.cls = RJ0) (hd : decode M.2.1 pc = .ok (.getfield 9, 3)) (hp : pc + 3 = pc2) (kx : Ex G d M pc2 lv (.ref (G.2.1 2) :: st) h Q) : Ex G d M pc lv (.ref (G.2.1 1) :: st) h Q := by
  subst hp
  refine ex_step (fun p l e R s m args below meth c dC dI dA QF cells slots H locs ls hA hC hl kk => ?_) kx
  have hE := (hA.2.2.2.2.2.2.2.2.2.2.2.2.2.1.1 0 (by decide)).2.2.1
  exact vk_getf hA.1 hA.2.1 hE hC.2.2 hA.2.2.2.2.1 (hA.2.2.2.2.2.1 _ (by rw [hm]; exact fl_J0_9)) (fun _ q => q) hd (kk ls hl)
theorem x_scod (hm : M.1.cls = RJ0) (hd : decode M.2.1 pc = .ok (.getfield 15, 3)) (hp : pc + 3 = pc2) (kx : Ex G d M pc2 lv (.int 0 :: st) h Q) : Ex G d M pc lv (.ref (G.2.1 1) :: st) h Q := by
  subst hp
  refine ex_step (fun p l e R s m args below meth c dC dI dA QF cells slots H locs ls hA hC hl kk => ?_) kx
  have hE := (hA.2.2.2.2.2.2.2.2.2.2.2.2.2.1.1 0 (by decide)).2.1
  exact vk_getf hA.1 hA.2.1 hE hC.2.2 hA.2.2.2.2.1 (hA.2.2.2.2.2.1 _ (by rw [hm]; exact fl_J0_15)) (fun _ q => q) hd (kk ls hl)
theorem x_scmp (hm : M.1.cls = RJ0) (hd : decode M.2.1 pc = .ok (.getstatic 38, 3)) (hp : pc + 3 = pc2) (kx : Ex G d M pc2 lv (.int 1 :: st) h Q) : Ex G d M pc lv st h Q := by
  subst hp
  exact ex_step (fun p l e R s m args below meth c dC dI dA QF cells slots H locs ls hA hC hl kk => va_gets hA.1 hA.2.1 hA.2.2.2.2.2.2.2.2.2.2.2.2.2.2.1 hC.2.2 hA.2.2.2.2.1 (hA.2.2.2.2.2.1 _ (by rw [hm]; exact fl_J0_38)) (fun _ q => q) hd (kk ls hl)) kx
theorem x_slen (hd : decode M.2.1 pc = .ok (.arraylength, 1)) (hp : pc + 1 = pc2) (kx : Ex G d M pc2 lv (.int 114 :: st) h Q) : Ex G d M pc lv (.ref (G.2.1 2) :: st) h Q := by
  subst hp
  refine ex_step (fun p l e R s m args below meth c dC dI dA QF cells slots H locs ls hA hC hl kk => ?_) kx
  have hE := (hA.2.2.2.2.2.2.2.2.2.2.2.2.2.1.1 0 (by decide)).2.2.2.kept hC.2.2.2.1
  obtain ⟨cell, q1, q2, q3, q4, q5, -⟩ := hE
  exact W.alen hA.1 hA.2.1 q1 q2 q5 rfl rfl hd (kk ls hl)
theorem x_sbyte {i : Int32} (hin : vp_in i 114) (hd : decode M.2.1 pc = .ok (.baload, 1)) (hp : pc + 1 = pc2) (kx : Ex G d M pc2 lv (.int (wdAt i.toNatClampNeg) :: st) h Q) : Ex G d M pc lv (.int i :: .ref (G.2.1 2) :: st) h Q := by
  subst hp
  refine ex_step (fun p l e R s m args below meth c dC dI dA QF cells slots H locs ls hA hC hl kk => ?_) kx
  have hE := (hA.2.2.2.2.2.2.2.2.2.2.2.2.2.1.1 0 (by decide)).2.2.2
  exact va_tb hA.1 hA.2.1 hE hC.2.2 hin rfl hd (kk ls hl)
theorem x_i2c {x : Int32} (hd : decode M.2.1 pc = .ok (.i2c, 1)) (hp : pc + 1 = pc2) (kx : Ex G d M pc2 lv (.int (x.toUInt32 % 65536).toInt32 :: st) h Q) : Ex G d M pc lv (.int x :: st) h Q := by
  subst hp
  exact ex_step (fun p l e R s m args below meth c dC dI dA QF cells slots H locs ls hA hC hl kk => lv_i2c hA.1 hA.2.1 hd rfl (kk ls hl)) kx
theorem x_sfmt (hm : M.1.cls = RJ0) (hd : decode M.2.1 pc = .ok (.getstatic 1053, 3)) (hp : pc + 3 = pc2) (kx : ∀ o, Ex G d M pc2 lv (va_rf o :: st) h Q) (hu : ∀ o r h2, Ex G d M pc2 lv (va_rf o :: st) h (fun a b => a = r ∧ b = h2) → Q r h2 → True) (r : Option Value) (hr : ∀ o, Ex G d M pc2 lv (va_rf o :: st) h (fun a b => a = r ∧ b = h)) (hQ : Q r h) : Ex G d M pc lv st h Q := by
  subst hp
  refine ⟨r, h, hQ, KP.rf _, ?_⟩
  intro p l e R s m args below meth c dC dI dA QF z u hA hd1 hd2 hz hu' hc hs hret H locs ls hC hl
  have hZ7 := hA.2.2.2.2.2.2.2.2.2.2.2.2.2.2.2.1
  have go : ∀ o, W p l e R s m args below meth c H locs (hZ h - z) (hU h - u) QF (F0 m (pc + 3) ls (va_rf o :: st)) := by
    intro o
    obtain ⟨r', h2', ⟨rfl, rfl⟩, -, q4⟩ := hr o
    exact q4 p l e R s m args below meth c dC dI dA QF z u hA hd1 hd2 hz hu' hc hs hret H locs ls hC hl
  rcases hZ7 with g | ⟨t, g⟩
  · exact va_gets hA.1 hA.2.1 g hC.2.2 hA.2.2.2.2.1 (hA.2.2.2.2.2.1 _ (by rw [hm]; exact fl_J0_1053)) (fun _ q => q) hd (go none)
  · exact va_gets hA.1 hA.2.1 g hC.2.2 hA.2.2.2.2.1 (hA.2.2.2.2.2.1 _ (by rw [hm]; exact fl_J0_1053)) (fun _ q => q) hd (go (some t))
theorem e_coder : Cal G d mJ0_coder_7d493 [.ref (G.2.1 1)] h (fun r h2 => r = some (.int 0) ∧ h2 = h) := by
  refine cal_of rfl (Nat.le_of_ble_eq_true rfl) ?_
  show Ex G d mJ0_coder_7d493 0 [(0, .ref (G.2.1 1))] [] h _
  refine x_scmp (pc2 := 3) rfl dJ0_coder_7d493_0 rfl ?_
  refine x_if_eq (pc2 := 6) 13 dJ0_coder_7d493_3 (by decide) rfl (fun c => absurd c (by decide)) (fun _ => ?_)
  refine x_aload_n (pc2 := 7) 0 (n := 0) (x := G.2.1 1) rfl dJ0_coder_7d493_6 rfl ?_
  refine x_scod (pc2 := 10) rfl dJ0_coder_7d493_7 rfl ?_
  refine x_goto 14 dJ0_coder_7d493_10 (by decide) ?_
  exact x_ret (ty := .byte) rfl rfl dJ0_coder_7d493_14 ⟨rfl, rfl⟩
theorem e_latin : Cal G d mJ0_isLatin1_aae02 [.ref (G.2.1 1)] h (fun r h2 => r = some (.int 1) ∧ h2 = h) := by
  refine cal_of rfl (Nat.le_of_ble_eq_true rfl) ?_
  show Ex G d mJ0_isLatin1_aae02 0 [(0, .ref (G.2.1 1))] [] h _
  refine x_scmp (pc2 := 3) rfl dJ0_isLatin1_aae02_0 rfl ?_
  refine x_if_eq (pc2 := 6) 17 dJ0_isLatin1_aae02_3 (by decide) rfl (fun c => absurd c (by decide)) (fun _ => ?_)
  refine x_aload_n (pc2 := 7) 0 (n := 0) (x := G.2.1 1) rfl dJ0_isLatin1_aae02_6 rfl ?_
  refine x_scod (pc2 := 10) rfl dJ0_isLatin1_aae02_7 rfl ?_
  refine y_if_ne (pc2 := 13) 17 dJ0_isLatin1_aae02_10 (by decide) rfl (fun c => absurd c (by decide)) (fun _ => ?_)
  refine x_iconst (pc2 := 14) (v := 1) (by decide) dJ0_isLatin1_aae02_13 rfl ?_
  refine x_goto 18 dJ0_isLatin1_aae02_14 (by decide) ?_
  exact x_retZ rfl (Or.inr rfl) dJ0_isLatin1_aae02_18 ⟨rfl, rfl⟩
theorem e_pre {i n : Int32} {o : Option Nat} (h1 : ¬ i < 0) (h2 : i < n) : Cal G d mJ3_checkIndex_8e157 [.int i, .int n, va_rf o] h (fun r h2 => r = some (.int i) ∧ h2 = h) := by
  have key : Ex G d mJ3_checkIndex_8e157 0 [(0, .int i), (1, .int n), (2, va_rf o)] [] h (fun r h2 => r = some (.int i) ∧ h2 = h) := by
    refine x_iload_n (pc2 := 1) 0 (n := 0) (x := i) rfl dJ3_checkIndex_8e157_0 rfl ?_
    refine x_if_lt (pc2 := 4) 9 dJ3_checkIndex_8e157_1 (by decide) rfl (fun c => absurd c h1) (fun _ => ?_)
    refine x_iload_n (pc2 := 5) 0 (n := 0) (x := i) rfl dJ3_checkIndex_8e157_4 rfl ?_
    refine x_iload_n (pc2 := 6) 1 (n := 1) (x := n) rfl dJ3_checkIndex_8e157_5 rfl ?_
    refine x_icmp_lt (pc2 := 9) 16 dJ3_checkIndex_8e157_6 (by decide) rfl (fun _ => ?_) (fun c => absurd h2 c)
    refine x_iload_n (pc2 := 17) 0 (n := 0) (x := i) rfl dJ3_checkIndex_8e157_16 rfl ?_
    exact x_ret (ty := .int) rfl rfl dJ3_checkIndex_8e157_17 ⟨rfl, rfl⟩
  cases o
  · exact cal_of rfl (Nat.le_of_ble_eq_true rfl) key
  · exact cal_of rfl (Nat.le_of_ble_eq_true rfl) key
theorem e_sci {i n : Int32} (hd1 : 1 ≤ d) (h1 : ¬ i < 0) (h2 : i < n) : Cal G d mJ0_checkIndex_df160 [.int i, .int n] h (fun r h2 => r = none ∧ h2 = h) := by
  refine cal_of rfl (Nat.le_of_ble_eq_true rfl) ?_
  show Ex G d mJ0_checkIndex_df160 0 [(0, .int i), (1, .int n)] [] h _
  refine x_iload_n (pc2 := 1) 0 (n := 0) (x := i) rfl dJ0_checkIndex_df160_0 rfl ?_
  refine x_iload_n (pc2 := 2) 1 (n := 1) (x := n) rfl dJ0_checkIndex_df160_1 rfl ?_
  have go : ∀ o, Ex G d mJ0_checkIndex_df160 5 [(0, .int i), (1, .int n)] [va_rf o, .int n, .int i] h (fun r h2 => r = none ∧ h2 = h) := by
    intro o
    refine x_callS (pc2 := 8) (As := [.int i, .int n, va_rf o]) (rest := []) ms_J3_checkIndex_8e157 ml_J0_1059 rfl rfl (Nat.le_of_ble_eq_true rfl) hd1 dJ0_checkIndex_df160_5 rfl ((e_pre h1 h2).mono (fun r h' _ q => ?_))
    obtain ⟨rfl, rfl⟩ := q
    show Ex G d mJ0_checkIndex_df160 8 [(0, .int i), (1, .int n)] [.int i] _ _
    refine x_pop (pc2 := 9) rfl dJ0_checkIndex_df160_8 rfl ?_
    exact x_retV rfl dJ0_checkIndex_df160_9 ⟨rfl, rfl⟩
  exact x_sfmt (pc2 := 5) rfl dJ0_checkIndex_df160_2 rfl go (fun _ _ _ _ _ => trivial) none go ⟨rfl, rfl⟩
theorem wd_ok : ∀ k, k < 114 → (((wdAt k &&& 255).toUInt32 % 65536).toInt32 = wdAt k) ∧ narrow .char (.int (wdAt k)) = .int (wdAt k) := by decide +kernel
theorem e_l1 {i : Int32} (hd1 : 2 ≤ d) (hin : vp_in i 114) : Cal G d mJ1_charAt_3b067 [.ref (G.2.1 2), .int i] h (fun r h2 => r = some (.int (wdAt i.toNatClampNeg)) ∧ h2 = h) := by
  obtain ⟨b1, b2⟩ := in_lt hin
  have hlt : i < 114 := by
    rw [Int32.lt_iff_toInt_lt, toInt_clamp b1]
    show (i.toNatClampNeg : Int) < 114
    omega
  refine cal_of rfl (Nat.le_of_ble_eq_true rfl) ?_
  show Ex G d mJ1_charAt_3b067 0 [(0, .ref (G.2.1 2)), (1, .int i)] [] h _
  refine x_iload_n (pc2 := 1) 1 (n := 1) (x := i) rfl dJ1_charAt_3b067_0 rfl ?_
  refine x_aload_n (pc2 := 2) 0 (n := 0) (x := G.2.1 2) rfl dJ1_charAt_3b067_1 rfl ?_
  refine x_slen (pc2 := 3) dJ1_charAt_3b067_2 rfl ?_
  refine x_callS (pc2 := 6) (As := [.int i, .int 114]) (rest := []) ms_J0_checkIndex_df160 ml_J1_9 rfl rfl (Nat.le_of_ble_eq_true rfl) (by omega) dJ1_charAt_3b067_3 rfl ((e_sci (by omega) b1 hlt).mono (fun r h' _ q => ?_))
  obtain ⟨rfl, rfl⟩ := q
  show Ex G d mJ1_charAt_3b067 6 [(0, .ref (G.2.1 2)), (1, .int i)] [] _ _
  refine x_aload_n (pc2 := 7) 0 (n := 0) (x := G.2.1 2) rfl dJ1_charAt_3b067_6 rfl ?_
  refine x_iload_n (pc2 := 8) 1 (n := 1) (x := i) rfl dJ1_charAt_3b067_7 rfl ?_
  refine x_sbyte (pc2 := 9) hin dJ1_charAt_3b067_8 rfl ?_
  refine x_sipush (pc2 := 12) (v := 255) (by decide) dJ1_charAt_3b067_9 rfl ?_
  refine x_iand (pc2 := 13) dJ1_charAt_3b067_12 rfl ?_
  refine x_i2c (pc2 := 14) dJ1_charAt_3b067_13 rfl ?_
  obtain ⟨w1, w2⟩ := wd_ok i.toNatClampNeg b2
  rw [w1]
  exact x_ret (ty := .char) rfl w2 dJ1_charAt_3b067_14 ⟨rfl, rfl⟩
theorem e_slen (hd1 : 1 ≤ d) : Cal G d mJ0_length_8abf5 [.ref (G.2.1 1)] h (fun r h2 => r = some (.int 114) ∧ h2 = h) := by
  refine cal_of rfl (Nat.le_of_ble_eq_true rfl) ?_
  show Ex G d mJ0_length_8abf5 0 [(0, .ref (G.2.1 1))] [] h _
  refine x_aload_n (pc2 := 1) 0 (n := 0) (x := G.2.1 1) rfl dJ0_length_8abf5_0 rfl ?_
  refine x_sval (pc2 := 4) rfl dJ0_length_8abf5_1 rfl ?_
  refine x_slen (pc2 := 5) dJ0_length_8abf5_4 rfl ?_
  refine x_aload_n (pc2 := 6) 0 (n := 0) (x := G.2.1 1) rfl dJ0_length_8abf5_5 rfl ?_
  refine x_callT (pc2 := 9) (As := []) (rest := [.int 114]) mt_coder ml_J0_335 rfl rfl (Nat.le_of_ble_eq_true rfl) hd1 dJ0_length_8abf5_6 rfl (e_coder.mono (fun r h' _ q => ?_))
  obtain ⟨rfl, rfl⟩ := q
  show Ex G d mJ0_length_8abf5 9 [(0, .ref (G.2.1 1))] [.int 0, .int 114] _ _
  refine x_ishr (pc2 := 10) dJ0_length_8abf5_9 rfl ?_
  exact x_ret (ty := .int) rfl rfl dJ0_length_8abf5_10 ⟨by decide, rfl⟩
theorem e_sat {i : Int32} (hd1 : 3 ≤ d) (hin : vp_in i 114) : Cal G d mJ0_charAt_5068e [.ref (G.2.1 1), .int i] h (fun r h2 => r = some (.int (wdAt i.toNatClampNeg)) ∧ h2 = h) := by
  refine cal_of rfl (Nat.le_of_ble_eq_true rfl) ?_
  show Ex G d mJ0_charAt_5068e 0 [(0, .ref (G.2.1 1)), (1, .int i)] [] h _
  refine x_aload_n (pc2 := 1) 0 (n := 0) (x := G.2.1 1) rfl dJ0_charAt_5068e_0 rfl ?_
  refine x_callT (pc2 := 4) (As := []) (rest := []) mt_latin ml_J0_492 rfl rfl (Nat.le_of_ble_eq_true rfl) (by omega) dJ0_charAt_5068e_1 rfl (e_latin.mono (fun r h' _ q => ?_))
  obtain ⟨rfl, rfl⟩ := q
  show Ex G d mJ0_charAt_5068e 4 [(0, .ref (G.2.1 1)), (1, .int i)] [.int 1] _ _
  refine x_if_eq (pc2 := 7) 16 dJ0_charAt_5068e_4 (by decide) rfl (fun c => absurd c (by decide)) (fun _ => ?_)
  refine x_aload_n (pc2 := 8) 0 (n := 0) (x := G.2.1 1) rfl dJ0_charAt_5068e_7 rfl ?_
  refine x_sval (pc2 := 11) rfl dJ0_charAt_5068e_8 rfl ?_
  refine x_iload_n (pc2 := 12) 1 (n := 1) (x := i) rfl dJ0_charAt_5068e_11 rfl ?_
  refine x_callS (pc2 := 15) (As := [.ref (G.2.1 2), .int i]) (rest := []) ms_J1_charAt_3b067 ml_J0_495 rfl rfl (Nat.le_of_ble_eq_true rfl) (by omega) dJ0_charAt_5068e_12 rfl ((e_l1 (by omega) hin).mono (fun r h' _ q => ?_))
  obtain ⟨rfl, rfl⟩ := q
  show Ex G d mJ0_charAt_5068e 15 [(0, .ref (G.2.1 1)), (1, .int i)] [.int (wdAt i.toNatClampNeg)] _ _
  exact x_ret (ty := .char) rfl (wd_ok _ (in_lt hin).2).2 dJ0_charAt_5068e_15 ⟨rfl, rfl⟩
theorem x_strLen (hd2 : 6 ≤ d) (hm : M.1.cls = RX8) (hcat : (st.map fun v => v.category).sum ≤ 8) (hd : decode M.2.1 pc = .ok (.invokevirtual 66, 3)) (hp : pc + 3 = pc2) (kx : Ex G d M pc2 lv (.int 114 :: st) h Q) : Ex G d M pc lv (.ref (G.2.1 1) :: st) h Q := by
  refine x_callT (pc2 := pc2) (As := []) (rest := st) mt_length (by rw [hm]; exact ml_X8_66) rfl rfl hcat (by omega) hd hp ((e_slen (by omega)).mono (fun r h' _ q => ?_))
  obtain ⟨rfl, rfl⟩ := q
  exact kx
theorem x_strAt {i : Int32} (hd2 : 6 ≤ d) (hm : M.1.cls = RX8) (hcat : (st.map fun v => v.category).sum ≤ 8) (hin : vp_in i 114) (hd : decode M.2.1 pc = .ok (.invokevirtual 71, 3)) (hp : pc + 3 = pc2) (kx : Ex G d M pc2 lv (.int (wdAt i.toNatClampNeg) :: st) h Q) : Ex G d M pc lv (.int i :: .ref (G.2.1 1) :: st) h Q := by
  refine x_callT (pc2 := pc2) (As := [.int i]) (rest := st) mt_charAt (by rw [hm]; exact ml_X8_71) rfl rfl hcat (by omega) hd hp ((e_sat (by omega) hin).mono (fun r h' _ q => ?_))
  obtain ⟨rfl, rfl⟩ := q
  exact kx
end XT
