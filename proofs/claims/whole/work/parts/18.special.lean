/-! ===== arraycopy, the constant text ===== -/
def cpI (h : HP) (a0 sp a dp n : Nat) : HP := (fun b j => if b = a ∧ dp ≤ j ∧ j < dp + n then h.1 a0 (sp + (j - dp)) else h.1 b j, h.2)
theorem hI_cp (h : HP) (a0 sp a dp n b j : Nat) : hI (cpI h a0 sp a dp n) b j = if b = a ∧ dp ≤ j ∧ j < dp + n then hI h a0 (sp + (j - dp)) else hI h b j := rfl
theorem hL_cp (h : HP) (a0 sp a dp n b j : Nat) : hL (cpI h a0 sp a dp n) b j = hL h b j := rfl
theorem hR_cp (h : HP) (a0 sp a dp n b j : Nat) : hR (cpI h a0 sp a dp n) b j = hR h b j := rfl
theorem hK_cp (h : HP) (a0 sp a dp n b : Nat) : hK (cpI h a0 sp a dp n) b = hK h b := rfl
theorem hN_cp (h : HP) (a0 sp a dp n b : Nat) : hN (cpI h a0 sp a dp n) b = hN h b := rfl
theorem hZ_cp (h : HP) (a0 sp a dp n : Nat) : hZ (cpI h a0 sp a dp n) = hZ h := rfl
theorem hU_cp (h : HP) (a0 sp a dp n : Nat) : hU (cpI h a0 sp a dp n) = hU h := rfl
theorem kp_cp (h : HP) (a0 sp a dp n : Nat) : KP h (cpI h a0 sp a dp n) := ⟨Nat.le_refl _, Nat.le_refl _, fun _ _ => ⟨rfl, rfl⟩⟩
theorem bs_X10_92 : Cond.fieldLink RX10 92 "RoundAnothers$Ways" "BESIDE" "[I" ∈ tb := tb_c5 229 rfl rfl
theorem ml_X6_55 : Cond.methodLink RX6 55 arraycopyName ∈ tb := tb_c4 13 rfl rfl
theorem ml_J7_150 : Cond.methodLink RJ7 150 arraycopyName ∈ tb := tb_c4 101 rfl rfl
theorem tb_acs : Cond.static arraycopyName ∈ tb := tb_c4 14 rfl rfl
theorem tb_acn : Cond.native arraycopyName ∈ tb := tb_c4 15 rfl rfl
theorem tb_aci : Cond.initialized "java/lang/System" ∈ tb := tb_c1 18 rfl rfl
section XS
variable {G : GG} {d : Nat} {M : MM} {pc pc2 : Nat} {lv lv2 : List (Nat × Value)} {st : List Value} {h : HP} {Q : Option Value → HP → Prop}
theorem nm_C {a0 sp a dp n : Nat} (kx : ∀ h1, h1 = cpI h a0 sp a dp n → KP h h1 → Ex G d M pc lv st h1 Q) : Ex G d M pc lv st (cpI h a0 sp a dp n) Q := kx _ rfl (kp_cp _ _ _ _ _ _)
theorem toInt_clamp {z : Int32} (hz : ¬ z < 0) : z.toInt = (z.toNatClampNeg : Int) := by
  have hz0 : (0 : Int) ≤ z.toInt := by
    have := Int32.not_lt.mp hz
    simpa using Int32.le_iff_toInt_le.mp this
  show z.toInt = ((z.toInt.toNat : Nat) : Int)
  omega
set_option maxHeartbeats 1000000 in
theorem x_copy {a0 a i : Nat} {sp dp n : Int32} (k0 : Kd G h a0 14) (k1 : Kd G h a 14) (hb : ¬ sp < 0 ∧ ¬ dp < 0 ∧ ¬ n < 0 ∧ sp.toNatClampNeg + n.toNatClampNeg ≤ hN h a0 ∧ dp.toNatClampNeg + n.toNatClampNeg ≤ hN h a) (hw : Cond.methodLink M.1.cls i arraycopyName ∈ tb) (hd1 : 1 ≤ d) (hcat : (st.map fun v => v.category).sum ≤ 8)
    (hd : decode M.2.1 pc = .ok (.invokestatic i, 3)) (hp : pc + 3 = pc2) (kx : Ex G d M pc2 lv st (cpI h a0 sp.toNatClampNeg a dp.toNatClampNeg n.toNatClampNeg) Q) : Ex G d M pc lv (.int n :: .int dp :: .ref a :: .int sp :: .ref a0 :: st) h Q := by
  subst hp
  obtain ⟨r, h2, q1, qk, q4⟩ := kx
  refine ⟨r, h2, q1, (kp_cp _ _ _ _ _ _).tr qk, ?_⟩
  intro p l e R s m args below meth c dC dI dA QF z u hA hd1' hd2 hz hu hc hs hr H locs ls hC hl
  obtain ⟨hx, hbc, hml, -, hown, hts, -, -, hKX, -⟩ := id hA
  obtain ⟨b1, b2, b3, b4, b5⟩ := hb
  obtain ⟨cs, s1, s2, s3, s4, s5, s6⟩ := arr_of hKX hC k0 (by decide)
  obtain ⟨cd, t1, t2, t3, t4, t5, t6⟩ := arr_of hKX hC k1 (by decide)
  intro T hT X
  obtain ⟨-, ks, hks, cms, hkks⟩ := id s2
  obtain ⟨-, kd, hkd, cmd, hkkd⟩ := id t2
  obtain ⟨vm', X', step⟩ := X.arraycopy hx hown (hts _ hw) (hts _ tb_acn) (hts _ tb_acs) (hts _ tb_aci) (src := a0) (dst := a) (cs := cs) (cd := cd) (srcPos := sp) (destPos := dp) (n := n) (by rw [hT]; exact s1) (by rw [hT]; exact t1)
    (fun _ q => by rw [s6] at q; cases q) (fun _ q => by rw [t6] at q; cases q) s3 t3 hks hkd hkks hkkd (by rfl) b1 b2 b3
    (by rw [toInt_clamp b1, toInt_clamp b3, s4]; omega) (by rw [toInt_clamp b2, toInt_clamp b3, t4]; omega)
    (fun vm₁ _ j hj => by
      have ee : cs.slots.getD (sp.toNatClampNeg + j) .null = .int (hI h a0 (sp.toNatClampNeg + j)) := by
        rw [Array.getD_eq_getD_getElem?, s5 _ (by omega)]; rfl
      rw [ee]
      exact ⟨rfl, trivial⟩)
    (g := F0 m pc ls (.int n :: .int dp :: .ref a :: .int sp :: .ref a0 :: st)) rfl (hl.1.trans hml.symm) (rest := st) rfl (by rw [hbc]; exact hd) (by omega) (by
      have hnf : nativeFrameWords "java/lang/System" "arraycopy" 5 + 11 ≤ 50 := by decide
      show 2 * 0 + _ + _ ≤ _; omega)
  have ec : copied cs cd sp dp n = arrV (dA 14) (hN h a) (fun j => Value.int (va_cpy (fun k => hI h a0 k) (fun k => hI h a k) sp.toNatClampNeg dp.toNatClampNeg n.toNatClampNeg j)) := by
    rw [s6, t6]
    exact va_copied (fun z => .int z) (dA 14) (dA 14) (fun k => hI h a0 k) (fun k => hI h a k) b4
  rw [ec] at X' step
  have hla : a < H.size := (Array.getElem?_eq_some_iff.mp t1).1
  have hC1 : CU G dC dI dA s (cpI h a0 sp.toNatClampNeg a dp.toNatClampNeg n.toNatClampNeg) (H.setIfInBounds a (arrV (dA 14) (hN h a) (fun j => Value.int (va_cpy (fun k => hI h a0 k) (fun k => hI h a k) sp.toNatClampNeg dp.toNatClampNeg n.toNatClampNeg j)))) (locs ++ (cs.stretch sp.toNatClampNeg n.toNatClampNeg).zipIdx.map fun q => ⟨a, dp.toNatClampNeg + q.2⟩) := by
    have oq : ∀ q : Nat, q ≠ a → (H.setIfInBounds a (arrV (dA 14) (hN h a) (fun j => Value.int (va_cpy (fun k => hI h a0 k) (fun k => hI h a k) sp.toNatClampNeg dp.toNatClampNeg n.toNatClampNeg j))))[q]? = H[q]? := fun q hq => by simp [Array.getElem?_setIfInBounds, Ne.symm hq]
    refine ⟨by rw [Array.size_setIfInBounds]; exact hC.1, fun b g1 g2 => ?_, ?_⟩
    · rw [hZ_cp] at g2
      by_cases hb : b = a
      · subst hb
        refine Or.inr ⟨by rw [hK_cp, k1.1]; decide, by rw [hK_cp, k1.1]; decide, by rw [hN_cp]; exact (cu_arr hC k1 (by decide)).2.1, ?_⟩
        rw [hK_cp, k1.1, hN_cp]
        simp only [Array.getElem?_setIfInBounds, hla, if_true]
        congr 2
        funext j
        show _ = Value.int _
        rw [hI_cp]
        unfold va_cpy
        by_cases hj : dp.toNatClampNeg ≤ j ∧ j < dp.toNatClampNeg + n.toNatClampNeg
        · rw [if_pos hj, if_pos ⟨rfl, hj⟩]
        · rw [if_neg hj, if_neg (fun q => hj q.2)]
      · exact (hC.2.1 b g1 g2).kept (oq b hb) (fun k => by rw [hI_cp, if_neg (fun q => hb q.1)]) (fun _ => rfl) (fun _ => rfl) rfl rfl
    · have hS := hC.2.2
      refine ⟨by rw [Array.size_setIfInBounds]; exact hS.1, fun q g1 g2 => ?_, fun q hq => ?_⟩
      · rw [oq q (fun e => g2 (by rw [e]; exact k1.2.1))]
        exact hS.2.1 q g1 g2
      · rcases List.mem_append.mp hq with g | g
        · exact hS.2.2 q g
        · obtain ⟨y, -, hy⟩ := List.mem_map.mp g
          rw [← hy]
          exact k1.2.1
  have w := q4 p l e R s m args below meth c dC dI dA QF z u hA hd1' hd2 hz hu hc hs hr _ _ ls hC1 hl
  obtain ⟨t, a1, c1⟩ := w _ (by rw [← hT]; rfl) X'
  exact ⟨t, step t a1, c1⟩
/-- the bytes of the text -/
def wdAt (k : Nat) : Int32 := wdBy.getD k 0
theorem x_ldcS (hd : decode M.2.1 pc = .ok (.ldc 64, 2)) (hm : M.1.cls = RX8) (hp : pc + 2 = pc2) (kx : Ex G d M pc2 lv (.ref (G.2.1 1) :: st) h Q) : Ex G d M pc lv st h Q := by
  subst hp
  refine ex_step (fun p l e R s m args below meth c dC dI dA QF cells slots H locs ls hA hC hl kk => ?_) kx
  have hX := hA.2.2.2.2.2.2.2.2.2.2.2.2.1
  exact va_ldcS hA.1 hA.2.1 (own := "RoundAnothers$Tape") (by have := hA.2.2.2.2.1; rw [hm] at this; exact this) hX hd (kk ls hl)
theorem x_strLen (hd2 : 6 ≤ d) (hm : M.1.cls = RX8) (hd : decode M.2.1 pc = .ok (.invokevirtual 66, 3)) (hp : pc + 3 = pc2) (kx : Ex G d M pc2 lv (.int 114 :: st) h Q) : Ex G d M pc lv (.ref (G.2.1 1) :: st) h Q := by
  sorry
theorem x_strAt {i : Int32} (hd2 : 6 ≤ d) (hm : M.1.cls = RX8) (hin : vp_in i 114) (hd : decode M.2.1 pc = .ok (.invokevirtual 71, 3)) (hp : pc + 3 = pc2) (kx : Ex G d M pc2 lv (.int (wdAt i.toNatClampNeg) :: st) h Q) : Ex G d M pc lv (.int i :: .ref (G.2.1 1) :: st) h Q := by
  sorry
end XS
