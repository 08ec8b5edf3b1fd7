/-! Arrays.copyOf of an int array -/
def cloneI : MethodName := ⟨"[I", "clone", "()Ljava/lang/Object;"⟩
def cloneO : MethodName := ⟨"java/lang/Object", "clone", "()Ljava/lang/Object;"⟩
theorem ml_J7_316 : Cond.methodLink RJ7 316 cloneI ∈ tb := tb_c4 91 rfl rfl
theorem tb_cl1 : Cond.sameMethod "[I" "java/lang/Object" "clone" "()Ljava/lang/Object;" ∈ tb := tb_c4 92 rfl rfl
theorem tb_cl2 : Cond.native cloneO ∈ tb := tb_c4 93 rfl rfl
theorem tb_cl3 : Cond.instanceMethod cloneO ∈ tb := tb_c4 94 rfl rfl
theorem tb_cl4 : Cond.selects "[I" cloneI cloneO ∈ tb := tb_c4 95 rfl rfl
theorem nw_cl5 : Cond.castable "[I" "java/lang/Cloneable" ∈ nestW := List.mem_filter.mpr ⟨List.mem_of_getElem? (i := 816) (by decide +kernel), rfl⟩
theorem cl_J7_317 : Cond.classLink RJ7 317 "[I" ∈ tb := tb_c4 97 rfl rfl
theorem arrV_congr (cI : ClassId) (N : Nat) {f g : Nat → Value} (hfg : ∀ j, j < N → f j = g j) : arrV cI N f = arrV cI N g := by
  unfold arrV
  congr 1
  apply Array.ext
  · simp
  · intro i h1 h2
    simp at h1
    simp [hfg i h1]
section XU
variable {G : GG} {d : Nat} {M M' : MM} {pc pc2 : Nat} {lv lv2 : List (Nat × Value)} {st st0 rest : List Value} {h : HP} {Q : Option Value → HP → Prop}
/-- a copy of the first n ints of an array, in a new one -/
def dupI (h : HP) (a n : Nat) : HP := cpI (nw h 14 n) a 0 (hZ h) 0 n
theorem kp_dup (h : HP) (a n : Nat) : KP h (dupI h a n) := (KP.nw h 14 n).tr (kp_cp _ _ _ _ _ _)
set_option maxHeartbeats 1000000 in
theorem x_clone {a : Nat} (k0 : Kd G h a 14) (hm : M.1.cls = RJ7) (hd1 : 1 ≤ d) (hcat : (st.map fun v => v.category).sum ≤ 8) (hd : decode M.2.1 pc = .ok (.invokevirtual 316, 3)) (hp : pc + 3 = pc2) (kx : Ex G d M pc2 lv (.ref (hZ h) :: st) (dupI h a (hN h a)) Q) : Ex G d M pc lv (.ref a :: st) h Q := by
  subst hp
  obtain ⟨r, h2, q1, qk, q4⟩ := kx
  have z1 := qk.1
  have z2 := qk.2.1
  have ez : hZ (dupI h a (hN h a)) = hZ h + 1 := rfl
  have eu : hU (dupI h a (hN h a)) = hU h + hN h a := rfl
  rw [ez] at z1
  rw [eu] at z2
  refine ⟨r, h2, q1, (kp_dup _ _ _).tr qk, ?_⟩
  intro p l e R s m args below meth c dC dI dA QF z u hA hd1' hd2 hz hu hc hs hr H locs ls hC hl
  obtain ⟨hx, hbc, hml, -, hown, hts, -, -, hKX, -⟩ := id hA
  obtain ⟨cell, s1, s2, s3, s4, s5, s6⟩ := arr_of hKX hC k0 (by decide)
  have hRA : s.vm.findClass "[I" = some (dA 14) := (hKX.2.1 14 (by decide) (by decide)).2
  obtain ⟨c0, t0', f1, f2, f3⟩ := Cond.castable_spec (va_Nw.use (A := args) rfl (hKX.2.2.1 _ nw_cl5))
  cases hRA.symm.trans f1
  intro T hT X
  have hcl0 : cell.cls = dA 14 := by rw [s6]; rfl
  have hvm0 : cell.vm = .none := by rw [s6]; rfl
  have hcellE : ({ cls := cell.cls, slots := cell.slots } : Cell) = cell := by rw [s6]; rfl
  obtain ⟨-, kA, hkA, comp, hkind⟩ := State.isArrayOf_alike X.warmed.alike ((hKX.2.1 14 (by decide) (by decide)).1 0 (fun _ => .null))
  obtain ⟨-, kS, hkS, compS, hkindS⟩ := (hKX.2.1 14 (by decide) (by decide)).1 0 (fun _ => .null)
  obtain ⟨vm', X', stp⟩ := X.cloneArray hx hown (hts _ (by rw [hm]; exact ml_J7_316)) (hts _ tb_cl1) (hts _ tb_cl2) (hts _ tb_cl3) (hts _ tb_cl4) (a := a) (cell := cell) (by rw [hT]; exact s1) (fun k q => by rw [hvm0] at q; cases q) (by rw [hvm0]; exact fun q => by cases q) (by rw [hcl0]; exact hRA) f2 (by rw [hcl0]; exact f3)
    (fun i v hv => by
      rw [hcl0]
      have hk' : T.vm.classes[dA 14]? = some kA := hkA
      have hi : i < hN h a := by rw [← s4]; exact (Array.getElem?_eq_some_iff.mp hv).1
      have hv' : v = .int (hI h a i) := by rw [s5 i hi] at hv; exact (Option.some.inj hv).symm
      simp [State.fitsSlot, State.slotType?, hk', hkind, hv', fits, aTy])
    (g := F0 m pc ls (.ref a :: st)) rfl (hl.1.trans hml.symm) rfl (by rw [hbc]; exact hd) (by omega) (by show 2 * 0 + _ + 14 ≤ _; omega) (by omega) (by rw [s4]; omega) (hloader := by rw [hcl0]; exact Vm.clonesLoader_of_array hkS hkindS)
  rw [hcellE, s4] at X'
  have hz0 : H.size = hZ h := hC.1
  have hC1 : CU G dC dI dA s (dupI h a (hN h a)) (H.push cell) locs := by
    refine ⟨by rw [Array.size_push, hz0]; rfl, fun b g1 g2 => ?_, ?_⟩
    · rw [ez] at g2
      by_cases hb : b = hZ h
      · subst hb
        have hKb : hK (dupI h a (hN h a)) (hZ h) = 14 := by show hK (nw h 14 _) (hZ h) = 14; rw [hK_nw, if_pos rfl]
        have hNb : hN (dupI h a (hN h a)) (hZ h) = hN h a := by show hN (nw h 14 _) (hZ h) = _; rw [hN_nw, if_pos rfl]
        refine Or.inr ⟨by rw [hKb]; decide, by rw [hKb]; decide, by rw [hNb]; exact (cu_arr hC k0 (by decide)).2.1, ?_⟩
        rw [hKb, hNb, ← hz0, Array.getElem?_push_size, s6]
        congr 1
        apply arrV_congr
        intro j hj
        show Value.int _ = Value.int _
        unfold dupI
        have hne : a ≠ hZ h := by have := k0.2.2; omega
        rw [hz0, hI_cp, if_pos ⟨rfl, Nat.zero_le _, by omega⟩, hI_nw, if_neg hne]
        simp
      · refine (hC.2.1 b g1 (by omega)).kept (by rw [Array.getElem?_push, if_neg (by omega)]) (fun k => ?_) (fun k => ?_) (fun k => ?_) ?_ ?_
        · show hI (cpI _ _ _ _ _ _) b k = _; rw [hI_cp, if_neg (fun q => hb q.1), hI_nw, if_neg hb]
        · show hL (nw _ _ _) b k = _; rw [hL_nw, if_neg hb]
        · show hR (nw _ _ _) b k = _; rw [hR_nw, if_neg hb]
        · show hK (nw _ _ _) b = _; rw [hK_nw, if_neg hb]
        · show hN (nw _ _ _) b = _; rw [hN_nw, if_neg hb]
    · have hS := hC.2.2
      exact ⟨by rw [Array.size_push]; exact Nat.le_succ_of_le hS.1, fun q g1 g2 => by rw [Array.getElem?_push, if_neg (by have := hS.1; omega)]; exact hS.2.1 q g1 g2, hS.2.2⟩
  have w := q4 p l e R s m args below meth c dC dI dA QF z u hA hd1' hd2 (by rw [ez]; omega) (by rw [eu]; omega) hc hs hr _ _ ls hC1 hl
  obtain ⟨t, a1, c1⟩ := W.cs (cells := hZ h - z + 1) (slots := hU h - u + hN h a) (by rw [ez]; omega) (by rw [eu]; omega) w ((T.setVm vm').pushCell cell) (by rw [← hT]; rfl) X'
  refine ⟨t, stp t ?_, c1⟩
  rw [hcellE, hT, hz0]
  exact a1
theorem x_castI {a : Nat} (k0 : Kd G h a 14) (hm : M.1.cls = RJ7) (hd : decode M.2.1 pc = .ok (.checkcast 317, 3)) (hp : pc + 3 = pc2) (kx : Ex G d M pc2 lv (.ref a :: st) h Q) : Ex G d M pc lv (.ref a :: st) h Q := by
  subst hp
  refine ex_step (fun p l e R s m args below meth c dC dI dA QF cells slots H locs ls hA hC hl kk => ?_) kx
  obtain ⟨hx, hbc, hml, -, hown, hts, -, -, hKX, -⟩ := id hA
  obtain ⟨cell, s1, s2, s3, s4, s5, s6⟩ := arr_of hKX hC k0 (by decide)
  have hRA : s.vm.findClass "[I" = some (dA 14) := (hKX.2.1 14 (by decide) (by decide)).2
  intro T hT X
  obtain ⟨vm', X', stp⟩ := X.checkcastYes hx hown (hts _ (by rw [hm]; exact cl_J7_317)) (by rw [hT]; exact s1) (by rw [s6]; rfl) hRA (by rw [s6]; exact va_asg _ _) (g := F0 m pc ls (.ref a :: st)) rfl rfl (by rw [hbc]; exact hd)
  obtain ⟨t, a1, b1⟩ := kk ls hl (T.setVm vm') hT X'
  exact ⟨t, stp t a1, b1⟩
theorem ofNat_clamp {n : Int32} (hn : ¬ n < 0) : Int32.ofNat n.toNatClampNeg = n := by
  apply Int32.toInt_inj.mp
  have h1 := toInt_clamp hn
  have h2 : n.toInt < 2 ^ 31 := Int32.toInt_lt n
  rw [Int32.toInt_ofNat_of_lt (by omega)]
  omega
set_option maxHeartbeats 1000000 in
theorem e_copyOf {a : Nat} {n : Int32} (hd1 : 2 ≤ d) (k0 : Kd G h a 14) (hn : ¬ n < 0) (hle : n.toNatClampNeg ≤ hN h a) (hmx : hN h a ≤ 1000000) (hQ : Q (some (.ref (hZ h))) (dupI h a n.toNatClampNeg)) : Cal G d mJ7_copyOf_59c91 [.ref a, .int n] h Q := by
  refine cal_of rfl (Nat.le_of_ble_eq_true rfl) ?_
  show Ex G d mJ7_copyOf_59c91 0 [(0, .ref a), (1, .int n)] [] h _
  have kz : Kd G (nw h 14 n.toNatClampNeg) (hZ h) 14 := ⟨by rw [hK_nw, if_pos rfl], by have := k0.2.1; have := k0.2.2; omega, by rw [hZ_nw]; omega⟩
  refine x_iload_n (pc2 := 1) 1 (n := 1) (x := n) rfl dJ7_copyOf_59c91_0 rfl ?_
  refine x_aload_n (pc2 := 2) 0 (n := 0) (x := a) rfl dJ7_copyOf_59c91_1 rfl ?_
  refine x_alen (pc2 := 3) (κ := 14) (by decide) k0 dJ7_copyOf_59c91_2 rfl ?_
  refine y_icmp_ne (pc2 := 6) 14 dJ7_copyOf_59c91_3 (by decide) rfl (fun c => ?_) (fun c => ?_)
  · refine x_iload_n (pc2 := 15) 1 (n := 1) (x := n) rfl dJ7_copyOf_59c91_14 rfl ?_
    refine x_newa (pc2 := 17) (κ := 14) (at0 := .int) ac_int rfl (by decide) (by decide) hn (by omega) dJ7_copyOf_59c91_15 rfl ?_
    refine x_astore_n (pc2 := 18) [1, 2, 0] (n := 2) (x := hZ h) (lv2 := [(0, .ref a), (1, .int n), (2, .ref (hZ h))]) (by decide) rfl dJ7_copyOf_59c91_17 rfl ?_
    refine x_aload_n (pc2 := 19) 0 (n := 0) (x := a) rfl dJ7_copyOf_59c91_18 rfl ?_
    refine x_iconst (pc2 := 20) (v := 0) (by decide) dJ7_copyOf_59c91_19 rfl ?_
    refine x_aload_n (pc2 := 21) 2 (n := 2) (x := hZ h) rfl dJ7_copyOf_59c91_20 rfl ?_
    refine x_iconst (pc2 := 22) (v := 0) (by decide) dJ7_copyOf_59c91_21 rfl ?_
    refine x_aload_n (pc2 := 23) 0 (n := 0) (x := a) rfl dJ7_copyOf_59c91_22 rfl ?_
    have k0' : Kd G (nw h 14 n.toNatClampNeg) a 14 := k0.up (KP.nw h 14 _)
    have eN : hN (nw h 14 n.toNatClampNeg) a = hN h a := k0.len (KP.nw h 14 _)
    refine x_alen (pc2 := 24) (κ := 14) (by decide) k0' dJ7_copyOf_59c91_23 rfl ?_
    refine x_iload_n (pc2 := 25) 1 (n := 1) (x := n) rfl dJ7_copyOf_59c91_24 rfl ?_
    refine x_mmin (pc2 := 28) ml_J7_304 (by omega) (Nat.le_of_ble_eq_true rfl) dJ7_copyOf_59c91_25 rfl ?_
    have em : mnI (Int32.ofNat (hN (nw h 14 n.toNatClampNeg) a)) n = n := by
      rw [eN]
      unfold mnI
      by_cases hlt : n < Int32.ofNat (hN h a)
      · rw [if_pos hlt]
      · rw [if_neg hlt]
        exfalso
        apply hlt
        rw [Int32.lt_iff_toInt_lt, Int32.toInt_ofNat_of_lt (by omega), toInt_clamp hn]
        have : n.toNatClampNeg ≠ hN h a := fun q => c (by rw [← q, ofNat_clamp hn])
        omega
    rw [em]
    refine x_copy (pc2 := 31) k0' kz ⟨by decide, by decide, hn, by rw [eN]; show 0 + _ ≤ _; omega, by rw [hN_nw, if_pos rfl]; show 0 + _ ≤ _; omega⟩ ml_J7_150 (by omega) (Nat.le_of_ble_eq_true rfl) dJ7_copyOf_59c91_28 rfl ?_
    refine x_aload_n (pc2 := 32) 2 (n := 2) (x := hZ h) rfl dJ7_copyOf_59c91_31 rfl ?_
    exact x_retR (v := some (hZ h)) rfl (isRt_a _) dJ7_copyOf_59c91_32 hQ
  · have en : n.toNatClampNeg = hN h a := by
      have h1 := toInt_clamp hn
      rw [c, Int32.toInt_ofNat_of_lt (by omega)] at h1
      have h2 : n.toNatClampNeg = (Int32.ofNat (hN h a)).toNatClampNeg := by rw [← c]
      omega
    rw [en] at hQ
    refine x_aload_n (pc2 := 7) 0 (n := 0) (x := a) rfl dJ7_copyOf_59c91_6 rfl ?_
    refine x_clone (pc2 := 10) k0 rfl (by omega) (Nat.le_of_ble_eq_true rfl) dJ7_copyOf_59c91_7 rfl ?_
    refine x_castI (pc2 := 13) (a := hZ h) ⟨by show hK (nw h 14 _) _ = 14; rw [hK_nw, if_pos rfl], by have := k0.2.1; have := k0.2.2; omega, by show hZ h < hZ h + 1; omega⟩ rfl dJ7_copyOf_59c91_10 rfl ?_
    exact x_retR (v := some (hZ h)) rfl (isRt_a _) dJ7_copyOf_59c91_13 hQ
end XU
