/-! ===== cells and what lies between ===== -/
theorem nD {k m : Nat} (hk : k < 2147483648) (hm : m < 2147483648) : nI k / nI m = nI (k / m) := by
  have h := Nat.div_le_self k m
  rw [ti_eq, Int32.toInt_div, ti_nI hk, ti_nI hm, ti_nI (by omega), ← Int.ofNat_tdiv]
  generalize k / m = z at h ⊢
  exact bm32 (by omega) (by omega)
theorem nR {k m : Nat} (hk : k < 2147483648) (hm : m < 2147483648) : irm (nI k) (nI m) = nI (k % m) := by
  unfold irm
  have h := Nat.div_mul_le_self k m
  rw [nD hk hm, nM, nS h]
  congr 1
  have := Nat.div_add_mod k m
  rw [Nat.mul_comm] at this
  omega
theorem and127 {k : Nat} (hk : k < 512) : nI k &&& 127 = nI (k % 128) := by
  show nI k &&& nI 127 = _
  rw [nAnd (by omega) (by omega)]
  congr 1
  exact Nat.and_two_pow_sub_one_eq_mod k 7
theorem andP {k : Nat} (i : Nat) : k &&& 2 ^ i = 0 ↔ k / 2 ^ i % 2 = 0 := by
  constructor
  · intro q
    have := congrArg (fun z => z.testBit i) q
    simp only [Nat.testBit_and, Nat.testBit_two_pow_self, Nat.zero_testBit, Bool.and_true] at this
    rw [Nat.testBit_eq_decide_div_mod_eq, decide_eq_false_iff_not] at this
    omega
  · intro q
    apply Nat.eq_of_testBit_eq
    intro j
    rw [Nat.testBit_and, Nat.zero_testBit]
    by_cases e : i = j
    · subst e
      rw [Nat.testBit_eq_decide_div_mod_eq, q]
      rfl
    · rw [Nat.testBit_two_pow_of_ne e, Bool.and_false]
theorem and128 {k : Nat} (hk : k < 512) : nI k &&& 128 = 0 ↔ k / 128 % 2 = 0 := by
  show nI k &&& nI 128 = nI 0 ↔ _
  have := @Nat.and_le_left k 128
  rw [nAnd (by omega) (by omega), nI_eq_iff (by omega) (by omega)]
  exact andP 7
theorem and256 {k : Nat} (hk : k < 512) : nI k &&& 256 = 0 ↔ k / 256 = 0 := by
  show nI k &&& nI 256 = nI 0 ↔ _
  have := @Nat.and_le_left k 256
  rw [nAnd (by omega) (by omega), nI_eq_iff (by omega) (by omega)]
  rw [show (256 : Nat) = 2 ^ 8 from rfl, andP 8]
  have e : (2 : Nat) ^ 8 = 256 := rfl
  rw [e]
  omega
def atB (A : Nat → Nat → Int32) (u v : Int32) (t : Nat) : Bool := wallB A t && hasB A t u v
def small (A : Nat → Nat → Int32) (i a : Nat) : Bool := decide (areaI A i < areaI A a)
section CL
variable {G : GG} {d : Nat} {h : HP} {s : Nat} {Q : Option Value → HP → Prop}
theorem s_innermostAt (hd : 1 ≤ d) (S : StSh G h s) {u v : Int32} (hQ : Q (some (.int (onI (selF (atB (tg h s) u v) (small (tg h s)) 0 30)))) h) : Cal G d mX6_innermostAt [.ref s, .int u, .int v] h Q := by
  refine e_X6_innermostAt ?_
  unfold T_X6_innermostAt
  refine loop_up (J := SelJ (atB (tg h s) u v)) (P := fun i a => Ex G d mX6_innermostAt 5 [(0, .ref s), (1, .int u), (2, .int v), (3, .int (onI a)), (4, .int (nI i))] [] h Q) (f := selS (atB (tg h s) u v) (small (tg h s))) (e := 30) (fun i a _ j => j.step) ?_ 30 0 none rfl (fun t q => by cases q) ?_
  · intro i a hi J p
    rw [← nI_S] at p
    have k9 := (S.2.2.2.2.2.2.1 i (by omega)).2
    refine t_X6_innermostAt_5 hd ⟨fun q => absurd q (n30_not hi), fun _ => th_at S (t := i) (ti_nI (by omega)) (by omega) ⟨fun w => ?_, fun w => th_in S (t := i) (ti_nI (by omega)) (by omega) (s_has k9 ⟨_, rfl, fun c => ?_, fun c => ?_⟩)⟩⟩
    · have e : atB (tg h s) u v i = false := by simp [atB, wallB, tg, w]
      cases a with
      | none => simpa [selS, e] using p
      | some u => simpa [selS, e] using p
    · rw [if10] at c
      have e : atB (tg h s) u v i = false := by simp [atB, c]
      cases a with
      | none => simpa [selS, e] using p
      | some u => simpa [selS, e] using p
    · rw [if10, Decidable.not_not] at c
      have e : atB (tg h s) u v i = true := by simp [atB, wallB, tg, w, c]
      refine ⟨fun c2 => ?_, fun c2 => ?_⟩
      · cases a with
        | none =>
          simp only [selS, e, if_true] at p
          exact p
        | some t => exact absurd c2 (nI_ne_neg (by have := (J t rfl).1; omega))
      · cases a with
        | none => exact absurd rfl c2
        | some t =>
          have ht := (J t rfl).1
          have k9' := (S.2.2.2.2.2.2.1 t (by omega)).2
          refine ⟨s + 3, S.2.1.2.2.1, S.2.2.2.2.1.1, th_in S (t := i) (ti_nI (by omega)) (by omega) (s_area k9 ⟨_, rfl, s + 3, S.2.1.2.2.1, S.2.2.2.2.1.1, th_in S (t := t) (ti_nI (by omega)) (by omega) (s_area k9' ⟨_, rfl, fun c3 => ?_, fun c3 => ?_⟩)⟩)⟩
          · simp only [selS, e, small, Bool.true_and] at p
            rw [if_neg (by simp only [decide_eq_true_eq]; rw [ti_le] at c3; rw [ti_lt]; omega)] at p
            exact p
          · simp only [selS, e, small, Bool.true_and] at p
            rw [if_pos (by simp only [decide_eq_true_eq]; rw [ti_le] at c3; rw [ti_lt]; omega)] at p
            exact p
  · intro _
    exact t_X6_innermostAt_5 hd ⟨fun _ => hQ, fun q => absurd (show (30 : Int32) ≤ nI 30 by decide) q⟩
end CL
section CR
variable {G : GG} {d : Nat} {h : HP} {y : Nat} {Q : Option Value → HP → Prop}
theorem r_cell87 (hd : 2 ≤ d) (hd' : 3 ≤ d) (M : MdSh G h y) (b : bin (sd h y)) {u v x3 x4 : Int32} (hQ : Q (some (.int (onI (selF (atB (sd h y) u v) (small (sd h y)) 0 30)))) h) : Ex G d mX12_cell 87 [(0, .ref y), (1, .int u), (2, .int v), (3, .int x3), (4, .int x4), (5, .int (-1)), (6, .int 0)] [] h Q := by
  refine loop_up (J := SelJ (atB (sd h y) u v)) (P := fun i a => Ex G d mX12_cell 87 [(0, .ref y), (1, .int u), (2, .int v), (3, .int x3), (4, .int x4), (5, .int (onI a)), (6, .int (nI i))] [] h Q) (f := selS (atB (sd h y) u v) (small (sd h y))) (e := 30) (fun i a _ j => j.step) ?_ 30 0 none rfl (fun t q => by cases q) ?_
  · intro i a hi J p
    rw [← nI_S] at p
    refine t_X12_cell_87 (by omega) ⟨fun q => absurd q (n30_not hi), fun _ => ⟨M.1, r_of (t := i) (k := 0) (by omega) M (ti_nI (by omega)) (by omega) rfl (by omega) ⟨_, rfl, fun w => ?_, fun w => r_hasCell (t := i) (by omega) M (ti_nI (by omega)) (by omega) ⟨_, rfl, fun c => ?_, fun c => ?_⟩⟩⟩⟩
    · have w' : wallB (sd h y) i = false := by
        cases c : wallB (sd h y) i
        · rfl
        · exact absurd ((b.w (by omega)).mpr c) w
      have e : atB (sd h y) u v i = false := by simp [atB, w']
      cases a with
      | none => simpa [selS, e] using p
      | some u => simpa [selS, e] using p
    · rw [if10] at c
      have e : atB (sd h y) u v i = false := by simp [atB, c]
      cases a with
      | none => simpa [selS, e] using p
      | some u => simpa [selS, e] using p
    · rw [if10, Decidable.not_not] at c
      have e : atB (sd h y) u v i = true := by simp [atB, (b.w (show i < 54 by omega)).mp w, c]
      refine ⟨fun c2 => ?_, fun c2 => ?_⟩
      · cases a with
        | none =>
          simp only [selS, e, if_true] at p
          exact p
        | some t =>
          have := (J t rfl).1
          simp only [onI] at c2
          rw [ti_lt, ti_nI (by omega), show (0 : Int32).toInt = 0 from rfl] at c2
          omega
      · cases a with
        | none => exact absurd (show onI none < 0 by decide) c2
        | some t =>
          have ht := (J t rfl).1
          refine r_cellsOf (t := i) (by omega) M (ti_nI (by omega)) (by omega) ⟨_, rfl, r_cellsOf (t := t) (by omega) M (ti_nI (by omega)) (by omega) ⟨_, rfl, fun c3 => ?_, fun c3 => ?_⟩⟩
          · simp only [selS, e, small, Bool.true_and] at p
            rw [if_neg (by simp only [decide_eq_true_eq]; rw [ti_le] at c3; rw [ti_lt]; omega)] at p
            exact p
          · simp only [selS, e, small, Bool.true_and] at p
            rw [if_pos (by simp only [decide_eq_true_eq]; rw [ti_le] at c3; rw [ti_lt]; omega)] at p
            exact p
  · intro _
    exact t_X12_cell_87 (by omega) ⟨fun _ => hQ, fun q => absurd (show (30 : Int32) ≤ nI 30 by decide) q⟩
theorem r_isInLand (hd : 1 ≤ d) (M : MdSh G h y) (hc : rng (said h y 0) 5 40) (hr : rng (said h y 1) 5 40) {u v : Int32} (hQ : Q (some (.int (if inB (said h y 0) (said h y 1) u v then 1 else 0))) h) : Cal G d mX12_isInLand [.ref y, .int u, .int v] h Q := by
  obtain ⟨m1, m2, m3⟩ := M.sd
  have e0 : ∀ x : Int32, rng x 5 40 → ((x - 1).toInt64).toInt = x.toInt - 1 := fun x hx => by
    unfold rng at hx
    rw [ti64]
    exact ti_sub (by show _ ≤ _ - (1 : Int); omega) (by show _ - (1 : Int) < _; omega)
  have y0 : (0 : Int64).toInt = 0 := by simp
  have z0 : (0 : Int32).toInt = 0 := rfl
  have key : inB (said h y 0) (said h y 1) u v = true ↔ ((0 ≤ u.toInt ∧ u.toInt < (said h y 0).toInt) ∧ 0 ≤ v.toInt ∧ v.toInt < (said h y 1).toInt) := by
    unfold inB
    rw [decide_eq_true_eq, ti_le, ti_lt, ti_le, ti_lt, z0]
    omega
  refine e_X12_isInLand hd ⟨M.1, y + 13, m1, m2, vin_nI (k := 0) (by omega) (by omega), r_in ⟨_, rfl, fun c => ?_, fun c => ⟨y + 13, m1, m2, vin_nI (k := 1) (by omega) (by omega), r_in ⟨_, rfl, fun c2 => ?_, fun c2 => ?_⟩⟩⟩⟩
  · have c := if10.mp c
    rw [ti64, y0, e0 (hI h (y + 13) 0) hc] at c
    rw [if_neg (fun q => c (by have := (key.mp q).1; unfold said at this; omega))] at hQ
    exact hQ
  · have c := if10.mp c2
    rw [ti64, y0, e0 (hI h (y + 13) 1) hr] at c
    rw [if_neg (fun q => c (by have := (key.mp q).2; unfold said at this; omega))] at hQ
    exact hQ
  · have c := Decidable.not_not.mp (fun z => c (if10.mpr z))
    have c2 := Decidable.not_not.mp (fun z => c2 (if10.mpr z))
    rw [ti64, y0, e0 (hI h (y + 13) 1) hr] at c2
    rw [ti64, y0, e0 (hI h (y + 13) 0) hc] at c
    rw [if_pos (key.mpr (by unfold said; omega))] at hQ
    exact hQ
end CR
theorem Bd.hB {G : GG} {h : HP} {y s : Nat} (B : Bd G h y s) {t : Nat} (ht : t < 30) (w : tS (said h y) t 0 = 1) (u v : Int32) : hasB (tg h s) t u v = hasB (tS (said h y)) t u v := by
  unfold hasB
  rw [B.th ht w (by omega) (by omega), B.th ht w (by omega) (by omega), B.th ht w (by omega) (by omega), B.th ht w (by omega) (by omega)]
theorem Bd.aB {G : GG} {h : HP} {y s : Nat} (B : Bd G h y s) {t : Nat} (ht : t < 30) (u v : Int32) : atB (tg h s) u v t = atB (tS (said h y)) u v t := by
  unfold atB
  rw [B.wB ht]
  cases c : wallB (tS (said h y)) t
  · rw [Bool.false_and, Bool.false_and]
  · rw [B.hB ht (B.wI ht c)]
theorem Bd.inmAt {G : GG} {h : HP} {y s : Nat} (B : Bd G h y s) (u v : Int32) : selF (atB (tg h s) u v) (small (tg h s)) 0 30 = selF (atB (tS (said h y)) u v) (small (tS (said h y))) 0 30 := by
  refine foldF_selC 30 0 none (fun t q => by cases q) (fun j h1 h2 => B.aB (by omega) u v) (fun j k h1 h2 w1 w2 => ?_)
  rw [B.aB (by omega)] at w1 w2
  unfold small
  rw [B.aI (by omega) (Bool.and_eq_true_iff.mp w1).1, B.aI (by omega) (Bool.and_eq_true_iff.mp w2).1]
theorem p_cell (G : GG) (u0 : Nat) (h : HP) (I : Inv G u0 h) (x1 x2 x3 : Int32) : Pr (Inv G u0) G G.1 (G.1 + 119) mX11_cell mX12_cell [.int x1, .int x2, .int x3] h := by
  obtain ⟨s, p, I⟩ := I
  unfold Pr Inv
  generalize G.1 = b at *
  generalize hy : b + 119 = y at *
  have B := I.bd
  have M := B.2.1
  have W := B.2.2.2
  have st := B.1
  have kb := I.1.2.1
  have n2 := I.2.1.2.1
  have ks := B.1.1
  obtain ⟨m1, m2, m3⟩ := M.sd
  have ok : ∀ v w : Int32, v = w → some (Value.int v) = some (Value.int w) ∧ ∃ s p, InvB G u0 h b y s p := fun v w e => ⟨by rw [e], s, p, I⟩
  have d0 := W.1.1.1
  have d1 := W.1.1.2.1
  have R : ∀ {Q : Option Value → HP → Prop}, (¬ inB (said h y 0) (said h y 1) x1 x2 = true → Q (some (.int (-2))) h) → (inB (said h y 0) (said h y 1) x1 x2 = true → Cal G 58 mX12_in [.long (x3.toInt64), .long 0, .long 3] h (fun r7 h8 => ∃ v10, r7 = some (.int v10) ∧ ((¬ v10 = 0 → ∃ q12, hR h8 y 29 = some q12 ∧ Kd G h8 q12 14 ∧ vp_in ((8 + (40 * x2)) + x1) (hN h8 q12) ∧ ((3 ≤ x3 → Ex G 59 mX12_cell 87 [(0, .ref y), (1, .int x1), (2, .int x2), (3, .int x3), (4, .int (hI h8 q12 ((8 + (40 * x2)) + x1).toNatClampNeg)), (5, .int (-1)), (6, .int 0)] [] h8 Q) ∧ (¬ 3 ≤ x3 → ((¬ x3 = 0 → ((¬ x3 = 1 → Q (some (.int ((hI h8 q12 ((8 + (40 * x2)) + x1).toNatClampNeg) / 256))) h8) ∧ (x3 = 1 → Q (some (.int (irm ((hI h8 q12 ((8 + (40 * x2)) + x1).toNatClampNeg) / 128) 2))) h8))) ∧ (x3 = 0 → Q (some (.int (irm (hI h8 q12 ((8 + (40 * x2)) + x1).toNatClampNeg) 128))) h8))))) ∧ (v10 = 0 → Q (some (.int (-2))) h8)))) → Cal G 59 mX12_cell [.ref y, .int x1, .int x2, .int x3] h Q := by
    intro Q q0 q1
    refine e_X12_cell (by omega) ⟨M.1, r_isInLand (by omega) M d0 d1 ⟨_, rfl, fun c => q0 (if10.mp c), fun c => q1 (Decidable.not_not.mp (fun z => c (if10.mpr z)))⟩⟩
  refine e_X11_cell (by omega) ⟨kb, s, n2, ks, s_hasCell ks ⟨_, rfl, fun c => ?_, fun c => ?_⟩⟩
  rotate_left
  · have c := if10.mp c
    rw [B.2.2.1.1 0 (by omega), B.2.2.1.1 1 (by omega)] at c
    exact ⟨_, rfl, R (fun _ => ok _ _ rfl) (fun q => absurd q c)⟩
  · have c := Decidable.not_not.mp (fun z => c (if10.mpr z))
    rw [B.2.2.1.1 0 (by omega), B.2.2.1.1 1 (by omega)] at c
    have cc := c
    have z0 : (0 : Int32).toInt = 0 := rfl
    unfold inB at cc
    rw [decide_eq_true_eq, ti_le, ti_lt, ti_le, ti_lt, z0] at cc
    unfold rng at d0 d1
    obtain ⟨i, hi, rfl⟩ := of_in (n := 40) cc.1 (by omega)
    obtain ⟨j, hj, rfl⟩ := of_in (n := 40) cc.2.2.1 (by omega)
    have e1 : nI j * 40 + nI i = nI (40 * j + i) := by
      show nI j * nI 40 + nI i = _
      rw [nM, nA, Nat.mul_comm]
    have e2 : 8 + 40 * nI j + nI i = nI (8 + (40 * j + i)) := by
      show nI 8 + nI 40 * nI j + nI i = _
      rw [nM, nA, nA, Nat.add_assoc]
    have hc : 40 * j + i < 1600 := by omega
    have ec : hI h (s + 1) (40 * j + i) = said h y (8 + (40 * j + i)) := B.2.2.1.2.1 _ hc
    obtain ⟨k, hk, ek⟩ : ∃ k, k < 512 ∧ said h y (8 + (40 * j + i)) = nI k := by
      have q := W.1.2.1 _ hc
      unfold rng at q
      exact of_in q.1 (by omega)
    have y0 : (0 : Int64).toInt = 0 := by simp
    have y3 : (3 : Int64).toInt = 3 := by simp
    have z3 : (3 : Int32).toInt = 3 := rfl
    refine ⟨s, n2, ks, s + 1, st.2.1.1, st.2.2.1.1, by rw [e1, st.2.2.1.2]; exact vin_nI hc (by omega), ?_⟩
    have vr : vp_in (8 + 40 * nI j + nI i) (hN h (y + 13)) := by
      rw [e2, m3]; exact vin_nI (by omega) (by omega)
    have R2 : ∀ {Q : Option Value → HP → Prop} {n : Nat}, x3 = nI n → n ≤ 3 → (n = 3 → Ex G 59 mX12_cell 87 [(0, .ref y), (1, .int (nI i)), (2, .int (nI j)), (3, .int x3), (4, .int (nI k)), (5, .int (-1)), (6, .int 0)] [] h Q) → (n = 0 → Q (some (.int (nI (k % 128)))) h) → (n = 1 → Q (some (.int (nI (k / 128 % 2)))) h) → (n = 2 → Q (some (.int (nI (k / 256)))) h) → Cal G 59 mX12_cell [.ref y, .int (nI i), .int (nI j), .int x3] h Q := by
      intro Q n en hn q3 q0 q1 q2
      have et : x3.toInt = n := by rw [en, ti_nI (by omega)]
      refine R (fun q => absurd c q) (fun _ => r_in ⟨_, rfl, fun _ => ⟨y + 13, m1, m2, vr, fun c3 => ?_, fun c3 => ⟨fun c4 => ⟨fun c5 => ?_, fun c5 => ?_⟩, fun c4 => ?_⟩⟩, fun q => ?_⟩)
      · rw [e2, cl_nI (by omega), show hI h (y + 13) (8 + (40 * j + i)) = nI k from ek]
        rw [ti_le, z3, et] at c3
        exact q3 (by omega)
      · rw [e2, cl_nI (by omega), show hI h (y + 13) (8 + (40 * j + i)) = nI k from ek, show nI k / 256 = nI (k / 256) from nD (m := 256) (by omega) (by omega)]
        refine q2 ?_
        rw [ti_le, z3, et] at c3
        have : n ≠ 0 := fun q => c4 (by rw [en, q]; rfl)
        have : n ≠ 1 := fun q => c5 (by rw [en, q]; rfl)
        omega
      · rw [e2, cl_nI (by omega), show hI h (y + 13) (8 + (40 * j + i)) = nI k from ek, show nI k / 128 = nI (k / 128) from nD (m := 128) (by omega) (by omega), show irm (nI (k / 128)) 2 = nI (k / 128 % 2) from nR (m := 2) (by omega) (by omega)]
        rw [c5] at et
        exact q1 (by have : (1 : Int32).toInt = 1 := rfl; omega)
      · rw [e2, cl_nI (by omega), show hI h (y + 13) (8 + (40 * j + i)) = nI k from ek, show irm (nI k) 128 = nI (k % 128) from nR (m := 128) (by omega) (by omega)]
        rw [c4] at et
        exact q0 (by omega)
      · have q := if10.mp q
        rw [ti64, y0, y3, et] at q
        omega
    rw [e1, cl_nI (by omega), ec, ek]
    refine ⟨fun c0 => ⟨_, rfl, R2 (n := 0) c0 (by omega) (fun q => by omega) (fun _ => ok _ _ (and127 hk).symm) (fun q => by omega) (fun q => by omega)⟩, fun c0 => ⟨fun c1 => ⟨fun w => ⟨_, rfl, R2 (n := 1) c1 (by omega) (fun q => by omega) (fun q => by omega) (fun _ => ok _ _ (by rw [(and128 hk).mp w]; rfl)) (fun q => by omega)⟩, fun w => ⟨_, rfl, R2 (n := 1) c1 (by omega) (fun q => by omega) (fun q => by omega) (fun _ => ok _ _ (by rw [and128 hk] at w; rw [show k / 128 % 2 = 1 by omega]; rfl)) (fun q => by omega)⟩⟩, fun c1 => ⟨fun c2 => ⟨fun w => ⟨_, rfl, R2 (n := 2) c2 (by omega) (fun q => by omega) (fun q => by omega) (fun q => by omega) (fun _ => ok _ _ (by rw [(and256 hk).mp w]; rfl))⟩, fun w => ⟨_, rfl, R2 (n := 2) c2 (by omega) (fun q => by omega) (fun q => by omega) (fun q => by omega) (fun _ => ok _ _ (by rw [and256 hk] at w; rw [show k / 256 = 1 by omega]; rfl))⟩⟩, fun c2 => ⟨fun c3 => s_innermostAt (by omega) st ⟨_, rfl, _, rfl, R2 (n := 3) c3 (by omega) (fun _ => r_cell87 (by omega) (by omega) M W.2.2.1 (ok _ _ (by rw [B.inmAt]; rfl))) (fun q => by omega) (fun q => by omega) (fun q => by omega)⟩, fun c3 => ⟨_, rfl, R (fun q => absurd c q) (fun _ => r_in ⟨_, rfl, fun q => ?_, fun _ => ok _ _ rfl⟩)⟩⟩⟩⟩⟩
    have q := Decidable.not_not.mp (fun z => q (if10.mpr z))
    rw [ti64, y0, y3] at q
    obtain ⟨n, hn, rfl⟩ := of_in (n := 4) q.1 (by omega)
    have : n = 0 ∨ n = 1 ∨ n = 2 ∨ n = 3 := by omega
    rcases this with rfl | rfl | rfl | rfl
    · exact absurd rfl c0
    · exact absurd rfl c1
    · exact absurd rfl c2
    · exact absurd rfl c3
