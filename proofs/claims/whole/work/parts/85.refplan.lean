/-! ===== the reference: whether a wall can come ===== -/
def jI (z : Int) : Int64 := Int64.ofInt z
theorem jI_add (a b : Int) : jI (a + b) = jI a + jI b := Int64.ofInt_add a b
theorem jI_of {x : Int64} {z : Int} (h : x.toInt = z) : x = jI z := by
  unfold jI
  rw [← h, Int64.ofInt_toInt]
theorem jI_32 (x : Int32) : x.toInt64 = jI x.toInt := jI_of (ti64 x)
theorem sum1_sh (g : Nat → Int) : ∀ n, sum1 g (n + 1) = g 0 + sum1 (fun k => g (k + 1)) n
  | 0 => by simp [sum1]
  | n + 1 => by
    rw [sum1, sum1_sh g n]
    simp only [sum1]
    omega
/-- what the reference rests on, walls only thought of among it -/
def WfR (S : Nat → Int32) : Prop := (rng (S 0) 5 40 ∧ rng (S 1) 5 40) ∧ (∀ c, c < 1600 → rng (S (8 + c)) 0 511) ∧ bin (tS S) ∧ WfT 54 (S 0) (S 1) (tS S) ∧ (∀ t, 6 ≤ t → t < 54 → tS S t 0 = 1 → rng (tS S t 5) 0 11) ∧ (∀ j, j < 144 → rng (S (2256 + j)) (-9) 9) ∧ (∀ f, f < 12 → S (2256 + 13 * f) = 0) ∧ rng (S 3) 0 20000 ∧ ∀ t, t < 6 → tS S t 0 = 1 → tS S t 5 = -1
def gapA (A : Nat → Nat → Int32) (x z tx tz : Int32) (t : Nat) : Int := min (min ((A t 1).toInt - x.toInt) ((A t 2).toInt - z.toInt)) (min (tx.toInt - (A t 3).toInt) (tz.toInt - (A t 4).toInt))
def fitP (S : Nat → Int32) (x z tx tz : Int32) (a : Nat) (ob : Option Nat) : Prop := hldP (S 0) (S 1) x z tx tz ∧ tS S a 6 = -1 ∧ (∀ b, ob = some b → b ≠ a ∧ tS S b 6 = -1) ∧ 0 ≤ gapA (tS S) x z tx tz a ∧ ∀ b, ob = some b → 0 ≤ gapA (tS S) x z tx tz b
def clrP (S : Nat → Int32) (x z tx tz : Int32) (a : Nat) (ob : Option Nat) : Prop := ∀ t, t < 54 → tS S t 0 = 1 → tS S t 6 = -1 → t ≠ a → ob ≠ some t → (tx.toInt < (tS S t 1).toInt ∨ (tS S t 3).toInt < x.toInt ∨ tz.toInt < (tS S t 2).toInt ∨ (tS S t 4).toInt < z.toInt)
def rivP (S : Nat → Int32) (x0 z0 x1 z1 : Nat) : Prop := (∃ i, x0 ≤ i ∧ i < x1 ∧ (lvl S i z0 = 1 ∨ lvl S i z1 = 1)) ∨ ∃ j, z0 ≤ j ∧ j < z1 ∧ (upr S x0 j = 1 ∨ upr S x1 j = 1)
def ThW (h : HP) (y : Nat) (x z tx tz : Int32) (a : Nat) (ob : Option Nat) : Prop := (hI h y 31 = x ∧ hI h y 32 = z ∧ hI h y 33 = tx ∧ hI h y 34 = tz) ∧ hI h y 35 = nI a ∧ hI h y 36 = onI ob
def thereO (S : Nat → Int32) (ob : Option Nat) : Prop := ∀ b, ob = some b → b < 54 ∧ tS S b 0 = 1
theorem WfR.cell {S : Nat → Int32} (W : WfR S) {c : Nat} (hc : c < 1600) : ∃ k, k < 512 ∧ S (8 + c) = nI k := by
  have q := W.2.1 c hc
  unfold rng at q
  exact of_in q.1 (by omega)
theorem WfR.dim {S : Nat → Int32} (W : WfR S) : ∃ C R : Nat, S 0 = nI C ∧ S 1 = nI R ∧ 5 ≤ C ∧ C ≤ 40 ∧ 5 ≤ R ∧ R ≤ 40 := by
  obtain ⟨⟨a1, a2⟩, b1, b2⟩ := W.1
  obtain ⟨C, hC, eC⟩ := of_in (n := 41) (x := S 0) (by omega) (by omega)
  obtain ⟨R, hR, eR⟩ := of_in (n := 41) (x := S 1) (by omega) (by omega)
  rw [eC, ti_nI (by omega)] at a1 a2
  rw [eR, ti_nI (by omega)] at b1 b2
  exact ⟨C, R, eC, eR, by omega, by omega, by omega, by omega⟩
section RP
variable {G : GG} {d : Nat} {h : HP} {y : Nat} {Q : Option Value → HP → Prop}
theorem r_isRiver (hd : 1 ≤ d) (M : MdSh G h y) (W : WfR (said h y)) {x z : Int32} (hQ : ∀ v : Int32, (v = 0 ∨ v = 1) → (v = 1 ↔ ∃ i j : Nat, x = nI i ∧ z = nI j ∧ (i : Int) < (said h y 0).toInt ∧ (j : Int) < (said h y 1).toInt ∧ riv (said h y) i j = 1) → Q (some (.int v)) h) : Cal G d mX12_isRiver [.ref y, .int x, .int z] h Q := by
  obtain ⟨m1, m2, m3⟩ := M.sd
  obtain ⟨C, R, eC, eR, c1, c2, r1, r2⟩ := W.dim
  have y0 : (0 : Int64).toInt = 0 := by simp
  have tC : ((hI h (y + 13) 0 - 1).toInt64).toInt = (C : Int) - 1 := by
    rw [ti64, show hI h (y + 13) 0 = nI C from eC, show nI C - 1 = nI (C - 1) from nS (b := 1) (by omega), ti_nI (by omega)]
    omega
  have tR : ((hI h (y + 13) 1 - 1).toInt64).toInt = (R : Int) - 1 := by
    rw [ti64, show hI h (y + 13) 1 = nI R from eR, show nI R - 1 = nI (R - 1) from nS (b := 1) (by omega), ti_nI (by omega)]
    omega
  have dC : (said h y 0).toInt = C := by rw [eC, ti_nI (by omega)]
  have dR : (said h y 1).toInt = R := by rw [eR, ti_nI (by omega)]
  refine e_X12_isRiver hd ⟨M.1, y + 13, m1, m2, vin_nI (k := 0) (by omega) (by omega), r_in ⟨_, rfl, fun c => hQ 0 (Or.inl rfl) ⟨fun q => absurd q (by decide), ?_⟩, fun c => ⟨y + 13, m1, m2, vin_nI (k := 1) (by omega) (by omega), r_in ⟨_, rfl, fun c3 => hQ 0 (Or.inl rfl) ⟨fun q => absurd q (by decide), ?_⟩, fun c3 => ⟨y + 13, m1, m2, ?_⟩⟩⟩⟩⟩
  · have c := if10.mp c
    rw [ti64, y0, tC] at c
    rintro ⟨i, j, rfl, -, z1, -⟩
    refine absurd ?_ c
    rw [ti_nI (by omega)]
    omega
  · have c := if10.mp c3
    rw [ti64, y0, tR] at c
    rintro ⟨i, j, -, rfl, -, z1, -⟩
    refine absurd ?_ c
    rw [ti_nI (by omega)]
    omega
  · have c := Decidable.not_not.mp (fun z => c (if10.mpr z))
    have c3 := Decidable.not_not.mp (fun z => c3 (if10.mpr z))
    rw [ti64, y0, tC] at c
    rw [ti64, y0, tR] at c3
    obtain ⟨i, hi, rfl⟩ := of_in (n := 40) (x := x) (by omega) (by omega)
    obtain ⟨j, hj, rfl⟩ := of_in (n := 40) (x := z) (by omega) (by omega)
    rw [ti_nI (by omega)] at c c3
    have e : 8 + 40 * nI j + nI i = nI (8 + (40 * j + i)) := by
      show nI 8 + nI 40 * nI j + nI i = _
      rw [nM, nA, nA, Nat.add_assoc]
    obtain ⟨k, hk, ek⟩ := W.cell (c := 40 * j + i) (by omega)
    have w2 := (wrt_n hk ek).2.1
    have key : (∃ i' j' : Nat, nI i = nI i' ∧ nI j = nI j' ∧ (i' : Int) < (said h y 0).toInt ∧ (j' : Int) < (said h y 1).toInt ∧ riv (said h y) i' j' = 1) ↔ k / 128 % 2 = 1 := by
      constructor
      · rintro ⟨i', j', e1, e2, q1, q2, q3⟩
        obtain rfl : i = i' := (nI_eq_iff (by omega) (by omega)).mp e1
        obtain rfl : j = j' := (nI_eq_iff (by omega) (by omega)).mp e2
        rw [w2] at q3
        omega
      · intro q
        exact ⟨i, j, rfl, rfl, by omega, by omega, by rw [w2, q]; rfl⟩
    refine ⟨by rw [e, m3]; exact vin_nI (by omega) (by omega), ?_⟩
    rw [e, cl_nI (by omega), show hI h (y + 13) (8 + (40 * j + i)) = nI k from ek]
    refine ⟨fun c4 => hQ 0 (Or.inl rfl) ⟨fun q => absurd q (by decide), fun q => ?_⟩, fun c4 => hQ 1 (Or.inr rfl) ⟨fun _ => ?_, fun _ => rfl⟩⟩
    · rw [and128 hk] at c4
      have := key.mp q
      omega
    · rw [and128 hk] at c4
      exact key.mpr (by omega)
theorem lvl_iff {S : Nat → Int32} {i j : Nat} {C R : Nat} (eR : (S 1).toInt = R) : lvl S i j = 1 ↔ 0 < j ∧ j < R ∧ riv S i j = 1 ∧ riv S i (j - 1) = 1 := by
  unfold lvl
  rw [eR]
  by_cases c : 0 < j ∧ (j : Int) < (R : Int) ∧ riv S i j = 1 ∧ riv S i (j - 1) = 1
  · rw [if_pos c]
    exact ⟨fun _ => ⟨c.1, by omega, c.2.2⟩, fun _ => rfl⟩
  · rw [if_neg c]
    exact ⟨fun q => by omega, fun q => absurd ⟨q.1, by omega, q.2.2⟩ c⟩
theorem upr_iff {S : Nat → Int32} {i j : Nat} {C : Nat} (eC : (S 0).toInt = C) : upr S i j = 1 ↔ 0 < i ∧ i < C ∧ riv S i j = 1 ∧ riv S (i - 1) j = 1 := by
  unfold upr
  rw [eC]
  by_cases c : 0 < i ∧ (i : Int) < (C : Int) ∧ riv S i j = 1 ∧ riv S (i - 1) j = 1
  · rw [if_pos c]
    exact ⟨fun _ => ⟨c.1, by omega, c.2.2⟩, fun _ => rfl⟩
  · rw [if_neg c]
    exact ⟨fun q => by omega, fun q => absurd ⟨q.1, by omega, q.2.2⟩ c⟩
theorem r_goes (hd : 2 ≤ d) (M : MdSh G h y) (W : WfR (said h y)) {x0 z0 x1 z1 : Nat} {a : Nat} {ob : Option Nat} (T : ThW h y (nI x0) (nI z0) (nI x1) (nI z1) a ob) (hx : x0 < x1) (hz : z0 < z1) (hc : (x1 : Int) ≤ (said h y 0).toInt) (hr : (z1 : Int) ≤ (said h y 1).toInt) (h0 : ¬ rivP (said h y) x0 z0 x1 z1 → Q (some (.int 0)) h) (h1 : rivP (said h y) x0 z0 x1 z1 → Q (some (.int 1)) h) : Cal G d mX12_goesOverRiver [.ref y] h Q := by
  obtain ⟨C, R, eC, eR, c1, c2, r1, r2⟩ := W.dim
  have dC : (said h y 0).toInt = C := by rw [eC, ti_nI (by omega)]
  have dR : (said h y 1).toInt = R := by rw [eR, ti_nI (by omega)]
  obtain ⟨⟨t1, t2, t3, t4⟩, -, -⟩ := T
  have isr : ∀ {i j : Nat} {v : Int32}, i ≤ 40 → j ≤ 40 → (v = 1 ↔ ∃ i' j' : Nat, nI i = nI i' ∧ nI j = nI j' ∧ (i' : Int) < (said h y 0).toInt ∧ (j' : Int) < (said h y 1).toInt ∧ riv (said h y) i' j' = 1) → (v = 1 ↔ i < C ∧ j < R ∧ riv (said h y) i j = 1) := by
    intro i j v hi hj e
    rw [e, dC, dR]
    constructor
    · rintro ⟨i', j', e1, e2, q1, q2, q3⟩
      obtain rfl : i = i' := (nI_eq_iff (by omega) (by omega)).mp e1
      obtain rfl : j = j' := (nI_eq_iff (by omega) (by omega)).mp e2
      exact ⟨by omega, by omega, q3⟩
    · rintro ⟨q1, q2, q3⟩
      exact ⟨i, j, rfl, rfl, by omega, by omega, q3⟩
  have neg : ∀ {v : Int32} {f : Nat → Nat → Prop}, (v = 1 ↔ ∃ i' j' : Nat, f i' j' ∧ (nI 0 - 1 : Int32) = nI i' ∧ i' < 40) → ¬ v = 1 := by
    intro v f e q
    obtain ⟨i', j', -, e1, e2⟩ := e.mp q
    have : (nI 0 - 1 : Int32).toInt = -1 := rfl
    rw [e1, ti_nI (by omega)] at this
    omega
  have v01 : ∀ {v : Int32}, (v = 0 ∨ v = 1) → ¬ v = 0 → v = 1 := fun e n => e.resolve_left n
  -- upright lines
  have up : ∀ n j, j + n = z1 → z0 ≤ j → (∀ k, z0 ≤ k → k < j → ¬ (upr (said h y) x0 k = 1 ∨ upr (said h y) x1 k = 1)) → ¬ (∃ i, x0 ≤ i ∧ i < x1 ∧ (lvl (said h y) i z0 = 1 ∨ lvl (said h y) i z1 = 1)) → Ex G d mX12_goesOverRiver 78 [(0, .ref y), (1, .int (nI j))] [] h Q := by
    intro n
    induction n with
    | zero =>
      intro j hj j0 V L
      obtain rfl : j = z1 := by omega
      refine t_X12_goesOverRiver_78 (by omega) ⟨M.1, ?_⟩
      rw [t4]
      refine ⟨fun _ => h0 ?_, fun q => absurd ((nI_le_iff (by omega) (by omega)).mpr (Nat.le_refl _)) q⟩
      rintro (q | ⟨k, k1, k2, k3⟩)
      · exact L q
      · exact V k k1 k2 k3
    | succ n ih =>
      intro j hj j0 V L
      have next : ¬ (upr (said h y) x0 j = 1 ∨ upr (said h y) x1 j = 1) → Ex G d mX12_goesOverRiver 78 [(0, .ref y), (1, .int (nI j + 1))] [] h Q := fun c => by
        rw [nI_S]
        refine ih (j + 1) (by omega) (by omega) (fun k k1 k2 => ?_) L
        by_cases e : k = j
        · rw [e]; exact c
        · exact V k k1 (by omega)
      have second : ¬ upr (said h y) x0 j = 1 → Ex G d mX12_goesOverRiver 112 [(0, .ref y), (1, .int (nI j))] [] h Q := fun c => by
        refine t_X12_goesOverRiver_112 (by omega) ⟨M.1, ?_⟩
        rw [t3, show nI x1 - 1 = nI (x1 - 1) from nS (b := 1) (by omega)]
        refine r_isRiver (by omega) M W (fun v b01 e => ⟨_, rfl, fun q => next ?_, fun q => ?_⟩)
        · rw [upr_iff dC, upr_iff dC] at *
          have e := isr (by omega) (by omega) e
          rintro (q2 | q2)
          · exact c q2
          · have := e.mpr ⟨by omega, by omega, q2.2.2.2⟩
            rw [q] at this
            exact absurd this (by decide)
        · have e := (isr (by omega) (by omega) e).mp (v01 b01 q)
          refine r_isRiver (by omega) M W (fun v2 b2 e2 => ⟨_, rfl, fun q2 => next ?_, fun q2 => h1 (Or.inr ⟨j, j0, by omega, Or.inr ?_⟩)⟩)
          · rintro (q3 | q3)
            · exact c q3
            · rw [upr_iff dC] at q3
              rw [t3] at e2
              have := (isr (by omega) (by omega) e2).mpr ⟨q3.2.1, by omega, q3.2.2.1⟩
              rw [q2] at this
              exact absurd this (by decide)
          · rw [t3] at e2
            have e2 := (isr (by omega) (by omega) e2).mp (v01 b2 q2)
            rw [upr_iff dC]
            exact ⟨by omega, e2.1, e2.2.2, e.2.2⟩
      refine t_X12_goesOverRiver_78 (by omega) ⟨M.1, ?_⟩
      rw [t4, t1]
      refine ⟨fun q => ?_, fun _ => r_isRiver (by omega) M W (fun v b01 e => ⟨_, rfl, fun q => second ?_, fun q => ?_⟩)⟩
      · have := (nI_le_iff (by omega) (by omega)).mp q
        omega
      · rw [upr_iff dC]
        rintro ⟨u1, u2, u3, u4⟩
        have := (isr (by omega) (by omega) e).mpr ⟨u2, by omega, u3⟩
        rw [q] at this
        exact absurd this (by decide)
      · have e := (isr (by omega) (by omega) e).mp (v01 b01 q)
        rw [t1]
        refine r_isRiver (by omega) M W (fun v2 b2 e2 => ⟨_, rfl, fun q2 => h1 (Or.inr ⟨j, j0, by omega, Or.inl ?_⟩), fun q2 => second ?_⟩)
        · by_cases x00 : x0 = 0
          · subst x00
            obtain ⟨i', j', e1, -, e3, -⟩ := e2.mp (v01 b2 q2)
            have : (nI 0 - 1 : Int32).toInt = -1 := rfl
            rw [e1, ti_nI (by omega)] at this
            omega
          · rw [show nI x0 - 1 = nI (x0 - 1) from nS (b := 1) (by omega)] at e2
            have e2 := (isr (by omega) (by omega) e2).mp (v01 b2 q2)
            rw [upr_iff dC]
            exact ⟨by omega, e.1, e.2.2, e2.2.2⟩
        · rw [upr_iff dC]
          rintro ⟨u1, u2, u3, u4⟩
          rw [show nI x0 - 1 = nI (x0 - 1) from nS (b := 1) (by omega)] at e2
          have := (isr (by omega) (by omega) e2).mpr ⟨by omega, by omega, u4⟩
          rw [q2] at this
          exact absurd this (by decide)
  -- level lines
  have lv : ∀ n i, i + n = x1 → x0 ≤ i → (∀ k, x0 ≤ k → k < i → ¬ (lvl (said h y) k z0 = 1 ∨ lvl (said h y) k z1 = 1)) → Ex G d mX12_goesOverRiver 5 [(0, .ref y), (1, .int (nI i))] [] h Q := by
    intro n
    induction n with
    | zero =>
      intro i hi i0 V
      obtain rfl : i = x1 := by omega
      refine t_X12_goesOverRiver_5 (by omega) ⟨M.1, ?_⟩
      rw [t3, t2]
      refine ⟨fun _ => up (z1 - z0) z0 (by omega) (Nat.le_refl _) (fun k k1 k2 => by omega) ?_, fun q => absurd ((nI_le_iff (by omega) (by omega)).mpr (Nat.le_refl _)) q⟩
      rintro ⟨k, k1, k2, k3⟩
      exact V k k1 k2 k3
    | succ n ih =>
      intro i hi i0 V
      have next : ¬ (lvl (said h y) i z0 = 1 ∨ lvl (said h y) i z1 = 1) → Ex G d mX12_goesOverRiver 5 [(0, .ref y), (1, .int (nI i + 1))] [] h Q := fun c => by
        rw [nI_S]
        refine ih (i + 1) (by omega) (by omega) (fun k k1 k2 => ?_)
        by_cases e : k = i
        · rw [e]; exact c
        · exact V k k1 (by omega)
      have second : ¬ lvl (said h y) i z0 = 1 → Ex G d mX12_goesOverRiver 39 [(0, .ref y), (1, .int (nI i))] [] h Q := fun c => by
        refine t_X12_goesOverRiver_39 (by omega) ⟨M.1, ?_⟩
        rw [t4, show nI z1 - 1 = nI (z1 - 1) from nS (b := 1) (by omega)]
        refine r_isRiver (by omega) M W (fun v b01 e => ⟨_, rfl, fun q => next ?_, fun q => ?_⟩)
        · have e := isr (by omega) (by omega) e
          rintro (q2 | q2)
          · exact c q2
          · rw [lvl_iff (C := C) dR] at q2
            have := e.mpr ⟨by omega, by omega, q2.2.2.2⟩
            rw [q] at this
            exact absurd this (by decide)
        · have e := (isr (by omega) (by omega) e).mp (v01 b01 q)
          refine r_isRiver (by omega) M W (fun v2 b2 e2 => ⟨_, rfl, fun q2 => next ?_, fun q2 => h1 (Or.inl ⟨i, i0, by omega, Or.inr ?_⟩)⟩)
          · rintro (q3 | q3)
            · exact c q3
            · rw [lvl_iff (C := C) dR] at q3
              rw [t4] at e2
              have := (isr (by omega) (by omega) e2).mpr ⟨by omega, q3.2.1, q3.2.2.1⟩
              rw [q2] at this
              exact absurd this (by decide)
          · rw [t4] at e2
            have e2 := (isr (by omega) (by omega) e2).mp (v01 b2 q2)
            rw [lvl_iff (C := C) dR]
            exact ⟨by omega, e2.2.1, e2.2.2, e.2.2⟩
      refine t_X12_goesOverRiver_5 (by omega) ⟨M.1, ?_⟩
      rw [t3, t2]
      refine ⟨fun q => ?_, fun _ => r_isRiver (by omega) M W (fun v b01 e => ⟨_, rfl, fun q => second ?_, fun q => ?_⟩)⟩
      · have := (nI_le_iff (by omega) (by omega)).mp q
        omega
      · rw [lvl_iff (C := C) dR]
        rintro ⟨u1, u2, u3, u4⟩
        have := (isr (by omega) (by omega) e).mpr ⟨by omega, u2, u3⟩
        rw [q] at this
        exact absurd this (by decide)
      · have e := (isr (by omega) (by omega) e).mp (v01 b01 q)
        rw [t2]
        refine r_isRiver (by omega) M W (fun v2 b2 e2 => ⟨_, rfl, fun q2 => h1 (Or.inl ⟨i, i0, by omega, Or.inl ?_⟩), fun q2 => second ?_⟩)
        · by_cases x00 : z0 = 0
          · subst x00
            obtain ⟨i', j', -, e1, -, e3, -⟩ := e2.mp (v01 b2 q2)
            have : (nI 0 - 1 : Int32).toInt = -1 := rfl
            rw [e1, ti_nI (by omega)] at this
            omega
          · rw [show nI z0 - 1 = nI (z0 - 1) from nS (b := 1) (by omega)] at e2
            have e2 := (isr (by omega) (by omega) e2).mp (v01 b2 q2)
            rw [lvl_iff (C := C) dR]
            exact ⟨by omega, e.2.1, e.2.2, e2.2.2⟩
        · rw [lvl_iff (C := C) dR]
          rintro ⟨u1, u2, u3, u4⟩
          rw [show nI z0 - 1 = nI (z0 - 1) from nS (b := 1) (by omega)] at e2
          have := (isr (by omega) (by omega) e2).mpr ⟨by omega, by omega, u4⟩
          rw [q2] at this
          exact absurd this (by decide)
  refine e_X12_goesOverRiver ⟨M.1, ?_⟩
  rw [t1]
  exact lv (x1 - x0) x0 (by omega) (Nat.le_refl _) (fun k k1 k2 => by omega)
end RP
