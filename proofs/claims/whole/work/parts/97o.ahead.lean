/-! ===== what only rows that are not there differ in ===== -/
def EqS (S S' : Nat → Int32) : Prop := (∀ j, ¬ (1608 ≤ j ∧ j < 2256) → S' j = S j) ∧ (∀ t, t < 54 → tS S' t 0 = tS S t 0) ∧ ∀ t, t < 54 → tS S t 0 = 1 → ∀ k, 1 ≤ k → k ≤ 6 → tS S' t k = tS S t k
theorem EqS.symm {S S' : Nat → Int32} (E : EqS S S') : EqS S' S := ⟨fun j hj => (E.1 j hj).symm, fun t ht => (E.2.1 t ht).symm, fun t ht w k h1 h6 => (E.2.2 t ht (by rw [← E.2.1 t ht]; exact w) k h1 h6).symm⟩
theorem JnkS.eqs {S S' : Nat → Int32} (J : JnkS 30 S S') (Z : ∀ t, 30 ≤ t → t < 54 → tS S t 0 = 0) : EqS S S' := by
  refine ⟨fun j hj => J.1 j (by omega), fun t ht => ?_, fun t ht w k h1 h6 => ?_⟩
  · by_cases c : t < 30
    · exact J.t c (by omega)
    · rw [J.2 t (by omega) ht, Z t (by omega) ht]
  · by_cases c : t < 30
    · exact J.t c (by omega)
    · rw [Z t (by omega) ht] at w
      exact absurd w (by decide)
theorem liesF_congrT {A A' : Nat → Nat → Int32} {b : Nat} (hb : b < 2147483648) (e : ∀ r, r < b → A r 0 = 1 → A' r 6 = A r 6) (o : Int32) : ∀ (m n : Nat) (p : Int32), endsT A b n p → liesF A' o m p = liesF A o m p
  | 0, _, _, _ => rfl
  | m + 1, 0, p, h => by
    obtain rfl : p = -1 := h
    rfl
  | m + 1, n + 1, p, h => by
    rcases h with rfl | ⟨r, rfl, h2, h0, h3⟩
    · rfl
    · simp only [liesF, cl_nI (show r < 2147483648 by omega), e r h2 h0]
      rw [liesF_congrT hb e o m n _ h3]
section EQ
variable {S S' : Nat → Int32}
theorem EqS.wb (E : EqS S S') {t : Nat} (ht : t < 54) : wallB (tS S') t = wallB (tS S) t := by
  unfold wallB
  rw [E.2.1 t ht]
theorem EqS.deep (E : EqS S S') (W : WfR S) (o : Int32) : deepN (tS S') 31 o = deepN (tS S) 31 o := by
  unfold deepN
  refine cntF_congr 48 6 (fun v h1 h2 => ?_)
  rw [E.wb (by omega)]
  cases q : wallB (tS S) v with
  | false => rw [Bool.false_and, Bool.false_and]
  | true =>
    have v0 := (W.2.2.1.w (by omega)).mpr q
    rw [E.2.2 v (by omega) v0 6 (by omega) (by omega), liesF_congrT (A := tS S) (b := 54) (by omega) (fun r hr r0 => E.2.2 r hr r0 6 (by omega) (by omega)) o 31 20 _ (W.2.2.2.1.endsT W.1.1.2 (by omega) v0)]
theorem EqS.own (E : EqS S S') (W : WfR S) (f : Int32) : cntF (ownB (tS S') f) 6 48 = cntF (ownB (tS S) f) 6 48 := by
  refine cntF_congr 48 6 (fun v h1 h2 => ?_)
  unfold ownB
  rw [E.2.1 v (by omega)]
  rcases W.2.2.1 v (by omega) with z | z
  · rw [z]
    have : ((0 : Int32) != 0) = false := by decide
    rw [this, Bool.false_and, Bool.false_and]
  · rw [E.2.2 v (by omega) z 5 (by omega) (by omega)]
theorem eqS_f4 (E : EqS S S') (m : Nat) {i j : Nat} (hi : i < 40) (hj : j < 40) : f4 S' m i j = f4 S m i j := by
  have e := E.1 (8 + (40 * j + i)) (by omega)
  have h1 : wrt S' i j = wrt S i j := by unfold wrt; rw [e]
  have h2 : wel S' i j = wel S i j := by unfold wel; rw [e]
  have h3 : riv S' i j = riv S i j := by unfold riv; rw [e]
  cases m with
  | zero => simp only [f4]
  | succ m => cases m with
    | zero => simp only [f4]; exact h1
    | succ m => cases m with
      | zero => simp only [f4]; exact h2
      | succ m => simp only [f4]; exact h3
theorem eqS_riv (E : EqS S S') {i j : Nat} (hi : i < 40) (hj : j < 40) : riv S' i j = riv S i j := by
  have e := E.1 (8 + (40 * j + i)) (by omega)
  unfold riv
  rw [e]
theorem eqS_box (E : EqS S S') {a : Nat} (ha : a < 54) (wa : tS S a 0 = 1) (m x0 z0 x1 z1 : Nat) : box (outG S' a none m) x0 z0 x1 z1 = box (outG S a none m) x0 z0 x1 z1 := by
  have r1 := E.2.2 a ha wa 1 (by omega) (by omega)
  have r2 := E.2.2 a ha wa 2 (by omega) (by omega)
  have r3 := E.2.2 a ha wa 3 (by omega) (by omega)
  have r4 := E.2.2 a ha wa 4 (by omega) (by omega)
  unfold box
  refine all2_congr (fun i j hi hj => ?_)
  have eA : inAB (tS S') a none i j = inAB (tS S) a none i j := by
    have c1 : cN (tS S') a 1 = cN (tS S) a 1 := by unfold cN; rw [r1]
    have c2 : cN (tS S') a 2 = cN (tS S) a 2 := by unfold cN; rw [r2]
    have c3 : cN (tS S') a 3 = cN (tS S) a 3 := by unfold cN; rw [r3]
    have c4 : cN (tS S') a 4 = cN (tS S) a 4 := by unfold cN; rw [r4]
    unfold inAB inTB
    rw [c1, c2, c3, c4]
  have : outG S' a none m i j = outG S a none m i j := by
    unfold outG
    rw [eA, eqS_f4 E _ hi hj]
  rw [this]
theorem eqS_like (E : EqS S S') {a : Nat} (ha : a < 54) (wa : tS S a 0 = 1) (f : Nat) : likeI S' f a = likeI S f a := by
  have r5 := E.2.2 a ha wa 5 (by omega) (by omega)
  unfold likeI
  rw [r5, E.1 (2256 + 12 * f + (tS S a 5).toInt.toNat) (by omega)]
theorem eqS_deepI (E : EqS S S') (W : WfR S) (a : Nat) : deepI S' a = deepI S a := by
  unfold deepI
  rw [E.deep W]
theorem optI_n (g : Nat → Int) : optI g none = 0 := rfl
theorem eqS_wI (E : EqS S S') (W : WfR S) {a : Nat} (ha : a < 54) (wa : tS S a 0 = 1) (f x0 z0 x1 z1 k : Nat) : wI S' f x0 z0 x1 z1 a none k = wI S f x0 z0 x1 z1 a none k := by
  unfold wI
  rw [eqS_box E ha wa, eqS_deepI E W, eqS_like E ha wa, E.own W, E.1 3 (by omega), optI_n, optI_n, optI_n, optI_n, optI_n]
theorem EqS.wd (E : EqS S S') (W : WfR S) {a : Nat} (ha : a < 54) (wa : tS S a 0 = 1) (f : Nat) (x z tx tz : Int32) : wdF S' f x z tx tz a none = wdF S f x z tx tz a none := funext fun k => by
  unfold wdF
  rw [eqS_wI E W ha wa]
theorem EqS.gap (E : EqS S S') {a : Nat} (ha : a < 54) (wa : tS S a 0 = 1) (x z tx tz : Int32) : gapA (tS S') x z tx tz a = gapA (tS S) x z tx tz a := by
  have r := fun k h1 h6 => E.2.2 a ha wa k h1 h6
  unfold gapA
  rw [r 1 (by omega) (by omega), r 2 (by omega) (by omega), r 3 (by omega) (by omega), r 4 (by omega) (by omega)]
theorem EqS.lv (E : EqS S S') (W : WfR S) {i : Nat} (hi : i < 40) (j : Nat) : lvl S' i j = lvl S i j := by
  have d1 := W.1.2.2
  unfold lvl
  rw [E.1 1 (by omega)]
  by_cases hj : 0 < j ∧ (j : Int) < (S 1).toInt
  · have e1 : riv S' i j = riv S i j := eqS_riv E hi (by omega)
    have e2 : riv S' i (j - 1) = riv S i (j - 1) := eqS_riv E hi (by omega)
    rw [e1, e2]
  · rw [if_neg (fun z => hj ⟨z.1, z.2.1⟩), if_neg (fun z => hj ⟨z.1, z.2.1⟩)]
theorem EqS.up (E : EqS S S') (W : WfR S) {j : Nat} (hj : j < 40) (i : Nat) : upr S' i j = upr S i j := by
  have d1 := W.1.1.2
  unfold upr
  rw [E.1 0 (by omega)]
  by_cases hi : 0 < i ∧ (i : Int) < (S 0).toInt
  · have e1 : riv S' i j = riv S i j := eqS_riv E (by omega) hj
    have e2 : riv S' (i - 1) j = riv S (i - 1) j := eqS_riv E (by omega) hj
    rw [e1, e2]
  · rw [if_neg (fun z => hi ⟨z.1, z.2.1⟩), if_neg (fun z => hi ⟨z.1, z.2.1⟩)]
theorem EqS.can (E : EqS S S') (W : WfR S) {C : List Cla} {jn : Prop} {f a : Nat} (ha : a < 54) (wa : tS S a 0 = 1) {x z tx tz : Int32} (h : canV S C jn f x z tx tz a none) : canV S' C jn f x z tx tz a none := by
  obtain ⟨⟨f1, f2, f3, f4, f5⟩, j, c, r, fa, m⟩ := h
  have dd := W.1
  unfold rng at dd
  have hl := f1
  unfold hldP at hl
  refine ⟨⟨by rw [E.1 0 (by omega), E.1 1 (by omega)]; exact f1, by rw [E.2.2 a ha wa 6 (by omega) (by omega)]; exact f2, fun b q => (by cases q), by rw [E.gap ha wa]; exact f4, fun b q => by cases q⟩, j, fun t ht t0 t6 n1 n2 => ?_, fun q => r ?_, ?_, by rw [E.wd W ha wa]; exact m⟩
  · rw [E.2.1 t ht] at t0
    have rr := fun k h1 h6 => E.2.2 t ht t0 k h1 h6
    rw [rr 6 (by omega) (by omega)] at t6
    rw [rr 1 (by omega) (by omega), rr 2 (by omega) (by omega), rr 3 (by omega) (by omega), rr 4 (by omega) (by omega)]
    exact c t ht t0 t6 n1 n2
  · rcases q with ⟨i, h1, h2, h3⟩ | ⟨i, h1, h2, h3⟩
    · have hi : i < 40 := by unfold nN at h2; omega
      rw [E.lv W hi, E.lv W hi] at h3
      exact Or.inl ⟨i, h1, h2, h3⟩
    · have hi : i < 40 := by unfold nN at h2; omega
      rw [E.up W hi, E.up W hi] at h3
      exact Or.inr ⟨i, h1, h2, h3⟩
  · rw [E.wd W ha wa]
    show _ ≤ gapA (tS S') x z tx tz a
    rw [E.gap ha wa]
    exact fa
theorem EqS.rc (E : EqS S S') {a : Nat} (ha : a < 54) (wa : tS S a 0 = 1) (m i : Nat) : rcX (tS S') a none m i = rcX (tS S) a none m i ∧ rcZ (tS S') a none m i = rcZ (tS S) a none m i ∧ rcTX (tS S') a none m i = rcTX (tS S) a none m i ∧ rcTZ (tS S') a none m i = rcTZ (tS S) a none m i := by
  have r := fun k h1 h6 => E.2.2 a ha wa k h1 h6
  refine ⟨?_, ?_, ?_, ?_⟩
  · show tS S' a 1 - _ = tS S a 1 - _
    rw [r 1 (by omega) (by omega)]
  · show tS S' a 2 - _ = tS S a 2 - _
    rw [r 2 (by omega) (by omega)]
  · show tS S' a 3 + _ = tS S a 3 + _
    rw [r 3 (by omega) (by omega)]
  · show tS S' a 4 + _ = tS S a 4 + _
    rw [r 4 (by omega) (by omega)]
theorem eqS_canB (E : EqS S S') (W : WfR S) (W' : WfR S') {C : List Cla} {jn : Prop} {f a m : Nat} (ha : a < 54) (wa : tS S a 0 = 1) : canB S' C jn f a none m = canB S C jn f a none m := funext fun i => bool_iff (by
  obtain ⟨e1, e2, e3, e4⟩ := E.rc ha wa m i
  rw [canB_iff, canB_iff, e1, e2, e3, e4]
  exact ⟨fun z => E.symm.can W' ha (by rw [E.2.1 a ha]; exact wa) z, fun z => E.can W ha wa z⟩)
theorem EqS.val (E : EqS S S') (W : WfR S) {D : List Cla} {f a m : Nat} (ha : a < 54) (wa : tS S a 0 = 1) : valO S' (some D) f a none m = valO S (some D) f a none m := funext fun i => by
  obtain ⟨e1, e2, e3, e4⟩ := E.rc ha wa m i
  simp only [valO, valF]
  rw [e1, e2, e3, e4, E.wd W ha wa]
theorem EqS.ln (E : EqS S S') {a m : Nat} (ha : a < 54) (wa : tS S a 0 = 1) : lnF S' a none m = lnF S a none m := funext fun i => by
  obtain ⟨e1, e2, e3, e4⟩ := E.rc ha wa m i
  unfold lnF
  rw [e1, e2, e3, e4]
theorem EqS.bld (E : EqS S S') {w a : Nat} (H : BlH (tS S) w a none) (H' : BlH (tS S') w a none) (x z tx tz f : Int32) : EqS (bldS S w x z tx tz f a none) (bldS S' w x z tx tz f a none) := by
  have E1 := tS_bld (S := S) (w := w) (x := x) (z := z) (tx := tx) (tz := tz) (f := f) (a := a) (ob := none)
  have E2 := tS_bld (S := S') (w := w) (x := x) (z := z) (tx := tx) (tz := tz) (f := f) (a := a) (ob := none)
  refine ⟨fun j hj => by rw [bld_off hj, bld_off hj]; exact E.1 j hj, fun t ht => ?_, fun t ht t0 k h1 h6 => ?_⟩
  · by_cases c : t = w
    · subst c
      rw [E1.at_ H (by omega), E2.at_ H' (by omega)]
      rfl
    · rw [E1.k ht (by omega) c (by omega), E2.k ht (by omega) c (by omega)]
      exact E.2.1 t ht
  · by_cases c : t = w
    · subst c
      rw [E1.at_ H (by omega), E2.at_ H' (by omega)]
      have : k = 1 ∨ k = 2 ∨ k = 3 ∨ k = 4 ∨ k = 5 ∨ k = 6 := by omega
      rcases this with rfl | rfl | rfl | rfl | rfl | rfl <;> rfl
    · rw [E1.k ht (by omega) c (by omega)] at t0
      by_cases k6 : k = 6
      · subst k6
        by_cases ca : t = a
        · rw [E1.in_ ht c (Or.inl ca), E2.in_ ht c (Or.inl ca)]
        · have no : ¬ (t = a ∨ none = some t) := fun q => by
            rcases q with q | q
            · exact ca q
            · cases q
          rw [E1.out ht c no, E2.out ht c no]
          exact E.2.2 t ht t0 6 (by omega) (by omega)
      · rw [E1.k ht (by omega) c k6, E2.k ht (by omega) c k6]
        exact E.2.2 t ht t0 k h1 h6
end EQ
/-- what the next one would have -/
noncomputable def rvS (S1 : Nat → Int32) (C : List Cla) (jn : Prop) (D : List Cla) (g m : Nat) : Int64 :=
  match (seF (canB S1 C jn g 30 none m) (valO S1 (some D) g 30 none m) (lnF S1 30 none m) m).2 with
  | none => 0
  | some r => mxL 0 r.2.1
noncomputable def ahB (S : Nat → Int32) (f a m i : Nat) : Nat → Int32 := bldS S 30 (rcX (tS S) a none m i) (rcZ (tS S) a none m i) (rcTX (tS S) a none m i) (rcTZ (tS S) a none m i) (nI f) a none
noncomputable def ahV (S : Nat → Int32) (C : List Cla) (jn : Prop) (D : List Cla) (f g a m i : Nat) : Int64 := valO S (some D) f a none m i - rvS (ahB S f a m i) C jn D g m
def AhI (b s a : Nat) (_ : Nat) : Prop := (b + 29 ≤ a ∧ a ≤ b + 34) ∨ a = s + 35
def AhL (b A w a : Nat) (_ : Nat) : Prop := (b + 29 ≤ a ∧ a ≤ b + 34) ∨ a = A + 5 ∨ a = w + 5
theorem VwC.f30 {G : GG} {PI PL : Nat → Nat → Prop} {h h2 : HP} {b s : Nat} {S : Nat → Int32} (F : FrS PI PL h h2) (hp : ∀ a k, PI a k → (¬ (s ≤ a ∧ a < s + 42) ∨ a = s + 35) ∧ ¬ (b + 16 ≤ a ∧ a ≤ b + 20)) (z : hI h2 (s + 35) 0 = 0) (V : VwC G h b s S 0) : VwC G h2 b s S 0 := by
  obtain ⟨v1, v2, v3, v4, v5, ⟨c1, c2, c3, c4, c5, c6⟩, v7, v8⟩ := V
  have e : ∀ a k, s ≤ a → a < s + 42 → a ≠ s + 35 → hI h2 a k = hI h a k := fun a k h1 h2 h3 => F.i (fun q => by
    have := (hp a k q).1
    omega)
  refine ⟨F.kd v1, (F.r _ _).trans v2, (F.r _ _).trans v3, v4.fs F, v5.fs F, ⟨fun j hj => (e _ _ (by omega) (by omega) (by omega)).trans (c1 j hj), fun j hj => (e _ _ (by omega) (by omega) (by omega)).trans (c2 j hj), fun j hj => (e _ _ (by omega) (by omega) (by omega)).trans (c3 j hj), fun t ht => ?_, Or.inl ⟨rfl, z⟩, c6⟩, v7, v8.fr (fun a k h1 h2 => F.i (fun z => (hp a k z).2 ⟨h1, h2⟩))⟩
  have et : ∀ k, tg h2 s t k = tg h s t k := fun k => e _ _ (by omega) (by omega) (by omega)
  unfold CoTh
  simp only [et]
  exact c4 t ht
