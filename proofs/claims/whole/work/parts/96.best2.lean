/-! ===== best and least ===== -/
section AI
variable {G : GG} {d : Nat} {h : HP} {b y s : Nat} {Q : Option Value → HP → Prop}
theorem s_aim {P : Nat} (hd : 2 ≤ d) (k : Kd G h P 3) (kb : Kd G h b 11) (n2 : hR h b 12 = some s) (st : StSh G h s) (hP : P < s) {x2 : Int32} {t : Nat} {ob : Option Nat} (ht : t < 31) (hu : ∀ u, ob = some u → u < 31) (hQ : ∀ h2, FrI (fun c j => c = P ∧ (j ≤ 7 ∨ (9 ≤ j ∧ j ≤ 12))) h h2 → (hI h2 P 0 = x2 ∧ hI h2 P 5 = nI t ∧ hI h2 P 6 = onI ob ∧ hI h2 P 7 = 0) → (∀ j, 1 ≤ j → j ≤ 4 → hI h2 P (8 + j) = corI (tg h s) t ob j) → Q none h2) : Cal G d mX11_aim [.ref b, .ref P, .int x2, .int (nI t), .int (onI ob)] h Q := by
  refine e_X11_aim (by omega) ⟨k, s_pset k (fun h1 F1 v1 => ⟨rfl, F1.kd kb, s, (F1.r _ _).trans n2, F1.kd st.1, s + 3, (F1.r _ _).trans st.2.1.2.2.1, F1.kd st.2.2.2.2.1.1, ?_, s + 5 + t, ?_, fun z => ?_, fun z => ?_⟩)⟩
  · rw [F1.n st.2.2.2.2.1.1, st.2.2.2.2.1.2]
    exact vin_nI (by omega) (by omega)
  · rw [cl_nI (by omega), F1.r]
    exact (st.2.2.2.2.2.2.1 t ht).1
  · cases ob with
    | none => exact absurd rfl z
    | some u =>
      have hu' := hu u rfl
      refine ⟨?_, s + 5 + u, ?_, s_surround2 (by omega) (F1.kd k) (F1.kd (st.2.2.2.2.2.2.1 t ht).2) (F1.kd (st.2.2.2.2.2.2.1 u hu').2) (by omega) (by omega) (fun h2 F2 v2 => ⟨rfl, hQ h2 ?_ ?_ ?_⟩)⟩
      · show vp_in (nI u) _
        rw [F1.n st.2.2.2.2.1.1, st.2.2.2.2.1.2]
        exact vin_nI (by omega) (by omega)
      · show hR h1 (s + 3) (nI u).toNatClampNeg = _
        rw [cl_nI (by omega), F1.r]
        exact (st.2.2.2.2.2.2.1 u hu').1
      · exact (F1.weak (fun a k q => ⟨q.1, Or.inl q.2⟩)).tr (F2.weak (fun a k q => ⟨q.1, Or.inr q.2⟩))
      · rw [F2.i (by omega), F2.i (by omega), F2.i (by omega), F2.i (by omega)]
        exact ⟨v1.1, v1.2.2.2.2.2.1, v1.2.2.2.2.2.2.1, v1.2.2.2.2.2.2.2⟩
      · intro j h1' h4
        rw [v2 j h1' h4]
        simp only [corI, tg]
        rw [F1.i (by omega), F1.i (by omega)]
  · cases ob with
    | some u => exact absurd z (nI_ne_neg (by have := hu u rfl; omega))
    | none =>
      refine s_surround1 (by omega) (F1.kd k) (F1.kd (st.2.2.2.2.2.2.1 t ht).2) (by omega) (fun h2 F2 v2 => ⟨rfl, hQ h2 ?_ ?_ ?_⟩)
      · exact (F1.weak (fun a k q => ⟨q.1, Or.inl q.2⟩)).tr (F2.weak (fun a k q => ⟨q.1, Or.inr q.2⟩))
      · rw [F2.i (by omega), F2.i (by omega), F2.i (by omega), F2.i (by omega)]
        exact ⟨v1.1, v1.2.2.2.2.2.1, v1.2.2.2.2.2.2.1, v1.2.2.2.2.2.2.2⟩
      · intro j h1' h4
        rw [v2 j h1' h4]
        simp only [corI, tg]
        rw [F1.i (by omega)]
theorem r_inN {x : Int32} {lo hi : Nat} (hh : hi < 100000) {a c : Int64} (ea : a.toInt = lo) (eb : c.toInt = hi) (h0 : (¬ ∃ m, lo ≤ m ∧ m ≤ hi ∧ x = nI m) → Q (some (.int 0)) h) (h1 : ∀ m, lo ≤ m → m ≤ hi → x = nI m → Q (some (.int 1)) h) : Cal G d mX12_in [.long x.toInt64, .long a, .long c] h Q := by
  refine r_in ?_
  rw [ea, eb, ti64]
  by_cases c : (lo : Int) ≤ x.toInt ∧ x.toInt ≤ hi
  · rw [if_pos c]
    obtain ⟨m, hm, rfl⟩ := of_in (n := hi + 1) (x := x) (by omega) (by omega)
    rw [ti_nI (by omega)] at c
    exact h1 m (by omega) (by omega) rfl
  · rw [if_neg c]
    refine h0 (fun ⟨m, q1, q2, q3⟩ => c ?_)
    rw [q3, ti_nI (by omega)]
    omega
end AI
theorem bool_iff {p q : Bool} (h : p = true ↔ q = true) : p = q := by
  cases p <;> cases q <;> simp_all
theorem canB_f (S : Nat → Int32) (C : List Cla) (jn : Prop) (f a : Nat) (ob : Option Nat) (m : Nat) : canB S (C.filter (fun q => q.1 != 15)) jn f a ob m = canB S C jn f a ob m := funext fun i => bool_iff (by rw [canB_iff, canB_iff, canV_f])
theorem valO_f (S : Nat → Int32) (D : List Cla) (f a : Nat) (ob : Option Nat) (m : Nat) : valO S (some (D.filter (fun q => q.1 != 15))) f a ob m = valO S (some D) f a ob m := funext fun i => by
  simp only [valO, valF]
  rw [totF_filter]
theorem InvB.law {G : GG} {u0 : Nat} {h : HP} {b y s p nl nw : Nat} {La Wi : Nat → Nat} (_ : InvB G u0 h b y s p) (T : TextX G h b y nl nw La Wi) {i : Nat} (hi : i < nl) : ∃ C, LawX G h y (La i) i C ∧ ∀ q ∈ C, q.1 ≠ 16 := by
  have := T.1
  obtain ⟨C, LX, k16, -⟩ := scrX_law (i := i) (by omega) ⟨(T.2.2.2.2.2.2.1 i hi).2.1, (T.2.2.2.2.2.2.1 i hi).2.2.1⟩ (T.2.2.2.2.2.2.1 i hi).2.2.2
  exact ⟨C, LX, k16 (by omega)⟩
theorem InvB.wsh {G : GG} {u0 : Nat} {h : HP} {b y s p nl nw : Nat} {La Wi : Nat → Nat} (_ : InvB G u0 h b y s p) (T : TextX G h b y nl nw La Wi) {i : Nat} (hi : i < nw) : ∃ C, LawX G h y (Wi i) (6 + i) C ∧ ∀ q ∈ C, q.1 = 16 := by
  have := T.2.1
  obtain ⟨C, LX, -, k16⟩ := scrX_law (i := 6 + i) (by omega) ⟨(T.2.2.2.2.2.2.2 i hi).2.1, (T.2.2.2.2.2.2.2 i hi).2.2.1⟩ (T.2.2.2.2.2.2.2 i hi).2.2.2
  exact ⟨C, LX, k16 (by omega)⟩
theorem LawX.fs {G : GG} {PI PL : Nat → Nat → Prop} {h h2 : HP} {y A i : Nat} {C : List Cla} (F : FrS PI PL h h2) (hp : ∀ a k, PI a k → ¬ (y + 2 ≤ a ∧ a ≤ y + 7) ∧ ¬ (y + 21 ≤ a)) (L : LawX G h y A i C) : LawX G h2 y A i C := L.fr (F.j (fun _ _ => False)) hp (fun _ _ q => q.elim)
theorem InvB.cho {G : GG} {u0 : Nat} {h : HP} {b y s p : Nat} (I : InvB G u0 h b y s p) : hR h b 10 = some (b + 33) ∧ Kd G h (b + 33) 0 := by
  obtain ⟨-, a1, a2, -⟩ : _ ∧ hR h b 10 = some (b + 33) ∧ Kd G h (b + 33) 0 ∧ hN h (b + 33) = 7 := I.1.2.2.1 (0, 10, 33, 0, 7) (by decide)
  exact ⟨a1, a2⟩
theorem corI_v {h : HP} {s n tc ta : Nat} {S : Nat → Int32} {ob : Option Nat} (C : CoV h s S n) (e : ix n tc ta) (w : tS S ta 0 = 1) (wb : ∀ c, ob = some c → c < 30 ∧ tS S c 0 = 1) {j : Nat} (h1 : 1 ≤ j) (h4 : j ≤ 4) : corI (tg h s) tc ob j = corI (tS S) ta ob j := by
  have a := (C.at_ e w).2.1 j h1 (by omega)
  cases ob with
  | none => exact a
  | some u =>
    have a2 := (C.at_ (Or.inl ⟨(wb u rfl).1, rfl⟩) (wb u rfl).2).2.1 j h1 (by omega)
    simp only [corI]
    rw [a, a2]
theorem s_chm {G : GG} {d : Nat} {h : HP} {Q : Option Value → HP → Prop} {Ch m c k : Nat} {q : Acc} (kC : Kd G h Ch 0) (H : ChI h Ch m c q) (hc : c < 100000) (hk : k < 4) (h0 : q = none → Q (some (.int (-2))) h) (h1 : ∀ r, q = some r → Q (some (.int (nI (mgN m r.1 k)))) h) : Cal G d mX0_margin [.ref Ch, .int (nI k)] h Q := by
  obtain ⟨c0, c1, c2⟩ := H
  have e0 : hI h Ch 0 = 0 ↔ c = 0 := by
    rw [c0]
    exact nI_eq_iff (b := 0) (by omega) (by omega)
  refine e_X0_margin ⟨kC, fun z => ?_, fun z => h0 (c1.mpr (e0.mp z))⟩
  cases q with
  | none => exact absurd (e0.mpr (c1.mp rfl)) z
  | some r =>
    obtain ⟨-, -, c3⟩ := c2 r rfl
    have h1 := h1 r rfl
    rw [← c3 k hk] at h1
    have : k = 0 ∨ k = 1 ∨ k = 2 ∨ k = 3 := by omega
    rcases this with rfl | rfl | rfl | rfl
    · exact ⟨fun _ => h1, fun q => absurd rfl q⟩
    · exact ⟨fun q => absurd q (by decide), fun _ => ⟨fun _ => h1, fun q => absurd rfl q⟩⟩
    · exact ⟨fun q => absurd q (by decide), fun _ => ⟨fun q => absurd q (by decide), fun _ => ⟨fun _ => h1, fun q => absurd rfl q⟩⟩⟩
    · exact ⟨fun q => absurd q (by decide), fun _ => ⟨fun q => absurd q (by decide), fun _ => ⟨fun q => absurd q (by decide), fun _ => h1⟩⟩⟩
theorem seF_cnt (can : Nat → Bool) (val : Nat → Int64) (ln : Nat → Int32) (m : Nat) (hm5 : m ≤ 5) : (seF can val ln m).1 ≤ 625 ∧ ∀ r, (seF can val ln m).2 = some r → r.1 < 625 := by
  have l4 := (m4 hm5).2
  have := foldF_inv (f := weC can val ln) (J := fun i p => p.1 ≤ i ∧ ∀ r, p.2 = some r → r.1 < i) (m * m * m * m) 0 (0, none) (fun i p _ _ h1 => ⟨weC_le h1.1, fun r er => by
    obtain ⟨c, q⟩ := p
    simp only [weC] at er
    cases q with
    | none =>
      simp only [weS] at er
      split at er
      · obtain rfl := Option.some.inj er
        exact Nat.lt_succ_self _
      · cases er
    | some r0 =>
      simp only [weS] at er
      split at er
      · obtain rfl := Option.some.inj er
        exact Nat.lt_succ_self _
      · have := h1.2 r er
        omega⟩) ⟨Nat.le_refl _, fun r er => by cases er⟩
  unfold seF
  exact ⟨by omega, fun r er => by have := this.2 r er; omega⟩
theorem p_best (G : GG) (u0 : Nat) (h : HP) (I : Inv G u0 h) (x1 x2 x3 x4 x5 x6 x7 : Int32) : Pr (Inv G u0) G G.1 (G.1 + 119) mX11_best mX12_best [.int x1, .int x2, .int x3, .int x4, .int x5, .int x6, .int x7] h := by
  obtain ⟨s, p, I⟩ := I
  unfold Pr Inv
  generalize G.1 = b at *
  generalize hy : b + 119 = y at *
  have B := I.bd
  have M := B.2.1
  have ns := I.2.1.1
  obtain ⟨nl, nw', La, Wi, Im, T, X, D0, Bu⟩ := I.1.2.2.2.2.2
  have nl6 := T.1
  have nw6 := T.2.1
  have z0 : (0 : Int32).toInt = 0 := rfl
  have ok : some (Value.int (-1)) = some (Value.int (-1)) ∧ ∃ s p, InvB G u0 h b y s p := ⟨rfl, s, p, I⟩
  -- the reference
  have R : ∀ {h1 : HP} {Q : Option Value → HP → Prop} (I1 : InvB G u0 h1 b y s p) (T0 : hI h1 (y + 2) 0 = nI nl) (T1 : hI h1 (y + 2) 1 = nI nw'), ((¬ ((0 ≤ x1.toInt ∧ x1.toInt < nl) ∧ (0 ≤ x2.toInt ∧ x2.toInt < nw') ∧ askd (said h1 y) x3 x4 x5 ∧ (1 ≤ x6.toInt ∧ x6.toInt ≤ 4) ∧ 0 ≤ x7.toInt ∧ x7.toInt ≤ 4)) → Q (some (.int (-1))) h1) → (((0 ≤ x1.toInt ∧ x1.toInt < nl) ∧ (0 ≤ x2.toInt ∧ x2.toInt < nw') ∧ askd (said h1 y) x3 x4 x5 ∧ (1 ≤ x6.toInt ∧ x6.toInt ≤ 4) ∧ 0 ≤ x7.toInt ∧ x7.toInt ≤ 4) → Cal G 58 mX12_bestBy [.ref y, .int x1, .int x2, .int x3, .int x4, .int x5, .int x6] h1 (fun r27 h28 => ∃ v30, r27 = some (.int v30) ∧ ((¬ x7 = 4 → ((0 ≤ v30 → Cal G 58 mX12_margin [.ref y, .int v30, .int x6, .int x7] h28 (fun r33 h34 => ∃ v36, r33 = some (.int v36) ∧ Q (some (.int v36)) h34)) ∧ (¬ 0 ≤ v30 → Q (some (.int (-2))) h28))) ∧ (x7 = 4 → Q (some (.int (hI h28 y 42))) h28)))) → Cal G 59 mX12_best [.ref y, .int x1, .int x2, .int x3, .int x4, .int x5, .int x6, .int x7] h1 Q := by
    intro h1 Q I1 T0 T1 q0 q1
    refine e_X12_best (by omega) ⟨I1.md.1, r_isText (k := 0) I1.md (by omega) T0 nl6 (fun c => ⟨_, rfl, fun _ => q0 (fun z => c z.1), fun q => absurd rfl q⟩) (fun l hl el => ⟨_, rfl, fun q => absurd q (by decide), fun _ => r_isText (k := 1) I1.md (by omega) T1 nw6 (fun c => ⟨_, rfl, fun _ => q0 (fun z => c z.2.1), fun q => absurd rfl q⟩) (fun w hw ew => ⟨_, rfl, fun q => absurd q (by decide), fun _ => r_areAsked (by omega) I1.md I1.wf (fun c => ⟨_, rfl, fun _ => q0 (fun z => c z.2.2.1), fun q => absurd rfl q⟩) (fun ak => ⟨_, rfl, fun q => absurd q (by decide), fun _ => r_inN (lo := 1) (hi := 4) (by omega) rfl rfl (fun c => ⟨_, rfl, fun _ => q0 (fun z => c ?_), fun q => absurd rfl q⟩) (fun m m1 m2 em => ⟨_, rfl, fun q => absurd q (by decide), fun _ => r_inN (lo := 0) (hi := 4) (by omega) rfl rfl (fun c => ⟨_, rfl, fun q => absurd rfl q, fun _ => q0 (fun z => c ?_)⟩) (fun k k1 k2 ek => ⟨_, rfl, fun _ => q1 ⟨?_, ?_, ak, ?_, ?_⟩, fun q => absurd q (by decide)⟩)⟩)⟩)⟩)⟩)⟩
    · obtain ⟨m, hm, e⟩ := of_in (n := 5) (x := x6) (by omega) (by omega)
      have := z.2.2.2.1
      rw [e, ti_nI (by omega)] at this
      exact ⟨m, by omega, by omega, e⟩
    · obtain ⟨m, hm, e⟩ := of_in (n := 5) (x := x7) (by omega) (by omega)
      exact ⟨m, by omega, by omega, e⟩
    · rw [el, ti_nI (by omega)]; omega
    · rw [ew, ti_nI (by omega)]; omega
    · rw [em, ti_nI (by omega)]; omega
    · rw [ek, ti_nI (by omega)]; omega
  have no : (¬ ((0 ≤ x1.toInt ∧ x1.toInt < nl) ∧ (0 ≤ x2.toInt ∧ x2.toInt < nw') ∧ askd (said h y) x3 x4 x5 ∧ (1 ≤ x6.toInt ∧ x6.toInt ≤ 4) ∧ 0 ≤ x7.toInt ∧ x7.toInt ≤ 4)) → ∃ v, some (Value.int (-1)) = some (.int v) ∧ Cal G 59 mX12_best [.ref y, .int x1, .int x2, .int x3, .int x4, .int x5, .int x6, .int x7] h (fun r2 h2 => r2 = some (.int v) ∧ ∃ s p, InvB G u0 h2 b y s p) := fun c => ⟨_, rfl, R I T.2.2.2.2.1 T.2.2.2.2.2.1 (fun _ => ok) (fun q => absurd q c)⟩
  -- the class
  refine e_X11_best (by omega) ⟨I.kb, s_lawAt I T (fun c => ⟨_, rfl, ?_⟩) (fun l hl el => ⟨_, rfl, s_wishAt I T (fun c => ⟨_, rfl, fun q => (by cases q), fun _ _ => ⟨fun _ => no (fun z => c z.2.1), fun _ q => by cases q⟩⟩) (fun w hw ew => ⟨_, rfl, fun q => (by cases q), fun q11 eq11 => ⟨fun q => (by cases q), fun q13 eq13 => ?_⟩⟩)⟩)⟩
  · exact s_wishAt I T (fun _ => ⟨_, rfl, fun _ => no (fun z => c z.1), fun _ q => by cases q⟩) (fun _ _ _ => ⟨_, rfl, fun _ => no (fun z => c z.1), fun _ q => by cases q⟩)
  obtain rfl : La l = q11 := Option.some.inj eq11
  obtain rfl : Wi w = q13 := Option.some.inj eq13
  refine s_areThere (by omega) B I.kb I.now (fun c => ⟨_, rfl, fun _ => no (fun z => c z.2.2.1), fun q => absurd rfl q⟩) (fun f t ob hf ef ht et wt eo wo => ⟨_, rfl, fun q => absurd q (by decide), fun _ => ⟨fun c => no (fun z => ?_), fun c1 => ⟨fun c => no (fun z => ?_), fun c2 => ⟨fun c => no (fun z => ?_), fun c3 => ⟨fun c4 => ?_, fun c => no (fun z => ?_)⟩⟩⟩⟩⟩)
  · have : (1 : Int32).toInt = 1 := rfl
    rw [ti_lt] at c; omega
  · have : (4 : Int32).toInt = 4 := rfl
    rw [ti_lt] at c; omega
  · rw [ti_lt] at c; omega
  rotate_left
  · have : (4 : Int32).toInt = 4 := rfl
    rw [ti_le] at c; omega
  have t1 : (1 : Int32).toInt = 1 := rfl
  have t4 : (4 : Int32).toInt = 4 := rfl
  rw [ti_lt] at c1 c2 c3
  rw [ti_le] at c4
  obtain ⟨m, hm, em⟩ := of_in (n := 5) (x := x6) (by omega) (by omega)
  obtain ⟨k, hk, ek⟩ := of_in (n := 5) (x := x7) (by omega) (by omega)
  have m1 : 1 ≤ m := by rw [em, ti_nI (by omega)] at c1; omega
  have good : (0 ≤ x1.toInt ∧ x1.toInt < nl) ∧ (0 ≤ x2.toInt ∧ x2.toInt < nw') ∧ askd (said h y) x3 x4 x5 ∧ (1 ≤ x6.toInt ∧ x6.toInt ≤ 4) ∧ 0 ≤ x7.toInt ∧ x7.toInt ≤ 4 := ⟨by rw [el, ti_nI (by omega)]; omega, by rw [ew, ti_nI (by omega)]; omega, ⟨f, t, ob, hf, ef, ht, et, wt, eo, wo⟩, by omega, by omega, by omega⟩
  clear no
  subst el ew em ek ef et eo
  have wo' : thereO (said h y) ob := fun c q => ⟨by have := (wo c q).1; omega, (wo c q).2⟩
  obtain ⟨C, LX, k16⟩ := I.law T hl
  obtain ⟨D, LW, w16⟩ := I.wsh T hw
  have lx6 := LX.2.2.2.2.2
  have lw6 := LW.2.2.2.2.2
  have V := I.vw ht wt
  refine ⟨b + 29, I.plan.1, s_aim (by omega) I.plan.2 I.kb I.now I.st (by omega) (by omega) (fun u q => by have := (wo u q).1; omega) (fun h1 F1 v1 w1 => ⟨rfl, b + 29, (F1.r _ _).trans I.plan.1, b + 33, (F1.r _ _).trans I.cho.1, ?_⟩)⟩
  have I1 : InvB G u0 h1 b y s p := I.scr ((F1.j _).weak (fun a k q => by unfold Scr; omega) (fun _ _ q => q))
  have eS1 : said h1 y = said h y := funext fun j => F1.i (by omega)
  have LX1 := LX.fs (F1.s nop) (fun a k q => by omega)
  have LW1 := LW.fs (F1.s nop) (fun a k q => by omega)
  have V1 := I1.vw ht (by rw [eS1]; exact wt)
  rw [eS1] at V1
  have X1 : SeX G h1 b s (said h y) 0 (b + 29) (b + 33) (La l) C (hI h1 (y + 7) l = 1) (some (Wi w)) (some D) f t t ob := ⟨V1, I1.plw, I1.cho.2, ⟨v1.1, v1.2.1, v1.2.2.1, by rw [v1.2.2.2, sup0 I.wf]; rfl⟩, fun j h1 h4 => (w1 j h1 h4).trans (corI_v V.2.2.2.2.2.1 (Or.inl ⟨ht, rfl⟩) wt wo h1 h4), LX1.2.2.1, LX1.2.2.2.2.1, LW1.2.2.1, LW1.1, LW1.2.1, by omega⟩
  refine s_search (by omega) X1 (by omega) (by omega) (by omega) m1 (by omega) LX1.1 LX1.2.1 hf (Or.inl ⟨ht, rfl⟩) wt wo (fun _ => ht) (fun h2 F2 H2 => ⟨rfl, ?_⟩)
  have hpS : ∀ a k, SeI (b + 29) (b + 33) a k → ¬ (y + 2 ≤ a ∧ a ≤ y + 7) ∧ ¬ (y + 21 ≤ a) := fun a k q => by unfold SeI at q; omega
  have I2 : InvB G u0 h2 b y s p := I1.scr ((F2.j _).weak (fun a k q => by unfold SeI at q; unfold Scr; omega) (fun _ _ q => q))
  have eS2 : said h2 y = said h y := (funext fun j => F2.i (by unfold SeI; omega)).trans eS1
  have LX2 := LX1.fs F2 hpS
  have LW2 := LW1.fs F2 hpS
  have j2 : hI h2 (y + 7) l = hI h1 (y + 7) l := F2.i (by unfold SeI; omega)
  have T20 : hI h2 (y + 2) 0 = nI nl := (F2.i (by unfold SeI; omega)).trans ((F1.i (by omega)).trans T.2.2.2.2.1)
  have T21 : hI h2 (y + 2) 1 = nI nw' := (F2.i (by unfold SeI; omega)).trans ((F1.i (by omega)).trans T.2.2.2.2.2.1)
  have cnt := seF_cnt (canB (said h y) C (hI h1 (y + 7) l = 1) f t ob m) (valO (said h y) (some D) f t ob m) (lnF (said h y) t ob m) m (by omega)
  have W : WfR (said h y) := V.2.2.2.2.2.2.1
  have RB : ∀ {Q : Option Value → HP → Prop}, (∀ h3, InvB G u0 h3 b y s p → hI h3 y 42 = nI (seF (canB (said h y) C (hI h1 (y + 7) l = 1) f t ob m) (valO (said h y) (some D) f t ob m) (lnF (said h y) t ob m) m).1 → Q (some (.int (acI (seF (canB (said h y) C (hI h1 (y + 7) l = 1) f t ob m) (valO (said h y) (some D) f t ob m) (lnF (said h y) t ob m) m).2))) h3) → Cal G 58 mX12_bestBy [.ref y, .int (nI l), .int (nI w), .int (nI f), .int (nI t), .int (onI ob), .int (nI m)] h2 Q := by
    intro Q q
    refine r_bestBy (by omega) I2.md eS2 W m1 (by omega) hf (by omega) wt wo' (by omega) LX2.2.2.2.1 (by rw [j2]) (fun q hq => k16 q (mem_f hq).1) (by omega) LW2.2.2.2.1 (fun q hq => w16 q (mem_f hq).1) (fun h3 F3 v42 v41 => ?_)
    rw [canB_f, valO_f] at v42 ⊢
    exact q h3 (I2.scr ((F3.j _).weak (fun a k q => by unfold BbI at q; unfold Scr; omega) (fun _ _ q => q))) v42
  generalize hq : seF (canB (said h y) C (hI h1 (y + 7) l = 1) f t ob m) (valO (said h y) (some D) f t ob m) (lnF (said h y) t ob m) m = q at *
  refine ⟨fun k4 => ⟨b + 33, I2.cho.1, I2.cho.2, s_chm (m := m) I2.cho.2 H2 (by omega) ?_ (fun e => ⟨_, rfl, _, rfl, R I2 T20 T21 (fun c => absurd (by rw [eS2]; exact good) c) (fun _ => ?_)⟩) (fun r e => ⟨_, rfl, _, rfl, R I2 T20 T21 (fun c => absurd (by rw [eS2]; exact good) c) (fun _ => ?_)⟩)⟩, fun k4 => ⟨b + 33, I2.cho.1, I2.cho.2, _, rfl, R I2 T20 T21 (fun c => absurd (by rw [eS2]; exact good) c) (fun _ => ?_)⟩⟩
  · have : ¬ k = 4 := fun z => k4 (by rw [z]; rfl)
    omega
  · refine RB (fun h3 I3 v42 => ⟨_, rfl, fun _ => ⟨fun z => ?_, fun z => ⟨rfl, s, p, I3⟩⟩, fun z => absurd z k4⟩)
    rw [e] at z
    exact absurd z (by decide)
  · refine RB (fun h3 I3 v42 => ⟨_, rfl, fun _ => ⟨fun z => ?_, fun z => ?_⟩, fun z => absurd z k4⟩)
    · rw [e]
      have : ¬ k = 4 := fun z => k4 (by rw [z]; rfl)
      exact r_margin m1 (by omega) (by have := cnt.2 r e; omega) (by omega) ⟨_, rfl, rfl, s, p, I3⟩
    · rw [e] at z
      refine absurd ?_ z
      simp only [acI]
      rw [ti_le, ti_nI (by have := cnt.2 r e; omega), z0]
      omega
  · refine RB (fun h3 I3 v42 => ⟨_, rfl, fun z => absurd k4 z, fun _ => ⟨?_, s, p, I3⟩⟩)
    rw [v42, H2.1]
