/-! ===== years ===== -/
def setS (S : Nat → Int32) (i : Nat) (v : Int32) (j : Nat) : Int32 := if j = i then v else S j
theorem setS_ne {S : Nat → Int32} {i j : Nat} {v : Int32} (h : j ≠ i) : setS S i v j = S j := if_neg h
theorem setS_eq {S : Nat → Int32} {i : Nat} {v : Int32} : setS S i v i = v := if_pos rfl
theorem setS_set {S : Nat → Int32} {i : Nat} {v v' : Int32} : setS (setS S i v) i v' = setS S i v' := funext fun j => by
  unfold setS
  by_cases h : j = i
  · rw [if_pos h, if_pos h]
  · rw [if_neg h, if_neg h, if_neg h]
theorem tS_setS {S : Nat → Int32} {i : Nat} {v : Int32} (h : i < 1608) : tS (setS S i v) = tS S := funext fun t => funext fun k => by
  unfold tS
  exact setS_ne (by omega)
theorem WF.set {S : Nat → Int32} (W : WF S) {i : Nat} (hi : i = 3 ∨ i = 4) {v : Int32} (hv : 0 ≤ v.toInt) : WF (setS S i v) := by
  obtain ⟨⟨a1, a2, a3, a4, a5⟩, a6, a7, a8, a9, a10, a11⟩ := W.1
  have e : ∀ j, j ≠ 3 → j ≠ 4 → setS S i v j = S j := fun j h1 h2 => setS_ne (by omega)
  refine W.nums (fun u k _ _ => by rw [tS_setS (by omega)]) (e 0 (by omega) (by omega)) (e 1 (by omega) (by omega)) (e 2 (by omega) (by omega)) ⟨?_, fun c hc => by rw [e _ (by omega) (by omega)]; exact a6 c hc, fun j hj => by rw [e _ (by omega) (by omega)]; exact a7 j hj, fun f hf => by rw [e _ (by omega) (by omega)]; exact a8 f hf, fun k hk => ?_⟩
  · rcases hi with rfl | rfl
    · rw [setS_eq, setS_ne (by omega)]
      exact ⟨hv, a5⟩
    · rw [setS_eq, setS_ne (by omega)]
      exact ⟨a4, hv⟩
  · rw [e _ (by omega) (by omega), e _ (by omega) (by omega)]
    rcases a11 k hk with q | ⟨q1, q2, q3⟩
    · exact Or.inl q
    · exact Or.inr ⟨q1, q2, fun j h1 h2 => by rw [e _ (by omega) (by omega)]; exact q3 j h1 h2⟩
theorem CoSt.set {h h2 : HP} {s : Nat} {S : Nat → Int32} (W : WF S) (C : CoSt h s S) {i : Nat} (hi : i = 3 ∨ i = 4) {v : Int32} (F : ∀ a k, s ≤ a → a < s + 42 → ¬ (a = s ∧ k = i) → hI h2 a k = hI h a k) (ev : hI h2 s i = v) : CoSt h2 s (setS S i v) := by
  have e : ∀ j, j ≠ 3 → j ≠ 4 → setS S i v j = S j := fun j h1 h2 => setS_ne (by omega)
  refine CoSt.nums W C (fun t k ht => F _ _ (by omega) (by omega) (by omega)) (fun u k _ _ => by rw [tS_setS (by omega)]) (fun j hj => ?_) (fun c hc => ?_) (fun j hj => ?_) (fun k hk => ?_)
  · by_cases q : j = i
    · subst q
      rw [setS_eq]; exact ev
    · rw [setS_ne q, F _ _ (by omega) (by omega) (by omega)]
      exact C.1 j hj
  · rw [e _ (by omega) (by omega), F _ _ (by omega) (by omega) (by omega)]
    exact C.2.1 c hc
  · rw [e _ (by omega) (by omega), F _ _ (by omega) (by omega) (by omega)]
    exact C.2.2.1 j hj
  · rw [e _ (by omega) (by omega), F _ _ (by omega) (by omega) (by omega)]
    refine ⟨(C.2.2.2.2.2 k hk).1, fun q j h1 h2 => ?_⟩
    rw [e _ (by omega) (by omega), F _ _ (by omega) (by omega) (by omega)]
    exact (C.2.2.2.2.2 k hk).2 q j h1 h2
noncomputable def dI : Nat → Nat → Nat
  | 0, n => n
  | k + 1, n => dN (dI k n)
theorem dI_S (k n : Nat) : dN (dI k n) = dI (k + 1) n := rfl
theorem dI_0 (n : Nat) : dI 0 n = n := rfl
theorem dI_1 (n : Nat) : dN n = dI 1 n := rfl
theorem dI_lt {k n : Nat} (h : n < 2147483648) : dI k n < 2147483648 := by
  cases k with
  | zero => exact h
  | succ k => exact dN_lt _
def sed (S : Nat → Int32) : Nat := (S 4).toInt.toNat
theorem wf_sed {S : Nat → Int32} (W : WF S) : S 4 = nI (sed S) ∧ sed S < 2147483648 := by
  have a := W.1.1.2.2.2.2
  have b := ti_hi (S 4)
  unfold sed
  exact ⟨nI_ti (by omega), by omega⟩
/-- what is drawn, k-th -/
noncomputable def dV (S : Nat → Int32) (k : Nat) : Nat := dI k (sed S) / 65536
noncomputable def yX (S : Nat → Int32) (t : Nat) : Int32 := tS S t 1 - nI (1 + dV S 3 % 3)
noncomputable def yZ (S : Nat → Int32) (t : Nat) : Int32 := tS S t 2 - nI (1 + dV S 4 % 3)
noncomputable def yTX (S : Nat → Int32) (t : Nat) : Int32 := tS S t 3 + nI (1 + dV S 5 % 3)
noncomputable def yTZ (S : Nat → Int32) (t : Nat) : Int32 := tS S t 4 + nI (1 + dV S 6 % 3)
noncomputable def yS1 (S : Nat → Int32) : Nat → Int32 := setS S 4 (nI (dI 6 (sed S)))
def yCan (C : List Cla) (jn : Prop) (S : Nat → Int32) (t : Nat) : Prop := canV (yS1 S) C jn (dV S 1 % 12) (yX S t) (yZ S t) (yTX S t) (yTZ S t) t none
def YrA (C : List Cla) (jn : Prop) (S S' : Nat → Int32) (c : Nat) : Prop :=
  (¬ 0 < (S 2).toInt ∧ S' = S ∧ c = 0) ∨
  (0 < (S 2).toInt ∧ ∃ t, oaF (outB (tS S)) (dV S 2 % cntF (outB (tS S)) 0 30) 0 30 = some t ∧ t < 30 ∧ tS S t 0 = 1 ∧
    ((frN (tS S) = none ∧ S' = yS1 S ∧ c = 0) ∨ ∃ w, frN (tS S) = some w ∧ ((yCan C jn S t ∧ S' = bldS (yS1 S) w (yX S t) (yZ S t) (yTX S t) (yTZ S t) (nI (dV S 1 % 12)) t none ∧ c = 1) ∨ (¬ yCan C jn S t ∧ S' = yS1 S ∧ c = 0))))
def Yr (C : List Cla) (jn : Prop) (S S' : Nat → Int32) (c : Nat) : Prop := ∃ S1, YrA C jn S S1 c ∧ S' = setS S1 3 (S1 3 + 1)
def YrN (C : List Cla) (jn : Prop) : Nat → (Nat → Int32) → (Nat → Int32) → Nat → Prop
  | 0, S, S', c => S' = S ∧ c = 0
  | n + 1, S, S', c => ∃ S1 c1 c2, Yr C jn S S1 c1 ∧ YrN C jn n S1 S' c2 ∧ c = c1 + c2
theorem YrA.off {C : List Cla} {jn : Prop} {S S' : Nat → Int32} {c : Nat} (Y : YrA C jn S S' c) {j : Nat} (h4 : j ≠ 4) (hj : ¬ (1608 ≤ j ∧ j < 2256)) : S' j = S j := by
  have e1 : yS1 S j = S j := setS_ne h4
  rcases Y with ⟨-, rfl, -⟩ | ⟨-, t, -, -, -, ⟨-, rfl, -⟩ | ⟨w, -, ⟨-, rfl, -⟩ | ⟨-, rfl, -⟩⟩⟩
  · rfl
  · exact e1
  · rw [bld_off hj]; exact e1
  · exact e1
theorem YrA.le {C : List Cla} {jn : Prop} {S S' : Nat → Int32} {c : Nat} (Y : YrA C jn S S' c) : c ≤ 1 := by
  rcases Y with ⟨-, -, h⟩ | ⟨-, t, -, -, -, ⟨-, -, h⟩ | ⟨w, -, ⟨-, -, h⟩ | ⟨-, -, h⟩⟩⟩ <;> omega
theorem yS1_wf {S : Nat → Int32} (W : WF S) : WF (yS1 S) := by
  have l := dI_lt (k := 6) (wf_sed W).2
  exact W.set (Or.inr rfl) (by rw [ti_nI l]; omega)
theorem tS_y {S : Nat → Int32} : tS (yS1 S) = tS S := tS_setS (by omega)
theorem YrA.wf {C : List Cla} {jn : Prop} {S S' : Nat → Int32} {c : Nat} (W : WF S) (Y : YrA C jn S S' c) : WF S' := by
  have W1 := yS1_wf W
  rcases Y with ⟨-, rfl, -⟩ | ⟨-, t, -, ht, t0, ⟨-, rfl, -⟩ | ⟨w, hw, ⟨cv, rfl, -⟩ | ⟨-, rfl, -⟩⟩⟩
  · exact W
  · exact W1
  · obtain ⟨w6, w30, w0⟩ := frN_free W hw
    exact W1.bld cv (Nat.mod_lt _ (by omega)) w6 w30 (by rw [tS_y]; exact w0) ht (by rw [tS_y]; exact t0) (fun c q => by cases q)
  · exact W1
theorem YrN.off {C : List Cla} {jn : Prop} : ∀ {n : Nat} {S S' : Nat → Int32} {c : Nat}, YrN C jn n S S' c → (∀ j, j ≠ 3 → j ≠ 4 → ¬ (1608 ≤ j ∧ j < 2256) → S' j = S j) ∧ c ≤ n
  | 0, S, S', c, h => by
    obtain ⟨rfl, rfl⟩ := h
    exact ⟨fun _ _ _ _ => rfl, Nat.le_refl _⟩
  | n + 1, S, S', c, h => by
    obtain ⟨S1, c1, c2, ⟨S0, Y, rfl⟩, h2, rfl⟩ := h
    obtain ⟨a, b⟩ := YrN.off h2
    have := Y.le
    exact ⟨fun j h3 h4 hj => by rw [a j h3 h4 hj, setS_ne h3, Y.off h4 hj], by omega⟩
def LvX (G : GG) (h : HP) (b s : Nat) (S : Nat → Int32) (A : Nat) (C : List Cla) (jn : Prop) : Prop := (Kd G h b 11 ∧ hR h b 12 = some s ∧ hR h b 8 = some (b + 29) ∧ PlW G h (b + 29) ∧ hR h b 6 = some (b + 15) ∧ TbSh G h b) ∧ StSh G h s ∧ CoSt h s S ∧ WF S ∧ (noTh S ∨ SumsOK h b S) ∧ ScrC G h A C ∧ (hI h A 0 = 0 ↔ ¬ jn)
def LvS (b s A : Nat) (C : List Cla) : Prop := (b + 34 < s ∧ s + 42 ≤ b + 140 ∧ b + 140 ≤ A) ∧ C.length ≤ 12 ∧ ∀ q ∈ C, ClaP q
def DwI (b s a k : Nat) : Prop := (a = s ∧ (k = 3 ∨ k = 4)) ∨ (s + 5 ≤ a ∧ a ≤ s + 35) ∨ a = b + 29
def DwL (b A a : Nat) (_ : Nat) : Prop := a = b + 30 ∨ a = A + 5
theorem LvX.up {G : GG} {h h2 : HP} {b s : Nat} {S S' : Nat → Int32} {A : Nat} {C : List Cla} {jn : Prop} {PL : Nat → Nat → Prop} (X : LvX G h b s S A C jn) (D : LvS b s A C) (F : FrS (DwI b s) PL h h2) (C' : CoSt h2 s S') (W' : WF S') (e : ∀ j, j ≠ 3 → j ≠ 4 → ¬ (1608 ≤ j ∧ j < 2256) → S' j = S j) (hn : noTh S → noTh S') : LvX G h2 b s S' A C jn := by
  obtain ⟨⟨x1, x2, x3, x4, x5, x6⟩, x7, x8, x9, x10, x11, x12⟩ := X
  have hd := D.1
  refine ⟨⟨F.kd x1, (F.r _ _).trans x2, (F.r _ _).trans x3, x4.fs F, (F.r _ _).trans x5, x6.fs F⟩, x7.fs F, C', W', ?_, x11.fs F (fun x k z => by unfold DwI at z; omega), ?_⟩
  · rcases x10 with q | q
    · exact Or.inl (hn q)
    · exact Or.inr ((q.fr (fun a k h1 h2 => F.i (fun z => by unfold DwI at z; omega))).congr (e 0 (by omega) (by omega) (by omega)) (e 1 (by omega) (by omega) (by omega)) x9.1.1.1.2 x9.1.1.2.1.2 (fun c hc => e _ (by omega) (by omega) (by omega)))
  · rw [F.i (fun z => by unfold DwI at z; omega)]
    exact x12
section YC
variable {G : GG} {d : Nat} {h : HP} {b s A : Nat} {S : Nat → Int32} {C : List Cla} {jn : Prop} {Q : Option Value → HP → Prop}
theorem s_drawWall (hd : 8 ≤ d) (X : LvX G h b s S A C jn) (D : LvS b s A C) (hy : (S 3).toInt ≤ 20000) (hp : 0 < (S 2).toInt) (hQ : ∀ h2 S' c, YrA C jn S S' c → FrS (DwI b s) (DwL b A) h h2 → CoSt h2 s S' → Q (some (.int (nI c))) h2) : Cal G d mX11_drawWall [.ref b, .ref A] h Q := by
  obtain ⟨⟨x1, x2, x3, x4, x5, x6⟩, x7, x8, x9, x10, x11, x12⟩ := id X
  have hD := D.1
  obtain ⟨e4, n31⟩ := wf_sed x9
  have nc := x9.nest hp
  have l1 := dI_lt (k := 1) n31
  have l2 := dI_lt (k := 2) n31
  have l3 := dI_lt (k := 3) n31
  have l4 := dI_lt (k := 4) n31
  have l5 := dI_lt (k := 5) n31
  have l6 := dI_lt (k := 6) n31
  have s4 : hI h s 4 = nI (sed S) := (x8.1 4 (by omega)).trans e4
  refine e_X11_drawWall (by omega) ⟨x1, s, x2, x7.1, s_draw x7.1 n31 s4 ⟨_, rfl, s, (hR_sI ..).trans x2, x7.1.up (kp_sI ..), s_draw (n := dI 1 (sed S)) (x7.1.up (kp_sI ..)) l1 (by rw [hI_eq, dI_1]) ⟨_, rfl, ?_⟩⟩⟩
  generalize e1 : sI h s 4 (nI (dN (sed S))) = h1
  generalize e2 : sI h1 s 4 (nI (dN (dI 1 (sed S)))) = h2
  have F2 : FrI (fun a k => a = s ∧ k = 4) h h2 := by
    rw [← e2, ← e1]
    exact (FrI.sI _ _ ⟨rfl, rfl⟩).tr (FrI.sI _ _ ⟨rfl, rfl⟩)
  have v2 : hI h2 s 4 = nI (dI 2 (sed S)) := by rw [← e2, hI_eq, dI_S]
  have st2 : StSh G h2 s := x7.fr F2
  have eo : ∀ {g : HP}, FrI (fun a k => a = s ∧ k = 4) h g → ∀ t, t < 30 → outB (tg g s) t = outB (tS S) t := fun F t ht => by
    have c := x8.2.2.2.1 t ht
    unfold outB tg
    rw [F.i (by omega), F.i (by omega)]
    have c0 : hI h (s + 5 + t) 0 = tS S t 0 := c.1
    rw [c0]
    rcases x9.2.2.1 t (by omega) with q | q
    · rw [q]
      have : ((0 : Int32) != 0) = false := by decide
      rw [this, Bool.false_and, Bool.false_and]
    · have c6 : hI h (s + 5 + t) 6 = tS S t 6 := (c.2 q).1 6 (by omega) (by omega)
      rw [c6]
  have ec : cntF (outB (tg h2 s)) 0 30 = cntF (outB (tS S)) 0 30 := cntF_congr 30 0 (fun t _ ht => eo F2 t (by omega))
  refine s_outermostAt (by omega) st2 (by have := dN_lt (dI 1 (sed S)); omega) (by rw [ec]; exact nc) ⟨_, rfl, ?_⟩
  have eoa : oaF (outB (tg h2 s)) (dN (dI 1 (sed S)) / 65536 % cntF (outB (tg h2 s)) 0 30) 0 30 = oaF (outB (tS S)) (dV S 2 % cntF (outB (tS S)) 0 30) 0 30 := by
    have dv2 : dN (dI 1 (sed S)) / 65536 = dV S 2 := by
      rw [dI_S]
      unfold dV
      rfl
    rw [ec, dv2]
    exact oaF_congr 30 _ 0 (fun t _ ht => eo F2 t (by omega))
  rw [eoa]
  obtain ⟨t, ot, -, ht, wt⟩ := oaF_some (p := outB (tS S)) 30 (dV S 2 % cntF (outB (tS S)) 0 30) 0 (Nat.mod_lt _ nc)
  rw [ot]
  have ht : t < 30 := by omega
  have t0 : tS S t 0 = 1 := by
    rcases x9.2.2.1 t (by omega) with q | q
    · unfold outB at wt
      rw [q] at wt
      simp at wt
    · exact q
  refine ⟨s, (F2.r _ _).trans x2, st2.1, s_draw (n := dI 2 (sed S)) st2.1 l2 v2 ⟨_, rfl, s, (hR_sI ..).trans ((F2.r _ _).trans x2), st2.1.up (kp_sI ..), s_draw (n := dI 3 (sed S)) (st2.1.up (kp_sI ..)) l3 (by rw [hI_eq, dI_S]) ⟨_, rfl, ?_⟩⟩⟩
  generalize e3 : sI h2 s 4 (nI (dN (dI 2 (sed S)))) = h3
  generalize e4' : sI h3 s 4 (nI (dN (dI 3 (sed S)))) = h4
  have F4 : FrI (fun a k => a = s ∧ k = 4) h h4 := by
    rw [← e4', ← e3]
    exact (F2.tr (FrI.sI _ _ ⟨rfl, rfl⟩)).tr (FrI.sI _ _ ⟨rfl, rfl⟩)
  have st4 : StSh G h4 s := x7.fr F4
  refine ⟨s, (F4.r _ _).trans x2, st4.1, s_draw (n := dI 4 (sed S)) st4.1 l4 (by rw [← e4', hI_eq, dI_S]) ⟨_, rfl, s, (hR_sI ..).trans ((F4.r _ _).trans x2), st4.1.up (kp_sI ..), s_draw (n := dI 5 (sed S)) (st4.1.up (kp_sI ..)) l5 (by rw [hI_eq, dI_S]) ⟨_, rfl, ?_⟩⟩⟩
  generalize e5 : sI h4 s 4 (nI (dN (dI 4 (sed S)))) = h5
  generalize e6 : sI h5 s 4 (nI (dN (dI 5 (sed S)))) = h6
  have F6 : FrI (fun a k => a = s ∧ k = 4) h h6 := by
    rw [← e6, ← e5]
    exact (F4.tr (FrI.sI _ _ ⟨rfl, rfl⟩)).tr (FrI.sI _ _ ⟨rfl, rfl⟩)
  have st6 : StSh G h6 s := x7.fr F6
  have C6 : CoSt h6 s (yS1 S) := CoSt.set x9 x8 (Or.inr rfl) (v := nI (dI 6 (sed S))) (fun a k h1 h2 q => F6.i q) (by rw [← e6, hI_eq, dI_S])
  have W6 := yS1_wf x9
  have FS6 : FrS (DwI b s) (DwL b A) h h6 := (F6.s _).weak (fun a k q => Or.inl ⟨q.1, Or.inr q.2⟩) (fun _ _ q => q)
  refine ⟨s, (F6.r _ _).trans x2, st6.1, s_frN st6 C6 ⟨_, rfl, fun z => absurd z (nI_ne_neg (by omega)), fun _ => ⟨fun z => ?_, fun z => ?_⟩⟩⟩
  rotate_left
  · have on : frN (tS S) = none := by
      rw [tS_y] at z
      exact (onI_neg (fun w q => by have := (frN_free x9 q).2.1; omega)).mp z
    exact hQ h6 _ 0 (Or.inr ⟨hp, t, ot, ht, t0, Or.inl ⟨on, rfl, rfl⟩⟩) FS6 C6
  cases hw : frN (tS S) with
  | none =>
    rw [tS_y, hw] at z
    exact absurd rfl z
  | some w =>
    obtain ⟨w6, w30, w0⟩ := frN_free x9 hw
    have so : SumsOK h b S := x10.resolve_left (fun q => by rw [q t ht] at t0; exact absurd t0 (by decide))
    have X6 := X.up D FS6 C6 W6 (fun j _ h4 _ => setS_ne h4) (fun q u hu => by rw [tS_y]; exact q u hu)
    obtain ⟨⟨y1, y2, y3, y4, y5, y6⟩, y7, y8, y9, y10, y11, y12⟩ := id X6
    refine ⟨b + 29, y3, s_aim (ob := none) (by omega) y4.1 y1 y2 y7 (by omega) (by omega) (fun u q => by cases q) (fun h7 F7 v7 w7 => ⟨rfl, b + 29, (F7.r _ _).trans y3, F7.kd y4.1, s_spread (F7.kd y4.1) (fun h8 F8 v8 _ => ⟨rfl, b + 29, (F8.r _ _).trans ((F7.r _ _).trans y3), ?_⟩)⟩)⟩
    have FS8 : FrS (DwI b s) (DwL b A) h6 h8 := ((F7.s _).weak (fun a k q => Or.inr (Or.inr q.1)) (fun _ _ q => q)).tr ((F8.s _).weak (fun a k q => Or.inr (Or.inr q.1)) (fun _ _ q => q))
    have C8 : CoSt h8 s (yS1 S) := C6.fr (fun a k h1 h2 => (F8.i (by omega)).trans (F7.i (by omega)))
    have X8 := X6.up D FS8 C8 W6 (fun _ _ _ _ => rfl) (fun q => q)
    obtain ⟨⟨z1, z2, z3, z4, z5, z6⟩, z7, z8, z9, z10, z11, z12⟩ := id X8
    have so8 : SumsOK h8 b (yS1 S) := z10.resolve_left (fun q => by
      have := q t ht
      rw [tS_y, t0] at this
      exact absurd this (by decide))
    have ct : ∀ k, 1 ≤ k → k ≤ 6 → tg h6 s t k = tS S t k := fun k h1 h6' => by
      have := ((y8.2.2.2.1 t ht).2 (by rw [tS_y]; exact t0)).1 k h1 h6'
      rw [tS_y] at this
      exact this
    have m3 : ∀ k, 1 + irm (nI (dN (dI k (sed S)) / 65536)) 3 = nI (1 + dV S (k + 1) % 3) := fun k => by
      have := dI_lt (k := k + 1) n31
      have e : irm (nI (dI (k + 1) (sed S) / 65536)) 3 = nI (dI (k + 1) (sed S) / 65536 % 3) := nR (m := 3) (by omega) (by omega)
      have one : (1 : Int32) = nI 1 := rfl
      rw [dI_S, e, one, nA]
      unfold dV
      rfl
    have b9 : ∀ j, 1 ≤ j → j ≤ 4 → hI h7 (b + 29) (8 + j) = tS S t j := fun j h1 h4 => (w7 j h1 h4).trans (ct j h1 (by omega))
    have V8 : VwC G h8 b s (yS1 S) 0 := ⟨z1, z2, z5, z6, z7, z8.v z9, z9.r (by show (setS S 4 _ 3).toInt ≤ 20000; rw [setS_ne (by omega)]; exact hy), so8⟩
    have vx := v8.1
    have vz := v8.2.1
    have vtx := v8.2.2.1
    have vtz := v8.2.2.2
    rw [m3 2, b9 1 (by omega) (by omega)] at vx
    rw [m3 3, b9 2 (by omega) (by omega)] at vz
    rw [m3 4, b9 3 (by omega) (by omega)] at vtx
    rw [m3 5, b9 4 (by omega) (by omega)] at vtz
    have fam : irm (nI (dN (sed S) / 65536)) 12 = nI (dV S 1 % 12) := by
      rw [dI_1]
      unfold dV
      exact nR (m := 12) (by omega) (by omega)
    have p8 : ∀ k, k = 0 ∨ k = 5 ∨ k = 6 ∨ k = 7 → hI h8 (b + 29) k = hI h7 (b + 29) k := fun k hk => F8.i (by omega)
    have PL8 : PlI h8 (b + 29) (dV S 1 % 12) (yX S t) (yZ S t) (yTX S t) (yTZ S t) t none := ⟨⟨vx, vz, vtx, vtz⟩, (p8 5 (by omega)).trans v7.2.1, (p8 6 (by omega)).trans v7.2.2.1, ((p8 0 (by omega)).trans v7.1).trans fam⟩
    refine s_mayCome (by omega) V8 z4 (by omega) PL8 (by rw [p8 7 (by omega), v7.2.2.2, sup0 z9]; rfl) (Nat.mod_lt _ (by omega)) (Or.inl ⟨ht, rfl⟩) (by rw [tS_y]; exact t0) (fun c q => by cases q) (fun _ => ht) z11 D.2.1 D.2.2 z12 (by omega) (fun h9 v F9 b01 ev _ => ⟨_, rfl, ?_⟩)
    have FS9 : FrS (DwI b s) (DwL b A) h8 h9 := F9.weak (fun a k q => by unfold McI at q; exact Or.inr (Or.inr q.1)) (fun a k q => by unfold McL at q; exact q)
    have C9 : CoSt h9 s (yS1 S) := C8.fr (fun a k h1 h2 => F9.i (by unfold McI; omega))
    have X9 := X8.up D FS9 C9 W6 (fun _ _ _ _ => rfl) (fun q => q)
    refine ⟨fun zv => ⟨s, X9.1.2.1, b + 29, X9.1.2.2.1, X9.2.1.1, ?_⟩, fun zv => hQ h9 _ 0 (Or.inr ⟨hp, t, ot, ht, t0, Or.inr ⟨w, hw, Or.inr ⟨fun q => ?_, rfl, rfl⟩⟩⟩) ((FS6.tr FS8).tr FS9) C9⟩
    · have cv := ev.mp (b01.resolve_left zv)
      have H := canV_blh cv w6 (by omega) (by rw [tS_y]; exact w0) (by omega) (by rw [tS_y]; exact t0) (fun c q => by cases q)
      rw [tS_y, hw]
      refine s_raise (w := w) (by omega) X9.2.1 X9.1.2.2.2.1.1 (by omega) (PL8.fs F9 (fun k hk q => by unfold McI at q; omega)) (by omega) (by omega) (fun c q => by cases q) (fun h10 F10 v10 => ⟨rfl, ?_⟩)
      refine hQ h10 _ 1 (Or.inr ⟨hp, t, ot, ht, t0, Or.inr ⟨w, hw, Or.inl ⟨cv, rfl, rfl⟩⟩⟩) (((FS6.tr FS8).tr FS9).tr ((F10.s _).weak (fun a k q => Or.inr (Or.inl q)) (fun _ _ q => q))) ?_
      exact C9.bld W6 H w30 ht (fun c q => by cases q) F10 v10
    · have := ev.mpr q
      rw [zv] at this
      exact absurd this (by decide)
theorem s_live (hd : 9 ≤ d) (D : LvS b s A C) {N : Nat} (hN : N ≤ 60) : ∀ (n i c : Nat) (S : Nat → Int32) (h : HP), i + n = N → c ≤ i → LvX G h b s S A C jn → (S 3).toInt + n ≤ 20000 → (∀ h2 S' c', YrN C jn n S S' c' → FrS (DwI b s) (DwL b A) h h2 → LvX G h2 b s S' A C jn → Q (some (.int (nI (c + c')))) h2) → Ex G d mX11_live 5 [(0, .ref b), (1, .ref A), (2, .int (nI N)), (3, .int (nI c)), (4, .int (nI i))] [] h Q := by
  intro n
  induction n with
  | zero =>
    intro i c S h hi hc X hy hQ
    obtain rfl : i = N := by omega
    exact t_X11_live_5 (by omega) ⟨fun _ => hQ h S 0 ⟨rfl, rfl⟩ (frS_rf _ _ _) X, fun q => absurd ((nI_le_iff (by omega) (by omega)).mpr (Nat.le_refl _)) q⟩
  | succ n ih =>
    intro i c S h hi hc X hy hQ
    obtain ⟨⟨x1, x2, x3, x4, x5, x6⟩, x7, x8, x9, x10, x11, x12⟩ := id X
    have hD := D.1
    have s2 : hI h s 2 = S 2 := x8.1 2 (by omega)
    have z0 : (0 : Int32).toInt = 0 := rfl
    have y0 := x9.1.1.2.2.2.1
    have next : ∀ h2 S1 c1, YrA C jn S S1 c1 → FrS (DwI b s) (DwL b A) h h2 → CoSt h2 s S1 → Ex G d mX11_live 32 [(0, .ref b), (1, .ref A), (2, .int (nI N)), (3, .int (nI (c + c1))), (4, .int (nI i))] [] h2 Q := by
      intro h2 S1 c1 Y F2 C2
      have W1 := Y.wf x9
      have e3 : S1 3 = S 3 := Y.off (by omega) (by omega)
      have X2 : LvX G h2 b s S1 A C jn := X.up D F2 C2 W1 (fun j _ h4 hj => Y.off h4 hj) (fun q => by
        rcases id Y with ⟨-, rfl, -⟩ | ⟨-, t, -, ht, t0, -⟩
        · exact q
        · rw [q t ht] at t0
          exact absurd t0 (by decide))
      have s3 : hI h2 s 3 = S1 3 := C2.1 3 (by omega)
      have one : (1 : Int32).toInt = 1 := rfl
      have t3 : (S1 3 + 1).toInt = (S 3).toInt + 1 := by
        rw [e3, ti_add (by rw [one]; omega) (by rw [one]; omega), one]
      refine t_X11_live_32 ⟨X2.1.1, s, X2.1.2.1, X2.2.1.1, ?_⟩
      rw [s3, nI_S]
      have F3 : FrS (DwI b s) (DwL b A) h2 (sI h2 s 3 (S1 3 + 1)) := frS_sI _ _ (Or.inl ⟨rfl, Or.inl rfl⟩)
      have W3 : WF (setS S1 3 (S1 3 + 1)) := W1.set (Or.inl rfl) (by rw [t3]; omega)
      have C3 : CoSt (sI h2 s 3 (S1 3 + 1)) s (setS S1 3 (S1 3 + 1)) := CoSt.set W1 C2 (Or.inl rfl) (fun a k h1 h2 q => hI_ne _ _ (by omega)) (hI_eq _ _ _ _)
      have X3 : LvX G (sI h2 s 3 (S1 3 + 1)) b s (setS S1 3 (S1 3 + 1)) A C jn := X2.up D F3 C3 W3 (fun j h3 _ _ => setS_ne h3) (fun q u hu => by rw [tS_setS (by omega)]; exact q u hu)
      have := Y.le
      refine ih (i + 1) (c + c1) _ _ (by omega) (by omega) X3 (by rw [setS_eq, t3]; omega) (fun h4 S' c' YN F4 X4 => ?_)
      have := hQ h4 S' (c1 + c') ⟨_, c1, c', ⟨S1, Y, rfl⟩, YN, rfl⟩ ((F2.tr F3).tr F4) X4
      rw [← Nat.add_assoc] at this
      exact this
    refine t_X11_live_5 (by omega) ⟨fun q => ?_, fun _ => ⟨x1, s, x2, x7.1, fun q => ?_, fun q => ?_⟩⟩
    · have := (nI_le_iff (by omega) (by omega)).mp q
      omega
    · rw [s2, ti_le, z0] at q
      exact next h S 0 (Or.inl ⟨by omega, rfl, rfl⟩) (frS_rf _ _ _) x8
    · rw [s2, ti_le, z0] at q
      refine s_drawWall (by omega) X D (by omega) (by omega) (fun h2 S' c' Y F2 C2 => ⟨_, rfl, fun z => ?_, fun z => ?_⟩)
      · have c0 : c' = 0 := by
          have := Y.le
          exact (nI_eq_iff (b := 0) (by omega) (by omega)).mp z
        subst c0
        exact next h2 S' 0 Y F2 C2
      · have c1 : c' = 1 := by
          have := Y.le
          have : c' ≠ 0 := fun e => z (by rw [e]; rfl)
          omega
        subst c1
        rw [nI_S]
        exact next h2 S' 1 Y F2 C2
end YC
