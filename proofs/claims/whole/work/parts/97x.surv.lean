/-! ===== ways of the class: where one may go ===== -/
theorem opk1 : ∀ k, k < 16 → ∀ s, s < 4 → nI k ||| (1 <<< (nI s &&& 31)) = nI (k ||| 2 ^ s) := by decide +kernel
theorem opk2 : ∀ k, k < 16 → ∀ t, t < 4 → (((nI k >>> (nI t &&& 31)) &&& 1) = 1 ↔ k.testBit t = true) := by decide +kernel
theorem opk3 : ∀ k, k < 16 → ∀ s, s < 4 → (k ||| 2 ^ s) < 16 := by decide +kernel
theorem opk4 : ∀ k, k < 16 → ∀ s, s < 4 → ∀ t, t < 4 → ((k ||| 2 ^ s).testBit t = true ↔ k.testBit t = true ∨ t = s) := by decide +kernel
theorem or2_128 {k m : Nat} (hk : k < 512) (hm : m < 512) : (nI k ||| nI m) &&& 128 = 0 ↔ ¬ k / 128 % 2 = 1 ∧ ¬ m / 128 % 2 = 1 := by
  have l : k ||| m < 2 ^ 9 := Nat.or_lt_two_pow (by omega) (by omega)
  have p9 : (2 : Nat) ^ 9 = 512 := rfl
  rw [nOr (by omega) (by omega), and128 (by omega)]
  have e : (k ||| m) / 2 ^ 7 % 2 = 1 ↔ k / 2 ^ 7 % 2 = 1 ∨ m / 2 ^ 7 % 2 = 1 := by
    have t := Nat.testBit_or k m 7
    rw [Nat.testBit_eq_decide_div_mod_eq, Nat.testBit_eq_decide_div_mod_eq, Nat.testBit_eq_decide_div_mod_eq] at t
    by_cases a : k / 2 ^ 7 % 2 = 1
    · simp only [a, decide_true, Bool.true_or, decide_eq_true_eq] at t
      exact ⟨fun _ => Or.inl a, fun _ => t⟩
    · by_cases b : m / 2 ^ 7 % 2 = 1
      · simp only [a, b, decide_true, decide_false, Bool.or_true, decide_eq_true_eq] at t
        exact ⟨fun _ => Or.inr b, fun _ => t⟩
      · simp only [a, b, decide_false, Bool.or_self, decide_eq_false_iff_not] at t
        exact ⟨fun q => absurd q t, fun q => q.elim (fun z => absurd z a) (fun z => absurd z b)⟩
  have p7 : (2 : Nat) ^ 7 = 128 := rfl
  rw [p7] at e
  omega
theorem rv_n {S : Nat → Int32} {c k : Nat} (hk : k < 512) (e : S (8 + c) = nI k) : rv S c ↔ k / 128 % 2 = 1 := by
  unfold rv
  rw [e, ti_nI (by omega)]
  omega
theorem bsd_nb {c s : Nat} {S : Nat → Int32} (L : Ld40 S) (h : hop S c s) : nI c + bsd (nI s).toNatClampNeg = nI (nbC c s) := by
  have n := h.nb L
  have l := h.1.lt L
  have s4 := h.s4
  unfold hop inLd at h
  rw [cl_nI (by omega)]
  obtain ⟨h0, ⟨rfl, h⟩ | ⟨rfl, h⟩ | ⟨rfl, h⟩ | ⟨rfl, h⟩⟩ := h
  · show nI c + (-40) = _
    rw [nb0, ← nS (by omega), Int32.sub_eq_add_neg]
    rfl
  · show nI c + 1 = _
    rw [nb1, nI_S]
  · show nI c + 40 = _
    rw [nb2, ← nA]
    rfl
  · show nI c + (-1) = _
    rw [nb3, ← nS (by omega), Int32.sub_eq_add_neg]
    rfl
/-- which number is gone -/
def GoV (A : Nat → Nat → Int32) (v : Int32) (g : Nat) : Prop := ∀ w, wl A w → (nI w = v ↔ w = g)
theorem gov_none (A : Nat → Nat → Int32) : GoV A (-1) 0 := fun w hw => ⟨fun e => absurd e (nI_ne_neg (by have := hw.2.1; omega)), fun e => by have := hw.1; omega⟩
theorem gov_some {A : Nat → Nat → Int32} {w : Nat} (hw : wl A w) : GoV A (nI w) w := fun u hu => by
  have := hw.2.1
  have := hu.2.1
  exact nI_eq_iff (by omega) (by omega)
theorem no_self {S : Nat → Int32} (W : WF S) {w : Nat} (hw : wl (tS S) w) : ¬ tS S w 6 = nI w := fun e => by
  have := hw.2.1
  rcases W.2.2.2.2.2.1 w hw.2.1 hw.2.2 with q | ⟨u, u6, u30, eu, u0, ui⟩
  · rw [e] at q
    exact nI_ne_neg (by omega) q
  · rw [e, nI_eq_iff (by omega) (by omega)] at eu
    subst eu
    unfold inn at ui
    omega
section SV
variable {G : GG} {d : Nat} {q s : Nat} {S : Nat → Int32} {Q : Option Value → HP → Prop}
theorem s_passes {h : HP} {c t g : Nat} (X : WyX G h q s S) (P : PtA (tS S) 30 (hI h (q + 4))) (gv : GoV (tS S) (hI h q 10) g) (hp : hop S c t) (hQ : ∀ v : Int32, (v = 0 ∨ v = 1) → (v = 1 ↔ ∀ w, wl (tS S) w → w ≠ g → crW (tS S) w c (nbC c t) → gp (tS S) w c t) → Q (some (.int v)) h) : Cal G d mX10_passes [.ref q, .int (nI (c % 40)), .int (nI (c / 40)), .int (nI t)] h Q := by
  have W := X.2.2.2.1
  have L := W.l40
  have t4 := hp.s4
  have c16 := hp.1.lt L
  obtain ⟨nl, nad, nco⟩ := hp.nb L
  have d16 := nl.lt L
  have k4 := X.1.1.2.2.1 (q + 4) (by omega) (by omega)
  have ec : nI (c / 40) * 40 + nI (c % 40) = nI c := by rw [e40, show 40 * (c / 40) + c % 40 = c by omega]
  have ed := bsd_nb L hp
  have pc := P (c % 40) (c / 40) (by omega) (by omega)
  have pd := P (nbC c t % 40) (nbC c t / 40) (by omega) (by omega)
  rw [show 40 * (c / 40) + c % 40 = c by omega] at pc
  rw [show 40 * (nbC c t / 40) + nbC c t % 40 = nbC c t by omega] at pd
  have vc : vp_in (nI c) (hN h (q + 4)) := by rw [k4.2]; exact vin_nI (by omega) (by omega)
  have vd : vp_in (nI (nbC c t)) (hN h (q + 4)) := by rw [k4.2]; exact vin_nI (by omega) (by omega)
  have it2 : irm (nI t) 2 = nI (t % 2) := nR (m := 2) (by omega) (by omega)
  have it4 : irm (nI t + 2) 4 = nI ((t + 2) % 4) := by
    rw [show nI t + 2 = nI (t + 2) from nA t 2]
    exact nR (m := 4) (by omega) (by omega)
  -- the wall between, and whether it is left
  have fin : ∀ (w : Nat) (x4 x5 x6 : Int32), wl (tS S) w → crW (tS S) w c (nbC c t) → ((x6 = 1 ∧ wIn (tS S) w c) ∨ (x6 = 0 ∧ ¬ wIn (tS S) w c)) → Ex G d mX10_passes 84 [(0, .ref q), (1, .int (nI (c % 40))), (2, .int (nI (c / 40))), (3, .int (nI t)), (4, .int x4), (5, .int x5), (6, .int x6)] [.int (nI w)] h Q := by
    intro w x4 x5 x6 hw cr h6
    have w30 := hw.2.1
    have T := X.2.2.1.2.2.2.1 w w30
    have g7 := (W.gt w hw).2
    have k9 := (X.2.1.2.2.2.2.2.2.1 w (by omega)).2
    have only : (∀ u, wl (tS S) u → u ≠ g → crW (tS S) u c (nbC c t) → gp (tS S) u c t) ↔ (w ≠ g → gp (tS S) w c t) := ⟨fun z y => z w hw y cr, fun z u hu hg cu => by
      obtain rfl := cr_one W L hp hw hu cr cu
      exact z hg⟩
    have last : ∀ (sd : Nat) (pl : Int32), ((wIn (tS S) w c ∧ sd = t) ∨ (¬ wIn (tS S) w c ∧ sd = (t + 2) % 4)) → (t % 2 = 0 → pl = nI (c % 40) - tS S w 1) → (t % 2 = 1 → pl = nI (c / 40) - tS S w 2) → Ex G d mX10_passes 145 [(0, .ref q), (1, .int (nI (c % 40))), (2, .int (nI (c / 40))), (3, .int (nI t)), (4, .int x4), (5, .int x5), (6, .int x6), (7, .int (nI w)), (8, .ref (s + 5 + w)), (9, .int (nI sd))] [.int pl] h Q := by
      intro sd pl hsd hp0 hp1
      have geo0 := W.2.2.2.2.1 w w30 hw.2.2
      unfold geo at geo0
      unfold Ld40 at L
      have m0 : ((nI (c % 40) - tS S w 1).toInt = ((c % 40 : Nat) : Int) - (tS S w 1).toInt) := by
        rw [ti_sub] <;> rw [ti_nI (by omega)] <;> omega
      have m1 : ((nI (c / 40) - tS S w 2).toInt = ((c / 40 : Nat) : Int) - (tS S w 2).toInt) := by
        rw [ti_sub] <;> rw [ti_nI (by omega)] <;> omega
      have esd : (nI sd).toInt = sd := ti_nI (by omega)
      have s8 : hI h (s + 5 + w) 8 = tS S w 7 := (T.2 hw.2.2).2.2.1
      refine t_X10_passes_145 ⟨X.1.1.1, fun e => hQ 1 (Or.inr rfl) ⟨fun _ => only.mpr (fun z => absurd ((gv w hw).mp e) z), fun _ => rfl⟩, fun e => ⟨k9, fun z => hQ 0 (Or.inl rfl) ⟨fun y => absurd y (by decide), fun y => ?_⟩, fun z => ⟨fun z2 => hQ 0 (Or.inl rfl) ⟨fun y => absurd y (by decide), fun y => ?_⟩, fun z2 => hQ 1 (Or.inr rfl) ⟨fun _ => only.mpr (fun _ => ?_), fun _ => rfl⟩⟩⟩⟩
      · have gg := only.mp y (fun k => e ((gv w hw).mpr k))
        refine absurd ?_ z
        rw [s8, ti_eq, esd]
        rcases hsd with ⟨a, b⟩ | ⟨a, b⟩
        · rw [gg.1 a, b]
        · rw [gg.2.1 a, b]
      · have gg := only.mp y (fun k => e ((gv w hw).mpr k))
        rw [s8] at z
        have n7 : ¬ tS S w 7 = -1 := by
          rw [z]
          exact nI_ne_neg (by omega)
        refine absurd ?_ z2
        rw [show hI h (s + 5 + w) 9 = tS S w 8 from ((T.2 hw.2.2).2.2.2.2.1 n7).1, ti_eq]
        rcases (show t % 2 = 0 ∨ t % 2 = 1 by omega) with a | a
        · rw [gg.2.2.1 a, hp0 a, m0]
        · rw [gg.2.2.2 a, hp1 a, m1]
      · rw [s8] at z
        have n7 : ¬ tS S w 7 = -1 := by
          rw [z]
          exact nI_ne_neg (by omega)
        rw [show hI h (s + 5 + w) 9 = tS S w 8 from ((T.2 hw.2.2).2.2.2.2.1 n7).1] at z2
        refine ⟨fun a => ?_, fun a => ?_, fun a => ?_, fun a => ?_⟩
        · rcases hsd with ⟨_, b⟩ | ⟨b, _⟩
          · rw [z, esd, b]
          · exact absurd a b
        · rcases hsd with ⟨b, _⟩ | ⟨_, b⟩
          · exact absurd b a
          · rw [z, esd, b]
        · rw [z2, hp0 a, m0]
        · rw [z2, hp1 a, m1]
    have mid : ∀ (sd : Nat), ((wIn (tS S) w c ∧ sd = t) ∨ (¬ wIn (tS S) w c ∧ sd = (t + 2) % 4)) → Ex G d mX10_passes 120 [(0, .ref q), (1, .int (nI (c % 40))), (2, .int (nI (c / 40))), (3, .int (nI t)), (4, .int x4), (5, .int x5), (6, .int x6), (7, .int (nI w)), (8, .ref (s + 5 + w))] [.int (nI sd)] h Q := by
      intro sd hsd
      refine t_X10_passes_120 ⟨fun z => ⟨k9, ?_⟩, fun z => ⟨k9, ?_⟩⟩
      · rw [it2] at z
        have t1 : t % 2 = 1 := by
          rcases (show t % 2 = 0 ∨ t % 2 = 1 by omega) with a | a
          · exact absurd (by rw [a]; rfl) z
          · exact a
        refine last sd _ hsd (fun a => by omega) (fun _ => ?_)
        rw [show hI h (s + 5 + w) 2 = tS S w 2 from X.th w30 hw.2.2 (by omega) (by omega)]
      · rw [it2] at z
        have t1 : t % 2 = 0 := by
          have := (nI_eq_iff (a := t % 2) (b := 0) (by omega) (by omega)).mp z
          exact this
        refine last sd _ hsd (fun _ => ?_) (fun a => by omega)
        rw [show hI h (s + 5 + w) 1 = tS S w 1 from X.th w30 hw.2.2 (by omega) (by omega)]
    refine t_X10_passes_84 ⟨fun _ => ⟨X.1.1.1, s, X.1.2, ?_⟩, fun z => absurd z (nI_ne_neg (by omega))⟩
    obtain ⟨a1, ⟨b1, b2, b3, b4⟩, -, -, ⟨e1, e2⟩, -, k1, -⟩ := X.2.1
    refine ⟨a1, s + 3, b3, e1, by rw [e2]; exact vin_nI (by omega) (by omega), s + 5 + w, by rw [cl_nI (by omega)]; exact (k1 w (by omega)).1, fun z => ?_, fun z => ?_⟩
    · rw [it4]
      rcases h6 with ⟨y, _⟩ | ⟨_, y⟩
      · rw [y] at z
        exact absurd z (by decide)
      · exact mid _ (Or.inr ⟨y, rfl⟩)
    · rcases h6 with ⟨_, y⟩ | ⟨y, _⟩
      · exact mid _ (Or.inl ⟨y, rfl⟩)
      · exact absurd y z
  refine e_X10_passes ⟨X.1.1.1, q + 4, X.1.1.2.1.2.2.2.1, k4.1, by rw [ec]; exact vc, vin_nI (by omega) (by omega), by rw [ec, ed]; exact vd, ?_⟩
  rw [ec, ed, cl_nI (by omega), cl_nI (by omega)]
  by_cases hx : ∃ w, wl (tS S) w ∧ crW (tS S) w c (nbC c t)
  · obtain ⟨w, hw, cr⟩ := hx
    have w30 := hw.2.1
    by_cases iw : wIn (tS S) w c
    · have ow : ¬ wIn (tS S) w (nbC c t) := fun z => cr ⟨fun _ => z, fun _ => iw⟩
      obtain ⟨v1, v2⟩ := cross_inn W.2.2.2.2 W.1.1.1.2 hw iw ow nad pc pd
      rw [v1, v2]
      refine ⟨fun _ => ⟨fun z => absurd z (nI_ne_neg (by omega)), fun _ => ⟨s, X.1.2, th_at X.2.1 (t := w) (ti_nI (by omega)) (by omega) ⟨fun z => absurd (X.th w30 hw.2.2 (by omega) (by omega)) z, fun _ => fin w _ _ 1 hw cr (Or.inl ⟨rfl, iw⟩)⟩⟩⟩, fun z => absurd z.symm (no_self W hw)⟩
    · have ow : wIn (tS S) w (nbC c t) := Classical.byContradiction (fun z => cr ⟨fun y => absurd y iw, fun y => absurd y z⟩)
      have nad' : adj (nbC c t % 40) (nbC c t / 40) (c % 40) (c / 40) := by unfold adj at *; omega
      obtain ⟨v1, v2⟩ := cross_inn W.2.2.2.2 W.1.1.1.2 hw ow iw nad' pd pc
      rw [v1, v2]
      refine ⟨fun _ => ⟨fun z => fin w _ _ 0 hw cr (Or.inr ⟨rfl, iw⟩), fun z => ?_⟩, fun z => absurd z (no_self W hw)⟩
      rcases W.2.2.2.2.2.1 w w30 hw.2.2 with e | ⟨p, p6, p30, ep, p0, pi⟩
      · exact absurd e z
      · rw [ep]
        refine ⟨s, X.1.2, th_at X.2.1 (t := p) (ti_nI (by omega)) (by omega) ⟨fun _ => fin w _ _ 0 hw cr (Or.inr ⟨rfl, iw⟩), fun z2 => ?_⟩⟩
        rw [show hI h (s + 5 + p) 6 = tS S p 6 from X.th p30 p0 (by omega) (by omega)] at z2
        rcases W.2.2.2.2.2.1 p p30 p0 with e | ⟨u, u6, u30, eu, u0, ui⟩
        · rw [z2] at e
          exact absurd e (nI_ne_neg (by omega))
        · rw [z2, nI_eq_iff (by omega) (by omega)] at eu
          subst eu
          unfold inn at ui pi
          omega
  · have e := same_inn W.2.2.2.2 (fun w hw => Classical.byContradiction (fun z => hx ⟨w, hw, z⟩)) pc pd
    exact ⟨fun z => absurd e z, fun _ => hQ 1 (Or.inr rfl) ⟨fun _ w hw _ cr => absurd ⟨w, hw, cr⟩ hx, fun _ => rfl⟩⟩
/-- the bits of open as they stand -/
def OpB (h : HP) (q : Nat) (B : Nat → Nat → Prop) : Prop := ∀ e, e < 1600 → ∃ k, k < 16 ∧ hI h (q + 5) e = nI k ∧ ∀ t, t < 4 → (k.testBit t = true ↔ B e t)
theorem s_join {h : HP} {c t g : Nat} {B : Nat → Nat → Prop} (hd : 1 ≤ d) (X : WyX G h q s S) (P : PtA (tS S) 30 (hI h (q + 4))) (gv : GoV (tS S) (hI h q 10) g) (hp : hop S c t) (O : OpB h q B) (hQ : ∀ h2, FrI (fun a _ => a = q + 5) h h2 → OpB h2 q (fun e u => B e u ∨ (Ed S g c t ∧ ((e = c ∧ u = t) ∨ (e = nbC c t ∧ u = (t + 2) % 4)))) → Q none h2) : Cal G d mX10_join [.ref q, .int (nI (c % 40)), .int (nI (c / 40)), .int (nI t)] h Q := by
  have W := X.2.2.2.1
  have L := W.l40
  have t4 := hp.s4
  have c16 := hp.1.lt L
  have d16 := (hp.nb L).1.lt L
  have nco := (hp.nb L).2.2
  have ec : nI (c / 40) * 40 + nI (c % 40) = nI c := by rw [e40, show 40 * (c / 40) + c % 40 = c by omega]
  have ed := bsd_nb L hp
  obtain ⟨a1, ⟨b1, b2, b3, b4⟩, ⟨f1, f2⟩, -⟩ := X.2.1
  obtain ⟨k, hk, ek⟩ := W.cell c16
  obtain ⟨m, hm, em⟩ := W.cell d16
  have k5 := X.1.1.2.2.1 (q + 5) (by omega) (by omega)
  have it4 : irm (nI t + 2) 4 = nI ((t + 2) % 4) := by
    rw [show nI t + 2 = nI (t + 2) from nA t 2]
    exact nR (m := 4) (by omega) (by omega)
  have none' : ¬ Ed S g c t → Q none h := fun z => hQ h (FrI.rf _ h) (fun e he => by
    obtain ⟨k, k1, k2, k3⟩ := O e he
    exact ⟨k, k1, k2, fun u hu => (k3 u hu).trans ⟨Or.inl, fun y => y.elim id (fun y => absurd y.1 z)⟩⟩)
  refine e_X10_join hd ⟨vin_nI (by omega) (by omega), X.1.1.1, s, X.1.2, a1, s + 1, b1, f1, by rw [ec, f2]; exact vin_nI (by omega) (by omega), by rw [ec, ed, f2]; exact vin_nI (by omega) (by omega), ?_⟩
  rw [ec, ed, cl_nI (by omega), cl_nI (by omega), X.2.2.1.2.1 c c16, X.2.2.1.2.1 (nbC c t) d16, ek, em]
  refine ⟨fun z => none' (fun y => ?_), fun z => s_passes X P gv hp (fun v hv hv2 => ⟨v, rfl, fun e => none' (fun y => ?_), fun e => ?_⟩)⟩
  · rw [or2_128 hk hm, ← rv_n hk ek, ← rv_n hm em] at z
    exact z ⟨y.2.1, y.2.2.1⟩
  · rw [hv2.mpr y.2.2.2] at e
    exact absurd e (by decide)
  · rw [or2_128 hk hm, ← rv_n hk ek, ← rv_n hm em] at z
    have hE : Ed S g c t := ⟨hp, z.1, z.2, hv2.mp (hv.elim (fun y => absurd y e) id)⟩
    obtain ⟨kc, kc1, kc2, kc3⟩ := O c c16
    obtain ⟨kd, kd1, kd2, kd3⟩ := O (nbC c t) d16
    have hne : nbC c t ≠ c := by
      rcases nco with y | y | y | y <;> intro ee <;> rw [ee] at y <;> omega
    refine ⟨q + 5, X.1.1.2.1.2.2.2.2.1, k5.1, by rw [k5.2]; exact vin_nI (by omega) (by omega), by rw [k5.2]; exact vin_nI (by omega) (by omega), fun h22 g1 => ⟨by rw [g1]; show vp_in _ (hN h (q + 5)); rw [k5.2]; exact vin_nI (by omega) (by omega), by rw [g1]; show vp_in _ (hN h (q + 5)); rw [k5.2]; exact vin_nI (by omega) (by omega), fun h27 g2 => ?_⟩⟩
    rw [kc2, opk1 kc kc1 t t4] at g1
    have s4 : (t + 2) % 4 < 4 := by omega
    have v2 : hI h22 (q + 5) (nbC c t) = nI kd := by
      rw [g1, hI_ne _ _ (Or.inr hne)]
      exact kd2
    rw [v2, it4, opk1 kd kd1 _ s4] at g2
    refine hQ h27 ?_ (fun e he => ?_)
    · rw [g2, g1]
      exact (FrI.sI (P := fun a _ => a = q + 5) h _ rfl).tr (FrI.sI (P := fun a _ => a = q + 5) _ _ rfl)
    · by_cases e1 : e = nbC c t
      · subst e1
        refine ⟨kd ||| 2 ^ ((t + 2) % 4), opk3 kd kd1 _ s4, by rw [g2, hI_eq], fun u hu => ?_⟩
        rw [opk4 kd kd1 _ s4 u hu, kd3 u hu]
        exact ⟨fun y => y.imp id (fun y => ⟨hE, Or.inr ⟨rfl, y⟩⟩), fun y => y.imp id (fun y => y.2.elim (fun y => absurd y.1 hne) (fun y => y.2))⟩
      · rw [g2, hI_ne _ _ (Or.inr e1), g1]
        by_cases e2 : e = c
        · subst e2
          refine ⟨kc ||| 2 ^ t, opk3 kc kc1 _ t4, by rw [hI_eq], fun u hu => ?_⟩
          rw [opk4 kc kc1 _ t4 u hu, kc3 u hu]
          exact ⟨fun y => y.imp id (fun y => ⟨hE, Or.inl ⟨rfl, y⟩⟩), fun y => y.imp id (fun y => y.2.elim (fun y => y.2) (fun y => absurd y.1 e1))⟩
        · obtain ⟨k, k1, k2, k3⟩ := O e he
          refine ⟨k, k1, by rw [hI_ne _ _ (Or.inr e2)]; exact k2, fun u hu => (k3 u hu).trans ⟨Or.inl, fun y => y.elim id (fun y => y.2.elim (fun y => absurd y.1 e2) (fun y => absurd y.1 e1))⟩⟩
end SV
/-! the two joins at a cell, one behind the other -/
def lx (e x z : Nat) : Prop := e / 40 < z ∨ (e / 40 = z ∧ e % 40 < x)
def SvB (S : Nat → Int32) (g x1 x2 z e t : Nat) : Prop := Ed S g e t ∧ ((t = 1 ∧ lx e x1 z) ∨ (t = 3 ∧ lx (e - 1) x1 z) ∨ (t = 2 ∧ lx e x2 z) ∨ (t = 0 ∧ lx (e - 40) x2 z))
section SW
variable {S : Nat → Int32} {g x z e t : Nat}
theorem sv_odd (L : Ld40 S) (hx : x < 40) : SvB S g (x + 1) x z e t ↔ SvB S g x x z e t ∨ (Ed S g (40 * z + x) 1 ∧ ((e = 40 * z + x ∧ t = 1) ∨ (e = nbC (40 * z + x) 1 ∧ t = (1 + 2) % 4))) := by
  rw [nb1]
  show _ ↔ _ ∨ (_ ∧ (_ ∨ (_ ∧ t = 3)))
  have bk : Ed S g (40 * z + x) 1 → Ed S g (40 * z + x + 1) 3 := fun h => by have := (h.back L).1; rw [nb1] at this; exact this
  have fw : ∀ e, Ed S g e 3 → e - 1 = 40 * z + x → Ed S g (40 * z + x) 1 ∧ e = 40 * z + x + 1 := fun e h q => by
    have := (h.back L).1
    have hp := h.1
    unfold hop at hp
    rw [nb3, q] at this
    exact ⟨this, by omega⟩
  unfold SvB lx
  constructor
  · rintro ⟨h, ⟨rfl, q⟩ | ⟨rfl, q⟩ | ⟨rfl, q⟩ | ⟨rfl, q⟩⟩
    · by_cases c : e = 40 * z + x
      · exact Or.inr ⟨by rw [c] at h; exact h, Or.inl ⟨c, rfl⟩⟩
      · exact Or.inl ⟨h, Or.inl ⟨rfl, by omega⟩⟩
    · by_cases c : e - 1 = 40 * z + x
      · obtain ⟨a1, a2⟩ := fw e h c
        exact Or.inr ⟨a1, Or.inr ⟨a2, rfl⟩⟩
      · exact Or.inl ⟨h, Or.inr (Or.inl ⟨rfl, by omega⟩)⟩
    · exact Or.inl ⟨h, Or.inr (Or.inr (Or.inl ⟨rfl, q⟩))⟩
    · exact Or.inl ⟨h, Or.inr (Or.inr (Or.inr ⟨rfl, q⟩))⟩
  · rintro (⟨h, q⟩ | ⟨h, ⟨rfl, rfl⟩ | ⟨rfl, rfl⟩⟩)
    · refine ⟨h, ?_⟩
      omega
    · exact ⟨h, Or.inl ⟨rfl, by omega⟩⟩
    · exact ⟨bk h, Or.inr (Or.inl ⟨rfl, by omega⟩)⟩
theorem sv_even (L : Ld40 S) (hx : x < 40) : SvB S g (x + 1) (x + 1) z e t ↔ SvB S g (x + 1) x z e t ∨ (Ed S g (40 * z + x) 2 ∧ ((e = 40 * z + x ∧ t = 2) ∨ (e = nbC (40 * z + x) 2 ∧ t = (2 + 2) % 4))) := by
  rw [nb2]
  show _ ↔ _ ∨ (_ ∧ (_ ∨ (_ ∧ t = 0)))
  have bk : Ed S g (40 * z + x) 2 → Ed S g (40 * z + x + 40) 0 := fun h => by have := (h.back L).1; rw [nb2] at this; exact this
  have fw : ∀ e, Ed S g e 0 → e - 40 = 40 * z + x → Ed S g (40 * z + x) 2 ∧ e = 40 * z + x + 40 := fun e h q => by
    have := (h.back L).1
    have hp := h.1
    unfold hop at hp
    rw [nb0, q] at this
    exact ⟨this, by omega⟩
  unfold SvB lx
  constructor
  · rintro ⟨h, ⟨rfl, q⟩ | ⟨rfl, q⟩ | ⟨rfl, q⟩ | ⟨rfl, q⟩⟩
    · exact Or.inl ⟨h, Or.inl ⟨rfl, q⟩⟩
    · exact Or.inl ⟨h, Or.inr (Or.inl ⟨rfl, q⟩)⟩
    · by_cases c : e = 40 * z + x
      · exact Or.inr ⟨by rw [c] at h; exact h, Or.inl ⟨c, rfl⟩⟩
      · exact Or.inl ⟨h, Or.inr (Or.inr (Or.inl ⟨rfl, by omega⟩))⟩
    · by_cases c : e - 40 = 40 * z + x
      · obtain ⟨a1, a2⟩ := fw e h c
        exact Or.inr ⟨a1, Or.inr ⟨a2, rfl⟩⟩
      · exact Or.inl ⟨h, Or.inr (Or.inr (Or.inr ⟨rfl, by omega⟩))⟩
  · rintro (⟨h, q⟩ | ⟨h, ⟨rfl, rfl⟩ | ⟨rfl, rfl⟩⟩)
    · refine ⟨h, ?_⟩
      omega
    · exact ⟨h, Or.inr (Or.inr (Or.inl ⟨rfl, by omega⟩))⟩
    · exact ⟨bk h, Or.inr (Or.inr (Or.inr ⟨rfl, by omega⟩))⟩
theorem sv_row {C : Nat} (hC : (S 0).toInt = C) : SvB S g C C z e t ↔ SvB S g 0 0 (z + 1) e t := by
  unfold SvB lx
  refine and_congr_right (fun h => ?_)
  have hp := h.1
  unfold hop inLd at hp
  omega
theorem sv_end {R : Nat} (hR : (S 1).toInt = R) : SvB S g 0 0 R e t ↔ Ed S g e t := by
  unfold SvB lx
  refine ⟨fun h => h.1, fun h => ⟨h, ?_⟩⟩
  have hp := h.1
  unfold hop inLd at hp
  omega
end SW
section SY
variable {G : GG} {d : Nat} {q s : Nat} {S : Nat → Int32} {Q : Option Value → HP → Prop}
theorem OpB.to {h : HP} {B B' : Nat → Nat → Prop} (O : OpB h q B) (e : ∀ a t, B a t ↔ B' a t) : OpB h q B' := fun a ha => by
  obtain ⟨k, k1, k2, k3⟩ := O a ha
  exact ⟨k, k1, k2, fun t ht => (k3 t ht).trans (e a t)⟩
/-- surveyed: the way's bits, and what stands round it -/
def Svd (G : GG) (h : HP) (q s : Nat) (S : Nat → Int32) (g : Nat) : Prop := WyX G h q s S ∧ OpB h q (Ed S g)
def SvF (q a k : Nat) : Prop := (a = q ∧ k = 10) ∨ a = q + 4 ∨ a = q + 5
def SvR (q a k : Nat) : Prop := a = q ∧ k = 9
theorem s_survey {h : HP} (hd : 3 ≤ d) (Y : WySh G h q) (St : StSh G h s) (Co : CoSt h s S) (W : WF S) (ds : s + 42 ≤ q ∨ q + 8 ≤ s) {gv : Int32} {g : Nat} (hg : GoV (tS S) gv g) (hQ : ∀ h2, FrJ (SvF q) (SvR q) h h2 → Svd G h2 q s S g → Q none h2) : Cal G d mX10_survey [.ref q, .ref s, .int gv] h Q := by
  have L := W.l40
  obtain ⟨C, hC, eC⟩ : ∃ C, C < 41 ∧ S 0 = nI C := by
    have := W.1.1.1
    unfold rng at this
    exact of_in (by omega) (by omega)
  obtain ⟨R, hR', eR⟩ : ∃ R, R < 41 ∧ S 1 = nI R := by
    have := W.1.1.2.1
    unfold rng at this
    exact of_in (by omega) (by omega)
  have tC : (S 0).toInt = C := by rw [eC, ti_nI (by omega)]
  have tR : (S 1).toInt = R := by rw [eR, ti_nI (by omega)]
  refine e_X10_survey (by omega) ⟨Y.1, ?_⟩
  generalize g0 : sI (sR h q 9 (some s)) q 10 gv = h0
  have F0 : FrJ (SvF q) (SvR q) h h0 := by
    rw [← g0]
    exact (FrJ.sR h _ ⟨rfl, rfl⟩).tr (FrJ.sI _ _ (Or.inl ⟨rfl, rfl⟩))
  have X0 : WyX G h0 q s S := by
    obtain ⟨k, ⟨r1, r2, r3, r4, r5, r6, r7⟩, a1, a2⟩ := Y
    have er : ∀ a k, k ≠ 9 → hR h0 a k = hR h a k := fun a k hk => F0.r (fun z => hk z.2)
    refine ⟨⟨⟨F0.kd k, ⟨(er _ _ (by omega)).trans r1, (er _ _ (by omega)).trans r2, (er _ _ (by omega)).trans r3, (er _ _ (by omega)).trans r4, (er _ _ (by omega)).trans r5, (er _ _ (by omega)).trans r6, (er _ _ (by omega)).trans r7⟩, fun a h1 h2 => ⟨F0.kd (a1 a h1 h2).1, (F0.n (a1 a h1 h2).1).trans (a1 a h1 h2).2⟩, fun a h1 h2 => ⟨F0.kd (a2 a h1 h2).1, (F0.n (a2 a h1 h2).1).trans (a2 a h1 h2).2⟩⟩, ?_⟩, St.kp F0.1 (fun a k h1 h2 => F0.r (fun z => by unfold SvR at z; omega)), Co.fr (fun a k h1 h2 => F0.i (fun z => by unfold SvF at z; omega)), W, ds⟩
    rw [← g0, hR_sI, hR_sR, if_pos ⟨rfl, rfl⟩]
  have v0 : hI h0 q 10 = gv := by rw [← g0, hI_eq]
  refine s_paintWalls (by omega) X0 (fun h1 F1 P1 => ⟨rfl, ?_⟩)
  have X1 := X0.fr F1 (fun a _ e => by omega)
  have k5 := X1.1.1.2.2.1 (q + 5) (by omega) (by omega)
  refine ⟨q + 5, X1.1.1.2.1.2.2.2.2.1, s_fill k5.1 k5.2 (by omega) ⟨rfl, ?_⟩⟩
  have FA : FrI (fun a _ => a = q + 5) h1 (fillI h1 (q + 5) 1600 0) := FrI.fill h1 _ (fun _ => rfl)
  have base : ∀ h2, FrI (fun a _ => a = q + 5) h1 h2 → WyX G h2 q s S ∧ PtA (tS S) 30 (hI h2 (q + 4)) ∧ GoV (tS S) (hI h2 q 10) g ∧ FrJ (SvF q) (SvR q) h h2 := fun h2 F => by
    refine ⟨X1.fr F (fun a _ e => by omega), ?_, ?_, (F0.tr ((F1.weak (fun a k e => Or.inr (Or.inl e))).j _)).tr ((F.weak (fun a k e => Or.inr (Or.inr e))).j _)⟩
    · have e : hI h2 (q + 4) = hI h1 (q + 4) := funext (fun k => F.i (by omega))
      rw [e]
      exact P1
    · rw [F.i (by omega), F1.i (by omega), v0]
      exact hg
  have inner : ∀ z, z < R → (∀ h2, FrI (fun a _ => a = q + 5) h1 h2 → OpB h2 q (SvB S g 0 0 (z + 1)) → Ex G d mX10_survey 24 [(0, .ref q), (1, .ref s), (2, .int gv), (3, .int (nI (z + 1)))] [] h2 Q) → ∀ n x h2, x + n = C → FrI (fun a _ => a = q + 5) h1 h2 → OpB h2 q (SvB S g x x z) → Ex G d mX10_survey 35 [(0, .ref q), (1, .ref s), (2, .int gv), (3, .int (nI z)), (4, .int (nI x))] [] h2 Q := by
    intro z hz next n
    induction n with
    | zero =>
      intro x h2 hx F O
      obtain rfl : x = C := by omega
      have X2 := (base h2 F).1
      refine t_X10_survey_35 (by omega) ⟨X2.2.1.1, fun _ => ?_, fun y => ?_⟩
      · rw [nI_S]
        exact next h2 F (O.to (fun a t => sv_row tC))
      · rw [X2.2.2.1.1 0 (by omega), eC] at y
        exact absurd ((nI_le_iff (by omega) (by omega)).mpr (Nat.le_refl _)) y
    | succ n ih =>
      intro x h2 hx F O
      obtain ⟨X2, P2, V2, -⟩ := base h2 F
      have cx : (40 * z + x) % 40 = x := by omega
      have cz : (40 * z + x) / 40 = z := by omega
      have il : inLd S (40 * z + x) := by
        unfold inLd
        rw [cx, cz, tC, tR]
        omega
      have second : ∀ h3, FrI (fun a _ => a = q + 5) h1 h3 → OpB h3 q (SvB S g (x + 1) x z) → Ex G d mX10_survey 63 [(0, .ref q), (1, .ref s), (2, .int gv), (3, .int (nI z)), (4, .int (nI x))] [] h3 Q := fun h3 F3 O3 => by
        obtain ⟨X3, P3, V3, -⟩ := base h3 F3
        refine t_X10_survey_63 (by omega) ⟨X3.2.1.1, fun y => ?_, fun y => ⟨X3.1.1.1, ?_⟩⟩
        · rw [nI_S]
          refine ih (x + 1) h3 (by omega) F3 (O3.to (fun a t => ?_))
          rw [sv_even L (by omega)]
          refine ⟨Or.inl, fun w => w.elim id (fun w => ?_)⟩
          have hp := w.1.1
          unfold hop at hp
          rw [X3.2.2.1.1 1 (by omega), eR, nI_S, nI_le_iff (by omega) (by omega)] at y
          omega
        · rw [X3.2.2.1.1 1 (by omega), eR, nI_S, nI_le_iff (by omega) (by omega)] at y
          have hp : hop S (40 * z + x) 2 := ⟨il, Or.inr (Or.inr (Or.inl ⟨rfl, by omega⟩))⟩
          have := s_join (d := d - 1) (Q := fun r h4 => r = none ∧ Ex G d mX10_survey 35 [(0, .ref q), (1, .ref s), (2, .int gv), (3, .int (nI z)), (4, .int (nI x + 1))] [] h4 Q) (by omega) X3 P3 V3 hp O3 (fun h4 F4 O4 => ⟨rfl, by
            rw [nI_S]
            exact ih (x + 1) h4 (by omega) (F3.tr F4) (O4.to (fun a t => (sv_even L (by omega)).symm))⟩)
          rw [cx, cz] at this
          exact this
      refine t_X10_survey_35 (by omega) ⟨X2.2.1.1, fun y => ?_, fun _ => ⟨fun y => ?_, fun y => ⟨X2.1.1.1, ?_⟩⟩⟩
      · rw [X2.2.2.1.1 0 (by omega), eC, nI_le_iff (by omega) (by omega)] at y
        omega
      · refine second h2 F (O.to (fun a t => ?_))
        rw [sv_odd L (by omega)]
        refine ⟨Or.inl, fun w => w.elim id (fun w => ?_)⟩
        have hp := w.1.1
        unfold hop at hp
        rw [X2.2.2.1.1 0 (by omega), eC, nI_S, nI_le_iff (by omega) (by omega)] at y
        omega
      · rw [X2.2.2.1.1 0 (by omega), eC, nI_S, nI_le_iff (by omega) (by omega)] at y
        have hp : hop S (40 * z + x) 1 := ⟨il, Or.inr (Or.inl ⟨rfl, by omega⟩)⟩
        have := s_join (d := d - 1) (Q := fun r h4 => r = none ∧ Ex G d mX10_survey 63 [(0, .ref q), (1, .ref s), (2, .int gv), (3, .int (nI z)), (4, .int (nI x))] [] h4 Q) (by omega) X2 P2 V2 hp O (fun h4 F4 O4 => ⟨rfl, second h4 (F.tr F4) (O4.to (fun a t => (sv_odd L (by omega)).symm))⟩)
        rw [cx, cz] at this
        exact this
  have outer : ∀ n z h2, z + n = R → FrI (fun a _ => a = q + 5) h1 h2 → OpB h2 q (SvB S g 0 0 z) → Ex G d mX10_survey 24 [(0, .ref q), (1, .ref s), (2, .int gv), (3, .int (nI z))] [] h2 Q := by
    intro n
    induction n with
    | zero =>
      intro z h2 hz F O
      obtain rfl : z = R := by omega
      obtain ⟨X2, -, -, F2⟩ := base h2 F
      refine t_X10_survey_24 ⟨X2.2.1.1, fun _ => hQ h2 F2 ⟨X2, O.to (fun a t => sv_end tR)⟩, fun y => ?_⟩
      rw [X2.2.2.1.1 1 (by omega), eR] at y
      exact absurd ((nI_le_iff (by omega) (by omega)).mpr (Nat.le_refl _)) y
    | succ n ih =>
      intro z h2 hz F O
      obtain ⟨X2, -, -, F2⟩ := base h2 F
      refine t_X10_survey_24 ⟨X2.2.1.1, fun y => ?_, fun y => ?_⟩
      · rw [X2.2.2.1.1 1 (by omega), eR, nI_le_iff (by omega) (by omega)] at y
        omega
      · exact inner z (by omega) (fun h3 F3 O3 => ih (z + 1) h3 (by omega) F3 O3) C 0 h2 (by omega) F O
  refine outer R 0 _ (by omega) FA (fun e he => ⟨0, by omega, by rw [hI_fill, if_pos ⟨rfl, he⟩]; rfl, fun t ht => ?_⟩)
  rw [Nat.zero_testBit]
  refine ⟨fun y => absurd y (by decide), fun y => ?_⟩
  have hy := y.2
  have hp := y.1.1
  unfold hop inLd at hp
  unfold lx at hy
  omega
end SY
