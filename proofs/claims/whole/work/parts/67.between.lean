/-! ===== what lies between two ===== -/
theorem InvB.md {G : GG} {u0 : Nat} {h : HP} {b y s p : Nat} (I : InvB G u0 h b y s p) : MdSh G h y := I.1.2.2.2.1
theorem InvB.st {G : GG} {u0 : Nat} {h : HP} {b y s p : Nat} (I : InvB G u0 h b y s p) : StSh G h s := I.2.1.2.2.2.1
theorem InvB.wf {G : GG} {u0 : Nat} {h : HP} {b y s p : Nat} (I : InvB G u0 h b y s p) : WF (said h y) := I.2.2.2.1
theorem InvB.kb {G : GG} {u0 : Nat} {h : HP} {b y s p : Nat} (I : InvB G u0 h b y s p) : Kd G h b 11 := I.1.2.1
theorem InvB.now {G : GG} {u0 : Nat} {h : HP} {b y s p : Nat} (I : InvB G u0 h b y s p) : hR h b 12 = some s := I.2.1.2.1
theorem InvB.plan {G : GG} {u0 : Nat} {h : HP} {b y s p : Nat} (I : InvB G u0 h b y s p) : hR h b 8 = some (b + 29) ∧ Kd G h (b + 29) 3 := by
  obtain ⟨-, a1, a2, -⟩ : _ ∧ hR h b 8 = some (b + 29) ∧ Kd G h (b + 29) 3 ∧ hN h (b + 29) = 18 := I.1.2.2.1 (0, 8, 29, 3, 18) (by decide)
  exact ⟨a1, a2⟩
theorem InvB.thA {G : GG} {u0 : Nat} {h : HP} {b y s p : Nat} (I : InvB G u0 h b y s p) {t : Nat} (ht : t < 31) {P : Nat → Prop} (hP : P (s + 5 + t)) : vp_in (nI t) (hN h (s + 3)) ∧ ∃ q2, hR h (s + 3) (nI t).toNatClampNeg = some q2 ∧ P q2 := by
  have k := th_in (P := P) I.st (x := nI t) (t := t) (ti_nI (by omega)) ht hP
  exact ⟨k.1, k.2.choose, k.2.choose_spec.1, k.2.choose_spec.2.2⟩
theorem Bd.out {G : GG} {h : HP} {y s : Nat} (B : Bd G h y s) {t : Nat} (ht : t < 30) (w : tS (said h y) t 0 = 1) : outB (tg h s) t = true ↔ tS (said h y) t 6 = -1 := by
  rw [B.oB ht]
  unfold outB
  rw [w]
  simp
theorem p_between (G : GG) (u0 : Nat) (h : HP) (I : Inv G u0 h) (x1 x2 : Int32) : Pr (Inv G u0) G G.1 (G.1 + 119) mX11_between mX12_between [.int x1, .int x2] h := by
  obtain ⟨s, p, I⟩ := I
  unfold Pr Inv
  generalize G.1 = b at *
  generalize hy : b + 119 = y at *
  have B := I.bd
  have M := B.2.1
  have W := B.2.2.2
  have st := B.1
  have kb := I.1.2.1
  have n2 := I.2.1.2.1
  have ns := I.2.1.1
  have ks := B.1.1
  have ok : some (Value.int (-1)) = some (Value.int (-1)) ∧ ∃ s p, InvB G u0 h b y s p := ⟨rfl, s, p, I⟩
  by_cases hg : ∃ t u, (t < 30 ∧ x1 = nI t ∧ tS (said h y) t 0 = 1) ∧ (u < 30 ∧ x2 = nI u ∧ tS (said h y) u 0 = 1) ∧ t ≠ u ∧ tS (said h y) t 6 = -1 ∧ tS (said h y) u 6 = -1
  · obtain ⟨t, u, ⟨ht, rfl, wt⟩, ⟨hu, rfl, wu⟩, hne, o1, o2⟩ := hg
    have ne : ¬ nI t = nI u := fun q => hne ((nI_eq_iff (by omega) (by omega)).mp q)
    have k1 := (st.2.2.2.2.2.2.1 t (by omega)).2
    have k2 := (st.2.2.2.2.2.2.1 u (by omega)).2
    obtain ⟨pr, pk⟩ := I.plan
    have b1 : outB (tg h s) t = true := (B.out ht wt).mpr o1
    have b2 : outB (tg h s) u = true := (B.out hu wu).mpr o2
    refine e_X11_between (by omega) ⟨fun q => absurd q ne, fun _ => ⟨kb, s, n2, ks, c_isThere B (fun q => absurd (isT.of ht wt) q) (fun _ _ _ _ => ⟨_, rfl, fun q => absurd q (by decide), fun _ => ⟨s, n2, ks, c_isThere B (fun q => absurd (isT.of hu wu) q) (fun _ _ _ _ => ⟨_, rfl, fun q => absurd q (by decide), fun _ => ⟨s, n2, ks, s_isOutermost st (fun q => absurd ⟨by rw [ti_nI (by omega)]; omega, by rw [ti_nI (by omega)]; omega⟩ q) (fun t' e' h' => ?_)⟩⟩)⟩⟩)⟩⟩
    obtain rfl : t = t' := (nI_eq_iff (by omega) (by omega)).mp e'
    rw [b1]
    refine ⟨_, rfl, fun q => absurd q (by decide), fun _ => ⟨s, n2, ks, s_isOutermost st (fun q => absurd ⟨by rw [ti_nI (by omega)]; omega, by rw [ti_nI (by omega)]; omega⟩ q) (fun u' e2 h2 => ?_)⟩⟩
    obtain rfl : u = u' := (nI_eq_iff (by omega) (by omega)).mp e2
    rw [b2]
    refine ⟨_, rfl, fun _ => ⟨s, n2, ks, s + 3, st.2.1.2.2.1, st.2.2.2.2.1.1, I.thA (by omega) (I.thA (by omega) ⟨b + 29, pr, pk, s_surround2 (by omega) pk k1 k2 (by omega) (by omega) fun h1 F1 v1 => ⟨rfl, b + 29, (F1.r _ _).trans pr, F1.kd pk, s_spread (F1.kd pk) fun h2 F2 v2 _ => ⟨rfl, s, (F2.r _ _).trans ((F1.r _ _).trans n2), b + 29, (F2.r _ _).trans ((F1.r _ _).trans pr), F2.kd (F1.kd ks), ?_⟩⟩⟩)⟩, fun q => absurd q (by decide)⟩
    have F : FrJ (fun a k => a = b + 29) (fun _ _ => False) h h2 := ((F1.j _).weak (fun a k q => q.1) (fun _ _ q => q)).tr ((F2.j _).weak (fun a k q => q.1) (fun _ _ q => q))
    have I2 : InvB G u0 h2 b y s p := I.scr (F.weak (fun a k q => by unfold Scr; omega) (fun _ _ q => q.elim))
    have B2 := I2.bd
    have eS : said h2 y = said h y := funext fun j => F.i (by omega)
    have C : ∀ j, 1 ≤ j → j ≤ 4 → corI (tg h s) t (some u) j = corI (tS (said h y)) t (some u) j := fun j h1 h4 => by
      simp only [corI]
      rw [B.th ht wt (by omega) (by omega), B.th hu wu (by omega) (by omega)]
    have g1 := W.2.2.2.2.1 t ht wt
    have g2 := W.2.2.2.2.1 u hu wu
    unfold geo at g1 g2
    have dim := W.1.1
    unfold rng at dim
    have vx : ∀ j, 1 ≤ j → j ≤ 4 → hI h1 (b + 29) (8 + j) = corI (tS (said h y)) t (some u) j := fun j h1 h4 => (v1 j h1 h4).trans (C j h1 h4)
    have c1 : (corI (tS (said h y)) t (some u) 1).toInt = min (tS (said h y) t 1).toInt (tS (said h y) u 1).toInt := ti_mn _ _
    have c2 : (corI (tS (said h y)) t (some u) 2).toInt = min (tS (said h y) t 2).toInt (tS (said h y) u 2).toInt := ti_mn _ _
    have c3 : (corI (tS (said h y)) t (some u) 3).toInt = max (tS (said h y) t 3).toInt (tS (said h y) u 3).toInt := ti_mx _ _
    have c4 : (corI (tS (said h y)) t (some u) 4).toInt = max (tS (said h y) t 4).toInt (tS (said h y) u 4).toInt := ti_mx _ _
    generalize hk1 : corI (tS (said h y)) t (some u) 1 = q1 at *
    generalize hk2 : corI (tS (said h y)) t (some u) 2 = q2 at *
    generalize hk3 : corI (tS (said h y)) t (some u) 3 = q3 at *
    generalize hk4 : corI (tS (said h y)) t (some u) 4 = q4 at *
    obtain ⟨w1, w2, w3, w4⟩ := v2
    rw [vx 1 (by omega) (by omega), hk1] at w1
    rw [vx 2 (by omega) (by omega), hk2] at w2
    rw [vx 3 (by omega) (by omega), hk3] at w3
    rw [vx 4 (by omega) (by omega), hk4] at w4
    have one : (1 : Int32).toInt = 1 := rfl
    have t1 : (q1 - 1).toInt = q1.toInt - 1 := ti_sub (by omega) (by omega)
    have t2 : (q2 - 1).toInt = q2.toInt - 1 := ti_sub (by omega) (by omega)
    have t3 : (q3 + 1).toInt = q3.toInt + 1 := ti_add (by omega) (by omega)
    have t4 : (q4 + 1).toInt = q4.toInt + 1 := ti_add (by omega) (by omega)
    have es0 : hI h2 s 0 = said h y 0 := by rw [B2.2.2.1.1 0 (by omega), eS]
    have es1 : hI h2 s 1 = said h y 1 := by rw [B2.2.2.1.1 1 (by omega), eS]
    have R : ∀ {v : Int32}, (¬ (1 ≤ q1.toInt ∧ 1 ≤ q2.toInt ∧ q3.toInt < (said h y 0).toInt ∧ q4.toInt < (said h y 1).toInt) → v = -2) → ((1 ≤ q1.toInt ∧ 1 ≤ q2.toInt ∧ q3.toInt < (said h y 0).toInt ∧ q4.toInt < (said h y 1).toInt) → v = (((q3 - q1) + 2) * ((q4 - q2) + 2) - areaI (tS (said h y)) t) - areaI (tS (said h y)) u) → Cal G 59 mX12_between [.ref y, .int (nI t), .int (nI u)] h2 (fun r2 h3 => r2 = some (.int v) ∧ ∃ s p, InvB G u0 h3 b y s p) := by
      intro v r0 r1
      have M2 := I2.md
      have W2 := I2.wf
      have z0 : (0 : Int32).toInt = 0 := rfl
      refine e_X12_between (by omega) ⟨M2.1, m_isThing M2 W2 (by omega) (fun q => absurd (isT.of ht (by rw [eS]; exact wt)) q) (fun _ _ _ _ => ⟨_, rfl, fun q => absurd q (by decide), fun _ => m_isThing M2 W2 (by omega) (fun q => absurd (isT.of hu (by rw [eS]; exact wu)) q) (fun _ _ _ _ => ⟨_, rfl, fun q => absurd q (by decide), fun _ => ⟨fun q => absurd q ne, fun _ => r_isOuter (t := t) (by omega) M2 (ti_nI (by omega)) (by omega) ⟨_, rfl, fun q => ?_, fun _ => r_isOuter (t := u) (by omega) M2 (ti_nI (by omega)) (by omega) ⟨_, rfl, fun _ => r_bases2 (by omega) M2 (by omega) (by omega) fun h3 F3 v3 => ⟨rfl, ?_⟩, fun q => ?_⟩⟩⟩⟩)⟩)⟩
      · rw [if10, sd_tS, eS] at q
        exact absurd o1 q
      · have F3' : FrJ (fun a k => a = y ∧ 37 ≤ k ∧ k ≤ 40) (fun _ _ => False) h2 h3 := F3.j _
        have I3 : InvB G u0 h3 b y s p := I2.scr (F3'.weak (fun a k q => by unfold Scr; omega) (fun _ _ q => q.elim))
        have eS3 : said h3 y = said h y := (funext fun j => F3.i (by omega)).trans eS
        have M3 := I3.md
        obtain ⟨m1, m2, m3⟩ := M3.sd
        rw [eS] at v3
        have a1 : hI h3 y 37 = q1 := (v3 1 (by omega) (by omega)).trans hk1
        have a2 : hI h3 y 38 = q2 := (v3 2 (by omega) (by omega)).trans hk2
        have a3 : hI h3 y 39 = q3 := (v3 3 (by omega) (by omega)).trans hk3
        have a4 : hI h3 y 40 = q4 := (v3 4 (by omega) (by omega)).trans hk4
        have s0 : hI h3 (y + 13) 0 = said h y 0 := congrFun eS3 0
        have s1 : hI h3 (y + 13) 1 = said h y 1 := congrFun eS3 1
        have fin : ∀ w : Int32, v = w → some (Value.int w) = some (Value.int v) ∧ ∃ s p, InvB G u0 h3 b y s p := fun w e => ⟨by rw [e], s, p, I3⟩
        rw [a1, a2, a3, a4]
        refine ⟨fun c => fin _ (r0 ?_), fun d1 => ⟨fun c => fin _ (r0 ?_), fun d2 => ⟨y + 13, m1, m2, vin_nI (k := 0) (by omega) (by omega), fun c => fin _ (r0 ?_), fun d3 => ⟨vin_nI (k := 1) (by omega) (by omega), fun d4 => r_cellsOf (t := t) (by omega) M3 (ti_nI (by omega)) (by omega) ⟨_, rfl, r_cellsOf (t := u) (by omega) M3 (ti_nI (by omega)) (by omega) ⟨_, rfl, fin _ ?_⟩⟩, fun c => fin _ (r0 ?_)⟩⟩⟩⟩
        · rw [ti_lt, one] at c; omega
        · rw [ti_lt, one] at c; omega
        · rw [s0, ti_le] at c; omega
        · rw [sd_tS, eS3]
          rw [ti_lt, one] at d1 d2
          rw [s0, ti_le] at d3
          rw [s1, ti_lt] at d4
          exact r1 (by omega)
        · rw [s1, ti_lt] at c; omega
      · rw [if10, sd_tS, eS] at q
        exact absurd o2 q
    refine s_holds (F.kd pk) (F.kd ks) (fun q => ⟨_, rfl, fun q => absurd rfl q, fun _ => ⟨_, rfl, R (fun _ => rfl) (fun z => absurd ?_ q)⟩⟩) (fun q => ⟨_, rfl, fun _ => ⟨b + 29, (F.r (fun z => z)).trans pr, F.kd pk, s_parea (F.kd pk) ⟨_, rfl, F.kd k1, s_area (F.kd k1) ⟨_, rfl, F.kd k2, s_area (F.kd k2) ⟨_, rfl, _, rfl, R (fun z => absurd ?_ z) (fun _ => ?_)⟩⟩⟩⟩, fun q => absurd q (by decide)⟩)
    · rw [es0, es1, w1, w2, w3, w4]
      unfold hldP
      rw [t1, t2, t3, t4]
      omega
    · rw [es0, es1, w1, w2, w3, w4] at q
      unfold hldP at q
      rw [t1, t2, t3, t4] at q
      omega
    · rw [B2.aI ht (by rw [eS]; exact (B.wallR ht).mpr wt), B2.aI hu (by rw [eS]; exact (B.wallR hu).mpr wu), eS, w1, w2, w3, w4]
      have two : (2 : Int32).toInt = 2 := rfl
      have u1 : q3 + 1 - (q1 - 1) = q3 - q1 + 2 := by
        have a : (q3 - q1).toInt = q3.toInt - q1.toInt := ti_sub (by omega) (by omega)
        rw [ti_eq, ti_sub (by omega) (by omega), t1, t3, ti_add (by omega) (by omega), a, two]
        omega
      have u2 : q4 + 1 - (q2 - 1) = q4 - q2 + 2 := by
        have a : (q4 - q2).toInt = q4.toInt - q2.toInt := ti_sub (by omega) (by omega)
        rw [ti_eq, ti_sub (by omega) (by omega), t2, t4, ti_add (by omega) (by omega), a, two]
        omega
      rw [u1, u2]
  · have R : Cal G 59 mX12_between [.ref y, .int x1, .int x2] h (fun r2 h3 => r2 = some (.int (-1)) ∧ ∃ s p, InvB G u0 h3 b y s p) := by
      refine e_X12_between (by omega) ⟨M.1, m_isThing M W (by omega) (fun _ => ⟨_, rfl, fun _ => ok, fun q => absurd rfl q⟩) (fun t ht et wt => ⟨_, rfl, fun q => absurd q (by decide), fun _ => m_isThing M W (by omega) (fun _ => ⟨_, rfl, fun _ => ok, fun q => absurd rfl q⟩) (fun u hu eu wu => ⟨_, rfl, fun q => absurd q (by decide), fun _ => ⟨fun _ => ok, fun ne => ?_⟩⟩)⟩)⟩
      subst et eu
      refine r_isOuter (t := t) (by omega) M (ti_nI (by omega)) (by omega) ⟨_, rfl, fun _ => ok, fun c => r_isOuter (t := u) (by omega) M (ti_nI (by omega)) (by omega) ⟨_, rfl, fun c2 => ?_, fun _ => ok⟩⟩
      refine absurd ⟨t, u, ⟨ht, rfl, wt⟩, ⟨hu, rfl, wu⟩, fun q => ne (by rw [q]), Decidable.not_not.mp (fun z => c (if10.mpr z)), Decidable.not_not.mp (fun z => c2 (if10.mpr z))⟩ hg
    have bad : ∃ v, some (Value.int (-1)) = some (Value.int v) ∧ Cal G 59 mX12_between [.ref y, .int x1, .int x2] h (fun r2 h2 => r2 = some (.int v) ∧ ∃ s p, InvB G u0 h2 b y s p) := ⟨_, rfl, R⟩
    refine e_X11_between (by omega) ⟨fun _ => bad, fun ne => ⟨kb, s, n2, ks, c_isThere B (fun q => ⟨_, rfl, fun _ => bad, fun q => absurd rfl q⟩) (fun t ht et wt => ⟨_, rfl, fun q => absurd q (by decide), fun _ => ⟨s, n2, ks, c_isThere B (fun q => ⟨_, rfl, fun _ => bad, fun q => absurd rfl q⟩) (fun u hu eu wu => ⟨_, rfl, fun q => absurd q (by decide), fun _ => ⟨s, n2, ks, ?_⟩⟩)⟩⟩)⟩⟩
    subst et eu
    refine s_isOutermost st (fun q => absurd ⟨by rw [ti_nI (by omega)]; omega, by rw [ti_nI (by omega)]; omega⟩ q) (fun t' e' h' => ?_)
    obtain rfl : t = t' := (nI_eq_iff (by omega) (by omega)).mp e'
    refine ⟨_, rfl, fun _ => bad, fun c => ⟨s, n2, ks, s_isOutermost st (fun q => absurd ⟨by rw [ti_nI (by omega)]; omega, by rw [ti_nI (by omega)]; omega⟩ q) (fun u' e2 h2 => ?_)⟩⟩
    obtain rfl : u = u' := (nI_eq_iff (by omega) (by omega)).mp e2
    refine ⟨_, rfl, fun c2 => ?_, fun _ => bad⟩
    exact absurd ⟨t, u, ⟨ht, rfl, wt⟩, ⟨hu, rfl, wu⟩, fun q => ne (by rw [q]), (B.out ht wt).mp (Decidable.not_not.mp (fun z => c (if10.mpr z))), (B.out hu wu).mp (Decidable.not_not.mp (fun z => c2 (if10.mpr z)))⟩ hg
