/-! ===== pair way ===== -/
def WcP (b a : Nat) (_ : Nat) : Prop := b + 21 ≤ a ∧ a ≤ b + 28
def WrP (y a k : Nat) : Prop := (a = y ∧ (k = 47 ∨ k = 48)) ∨ (y + 15 ≤ a ∧ a ≤ y + 18)
theorem InvB.wy {G : GG} {u0 : Nat} {h : HP} {b y s p : Nat} (I : InvB G u0 h b y s p) : hR h b 7 = some (b + 21) ∧ WySh G h (b + 21) := by
  have S := I.1.2.2.1
  have q := S (0, 7, 21, 10, 11) (by decide)
  have r0 := S (21, 0, 22, 14, 1600) (by decide)
  have r3 := S (21, 3, 23, 14, 1600) (by decide)
  have r4 := S (21, 4, 24, 14, 1600) (by decide)
  have r5 := S (21, 5, 25, 14, 1600) (by decide)
  have r6 := S (21, 6, 26, 14, 1600) (by decide)
  have r7 := S (21, 7, 27, 14, 160) (by decide)
  have r8 := S (21, 8, 28, 14, 160) (by decide)
  refine ⟨q.2.1, q.2.2.1, ⟨r0.2.1, r3.2.1, r4.2.1, r5.2.1, r6.2.1, r7.2.1, r8.2.1⟩, fun a h1 h2 => ?_, fun a h1 h2 => ?_⟩
  · rcases (show a = b + 22 ∨ a = b + 23 ∨ a = b + 24 ∨ a = b + 25 ∨ a = b + 26 by omega) with e | e | e | e | e <;> subst e
    · exact r0.2.2
    · exact r3.2.2
    · exact r4.2.2
    · exact r5.2.2
    · exact r6.2.2
  · rcases (show a = b + 27 ∨ a = b + 28 by omega) with e | e <;> subst e
    · exact r7.2.2
    · exact r8.2.2
theorem InvB.wc {G : GG} {u0 : Nat} {h h2 : HP} {b y s p : Nat} (I : InvB G u0 h b y s p) (F : FrJ (WcP b) (SvR (b + 21)) h h2) : InvB G u0 h2 b y s p ∧ said h2 y = said h y := by
  have g := I.1.1
  refine ⟨I.scr (F.weak (fun a k q => by unfold WcP at q; unfold Scr; omega) (fun a k q => by unfold SvR at q; unfold Scr2; omega)), funext fun j => F.i (by unfold WcP; omega)⟩
theorem InvB.wr {G : GG} {u0 : Nat} {h h2 : HP} {b y s p : Nat} (I : InvB G u0 h b y s p) (F : FrI (WrP y) h h2) : InvB G u0 h2 b y s p := by
  have g := I.1.1
  exact I.scr ((F.j (Scr2 b)).weak (fun a k q => by unfold WrP at q; unfold Scr; omega) (fun _ _ q => q))
theorem InvB.rf {G : GG} {u0 : Nat} {h : HP} {b y s p : Nat} (I : InvB G u0 h b y s p) : RfX G h y (said h y) := ⟨I.md, rfl, I.wf, I.2.2.2.2.1⟩
theorem SvF.wc {b a k : Nat} (q : SvF (b + 21) a k) : WcP b a k := by
  unfold SvF at q
  unfold WcP
  omega
theorem Svd.fr {P : Nat → Nat → Prop} {G : GG} {h h2 : HP} {q s g : Nat} {S : Nat → Int32} (F : FrI P h h2) (hp : ∀ a k, P a k → q ≤ a ∧ a ≤ q + 7 ∧ a ≠ q + 5) (V : Svd G h q s S g) : Svd G h2 q s S g := ⟨V.1.fr F (fun a k z => ⟨(hp a k z).1, (hp a k z).2.1⟩), fun e he => by
  obtain ⟨k, k1, k2, k3⟩ := V.2 e he
  exact ⟨k, k1, by rw [F.i (fun z => (hp _ _ z).2.2 rfl)]; exact k2, k3⟩⟩
theorem wy_split {S : Nat → Int32} {f : Int32} {o t : Nat} (W : WF S) (ho : o < 1600) (h : dR S 0 o t ≠ -1) : ∃ k m : Nat, dR S 0 o t = k ∧ coi (tS S) f o t = m ∧ k < 1600 ∧ m ≤ 23976 ∧ iI (wyV S f o t) = nI (k + 10000 * m) ∧ nI (k + 10000 * m) / 10000 = nI m ∧ irm (nI (k + 10000 * m)) 10000 = nI k ∧ (0 : Int32) ≤ nI (k + 10000 * m) ∧ wyV S f o t ≠ -1 := by
  have q := coi_rng (f := f) (o := o) (c := t) W.gt
  rcases dR_rng (g := 0) (c := t) W.l40 ho with e | e
  · exact absurd e h
  · obtain ⟨k, hk⟩ : ∃ k : Nat, dR S 0 o t = k := ⟨(dR S 0 o t).toNat, by omega⟩
    obtain ⟨m, hm⟩ : ∃ m : Nat, coi (tS S) f o t = m := ⟨(coi (tS S) f o t).toNat, by omega⟩
    have ev : wyV S f o t = ((k + 10000 * m : Nat) : Int) := by
      unfold wyV
      rw [if_neg h, hk, hm]
      omega
    refine ⟨k, m, hk, hm, by omega, by omega, by rw [ev, iI_nI], ?_, ?_, ?_, by rw [ev]; omega⟩
    · show _ / nI 10000 = _
      rw [nD (by omega) (by omega)]
      congr 1
      omega
    · show irm _ (nI 10000) = _
      rw [nR (by omega) (by omega)]
      congr 1
      omega
    · rw [ti_le, ti_nI (by omega), show (0 : Int32).toInt = 0 from rfl]
      omega
theorem inB_ld {S : Nat → Int32} {x z : Int32} (L : Ld40 S) : inB (S 0) (S 1) x z = true ↔ ∃ o, o < 1600 ∧ x = nI (o % 40) ∧ z = nI (o / 40) ∧ inLd S o := by
  unfold Ld40 at L
  unfold inB
  rw [decide_eq_true_eq, ti_le, ti_lt, ti_le, ti_lt, show (0 : Int32).toInt = 0 from rfl]
  constructor
  · rintro ⟨a1, a2, a3, a4⟩
    obtain ⟨i, hi, rfl⟩ := of_in (n := 40) a1 (by omega)
    obtain ⟨j, hj, rfl⟩ := of_in (n := 40) a3 (by omega)
    rw [ti_nI (by omega)] at a2 a4
    refine ⟨40 * j + i, by omega, by rw [show (40 * j + i) % 40 = i by omega], by rw [show (40 * j + i) / 40 = j by omega], ?_⟩
    unfold inLd
    rw [show (40 * j + i) % 40 = i by omega, show (40 * j + i) / 40 = j by omega]
    exact ⟨a2, a4⟩
  · rintro ⟨o, ho, rfl, rfl, il⟩
    unfold inLd at il
    rw [ti_nI (by omega), ti_nI (by omega)]
    omega
theorem ex40 {c : Nat} : nI (c / 40) * 40 + nI (c % 40) = nI c := by rw [e40, show 40 * (c / 40) + c % 40 = c by omega]
theorem ex40' {c : Nat} : 40 * nI (c / 40) + nI (c % 40) = nI c := by rw [e40', show 40 * (c / 40) + c % 40 = c by omega]
theorem p_way (G : GG) (u0 : Nat) (h : HP) (I : Inv G u0 h) (x1 x2 x3 x4 x5 x6 : Int32) : Pr (Inv G u0) G G.1 (G.1 + 119) mX11_way mX12_way [.int x1, .int x2, .int x3, .int x4, .int x5, .int x6] h := by
  obtain ⟨s, p, I⟩ := I
  unfold Pr Inv
  generalize G.1 = b at *
  generalize hy : b + 119 = y at *
  have W := I.wf
  have L := W.l40
  have kb := I.kb
  have n2 := I.now
  have B := I.bd
  have ks := B.1.1
  obtain ⟨w7, wy⟩ := I.wy
  have ns := I.2.1.1
  have z2 : (2 : Int32).toInt = 2 := rfl
  have z0 : (0 : Int32).toInt = 0 := rfl
  have y0 : (0 : Int64).toInt = 0 := by simp
  have y2 : (2 : Int64).toInt = 2 := by simp
  -- the reference up to its walk
  have R : ∀ {h2 : HP} {Q : Option Value → HP → Prop}, InvB G u0 h2 b y s p → said h2 y = said h y → (¬ (famI x1 ∧ inB (said h y 0) (said h y 1) x2 x3 = true ∧ inB (said h y 0) (said h y 1) x4 x5 = true ∧ 0 ≤ x6.toInt ∧ x6.toInt ≤ 2) → Q (some (.int (-1))) h2) → ((famI x1 ∧ inB (said h y 0) (said h y 1) x2 x3 = true ∧ inB (said h y 0) (said h y 1) x4 x5 = true ∧ 0 ≤ x6.toInt ∧ x6.toInt ≤ 2) → Cal G 58 mX12_lays [.ref y] h2 (fun r22 h23 => r22 = none ∧ Cal G 58 mX12_wayOf [.ref y, .int x1, .int x2, .int x3, .int x4, .int x5] h23 (fun r25 h26 => ∃ v28, r25 = some (.int v28) ∧ ((0 ≤ v28 → ((¬ x6 = 0 → ((¬ x6 = 1 → Cal G 58 mX12_asks [.ref y, .int x1, .int ((40 * x3) + x2), .int ((40 * x5) + x4)] h26 (fun r32 h33 => ∃ v35, r32 = some (.int v35) ∧ Q (some (.int v35)) h33)) ∧ (x6 = 1 → Q (some (.int (irm v28 10000))) h26))) ∧ (x6 = 0 → Q (some (.int (v28 / 10000))) h26))) ∧ (¬ 0 ≤ v28 → Q (some (.int (-2))) h26))))) → Cal G 59 mX12_way [.ref y, .int x1, .int x2, .int x3, .int x4, .int x5, .int x6] h2 Q := by
    intro h2 Q I2 eS q0 q1
    have M2 := I2.md
    have d0 : rng (said h2 y 0) 5 40 := by rw [eS]; exact W.1.1.1
    have d1 : rng (said h2 y 1) 5 40 := by rw [eS]; exact W.1.1.2.1
    refine e_X12_way (by omega) (r_isFamily (fun c => ⟨_, rfl, fun _ => q0 (fun z => c z.1), fun q => absurd rfl q⟩) (fun c1 => ⟨_, rfl, fun q => absurd q (by decide), fun _ => ⟨M2.1, r_isInLand (by omega) M2 d0 d1 ⟨_, rfl, fun c => q0 (fun z => ?_), fun c2 => r_isInLand (by omega) M2 d0 d1 ⟨_, rfl, fun c => q0 (fun z => ?_), fun c3 => r_in ⟨_, rfl, fun c4 => q1 ?_, fun c => q0 (fun z => ?_)⟩⟩⟩⟩⟩))
    · rw [if10, eS] at c
      exact c z.2.1
    · rw [if10, eS] at c
      exact c z.2.2.1
    · rw [eS] at c2 c3
      have c4 := Decidable.not_not.mp (fun z => c4 (if10.mpr z))
      rw [ti64, y0, y2] at c4
      exact ⟨c1, Decidable.not_not.mp (fun z => c2 (if10.mpr z)), Decidable.not_not.mp (fun z => c3 (if10.mpr z)), c4⟩
    · rw [if10, ti64, y0, y2] at c
      exact c z.2.2.2
  have bad : ¬ (famI x1 ∧ inB (said h y 0) (said h y 1) x2 x3 = true ∧ inB (said h y 0) (said h y 1) x4 x5 = true ∧ 0 ≤ x6.toInt ∧ x6.toInt ≤ 2) → ∃ v, some (Value.int (-1)) = some (Value.int v) ∧ Cal G 59 mX12_way [.ref y, .int x1, .int x2, .int x3, .int x4, .int x5, .int x6] h (fun r2 h2 => r2 = some (.int v) ∧ ∃ s p, InvB G u0 h2 b y s p) := fun c => ⟨_, rfl, R I rfl (fun _ => ⟨rfl, s, p, I⟩) (fun z => absurd z c)⟩
  have eh0 : hI h s 0 = said h y 0 := B.2.2.1.1 0 (by omega)
  have eh1 : hI h s 1 = said h y 1 := B.2.2.1.1 1 (by omega)
  refine e_X11_way (by omega) (s_isFamily (fun c => ⟨_, rfl, fun _ => bad (fun z => c z.1), fun q => absurd rfl q⟩) (fun c1 => ⟨_, rfl, fun q => absurd q (by decide), fun _ => ⟨kb, s, n2, ks, s_hasCell ks ⟨_, rfl, fun c => bad (fun z => ?_), fun c2 => ⟨s, n2, ks, s_hasCell ks ⟨_, rfl, fun c => bad (fun z => ?_), fun c3 => ⟨fun c => bad (fun z => ?_), fun c4 => ⟨fun c5 => ?_, fun c => bad (fun z => ?_)⟩⟩⟩⟩⟩⟩⟩))
  · rw [if10, eh0, eh1] at c
    exact c z.2.1
  · rw [if10, eh0, eh1] at c
    exact c z.2.2.1
  · rw [ti_lt, z0] at c
    omega
  rotate_left
  · rw [ti_le, z2] at c
    omega
  rw [eh0, eh1] at c2 c3
  have c2 := Decidable.not_not.mp (fun z => c2 (if10.mpr z))
  have c3 := Decidable.not_not.mp (fun z => c3 (if10.mpr z))
  rw [ti_lt, z0] at c4
  rw [ti_le, z2] at c5
  have good : famI x1 ∧ inB (said h y 0) (said h y 1) x2 x3 = true ∧ inB (said h y 0) (said h y 1) x4 x5 = true ∧ 0 ≤ x6.toInt ∧ x6.toInt ≤ 2 := ⟨c1, c2, c3, by omega, by omega⟩
  obtain ⟨o, ho, rfl, rfl, io⟩ := (inB_ld L).mp c2
  obtain ⟨t, ht, rfl, rfl, it⟩ := (inB_ld L).mp c3
  obtain ⟨k6, hk6, rfl⟩ := of_in (n := 3) (x := x6) (by omega) (by omega)
  refine ⟨b + 21, w7, s, n2, wy.1, s_survey (by omega) wy B.1 B.2.2.1 W (by omega) (gov_none _) (fun h1 F1 V1 => ⟨rfl, b + 21, ?_⟩)⟩
  have G1 : FrJ (WcP b) (SvR (b + 21)) h h1 := F1.weak (fun a k q => SvF.wc q) (fun _ _ q => q)
  have r7 : ∀ hh, FrJ (WcP b) (SvR (b + 21)) h hh → hR hh b 7 = some (b + 21) := fun hh F => (F.r (by unfold SvR; omega)).trans w7
  refine ⟨r7 h1 G1, V1.1.1.1.1, b + 22, V1.1.1.1.2.1.1, ?_⟩
  rw [ex40, ex40]
  refine s_walk (by omega) V1 ho (Or.inl rfl) (Or.inr ⟨t, ht, rfl⟩) (fun h3 r F3 _ er => ⟨r, rfl, ?_⟩)
  have er := er t ht rfl
  have V3 := V1.fr F3 (fun a k q => by omega)
  have G3 : FrJ (WcP b) (SvR (b + 21)) h h3 := G1.tr ((F3.j _).weak (fun a k q => by unfold WcP; omega) (fun _ _ q => q))
  -- the reference's end
  have fin : ∀ (h4 : HP) (v : Int32), FrJ (WcP b) (SvR (b + 21)) h h4 → (dR (said h y) 0 o t = -1 → v = -2) → (∀ k m : Nat, dR (said h y) 0 o t = k → coi (tS (said h y)) x1 o t = m → (k6 = 0 → v = nI m) ∧ (k6 = 1 → v = nI k) ∧ (k6 = 2 → MskP (AskB (tS (said h y)) x1 o t) v)) → Cal G 59 mX12_way [.ref y, .int x1, .int (nI (o % 40)), .int (nI (o / 40)), .int (nI (t % 40)), .int (nI (t / 40)), .int (nI k6)] h4 (fun r2 h2 => r2 = some (.int v) ∧ ∃ s p, InvB G u0 h2 b y s p) := by
    intro h4 v G4 v1 v2
    obtain ⟨I4, eS4⟩ := I.wc G4
    refine R I4 eS4 (fun c => absurd good c) (fun _ => ?_)
    have X4 := I4.rf
    rw [eS4] at X4
    refine r_lays (by omega) X4 (fun h5 F5 P5 => ⟨rfl, ?_⟩)
    have X5 := X4.fr F5 (fun a _ e => by omega)
    have I5 := I4.wr (F5.weak (fun a k q => by unfold WrP; omega))
    refine r_wayOf (by omega) X5 P5 ho ht (fun c => absurd ⟨io, it⟩ c) (fun _ _ h6 F6 K6 => ⟨_, rfl, ?_⟩)
    have I6 := I5.wr (F6.weak (fun a k q => by unfold WkP at q; unfold WrP; omega))
    have X6 := X5.fr F6 (fun a k e => by unfold WkP at e; omega)
    have P6 : PtA (tS (said h y)) 30 (hI h6 (y + 15)) := by
      have e : hI h6 (y + 15) = hI h5 (y + 15) := funext (fun k => F6.i (by unfold WkP; omega))
      rw [e]
      exact P5
    by_cases dn : dR (said h y) 0 o t = -1
    · have e : wyV (said h y) x1 o t = -1 := by
        unfold wyV
        rw [if_pos dn]
      rw [e, v1 dn]
      exact ⟨fun q => absurd q (by decide), fun _ => ⟨rfl, s, p, I6⟩⟩
    · obtain ⟨k, m, ek, em, hk, hm, e1, e2, e3, e4, e5⟩ := wy_split (f := x1) W ho dn
      obtain ⟨w0, w1, w2⟩ := v2 k m ek em
      rw [e1]
      refine ⟨fun _ => ⟨fun n0 => ⟨fun n1 => ?_, fun c => ?_⟩, fun c => ?_⟩, fun q => absurd e4 q⟩
      · have k62 : k6 = 2 := by
          have : k6 ≠ 0 := fun q => n0 (by rw [q]; rfl)
          have : k6 ≠ 1 := fun q => n1 (by rw [q]; rfl)
          omega
        have nr : ¬ rv (said h y) o := fun q => dn (dR_rv q)
        rw [ex40', ex40']
        refine r_asks (by omega) X6 P6 io nr (by rw [← dR_no nr]; exact dn) (K6 e5) (fun v' hv' => ⟨v', rfl, by rw [(w2 k62).uniq hv'], s, p, I6⟩)
      · rw [e3]
        exact ⟨by rw [w1 ((nI_eq_iff (b := 1) (by omega) (by omega)).mp c)], s, p, I6⟩
      · rw [e2]
        exact ⟨by rw [w0 ((nI_eq_iff (b := 0) (by omega) (by omega)).mp c)], s, p, I6⟩
  have dr := dR_rng (g := 0) (c := t) L ho
  refine ⟨fun nz => ⟨fun n1 => ⟨b + 21, r7 h3 G3, V3.1.1.1.1, s_settle (by omega) V3.1 ho ht (fun h4 F4 ec ea => ⟨rfl, ?_⟩)⟩, fun c => ⟨_, rfl, fin h3 _ G3 (fun q => ?_) (fun k m hk hm => ⟨fun q => ?_, fun _ => ?_, fun q => ?_⟩)⟩⟩, fun z => ⟨_, rfl, fin h3 _ G3 (fun _ => rfl) (fun k m hk hm => ?_)⟩⟩
  · have G4 : FrJ (WcP b) (SvR (b + 21)) h h4 := G3.tr ((F4.j _).weak (fun a k q => by unfold StF at q; unfold WcP; omega) (fun _ _ q => q))
    have k4 : Kd G h4 (b + 21) 10 := F4.kd V3.1.1.1.1
    have nd : dR (said h y) 0 o t ≠ -1 := fun q => nz (by rw [er, q]; rfl)
    refine ⟨fun n0 => ⟨b + 21, r7 h4 G4, k4, _, rfl, fin h4 _ G4 (fun q => absurd q nd) (fun k m hk hm => ⟨fun q => ?_, fun q => ?_, fun _ => ea⟩)⟩, fun c => ⟨b + 21, r7 h4 G4, k4, _, rfl, fin h4 _ G4 (fun q => absurd q nd) (fun k m hk hm => ⟨fun _ => ?_, fun q => ?_, fun q => ?_⟩)⟩⟩
    · exact absurd (by rw [q]; rfl) n0
    · exact absurd (by rw [q]; rfl) n1
    · rw [ec, hm, iI_nI]
    · exact absurd (by rw [q]; rfl) n1
    · rw [q] at c
      exact absurd c (by decide)
  · rw [er, q] at nz
    exact absurd rfl nz
  · rw [q] at c
    exact absurd c (by decide)
  · rw [er, hk, iI_nI]
  · rw [q] at c
    exact absurd c (by decide)
  · rw [er, iI_m1 (by omega) (by omega)] at z
    omega
