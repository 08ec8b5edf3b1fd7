/-! ===== pairs sum and gains ===== -/
def eN (S : Nat → Int32) (e j : Nat) : Nat := (S (2400 + 6 * e + j)).toInt.toNat
def eO (S : Nat → Int32) (e : Nat) : Nat := 40 * eN S e 3 + eN S e 2
def eT (S : Nat → Int32) (e : Nat) : Nat := 40 * eN S e 5 + eN S e 4
def okE (S : Nat → Int32) (g e : Nat) : Prop := inLd S (eO S e) ∧ inLd S (eT S e) ∧ dR S g (eO S e) (eT S e) ≠ -1
noncomputable def cE (S : Nat → Int32) (g e : Nat) : Int := if S (2400 + 6 * e) = 0 then 0 else @ite _ (okE S g e) (Classical.propDecidable _) (coi (tS S) (S (2400 + 6 * e + 1)) (eO S e) (eT S e)) 999
noncomputable def sE (S : Nat → Int32) (g e : Nat) : Int := if S (2400 + 6 * e) = 0 then 0 else @ite _ (okE S g e) (Classical.propDecidable _) (dR S g (eO S e) (eT S e)) 9999
noncomputable def xE (S : Nat → Int32) (m : Bool) (g e : Nat) : Int := if m then cE S g e else sE S g e
theorem xE_no {S : Nat → Int32} {g e : Nat} (h : S (2400 + 6 * e) = 0) (m : Bool) : xE S m g e = 0 := by
  unfold xE cE sE
  rw [if_pos h, if_pos h]
  cases m <;> rfl
theorem xE_bad {S : Nat → Int32} {g e : Nat} (h : ¬ S (2400 + 6 * e) = 0) (k : ¬ okE S g e) (m : Bool) : xE S m g e = if m then 999 else 9999 := by
  unfold xE cE sE
  rw [if_neg h, if_neg h, @if_neg _ (Classical.propDecidable _) k, @if_neg _ (Classical.propDecidable _) k]
theorem xE_ok {S : Nat → Int32} {g e : Nat} (h : ¬ S (2400 + 6 * e) = 0) (k : okE S g e) (m : Bool) : xE S m g e = if m then coi (tS S) (S (2400 + 6 * e + 1)) (eO S e) (eT S e) else dR S g (eO S e) (eT S e) := by
  unfold xE cE sE
  rw [if_neg h, if_neg h, @if_pos _ (Classical.propDecidable _) k, @if_pos _ (Classical.propDecidable _) k]
theorem WF.er {S : Nat → Int32} (W : WF S) {e : Nat} (he : e < 6) (h : ¬ S (2400 + 6 * e) = 0) : S (2400 + 6 * e) = 1 ∧ (∀ j, 2 ≤ j → j < 6 → S (2400 + 6 * e + j) = nI (eN S e j) ∧ eN S e j < 40) ∧ (eO S e < 1600 ∧ eO S e % 40 = eN S e 2 ∧ eO S e / 40 = eN S e 3) ∧ eT S e < 1600 ∧ eT S e % 40 = eN S e 4 ∧ eT S e / 40 = eN S e 5 := by
  rcases W.1.2.2.2.2.2.2 e he with q | ⟨q1, q2, q3⟩
  · exact absurd q h
  · have r : ∀ j, 2 ≤ j → j < 6 → S (2400 + 6 * e + j) = nI (eN S e j) ∧ eN S e j < 40 := fun j h1 h2 => by
      have := q3 j h1 h2
      unfold rng at this
      unfold eN
      exact ⟨nI_ti (by omega), by omega⟩
    have r2 := (r 2 (by omega) (by omega)).2
    have r3 := (r 3 (by omega) (by omega)).2
    have r4 := (r 4 (by omega) (by omega)).2
    have r5 := (r 5 (by omega) (by omega)).2
    refine ⟨q1, r, ?_, ?_⟩
    · unfold eO
      omega
    · unfold eT
      omega
section SU
variable {G : GG} {d : Nat} {b y s : Nat} {S : Nat → Int32} {Q : Option Value → HP → Prop}
def bMI (m : Bool) : Int32 := if m then 1 else 0
theorem inB_c {c : Nat} (hc : c < 1600) : inB (S 0) (S 1) (nI (c % 40)) (nI (c / 40)) = true ↔ inLd S c := by
  unfold inB inLd
  rw [decide_eq_true_eq, ti_le, ti_lt, ti_le, ti_lt, ti_nI (by omega), ti_nI (by omega), show (0 : Int32).toInt = 0 from rfl]
  omega
def TtF (b a k : Nat) : Prop := (a = b + 21 ∧ (k = 1 ∨ k = 2)) ∨ a = b + 22 ∨ a = b + 24
theorem s_totalE {h : HP} {g : Nat} {m : Bool} (hd : 2 ≤ d) (kb : Kd G h b 11) (r7 : hR h b 7 = some (b + 21)) (r12 : hR h b 12 = some s) (V : Svd G h (b + 21) s S g) (hQ : ∀ h2, FrI (TtF b) h h2 → Svd G h2 (b + 21) s S g → Q (some (.int (iI (sum1 (xE S m g) 6)))) h2) : Cal G d mX11_total [.ref b, .int (bMI m)] h Q := by
  have W := V.1.2.2.2.1
  have L := W.l40
  refine e_X11_total ?_
  unfold T_X11_total
  have loop : ∀ n e h1, e + n = 6 → FrI (TtF b) h h1 → Svd G h1 (b + 21) s S g → Ex G d mX11_total 4 [(0, .ref b), (1, .int (bMI m)), (2, .int (iI (sum1 (xE S m g) e))), (3, .int (nI e))] [] h1 Q := by
    intro n
    induction n with
    | zero =>
      intro e h1 he F V1
      obtain rfl : e = 6 := by omega
      exact t_X11_total_4 (by omega) ⟨fun _ => hQ h1 F V1, fun z => absurd (show (6 : Int32) ≤ nI 6 by decide) z⟩
    | succ n ih =>
      intro e h1 he F V1
      obtain ⟨a1, ⟨b1, b2, b3, b4⟩, -, -, -, ⟨g1, g2⟩, -, k2⟩ := V1.1.2.1
      obtain ⟨c1, c2⟩ := V1.1.2.2.1.2.2.2.2.2 e (by omega)
      have ke := k2 e (by omega)
      refine t_X11_total_4 (by omega) ⟨fun z => ?_, fun _ => ⟨F.kd kb, s, (F.r _ _).trans r12, a1, s + 4, b4, g1, by rw [g2]; exact vin_nI (by omega) (by omega), s + 36 + e, by rw [cl_nI (by omega)]; exact ke.1, ke.2, fun z => ?_, fun z => ?_⟩⟩
      · have := (nI_le_iff (a := 6) (b := e) (by omega) (by omega)).mp z
        omega
      · rw [c1] at z
        rw [nI_S]
        have := ih (e + 1) h1 (by omega) F V1
        simp only [sum1] at this
        rw [xE_no z, Int.add_zero] at this
        exact this
      · rw [c1] at z
        obtain ⟨e1, ej, ⟨o16, o1, o2⟩, t16, t1, t2⟩ := W.er (by omega) z
        have fj : ∀ j, 1 ≤ j → j < 6 → hI h1 (s + 36 + e) j = S (2400 + 6 * e + j) := c2 e1
        have fo1 : hI h1 (s + 36 + e) 2 = nI (eO S e % 40) := by rw [fj 2 (by omega) (by omega), (ej 2 (by omega) (by omega)).1, o1]
        have fo2 : hI h1 (s + 36 + e) 3 = nI (eO S e / 40) := by rw [fj 3 (by omega) (by omega), (ej 3 (by omega) (by omega)).1, o2]
        have ft1 : hI h1 (s + 36 + e) 4 = nI (eT S e % 40) := by rw [fj 4 (by omega) (by omega), (ej 4 (by omega) (by omega)).1, t1]
        have ft2 : hI h1 (s + 36 + e) 5 = nI (eT S e / 40) := by rw [fj 5 (by omega) (by omega), (ej 5 (by omega) (by omega)).1, t2]
        have s0 : hI h1 s 0 = S 0 := V1.1.2.2.1.1 0 (by omega)
        have s1 : hI h1 s 1 = S 1 := V1.1.2.2.1.1 1 (by omega)
        -- one without a way
        have none' : ¬ okE S g e → ∀ h3, FrI (TtF b) h h3 → Svd G h3 (b + 21) s S g → Ex G d mX11_total 69 [(0, .ref b), (1, .int (bMI m)), (2, .int (iI (sum1 (xE S m g) e))), (3, .int (nI e)), (4, .ref (s + 36 + e))] [.int (-1)] h3 Q := fun nk h3 F3 V3 => by
          have nx := ih (e + 1) h3 (by omega) F3 V3
          simp only [sum1] at nx
          rw [xE_bad z nk, iI_add] at nx
          refine t_X11_total_69 (by omega) ⟨fun q => absurd rfl q, fun _ => ⟨fun q => ?_, fun q => ?_⟩⟩
          · rw [nI_S]
            cases m
            · exact nx
            · exact absurd q (by decide)
          · rw [nI_S]
            cases m
            · exact absurd rfl q
            · exact nx
        refine e_X6_hasEnds (by omega) ⟨ke.2, a1, s_hasCell a1 ⟨_, rfl, fun q => ?_, fun q => s_hasCell a1 ⟨_, rfl, fun q2 => ?_, fun q2 => ?_⟩⟩⟩
        · rw [if10, s0, s1, fo1, fo2, inB_c o16] at q
          exact ⟨_, rfl, fun _ => none' (fun k => q k.1) h1 F V1, fun q => absurd rfl q⟩
        · rw [if10, s0, s1, ft1, ft2, inB_c t16] at q2
          exact ⟨_, rfl, fun _ => none' (fun k => q2 k.2.1) h1 F V1, fun q => absurd rfl q⟩
        · have q := Decidable.not_not.mp (fun z => q (if10.mpr z))
          have q2 := Decidable.not_not.mp (fun z => q2 (if10.mpr z))
          rw [s0, s1, fo1, fo2, inB_c o16] at q
          rw [s0, s1, ft1, ft2, inB_c t16] at q2
          refine ⟨_, rfl, fun z => absurd z (by decide), fun _ => ⟨b + 21, (F.r _ _).trans r7, e_X1_from ⟨ke.2, _, rfl, e_X1_to ⟨ke.2, _, rfl, b + 21, (F.r _ _).trans r7, V1.1.1.1.1, b + 22, V1.1.1.1.2.1.1, V1.1.1.1.1, ?_⟩⟩⟩⟩
          rw [fo1, fo2, ft1, ft2, ex40, ex40]
          refine s_walk (by omega) V1 o16 (Or.inl rfl) (Or.inr ⟨_, t16, rfl⟩) (fun h3 r F3 _ er => ⟨r, rfl, ?_⟩)
          have er := er _ t16 rfl
          have V3 := V1.fr F3 (fun a k q => by omega)
          have G3 : FrI (TtF b) h h3 := F.tr (F3.weak (fun a k q => by unfold TtF; omega))
          have dr := dR_rng (g := g) (c := eT S e) L o16
          by_cases dn : dR S g (eO S e) (eT S e) = -1
          · rw [er, dn]
            exact none' (fun k => k.2.2 dn) h3 G3 V3
          · have ok : okE S g e := ⟨q, q2, dn⟩
            have ke3 : Kd G h3 (s + 36 + e) 1 := F3.kd ke.2
            have fe : ∀ j, hI h3 (s + 36 + e) j = hI h1 (s + 36 + e) j := fun j => F3.i (by have := V1.1.2.2.2.2; omega)
            refine t_X11_total_69 (by omega) ⟨fun _ => ⟨fun qm => ?_, fun qm => ?_⟩, fun w => ?_⟩
            · rw [nI_S]
              have nx := ih (e + 1) h3 (by omega) G3 V3
              simp only [sum1] at nx
              rw [xE_ok z ok, iI_add] at nx
              cases m
              · rw [er]
                exact nx
              · exact absurd qm (by decide)
            · refine ⟨G3.kd kb, b + 21, (G3.r _ _).trans r7, ke3, V3.1.1.1.1, ?_⟩
              rw [fe, fe, fe, fe, fe, fo1, fo2, ft1, ft2, fj 1 (by omega) (by omega)]
              refine s_settle (by omega) V3.1 o16 t16 (fun h4 F4 ec _ => ⟨rfl, b + 21, ?_⟩)
              have V4 := V3.fr F4 (fun a k q => by unfold StF at q; omega)
              have G4 : FrI (TtF b) h h4 := G3.tr (F4.weak (fun a k q => by unfold StF at q; unfold TtF; omega))
              refine ⟨(G4.r _ _).trans r7, V4.1.1.1.1, ?_⟩
              rw [nI_S, ec]
              have nx := ih (e + 1) h4 (by omega) G4 V4
              simp only [sum1] at nx
              rw [xE_ok z ok, iI_add] at nx
              cases m
              · exact absurd rfl qm
              · exact nx
            · rw [er, iI_m1 (by omega) (by omega)] at w
              exact absurd w dn
  exact loop 6 0 h rfl (FrI.rf _ h) V
theorem r_sums {h : HP} (hd : 7 ≤ d) (X : RfX G h y S) (hQ : ∀ h2, FrI (WrP y) h h2 → hI h2 y 47 = iI (sum1 (xE S true 0) 6) → hI h2 y 48 = iI (sum1 (xE S false 0) 6) → Q none h2) : Cal G d mX12_sums [.ref y] h Q := by
  have W := X.2.2.1
  have pf : ∀ a k, WrP y a k → a ≠ y + 13 := fun a k e => by unfold WrP at e; omega
  refine e_X12_sums (by omega) ⟨X.1.1, r_lays (by omega) X (fun h1 F1 P1 => ⟨rfl, ?_⟩)⟩
  have loop : ∀ n e h2, e + n = 6 → FrI (WrP y) h h2 → PtA (tS S) 30 (hI h2 (y + 15)) → hI h2 y 47 = iI (sum1 (xE S true 0) e) → hI h2 y 48 = iI (sum1 (xE S false 0) e) → Ex G d mX12_sums 16 [(0, .ref y), (1, .int (nI e))] [] h2 Q := by
    intro n
    induction n with
    | zero =>
      intro e h2 he F P v1 v2
      obtain rfl : e = 6 := by omega
      exact t_X12_sums_16 (by omega) ⟨fun _ => hQ h2 F v1 v2, fun z => absurd (show (6 : Int32) ≤ nI 6 by decide) z⟩
    | succ n ih =>
      intro e h2 he F P v1 v2
      have X2 := X.fr F pf
      obtain ⟨m1, m2, m3⟩ := X2.1.sd
      have ix : 2400 + 6 * nI e = nI (2400 + 6 * e) := by
        show nI 2400 + nI 6 * nI e = _
        rw [nM, nA]
      have ixj : ∀ (j : Nat) (x : Int32), x = nI j → 2400 + 6 * nI e + x = nI (2400 + 6 * e + j) := fun j x hx => by rw [ix, hx, nA]
      have vin' : ∀ j, j < 6 → vp_in (nI (2400 + 6 * e + j)) (hN h2 (y + 13)) := fun j hj => by rw [m3]; exact vin_nI (by omega) (by omega)
      have sv : ∀ k, hI h2 (y + 13) k = S k := fun k => congrFun X2.2.1 k
      refine t_X12_sums_16 (by omega) ⟨fun z => ?_, fun _ => ⟨X2.1.1, y + 13, m1, m2, by rw [ix]; exact vin' 0 (by omega), ?_⟩⟩
      · have := (nI_le_iff (a := 6) (b := e) (by omega) (by omega)).mp z
        omega
      rw [ix, cl_nI (by omega), sv]
      refine ⟨fun z => ?_, fun z => ?_⟩
      rotate_left
      · rw [nI_S]
        refine ih (e + 1) h2 (by omega) F P ?_ ?_
        · simp only [sum1]
          rw [xE_no z, Int.add_zero]
          exact v1
        · simp only [sum1]
          rw [xE_no z, Int.add_zero]
          exact v2
      obtain ⟨e1, ej, ⟨o16, o1, o2⟩, t16, t1, t2⟩ := W.er (by omega) z
      have i1 : nI (2400 + 6 * e) + 1 = nI (2400 + 6 * e + 1) := nI_S _
      have i2 : nI (2400 + 6 * e) + 2 = nI (2400 + 6 * e + 2) := nA _ 2
      have i3 : nI (2400 + 6 * e) + 3 = nI (2400 + 6 * e + 3) := nA _ 3
      have i4 : nI (2400 + 6 * e) + 4 = nI (2400 + 6 * e + 4) := nA _ 4
      have i5 : nI (2400 + 6 * e) + 5 = nI (2400 + 6 * e + 5) := nA _ 5
      rw [i1, i2, i3, i4, i5, cl_nI (by omega), cl_nI (by omega), cl_nI (by omega), cl_nI (by omega), cl_nI (by omega), sv, sv, sv, sv, sv, (ej 2 (by omega) (by omega)).1, (ej 3 (by omega) (by omega)).1, (ej 4 (by omega) (by omega)).1, (ej 5 (by omega) (by omega)).1, ← o1, ← o2, ← t1, ← t2]
      refine ⟨vin' 1 (by omega), vin' 2 (by omega), vin' 3 (by omega), vin' 4 (by omega), vin' 5 (by omega), ?_⟩
      have bad : ¬ okE S 0 e → ∀ h3, FrI (WkP y) h2 h3 → Ex G d mX12_sums 108 [(0, .ref y), (1, .int (nI e)), (2, .int (nI (2400 + 6 * e))), (3, .int (-1))] [.int 999, .int (hI h3 y 47), .ref y] h3 Q := fun nk h3 F3 => by
        have F4 : FrI (WrP y) h h3 := F.tr (F3.weak (fun a k q => by unfold WkP at q; unfold WrP; omega))
        have X3 := X.fr F4 pf
        refine t_X12_sums_108 ⟨X3.1.1, X3.1.1.sI, fun q => absurd q (by decide), fun _ => ?_⟩
        rw [nI_S]
        refine ih (e + 1) _ (by omega) (F4.tr ((FrI.sI (P := WrP y) h3 _ (Or.inl ⟨rfl, Or.inl rfl⟩)).tr (FrI.sI (P := WrP y) _ _ (Or.inl ⟨rfl, Or.inr rfl⟩)))) ?_ ?_ ?_
        · have e15 : hI (sI (sI h3 y 47 (hI h3 y 47 + 999)) y 48 (hI (sI h3 y 47 (hI h3 y 47 + 999)) y 48 + 9999)) (y + 15) = hI h2 (y + 15) := funext (fun k => by
            rw [hI_ne _ _ (Or.inl (by omega)), hI_ne _ _ (Or.inl (by omega)), F3.i (by unfold WkP; omega)])
          rw [e15]
          exact P
        · rw [hI_ne _ _ (Or.inr (by omega)), hI_eq, F3.i (by unfold WkP; omega), v1]
          simp only [sum1]
          rw [xE_bad z nk, iI_add]
          rfl
        · rw [hI_eq, hI_ne _ _ (Or.inr (by omega)), F3.i (by unfold WkP; omega), v2]
          simp only [sum1]
          rw [xE_bad z nk, iI_add]
          rfl
      refine r_wayOf (by omega) X2 P o16 t16 (fun c => ⟨_, rfl, fun q => absurd q (by decide), fun _ => bad (fun k => c ⟨k.1, k.2.1⟩) h2 (FrI.rf _ h2)⟩) (fun io it h3 F3 _ => ⟨_, rfl, ?_⟩)
      by_cases dn : dR S 0 (eO S e) (eT S e) = -1
      · have ev : wyV S (S (2400 + 6 * e + 1)) (eO S e) (eT S e) = -1 := by
          unfold wyV
          rw [if_pos dn]
        rw [ev]
        exact ⟨fun q => absurd q (by decide), fun _ => bad (fun k => k.2.2 dn) h3 F3⟩
      · have ok : okE S 0 e := ⟨io, it, dn⟩
        obtain ⟨k, m, ek, em, hk, hm, q1, q2, q3, q4, q5⟩ := wy_split (f := S (2400 + 6 * e + 1)) W o16 dn
        rw [q1]
        refine ⟨fun _ => ?_, fun q => absurd q4 q⟩
        have F4 : FrI (WrP y) h h3 := F.tr (F3.weak (fun a k q => by unfold WkP at q; unfold WrP; omega))
        have X3 := X.fr F4 pf
        refine t_X12_sums_108 ⟨X3.1.1, X3.1.1.sI, fun _ h4 g4 => ?_, fun q => absurd q4 q⟩
        rw [nI_S]
        rw [q2, q3] at g4
        refine ih (e + 1) h4 (by omega) ?_ ?_ ?_ ?_
        · rw [g4]
          exact F4.tr ((FrI.sI (P := WrP y) h3 _ (Or.inl ⟨rfl, Or.inl rfl⟩)).tr (FrI.sI (P := WrP y) _ _ (Or.inl ⟨rfl, Or.inr rfl⟩)))
        · have e15 : hI h4 (y + 15) = hI h2 (y + 15) := funext (fun k => by
            rw [g4, hI_ne _ _ (Or.inl (by omega)), hI_ne _ _ (Or.inl (by omega)), F3.i (by unfold WkP; omega)])
          rw [e15]
          exact P
        · rw [g4, hI_ne _ _ (Or.inr (by omega)), hI_eq, F3.i (by unfold WkP; omega), v1]
          simp only [sum1]
          rw [xE_ok z ok, iI_add, if_pos rfl, em, iI_nI]
        · rw [g4, hI_eq, hI_ne _ _ (Or.inr (by omega)), F3.i (by unfold WkP; omega), v2]
          simp only [sum1]
          rw [xE_ok z ok, iI_add, if_neg (by decide), ek, iI_nI]
  refine loop 6 0 _ rfl ((F1.weak (fun a k q => by unfold WrP; omega)).tr ((FrI.sI (P := WrP y) h1 _ (Or.inl ⟨rfl, Or.inl rfl⟩)).tr (FrI.sI (P := WrP y) _ _ (Or.inl ⟨rfl, Or.inr rfl⟩)))) ?_ ?_ ?_
  · have e15 : hI (sI (sI h1 y 47 0) y 48 0) (y + 15) = hI h1 (y + 15) := funext (fun k => by
      rw [hI_ne _ _ (Or.inl (by omega)), hI_ne _ _ (Or.inl (by omega))])
    rw [e15]
    exact P1
  · rw [hI_ne _ _ (Or.inr (by omega)), hI_eq]
    rfl
  · rw [hI_eq]
    rfl
end SU
theorem TtF.wc {b a k : Nat} (q : TtF b a k) : WcP b a k := by
  unfold TtF at q
  unfold WcP
  omega
theorem p_sum (G : GG) (u0 : Nat) (h : HP) (I : Inv G u0 h) (x1 : Int32) : Pr (Inv G u0) G G.1 (G.1 + 119) mX11_sum mX12_sum_ [.int x1] h := by
  obtain ⟨s, p, I⟩ := I
  unfold Pr Inv
  generalize G.1 = b at *
  generalize hy : b + 119 = y at *
  have W := I.wf
  have kb := I.kb
  have n2 := I.now
  have B := I.bd
  obtain ⟨w7, wy⟩ := I.wy
  have ns := I.2.1.1
  have z1 : (1 : Int32).toInt = 1 := rfl
  have z0 : (0 : Int32).toInt = 0 := rfl
  have y0 : (0 : Int64).toInt = 0 := by simp
  have y1 : (1 : Int64).toInt = 1 := by simp
  have bad : ¬ (0 ≤ x1.toInt ∧ x1.toInt ≤ 1) → ∃ v, some (Value.int (-1)) = some (Value.int v) ∧ Cal G 59 mX12_sum_ [.ref y, .int x1] h (fun r2 h2 => r2 = some (.int v) ∧ ∃ s p, InvB G u0 h2 b y s p) := fun c => ⟨_, rfl, e_X12_sum_ (by omega) (r_in ⟨_, rfl, fun q => absurd (if10.mpr (by rw [ti64, y0, y1]; exact c)) q, fun _ => ⟨rfl, s, p, I⟩⟩)⟩
  refine e_X11_sum (by omega) ⟨fun c => bad (by rw [ti_lt, z0] at c; omega), fun c => ⟨fun c2 => ?_, fun c2 => bad (by rw [ti_le, z1] at c2; omega)⟩⟩
  rw [ti_lt, z0] at c
  rw [ti_le, z1] at c2
  refine ⟨kb, b + 21, w7, s, n2, wy.1, s_survey (by omega) wy B.1 B.2.2.1 W (by omega) (gov_none _) (fun h1 F1 V1 => ⟨rfl, ?_⟩)⟩
  have G1 : FrJ (WcP b) (SvR (b + 21)) h h1 := F1.weak (fun a k q => SvF.wc q) (fun _ _ q => q)
  have fin : ∀ m : Bool, (m = true ↔ x1 = 0) → Cal G 58 mX11_total [.ref b, .int (bMI m)] h1 (fun r13 h14 => ∃ v16, r13 = some (.int v16) ∧ ∃ v, some (Value.int v16) = some (Value.int v) ∧ Cal G 59 mX12_sum_ [.ref y, .int x1] h14 (fun r2 h2 => r2 = some (.int v) ∧ ∃ s p, InvB G u0 h2 b y s p)) := fun m hm => by
    refine s_totalE (by omega) (G1.kd kb) ((G1.r (by unfold SvR; omega)).trans w7) ((G1.r (by unfold SvR; omega)).trans n2) V1 (fun h2 F2 V2 => ⟨_, rfl, _, rfl, ?_⟩)
    obtain ⟨I2, eS⟩ := I.wc (G1.tr ((F2.j _).weak (fun a k q => TtF.wc q) (fun _ _ q => q)))
    have X2 := I2.rf
    rw [eS] at X2
    refine e_X12_sum_ (by omega) (r_in ⟨_, rfl, fun _ => ⟨X2.1.1, r_sums (by omega) X2 (fun h3 F3 v1 v2 => ⟨rfl, fun q => ⟨?_, s, p, I2.wr F3⟩, fun q => ⟨?_, s, p, I2.wr F3⟩⟩)⟩, fun q => ?_⟩)
    · rw [v2]
      cases m
      · rfl
      · exact absurd (hm.mp rfl) q
    · rw [v1, hm.mpr q]
    · rw [if10, ti64, y0, y1] at q
      omega
  exact ⟨fun q => fin false ⟨fun z => absurd z (by decide), fun z => absurd z q⟩, fun q => fin true ⟨fun _ => q, fun _ => rfl⟩⟩
/-! a wall that is gone, and one that is pulled -/
theorem dR_congr {S S' : Nat → Int32} {g g' : Nat} (er : ∀ c, rv S' c ↔ rv S c) (ee : ∀ c k, Ed S' g' c k ↔ Ed S g c k) (o t : Nat) : dR S' g' o t = dR S g o t := by
  have e : Ed S' g' = Ed S g := funext fun c => funext fun k => propext (ee c k)
  by_cases r : rv S o
  · rw [dR_rv r, dR_rv ((er o).mpr r)]
  · rw [dR_no r, dR_no (fun q => r ((er o).mp q)), e]
theorem WF.pulled {S S' : Nat → Int32} (W : WF S) {w : Nat} (hw : wl (tS S) w) (ef : ∀ j, ¬ (1608 ≤ j ∧ j < 2256) → S' j = S j) (eT : ∀ u k, u < 54 → k < 12 → tS S' u k = pullA (tS S) w u k) : WF S' ∧ (∀ u, u < 54 → tS S' u 0 = 1 → u ≠ w ∧ tS S u 0 = 1) ∧ (∀ u k, u < 54 → k < 12 → k ≠ 6 → (u ≠ w ∨ k ≠ 0) → tS S' u k = tS S u k) := by
  have eK : ∀ u k, u < 54 → k < 12 → k ≠ 6 → (u ≠ w ∨ k ≠ 0) → tS S' u k = tS S u k := fun u k hu hk h6' hn => by
    rw [eT u k hu hk, pullA_ne h6' hn]
  have hb0 : ∀ u, u < 54 → tS S' u 0 = 0 ∨ (tS S' u 0 = tS S u 0 ∧ u ≠ w) := fun u hu => by
    by_cases c : u = w
    · left
      rw [eT u 0 hu (by omega)]
      unfold pullA
      rw [if_pos ⟨c, rfl⟩]
    · exact Or.inr ⟨eK u 0 hu (by omega) (by omega) (Or.inl c), c⟩
  have t0 : ∀ u, u < 54 → tS S' u 0 = 1 → u ≠ w ∧ tS S u 0 = 1 := fun u hu q => by
    rcases hb0 u hu with z | ⟨z1, z2⟩
    · rw [z] at q
      exact absurd q (by decide)
    · exact ⟨z2, z1.symm.trans q⟩
  have h6 := hw.1
  refine ⟨W.thg ef (fun u hu => eK u 0 (by omega) (by omega) (by omega) (Or.inl (by omega))) (fun u hu q => ?_) ?_ (fun u hu => ?_) (fun u h1 h2 => ?_) ?_, t0, eK⟩
  · obtain ⟨uw, u0'⟩ := t0 u (by omega) q
    obtain ⟨a1, a2, a3⟩ := W.1.2.2.2.2.2.1 u hu u0'
    rw [eK u 5 (by omega) (by omega) (by omega) (Or.inl uw), eK u 7 (by omega) (by omega) (by omega) (Or.inl uw)]
    refine ⟨a1, a2, ?_⟩
    unfold gat at a3 ⊢
    rw [eK u 10 (by omega) (by omega) (by omega) (Or.inl uw), eK u 7 (by omega) (by omega) (by omega) (Or.inl uw), eK u 8 (by omega) (by omega) (by omega) (Or.inl uw), eK u 9 (by omega) (by omega) (by omega) (Or.inl uw), eK u 1 (by omega) (by omega) (by omega) (Or.inl uw), eK u 2 (by omega) (by omega) (by omega) (Or.inl uw), eK u 3 (by omega) (by omega) (by omega) (Or.inl uw), eK u 4 (by omega) (by omega) (by omega) (Or.inl uw)]
    exact a3
  · rintro ⟨u, hu, q⟩
    rw [ef 2 (by omega)]
    exact W.2.1 ⟨u, hu, (t0 u (by omega) q).2⟩
  · rcases hb0 u hu with q | q
    · exact Or.inl q
    · rw [q.1]; exact W.2.2.1 u hu
  · rcases hb0 u h2 with q | q
    · exact q
    · rw [q.1]; exact W.2.2.2.1 u h1 h2
  · rw [ef 0 (by omega), ef 1 (by omega)]
    exact pull_wft W.2.2.2.2 W.2.2.1 h6 hw.2.1 hw.2.2 eT
theorem pulled_xE {S S' : Nat → Int32} (W : WF S) {w : Nat} (hw : wl (tS S) w) (ef : ∀ j, ¬ (1608 ≤ j ∧ j < 2256) → S' j = S j) (eT' : ∀ u k, u < 54 → k < 12 → tS S' u k = pullA (tS S) w u k) {e : Nat} (he : e < 6) : xE S' false 0 e = xE S false w e := by
  obtain ⟨W', t0, eK⟩ := W.pulled hw ef eT'
  have L := W.l40
  have h6 := hw.1
  have ewl : ∀ u, wl (tS S') u ↔ wl (tS S) u ∧ u ≠ w := fun u => by
    constructor
    · rintro ⟨a, b, c⟩
      have := t0 u (by omega) c
      exact ⟨⟨a, b, this.2⟩, this.1⟩
    · rintro ⟨⟨a, b, c⟩, d⟩
      exact ⟨a, b, by rw [eK u 0 (by omega) (by omega) (by omega) (Or.inl d)]; exact c⟩
  have erc : ∀ c, c < 1600 → (rv S' c ↔ rv S c) := fun c hc => by
    unfold rv
    rw [ef _ (by omega)]
  have ewi : ∀ u c, wl (tS S) u → u ≠ w → (wIn (tS S') u c ↔ wIn (tS S) u c) := fun u c hu d => by
    have := hu.2.1
    unfold wIn inC
    rw [eK u 1 (by omega) (by omega) (by omega) (Or.inl d), eK u 2 (by omega) (by omega) (by omega) (Or.inl d), eK u 3 (by omega) (by omega) (by omega) (Or.inl d), eK u 4 (by omega) (by omega) (by omega) (Or.inl d)]
  have ehop : ∀ c k, hop S' c k ↔ hop S c k := fun c k => by
    unfold hop inLd
    rw [ef 0 (by omega), ef 1 (by omega)]
  have eed : ∀ c k, Ed S' 0 c k ↔ Ed S w c k := fun c k => by
    unfold Ed
    rw [ehop]
    refine and_congr_right (fun hp => ?_)
    rw [erc c (hp.1.lt L), erc _ ((hp.nb L).1.lt L)]
    refine and_congr_right (fun _ => and_congr_right (fun _ => ?_))
    constructor
    · intro q u hu hne cr
      have := hu.2.1
      have g := q u ((ewl u).mpr ⟨hu, hne⟩) (by have := hu.1; omega) (by unfold crW at cr ⊢; rw [ewi u _ hu hne, ewi u _ hu hne]; exact cr)
      unfold gp at g ⊢
      rw [ewi u _ hu hne, eK u 7 (by omega) (by omega) (by omega) (Or.inl hne), eK u 8 (by omega) (by omega) (by omega) (Or.inl hne), eK u 1 (by omega) (by omega) (by omega) (Or.inl hne), eK u 2 (by omega) (by omega) (by omega) (Or.inl hne)] at g
      exact g
    · intro q u hu' _ cr
      obtain ⟨hu, hne⟩ := (ewl u).mp hu'
      have := hu.2.1
      have g := q u hu hne (by unfold crW at cr ⊢; rw [ewi u _ hu hne, ewi u _ hu hne] at cr; exact cr)
      unfold gp at g ⊢
      rw [ewi u _ hu hne, eK u 7 (by omega) (by omega) (by omega) (Or.inl hne), eK u 8 (by omega) (by omega) (by omega) (Or.inl hne), eK u 1 (by omega) (by omega) (by omega) (Or.inl hne), eK u 2 (by omega) (by omega) (by omega) (Or.inl hne)]
      exact g
  have een : ∀ j, j < 6 → eN S' e j = eN S e j := fun j hj => by
    unfold eN
    rw [ef _ (by omega)]
  have eeo : eO S' e = eO S e := by
    unfold eO
    rw [een 3 (by omega), een 2 (by omega)]
  have eet : eT S' e = eT S e := by
    unfold eT
    rw [een 5 (by omega), een 4 (by omega)]
  have e0 : S' (2400 + 6 * e) = S (2400 + 6 * e) := ef _ (by omega)
  have eld : ∀ c, inLd S' c ↔ inLd S c := fun c => by
    unfold inLd
    rw [ef 0 (by omega), ef 1 (by omega)]
  by_cases z : S (2400 + 6 * e) = 0
  · rw [xE_no z, xE_no (e0.trans z)]
  · obtain ⟨-, -, ⟨o16, -, -⟩, t16, -, -⟩ := W.er he z
    have ed : dR S' 0 (eO S e) (eT S e) = dR S w (eO S e) (eT S e) := by
      have e : Ed S' 0 = Ed S w := funext fun c => funext fun k => propext (eed c k)
      by_cases r : rv S (eO S ‹_›)
      · rw [dR_rv r, dR_rv ((erc _ o16).mpr r)]
      · rw [dR_no r, dR_no (fun q => r ((erc _ o16).mp q)), e]
    have eok : okE S' 0 e ↔ okE S w e := by
      unfold okE
      rw [eeo, eet, eld, eld, ed]
    by_cases ok : okE S w e
    · rw [xE_ok z ok, xE_ok (fun q => z (e0.symm.trans q)) (eok.mpr ok), eeo, eet, if_neg (by decide), if_neg (by decide)]
      exact ed
    · rw [xE_bad z ok, xE_bad (fun q => z (e0.symm.trans q)) (fun q => ok (eok.mp q))]
theorem p_gains (G : GG) (u0 : Nat) (h : HP) (I : Inv G u0 h) (x1 : Int32) : Pr (Inv G u0) G G.1 (G.1 + 119) mX11_gains mX12_gains [.int x1] h := by
  obtain ⟨s, p, I⟩ := I
  unfold Pr Inv
  generalize G.1 = b at *
  generalize hy : b + 119 = y at *
  have W := I.wf
  have kb := I.kb
  have n2 := I.now
  have B := I.bd
  have M := I.md
  obtain ⟨w7, wy⟩ := I.wy
  have ns := I.2.1.1
  refine e_X11_gains (by omega) ⟨kb, s, n2, B.1.1, c_isWall B (by omega) (fun c => ⟨_, rfl, fun q => absurd rfl q, fun _ => ⟨_, rfl, e_X12_gains (by omega) ⟨M.1, m_isWall M W (by omega) (fun _ => ⟨_, rfl, fun q => absurd rfl q, fun _ => ⟨rfl, s, p, I⟩⟩) (fun t h6 ht e w => absurd ⟨t, h6, ht, e, w⟩ c)⟩⟩⟩) (fun w h6 hw ew w0 => ⟨_, rfl, fun _ => ?_, fun q => absurd q (by decide)⟩)⟩
  subst ew
  have wlw : wl (tS (said h y)) w := ⟨h6, hw, w0⟩
  refine ⟨b + 21, w7, s, n2, wy.1, s_survey (by omega) wy B.1 B.2.2.1 W (by omega) (gov_none _) (fun h1 F1 V1 => ⟨rfl, ?_⟩)⟩
  have G1 : FrJ (WcP b) (SvR (b + 21)) h h1 := F1.weak (fun a k q => SvF.wc q) (fun _ _ q => q)
  refine s_totalE (m := false) (by omega) (G1.kd kb) ((G1.r (by unfold SvR; omega)).trans w7) ((G1.r (by unfold SvR; omega)).trans n2) V1 (fun h2 F2 V2 => ⟨_, rfl, ?_⟩)
  have G2 : FrJ (WcP b) (SvR (b + 21)) h h2 := G1.tr ((F2.j _).weak (fun a k q => TtF.wc q) (fun _ _ q => q))
  obtain ⟨I2, eS2⟩ := I.wc G2
  obtain ⟨w72, wy2⟩ := I2.wy
  have B2 := I2.bd
  refine ⟨b + 21, w72, s, I2.now, wy2.1, s_survey (S := said h y) (by omega) wy2 B2.1 (by rw [← eS2]; exact B2.2.2.1) W (by omega) (gov_some wlw) (fun h3 F3 V3 => ⟨rfl, ?_⟩)⟩
  have G3 : FrJ (WcP b) (SvR (b + 21)) h h3 := G2.tr (F3.weak (fun a k q => SvF.wc q) (fun _ _ q => q))
  refine s_totalE (m := false) (by omega) (G3.kd kb) ((G3.r (by unfold SvR; omega)).trans w7) ((G3.r (by unfold SvR; omega)).trans n2) V3 (fun h4 F4 V4 => ⟨_, rfl, _, rfl, ?_⟩)
  obtain ⟨I4, eS4⟩ := I.wc (G3.tr ((F4.j _).weak (fun a k q => TtF.wc q) (fun _ _ q => q)))
  have X4 := I4.rf
  rw [eS4] at X4
  refine e_X12_gains (by omega) ⟨X4.1.1, m_isWall X4.1 (by rw [eS4]; exact W) (by omega) (fun q => absurd (isW.of h6 hw (by rw [eS4]; exact w0)) q) (fun _ _ _ _ _ => ⟨_, rfl, fun _ => ?_, fun q => absurd q (by decide)⟩)⟩
  refine r_sums (by omega) X4 (fun h5 F5 _ v5 => ⟨rfl, ?_⟩)
  have I5 := I4.wr F5
  have X5 := X4.fr F5 (fun a k e => by unfold WrP at e; omega)
  refine r_keeps X5.1 (fun h6' F6 v6 => ⟨rfl, ?_⟩)
  have X6 := X5.fr F6 (fun a k e => by omega)
  refine r_pulls (by omega) X6.1 (by omega) (fun h7 F7 v7 => ⟨rfl, ?_⟩)
  rw [X6.2.1] at v7
  have ef : ∀ j, ¬ (1608 ≤ j ∧ j < 2256) → said h7 y j = said h y j := fun j hj => by
    show hI h7 (y + 13) j = _
    rw [F7.i (by omega)]
    exact congrFun X6.2.1 j
  obtain ⟨W7, -, -⟩ := W.pulled wlw ef v7
  have X7 : RfX G h7 y (said h7 y) := ⟨X6.1.fr F7, rfl, W7, by rw [ef 3 (by omega)]; exact X4.2.2.2⟩
  refine r_sums (by omega) X7 (fun h8 F8 _ v8 => ⟨rfl, ?_⟩)
  have X8 := X7.fr F8 (fun a k e => by unfold WrP at e; omega)
  refine r_putsBack X8.1 (fun h9 F9 v9 => ⟨rfl, ?_, s, p, ?_⟩)
  · rw [v5, F9.i (by omega), v8, sum1_congr 6 (fun e he => pulled_xE W wlw ef v7 he)]
  · have back : ∀ j, hI h9 (y + 13) j = hI h5 (y + 13) j := fun j => by
      have e5 : ∀ j, said h y j = hI h5 (y + 13) j := fun j => (congrFun X5.2.1 j).symm
      by_cases c : j < 2440
      · have := v9 j c
        rw [F8.i (by unfold WrP; omega), F7.i (by omega), v6 j c] at this
        exact this
      · rw [F9.i (by omega), F8.i (by unfold WrP; omega), F7.i (by omega), F6.i (by omega)]
    have J : FrI (fun a k => WrP y a k ∨ a = y + 14 ∨ a = y + 13) h5 h9 := (((F6.weak (fun a k q => Or.inr (Or.inl q))).tr (F7.weak (fun a k q => Or.inr (Or.inr q.1)))).tr (F8.weak (fun a k q => Or.inl q))).tr (F9.weak (fun a k q => Or.inr (Or.inr q.1)))
    have g := I5.1.1
    refine I5.scr (((show FrI (fun a k => WrP y a k ∨ a = y + 14) h5 h9 from ⟨J.1, J.2.1, J.2.2.1, J.2.2.2.1, J.2.2.2.2.1, fun a k q => ?_⟩).j (Scr2 b)).weak (fun a k q => by unfold WrP at q; unfold Scr; omega) (fun _ _ q => q))
    by_cases c : a = y + 13
    · rw [c]
      exact back k
    · exact J.i (fun z => by
        rcases z with z | z | z
        · exact q (Or.inl z)
        · exact q (Or.inr z)
        · exact c z)
