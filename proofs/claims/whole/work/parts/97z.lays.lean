/-! ===== ways of the reference: walls are laid, steps and tolls ===== -/
theorem MdSh.at {G : GG} {h : HP} {y : Nat} (M : MdSh G h y) : (hR h y 43 = some (y + 15) ∧ Kd G h (y + 15) 14 ∧ hN h (y + 15) = 1600) ∧ (hR h y 44 = some (y + 16) ∧ Kd G h (y + 16) 14 ∧ hN h (y + 16) = 1600) ∧ (hR h y 45 = some (y + 17) ∧ Kd G h (y + 17) 14 ∧ hN h (y + 17) = 1600) ∧ (hR h y 46 = some (y + 18) ∧ Kd G h (y + 18) 16 ∧ hN h (y + 18) = 1600) := ⟨M.2 (43, 15, 14, 1600) (by decide), M.2 (44, 16, 14, 1600) (by decide), M.2 (45, 17, 14, 1600) (by decide), M.2 (46, 18, 16, 1600) (by decide)⟩
/-- the reference, with what it says -/
def RfX (G : GG) (h : HP) (y : Nat) (S : Nat → Int32) : Prop := MdSh G h y ∧ said h y = S ∧ WF S ∧ (S 3).toInt ≤ 9999
theorem RfX.fr {P : Nat → Nat → Prop} {G : GG} {h h2 : HP} {y : Nat} {S : Nat → Int32} (F : FrI P h h2) (hp : ∀ a k, P a k → a ≠ y + 13) (X : RfX G h y S) : RfX G h2 y S := ⟨X.1.fr F, by rw [← X.2.1]; exact funext (fun k => F.i (fun z => hp _ _ z rfl)), X.2.2⟩
section RL
variable {G : GG} {d : Nat} {y : Nat} {S : Nat → Int32} {Q : Option Value → HP → Prop}
theorem RfX.sdq {h : HP} (X : RfX G h y S) : sd h y = tS S := by
  rw [← X.2.1]
  rfl
theorem RfX.of {h : HP} (X : RfX G h y S) (hd : 1 ≤ d) {t k : Nat} {x : Int32} (ht : t < 54) (hx : x.toInt = k) (hk : k < 12) (hQ : Q (some (.int (tS S t k))) h) : Cal G d mX12_of [.ref y, .int (nI t), .int x] h Q := by
  refine r_of hd X.1 (t := t) (k := k) (ti_nI (by omega)) ht hx hk ?_
  rw [X.sdq]
  exact hQ
theorem RfX.lies {h : HP} (X : RfX G h y S) (hd : 2 ≤ d) {t u : Nat} (ht : t < 30) (w : tS S t 0 = 1) (hu : u < 30) (hQ1 : Lie (tS S) t u → Q (some (.int 1)) h) (hQ0 : ¬ Lie (tS S) t u → Q (some (.int 0)) h) : Cal G d mX12_liesIn [.ref y, .int (nI t), .int (nI u)] h Q := by
  refine r_liesIn (N := 30) hd X.1 (nI_ne_neg (by omega)) (t := t) (ti_nI (by omega)) (by omega) ?_ ?_
  · rw [X.sdq]
    exact (X.2.2.1.ends ht w).mono (by omega) (by omega)
  · rw [X.sdq]
    by_cases c : Lie (tS S) t u
    · have e : liesF (tS S) (nI u) 31 (tS S t 6) = true := c
      rw [e]
      exact hQ1 c
    · have e : liesF (tS S) (nI u) 31 (tS S t 6) = false := by
        cases z : liesF (tS S) (nI u) 31 (tS S t 6)
        · rfl
        · exact absurd z c
      rw [e]
      exact hQ0 c
theorem r_lays {h : HP} (hd : 3 ≤ d) (X : RfX G h y S) (hQ : ∀ h2, FrI (fun a _ => a = y + 15) h h2 → PtA (tS S) 30 (hI h2 (y + 15)) → Q none h2) : Cal G d mX12_lays [.ref y] h Q := by
  have W := X.2.2.1
  have hc := W.1.1.1.2
  have hr := W.1.1.2.1.2
  have pf : ∀ a (k : Nat), a = y + 15 → a ≠ y + 13 := fun a _ e => by omega
  refine e_X12_lays ?_
  unfold T_X12_lays
  -- one wall
  have wall : ∀ i, wl (tS S) i → (∀ h1, FrI (fun a _ => a = y + 15) h h1 → PtA (tS S) (i + 1) (hI h1 (y + 15)) → Ex G d mX12_lays 25 [(0, .ref y), (1, .int (nI (i + 1)))] [] h1 Q) → ∀ n j h1, cN (tS S) i 2 ≤ j → j + n = cN (tS S) i 4 → FrI (fun a _ => a = y + 15) h h1 → (∀ x z, x < 40 → z < 40 → PtI (tS S) i (cN (tS S) i 1) j x z (hI h1 (y + 15) (40 * z + x))) → Ex G d mX12_lays 49 [(0, .ref y), (1, .int (nI i)), (2, .int (nI j))] [] h1 Q := by
    intro i hw next
    have hi := hw.2.1
    have g := W.2.2.2.2.1 i hi hw.2.2
    obtain ⟨⟨a1, a2, a3, a4⟩, ⟨b1, b2⟩, b3, b4⟩ := g.n hc hr
    have inner : ∀ j, cN (tS S) i 2 ≤ j → j < cN (tS S) i 4 → (∀ h1, FrI (fun a _ => a = y + 15) h h1 → (∀ x z, x < 40 → z < 40 → PtI (tS S) i (cN (tS S) i 1) (j + 1) x z (hI h1 (y + 15) (40 * z + x))) → Ex G d mX12_lays 49 [(0, .ref y), (1, .int (nI i)), (2, .int (nI (j + 1)))] [] h1 Q) → ∀ n u h1, cN (tS S) i 1 ≤ u → u + n = cN (tS S) i 3 → FrI (fun a _ => a = y + 15) h h1 → (∀ x z, x < 40 → z < 40 → PtI (tS S) i u j x z (hI h1 (y + 15) (40 * z + x))) → Ex G d mX12_lays 66 [(0, .ref y), (1, .int (nI i)), (2, .int (nI j)), (3, .int (nI u))] [] h1 Q := by
      intro j j1 j2 nextr n
      induction n with
      | zero =>
        intro u h1 hu hn F V
        have X1 := X.fr F pf
        refine t_X12_lays_66 (by omega) ⟨X1.1.1, X1.of (by omega) (k := 3) (by omega) rfl (by omega) ⟨_, rfl, fun _ => ?_, fun z => ?_⟩⟩
        · obtain rfl : u = cN (tS S) i 3 := by omega
          rw [nI_S]
          exact nextr h1 F (pt_row W.2.2.2.2 hc hr hi hw V)
        · rw [a3] at z
          exact absurd ((nI_le_iff (by omega) (by omega)).mpr (by omega)) z
      | succ n ih =>
        intro u h1 hu hn F V
        have X1 := X.fr F pf
        obtain ⟨m1, m2, m3⟩ := X1.1.at.1
        have vi : vp_in (40 * nI j + nI u) (hN h1 (y + 15)) := by
          rw [e40', m3]
          exact vin_nI (by omega) (by omega)
        obtain ⟨n1, n2⟩ := pt_here W.2.2.2.2 hc hr hi hw ⟨hu, by omega⟩ ⟨j1, j2⟩ V
        have ex : (40 * nI j + nI u).toNatClampNeg = 40 * j + u := by rw [e40', cl_nI (by omega)]
        have upd : InnP (tS S) (i + 1) u j (nI i) → Ex G d mX12_lays 66 [(0, .ref y), (1, .int (nI i)), (2, .int (nI j)), (3, .int (nI u + 1))] [] (sI h1 (y + 15) (40 * nI j + nI u).toNatClampNeg (nI i)) Q := fun k => by
          rw [nI_S, ex]
          refine ih (u + 1) _ (by omega) (by omega) (F.tr (FrI.sI h1 _ rfl)) (pt_cell W.2.2.2.2 hc hr hi hw ⟨hu, by omega⟩ ⟨j1, j2⟩ V (fun x z hx hz hne => ?_) ?_)
          · rw [hI_ne _ _ (Or.inr (by omega))]
          · rw [hI_eq]
            exact k
        have keep : InnP (tS S) (i + 1) u j (hI h1 (y + 15) (40 * j + u)) → Ex G d mX12_lays 66 [(0, .ref y), (1, .int (nI i)), (2, .int (nI j)), (3, .int (nI u + 1))] [] h1 Q := fun k => by
          rw [nI_S]
          exact ih (u + 1) h1 (by omega) (by omega) F (pt_cell W.2.2.2.2 hc hr hi hw ⟨hu, by omega⟩ ⟨j1, j2⟩ V (fun x z hx hz hne => rfl) k)
        refine t_X12_lays_66 (by omega) ⟨X1.1.1, X1.of (by omega) (k := 3) (by omega) rfl (by omega) ⟨_, rfl, fun z => ?_, fun _ => ⟨y + 15, m1, m2, vi, fun z => ⟨vi, upd (n1 ?_)⟩, fun z => ⟨vi, ?_⟩⟩⟩⟩
        · rw [a3, nI_le_iff (by omega) (by omega)] at z
          omega
        · rw [ex] at z
          exact z
        · rw [ex] at z ⊢
          obtain ⟨w, ew, wwl, t1, t2⟩ := n2 z
          rw [ew]
          refine X1.lies (by omega) hi hw.2.2 wwl.2.1 (fun l => ⟨1, rfl, fun q => absurd q (by decide), fun _ => ⟨y + 15, m1, m2, vi, ?_⟩⟩) (fun l => ⟨0, rfl, fun _ => keep (t2 l).2, fun q => absurd rfl q⟩)
          rw [← ex]
          exact upd (t1 l)
    intro n
    induction n with
    | zero =>
      intro j h1 hj hn F V
      have X1 := X.fr F pf
      refine t_X12_lays_49 (by omega) ⟨X1.1.1, X1.of (by omega) (k := 4) (by omega) rfl (by omega) ⟨_, rfl, fun _ => ?_, fun z => ?_⟩⟩
      · obtain rfl : j = cN (tS S) i 4 := by omega
        rw [nI_S]
        exact next h1 F (pt_end W.2.2.2.2 hc hr hi hw V)
      · rw [a4] at z
        exact absurd ((nI_le_iff (by omega) (by omega)).mpr (by omega)) z
    | succ n ih =>
      intro j h1 hj hn F V
      have X1 := X.fr F pf
      refine t_X12_lays_49 (by omega) ⟨X1.1.1, X1.of (by omega) (k := 4) (by omega) rfl (by omega) ⟨_, rfl, fun z => ?_, fun _ => X1.of (by omega) (k := 1) (by omega) rfl (by omega) ⟨_, rfl, ?_⟩⟩⟩
      · rw [a4, nI_le_iff (by omega) (by omega)] at z
        omega
      · rw [a1]
        exact inner j hj (by omega) (fun h2 F2 V2 => ih (j + 1) h2 (by omega) (by omega) F2 V2) (cN (tS S) i 3 - cN (tS S) i 1) _ h1 (Nat.le_refl _) (by omega) F V
  have walls : ∀ n i h1, i + n = 30 → 6 ≤ i → FrI (fun a _ => a = y + 15) h h1 → PtA (tS S) i (hI h1 (y + 15)) → Ex G d mX12_lays 25 [(0, .ref y), (1, .int (nI i))] [] h1 Q := by
    intro n
    induction n with
    | zero =>
      intro i h1 hi _ F P
      obtain rfl : i = 30 := by omega
      exact t_X12_lays_25 (by omega) ⟨fun _ => hQ h1 F P, fun z => absurd (show (30 : Int32) ≤ nI 30 by decide) z⟩
    | succ n ih =>
      intro i h1 hi h6 F P
      have X1 := X.fr F pf
      have bn : bin (sd h1 y) := by rw [X1.sdq]; exact W.2.2.1
      refine t_X12_lays_25 (by omega) ⟨fun z => absurd z (n30_not (by omega)), fun _ => ⟨X1.1.1, r_isThing (by omega) X1.1 bn (fun z => absurd ⟨by rw [ti_nI (by omega)]; omega, by rw [ti_nI (by omega)]; omega⟩ z) (fun t e ht => ?_)⟩⟩
      obtain rfl : i = t := (nI_eq_iff (by omega) (by omega)).mp e
      rw [X1.sdq]
      cases w : wallB (tS S) i
      · refine ⟨0, rfl, fun z => absurd rfl z, fun _ => ?_⟩
        rw [nI_S]
        refine ih (i + 1) h1 (by omega) (by omega) F (fun x z hx hz => (innP_step W.2.2.2.2 hc (by omega) (P x z hx hz)).1 (fun k => ?_))
        have := (W.2.2.1.w (show i < 54 by omega)).mp k.1.2.2
        rw [w] at this
        cases this
      · have w0 : wl (tS S) i := ⟨h6, by omega, (W.2.2.1.w (show i < 54 by omega)).mpr w⟩
        have g := W.2.2.2.2.1 i w0.2.1 w0.2.2
        obtain ⟨⟨a1, a2, a3, a4⟩, ⟨b1, b2⟩, b3, b4⟩ := g.n hc hr
        refine ⟨1, rfl, fun _ => X1.of (by omega) (k := 2) (by omega) rfl (by omega) ⟨_, rfl, ?_⟩, fun z => absurd z (by decide)⟩
        rw [a2]
        exact wall i w0 (fun h2 F2 P2 => ih (i + 1) h2 (by omega) (by omega) F2 P2) (cN (tS S) i 4 - cN (tS S) i 2) _ h1 (Nat.le_refl _) (by omega) F (pt_begin W.2.2.2.2 hc hr w0.2.1 w0 P)
  have fill : ∀ n i, i + n = 1600 → Ex G d mX12_lays 2 [(0, .ref y), (1, .int (nI i))] [] (fillI h (y + 15) i (-1)) Q := by
    intro n
    induction n with
    | zero =>
      intro i hi
      obtain rfl : i = 1600 := by omega
      refine t_X12_lays_2 ⟨fun _ => ?_, fun z => absurd (show (1600 : Int32) ≤ nI 1600 by decide) z⟩
      refine walls 24 6 _ rfl (by omega) (FrI.fill h _ (fun _ => rfl)) (fun x z hx hz => ?_)
      rw [hI_fill, if_pos ⟨rfl, by omega⟩]
      exact Or.inl ⟨rfl, fun u hu h6 => by have := hu.1; omega⟩
    | succ n ih =>
      intro i hi
      have FF : FrI (fun a _ => a = y + 15) h (fillI h (y + 15) i (-1)) := FrI.fill h _ (fun _ => rfl)
      have X1 := X.fr FF pf
      obtain ⟨m1, m2, m3⟩ := X1.1.at.1
      refine t_X12_lays_2 ⟨fun z => ?_, fun _ => ⟨X1.1.1, y + 15, m1, m2, by rw [m3]; exact vin_nI (by omega) (by omega), ?_⟩⟩
      · have := (nI_le_iff (a := 1600) (b := i) (by omega) (by omega)).mp z
        omega
      · rw [cl_nI (by omega), fillS, nI_S]
        exact ih (i + 1) (by omega)
  have := fill 1600 0 rfl
  rw [fill0] at this
  exact this
theorem r_beside {h : HP} (hd : 2 ≤ d) (X : RfX G h y S) {c k : Nat} (hc : inLd S c) (hk : k < 4) (h1 : hop S c k → ¬ rv S (nbC c k) → Q (some (.int (nI (nbC c k)))) h) (h0 : ¬ (hop S c k ∧ ¬ rv S (nbC c k)) → Q (some (.int (-1))) h) : Cal G d mX12_beside [.ref y, .int (nI c), .int (nI k)] h Q := by
  have W := X.2.2.1
  have L := W.l40
  have c16 := hc.lt L
  have WR := W.r (by have := X.2.2.2; omega)
  have e0 := X.2.1
  have ir : irm (nI c) 40 = nI (c % 40) := nR (m := 40) (by omega) (by omega)
  have iq : nI c / 40 = nI (c / 40) := nD (m := 40) (by omega) (by omega)
  have fin : ∀ (u a b : Int32), (hop S c k → u = nI (nbC c k % 40) ∧ a + b = nI (nbC c k / 40)) → (¬ hop S c k → ¬ inB (S 0) (S 1) u (a + b) = true) → Ex G d mX12_beside 47 [(0, .ref y), (1, .int (nI c)), (2, .int (nI k)), (3, .int u)] [.int b, .int a] h Q := by
    intro u a b f1 f2
    refine t_X12_beside_47 (by omega) ⟨X.1.1, r_isInLand (by omega) X.1 (by rw [e0]; exact W.1.1.1) (by rw [e0]; exact W.1.1.2.1) ?_⟩
    rw [e0]
    by_cases hp : hop S c k
    · obtain ⟨eu, ev⟩ := f1 hp
      have nl := (hp.nb L).1
      have d16 := nl.lt L
      have ib : inB (S 0) (S 1) u (a + b) = true := by
        unfold inLd at nl
        unfold inB
        rw [eu, ev, decide_eq_true_eq, ti_le, ti_lt, ti_le, ti_lt, ti_nI (by omega), ti_nI (by omega), show (0 : Int32).toInt = 0 from rfl]
        omega
      rw [if_pos ib]
      refine ⟨1, rfl, fun z => absurd z (by decide), fun _ => r_isRiver (by omega) X.1 (by rw [e0]; exact WR) (fun v hv hv2 => ?_)⟩
      rw [e0, eu, ev] at hv2
      have key : v = 1 ↔ rv S (nbC c k) := by
        rw [hv2]
        unfold inLd at nl
        have er : riv S (nbC c k % 40) (nbC c k / 40) = 1 ↔ rv S (nbC c k) := by
          unfold riv rv
          rw [show 40 * (nbC c k / 40) + nbC c k % 40 = nbC c k by omega]
        constructor
        · rintro ⟨i, j, q1, q2, q3, q4, q5⟩
          have i40 : i < 40 := by unfold Ld40 at L; omega
          have j40 : j < 40 := by unfold Ld40 at L; omega
          rw [nI_eq_iff (by omega) (by omega)] at q1 q2
          subst q1 q2
          exact er.mp q5
        · intro q
          exact ⟨_, _, rfl, rfl, nl.1, nl.2, er.mpr q⟩
      refine ⟨v, rfl, fun z => h0 (fun w => w.2 (key.mp (hv.elim (fun q => absurd q z) id))), fun z => ?_⟩
      rw [eu, ev, e40', show 40 * (nbC c k / 40) + nbC c k % 40 = nbC c k by omega]
      refine h1 hp (fun q => ?_)
      rw [key.mpr q] at z
      exact absurd z (by decide)
    · rw [if_neg (f2 hp)]
      exact ⟨0, rfl, fun _ => h0 (fun z => hp z.1), fun z => absurd rfl z⟩
  unfold inLd at hc
  have mid : ∀ (b1 : Int32), (hop S c k → nI (c % 40) + b1 = nI (nbC c k % 40)) → (k = 0 → b1 = 0) → (k = 2 → b1 = 0) → (k = 1 → b1 = 1) → (k = 3 → b1 = -1) → Ex G d mX12_beside 23 [(0, .ref y), (1, .int (nI c)), (2, .int (nI k))] [.int b1, .int (nI (c % 40))] h Q := by
    intro b1 f1 f0 f2 f3 f4
    have hu : ∀ v, (k = 1 ∨ k = 3) → ¬ hop S c k → ¬ inB (S 0) (S 1) (nI (c % 40) + b1) v = true := fun v hk hp => by
      unfold inB
      rw [decide_eq_true_eq, ti_le, ti_lt, show (0 : Int32).toInt = 0 from rfl]
      rcases hk with e | e
      · rw [f3 e, nI_S, ti_nI (by omega)]
        intro z
        exact hp ⟨hc, Or.inr (Or.inl ⟨e, by omega⟩)⟩
      · rw [f4 e]
        intro z
        have e1 : (nI (c % 40) + -1).toInt = ((c % 40 : Nat) : Int) - 1 := by
          rw [ti_add] <;> rw [ti_nI (by omega), tn1] <;> omega
        rw [e1] at z
        exact hp ⟨hc, Or.inr (Or.inr (Or.inr ⟨e, by omega⟩))⟩
    refine t_X12_beside_23 ⟨fun n2 => ⟨fun n0 => ?_, fun e => ?_⟩, fun e => ?_⟩
    · have k0 : k ≠ 0 := fun e => n0 (by rw [e]; rfl)
      have k2 : k ≠ 2 := fun e => n2 (by rw [e]; rfl)
      rw [iq]
      refine fin _ _ _ (fun hp => ⟨f1 hp, ?_⟩) (hu _ (by omega))
      rw [add0]
      have := (hp.nb L).2.2
      rw [show nbC c k / 40 = c / 40 by omega]
    · have k0 : k = 0 := (nI_eq_iff (b := 0) (by omega) (by omega)).mp e
      rw [iq]
      refine fin _ _ _ (fun hp => ⟨f1 hp, ?_⟩) (fun hp => ?_)
      · have := (hp.nb L).2.2
        rw [show (-1 : Int32) = -(nI 1) from rfl, ← Int32.sub_eq_add_neg, nS (by omega), show c / 40 - 1 = nbC c k / 40 by omega]
      · unfold inB
        rw [decide_eq_true_eq, ti_le, ti_lt, ti_le, ti_lt, show (0 : Int32).toInt = 0 from rfl]
        have e1 : (nI (c / 40) + -1).toInt = ((c / 40 : Nat) : Int) - 1 := by
          rw [ti_add] <;> rw [ti_nI (by omega), tn1] <;> omega
        rw [e1]
        intro z
        exact hp ⟨hc, Or.inl ⟨k0, by omega⟩⟩
    · have k2 : k = 2 := (nI_eq_iff (b := 2) (by omega) (by omega)).mp e
      rw [iq]
      refine fin _ _ _ (fun hp => ⟨f1 hp, ?_⟩) (fun hp => ?_)
      · have := (hp.nb L).2.2
        rw [nI_S, show c / 40 + 1 = nbC c k / 40 by omega]
      · unfold inB
        rw [decide_eq_true_eq, ti_le, ti_lt, ti_le, ti_lt, show (0 : Int32).toInt = 0 from rfl, nI_S, ti_nI (show c / 40 + 1 < 2147483648 by omega)]
        intro z
        exact hp ⟨hc, Or.inr (Or.inr (Or.inl ⟨k2, by omega⟩))⟩
  refine e_X12_beside ⟨fun n1 => ⟨fun n3 => ?_, fun e => ?_⟩, fun e => ?_⟩
  · have k1 : k ≠ 1 := fun e => n1 (by rw [e]; rfl)
    have k3 : k ≠ 3 := fun e => n3 (by rw [e]; rfl)
    rw [ir]
    refine mid 0 (fun hp => ?_) (fun _ => rfl) (fun _ => rfl) (fun e => absurd e k1) (fun e => absurd e k3)
    have := (hp.nb L).2.2
    rw [add0, show nbC c k % 40 = c % 40 by omega]
  · have k3 : k = 3 := (nI_eq_iff (b := 3) (by omega) (by omega)).mp e
    rw [ir]
    refine mid (-1) (fun hp => ?_) (fun e => by omega) (fun e => by omega) (fun e => by omega) (fun _ => rfl)
    have := (hp.nb L).2.2
    rw [show (-1 : Int32) = -(nI 1) from rfl, ← Int32.sub_eq_add_neg, nS (by omega), show c % 40 - 1 = nbC c k % 40 by omega]
  · have k1 : k = 1 := (nI_eq_iff (b := 1) (by omega) (by omega)).mp e
    rw [ir]
    refine mid 1 (fun hp => ?_) (fun e => by omega) (fun e => by omega) (fun _ => rfl) (fun e => by omega)
    have := (hp.nb L).2.2
    rw [nI_S, show c % 40 + 1 = nbC c k % 40 by omega]
theorem r_lineBetween {h : HP} (hd : 3 ≤ d) (X : RfX G h y S) (P : PtA (tS S) 30 (hI h (y + 15))) {c k : Nat} (hp : hop S c k) (h1 : ∀ w, wl (tS S) w → crW (tS S) w c (nbC c k) → Q (some (.int (nI w))) h) (h0 : (∀ w, wl (tS S) w → ¬ crW (tS S) w c (nbC c k)) → Q (some (.int (-1))) h) : Cal G d mX12_lineBetween [.ref y, .int (nI c), .int (nI (nbC c k))] h Q := by
  have W := X.2.2.1
  have L := W.l40
  have c16 := hp.1.lt L
  obtain ⟨nl, nad, nco⟩ := hp.nb L
  have d16 := nl.lt L
  obtain ⟨m1, m2, m3⟩ := X.1.at.1
  have pc := P (c % 40) (c / 40) (by omega) (by omega)
  have pd := P (nbC c k % 40) (nbC c k / 40) (by omega) (by omega)
  rw [show 40 * (c / 40) + c % 40 = c by omega] at pc
  rw [show 40 * (nbC c k / 40) + nbC c k % 40 = nbC c k by omega] at pd
  have vc : vp_in (nI c) (hN h (y + 15)) := by rw [m3]; exact vin_nI (by omega) (by omega)
  have vd : vp_in (nI (nbC c k)) (hN h (y + 15)) := by rw [m3]; exact vin_nI (by omega) (by omega)
  refine e_X12_lineBetween (by omega) ⟨X.1.1, y + 15, m1, m2, vc, vd, ?_⟩
  rw [cl_nI (by omega), cl_nI (by omega)]
  by_cases hx : ∃ w, wl (tS S) w ∧ crW (tS S) w c (nbC c k)
  · obtain ⟨w, hw, cr⟩ := hx
    have w30 := hw.2.1
    have fin := h1 w hw cr
    by_cases iw : wIn (tS S) w c
    · have ow : ¬ wIn (tS S) w (nbC c k) := fun z => cr ⟨fun _ => z, fun _ => iw⟩
      obtain ⟨v1, v2⟩ := cross_inn W.2.2.2.2 W.1.1.1.2 hw iw ow nad pc pd
      rw [v1, v2]
      refine ⟨fun _ => ⟨vd, fun _ => ⟨vc, fin⟩, fun z => ⟨vc, fun z2 => absurd z2 (nI_ne_neg (by omega)), fun _ => ⟨vd, vc, ?_⟩⟩⟩, fun z => absurd z.symm (no_self W hw)⟩
      rcases W.2.2.2.2.2.1 w w30 hw.2.2 with e | ⟨p, p6, p30, ep, p0, pi⟩
      · exact absurd e z
      · rw [ep]
        refine X.lies (by omega) p30 p0 w30 (fun l => ?_) (fun _ => ⟨0, rfl, fun _ => ⟨y + 15, m1, m2, vc, by rw [v1]; exact fin⟩, fun q => absurd rfl q⟩)
        have := (lie_inn W.2.2.2.2 p30 p0 w30 l).2.2
        unfold inn at this pi
        omega
    · have ow : wIn (tS S) w (nbC c k) := Classical.byContradiction (fun z => cr ⟨fun y => absurd y iw, fun y => absurd y z⟩)
      have nad' : adj (nbC c k % 40) (nbC c k / 40) (c % 40) (c / 40) := by unfold adj at *; omega
      obtain ⟨v1, v2⟩ := cross_inn W.2.2.2.2 W.1.1.1.2 hw ow iw nad' pd pc
      rw [v1, v2]
      refine ⟨fun _ => ⟨vd, fun z => absurd z (nI_ne_neg (by omega)), fun _ => ⟨vc, fun _ => ⟨vd, fin⟩, fun z => ⟨vd, vc, ?_⟩⟩⟩, fun z => absurd z (no_self W hw)⟩
      rcases W.2.2.2.2.2.1 w w30 hw.2.2 with e | ⟨p, p6, p30, ep, p0, pi⟩
      · exact absurd e z
      · rw [ep]
        refine X.lies (by omega) w30 hw.2.2 p30 (fun _ => ⟨1, rfl, fun q => absurd q (by decide), fun _ => ⟨y + 15, m1, m2, vd, by rw [v1]; exact fin⟩⟩) (fun l => absurd ((lie_step W.2.2.2.2 W.1.1.1.2 w30 hw.2.2 ep p30 p30).2.2.2.mpr (Or.inl rfl)) l)
  · have e := same_inn W.2.2.2.2 (fun w hw => Classical.byContradiction (fun z => hx ⟨w, hw, z⟩)) pc pd
    exact ⟨fun z => absurd e z, fun _ => h0 (fun w hw cr => hx ⟨w, hw, cr⟩)⟩
theorem r_tollOf {h : HP} (hd : 4 ≤ d) (X : RfX G h y S) (P : PtA (tS S) 30 (hI h (y + 15))) {c k : Nat} {f : Int32} (hp : hop S c k) (h0 : (∀ w, wl (tS S) w → ¬ crW (tS S) w c (nbC c k)) → Q (some (.int 0)) h) (h1 : ∀ w, wl (tS S) w → crW (tS S) w c (nbC c k) → gp (tS S) w c k → Q (some (.int (iI (tlc (tS S) f w)))) h) (h2 : ∀ w, wl (tS S) w → crW (tS S) w c (nbC c k) → ¬ gp (tS S) w c k → Q (some (.int (-1))) h) : Cal G d mX12_tollOf [.ref y, .int f, .int (nI c), .int (nI (nbC c k)), .int (nI k)] h Q := by
  have W := X.2.2.1
  have L := W.l40
  have k4 := hp.s4
  have c16 := hp.1.lt L
  obtain ⟨nl, nad, nco⟩ := hp.nb L
  have d16 := nl.lt L
  obtain ⟨m1, m2, m3⟩ := X.1.at.1
  have pc := P (c % 40) (c / 40) (by omega) (by omega)
  have pd := P (nbC c k % 40) (nbC c k / 40) (by omega) (by omega)
  rw [show 40 * (c / 40) + c % 40 = c by omega] at pc
  rw [show 40 * (nbC c k / 40) + nbC c k % 40 = nbC c k by omega] at pd
  have it4 : irm (nI k + 2) 4 = nI ((k + 2) % 4) := by
    rw [show nI k + 2 = nI (k + 2) from nA k 2]
    exact nR (m := 4) (by omega) (by omega)
  refine e_X12_tollOf (by omega) ⟨X.1.1, r_lineBetween (by omega) X P hp (fun w hw cr => ⟨_, rfl, fun _ => ⟨y + 15, m1, m2, by rw [m3]; exact vin_nI (by omega) (by omega), ?_⟩, fun z => absurd z (nI_ne_neg (by have := hw.2.1; omega))⟩) (fun n => ⟨_, rfl, fun z => absurd rfl z, fun _ => h0 n⟩)⟩
  have w30 := hw.2.1
  have geo0 := W.2.2.2.2.1 w w30 hw.2.2
  have g7 := (W.gt w hw).2
  have last : ∀ (x6 x7 : Int32) (sd : Nat) (pl : Int32), ((wIn (tS S) w c ∧ sd = k) ∨ (¬ wIn (tS S) w c ∧ sd = (k + 2) % 4)) → (k % 2 = 0 → pl.toInt = ((c % 40 : Nat) : Int) - (tS S w 1).toInt) → (k % 2 = 1 → pl.toInt = ((c / 40 : Nat) : Int) - (tS S w 2).toInt) → Ex G d mX12_tollOf 101 [(0, .ref y), (1, .int f), (2, .int (nI c)), (3, .int (nI (nbC c k))), (4, .int (nI k)), (5, .int (nI w)), (6, .int x6), (7, .int x7), (8, .int (nI sd))] [.int pl] h Q := by
    intro x6 x7 sd pl hsd hp0 hp1
    have esd : (nI sd).toInt = sd := ti_nI (by omega)
    refine t_X12_tollOf_101 (by omega) ⟨X.1.1, X.of (by omega) (k := 7) (by omega) rfl (by omega) ⟨_, rfl, fun z => h2 w hw cr (fun gg => z ?_), fun z => X.of (by omega) (k := 8) (by omega) rfl (by omega) ⟨_, rfl, fun z2 => ?_, fun z2 => h2 w hw cr (fun gg => z2 ?_)⟩⟩⟩
    · rw [ti_eq, esd]
      rcases hsd with ⟨a, b⟩ | ⟨a, b⟩
      · rw [gg.1 a, b]
      · rw [gg.2.1 a, b]
    · have gg : gp (tS S) w c k := by
        refine ⟨fun a => ?_, fun a => ?_, fun a => ?_, fun a => ?_⟩
        · rcases hsd with ⟨_, b⟩ | ⟨b, _⟩
          · rw [z, esd, b]
          · exact absurd a b
        · rcases hsd with ⟨b, _⟩ | ⟨_, b⟩
          · exact absurd b a
          · rw [z, esd, b]
        · rw [z2, hp0 a]
        · rw [z2, hp1 a]
      have n7 : ¬ tS S w 7 = -1 := by
        rw [z]
        exact nI_ne_neg (by omega)
      have fin := h1 w hw cr gg
      unfold tlc at fin
      refine X.of (by omega) (k := 5) (by omega) rfl (by omega) ⟨_, rfl, fun e => ?_, fun e => X.of (by omega) (k := 10) (by omega) rfl (by omega) ⟨_, rfl, fun e2 => X.of (by omega) (k := 9) (by omega) rfl (by omega) ⟨_, rfl, ?_⟩, fun e2 => ?_⟩⟩
      · rw [if_pos (Or.inl e)] at fin
        exact fin
      · rw [if_neg (fun q => q.elim e e2), if_neg n7, iI_ti] at fin
        exact fin
      · rw [if_pos (Or.inr e2)] at fin
        exact fin
    · rw [ti_eq]
      rcases (show k % 2 = 0 ∨ k % 2 = 1 by omega) with a | a
      · rw [gg.2.2.1 a, hp0 a]
      · rw [gg.2.2.2 a, hp1 a]
  unfold geo at geo0
  have L' := L
  unfold Ld40 at L'
  have mid : ∀ (x6 : Int32) (e sd : Nat), (e = c ∨ e = nbC c k) → ((wIn (tS S) w c ∧ sd = k) ∨ (¬ wIn (tS S) w c ∧ sd = (k + 2) % 4)) → Ex G d mX12_tollOf 62 [(0, .ref y), (1, .int f), (2, .int (nI c)), (3, .int (nI (nbC c k))), (4, .int (nI k)), (5, .int (nI w)), (6, .int x6), (7, .int (nI e))] [.int (nI sd)] h Q := by
    intro x6 e sd he hsd
    have e16 : e < 1600 := by omega
    have ev : k % 2 = 0 → e % 40 = c % 40 := fun a => by omega
    have od : k % 2 = 1 → e / 40 = c / 40 := fun a => by omega
    have i2 : irm (nI sd) 2 = nI (sd % 2) := nR (m := 2) (by omega) (by omega)
    have sk : sd % 2 = k % 2 := by omega
    have m0 : ((nI (e % 40) - tS S w 1).toInt = ((e % 40 : Nat) : Int) - (tS S w 1).toInt) := by
      rw [ti_sub] <;> rw [ti_nI (by omega)] <;> omega
    have m1 : ((nI (e / 40) - tS S w 2).toInt = ((e / 40 : Nat) : Int) - (tS S w 2).toInt) := by
      rw [ti_sub] <;> rw [ti_nI (by omega)] <;> omega
    refine t_X12_tollOf_62 (by omega) (e_X12_isAcross ⟨fun z => ⟨0, rfl, fun _ => ⟨X.1.1, X.of (by omega) (k := 2) (by omega) rfl (by omega) ⟨_, rfl, last _ _ sd _ hsd (fun a => ?_) (fun a => ?_)⟩⟩, fun q => absurd rfl q⟩, fun z => ⟨1, rfl, fun q => absurd q (by decide), fun _ => ⟨X.1.1, X.of (by omega) (k := 1) (by omega) rfl (by omega) ⟨_, rfl, last _ _ sd _ hsd (fun a => ?_) (fun a => ?_)⟩⟩⟩⟩)
    · rw [i2, sk, a] at z
      exact absurd rfl z
    · rw [show nI e / 40 = nI (e / 40) from nD (m := 40) (by omega) (by omega), m1, od a]
    · rw [show irm (nI e) 40 = nI (e % 40) from nR (m := 40) (by omega) (by omega), m0, ev a]
    · rw [i2, sk, a] at z
      exact absurd z (by decide)
  rw [cl_nI (by omega)]
  by_cases iw : wIn (tS S) w c
  · have ow : ¬ wIn (tS S) w (nbC c k) := fun z => cr ⟨fun _ => z, fun _ => iw⟩
    obtain ⟨v1, v2⟩ := cross_inn W.2.2.2.2 W.1.1.1.2 hw iw ow nad pc pd
    rw [v1]
    refine ⟨fun z => absurd rfl z, fun _ => t_X12_tollOf_44 ⟨fun z => absurd z (by decide), fun _ => mid 1 c k (Or.inl rfl) (Or.inl ⟨iw, rfl⟩)⟩⟩
  · have ow : wIn (tS S) w (nbC c k) := Classical.byContradiction (fun z => cr ⟨fun y => absurd y iw, fun y => absurd y z⟩)
    have nad' : adj (nbC c k % 40) (nbC c k / 40) (c % 40) (c / 40) := by unfold adj at *; omega
    obtain ⟨v1, v2⟩ := cross_inn W.2.2.2.2 W.1.1.1.2 hw ow iw nad' pd pc
    rw [v2]
    refine ⟨fun _ => t_X12_tollOf_44 ⟨fun _ => ?_, fun z => absurd rfl z⟩, fun z => absurd z (no_self W hw)⟩
    rw [it4]
    exact mid 0 (nbC c k) _ (Or.inr rfl) (Or.inr ⟨iw, rfl⟩)
end RL
