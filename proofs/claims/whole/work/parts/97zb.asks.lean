/-! ===== whom a way asks ===== -/
def MskP (P : Nat → Prop) (v : Int32) : Prop := ∃ n, v = nI n ∧ n < 4096 ∧ ∀ j, j < 12 → (n.testBit j = true ↔ P j)
theorem MskP.uniq {P : Nat → Prop} {v v' : Int32} (h : MskP P v) (h' : MskP P v') : v = v' := by
  obtain ⟨n, rfl, n1, n2⟩ := h
  obtain ⟨m, rfl, m1, m2⟩ := h'
  have : n = m := by
    apply Nat.eq_of_testBit_eq
    intro j
    by_cases hj : j < 12
    · cases c : n.testBit j
      · cases c' : m.testBit j
        · rfl
        · exact absurd ((n2 j hj).mpr ((m2 j hj).mp c')) (by rw [c]; decide)
      · rw [(m2 j hj).mpr ((n2 j hj).mp c)]
    · have p : 2 ^ 12 ≤ 2 ^ j := Nat.pow_le_pow_right (by omega) (by omega)
      have p12 : (2 : Nat) ^ 12 = 4096 := rfl
      rw [Nat.testBit_lt_two_pow (by omega), Nat.testBit_lt_two_pow (by omega)]
  rw [this]
theorem MskP.zero {P : Nat → Prop} (h : ∀ j, j < 12 → ¬ P j) : MskP P 0 := ⟨0, rfl, by omega, fun j hj => ⟨fun q => by simp at q, fun q => absurd q (h j hj)⟩⟩
theorem MskP.to {P P' : Nat → Prop} {v : Int32} (h : MskP P v) (e : ∀ j, j < 12 → (P j ↔ P' j)) : MskP P' v := by
  obtain ⟨n, n0, n1, n2⟩ := h
  exact ⟨n, n0, n1, fun j hj => (n2 j hj).trans (e j hj)⟩
theorem MskP.or {P : Nat → Prop} {v : Int32} {i : Nat} (hi : i < 12) (h : MskP P v) : MskP (fun j => P j ∨ j = i) (v ||| ((1 : Int32) <<< (nI i &&& 31))) := by
  obtain ⟨n, rfl, n1, n2⟩ := h
  have p2 : 2 ^ i < 4096 := by
    have := Nat.pow_lt_pow_right (a := 2) (by omega) hi
    omega
  refine ⟨n ||| 2 ^ i, by rw [sh1 hi, nOr n1 p2], Nat.or_lt_two_pow (n := 12) n1 p2, fun j hj => ?_⟩
  rw [Nat.testBit_or, Bool.or_eq_true, n2 j hj, Nat.testBit_two_pow, decide_eq_true_eq]
  exact or_congr Iff.rfl ⟨Eq.symm, Eq.symm⟩
/-- owners of the walls that part two cells and cost something -/
def AskB (A : Nat → Nat → Int32) (f : Int32) (o t j : Nat) : Prop := ∃ w, wl A w ∧ 0 < tlc A f w ∧ A w 5 = nI j ∧ crW A w o t
theorem WF.own {S : Nat → Int32} (W : WF S) {w : Nat} (hw : wl (tS S) w) : ∃ j, j < 12 ∧ tS S w 5 = nI j := by
  have q := (W.1.2.2.2.2.2.1 w hw.2.1 hw.2.2).2.1 hw.1
  unfold rng at q
  exact of_in q.1 (by omega)
section AS
variable {G : GG} {d : Nat} {y q s : Nat} {S : Nat → Int32} {Q : Option Value → HP → Prop}
theorem wIn_has {h : HP} (X : WyX G h q s S) {w c : Nat} (hw : wl (tS S) w) (hc : c < 1600) : hasB (tg h s) w (nI (c % 40)) (nI (c / 40)) = true ↔ wIn (tS S) w c := by
  have w30 := hw.2.1
  unfold hasB wIn inC
  rw [X.th w30 hw.2.2 (by omega) (by omega), X.th w30 hw.2.2 (by omega) (by omega), X.th w30 hw.2.2 (by omega) (by omega), X.th w30 hw.2.2 (by omega) (by omega), decide_eq_true_eq, ti_le, ti_lt, ti_le, ti_lt, ti_nI (by omega), ti_nI (by omega)]
  constructor
  · intro z; exact ⟨⟨z.1, z.2.1⟩, z.2.2⟩
  · intro z; exact ⟨z.1.1, z.1.2, z.2⟩
theorem s_tollFor {h : HP} (X : WyX G h q s S) {w : Nat} {f : Int32} (hw : wl (tS S) w) (hQ : Q (some (.int (iI (tlc (tS S) f w)))) h) : Cal G d mX9_tollFor [.ref (s + 5 + w), .int f] h Q := by
  have w30 := hw.2.1
  obtain ⟨-, -, c3, c4, c5, c6⟩ := (X.2.2.1.2.2.2.1 w w30).2 hw.2.2
  unfold tlc at hQ
  rw [← c6, ← X.th w30 hw.2.2 (k := 5) (by omega) (by omega)] at hQ
  refine e_X9_tollFor ⟨(X.2.1.2.2.2.2.2.2.1 w (by omega)).2, fun e => ?_, fun e => ⟨fun e2 => ?_, fun e2 => ?_⟩⟩
  · rw [if_pos (Or.inl (show tg h s w 5 = f from e))] at hQ
    exact hQ
  · rw [if_neg (fun z => z.elim e e2)] at hQ
    by_cases n7 : tS S w 7 = -1
    · rw [if_pos n7] at hQ
      rw [show hI h (s + 5 + w) 10 = 0 from c4 n7]
      exact hQ
    · rw [if_neg n7, iI_ti] at hQ
      rw [show hI h (s + 5 + w) 10 = _ from (c5 n7).2]
      exact hQ
  · rw [if_pos (Or.inr (show tg h s w 11 >>> (f &&& 31) &&& 1 = 1 from e2))] at hQ
    exact hQ
def StF (q a k : Nat) : Prop := a = q ∧ (k = 1 ∨ k = 2)
theorem s_settle {h : HP} (hd : 1 ≤ d) (X : WyX G h q s S) {o t : Nat} {f : Int32} (ho : o < 1600) (ht : t < 1600) (hQ : ∀ h2, FrI (StF q) h h2 → hI h2 q 1 = iI (coi (tS S) f o t) → MskP (AskB (tS S) f o t) (hI h2 q 2) → Q none h2) : Cal G d mX10_settle [.ref q, .int f, .int (nI (o % 40)), .int (nI (o / 40)), .int (nI (t % 40)), .int (nI (t / 40))] h Q := by
  have pf : ∀ a k, StF q a k → q ≤ a ∧ a ≤ q + 7 := fun a k e => by unfold StF at e; omega
  have W := X.2.2.2.1
  refine e_X10_settle ⟨X.1.1.1, ?_⟩
  have loop : ∀ n i h1, i + n = 24 → FrI (StF q) h h1 → hI h1 q 1 = iI (sum1 (fun k => cnw (tS S) f o t (6 + k)) i) → MskP (fun j => ∃ w, wl (tS S) w ∧ w < 6 + i ∧ 0 < tlc (tS S) f w ∧ tS S w 5 = nI j ∧ crW (tS S) w o t) (hI h1 q 2) → Ex G d mX10_settle 14 [(0, .ref q), (1, .int f), (2, .int (nI (o % 40))), (3, .int (nI (o / 40))), (4, .int (nI (t % 40))), (5, .int (nI (t / 40))), (6, .int (nI (6 + i)))] [] h1 Q := by
    intro n
    induction n with
    | zero =>
      intro i h1 hi F e1 e2
      obtain rfl : i = 24 := by omega
      refine t_X10_settle_14 hd ⟨fun _ => hQ h1 F e1 (e2.to (fun j hj => ⟨fun ⟨w, a, b, c⟩ => ⟨w, a, c⟩, fun ⟨w, a, c⟩ => ⟨w, a, a.2.1, c⟩⟩)), fun z => absurd (show (30 : Int32) ≤ nI (6 + 24) by decide) z⟩
    | succ n ih =>
      intro i h1 hi F e1 e2
      have X1 := X.fr F pf
      have hb := (X1.2.2.1.2.2.2.1 (6 + i) (by omega)).1
      have k9 := (X1.2.1.2.2.2.2.2.2.1 (6 + i) (by omega)).2
      have nxt : nI (6 + i) + 1 = nI (6 + (i + 1)) := by rw [nI_S, Nat.add_assoc]
      have skip : cnw (tS S) f o t (6 + i) = 0 → (∀ j, ¬ (wl (tS S) (6 + i) ∧ 0 < tlc (tS S) f (6 + i) ∧ tS S (6 + i) 5 = nI j ∧ crW (tS S) (6 + i) o t)) → Ex G d mX10_settle 14 [(0, .ref q), (1, .int f), (2, .int (nI (o % 40))), (3, .int (nI (o / 40))), (4, .int (nI (t % 40))), (5, .int (nI (t / 40))), (6, .int (nI (6 + i) + 1))] [] h1 Q := fun z1 z2 => by
        rw [nxt]
        refine ih (i + 1) h1 (by omega) F ?_ (e2.to (fun j hj => ⟨fun ⟨w, a, b, c⟩ => ⟨w, a, by omega, c⟩, fun ⟨w, a, b, c⟩ => ?_⟩))
        · rw [e1]
          simp only [sum1]
          rw [z1, Int.add_zero]
        · refine ⟨w, a, ?_, c⟩
          have : w ≠ 6 + i := fun e => z2 j (by rw [← e]; exact ⟨a, c⟩)
          omega
      refine t_X10_settle_14 hd ⟨fun z => absurd z (n30_not (by omega)), fun _ => ⟨X1.1.1.1, s, X1.1.2, th_at X1.2.1 (t := 6 + i) (ti_nI (by omega)) (by omega) ⟨fun z => ?_, fun z => ?_⟩⟩⟩
      · have nw : ¬ wl (tS S) (6 + i) := fun w => by
          have e : hI h1 (s + 5 + (6 + i)) 0 = 1 := hb.trans w.2.2
          rw [e] at z
          exact absurd z (by decide)
        exact skip (cnw_no (fun k => nw k.1)) (fun j k => nw k.1)
      · have hw : wl (tS S) (6 + i) := ⟨by omega, by omega, by
          rcases W.2.2.1 (6 + i) (by omega) with e | e
          · exact absurd (hb.trans e) z
          · exact e⟩
        have b1 := wIn_has X1 hw ho
        have b2 := wIn_has X1 hw ht
        have cv : (if hasB (tg h1 s) (6 + i) (nI (o % 40)) (nI (o / 40)) = true then (1 : Int32) else 0) = (if hasB (tg h1 s) (6 + i) (nI (t % 40)) (nI (t / 40)) = true then (1 : Int32) else 0) ↔ ¬ crW (tS S) (6 + i) o t := by
          unfold crW
          rw [← b1, ← b2]
          cases hasB (tg h1 s) (6 + i) (nI (o % 40)) (nI (o / 40)) <;> cases hasB (tg h1 s) (6 + i) (nI (t % 40)) (nI (t / 40)) <;> simp
        refine s_has k9 ⟨_, rfl, s_has k9 ⟨_, rfl, fun c => ?_, fun c => s_tollFor X1 hw ⟨_, rfl, ?_⟩⟩⟩
        · have nc := cv.mp c
          exact skip (cnw_no (fun k => nc k.2)) (fun j k => nc k.2.2.2)
        · have cr : crW (tS S) (6 + i) o t := Classical.byContradiction (fun k => c (cv.mpr k))
          have tr := tlc_rng (f := f) W.gt hw
          obtain ⟨j0, hj0, ej0⟩ := W.own hw
          have vcoin : hI h1 q 1 + iI (tlc (tS S) f (6 + i)) = iI (sum1 (fun k => cnw (tS S) f o t (6 + k)) (i + 1)) := by
            rw [e1, ← iI_add]
            simp only [sum1]
            rw [cnw_yes hw cr]
          rw [nxt, vcoin]
          refine ⟨fun c2 => ?_, fun c2 h28 g28 => ?_⟩
          · rw [ti_le, ti_iI (by omega) (by omega), show (0 : Int32).toInt = 0 from rfl] at c2
            refine ih (i + 1) _ (by omega) (F.tr (FrI.sI h1 _ ⟨rfl, Or.inl rfl⟩)) (by rw [hI_eq]) ?_
            rw [hI_ne _ _ (Or.inr (by omega))]
            refine e2.to (fun j hj => ⟨fun ⟨w, a, b, c⟩ => ⟨w, a, by omega, c⟩, fun ⟨w, a, b, c⟩ => ⟨w, a, ?_, c⟩⟩)
            have : w ≠ 6 + i := fun e => by
              rw [e] at c
              omega
            omega
          · rw [ti_le, ti_iI (by omega) (by omega), show (0 : Int32).toInt = 0 from rfl] at c2
            rw [hI_ne _ _ (Or.inr (show 2 ≠ 1 by omega)), hI_ne (a := q) (k := 1) (b := s + 5 + (6 + i)) (j := 5) _ _ (Or.inl (by have := X1.2.2.2.2; omega)), show hI h1 (s + 5 + (6 + i)) 5 = _ from X1.th hw.2.1 hw.2.2 (by omega) (by omega), ej0] at g28
            refine ih (i + 1) h28 (by omega) (F.tr ?_) ?_ ?_
            · rw [g28]
              exact (FrI.sI h1 _ ⟨rfl, Or.inl rfl⟩).tr (FrI.sI _ _ ⟨rfl, Or.inr rfl⟩)
            · rw [g28, hI_ne _ _ (Or.inr (by omega)), hI_eq]
            · rw [g28, hI_eq]
              refine (e2.or hj0).to (fun j hj => ⟨fun k => ?_, fun ⟨w, a, b, c⟩ => ?_⟩)
              · rcases k with ⟨w, a, b, c⟩ | e
                · exact ⟨w, a, by omega, c⟩
                · exact ⟨6 + i, hw, by omega, by omega, by rw [e]; exact ej0, cr⟩
              · by_cases e : w = 6 + i
                · refine Or.inr ?_
                  have h5 := c.2.1
                  rw [e, ej0, nI_eq_iff (by omega) (by omega)] at h5
                  exact h5.symm
                · exact Or.inl ⟨w, a, by omega, c⟩
  refine loop 24 0 _ rfl ((FrI.sI h _ ⟨rfl, Or.inl rfl⟩).tr (FrI.sI _ _ ⟨rfl, Or.inr rfl⟩)) ?_ ?_
  · rw [hI_ne _ _ (Or.inr (by omega)), hI_eq]
    rfl
  · rw [hI_eq]
    exact MskP.zero (fun j _ ⟨w, a, b, _⟩ => by have := a.1; omega)
/-- what leads back by one step -/
theorem back_one (W : WF S) {o c : Nat} {f : Int32} (ho : o < 1600) (hc : dst (Ed S 0) o c ≠ -1) (co : c ≠ o) : ∃ k, k < 4 ∧ Ed S 0 c k ∧ dst (Ed S 0) o (nbC c k) ≠ -1 ∧ dst (Ed S 0) o c = dst (Ed S 0) o (nbC c k) + 1 ∧ ∀ w, wl (tS S) w → crW (tS S) w c (nbC c k) → coi (tS S) f o c = coi (tS S) f o (nbC c k) + tlc (tS S) f w := by
  have L := W.l40
  obtain ⟨n, I, -⟩ := bf_fin (Ed.ged (g := 0) L) ho
  obtain ⟨p, k, k4, hE, ek, hp, lab⟩ := I.2.2.2.2.2.2.2 c hc co
  obtain ⟨bE, be⟩ := hE.back L
  rw [ek] at bE be
  refine ⟨(k + 2) % 4, by omega, bE, by rw [be]; exact hp, by rw [be]; exact lab, fun w hw cr => ?_⟩
  rw [be] at cr ⊢
  have cr' : crW (tS S) w p (nbC p k) := by rw [ek]; exact cr.symm
  have only : ∀ u, wl (tS S) u → crW (tS S) u p c → u = w := fun u hu cu => cr_one W L hE.1 hw hu cr' (by rw [ek]; exact cu)
  refine (coi_step hw cr.symm only).1 (fun q => ?_)
  obtain ⟨kp, hkp⟩ : ∃ kp : Nat, (bfN (Ed S 0) o nF).1 p = kp := by
    rcases I.2.2.1 p with z | ⟨i, hi, z⟩
    · exact absurd z hp
    · have := (I.2.1 i hi).2.1
      rw [z] at this
      exact ⟨((bfN (Ed S 0) o nF).1 p).toNat, by omega⟩
  obtain ⟨p', s', a1, a2, a3, a4, a5, a6⟩ := gate_first I kp p hkp q
  have cp : crW (tS S) w p' (nbC p' s') := by
    unfold crW at *
    simp_all
  have i : wIn (tS S) w c ↔ wIn (tS S) w p' := by
    have c2 : crW (tS S) w p c := cr.symm
    unfold crW at *
    by_cases x1 : wIn (tS S) w c <;> by_cases x2 : wIn (tS S) w p <;> by_cases x3 : wIn (tS S) w p' <;> by_cases x4 : wIn (tS S) w o <;> simp_all
  have w0 : w ≠ 0 := by have := hw.1; omega
  have crc : crW (tS S) w c (nbC c ((k + 2) % 4)) := by rw [be]; exact cr
  have e := gp_one L bE.1 a2.1 crc cp (bE.2.2.2 w hw w0 crc) (a2.2.2.2 w hw w0 cp) i
  rw [← e] at a4
  have lab' : (bfN (Ed S 0) o nF).1 c = (bfN (Ed S 0) o nF).1 p + 1 := lab
  omega
set_option maxHeartbeats 1000000 in
theorem r_asks {h : HP} (hd : 5 ≤ d) (X : RfX G h y S) (P : PtA (tS S) 30 (hI h (y + 15))) {o t : Nat} {f : Int32} (il : inLd S o) (nr : ¬ rv S o) (ht : dst (Ed S 0) o t ≠ -1) (K : ∀ c, c < 1600 → hI h (y + 16) c = iI (wyV S f o c)) (hQ : ∀ v, MskP (AskB (tS S) f o t) v → Q (some (.int v)) h) : Cal G d mX12_asks [.ref y, .int f, .int (nI o), .int (nI t)] h Q := by
  have W := X.2.2.1
  have L := W.l40
  have T := W.gt
  have ge := Ed.ged (g := 0) L
  have ho := il.lt L
  obtain ⟨-, ⟨m1, m2, m3⟩, -⟩ := X.1.at
  have wy : ∀ c, dst (Ed S 0) o c ≠ -1 → wyV S f o c = dst (Ed S 0) o c + 10000 * coi (tS S) f o c := fun c hc => by
    unfold wyV
    rw [dR_no nr, if_neg hc]
  have wn : ∀ c, dst (Ed S 0) o c = -1 → wyV S f o c = -1 := fun c hc => by
    unfold wyV
    rw [dR_no nr, if_pos hc]
  have rg := fun c => dst_rng ge ho c
  obtain ⟨nF, IF, -⟩ := bf_fin ge ho
  refine e_X12_asks ?_
  unfold T_X12_asks
  have loop : ∀ (k : Nat) (c : Nat) (v : Int32), dst (Ed S 0) o c = k → (∀ w, wl (tS S) w → 0 < tlc (tS S) f w → crW (tS S) w o c → crW (tS S) w o t) → MskP (fun j => ∃ w, wl (tS S) w ∧ 0 < tlc (tS S) f w ∧ tS S w 5 = nI j ∧ crW (tS S) w o t ∧ ¬ crW (tS S) w o c) v → Ex G d mX12_asks 6 [(0, .ref y), (1, .int f), (2, .int (nI o)), (3, .int (nI t)), (4, .int v), (5, .int (nI c))] [] h Q := by
    intro k
    induction k using Nat.strongRecOn with
    | _ k ih =>
      intro c v hk i1 i2
      have c16 : c < 1600 := by
        rcases rg c with e | e
        · omega
        · exact e.2.2
      refine t_X12_asks_6 ⟨fun e => ?_, fun e => ?_⟩
      · rw [nI_eq_iff (by omega) (by omega)] at e
        refine hQ v (i2.to (fun j hj => ⟨fun ⟨w, a, b, c1, c2, _⟩ => ⟨w, a, b, c1, c2⟩, fun ⟨w, a, b, c1, c2⟩ => ⟨w, a, b, c1, c2, fun q => ?_⟩⟩))
        rw [e] at q
        exact q Iff.rfl
      · have co : c ≠ o := fun q => e (by rw [q])
        obtain ⟨k0, k04, hE0, hp0, hl0, hc0⟩ := back_one (f := f) W ho (by omega) co
        have dry : ¬ rv S c ∧ inLd S c := lab_dry L IF nr il (c := c) (by show dst (Ed S 0) o c ≠ -1; omega)
        -- going to the cell that was found
        have done : ∀ (p : Nat) (v' : Int32) (x7 : Int32), p < 1600 → (∃ kp : Nat, dst (Ed S 0) o p = kp ∧ kp < k) → (∀ w, wl (tS S) w → 0 < tlc (tS S) f w → crW (tS S) w o p → crW (tS S) w o t) → MskP (fun j => ∃ w, wl (tS S) w ∧ 0 < tlc (tS S) f w ∧ tS S w 5 = nI j ∧ crW (tS S) w o t ∧ ¬ crW (tS S) w o p) v' → Ex G d mX12_asks 18 [(0, .ref y), (1, .int f), (2, .int (nI o)), (3, .int (nI t)), (4, .int v'), (5, .int (nI c)), (6, .int (nI p)), (7, .int x7)] [] h Q := by
          intro p v' x7 hp ⟨kp, e1, e2⟩ j1 j2
          have nx := ih kp e2 p v' e1 j1 j2
          refine t_X12_asks_18 (by omega) ⟨fun _ => nx, fun _ => ⟨fun _ => nx, fun z => absurd ?_ z⟩⟩
          rw [ti_le, ti_nI (by omega), show (0 : Int32).toInt = 0 from rfl]
          omega
        have inner : ∀ m k1, k1 + m = 4 → k1 ≤ k0 → Ex G d mX12_asks 18 [(0, .ref y), (1, .int f), (2, .int (nI o)), (3, .int (nI t)), (4, .int v), (5, .int (nI c)), (6, .int (-1)), (7, .int (nI k1))] [] h Q := by
          intro m
          induction m with
          | zero =>
            intro k1 h1 h2
            omega
          | succ m ihm =>
            intro k1 h1 h2
            have skip : k1 ≠ k0 → Ex G d mX12_asks 18 [(0, .ref y), (1, .int f), (2, .int (nI o)), (3, .int (nI t)), (4, .int v), (5, .int (nI c)), (6, .int (-1)), (7, .int (nI k1 + 1))] [] h Q := fun e => by
              rw [nI_S]
              exact ihm (k1 + 1) (by omega) (by omega)
            refine t_X12_asks_18 (by omega) ⟨fun z => ?_, fun _ => ⟨fun z => absurd z (by decide), fun _ => ⟨X.1.1, r_beside (by omega) X dry.2 (by omega) (fun hp nrd => ⟨_, rfl, fun z => ?_, fun _ => ?_⟩) (fun z => ⟨_, rfl, fun _ => skip (fun q => z (by rw [q]; exact ⟨hE0.1, hE0.2.2.1⟩)), fun q => absurd (show (-1 : Int32) < 0 by decide) q⟩)⟩⟩⟩
            · have := (nI_le_iff (a := 4) (b := k1) (by omega) (by omega)).mp z
              omega
            · have d16 := (hp.nb L).1.lt L
              rw [ti_lt, ti_nI (by omega), show (0 : Int32).toInt = 0 from rfl] at z
              omega
            · have d16 := (hp.nb L).1.lt L
              have vd : vp_in (nI (nbC c k1)) (hN h (y + 16)) := by rw [m3]; exact vin_nI d16 (by omega)
              have vc : vp_in (nI c) (hN h (y + 16)) := by rw [m3]; exact vin_nI c16 (by omega)
              refine ⟨y + 16, m1, m2, vd, ?_⟩
              rw [cl_nI (show nbC c k1 < 2147483648 by omega), K _ d16]
              have rp := wyV_rng (f := f) (c := nbC c k1) W ho
              have qp := coi_rng (f := f) (o := o) (c := nbC c k1) T
              have qc := coi_rng (f := f) (o := o) (c := c) T
              have wc := wy c (by omega)
              have lc := rg c
              refine ⟨fun z => ?_, fun z => skip (fun q => ?_)⟩
              rotate_left
              · rw [ti_le, ti_iI (by omega) (by omega), show (0 : Int32).toInt = 0 from rfl] at z
                rw [← q] at hp0
                have := wy _ hp0
                have := rg (nbC c k1)
                omega
              rw [ti_le, ti_iI (by omega) (by omega), show (0 : Int32).toInt = 0 from rfl] at z
              have hpl : dst (Ed S 0) o (nbC c k1) ≠ -1 := fun q => by
                rw [wn _ q] at z
                omega
              have wp := wy _ hpl
              have lp := rg (nbC c k1)
              -- the toll is known
              have go : ∀ (tl : Int) (zt : Int32), zt = iI tl → 0 ≤ tl → tl ≤ 999 → (k1 = k0 → coi (tS S) f o c = coi (tS S) f o (nbC c k1) + tl) → (coi (tS S) f o c = coi (tS S) f o (nbC c k1) + tl → dst (Ed S 0) o c = dst (Ed S 0) o (nbC c k1) + 1 → (zt ≤ 0 → Ex G d mX12_asks 18 [(0, .ref y), (1, .int f), (2, .int (nI o)), (3, .int (nI t)), (4, .int v), (5, .int (nI c)), (6, .int (nI (nbC c k1))), (7, .int (nI k1 + 1))] [] h Q) ∧ (¬ zt ≤ 0 → Cal G (d - 1) mX12_lineBetween [.ref y, .int (nI c), .int (nI (nbC c k1))] h (fun r26 h27 => ∃ v29, r26 = some (.int v29) ∧ Cal G (d - 1) mX12_of [.ref y, .int v29, .int 5] h27 (fun r30 h31 => ∃ v33, r30 = some (.int v33) ∧ Ex G d mX12_asks 18 [(0, .ref y), (1, .int f), (2, .int (nI o)), (3, .int (nI t)), (4, .int (v ||| (1 <<< (v33 &&& 31)))), (5, .int (nI c)), (6, .int (nI (nbC c k1))), (7, .int (nI k1 + 1))] [] h31 Q)))) → (zt = (-1) → Ex G d mX12_asks 18 [(0, .ref y), (1, .int f), (2, .int (nI o)), (3, .int (nI t)), (4, .int v), (5, .int (nI c)), (6, .int (-1)), (7, .int (nI k1 + 1))] [] h Q) ∧ (¬ zt = (-1) → ∃ q19, hR h y 44 = some q19 ∧ Kd G h q19 14 ∧ vp_in (nI (nbC c k1)) (hN h q19) ∧ vp_in (nI c) (hN h q19) ∧ (((((hI h q19 (nbC c k1)) + 1) + (10000 * zt)) = (hI h q19 (nI c).toNatClampNeg) → ((zt ≤ 0 → Ex G d mX12_asks 18 [(0, .ref y), (1, .int f), (2, .int (nI o)), (3, .int (nI t)), (4, .int v), (5, .int (nI c)), (6, .int (nI (nbC c k1))), (7, .int (nI k1 + 1))] [] h Q) ∧ (¬ zt ≤ 0 → Cal G (d - 1) mX12_lineBetween [.ref y, .int (nI c), .int (nI (nbC c k1))] h (fun r26 h27 => ∃ v29, r26 = some (.int v29) ∧ Cal G (d - 1) mX12_of [.ref y, .int v29, .int 5] h27 (fun r30 h31 => ∃ v33, r30 = some (.int v33) ∧ Ex G d mX12_asks 18 [(0, .ref y), (1, .int f), (2, .int (nI o)), (3, .int (nI t)), (4, .int (v ||| (1 <<< (v33 &&& 31)))), (5, .int (nI c)), (6, .int (nI (nbC c k1))), (7, .int (nI k1 + 1))] [] h31 Q))))) ∧ (¬ (((hI h q19 (nbC c k1)) + 1) + (10000 * zt)) = (hI h q19 (nI c).toNatClampNeg) → Ex G d mX12_asks 18 [(0, .ref y), (1, .int f), (2, .int (nI o)), (3, .int (nI t)), (4, .int v), (5, .int (nI c)), (6, .int (-1)), (7, .int (nI k1 + 1))] [] h Q))) := by
                intro tl zt ez t0 t9 hk0 hgo
                have sumv : hI h (y + 16) (nbC c k1) + 1 + 10000 * zt = iI (wyV S f o (nbC c k1) + 1 + 10000 * tl) := by
                  rw [K _ d16, ez, iI_add, iI_add, iI_mul]
                  rfl
                refine ⟨fun zz => ?_, fun _ => ⟨y + 16, m1, m2, vd, vc, ?_⟩⟩
                · rw [ez, iI_m1 (by omega) (by omega)] at zz
                  omega
                rw [cl_nI (show c < 2147483648 by omega), sumv, K c c16]
                refine ⟨fun zz => ?_, fun zz => skip (fun q => zz ?_)⟩
                · rw [ti_eq, ti_iI (by omega) (by omega), ti_iI (by omega) (by omega)] at zz
                  exact hgo (by omega) (by omega)
                · have := hk0 q
                  rw [← q] at hl0
                  congr 1
                  omega
              refine r_tollOf (by omega) X P hp (fun n0 => ⟨_, rfl, ?_⟩) (fun w hw cr gg => ⟨_, rfl, ?_⟩) (fun w hw cr gg => ⟨_, rfl, fun _ => skip (fun q => gg (by rw [q] at cr ⊢; exact hE0.2.2.2 w hw (by have := hw.1; omega) cr)), fun q => absurd rfl q⟩)
              · have es := coi_same (f := f) (o := o) n0
                refine go 0 0 rfl (by omega) (by omega) (fun _ => by omega) (fun _ lab => ⟨fun _ => done _ v _ d16 ⟨(dst (Ed S 0) o (nbC c k1)).toNat, by omega, by omega⟩ (fun w hw ht2 cw => ?_) ?_, fun z => absurd (show (0 : Int32) ≤ 0 by decide) z⟩)
                · exact i1 w hw ht2 (cw.tr (fun q => n0 w hw q.symm))
                · refine i2.to (fun j hj => ⟨fun ⟨w, a, b, c1, c2, c3⟩ => ⟨w, a, b, c1, c2, fun q => c3 (q.tr (fun z => n0 w a z.symm))⟩, fun ⟨w, a, b, c1, c2, c3⟩ => ⟨w, a, b, c1, c2, fun q => c3 (q.tr (n0 w a))⟩⟩)
              · have tr := tlc_rng (f := f) T hw
                have only : ∀ u, wl (tS S) u → crW (tS S) u c (nbC c k1) → u = w := fun u hu cu => cr_one W L hp hw hu cr cu
                obtain ⟨j0, hj0, ej0⟩ := W.own hw
                refine go _ _ rfl tr.1 tr.2 (fun q => ?_) (fun ce lab => ⟨fun z => done _ v _ d16 ⟨(dst (Ed S 0) o (nbC c k1)).toNat, by omega, by omega⟩ (fun u hu ht2 cu => ?_) ?_, fun z => ?_⟩)
                · rw [q] at cr ⊢
                  exact hc0 w hw cr
                · rw [ti_le, ti_iI (by omega) (by omega), show (0 : Int32).toInt = 0 from rfl] at z
                  have une : u ≠ w := fun e => by rw [e] at ht2; omega
                  exact i1 u hu ht2 (cu.tr (fun q => une (only u hu q.symm)))
                · rw [ti_le, ti_iI (by omega) (by omega), show (0 : Int32).toInt = 0 from rfl] at z
                  have une : ∀ u, 0 < tlc (tS S) f u → u ≠ w := fun u hu e => by rw [e] at hu; omega
                  exact i2.to (fun j hj => ⟨fun ⟨u, a, b, c1, c2, c3⟩ => ⟨u, a, b, c1, c2, fun q => c3 (q.tr (fun y => une u b (only u a y.symm)))⟩, fun ⟨u, a, b, c1, c2, c3⟩ => ⟨u, a, b, c1, c2, fun q => c3 (q.tr (fun y => une u b (only u a y)))⟩⟩)
                · rw [ti_le, ti_iI (by omega) (by omega), show (0 : Int32).toInt = 0 from rfl] at z
                  have cs := coi_step (f := f) (o := o) hw cr only
                  have oc : crW (tS S) w o c := Classical.byContradiction (fun q => by have := cs.1 q; omega)
                  have op : ¬ crW (tS S) w o (nbC c k1) := oc.tr2 cr
                  refine r_lineBetween (by omega) X P hp (fun w' hw' cr' => ⟨_, rfl, ?_⟩) (fun n0 => absurd cr (n0 w hw))
                  obtain rfl := only w' hw' cr'
                  refine X.of (by omega) (k := 5) (by have := hw.2.1; omega) rfl (by omega) ⟨_, rfl, ?_⟩
                  rw [ej0]
                  refine done _ _ _ d16 ⟨(dst (Ed S 0) o (nbC c k1)).toNat, by omega, by omega⟩ (fun u hu ht2 cu => ?_) ((i2.or hj0).to (fun j hj => ⟨fun k => ?_, fun ⟨u, a, b, c1, c2, c3⟩ => ?_⟩))
                  · have une : u ≠ w' := fun e => by rw [e] at cu; exact op cu
                    exact i1 u hu ht2 (cu.tr (fun q => une (only u hu q.symm)))
                  · rcases k with ⟨u, a, b, c1, c2, c3⟩ | e
                    · have une : u ≠ w' := fun e => by rw [e] at c3; exact c3 oc
                      exact ⟨u, a, b, c1, c2, fun q => c3 (q.tr (fun y => une (only u a y.symm)))⟩
                    · exact ⟨w', hw, by omega, by rw [e]; exact ej0, i1 w' hw (by omega) oc, op⟩
                  · by_cases e : u = w'
                    · refine Or.inr ?_
                      rw [e, ej0, nI_eq_iff (by omega) (by omega)] at c1
                      exact c1.symm
                    · exact Or.inl ⟨u, a, b, c1, c2, fun q => c3 (q.tr (fun y => e (only u a y)))⟩
        exact inner 4 0 rfl (by omega)
  obtain ⟨kt, hkt⟩ : ∃ kt : Nat, dst (Ed S 0) o t = kt := by
    rcases rg t with e | e
    · exact absurd e ht
    · exact ⟨(dst (Ed S 0) o t).toNat, by omega⟩
  exact loop kt t 0 hkt (fun w _ _ q => q) (MskP.zero (fun j _ ⟨w, _, _, _, a, b⟩ => b a))
end AS
