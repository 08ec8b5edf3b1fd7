/-! ===== things: the reference, and the pair ===== -/
section RG
variable {G : GG} {d : Nat} {h : HP} {y : Nat} {Q : Option Value → HP → Prop}
def covB (A : Nat → Nat → Int32) (t : Nat) (u v : Int32) (o : Nat) : Bool := chB A t o && hasB A o u v
theorem r_isGroundOf (hd : 3 ≤ d) (M : MdSh G h y) (b : bin (tS (said h y))) {t : Nat} {u v : Int32} (h0 : (∃ o, o < 30 ∧ covB (tS (said h y)) t u v o = true) → Q (some (.int 0)) h) (h1 : ¬ (∃ o, o < 30 ∧ covB (tS (said h y)) t u v o = true) → Q (some (.int 1)) h) : Cal G d mX12_isGroundOf [.ref y, .int (nI t), .int u, .int v] h Q := by
  refine e_X12_isGroundOf ?_
  unfold T_X12_isGroundOf
  have loop : ∀ n i, i + n = 30 → (∀ o, o < i → covB (tS (said h y)) t u v o = false) → Ex G d mX12_isGroundOf 3 [(0, .ref y), (1, .int (nI t)), (2, .int u), (3, .int v), (4, .int (nI i))] [] h Q := by
    intro n
    induction n with
    | zero =>
      intro i hi ho
      obtain rfl : i = 30 := by omega
      refine t_X12_isGroundOf_3 (by omega) ⟨fun _ => h1 ?_, fun q => absurd (show (30 : Int32) ≤ nI 30 by decide) q⟩
      rintro ⟨o, h2, h3⟩
      rw [ho o h2] at h3
      cases h3
    | succ n ih =>
      intro i hi ho
      have next : covB (tS (said h y)) t u v i = false → Ex G d mX12_isGroundOf 3 [(0, .ref y), (1, .int (nI t)), (2, .int u), (3, .int v), (4, .int (nI i + 1))] [] h Q := fun c => by
        rw [nI_S]
        refine ih (i + 1) (by omega) (fun o h2 => ?_)
        by_cases e : o = i
        · rw [e]; exact c
        · exact ho o (by omega)
      refine t_X12_isGroundOf_3 (by omega) ⟨fun q => absurd q (n30_not (by omega)), fun _ => ⟨M.1, r_of (t := i) (k := 0) (by omega) M (ti_nI (by omega)) (by omega) rfl (by omega) ⟨_, rfl, fun w => next ?_, fun w => r_of (t := i) (k := 6) (by omega) M (ti_nI (by omega)) (by omega) rfl (by omega) ⟨_, rfl, fun w2 => next ?_, fun w2 => r_hasCell (t := i) (by omega) M (ti_nI (by omega)) (by omega) ⟨_, rfl, fun c => next ?_, fun c => h0 ⟨i, by omega, ?_⟩⟩⟩⟩⟩⟩
      · unfold covB
        cases e : chB (tS (said h y)) t i
        · rfl
        · exact absurd ((chB_iff b (by omega)).mp e).1 w
      · unfold covB
        cases e : chB (tS (said h y)) t i
        · rfl
        · exact absurd ((chB_iff b (by omega)).mp e).2 w2
      · unfold covB
        have c := if10.mp c
        cases e : hasB (tS (said h y)) i u v
        · rw [Bool.and_false]
        · exact absurd e c
      · unfold covB
        have c := Decidable.not_not.mp (fun z => c (if10.mpr z))
        rw [(chB_iff b (by omega)).mpr ⟨w, w2⟩]
        exact c
  exact loop 30 0 rfl (fun o h => by omega)
/-- what a cell counts -/
def cntW (S : Nat → Int32) (m : Int32) (i j : Nat) : Int := if m = 0 then 1 else wrt S i j
theorem WF.cell {S : Nat → Int32} (W : WF S) {c : Nat} (hc : c < 1600) : ∃ k, k < 512 ∧ S (8 + c) = nI k := by
  have q := W.1.2.1 c hc
  unfold rng at q
  exact of_in q.1 (by omega)
theorem r_groundOf (hd : 4 ≤ d) (M : MdSh G h y) (W : WF (said h y)) {t : Nat} (ht : t < 30) (w : tS (said h y) t 0 = 1) {m : Int32} (hQ : Q (some (.int (iI (bxT (gnd (tS (said h y)) t (cntW (said h y) m)) (tS (said h y)) t)))) h) : Cal G d mX12_groundOf [.ref y, .int (nI t), .int m] h Q := by
  have dim := W.1.1
  unfold rng at dim
  obtain ⟨m1, m2, m3⟩ := M.sd
  have g := W.2.2.2.2.1 t ht w
  obtain ⟨⟨e1, e2, e3, e4⟩, ⟨h1, h2⟩, h3, h4⟩ := g.n dim.1.2 dim.2.1.2
  have eq := box_rows (gnd (tS (said h y)) t (cntW (said h y) m)) (Nat.le_of_lt h1) h2 (Nat.le_of_lt h3) h4
  unfold bxT at hQ
  rw [eq] at hQ
  generalize cN (tS (said h y)) t 1 = x0 at *
  generalize cN (tS (said h y)) t 2 = y0 at *
  generalize cN (tS (said h y)) t 3 = x1 at *
  generalize cN (tS (said h y)) t 4 = y1 at *
  have row : ∀ j z, y0 ≤ j → j < y1 → (Ex G d mX12_groundOf 10 [(0, .ref y), (1, .int (nI t)), (2, .int m), (3, .int (iI (z + sum1 (fun i => gnd (tS (said h y)) t (cntW (said h y) m) (x0 + i) j) (x1 - x0)))), (4, .int (nI (j + 1)))] [] h Q) → Ex G d mX12_groundOf 29 [(0, .ref y), (1, .int (nI t)), (2, .int m), (3, .int (iI z)), (4, .int (nI j)), (5, .int (nI x0))] [] h Q := by
    intro j z j0 j1 fin
    refine loop_up (α := Int) (J := fun i _ => x0 ≤ i) (P := fun i a => Ex G d mX12_groundOf 29 [(0, .ref y), (1, .int (nI t)), (2, .int m), (3, .int (iI a)), (4, .int (nI j)), (5, .int (nI i))] [] h Q) (f := fun i a => a + gnd (tS (said h y)) t (cntW (said h y) m) i j) (e := x1) (fun i a _ q => by show x0 ≤ i + 1; omega) ?_ (x1 - x0) x0 z (by omega) (Nat.le_refl _) ?_
    · intro i a hi h0 P
      rw [iI_add] at P
      refine t_X12_groundOf_29 (by omega) ⟨M.1, r_of (t := t) (k := 3) (by omega) M (ti_nI (by omega)) (by omega) rfl (by omega) ⟨_, rfl, fun q => ?_, fun _ => r_isGroundOf (by omega) M W.2.2.1 (fun c => ⟨_, rfl, fun q => absurd rfl q, fun _ => ?_⟩) (fun c => ⟨_, rfl, fun _ => ⟨fun c2 => ?_, fun c2 => ⟨y + 13, m1, m2, ?_, ?_⟩⟩, fun q => absurd q (by decide)⟩)⟩⟩
      · rw [sd_tS, e3, nI_le_iff (by omega) (by omega)] at q
        omega
      · have ez : gnd (tS (said h y)) t (cntW (said h y) m) i j = 0 := by
          unfold gnd
          refine if_pos (anyB_iff.mpr ?_)
          obtain ⟨o, ho, c⟩ := c
          unfold covB at c
          obtain ⟨ca, cb⟩ := Bool.and_eq_true_iff.mp c
          exact ⟨o, ho, cvB_iff.mpr ⟨ca, ((W.2.2.2.2.1 o ho ((chB_iff W.2.2.1 (by omega)).mp ca).1).has dim.1.2 dim.2.1.2 (by omega) (by omega)).mp cb⟩⟩
        rw [nI_S, add0]
        rw [ez] at P
        have e0 : iI 0 = 0 := rfl
        rw [e0, add0] at P
        exact P
      · have ez : gnd (tS (said h y)) t (cntW (said h y) m) i j = 1 := by
          unfold gnd cntW
          rw [if_neg, if_pos c2]
          intro ex
          obtain ⟨o, ho, cc⟩ := anyB_iff.mp ex
          obtain ⟨ca, cb⟩ := cvB_iff.mp cc
          refine c ⟨o, ho, ?_⟩
          unfold covB
          rw [ca, ((W.2.2.2.2.1 o ho ((chB_iff W.2.2.1 (by omega)).mp ca).1).has dim.1.2 dim.2.1.2 (by omega) (by omega)).mpr cb]
          rfl
        rw [nI_S]
        rw [ez] at P
        exact P
      · rw [show 8 + 40 * nI j + nI i = nI (8 + (40 * j + i)) by
          show nI 8 + nI 40 * nI j + nI i = _
          rw [nM, nA, nA, Nat.add_assoc], m3]
        exact vin_nI (by omega) (by omega)
      · have ez : gnd (tS (said h y)) t (cntW (said h y) m) i j = wrt (said h y) i j := by
          unfold gnd cntW
          rw [if_neg, if_neg c2]
          intro ex
          obtain ⟨o, ho, cc⟩ := anyB_iff.mp ex
          obtain ⟨ca, cb⟩ := cvB_iff.mp cc
          refine c ⟨o, ho, ?_⟩
          unfold covB
          rw [ca, ((W.2.2.2.2.1 o ho ((chB_iff W.2.2.1 (by omega)).mp ca).1).has dim.1.2 dim.2.1.2 (by omega) (by omega)).mpr cb]
          rfl
        rw [ez] at P
        obtain ⟨k, hk, ek⟩ := W.cell (c := 40 * j + i) (by omega)
        have ew : wrt (said h y) i j = ((k % 128 : Nat) : Int) := by
          unfold wrt
          rw [ek, ti_nI (by omega)]
          omega
        rw [ew, iI_nI] at P
        rw [show 8 + 40 * nI j + nI i = nI (8 + (40 * j + i)) by
          show nI 8 + nI 40 * nI j + nI i = _
          rw [nM, nA, nA, Nat.add_assoc], cl_nI (by omega), show hI h (y + 13) (8 + (40 * j + i)) = nI k from ek, show irm (nI k) 128 = nI (k % 128) from nR (m := 128) (by omega) (by omega), nI_S]
        exact P
    · intro _
      refine t_X12_groundOf_29 (by omega) ⟨M.1, r_of (t := t) (k := 3) (by omega) M (ti_nI (by omega)) (by omega) rfl (by omega) ⟨_, rfl, fun _ => ?_, fun q => ?_⟩⟩
      · rw [foldF_sum (fun i => gnd (tS (said h y)) t (cntW (said h y) m) i j), nI_S]
        exact fin
      · rw [sd_tS, e3] at q
        exact absurd ((nI_le_iff (by omega) (by omega)).mpr (Nat.le_refl _)) q
  refine e_X12_groundOf (by omega) ⟨M.1, r_of (t := t) (k := 2) (by omega) M (ti_nI (by omega)) (by omega) rfl (by omega) ⟨_, rfl, ?_⟩⟩
  rw [sd_tS, e2]
  refine loop_up (α := Int) (J := fun j _ => y0 ≤ j) (P := fun j a => Ex G d mX12_groundOf 10 [(0, .ref y), (1, .int (nI t)), (2, .int m), (3, .int (iI a)), (4, .int (nI j))] [] h Q) (f := fun j a => a + sum1 (fun i => gnd (tS (said h y)) t (cntW (said h y) m) (x0 + i) j) (x1 - x0)) (e := y1) (fun i a _ q => by show y0 ≤ i + 1; omega) ?_ (y1 - y0) y0 0 (by omega) (Nat.le_refl _) ?_
  · intro j a hj h0 P
    refine t_X12_groundOf_10 (by omega) ⟨M.1, r_of (t := t) (k := 4) (by omega) M (ti_nI (by omega)) (by omega) rfl (by omega) ⟨_, rfl, fun q => ?_, fun _ => r_of (t := t) (k := 1) (by omega) M (ti_nI (by omega)) (by omega) rfl (by omega) ⟨_, rfl, ?_⟩⟩⟩
    · rw [sd_tS, e4, nI_le_iff (by omega) (by omega)] at q
      omega
    · rw [sd_tS, e1]
      exact row j a h0 hj P
  · intro _
    refine t_X12_groundOf_10 (by omega) ⟨M.1, r_of (t := t) (k := 4) (by omega) M (ti_nI (by omega)) (by omega) rfl (by omega) ⟨_, rfl, fun _ => ?_, fun q => ?_⟩⟩
    · rw [foldF_sum (fun j => sum1 (fun i => gnd (tS (said h y)) t (cntW (said h y) m) (x0 + i) j) (x1 - x0)), Int.zero_add]
      exact hQ
    · rw [sd_tS, e4] at q
      exact absurd ((nI_le_iff (by omega) (by omega)).mpr (Nat.le_refl _)) q
end RG
theorem Bd.ch {G : GG} {h : HP} {y s : Nat} (B : Bd G h y s) (t : Nat) {o : Nat} (ho : o < 30) : chB (tg h s) t o = chB (tS (said h y)) t o := by
  unfold chB
  rw [B.wB ho]
  cases c : wallB (tS (said h y)) o
  · rw [Bool.false_and, Bool.false_and]
  · rw [B.th ho (B.wI ho c) (by omega) (by omega)]
theorem p_thing (G : GG) (u0 : Nat) (h : HP) (I : Inv G u0 h) (x1 x2 : Int32) : Pr (Inv G u0) G G.1 (G.1 + 119) mX11_thing mX12_thing [.int x1, .int x2] h := by
  obtain ⟨s, p, I⟩ := I
  unfold Pr Inv
  generalize G.1 = b at *
  generalize hy : b + 119 = y at *
  have B := I.bd
  have M := B.2.1
  have W := B.2.2.2
  have st := B.1
  have kb := I.1.2.1
  have n2 := I.2.1.2.1
  have ks := B.1.1
  have ok : ∀ v w : Int32, v = w → some (Value.int v) = some (Value.int w) ∧ ∃ s p, InvB G u0 h b y s p := fun v w e => ⟨by rw [e], s, p, I⟩
  refine e_X11_thing (by omega) ⟨kb, s, n2, ks, c_isThere B (fun c => ⟨_, rfl, fun q => absurd rfl q, fun _ => ⟨_, rfl, e_X12_thing (by omega) ⟨M.1, m_isThing M W (by omega) (fun _ => ⟨_, rfl, fun _ => ok _ _ rfl, fun q => absurd rfl q⟩) (fun t ht e w => absurd ⟨t, ht, e, w⟩ c)⟩⟩⟩) (fun t ht e w => ⟨_, rfl, fun _ => ?_, fun q => absurd q (by decide)⟩)⟩
  subst e
  have dim := W.1.1
  unfold rng at dim
  have y0 : (0 : Int64).toInt = 0 := by simp
  have y11 : (11 : Int64).toInt = 11 := by simp
  obtain ⟨d1, d2, d3, d4, d5, d6⟩ := (B.2.2.1.2.2.2.1 t ht).2 w
  have gt := (W.1.2.2.2.2.2.1 t ht w).2.2
  have k9 := (st.2.2.2.2.2.2.1 t (by omega)).2
  have R : ∀ {v : Int32} {n : Nat}, x2 = nI n → n ≤ 11 → (n < 6 → tS (said h y) t (if n < 4 then n + 1 else if n = 4 then 5 else 6) = v) → (n = 6 → nI (deepN (tS (said h y)) 31 (nI t)) = v) → (n = 7 → iI (bxT (gnd (tS (said h y)) t (cntW (said h y) 0)) (tS (said h y)) t) = v) → (n = 8 → iI (bxT (gnd (tS (said h y)) t (cntW (said h y) 1)) (tS (said h y)) t) = v) → (9 ≤ n → tS (said h y) t (n - 2) = v) → Cal G 59 mX12_thing [.ref y, .int (nI t), .int x2] h (fun r2 h2 => r2 = some (.int v) ∧ ∃ s p, InvB G u0 h2 b y s p) := by
    intro v n en hn q5 q6 q7 q8 q9
    subst en
    have lt : ∀ k, k < 100 → ((nI k : Int32) ≤ nI n ↔ k ≤ n) := fun k hk => nI_le_iff (by omega) (by omega)
    have eqq : ∀ k, k < 100 → ((nI n : Int32) = nI k ↔ n = k) := fun k hk => nI_eq_iff (by omega) (by omega)
    refine e_X12_thing (by omega) ⟨M.1, m_isThing M W (by omega) (fun q => absurd (isT.of ht w) q) (fun _ _ _ _ => ⟨_, rfl, fun q => absurd q (by decide), fun _ => r_in ⟨_, rfl, fun _ => ⟨fun c => ⟨fun c2 => ⟨fun c3 => r_of (t := t) (k := n - 2) (by omega) M (ti_nI (by omega)) (by omega) ?_ (by omega) ⟨_, rfl, ok _ _ (q9 ((lt 9 (by omega)).mp c3))⟩, fun c3 => ⟨fun c4 => r_groundOf (by omega) M W ht w ⟨_, rfl, ok _ _ (q7 ?_)⟩, fun c4 => r_groundOf (by omega) M W ht w ⟨_, rfl, ok _ _ (q8 ((eqq 8 (by omega)).mp c4))⟩⟩⟩, fun c2 => r_deepOf (N := 30) (by omega) M W.2.2.1 (nI_ne_neg (by omega)) W.endsW ⟨_, rfl, ok _ _ (q6 ((eqq 6 (by omega)).mp c2))⟩⟩, fun c => ⟨fun c2 => ⟨fun c3 => r_of (t := t) (k := 6) (by omega) M (ti_nI (by omega)) (by omega) rfl (by omega) ⟨_, rfl, ok _ _ ?_⟩, fun c3 => r_of (t := t) (k := 5) (by omega) M (ti_nI (by omega)) (by omega) rfl (by omega) ⟨_, rfl, ok _ _ ?_⟩⟩, fun c2 => r_of (t := t) (k := n + 1) (by omega) M (ti_nI (by omega)) (by omega) ?_ ?_ ⟨_, rfl, ok _ _ ?_⟩⟩⟩, fun q => ?_⟩⟩)⟩
    · have := (lt 9 (by omega)).mp c3
      rw [show nI n - 2 = nI (n - 2) from nS (b := 2) (by omega), ti_nI (by omega)]
    · have a1 := (lt 6 (by omega)).mp c
      have a2 : n ≠ 6 := fun e => c2 ((eqq 6 (by omega)).mpr e)
      have a3 : ¬ 9 ≤ n := fun e => c3 ((lt 9 (by omega)).mpr e)
      have a4 : n ≠ 8 := fun e => c4 ((eqq 8 (by omega)).mpr e)
      omega
    · have a1 : ¬ 6 ≤ n := fun e => c ((lt 6 (by omega)).mpr e)
      have a2 := (lt 4 (by omega)).mp c2
      have a3 : n ≠ 4 := fun e => c3 ((eqq 4 (by omega)).mpr e)
      have := q5 (by omega)
      rw [if_neg (by omega), if_neg (by omega)] at this
      exact this
    · have a3 := (eqq 4 (by omega)).mp c3
      have := q5 (by omega)
      rw [if_neg (by omega), if_pos (by omega)] at this
      exact this
    · rw [nI_S, ti_nI (by omega)]
    · have a2 : ¬ 4 ≤ n := fun e => c2 ((lt 4 (by omega)).mpr e)
      omega
    · have a2 : ¬ 4 ≤ n := fun e => c2 ((lt 4 (by omega)).mpr e)
      have := q5 (by omega)
      rw [if_pos (by omega)] at this
      exact this
    · have q := if10.mp q
      rw [ti64, y0, y11, ti_nI (by omega)] at q
      omega
  have N : ¬ (0 ≤ x2.toInt ∧ x2.toInt ≤ 11) → Cal G 59 mX12_thing [.ref y, .int (nI t), .int x2] h (fun r2 h2 => r2 = some (.int (-2)) ∧ ∃ s p, InvB G u0 h2 b y s p) := by
    intro hn
    refine e_X12_thing (by omega) ⟨M.1, m_isThing M W (by omega) (fun q => absurd (isT.of ht w) q) (fun _ _ _ _ => ⟨_, rfl, fun q => absurd q (by decide), fun _ => r_in ⟨_, rfl, fun q => ?_, fun _ => ok _ _ rfl⟩⟩)⟩
    have q := Decidable.not_not.mp (fun z => q (if10.mpr z))
    rw [ti64, y0, y11] at q
    exact absurd q hn
  have g := W.2.2.2.2.1 t ht w
  have eA : ∀ o, o < 30 → chB (tS (said h y)) t o = true → areaI (tg h s) o = iI (bxT (fun _ _ => 1) (tS (said h y)) o) := fun o ho q => by
    have wo := ((chB_iff W.2.2.1 (by omega)).mp q).1
    rw [B.aI ho ((B.wallR ho).mpr wo)]
    exact (W.2.2.2.2.1 o ho wo).area dim.1.2 dim.2.1.2
  have eG : subF (chB (tg h s) t) (areaI (tg h s)) (areaI (tg h s) t) 0 30 = iI (bxT (gnd (tS (said h y)) t (cntW (said h y) 0)) (tS (said h y)) t) := by
    rw [subF_congr (q := chB (tS (said h y)) t) (g := areaI (tg h s)) 30 0 _ (fun j _ h2 => B.ch t (by omega)) (fun _ _ _ _ => rfl), B.aI ht ((B.wallR ht).mpr w), g.area dim.1.2 dim.2.1.2, subF_iI (F := fun o => bxT (fun _ _ => 1) (tS (said h y)) o) 30 0 _ (fun j _ h2 q => eA j (by omega) q)]
    have ec : cntW (said h y) 0 = fun _ _ => 1 := by
      funext i j
      unfold cntW
      rw [if_pos rfl]
    rw [ec, gnd_box W.2.2.2.2 W.2.2.1 dim.1.2 dim.2.1.2 ht]
    refine congrArg iI ?_
    have z : ∀ a c d : Int, d = 0 → a - (c - d) = a - c := fun _ _ _ e => by omega
    exact z _ _ _ rfl
  have eW : iI (bxT (wrt (said h y)) (tS (said h y)) t - sum1 (fun o => if chB (tS (said h y)) t o = true then bxT (wrt (said h y)) (tS (said h y)) o else 0) 30) = iI (bxT (gnd (tS (said h y)) t (cntW (said h y) 1)) (tS (said h y)) t) := by
    have ec : cntW (said h y) 1 = wrt (said h y) := by
      funext i j
      unfold cntW
      rw [if_neg (by decide)]
    rw [ec, gnd_box W.2.2.2.2 W.2.2.1 dim.1.2 dim.2.1.2 ht]
  have go : ∀ z : Int32, (z = 0 ↔ tS (said h y) t 7 = -1) → Ex G 59 mX11_thing 37 [(0, .ref b), (1, .int (nI t)), (2, .int x2), (3, .ref (s + 5 + t))] [.int z] h (fun r h1 => ∃ v, r = some (.int v) ∧ Cal G 59 mX12_thing [.ref y, .int (nI t), .int x2] h1 (fun r2 h2 => r2 = some (.int v) ∧ ∃ s p, InvB G u0 h2 b y s p)) := by
    intro z hz
    have no : ∀ {P : Prop} {n m : Nat}, n = m → n ≠ m → P := fun a b => absurd a b
    refine t_X11_thing_37 (by omega) ⟨fun c => ⟨k9, _, rfl, R (n := 0) c (by omega) (fun _ => (d1 1 (by omega) (by omega)).symm) (fun q => by omega) (fun q => by omega) (fun q => by omega) (fun q => by omega)⟩, fun c0 => ⟨fun c => ⟨k9, _, rfl, R (n := 1) c (by omega) (fun _ => (d1 2 (by omega) (by omega)).symm) (fun q => by omega) (fun q => by omega) (fun q => by omega) (fun q => by omega)⟩, fun c1 => ⟨fun c => ⟨k9, _, rfl, R (n := 2) c (by omega) (fun _ => (d1 3 (by omega) (by omega)).symm) (fun q => by omega) (fun q => by omega) (fun q => by omega) (fun q => by omega)⟩, fun c2 => ⟨fun c => ⟨k9, _, rfl, R (n := 3) c (by omega) (fun _ => (d1 4 (by omega) (by omega)).symm) (fun q => by omega) (fun q => by omega) (fun q => by omega) (fun q => by omega)⟩, fun c3 => ⟨fun c => ⟨k9, _, rfl, R (n := 4) c (by omega) (fun _ => (d1 5 (by omega) (by omega)).symm) (fun q => by omega) (fun q => by omega) (fun q => by omega) (fun q => by omega)⟩, fun c4 => ⟨fun c => ⟨k9, _, rfl, R (n := 5) c (by omega) (fun _ => (d1 6 (by omega) (by omega)).symm) (fun q => by omega) (fun q => by omega) (fun q => by omega) (fun q => by omega)⟩, fun c5 => ⟨fun c => ⟨k9, _, rfl, R (n := 6) c (by omega) (fun q => by omega) (fun _ => d2.symm) (fun q => by omega) (fun q => by omega) (fun q => by omega)⟩, fun c6 => ⟨fun c => ⟨kb, s_groundOf (by omega) kb n2 st (by omega) ⟨_, rfl, _, rfl, R (n := 7) c (by omega) (fun q => by omega) (fun q => by omega) (fun _ => eG.symm) (fun q => by omega) (fun q => by omega)⟩⟩, fun c7 => ⟨fun c => ⟨kb, s_worthOf (by omega) I ht w ⟨_, rfl, _, rfl, R (n := 8) c (by omega) (fun q => by omega) (fun q => by omega) (fun q => by omega) (fun _ => eW.symm) (fun q => by omega)⟩⟩, fun c8 => ⟨fun c => ⟨k9, _, rfl, R (n := 9) c (by omega) (fun q => by omega) (fun q => by omega) (fun q => by omega) (fun q => by omega) (fun _ => d3.symm)⟩, fun c9 => ⟨fun c => ⟨fun cz => ⟨_, rfl, R (n := 10) c (by omega) (fun q => by omega) (fun q => by omega) (fun q => by omega) (fun q => by omega) (fun _ => ?_)⟩, fun cz => ⟨k9, _, rfl, R (n := 10) c (by omega) (fun q => by omega) (fun q => by omega) (fun q => by omega) (fun q => by omega) (fun _ => ?_)⟩⟩, fun c10 => ⟨fun c => ⟨fun cz => ⟨_, rfl, R (n := 11) c (by omega) (fun q => by omega) (fun q => by omega) (fun q => by omega) (fun q => by omega) (fun _ => ?_)⟩, fun cz => ⟨k9, _, rfl, R (n := 11) c (by omega) (fun q => by omega) (fun q => by omega) (fun q => by omega) (fun q => by omega) (fun _ => ?_)⟩⟩, fun c11 => ⟨_, rfl, N ?_⟩⟩⟩⟩⟩⟩⟩⟩⟩⟩⟩⟩⟩
    · have q := hz.mp cz
      unfold gat at gt
      rcases gt.2 with a | a
      · exact a.2.1
      · have a1 := a.1
        rw [q] at a1
        unfold rng at a1
        rw [tn1] at a1
        omega
    · exact ((d5 (fun q => cz (hz.mpr q))).1).symm
    · have q := hz.mp cz
      unfold gat at gt
      rcases gt.2 with a | a
      · exact a.2.2
      · have a1 := a.1
        rw [q] at a1
        unfold rng at a1
        rw [tn1] at a1
        omega
    · exact ((d5 (fun q => cz (hz.mpr q))).2).symm
    · intro q
      obtain ⟨n, hn, rfl⟩ := of_in (n := 12) q.1 (by omega)
      have : n = 0 ∨ n = 1 ∨ n = 2 ∨ n = 3 ∨ n = 4 ∨ n = 5 ∨ n = 6 ∨ n = 7 ∨ n = 8 ∨ n = 9 ∨ n = 10 ∨ n = 11 := by omega
      rcases this with rfl | rfl | rfl | rfl | rfl | rfl | rfl | rfl | rfl | rfl | rfl | rfl
      · exact c0 rfl
      · exact c1 rfl
      · exact c2 rfl
      · exact c3 rfl
      · exact c4 rfl
      · exact c5 rfl
      · exact c6 rfl
      · exact c7 rfl
      · exact c8 rfl
      · exact c9 rfl
      · exact c10 rfl
      · exact c11 rfl
  refine ⟨s, n2, ks, s + 3, st.2.1.2.2.1, st.2.2.2.2.1.1, th_in st (t := t) (ti_nI (by omega)) (by omega) ⟨fun c => go 0 ⟨fun _ => d3.symm.trans c, fun _ => rfl⟩, fun c => go 1 ⟨fun q => absurd q (by decide), fun q => absurd (d3.trans q) c⟩⟩⟩
