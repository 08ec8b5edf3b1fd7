/-! ===== the class: clear, rivers, words ===== -/
theorem sum1_diff {f : Nat → Int} (hf : ∀ i, f i = 0 ∨ f i = 1) {a b : Nat} (hab : a ≤ b) : sum1 f b = sum1 f a ↔ ∀ i, a ≤ i → i < b → ¬ f i = 1 := by
  obtain ⟨k, rfl⟩ : ∃ k, b = a + k := ⟨b - a, by omega⟩
  clear hab
  have mono : ∀ k, sum1 f a ≤ sum1 f (a + k) := by
    intro k
    induction k with
    | zero => exact Int.le_refl _
    | succ k ih =>
      rw [← Nat.add_assoc]
      simp only [sum1]
      rcases hf (a + k) with z | z <;> omega
  induction k with
  | zero => exact ⟨fun _ i h1 h2 => by omega, fun _ => rfl⟩
  | succ k ih =>
    have m := mono k
    rw [← Nat.add_assoc]
    simp only [sum1]
    constructor
    · intro q i h1 h2
      rcases hf (a + k) with z | z
      · by_cases e : i = a + k
        · rw [e, z]; omega
        · exact ih.mp (by omega) i h1 (by omega)
      · omega
    · intro q
      have z : f (a + k) = 0 := (hf (a + k)).resolve_right (q (a + k) (by omega) (by omega))
      rw [z, ih.mpr (fun i h1 h2 => q i h1 (by omega))]
      omega
theorem lvl01 (S : Nat → Int32) (j i : Nat) : lvl S i j = 0 ∨ lvl S i j = 1 := by
  unfold lvl
  split
  · exact Or.inr rfl
  · exact Or.inl rfl
theorem upr01 (S : Nat → Int32) (i j : Nat) : upr S i j = 0 ∨ upr S i j = 1 := by
  unfold upr
  split
  · exact Or.inr rfl
  · exact Or.inl rfl
/-- what a plan has round its things -/
theorem out_box {S : Nat → Int32} (W : WfR S) {x0 z0 x1 z1 a : Nat} {ob : Option Nat} (ha : a < 54) (wa : tS S a 0 = 1) (wb : thereO S ob) (fit : fitP S (nI x0) (nI z0) (nI x1) (nI z1) a ob) (hx0 : x0 < x1) (hx : x1 ≤ 40) (hz0 : z0 < z1) (hz : z1 ≤ 40) (m : Nat) : box (outG S a ob m) x0 z0 x1 z1 = box (f4 S m) x0 z0 x1 z1 - bxT (f4 S m) (tS S) a - optI (bxT (f4 S m) (tS S)) ob := by
  obtain ⟨-, o1, o2, g1, g2⟩ := fit
  have in_ : ∀ t, t < 54 → tS S t 0 = 1 → 0 ≤ gapA (tS S) (nI x0) (nI z0) (nI x1) (nI z1) t → x0 ≤ cN (tS S) t 1 ∧ z0 ≤ cN (tS S) t 2 ∧ cN (tS S) t 3 ≤ x1 ∧ cN (tS S) t 4 ≤ z1 := fun t ht wt g => by
    have q := W.geoL ht wt
    have q1 := q 1 (by omega) (by omega)
    have q2 := q 2 (by omega) (by omega)
    have q3 := q 3 (by omega) (by omega)
    have q4 := q 4 (by omega) (by omega)
    unfold gapA at g
    rw [ti_nI (by omega), ti_nI (by omega), ti_nI (by omega), ti_nI (by omega)] at g
    unfold inL at *
    unfold cN
    omega
  have ia := in_ a ha wa g1
  cases ob with
  | none =>
    show _ = _ - _ - (0 : Int)
    rw [Int.sub_zero]
    unfold bxT box
    rw [← all2_sub]
    refine all2_congr (fun i j _ _ => ?_)
    unfold outG inAB inTB
    simp only [Bool.or_false, decide_eq_true_eq]
    by_cases c : (cN (tS S) a 1 ≤ i ∧ i < cN (tS S) a 3) ∧ cN (tS S) a 2 ≤ j ∧ j < cN (tS S) a 4
    · rw [if_pos (show (x0 ≤ i ∧ i < x1) ∧ z0 ≤ j ∧ j < z1 by omega), if_pos c, if_pos (show (x0 ≤ i ∧ i < x1) ∧ z0 ≤ j ∧ j < z1 by omega), if_pos c]
      omega
    · rw [if_neg c, if_neg c, Int.sub_zero]
  | some b =>
    obtain ⟨hb, wb'⟩ := wb b rfl
    have ib := in_ b hb wb' (g2 b rfl)
    have dj := W.2.2.2.1.2.2 a b ha hb (fun q => (o2 b rfl).1 q.symm) wa wb' (o1.trans (o2 b rfl).2.symm)
    have qa := W.geoL ha wa
    have qb := W.geoL hb wb'
    show _ = _ - _ - bxT (f4 S m) (tS S) b
    unfold bxT box
    rw [← all2_sub, ← all2_sub]
    refine all2_congr (fun i j _ _ => ?_)
    unfold outG inAB inTB
    simp only [Bool.or_eq_true, decide_eq_true_eq]
    by_cases ca : (cN (tS S) a 1 ≤ i ∧ i < cN (tS S) a 3) ∧ cN (tS S) a 2 ≤ j ∧ j < cN (tS S) a 4
    · have nb : ¬ ((cN (tS S) b 1 ≤ i ∧ i < cN (tS S) b 3) ∧ cN (tS S) b 2 ≤ j ∧ j < cN (tS S) b 4) := fun cb => by
        have a1 := qa 1 (by omega) (by omega)
        have a2 := qa 2 (by omega) (by omega)
        have a3 := qa 3 (by omega) (by omega)
        have a4 := qa 4 (by omega) (by omega)
        have b1 := qb 1 (by omega) (by omega)
        have b2 := qb 2 (by omega) (by omega)
        have b3 := qb 3 (by omega) (by omega)
        have b4 := qb 4 (by omega) (by omega)
        unfold inL at *
        unfold clr at dj
        unfold cN at ca cb
        omega
      rw [if_pos (show (x0 ≤ i ∧ i < x1) ∧ z0 ≤ j ∧ j < z1 by omega), if_pos (Or.inl ca), if_pos (show (x0 ≤ i ∧ i < x1) ∧ z0 ≤ j ∧ j < z1 by omega), if_pos ca, if_neg nb]
      omega
    · by_cases cb : (cN (tS S) b 1 ≤ i ∧ i < cN (tS S) b 3) ∧ cN (tS S) b 2 ≤ j ∧ j < cN (tS S) b 4
      · rw [if_pos (show (x0 ≤ i ∧ i < x1) ∧ z0 ≤ j ∧ j < z1 by omega), if_pos (Or.inr cb), if_pos (show (x0 ≤ i ∧ i < x1) ∧ z0 ≤ j ∧ j < z1 by omega), if_neg ca, if_pos cb]
        omega
      · have nn : ¬ (((cN (tS S) a 1 ≤ i ∧ i < cN (tS S) a 3) ∧ cN (tS S) a 2 ≤ j ∧ j < cN (tS S) a 4) ∨ ((cN (tS S) b 1 ≤ i ∧ i < cN (tS S) b 3) ∧ cN (tS S) b 2 ≤ j ∧ j < cN (tS S) b 4)) := fun q => q.elim ca cb
        rw [if_neg nn, if_neg ca, if_neg cb]
        omega
theorem deep_house {S : Nat → Int32} (W : WfR S) {t : Nat} (ht : t < 6) : deepN (tS S) 31 (nI t) = 0 := by
  unfold deepN
  refine cntF_none 48 6 (fun v h1 h2 => ?_)
  cases c : wallB (tS S) v
  · rw [Bool.false_and]
  · rw [Bool.true_and]
    cases l : liesF (tS S) (nI t) 31 (tS S v 6)
    · rfl
    · have := (W.2.2.2.1.lies (by omega) (by omega) 31 v (by omega) ((W.2.2.1.w (by omega)).mpr c) l).1
      omega
section DC
variable {G : GG} {d : Nat} {h : HP} {b s n P : Nat} {S : Nat → Int32} {Q : Option Value → HP → Prop}
theorem s_clear (hd : 3 ≤ d) (V : VwC G h b s S n) (kP : Kd G h P 3) {f : Nat} {x z tx tz : Int32} {tc ta : Nat} {ob : Option Nat} (L : PlI h P f x z tx tz tc ob) (e : ix n tc ta) (wb : ∀ c, ob = some c → c < 30) (hob : ob ≠ none → tc < 30) (hx : inL x) (hz : inL z) (htx : inL tx) (htz : inL tz) (h0 : ¬ clrP S x z tx tz ta ob → Q (some (.int 0)) h) (h1 : clrP S x z tx tz ta ob → Q (some (.int 1)) h) : Cal G d mX11_isClearOfOthers [.ref b, .ref P] h Q := by
  have V' := V
  obtain ⟨v1, v2, v3, v4, v5, C, W, v8⟩ := V'
  obtain ⟨l1, l2⟩ := ix_lt e C.2.2.2.2.2.1
  obtain ⟨⟨p1, p2, p3, p4⟩, p5, p6, p0⟩ := L
  refine e_X11_isClearOfOthers ?_
  unfold T_X11_isClearOfOthers
  have c54 := C.2.2.2.2.2
  have loop : ∀ m i, i + m = 31 → (∀ c a, c < i → ix n c a → tS S a 0 = 1 → tS S a 6 = -1 → c ≠ tc → ob ≠ some c → (tx.toInt < (tS S a 1).toInt ∨ (tS S a 3).toInt < x.toInt ∨ tz.toInt < (tS S a 2).toInt ∨ (tS S a 4).toInt < z.toInt)) → Ex G d mX11_isClearOfOthers 2 [(0, .ref b), (1, .ref P), (2, .int (nI i))] [] h Q := by
    intro m
    induction m with
    | zero =>
      intro i hi K
      obtain rfl : i = 31 := by omega
      refine t_X11_isClearOfOthers_2 (by omega) ⟨fun _ => h1 (fun t ht w o na nb => ?_), fun q => absurd (show (31 : Int32) ≤ nI 31 by decide) q⟩
      by_cases t30 : t < 30
      · refine K t t (by omega) (Or.inl ⟨t30, rfl⟩) w o (fun q => na ?_) nb
        unfold ix at e
        omega
      · have tn := (c54.2.1 t (by omega) ht).mp w
        have t29 : t = 29 + n := by
          by_cases z : t + 1 < 30 + n
          · rw [c54.2.2.1 t (by omega) z] at o
            exact absurd o (nI_ne_neg (by omega))
          · omega
        refine K 30 t (by omega) (Or.inr ⟨rfl, by omega, t29⟩) w o (fun q => na ?_) (fun q => ?_)
        · unfold ix at e
          omega
        · have := wb 30 q
          omega
    | succ m ih =>
      intro i hi K
      have next : (∀ a, ix n i a → tS S a 0 = 1 → tS S a 6 = -1 → i ≠ tc → ob ≠ some i → (tx.toInt < (tS S a 1).toInt ∨ (tS S a 3).toInt < x.toInt ∨ tz.toInt < (tS S a 2).toInt ∨ (tS S a 4).toInt < z.toInt)) → Ex G d mX11_isClearOfOthers 2 [(0, .ref b), (1, .ref P), (2, .int (nI i + 1))] [] h Q := fun c => by
        rw [nI_S]
        refine ih (i + 1) (by omega) (fun c' a hc' => ?_)
        by_cases q : c' = i
        · rw [q]; exact c a
        · exact K c' a (by omega)
      refine t_X11_isClearOfOthers_2 (by omega) ⟨fun q => absurd q (n31_not (by omega)), fun _ => ⟨kP, ?_⟩⟩
      rw [p5, p6]
      refine ⟨fun q => next (fun a _ _ _ ne => absurd ((nI_eq_iff (by omega) (by omega)).mp q) ne), fun n1 => ⟨fun q => next (fun a _ _ _ _ ne => ?_), fun n2 => ⟨v1, s, v2, v5.1, s_isOutermost v5 (fun q => absurd ⟨by rw [ti_nI (by omega)]; omega, by rw [ti_nI (by omega)]; omega⟩ q) (fun t et ht => ?_)⟩⟩⟩
      · cases ob with
        | none => exact absurd q (nI_ne_neg (by omega))
        | some c =>
          have := wb c rfl
          exact absurd (by rw [(nI_eq_iff (a := i) (b := c) (by omega) (by omega)).mp q]) ne
      obtain rfl : i = t := (nI_eq_iff (by omega) (by omega)).mp et
      -- is it there, outermost
      have out : ∀ a, ix n i a → (outB (tg h s) i = true ↔ tS S a 0 = 1 ∧ tS S a 6 = -1) := fun a ea => by
        have t0 : tg h s i 0 = tS S a 0 := by
          rcases ea with ⟨z1, rfl⟩ | ⟨rfl, z1, rfl⟩
          · exact (C.2.2.2.1 a z1).1
          · rw [(c54.2.1 (29 + n) (by omega) (by omega)).mpr (by omega)]
            rcases C.2.2.2.2.1 with y | y
            · omega
            · exact y.2.1
        have b01 := W.2.2.1 a (ix_lt ea c54.1).2
        constructor
        · intro q
          unfold outB at q
          rw [t0] at q
          obtain ⟨q1, q2⟩ := Bool.and_eq_true_iff.mp q
          have w : tS S a 0 = 1 := by
            rcases b01 with y | y
            · rw [y] at q1; exact absurd q1 (by decide)
            · exact y
          rw [(C.at_ ea w).2.1 6 (by omega) (by omega), beq_iff_eq] at q2
          exact ⟨w, q2⟩
        · rintro ⟨w, o⟩
          unfold outB
          rw [t0, w, (C.at_ ea w).2.1 6 (by omega) (by omega), o]
          rfl
      by_cases ob' : outB (tg h s) i = true
      · rw [if_pos ob']
        have ex : ∃ a, ix n i a := by
          by_cases i30 : i < 30
          · exact ⟨i, Or.inl ⟨i30, rfl⟩⟩
          · obtain rfl : i = 30 := by omega
            rcases C.2.2.2.2.1 with y | y
            · unfold outB at ob'
              rw [y.2] at ob'
              exact absurd ob' (by simp)
            · exact ⟨29 + n, Or.inr ⟨rfl, y.1, rfl⟩⟩
        obtain ⟨a, ea⟩ := ex
        obtain ⟨w, o⟩ := (out a ea).mp ob'
        obtain ⟨r0, rk, -⟩ := C.at_ ea w
        have k9 := (v5.2.2.2.2.2.2.1 i (by omega)).2
        have ua : ∀ a', ix n i a' → a' = a := fun a' q => by
          unfold ix at q ea
          omega
        have na : i ≠ tc := fun q => n1 (by rw [q])
        have nb : ob ≠ some i := fun q => n2 (by rw [q]; rfl)
        have g := W.geoL (ix_lt ea c54.1).2 w
        have g1 := g 1 (by omega) (by omega)
        have g2 := g 2 (by omega) (by omega)
        have g3 := g 3 (by omega) (by omega)
        have g4 := g 4 (by omega) (by omega)
        have r1 : hI h (s + 5 + i) 1 = tS S a 1 := rk 1 (by omega) (by omega)
        have r2 : hI h (s + 5 + i) 2 = tS S a 2 := rk 2 (by omega) (by omega)
        have r3 : hI h (s + 5 + i) 3 = tS S a 3 := rk 3 (by omega) (by omega)
        have r4 : hI h (s + 5 + i) 4 = tS S a 4 := rk 4 (by omega) (by omega)
        unfold inL at g1 g2 g3 g4 hx hz htx htz
        have o1 : (1 : Int32).toInt = 1 := rfl
        have ac : ∀ {fr to ofr oto : Int32} {Q' : Option Value → HP → Prop}, (0 ≤ fr.toInt ∧ fr.toInt ≤ 40) → (0 ≤ to.toInt ∧ to.toInt ≤ 40) → (0 ≤ ofr.toInt ∧ ofr.toInt ≤ 40) → (0 ≤ oto.toInt ∧ oto.toInt ≤ 40) → (¬ (to.toInt < ofr.toInt ∨ oto.toInt < fr.toInt) → Q' (some (.int 0)) h) → ((to.toInt < ofr.toInt ∨ oto.toInt < fr.toInt) → Q' (some (.int 1)) h) → Cal G (d - 1 - 1) mX3_areClear [.int fr, .int to, .int ofr, .int oto] h Q' := by
          intro fr to ofr oto Q' b1 b2 b3 b4 q0 q1
          have s1 : (to + 1).toInt = to.toInt + 1 := ti_add (by omega) (by omega)
          have s2 : (oto + 1).toInt = oto.toInt + 1 := ti_add (by omega) (by omega)
          refine e_X3_areClear ⟨fun c => q1 (Or.inl ?_), fun c => ⟨fun c2 => q0 ?_, fun c2 => q1 (Or.inr ?_)⟩⟩
          · rw [ti_le, s1] at c; omega
          · rw [ti_le, s1] at c
            rw [ti_lt, s2] at c2
            omega
          · rw [ti_lt, s2] at c2
            omega
        refine ⟨_, rfl, fun q => absurd q (by decide), fun _ => ⟨s, v2, v5.1, s + 3, v5.2.1.2.2.1, v5.2.2.2.2.1.1, thV V ht (e_X3_isClearOf (by omega) ⟨kP, k9, ?_⟩)⟩⟩
        rw [p1, p3, r1, r3]
        refine ac hx htx g1 g3 (fun c => ⟨_, rfl, fun q => absurd rfl q, fun _ => ?_⟩) (fun c => ⟨_, rfl, fun _ => ⟨_, rfl, fun _ => next (fun a' ea' _ _ _ _ => ?_), fun q => absurd q (by decide)⟩, fun q => absurd q (by decide)⟩)
        · rw [p2, p4, r2, r4]
          refine ac hz htz g2 g4 (fun c2 => ⟨_, rfl, fun _ => ⟨_, rfl, fun q => absurd rfl q, fun _ => h0 (fun K2 => ?_)⟩, fun q => absurd rfl q⟩) (fun c2 => ⟨_, rfl, fun q => absurd q (by decide), fun _ => ⟨_, rfl, fun _ => next (fun a' ea' _ _ _ _ => ?_), fun q => absurd q (by decide)⟩⟩)
          · have := K2 a (ix_lt ea c54.1).2 w o (fun q => na ?_) (fun q => ?_)
            · omega
            · unfold ix at ea e
              omega
            · by_cases i30 : i < 30
              · have : a = i := by
                  unfold ix at ea
                  omega
                rw [this] at q
                exact nb q
              · have := wb a q
                unfold ix at ea
                omega
          · rw [ua a' ea']
            omega
        · rw [ua a' ea']
          omega
      · rw [if_neg ob']
        exact ⟨_, rfl, fun _ => next (fun a ea w o _ _ => absurd ((out a ea).mpr ⟨w, o⟩) ob'), fun q => absurd rfl q⟩
  exact loop 31 0 rfl (fun c a hc => by omega)
theorem s_lines (V : VwC G h b s S n) (kP : Kd G h P 3) {f x0 z0 x1 z1 : Nat} {tc : Nat} {ob : Option Nat} (L : PlI h P f (nI x0) (nI z0) (nI x1) (nI z1) tc ob) (hx0 : x0 < x1) (hz0 : z0 < z1) (hc : (x1 : Int) ≤ (S 0).toInt) (hr : (z1 : Int) ≤ (S 1).toInt) (h0 : ¬ rivP S x0 z0 x1 z1 → Q (some (.int 0)) h) (h1 : rivP S x0 z0 x1 z1 → Q (some (.int 1)) h) : Cal G d mX7_linesInRivers [.ref (b + 15), .ref P] h Q := by
  obtain ⟨v1, v2, v3, T, v5, C, W, SO⟩ := V
  obtain ⟨⟨p1, p2, p3, p4⟩, -⟩ := L
  have dd := W.1
  unfold rng at dd
  have e : ∀ i j : Nat, nI j * 41 + nI i = nI (41 * j + i) := fun i j => by
    show nI j * nI 41 + nI i = _
    rw [nM, nA, Nat.mul_comm]
  obtain ⟨k19, n19⟩ := T.2.2 (b + 19) (by omega) (by omega)
  obtain ⟨k20, n20⟩ := T.2.2 (b + 20) (by omega) (by omega)
  have vl : ∀ i j : Nat, i ≤ 40 → j ≤ 40 → vp_in (nI j * 41 + nI i) (hN h (b + 19)) := fun i j hi hj => by rw [e, n19]; exact vin_nI (by omega) (by omega)
  have vu : ∀ i j : Nat, i ≤ 40 → j ≤ 40 → vp_in (nI j * 41 + nI i) (hN h (b + 20)) := fun i j hi hj => by rw [e, n20]; exact vin_nI (by omega) (by omega)
  have lv : ∀ j : Nat, (j : Int) ≤ (S 1).toInt → ((hI h (b + 19) (nI j * 41 + nI x1).toNatClampNeg = hI h (b + 19) (nI j * 41 + nI x0).toNatClampNeg) ↔ ∀ i, x0 ≤ i → i < x1 → ¬ lvl S i j = 1) := fun j hj => by
    rw [e, e, cl_nI (by omega), cl_nI (by omega), ti_eq, (SO x1 j (by omega) hj).2.2.2.1, (SO x0 j (by omega) hj).2.2.2.1]
    exact sum1_diff (fun i => lvl01 S j i) (by omega)
  have ur : ∀ i : Nat, (i : Int) ≤ (S 0).toInt → ((hI h (b + 20) (nI i * 41 + nI z1).toNatClampNeg = hI h (b + 20) (nI i * 41 + nI z0).toNatClampNeg) ↔ ∀ j, z0 ≤ j → j < z1 → ¬ upr S i j = 1) := fun i hi => by
    rw [e, e, cl_nI (by omega), cl_nI (by omega), ti_eq, (SO i z1 hi (by omega)).2.2.2.2, (SO i z0 hi (by omega)).2.2.2.2]
    exact sum1_diff (fun j => upr01 S i j) (by omega)
  refine e_X7_linesInRivers ⟨T.1, b + 19, T.2.1.2.2.2.1, kP, k19, ?_⟩
  rw [p1, p2, p3, p4]
  have yes : ∀ {A : Prop} {p q : Nat}, ¬ (∀ i, p ≤ i → i < q → ¬ A) → True := fun _ => trivial
  refine ⟨vl _ _ (by omega) (by omega), vl _ _ (by omega) (by omega), fun c => h1 ?_, fun c1 => ⟨vl _ _ (by omega) (by omega), vl _ _ (by omega) (by omega), fun c => h1 ?_, fun c2 => ⟨b + 20, T.2.1.2.2.2.2, k20, vu _ _ (by omega) (by omega), vu _ _ (by omega) (by omega), fun c => h1 ?_, fun c3 => ⟨vu _ _ (by omega) (by omega), vu _ _ (by omega) (by omega), fun c4 => h0 ?_, fun c => h1 ?_⟩⟩⟩⟩
  · rw [lv z0 (by omega)] at c
    refine Classical.byContradiction (fun nn => c (fun i i1 i2 i3 => nn (Or.inl ⟨i, i1, i2, Or.inl i3⟩)))
  · rw [lv z1 (by omega)] at c
    refine Classical.byContradiction (fun nn => c (fun i i1 i2 i3 => nn (Or.inl ⟨i, i1, i2, Or.inr i3⟩)))
  · rw [ur x0 (by omega)] at c
    refine Classical.byContradiction (fun nn => c (fun i i1 i2 i3 => nn (Or.inr ⟨i, i1, i2, Or.inl i3⟩)))
  · rw [lv z0 (by omega)] at c1
    rw [lv z1 (by omega)] at c2
    rw [ur x0 (by omega)] at c3
    rw [ur x1 (by omega)] at c4
    rintro (⟨i, i1, i2, q | q⟩ | ⟨j, j1, j2, q | q⟩)
    · exact c1 i i1 i2 q
    · exact c2 i i1 i2 q
    · exact c3 j j1 j2 q
    · exact c4 j j1 j2 q
  · rw [ur x1 (by omega)] at c
    refine Classical.byContradiction (fun nn => c (fun i i1 i2 i3 => nn (Or.inr ⟨i, i1, i2, Or.inr i3⟩)))
end DC
