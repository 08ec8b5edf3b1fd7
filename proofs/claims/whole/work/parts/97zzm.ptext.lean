/-! ===== a text, both ===== -/
theorem p_textS {G : GG} {u0 : Nat} {h : HP} {b y s p nl nw w N : Nat} {La Wi Im : Nat → Nat} (I : InvB G u0 h b y s p) (T : TextX G h b y nl nw La Wi) (X : ImgX G h b y Im) (D : DisX h y nl nw La Wi Im) (Bu : BudX u0 h y nl nw) (hw : (w = 0 ∧ N = nl) ∨ (w = 1 ∧ N = nw)) (hN6 : N < 6) (Q : Option Value → HP → Prop) (hQ : Q = fun r h1 => ∃ v, r = some (.int v) ∧ Cal G 59 mX12_text [.ref y, .int (nI w)] h1 (fun r2 h2 => r2 = some (.int v) ∧ ∃ s p, InvB G u0 h2 b y s p)) :
    Cal G 58 mX5_read [.ref (b + 7), .ref (b + 1), .int (nI w)] h (fun r8 h9 => ∃ v12, r8 = some (va_rf v12) ∧ ∃ q13, hR h9 b 0 = some q13 ∧ Kd G h9 q13 8 ∧ ((v12 = none → Q (some (.int ((-2) - (hI (sI h9 q13 0 0) q13 1)))) (sI h9 q13 0 0)) ∧ (∀ q17, v12 = some q17 → ∃ q18, hR (sI h9 q13 0 0) b (3 + w) = some q18 ∧ Kd G (sI h9 q13 0 0) q18 18 ∧ vp_in (hI (sI h9 q13 0 0) b (14 + w)) (hN (sI h9 q13 0 0) q18) ∧ Kd G (sI h9 q13 0 0) q17 4 ∧ ∀ h23, h23 = (sI (sR (sI h9 q13 0 0) q18 (hI (sI h9 q13 0 0) b (14 + w)).toNatClampNeg (some q17)) b (14 + w) ((hI (sR (sI h9 q13 0 0) q18 (hI (sI h9 q13 0 0) b (14 + w)).toNatClampNeg (some q17)) b (14 + w)) + 1)) → Q (some (.int (hI (sR (sI h9 q13 0 0) q18 (hI (sI h9 q13 0 0) b (14 + w)).toNatClampNeg (some q17)) b (14 + w)))) h23))) := by
  subst hQ
  have kb := I.kb
  have hg := I.1.1
  have M := I.1.2.2.2.1
  obtain ⟨n, t1, t2, t3, t4⟩ := I.1.2.2.2.2.1
  have sh := I.1.2.2.1
  obtain ⟨-, a1, a2, a3⟩ : _ ∧ hR h b 0 = some (b + 1) ∧ Kd G h (b + 1) 8 ∧ hN h (b + 1) = 11 := sh (0, 0, 1, 8, 11) (by decide)
  obtain ⟨-, c1, c2, c3⟩ : _ ∧ hR h (b + 1) 5 = some (b + 2) ∧ Kd G h (b + 2) 13 ∧ hN h (b + 2) = 400 := sh (1, 5, 2, 13, 400) (by decide)
  obtain ⟨-, e1, e2, e3⟩ : _ ∧ hR h (b + 1) 6 = some (b + 3) ∧ Kd G h (b + 3) 14 ∧ hN h (b + 3) = 401 := sh (1, 6, 3, 14, 401) (by decide)
  obtain ⟨-, f1, f2, f3⟩ : _ ∧ hR h (b + 1) 7 = some (b + 4) ∧ Kd G h (b + 4) 14 ∧ hN h (b + 4) = 401 := sh (1, 7, 4, 14, 401) (by decide)
  obtain ⟨-, g1, g2, g3⟩ : _ ∧ hR h (b + 1) 8 = some (b + 5) ∧ Kd G h (b + 5) 14 ∧ hN h (b + 5) = 401 := sh (1, 8, 5, 14, 401) (by decide)
  obtain ⟨-, -, i2, -⟩ : _ ∧ hR h b 2 = some (b + 7) ∧ Kd G h (b + 7) 5 ∧ hN h (b + 7) = 9 := sh (0, 2, 7, 5, 9) (by decide)
  have j8 : _ ∧ hR h (b + 7) 0 = some (b + 8) ∧ Kd G h (b + 8) 14 ∧ hN h (b + 8) = 424 := sh (7, 0, 8, 14, 424) (by decide)
  have j9 : _ ∧ hR h (b + 7) 1 = some (b + 9) ∧ Kd G h (b + 9) 14 ∧ hN h (b + 9) = 12 := sh (7, 1, 9, 14, 12) (by decide)
  have j10 : _ ∧ hR h (b + 7) 2 = some (b + 10) ∧ Kd G h (b + 10) 14 ∧ hN h (b + 10) = 12 := sh (7, 2, 10, 14, 12) (by decide)
  have j11 : _ ∧ hR h (b + 7) 3 = some (b + 11) ∧ Kd G h (b + 11) 14 ∧ hN h (b + 11) = 12 := sh (7, 3, 11, 14, 12) (by decide)
  have j12 : hR h b (3 + w) = some (b + (12 + w)) ∧ Kd G h (b + (12 + w)) 18 ∧ hN h (b + (12 + w)) = 6 := by
    rcases hw with ⟨rfl, -⟩ | ⟨rfl, -⟩
    · exact (sh (0, 3, 12, 18, 6) (by decide)).2
    · exact (sh (0, 4, 13, 18, 6) (by decide)).2
  have K : TpK G h (b + 1) := ⟨a2, ⟨c1, e1, f1, g1⟩, ⟨c2, c3⟩, fun a h1 h2 => by
    rcases (by omega : a = b + 3 ∨ a = b + 4 ∨ a = b + 5) with rfl | rfl | rfl
    · exact ⟨e2, e3⟩
    · exact ⟨f2, f3⟩
    · exact ⟨g2, g3⟩⟩
  have E : TpB h (b + 1) (fun k => hI h (b + 2) k) n := ⟨t2, t1, fun k hk => rfl, fun k hk => (t4 k hk).2⟩
  generalize hB : (fun k => hI h (b + 2) k) = B at E
  have tB : ∀ h1, (∀ k, hI h1 (y + 1) k = hI h (y + 1) k) → hI h1 y 1 = hI h y 1 → RtB h1 y B n := fun h1 q1 q2 => ⟨q2.trans t3, t1, fun k hk => by rw [q1, ← hB]; exact (t4 k hk).1.symm, E.2.2.2⟩
  have T' := T
  obtain ⟨x1, x2, x3, x4, x5, x6, x7, x8⟩ := T'
  have B3 := Bu.2.2
  have w2 : w < 2 := by omega
  have cb : hI h b (14 + w) = nI N := by
    rcases hw with ⟨w0, eN⟩ | ⟨w0, eN⟩
    · rw [w0, eN]
      exact x3
    · rw [w0, eN]
      exact x4
  have cy : hI h (y + 2) w = nI N := by
    rcases hw with ⟨w0, eN⟩ | ⟨w0, eN⟩
    · rw [w0, eN]
      exact x5
    · rw [w0, eN]
      exact x6
  have ho : ((12 + w) = 12 ∧ N = nl ∧ 6 * w + N = nl ∧ nl < 6) ∨ ((12 + w) = 13 ∧ N = nw ∧ 6 * w + N = 6 + nw) := by omega
  have wi : (nI w : Int32) = if decide (6 ≤ 6 * w + N) = true then 1 else 0 := by
    rcases hw with ⟨rfl, -⟩ | ⟨rfl, -⟩
    · rw [decide_eq_false (by omega)]
      rfl
    · rw [decide_eq_true (by omega)]
      rfl
  have tw : ∀ a k, TwF y w (6 * w + N) a k → TqF b y (6 * w + N) a k := fun a k z => by
    unfold TqF
    rcases z with (z | z | z | z | z | z | z) | z | z <;> omega
  have cc : ∀ a k, CrF b a k → TqF b y (6 * w + N) a k := fun a k z => by
    unfold TqF
    unfold CrF CcF at z
    omega
  have fk : ∀ h9, FrK (CrF b) (R74 b) h h9 → FrK (TqF b y (6 * w + N)) (TtR b (12 + w) N) h (sI h9 (b + 1) 0 0) := fun h9 F9 => ⟨F9.1.tr (kp_sI _ _ _ _), fun a k ha nz => by
    rw [hI_ne _ _ (Or.inl (fun q => nz (by unfold TqF; omega)))]
    exact F9.2.1 a k ha (fun z => nz (cc a k z)), fun a k ha nz => by
    rw [hR_sI]
    exact F9.2.2 a k ha (fun z => nz (Or.inl z))⟩
  have bu : ∀ h2, imd h2 y = imd h y → hZ h2 = hZ h → hU h2 = hU h → BudX u0 h2 y nl nw := fun h2 em z1 z2 => by
    unfold BudX
    rw [em, z1, z2]
    exact Bu
  refine c_read (k := n + 1) (B := B) (n := n) (wish := decide (6 ≤ 6 * w + N)) (by omega) (by omega) wi K E i2 j8.2 ⟨j9.2, j10.2, j11.2⟩ (fun e he h9 F9 z9 u9 f9 => ⟨none, rfl, b + 1, ?_, a2.up F9.1, fun _ => ?_, fun q17 q => by cases q⟩) (fun st hs h9 F9 z9 u9 f9 S9 v9 => ⟨some (hZ h), rfl, b + 1, ?_, a2.up F9.1, fun q => (by cases q), fun q17 q => ?_⟩)
  · exact (F9.2.2 _ _ (by omega) (by unfold R74; omega)).trans a1
  · -- a fault
    have F1 := fk h9 F9
    rw [hI_ne _ _ (Or.inr (by omega)), f9]
    generalize g1 : sI h9 (b + 1) 0 0 = h1 at *
    have z1 : hI h1 (b + 1) 0 = 0 := by rw [← g1, hI_eq]
    have ez : hZ h1 = hZ h := by rw [← g1]; exact z9
    have eu : hU h1 = hU h := by rw [← g1]; exact u9
    obtain ⟨⟨-, -, M1⟩, -⟩ := I.txf T X B3 F1 ho
    refine ⟨_, rfl, r_textW (k := n + 1) (by omega) (by omega) w2 M1 (tB h1 (fun k => F1.2.1 _ _ (by omega) (by unfold TqF; omega)) ?_) ?_ hN6 (fun e' he' h2 F2 q1 q2 => ?_) (fun st hs => ?_)⟩
    · rw [← g1, hI_ne _ _ (Or.inl (by omega))]
      exact F9.2.1 _ _ (by omega) (by unfold CrF CcF; omega)
    · rw [← g1, hI_ne _ _ (Or.inl (by omega))]
      exact (F9.2.1 _ _ (by omega) (by unfold CrF CcF; omega)).trans cy
    · rw [he] at he'
      obtain rfl := Sum.inl.inj he'
      have F : FrK (TqF b y (6 * w + N)) (TtR b (12 + w) N) h h2 := F1.tr (F2.k tw)
      obtain ⟨⟨k1, k2, k3⟩, ⟨k4, k5⟩, k6, k7, k8, k9⟩ := I.txf T X B3 F ho
      have ib : ∀ k, hI h2 b k = hI h b k := fun k => by
        rw [F2.i (fun z => by rcases z with (z | z | z | z | z | z | z) | z | z <;> omega), ← g1, hI_ne _ _ (Or.inl (by omega))]
        exact F9.2.1 _ _ (by omega) (by unfold CrF CcF; omega)
      have iy : ∀ k, hI h2 (y + 2) k = hI h (y + 2) k := fun k => by
        by_cases c : k = w
        · rw [c, q2, cy]
        · rw [F2.i (fun z => by rcases z with (z | z | z | z | z | z | z) | z | z <;> omega), ← g1, hI_ne _ _ (Or.inl (by omega))]
          exact F9.2.1 _ _ (by omega) (by unfold CrF CcF; omega)
      refine ⟨rfl, s, p, ⟨hg, k1, k2, k3, ⟨0, by omega, ?_, q1, fun k hk => by omega⟩, nl, nw, La, Wi, Im, ⟨x1, x2, (ib _).trans x3, (ib _).trans x4, (iy _).trans x5, (iy _).trans x6, k4, k5⟩, k6, ?_, bu h2 k7 (F2.2.1.trans ez) (F2.2.2.1.trans eu)⟩, k8, k9⟩
      · rw [F2.i (fun z => by rcases z with (z | z | z | z | z | z | z) | z | z <;> omega)]
        exact z1
      · unfold DisX
        rw [k7]
        exact D
    · rw [he] at hs
      cases hs
  · exact (F9.2.2 _ _ (by omega) (by unfold R74; omega)).trans a1
  · -- a text
    obtain rfl := Option.some.inj q
    have F1 := fk h9 F9
    have k12 := j12.2.1.up F9.1
    have n12 := (j12.2.1.len F9.1).trans j12.2.2
    have cb9 : hI h9 b (14 + w) = nI N := (F9.2.1 _ _ (by omega) (by unfold CrF CcF; omega)).trans cb
    have cb1 : hI (sI h9 (b + 1) 0 0) b (14 + w) = nI N := (hI_ne _ _ (Or.inl (by omega))).trans cb9
    refine ⟨b + (12 + w), ?_, k12.sI, ?_, S9.1.sI, fun h23 g23 => ?_⟩
    · rw [hR_sI]
      exact (F9.2.2 _ _ (by omega) (by unfold R74; omega)).trans j12.1
    · rw [cb1, hN_sI, n12]
      exact vin_nI (by omega) (by omega)
    rw [cb1, cl_nI (by omega), hI_sR, cb1, nI_S] at g23
    rw [cb1, cl_nI (by omega), hI_sR, cb1]
    refine ⟨_, rfl, ?_⟩
    generalize g1 : sI h9 (b + 1) 0 0 = h1 at *
    have KP1 : KP h1 h23 := by
      rw [g23]
      exact (kp_sR _ _ _ _).tr (kp_sI _ _ _ _)
    have i23 : ∀ a k, ¬ (a = b ∧ k = 14 + w) → hI h23 a k = hI h1 a k := fun a k ha => by
      rw [g23, hI_ne _ _ (by omega), hI_sR]
    have r23 : ∀ a k, ¬ (a = b + (12 + w) ∧ k = N) → hR h23 a k = hR h1 a k := fun a k ha => by
      rw [g23, hR_sI, hR_sR, if_neg ha]
    have i1 : ∀ a k, ¬ (a = b + 1 ∧ k = 0) → hI h1 a k = hI h9 a k := fun a k ha => by
      rw [← g1, hI_ne _ _ (by omega)]
    have F3 : FrK (TqF b y (6 * w + N)) (TtR b (12 + w) N) h h23 := F1.tr ⟨KP1, fun a k _ nz => i23 a k (fun z => nz (by unfold TqF; omega)), fun a k _ nz => r23 a k (fun z => nz (Or.inr z))⟩
    have rN : hR h23 (b + (12 + w)) N = some (hZ h) := by
      rw [g23, hR_sI, hR_sR, if_pos ⟨rfl, rfl⟩]
    have bN : hI h23 b (14 + w) = nI (N + 1) := by rw [g23, hI_eq]
    have ez : hZ h23 = hZ h + 6 := by
      rw [g23, ← g1]
      exact z9
    have eu : hU h23 ≤ hU h + 600 := by
      rw [g23, ← g1]
      exact u9
    have z1 : hI h23 (b + 1) 0 = 0 := by
      rw [i23 _ _ (by omega), ← g1, hI_eq]
    obtain ⟨⟨-, -, M3⟩, -⟩ := I.txf T X B3 F3 ho
    have o3 : ∀ a k, ¬ CrF b a k → ¬ (a = b ∧ k = 14 + w) → ¬ (a = b + 1 ∧ k = 0) → a < hZ h → hI h23 a k = hI h a k := fun a k u1 u2 u3 u4 => (i23 a k u2).trans ((i1 a k u3).trans (F9.2.1 a k u4 u1))
    refine r_textW (k := n + 1) (by omega) (by omega) w2 M3 (tB h23 (fun k => o3 _ _ (by unfold CrF CcF; omega) (by omega) (by omega) (by omega)) (o3 _ _ (by unfold CrF CcF; omega) (by omega) (by omega) (by omega))) ((o3 _ _ (by unfold CrF CcF; omega) (by omega) (by omega) (by omega)).trans cy) hN6 (fun e he => ?_) (fun st' hs' h2 F2 q1 q2 SR2 J2 => ?_)
    · rw [hs] at he
      cases he
    rw [hs] at hs'
    obtain rfl := Sum.inr.inj hs'
    have SP := txF_inr (by omega) (ts0_p B n _) hs
    have F : FrK (TqF b y (6 * w + N)) (TtR b (12 + w) N) h h2 := F3.tr (F2.k tw)
    obtain ⟨⟨k1, k2, k3⟩, ⟨k4, k5⟩, k6, k7, k8, k9⟩ := I.txf T X B3 F ho
    have ih2 : ∀ a k, ¬ (y ≤ a ∧ a ≤ y + 10) → hI h2 a k = hI h23 a k := fun a k ha => F2.i (fun z => by rcases z with (z | z | z | z | z | z | z) | z | z <;> omega)
    have KP91 : KP h9 h1 := by
      rw [← g1]
      exact kp_sI _ _ _ _
    have KP92 : KP h9 h2 := (KP91.tr KP1).tr F2.1
    have new : ScrX G h2 y (hZ h) (6 * w + N) := by
      refine ⟨st.2.2.1, SP.2.2.1, fun q hq => ?_, S9.fr KP92 (fun x k h3 h4 => ?_) (fun x k h3 h4 => ?_), SR2, ?_⟩
      · obtain ⟨c1, c2, c3⟩ := SP.2.2.2.2.1 q hq
        exact ⟨c1, fun u => c2 (decide_eq_false (by omega)), fun u => c3 (decide_eq_true (by omega))⟩
      · rw [F2.r, r23 _ _ (by omega), ← g1, hR_sI]
      · rw [ih2 _ _ (by omega), i23 _ _ (by omega), i1 _ _ (by omega)]
      · rw [ih2 _ _ (by omega), i23 _ _ (by omega), i1 _ _ (by omega), v9, J2]
        have sj := SP.2.2.2.2.2
        cases hj : st.2.2.2 with
        | none =>
          rw [if_neg (by intro q; cases q), if_neg (by show ¬ (-1 : Int32) = 1; decide)]
        | some v =>
          have v1 := sj v hj
          by_cases c : v = 1
          · rw [if_pos (by rw [c]), if_pos (by rw [c]; rfl)]
          · rw [if_neg (fun q => c (Option.some.inj q)), if_neg]
            intro q
            have q' : nI v = 1 := q
            exact c ((nI_eq_iff (b := 1) (by omega) (by omega)).mp q')
    have r2N : hR h2 (b + (12 + w)) N = some (hZ h) := (F2.r _ _).trans rN
    have ez2 : hZ h2 = hZ h + 6 := F2.2.1.trans ez
    have eu2 : hU h2 ≤ hU h + 600 := by rw [F2.2.2.1]; exact eu
    have b2 : hI h2 b (14 + w) = nI (N + 1) := (ih2 _ _ (by omega)).trans bN
    have ob : ∀ k, k ≠ 14 + w → hI h2 b k = hI h b k := fun k hk => (ih2 _ _ (by omega)).trans (o3 _ _ (by unfold CrF CcF; omega) (by omega) (by omega) (by omega))
    have oy : ∀ k, k ≠ w → hI h2 (y + 2) k = hI h (y + 2) k := fun k hk => (F2.i (fun z => by rcases z with (z | z | z | z | z | z | z) | z | z <;> omega)).trans (o3 _ _ (by unfold CrF CcF; omega) (by omega) (by omega) (by omega))
    have tp : TapeX h2 b y := ⟨0, by omega, (ih2 _ _ (by omega)).trans z1, q1, fun k hk => by omega⟩
    have iz : ∀ k, k < 4 → imd h y k = true → Im k + 42 ≤ hZ h := fun k hk m => by
      rcases X k hk with ⟨-, z2⟩ | z
      · unfold imd at m
        rw [z2] at m
        exact absurd m (by decide)
      · exact z.2.2.2.1
    obtain ⟨B1, B2, -⟩ := Bu
    rcases hw with ⟨w0, eN⟩ | ⟨w0, eN⟩
    · subst w0
      obtain ⟨La', hLn, hLo⟩ : ∃ La' : Nat → Nat, La' N = hZ h ∧ ∀ j, j ≠ N → La' j = La j := ⟨fun j => if j = N then hZ h else La j, if_pos rfl, fun j hj => if_neg hj⟩
      refine ⟨rfl, s, p, ⟨hg, k1, k2, k3, tp, nl + 1, nw, La', Wi, Im, ⟨by omega, x2, by rw [← eN]; exact b2, (ob 15 (by omega)).trans x4, by rw [← eN]; exact q2, (oy 1 (by omega)).trans x6, fun i hi => ?_, k5⟩, k6, ?_, ?_⟩, k8, k9⟩
      · by_cases c : i = N
        · subst c
          rw [hLn]
          refine ⟨r2N, B3, by omega, ?_⟩
          have := new
          rw [show 6 * 0 + i = i by omega] at this
          exact this
        · rw [hLo i c]
          exact k4 i (by omega)
      · unfold DisX
        rw [k7]
        intro k hk m
        obtain ⟨d1, d2, d3⟩ := D k hk m
        refine ⟨fun i hi => ?_, d2, d3⟩
        by_cases c : i = N
        · subst c
          rw [hLn]
          exact Or.inr (iz k hk m)
        · rw [hLo i c]
          exact d1 i (by omega)
      · unfold BudX
        rw [k7, ez2]
        exact ⟨by omega, by omega, by omega⟩
    · subst w0
      obtain ⟨Wi', hLn, hLo⟩ : ∃ Wi' : Nat → Nat, Wi' N = hZ h ∧ ∀ j, j ≠ N → Wi' j = Wi j := ⟨fun j => if j = N then hZ h else Wi j, if_pos rfl, fun j hj => if_neg hj⟩
      refine ⟨rfl, s, p, ⟨hg, k1, k2, k3, tp, nl, nw + 1, La, Wi', Im, ⟨x1, by omega, (ob 14 (by omega)).trans x3, by rw [← eN]; exact b2, (oy 0 (by omega)).trans x5, by rw [← eN]; exact q2, k4, fun i hi => ?_⟩, k6, ?_, ?_⟩, k8, k9⟩
      · by_cases c : i = N
        · subst c
          rw [hLn]
          exact ⟨r2N, B3, by omega, new⟩
        · rw [hLo i c]
          exact k5 i (by omega)
      · unfold DisX
        rw [k7]
        intro k hk m
        obtain ⟨d1, d2, d3⟩ := D k hk m
        refine ⟨d1, fun i hi => ?_, d3⟩
        by_cases c : i = N
        · subst c
          rw [hLn]
          exact Or.inr (iz k hk m)
        · rw [hLo i c]
          exact d2 i (by omega)
      · unfold BudX
        rw [k7, ez2]
        exact ⟨by omega, by omega, by omega⟩
theorem p_text (G : GG) (u0 : Nat) (h : HP) (I : Inv G u0 h) (x1 : Int32) : Pr (Inv G u0) G G.1 (G.1 + 119) mX11_text mX12_text [.int x1] h := by
  obtain ⟨s, p, I⟩ := I
  unfold Pr Inv
  generalize G.1 = b at *
  generalize hy : b + 119 = y at *
  have kb := I.kb
  have M := I.1.2.2.2.1
  have sh := I.1.2.2.1
  obtain ⟨-, a1, -, -⟩ : _ ∧ hR h b 0 = some (b + 1) ∧ Kd G h (b + 1) 8 ∧ hN h (b + 1) = 11 := sh (0, 0, 1, 8, 11) (by decide)
  obtain ⟨-, i1, i2, -⟩ : _ ∧ hR h b 2 = some (b + 7) ∧ Kd G h (b + 7) 5 ∧ hN h (b + 7) = 9 := sh (0, 2, 7, 5, 9) (by decide)
  obtain ⟨nl, nw, La, Wi, Im, T, X, D, Bu⟩ := I.1.2.2.2.2.2
  have T' := T
  obtain ⟨t1, t2, t3, t4, t5, t6, -, -⟩ := T'
  obtain ⟨m1, m2, m3⟩ : hR h y 2 = some (y + 2) ∧ Kd G h (y + 2) 14 ∧ hN h (y + 2) = 2 := M.2 (2, 2, 14, 2) (by decide)
  have ok : some (Value.int (-1)) = some (Value.int (-1)) ∧ ∃ s p, InvB G u0 h b y s p := ⟨rfl, s, p, I⟩
  -- full
  have full : ∀ w : Nat, w < 2 → hI h (y + 2) w = 6 → Cal G 59 mX12_text [.ref y, .int (nI w)] h (fun r2 h2 => r2 = some (Value.int (-1)) ∧ ∃ s p, InvB G u0 h2 b y s p) := fun w hw e => by
    refine e_X12_text (by omega) (r_inN (lo := 0) (hi := 1) (by omega) (by simp) (by simp) (fun no => absurd ⟨w, by omega, by omega, rfl⟩ no) (fun _ _ _ _ => ⟨_, rfl, fun z => absurd z (by decide), fun _ => ⟨M.1, y + 2, m1, m2, by rw [m3]; exact vin_nI (by omega) (by omega), ?_⟩⟩))
    rw [cl_nI (by omega), e]
    exact ⟨fun z => absurd rfl z, fun _ => ok⟩
  have six : ∀ N : Nat, N ≤ 6 → (6 : Int32) ≤ nI N → nI N = (6 : Int32) := fun N h1 h2 => by
    have := (nI_le_iff (a := 6) (by omega) (by omega)).mp h2
    rw [show N = 6 by omega]
    rfl
  have lt6 : ∀ N : Nat, N ≤ 6 → ¬ (6 : Int32) ≤ nI N → N < 6 := fun N h1 h2 => by
    have : ¬ 6 ≤ N := fun q => h2 ((nI_le_iff (a := 6) (by omega) (by omega)).mpr q)
    omega
  have n71 : ¬ x1 = 1 → (¬ x1 = 0 ∨ nI nl = (6 : Int32)) → Ex G 59 mX11_text 71 [(0, .ref b), (1, .int x1)] [] h (fun r h1 => ∃ v, r = some (.int v) ∧ Cal G 59 mX12_text [.ref y, .int x1] h1 (fun r2 h2 => r2 = some (.int v) ∧ ∃ s p, InvB G u0 h2 b y s p)) := fun n1 c => by
    refine t_X11_text_71 (by omega) ⟨fun _ => ⟨_, rfl, ?_⟩, fun z => absurd z n1⟩
    by_cases z : x1 = 0
    · subst z
      exact full 0 (by omega) (t5.trans (c.resolve_left (fun q => q rfl)))
    · refine e_X12_text (by omega) (r_inN (lo := 0) (hi := 1) (by omega) (by simp) (by simp) (fun _ => ⟨_, rfl, fun _ => ok, fun z => absurd rfl z⟩) (fun m _ h1 e => ?_))
      exfalso
      rcases (by omega : m = 0 ∨ m = 1) with rfl | rfl
      · exact z e
      · exact n1 e
  refine e_X11_text (by omega) ⟨fun n0 => ?_, fun z0 => ⟨kb, ?_⟩⟩
  · by_cases z1 : x1 = 1
    · subst z1
      refine t_X11_text_71 (by omega) ⟨fun z => absurd rfl z, fun _ => ⟨kb, ?_⟩⟩
      rw [t4]
      refine ⟨fun z => ⟨_, rfl, full 1 (by omega) (t6.trans (six nw t2 z))⟩, fun z => ⟨b + 7, i1, b + 1, a1, i2, ?_⟩⟩
      exact p_textS (w := 1) (N := nw) I T X D Bu (Or.inr ⟨rfl, rfl⟩) (lt6 nw t2 z) _ rfl
    · exact n71 z1 (Or.inl n0)
  · subst z0
    rw [t3]
    refine ⟨fun z => n71 (by decide) (Or.inr (six nl t1 z)), fun z => ⟨b + 7, i1, b + 1, a1, i2, ?_⟩⟩
    exact p_textS (w := 0) (N := nl) I T X D Bu (Or.inl ⟨rfl, rfl⟩) (lt6 nl t1 z) _ rfl
