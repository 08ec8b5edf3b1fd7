/-! ===== the least ===== -/
def leV : Acc → Int32
  | none => -2
  | some r => r.2.2
theorem ln_pos {S : Nat → Int32} {C : List Cla} {jn : Prop} {f a : Nat} {ob : Option Nat} {m i : Nat} (W : WfR S) (h : canB S C jn f a ob m i = true) : 0 ≤ (lnF S a ob m i).toInt := by
  have hl := (canB_iff.mp h).1.1
  have dd := W.1
  unfold rng at dd
  unfold hldP at hl
  unfold lnF lnI
  generalize rcX (tS S) a ob m i = x at *
  generalize rcZ (tS S) a ob m i = z at *
  generalize rcTX (tS S) a ob m i = tx at *
  generalize rcTZ (tS S) a ob m i = tz at *
  have t2 : (2 : Int32).toInt = 2 := rfl
  have e1 : (tx - x).toInt = tx.toInt - x.toInt := ti_sub (by omega) (by omega)
  have e2 : (tx - x + tz).toInt = tx.toInt - x.toInt + tz.toInt := by rw [ti_add (by omega) (by omega), e1]
  have e3 : (tx - x + tz - z).toInt = tx.toInt - x.toInt + tz.toInt - z.toInt := by rw [ti_sub (by omega) (by omega), e2]
  rw [ti_mul (by rw [t2, e3]; omega) (by rw [t2, e3]; omega), e3, t2]
  omega
theorem lg00 : lg_cmp 0 0 = 0 := by decide
section RL
variable {G : GG} {d : Nat} {h : HP} {y : Nat} {Q : Option Value → HP → Prop}
theorem r_leastL {S : Nat → Int32} {l : Nat} {C : List Cla} {jn : Prop} {f a m : Nat} {ob : Option Nat} (hd : 8 ≤ d) (M : MdSh G h y) (eS : said h y = S) (W : WfR S) (hm : 1 ≤ m) (hm5 : m ≤ 5) (hf : f < 12) (ha : a < 54) (wa : tS S a 0 = 1) (wb : thereO S ob) (hl : l < 6) (L : LawR h y l C) (hj : hI h (y + 7) l = 1 ↔ jn) (k16 : ∀ q ∈ C, q.1 ≠ 16) (vb : ∀ j, 1 ≤ j → j ≤ 4 → hI h y (36 + j) = corI (tS S) a ob j)
    (hQ : ∀ h2, FrS (BbI y) (BbL y) h h2 → Q (some (.int (leV (seF (canB S C jn f a ob m) (valO S none f a ob m) (lnF S a ob m) m).2))) h2) : Ex G d mX12_least 49 [(0, .ref y), (1, .int (nI l)), (2, .int (nI f)), (3, .int (nI a)), (4, .int (onI ob)), (5, .int (nI m)), (6, .int (-2)), (7, .int 0)] [] h Q := by
  obtain ⟨e4, l4⟩ := m4 hm5
  have hp : ∀ a k, BbI y a k → a ≠ y + 13 := fun a k q => by unfold BbI at q; omega
  have hp2 : ∀ a k, BbI y a k → ¬ (y + 2 ≤ a ∧ a ≤ y + 7) := fun a k q => by unfold BbI at q; omega
  suffices H : ∀ h', FrS (BbI y) (BbL y) h h' → (∀ j, 1 ≤ j → j ≤ 4 → hI h' y (36 + j) = corI (tS S) a ob j) → Ex G d mX12_least 49 [(0, .ref y), (1, .int (nI l)), (2, .int (nI f)), (3, .int (nI a)), (4, .int (onI ob)), (5, .int (nI m)), (6, .int (leV none)), (7, .int (nI 0))] [] h' Q from H h (frS_rf _ _ _) vb
  refine loop_up (α := Nat × Acc) (f := weC (canB S C jn f a ob m) (valO S none f a ob m) (lnF S a ob m)) (e := m * m * m * m) (J := fun i p => ∀ r, p.2 = some r → 0 ≤ r.2.2.toInt ∧ r.2.1 = 0) (P := fun j p => ∀ h', FrS (BbI y) (BbL y) h h' → (∀ j, 1 ≤ j → j ≤ 4 → hI h' y (36 + j) = corI (tS S) a ob j) → Ex G d mX12_least 49 [(0, .ref y), (1, .int (nI l)), (2, .int (nI f)), (3, .int (nI a)), (4, .int (onI ob)), (5, .int (nI m)), (6, .int (leV p.2)), (7, .int (nI j))] [] h' Q) (fun i p _ h1 r er => ?_) (fun c p hc hJ ih h' F vb => ?_) (m * m * m * m) 0 (0, none) (by omega) (fun r er => by cases er) (fun _ h' F _ => t_X12_least_49 (by omega) ⟨fun _ => hQ h' F, fun c => absurd (by rw [e4]; exact (nI_le_iff (by omega) (by omega)).mpr (Nat.le_refl _)) c⟩)
  · obtain ⟨c, q⟩ := p
    simp only [weC] at er
    cases q with
    | none =>
      simp only [weS] at er
      split at er
      · next ct =>
        obtain rfl := Option.some.inj er
        exact ⟨ln_pos W ct, rfl⟩
      · cases er
    | some r0 =>
      simp only [weS] at er
      split at er
      · next ct =>
        obtain rfl := Option.some.inj er
        rw [Bool.and_eq_true] at ct
        exact ⟨ln_pos W ct.1, rfl⟩
      · exact h1 r er
  have M' := M.fs F
  have nx : nI c + 1 = nI (c + 1) := nI_S c
  refine t_X12_least_49 (by omega) ⟨fun q => ?_, fun _ => ⟨M'.1, r_thinksBy (A := tS S) (t := a) (by omega) M' hm hm5 (by omega) vb (fun h1 F1 T1 => ⟨rfl, ?_⟩)⟩⟩
  · rw [e4] at q
    have := (nI_le_iff (by omega) (by omega)).mp q
    omega
  rw [nx]
  have F1' : FrS (BbI y) (BbL y) h' h1 := (F1.s _).weak (fun a k q => ⟨q.1, by omega⟩) (fun _ _ q => q)
  have F01 := F.tr F1'
  have M1 := M.fs F01
  have eS1 : said h1 y = S := (said_fs F01 hp).trans eS
  have j1 : hI h1 (y + 7) l = hI h (y + 7) l := F01.i (fun q => by unfold BbI at q; omega)
  have kb1 : ∀ j, 1 ≤ j → j ≤ 4 → hI h1 y (36 + j) = corI (tS S) a ob j := fun j h1 h2 => (F1.i (by omega)).trans (vb j h1 h2)
  have ll : lnI (rcX (tS S) a ob m c) (rcZ (tS S) a ob m c) (rcTX (tS S) a ob m c) (rcTZ (tS S) a ob m c) = lnF S a ob m c := rfl
  have c2 : (canB S C jn f a ob m c = true → (weC (canB S C jn f a ob m) (valO S none f a ob m) (lnF S a ob m) c p).2 = some (c, 0, lnF S a ob m c)) → Ex G d mX12_least 90 [(0, .ref y), (1, .int (nI l)), (2, .int (nI f)), (3, .int (nI a)), (4, .int (onI ob)), (5, .int (nI m)), (6, .int (leV p.2)), (7, .int (nI c))] [] h1 Q := by
    intro tk
    refine t_X12_least_90 (by omega) ⟨M1.1, r_canCome (by omega) M1 (by rw [eS1]; exact W) T1 hf ha (by rw [eS1]; exact wa) (by rw [eS1]; exact wb) (L.fs F01 hp2) k16 (fun h2 v F2 b01 ev => ⟨_, rfl, ?_⟩)⟩
    have evB : v = 1 ↔ canB S C jn f a ob m c = true := by
      rw [canB_iff]
      rw [ev, eS1, j1]
      constructor
      · intro ⟨c1, c2, c3⟩
        exact ⟨c1, fun z => hj.mp (c2 z), c3⟩
      · intro ⟨c1, c2, c3⟩
        exact ⟨c1, fun z => hj.mpr (c2 z), c3⟩
    have F2' : FrS (BbI y) (BbL y) h1 h2 := F2.weak (fun a k q => by unfold RkI at q; exact ⟨q.1, Or.inl q.2⟩) (fun a k q => Or.inr q)
    have F02 := F01.tr F2'
    have kb : ∀ j, 1 ≤ j → j ≤ 4 → hI h2 y (36 + j) = corI (tS S) a ob j := fun j h1 h2 => (F2.i (by unfold RkI; omega)).trans (kb1 j h1 h2)
    rw [nx]
    refine ⟨fun z => ?_, fun z => ?_⟩
    · have cf : canB S C jn f a ob m c = false := by
        cases q : canB S C jn f a ob m c with
        | false => rfl
        | true =>
          have := evB.mpr q
          rw [z] at this
          exact absurd this (by decide)
      rw [weC_no cf] at ih
      exact ih h2 F02 kb
    · have ct := evB.mp (b01.resolve_left z)
      have T2 : ThW h2 y (rcX (tS S) a ob m c) (rcZ (tS S) a ob m c) (rcTX (tS S) a ob m c) (rcTZ (tS S) a ob m c) a ob := by
        have e : ∀ k, 31 ≤ k ∧ k ≤ 36 → hI h2 y k = hI h1 y k := fun k hk => F2.i (by unfold RkI; omega)
        unfold ThW
        rw [e _ (by omega), e _ (by omega), e _ (by omega), e _ (by omega), e _ (by omega), e _ (by omega)]
        exact T1
      refine r_lineOf (M.fs F02).1 T2 ⟨_, rfl, ?_⟩
      rw [ll]
      have ih := ih h2 F02 kb
      rw [tk ct] at ih
      exact ih
  obtain ⟨cnt, q⟩ := p
  cases q with
  | none => exact ⟨fun _ => c2 (fun ct => by rw [weC_yes ct]; simp [weS, ct, valO]), fun z => absurd (show (-2 : Int32) < 0 by decide) z⟩
  | some r =>
    obtain ⟨p0, v0⟩ := hJ r rfl
    refine ⟨fun z => ?_, fun _ => r_lineOf M1.1 T1 ⟨_, rfl, fun z => ?_, fun z => c2 (fun ct => ?_)⟩⟩
    · simp only [leV] at z
      rw [ti_lt] at z
      have : (0 : Int32).toInt = 0 := rfl
      omega
    · have kp : weC (canB S C jn f a ob m) (valO S none f a ob m) (lnF S a ob m) c (cnt, some r) = (if canB S C jn f a ob m c then cnt + 1 else cnt, some r) := by
        have lt : ¬ lnF S a ob m c < r.2.2 := fun q => by
          rw [ll] at z
          simp only [leV] at z
          rw [ti_le] at z
          rw [ti_lt] at q
          omega
        simp [weC, weS, valO, v0, lg00, lt]
      rw [kp] at ih
      exact ih h1 F01 kb1
    · have lt : lnF S a ob m c < r.2.2 := by
        rw [ll] at z
        simp only [leV] at z
        rw [ti_le] at z
        rw [ti_lt]
        omega
      simp [weC, weS, valO, v0, lg00, lt, ct]
end RL
theorem p_least (G : GG) (u0 : Nat) (h : HP) (I : Inv G u0 h) (x1 x2 x3 x4 x5 : Int32) : Pr (Inv G u0) G G.1 (G.1 + 119) mX11_least mX12_least [.int x1, .int x2, .int x3, .int x4, .int x5] h := by
  obtain ⟨s, p, I⟩ := I
  unfold Pr Inv
  generalize G.1 = b at *
  generalize hy : b + 119 = y at *
  have B := I.bd
  have M := B.2.1
  have ns := I.2.1.1
  obtain ⟨nl, nw', La, Wi, Im, T, X, D0, Bu⟩ := I.1.2.2.2.2.2
  have nl6 := T.1
  have z0 : (0 : Int32).toInt = 0 := rfl
  have ok : some (Value.int (-1)) = some (Value.int (-1)) ∧ ∃ s p, InvB G u0 h b y s p := ⟨rfl, s, p, I⟩
  have R : ∀ {h1 : HP} {Q : Option Value → HP → Prop} (I1 : InvB G u0 h1 b y s p) (T0 : hI h1 (y + 2) 0 = nI nl), ((¬ ((0 ≤ x1.toInt ∧ x1.toInt < nl) ∧ askd (said h1 y) x2 x3 x4 ∧ (1 ≤ x5.toInt ∧ x5.toInt ≤ 5))) → Q (some (.int (-1))) h1) → (((0 ≤ x1.toInt ∧ x1.toInt < nl) ∧ askd (said h1 y) x2 x3 x4 ∧ (1 ≤ x5.toInt ∧ x5.toInt ≤ 5)) → Cal G 58 mX12_bases [.ref y, .int x3, .int x4] h1 (fun r17 h18 => r17 = none ∧ Ex G 59 mX12_least 49 [(0, .ref y), (1, .int x1), (2, .int x2), (3, .int x3), (4, .int x4), (5, .int x5), (6, .int (-2)), (7, .int 0)] [] h18 Q)) → Cal G 59 mX12_least [.ref y, .int x1, .int x2, .int x3, .int x4, .int x5] h1 Q := by
    intro h1 Q I1 T0 q0 q1
    refine e_X12_least (by omega) ⟨I1.md.1, r_isText (k := 0) I1.md (by omega) T0 nl6 (fun c => ⟨_, rfl, fun _ => q0 (fun z => c z.1), fun q => absurd rfl q⟩) (fun l hl el => ⟨_, rfl, fun q => absurd q (by decide), fun _ => r_areAsked (by omega) I1.md I1.wf (fun c => ⟨_, rfl, fun _ => q0 (fun z => c z.2.1), fun q => absurd rfl q⟩) (fun ak => ⟨_, rfl, fun q => absurd q (by decide), fun _ => r_inN (lo := 1) (hi := 5) (by omega) rfl rfl (fun c => ⟨_, rfl, fun q => absurd rfl q, fun _ => q0 (fun z => c ?_)⟩) (fun m m1 m2 em => ⟨_, rfl, fun _ => q1 ⟨?_, ak, ?_⟩, fun q => absurd q (by decide)⟩)⟩)⟩)⟩
    · obtain ⟨m, hm, e⟩ := of_in (n := 6) (x := x5) (by omega) (by omega)
      have := z.2.2.1
      rw [e, ti_nI (by omega)] at this
      exact ⟨m, by omega, by omega, e⟩
    · rw [el, ti_nI (by omega)]; omega
    · rw [em, ti_nI (by omega)]; omega
  have no : (¬ ((0 ≤ x1.toInt ∧ x1.toInt < nl) ∧ askd (said h y) x2 x3 x4 ∧ (1 ≤ x5.toInt ∧ x5.toInt ≤ 5))) → ∃ v, some (Value.int (-1)) = some (.int v) ∧ Cal G 59 mX12_least [.ref y, .int x1, .int x2, .int x3, .int x4, .int x5] h (fun r2 h2 => r2 = some (.int v) ∧ ∃ s p, InvB G u0 h2 b y s p) := fun c => ⟨_, rfl, R I T.2.2.2.2.1 (fun _ => ok) (fun q => absurd q c)⟩
  refine e_X11_least (by omega) ⟨I.kb, s_lawAt I T (fun c => ⟨_, rfl, fun _ => no (fun z => c z.1), fun _ q => by cases q⟩) (fun l hl el => ⟨_, rfl, fun q => (by cases q), fun q11 eq11 => ?_⟩)⟩
  obtain rfl : La l = q11 := Option.some.inj eq11
  have t1 : (1 : Int32).toInt = 1 := rfl
  have t5 : (5 : Int32).toInt = 5 := rfl
  refine s_areThere (by omega) B I.kb I.now (fun c => ⟨_, rfl, fun _ => no (fun z => c z.2.1), fun q => absurd rfl q⟩) (fun f t ob hf ef ht et wt eo wo => ⟨_, rfl, fun q => absurd q (by decide), fun _ => ⟨fun c => no (fun z => ?_), fun c1 => ⟨fun c4 => ?_, fun c => no (fun z => ?_)⟩⟩⟩)
  · rw [ti_lt] at c; omega
  rotate_left
  · rw [ti_le] at c; omega
  rw [ti_lt] at c1
  rw [ti_le] at c4
  obtain ⟨m, hm, em⟩ := of_in (n := 6) (x := x5) (by omega) (by omega)
  have m1 : 1 ≤ m := by rw [em, ti_nI (by omega)] at c1; omega
  have good : (0 ≤ x1.toInt ∧ x1.toInt < nl) ∧ askd (said h y) x2 x3 x4 ∧ (1 ≤ x5.toInt ∧ x5.toInt ≤ 5) := ⟨by rw [el, ti_nI (by omega)]; omega, ⟨f, t, ob, hf, ef, ht, et, wt, eo, wo⟩, by omega, by omega⟩
  clear no
  subst el em ef et eo
  have wo' : thereO (said h y) ob := fun c q => ⟨by have := (wo c q).1; omega, (wo c q).2⟩
  obtain ⟨C, LX, k16⟩ := I.law T hl
  have lx6 := LX.2.2.2.2.2
  have V := I.vw ht wt
  refine ⟨b + 29, I.plan.1, s_aim (by omega) I.plan.2 I.kb I.now I.st (by omega) (by omega) (fun u q => by have := (wo u q).1; omega) (fun h1 F1 v1 w1 => ⟨rfl, b + 29, (F1.r _ _).trans I.plan.1, b + 33, (F1.r _ _).trans I.cho.1, ?_⟩)⟩
  have I1 : InvB G u0 h1 b y s p := I.scr ((F1.j _).weak (fun a k q => by unfold Scr; omega) (fun _ _ q => q))
  have eS1 : said h1 y = said h y := funext fun j => F1.i (by omega)
  have LX1 := LX.fs (F1.s nop) (fun a k q => by omega)
  have V1 := I1.vw ht (by rw [eS1]; exact wt)
  rw [eS1] at V1
  have X1 : SeX G h1 b s (said h y) 0 (b + 29) (b + 33) (La l) C (hI h1 (y + 7) l = 1) none none f t t ob := ⟨V1, I1.plw, I1.cho.2, ⟨v1.1, v1.2.1, v1.2.2.1, by rw [v1.2.2.2, sup0 I.wf]; rfl⟩, fun j h1 h4 => (w1 j h1 h4).trans (corI_v V.2.2.2.2.2.1 (Or.inl ⟨ht, rfl⟩) wt wo h1 h4), LX1.2.2.1, LX1.2.2.2.2.1, trivial⟩
  refine s_search (by omega) X1 (by omega) (by omega) (by omega) m1 (by omega) LX1.1 LX1.2.1 hf (Or.inl ⟨ht, rfl⟩) wt wo (fun _ => ht) (fun h2 F2 H2 => ⟨rfl, ?_⟩)
  have hpS : ∀ a k, SeI (b + 29) (b + 33) a k → ¬ (y + 2 ≤ a ∧ a ≤ y + 7) ∧ ¬ (y + 21 ≤ a) := fun a k q => by unfold SeI at q; omega
  have I2 : InvB G u0 h2 b y s p := I1.scr ((F2.j _).weak (fun a k q => by unfold SeI at q; unfold Scr; omega) (fun _ _ q => q))
  have eS2 : said h2 y = said h y := (funext fun j => F2.i (by unfold SeI; omega)).trans eS1
  have LX2 := LX1.fs F2 hpS
  have j2 : hI h2 (y + 7) l = hI h1 (y + 7) l := F2.i (by unfold SeI; omega)
  have T20 : hI h2 (y + 2) 0 = nI nl := (F2.i (by unfold SeI; omega)).trans ((F1.i (by omega)).trans T.2.2.2.2.1)
  have cnt := seF_cnt (canB (said h y) C (hI h1 (y + 7) l = 1) f t ob m) (valO (said h y) none f t ob m) (lnF (said h y) t ob m) m (by omega)
  have W : WfR (said h y) := V.2.2.2.2.2.2.1
  have fin : ∀ v, v = leV (seF (canB (said h y) C (hI h1 (y + 7) l = 1) f t ob m) (valO (said h y) none f t ob m) (lnF (said h y) t ob m) m).2 → Cal G 59 mX12_least [.ref y, .int (nI l), .int (nI f), .int (nI t), .int (onI ob), .int (nI m)] h2 (fun r2 h3 => r2 = some (.int v) ∧ ∃ s p, InvB G u0 h3 b y s p) := by
    intro v ev
    refine R I2 T20 (fun c => absurd (by rw [eS2]; exact good) c) (fun _ => r_bases (by omega) I2.md (by omega) (fun u q => (wo' u q).1) (fun h3 F3 v3 => ⟨rfl, ?_⟩))
    rw [eS2] at v3
    have I3 : InvB G u0 h3 b y s p := I2.scr ((F3.j _).weak (fun a k q => by unfold Scr; omega) (fun _ _ q => q))
    have eS3 : said h3 y = said h y := (funext fun j => F3.i (by omega)).trans eS2
    have LX3 := LX2.fs (F3.s nop) (fun a k q => by omega)
    refine r_leastL (by omega) I3.md eS3 W m1 (by omega) hf (by omega) wt wo' (by omega) LX3.2.2.2.1 (by rw [F3.i (by omega), j2]) (fun q hq => k16 q (mem_f hq).1) v3 (fun h4 F4 => ?_)
    rw [canB_f]
    exact ⟨by rw [ev], s, p, I3.scr ((F4.j _).weak (fun a k q => by unfold BbI at q; unfold Scr; omega) (fun _ _ q => q))⟩
  generalize hq : seF (canB (said h y) C (hI h1 (y + 7) l = 1) f t ob m) (valO (said h y) none f t ob m) (lnF (said h y) t ob m) m = q at *
  obtain ⟨h0, h1', h2'⟩ := H2
  have e0 : hI h2 (b + 33) 0 = 0 ↔ q.1 = 0 := by
    rw [h0]
    exact nI_eq_iff (b := 0) (by omega) (by omega)
  refine ⟨b + 33, I2.cho.1, I2.cho.2, fun z => ⟨_, rfl, fin _ ?_⟩, fun z => ⟨_, rfl, fin _ ?_⟩⟩
  · cases e : q.2 with
    | none => exact absurd (e0.mpr (h1'.mp e)) z
    | some r => exact (h2' r e).2.1
  · rw [h1'.mpr (e0.mp z)]
    rfl
