/-! ===== the best: the reference ===== -/
theorem nI_P {k : Nat} (h0 : 1 ≤ k) (h : k < 2147483648) : nI k + (-1) = nI (k - 1) := by
  have m1 : (-1 : Int32).toInt = -1 := rfl
  rw [ti_eq, ti_add (by rw [m1, ti_nI h]; omega) (by rw [m1, ti_nI h]; omega), m1, ti_nI h, ti_nI (by omega)]
  omega
section RB
variable {G : GG} {d : Nat} {h : HP} {y : Nat} {Q : Option Value → HP → Prop}
theorem r_margin {m i j : Nat} (hm : 1 ≤ m) (hm5 : m ≤ 5) (hi : i < 1000) (hj : j < 4) (hQ : Q (some (.int (nI (mgN m i j)))) h) : Cal G d mX12_margin [.ref y, .int (nI i), .int (nI m), .int (nI j)] h Q := by
  have n0 : ¬ nI m = 0 := fun q => by
    have := (nI_eq_iff (a := m) (b := 0) (by omega) (by omega)).mp q
    omega
  have st : ∀ (k r : Nat), r < 1000 → j ≤ k → k < 4 → (k = j → Q (some (.int (nI (r % m + 1)))) h) → (j < k → Ex G d mX12_margin 6 [(0, .ref y), (1, .int (nI i)), (2, .int (nI m)), (3, .int (nI j)), (4, .int (nI (r / m))), (5, .int (nI (k - 1)))] [] h Q) → Ex G d mX12_margin 6 [(0, .ref y), (1, .int (nI i)), (2, .int (nI m)), (3, .int (nI j)), (4, .int (nI r)), (5, .int (nI k))] [] h Q := by
    intro k r hr hk h4 q1 q2
    refine t_X12_margin_6 ⟨fun c => ⟨n0, ?_⟩, fun c => ⟨n0, ?_⟩⟩
    · have := (nI_le_iff (by omega) (by omega)).mp c
      rw [nR (by omega) (by omega), nI_S]
      exact q1 (by omega)
    · rw [nI_le_iff (by omega) (by omega)] at c
      rw [nD (by omega) (by omega)]
      have := q2 (by omega)
      rwa [nI_P (by omega) (by omega)]
  have dl : ∀ r : Nat, r / m ≤ r := fun r => Nat.div_le_self r m
  have d1 := dl i
  have d2 := dl (i / m)
  have d3 := dl (i / m / m)
  refine e_X12_margin (st 3 i hi (by omega) (by omega) (fun e => ?_) (fun l => st 2 (i / m) (by omega) (by omega) (by omega) (fun e => ?_) (fun l => st 1 (i / m / m) (by omega) (by omega) (by omega) (fun e => ?_) (fun l => st 0 (i / m / m / m) (by omega) (by omega) (by omega) (fun e => ?_) (fun l => by omega)))))
  all_goals subst e; exact hQ
theorem r_lineOf {x z tx tz : Int32} {a : Nat} {ob : Option Nat} (k : Kd G h y 12) (T : ThW h y x z tx tz a ob) (hQ : Q (some (.int (lnI x z tx tz))) h) : Cal G d mX12_lineOf [.ref y] h Q := by
  refine e_X12_lineOf ⟨k, ?_⟩
  rw [T.1.1, T.1.2.1, T.1.2.2.1, T.1.2.2.2]
  exact hQ
theorem r_thinksBy {m i a t : Nat} {A : Nat → Nat → Int32} {ob : Option Nat} (hd : 1 ≤ d) (M : MdSh G h y) (hm : 1 ≤ m) (hm5 : m ≤ 5) (hi : i < 1000) (hb : ∀ j, 1 ≤ j → j ≤ 4 → hI h y (36 + j) = corI A t ob j) (hQ : ∀ h2, FrI (fun c k => c = y ∧ 31 ≤ k ∧ k ≤ 36) h h2 → ThW h2 y (rcX A t ob m i) (rcZ A t ob m i) (rcTX A t ob m i) (rcTZ A t ob m i) a ob → Q none h2) : Cal G d mX12_thinksBy [.ref y, .int (nI i), .int (nI m), .int (nI a), .int (onI ob)] h Q := by
  refine e_X12_thinksBy hd ⟨M.1, r_margin (j := 0) hm hm5 hi (by omega) ⟨_, rfl, r_margin (j := 1) hm hm5 hi (by omega) ⟨_, rfl, r_margin (j := 2) hm hm5 hi (by omega) ⟨_, rfl, r_margin (j := 3) hm hm5 hi (by omega) ⟨_, rfl, ?_⟩⟩⟩⟩⟩
  have b1 := hb 1 (by omega) (by omega)
  have b2 := hb 2 (by omega) (by omega)
  have b3 := hb 3 (by omega) (by omega)
  have b4 := hb 4 (by omega) (by omega)
  simp only [Nat.reduceAdd] at b1 b2 b3 b4
  rw [b1, b2, b3, b4]
  exact r_thinks M (fun h2 F T => ⟨rfl, hQ h2 F T⟩)
theorem r_bases {t : Nat} {ob : Option Nat} (hd : 2 ≤ d) (M : MdSh G h y) (ht : t < 54) (hu : ∀ u, ob = some u → u < 54) (hQ : ∀ h2, FrI (fun a k => a = y ∧ 37 ≤ k ∧ k ≤ 40) h h2 → (∀ j, 1 ≤ j → j ≤ 4 → hI h2 y (36 + j) = corI (tS (said h y)) t ob j) → Q none h2) : Cal G d mX12_bases [.ref y, .int (nI t), .int (onI ob)] h Q := by
  cases ob with
  | none => exact r_bases1 hd M ht hQ
  | some u => exact r_bases2 hd M ht (hu u rfl) hQ
def BbI (y a k : Nat) : Prop := a = y ∧ (k = 27 ∨ (31 ≤ k ∧ k ≤ 40) ∨ k = 42)
def BbL (y a k : Nat) : Prop := (a = y ∧ k = 41) ∨ a = y + 11 ∨ a = y + 12
theorem LawR.fs {PI PL : Nat → Nat → Prop} {h h2 : HP} {t : Nat} {D : List Cla} (F : FrS PI PL h h2) (hp : ∀ a k, PI a k → ¬ (y + 2 ≤ a ∧ a ≤ y + 7)) (L : LawR h y t D) : LawR h2 y t D := by
  have lo : ∀ a k, (y + 2 ≤ a ∧ a ≤ y + 7) → hI h2 a k = hI h a k := fun a k q => F.i (fun z => hp a k z q)
  exact ⟨L.1.fr L.2.1 (fun k _ _ => lo _ _ (by omega)) (fun k _ _ => lo _ _ (by omega)) (lo _ _ (by omega)), L.2⟩
def acI : Acc → Int32
  | none => -1
  | some r => nI r.1
def acL : Acc → Int32
  | none => 0
  | some r => r.2.2
theorem said_fs {PI PL : Nat → Nat → Prop} {h h2 : HP} (F : FrS PI PL h h2) (hp : ∀ a k, PI a k → a ≠ y + 13) : said h2 y = said h y := funext fun j => F.i (fun z => hp _ _ z rfl)
theorem r_bestBy {S : Nat → Int32} {l i : Nat} {C D : List Cla} {jn : Prop} {f a m : Nat} {ob : Option Nat} (hd : 8 ≤ d) (M : MdSh G h y) (eS : said h y = S) (W : WfR S) (hm : 1 ≤ m) (hm5 : m ≤ 5) (hf : f < 12) (ha : a < 54) (wa : tS S a 0 = 1) (wb : thereO S ob) (hl : l < 6) (L : LawR h y l C) (hj : hI h (y + 7) l = 1 ↔ jn) (k16 : ∀ q ∈ C, q.1 ≠ 16) (hi6 : i < 6) (LW : LawR h y (6 + i) D) (w16 : ∀ q ∈ D, q.1 = 16)
    (hQ : ∀ h2, FrS (BbI y) (BbL y) h h2 → hI h2 y 42 = nI (seF (canB S C jn f a ob m) (valO S (some D) f a ob m) (lnF S a ob m) m).1 → (∀ r, (seF (canB S C jn f a ob m) (valO S (some D) f a ob m) (lnF S a ob m) m).2 = some r → hL h2 y 41 = r.2.1) → Q (some (.int (acI (seF (canB S C jn f a ob m) (valO S (some D) f a ob m) (lnF S a ob m) m).2))) h2) : Cal G d mX12_bestBy [.ref y, .int (nI l), .int (nI i), .int (nI f), .int (nI a), .int (onI ob), .int (nI m)] h Q := by
  obtain ⟨e4, l4⟩ := m4 hm5
  refine e_X12_bestBy (by omega) ⟨M.1, r_bases (by omega) M ha (fun u q => (wb u q).1) (fun h0 F0 v0 => ⟨rfl, ?_⟩)⟩
  rw [eS] at v0
  have F0' : FrS (BbI y) (BbL y) h (sI h0 y 42 0) := ((F0.s _).weak (fun a k q => ⟨q.1, by omega⟩) (fun _ _ q => q)).tr (frS_sI _ _ ⟨rfl, by omega⟩)
  have v0' : ∀ j, 1 ≤ j → j ≤ 4 → hI (sI h0 y 42 0) y (36 + j) = corI (tS S) a ob j := fun j h1 h2 => by
    rw [hI_ne _ _ (Or.inr (by omega))]
    exact v0 j h1 h2
  suffices H : ∀ h', FrS (BbI y) (BbL y) h h' → (∀ j, 1 ≤ j → j ≤ 4 → hI h' y (36 + j) = corI (tS S) a ob j) → hI h' y 42 = nI 0 → (∀ r, (none : Acc) = some r → hL h' y 41 = r.2.1) → Ex G d mX12_bestBy 22 [(0, .ref y), (1, .int (nI l)), (2, .int (nI i)), (3, .int (nI f)), (4, .int (nI a)), (5, .int (onI ob)), (6, .int (nI m)), (7, .int (acI none)), (8, .int (acL none)), (9, .int (nI 0))] [] h' Q from
    H _ F0' v0' (by rw [hI_eq]; rfl) (fun r e => by cases e)
  refine loop_up (α := Nat × Acc) (f := weC (canB S C jn f a ob m) (valO S (some D) f a ob m) (lnF S a ob m)) (e := m * m * m * m) (J := fun i p => p.1 ≤ i ∧ ∀ r, p.2 = some r → r.1 < i) (P := fun j p => ∀ h', FrS (BbI y) (BbL y) h h' → (∀ j, 1 ≤ j → j ≤ 4 → hI h' y (36 + j) = corI (tS S) a ob j) → hI h' y 42 = nI p.1 → (∀ r, p.2 = some r → hL h' y 41 = r.2.1) → Ex G d mX12_bestBy 22 [(0, .ref y), (1, .int (nI l)), (2, .int (nI i)), (3, .int (nI f)), (4, .int (nI a)), (5, .int (onI ob)), (6, .int (nI m)), (7, .int (acI p.2)), (8, .int (acL p.2)), (9, .int (nI j))] [] h' Q) (fun i p _ h1 => ⟨weC_le h1.1, fun r er => ?_⟩) (fun c p hc hJ ih h' F vb v42 v41 => ?_) (m * m * m * m) 0 (0, none) (by omega) ⟨Nat.le_refl _, fun r er => by cases er⟩ (fun _ h' F _ v42 v41 => t_X12_bestBy_22 (by omega) ⟨fun _ => hQ h' F v42 v41, fun c => absurd (by rw [e4]; exact (nI_le_iff (by omega) (by omega)).mpr (Nat.le_refl _)) c⟩)
  · obtain ⟨c, q⟩ := p
    simp only [weC] at er
    cases q with
    | none =>
      simp only [weS] at er
      split at er
      · obtain rfl := Option.some.inj er
        exact Nat.lt_succ_self _
      · cases er
    | some r0 =>
      simp only [weS] at er
      split at er
      · obtain rfl := Option.some.inj er
        exact Nat.lt_succ_self _
      · have := h1.2 r er
        omega
  have hp : ∀ a k, BbI y a k → a ≠ y + 13 := fun a k q => by unfold BbI at q; omega
  have hp2 : ∀ a k, BbI y a k → ¬ (y + 2 ≤ a ∧ a ≤ y + 7) := fun a k q => by unfold BbI at q; omega
  have M' := M.fs F
  have eS' : said h' y = S := (said_fs F hp).trans eS
  have nx : nI c + 1 = nI (c + 1) := nI_S c
  refine t_X12_bestBy_22 (by omega) ⟨fun q => ?_, fun _ => ⟨M'.1, r_thinksBy (A := tS S) (t := a) (by omega) M' hm hm5 (by omega) vb (fun h1 F1 T1 => ⟨rfl, ?_⟩)⟩⟩
  · rw [e4] at q
    have := (nI_le_iff (by omega) (by omega)).mp q
    omega
  rw [nx]
  have F1' : FrS (BbI y) (BbL y) h' h1 := (F1.s _).weak (fun a k q => ⟨q.1, by omega⟩) (fun _ _ q => q)
  have F01 := F.tr F1'
  have M1 := M.fs F01
  have eS1 : said h1 y = S := (said_fs F01 hp).trans eS
  have j1 : hI h1 (y + 7) l = hI h (y + 7) l := F01.i (fun q => by unfold BbI at q; omega)
  refine r_canCome (by omega) M1 (by rw [eS1]; exact W) T1 hf ha (by rw [eS1]; exact wa) (by rw [eS1]; exact wb) (L.fs F01 hp2) k16 (fun h2 v F2 b01 ev => ⟨_, rfl, ?_⟩)
  have evB : v = 1 ↔ canB S C jn f a ob m c = true := by
    rw [canB_iff]
    rw [ev, eS1, j1]
    constructor
    · intro ⟨c1, c2, c3⟩
      exact ⟨c1, fun z => hj.mp (c2 z), c3⟩
    · intro ⟨c1, c2, c3⟩
      exact ⟨c1, fun z => hj.mpr (c2 z), c3⟩
  have F2' : FrS (BbI y) (BbL y) h1 h2 := F2.weak (fun a k q => by unfold RkI at q; exact ⟨q.1, Or.inl q.2⟩) (fun a k q => Or.inr q)
  have F02 := F01.tr F2'
  have k42 : hI h2 y 42 = nI p.1 := (F2.i (by unfold RkI; omega)).trans ((F1.i (by omega)).trans v42)
  have k41 : ∀ r, p.2 = some r → hL h2 y 41 = r.2.1 := fun r er => (F2.l (by unfold CnL; omega)).trans ((F1.l _ _).trans (v41 r er))
  have kb : ∀ j, 1 ≤ j → j ≤ 4 → hI h2 y (36 + j) = corI (tS S) a ob j := fun j h1 h2 => (F2.i (by unfold RkI; omega)).trans ((F1.i (by omega)).trans (vb j h1 h2))
  refine ⟨fun z => ?_, fun z => ?_⟩
  rotate_left
  · have cf : canB S C jn f a ob m c = false := by
      cases q : canB S C jn f a ob m c with
      | false => rfl
      | true =>
        have := evB.mpr q
        rw [z] at this
        exact absurd this (by decide)
    rw [weC_no cf] at ih
    exact ih h2 F02 kb k42 k41
  have v1 := b01.resolve_left z
  have ct := evB.mp v1
  have cv := canB_iff.mp ct
  rw [weC_yes ct] at ih
  have T2 : ThW h2 y (rcX (tS S) a ob m c) (rcZ (tS S) a ob m c) (rcTX (tS S) a ob m c) (rcTZ (tS S) a ob m c) a ob := by
    have e : ∀ k, 31 ≤ k ∧ k ≤ 36 → hI h2 y k = hI h1 y k := fun k hk => F2.i (by unfold RkI; omega)
    unfold ThW
    rw [e _ (by omega), e _ (by omega), e _ (by omega), e _ (by omega), e _ (by omega), e _ (by omega)]
    exact T1
  rw [k42, nI_S]
  have F3 : FrS (BbI y) (BbL y) h2 (sI h2 y 42 (nI (p.1 + 1))) := frS_sI _ _ ⟨rfl, by omega⟩
  generalize e3 : sI h2 y 42 (nI (p.1 + 1)) = h3 at *
  have F03 := F02.tr F3
  have M3 := M.fs F03
  have eS3 : said h3 y = S := (said_fs F03 hp).trans eS
  have g3 : ∀ k, k ≠ 42 → hI h3 y k = hI h2 y k := fun k hk => by rw [← e3, hI_ne _ _ (Or.inr hk)]
  have T3 : ThW h3 y (rcX (tS S) a ob m c) (rcZ (tS S) a ob m c) (rcTX (tS S) a ob m c) (rcTZ (tS S) a ob m c) a ob := by
    unfold ThW
    rw [g3 _ (by omega), g3 _ (by omega), g3 _ (by omega), g3 _ (by omega), g3 _ (by omega), g3 _ (by omega)]
    exact T2
  refine r_wishOf (by omega) M3 (by rw [eS3]; exact W) T3 hf ha (by rw [eS3]; exact wa) (by rw [eS3]; exact wb) (by rw [eS3]; exact cv.1) hi6 (LW.fs F03 hp2) w16 (fun h4 F4 => ⟨_, rfl, ?_⟩)
  rw [eS3]
  have F4' : FrS (BbI y) (BbL y) h3 h4 := F4.weak (fun a k q => by unfold RkI at q; exact ⟨q.1, Or.inl q.2⟩) (fun a k q => Or.inr q)
  have F04 := F03.tr F4'
  have k42' : hI h4 y 42 = nI (p.1 + 1) := (F4.i (by unfold RkI; omega)).trans (by rw [← e3, hI_eq])
  have k41' : ∀ r, p.2 = some r → hL h4 y 41 = r.2.1 := fun r er => (F4.l (by unfold CnL; omega)).trans (by rw [← e3]; exact k41 r er)
  have kb' : ∀ j, 1 ≤ j → j ≤ 4 → hI h4 y (36 + j) = corI (tS S) a ob j := fun j h1 h2 => (F4.i (by unfold RkI; omega)).trans ((g3 _ (by omega)).trans (kb j h1 h2))
  have T4 : ThW h4 y (rcX (tS S) a ob m c) (rcZ (tS S) a ob m c) (rcTX (tS S) a ob m c) (rcTZ (tS S) a ob m c) a ob := by
    have e : ∀ k, 31 ≤ k ∧ k ≤ 36 → hI h4 y k = hI h3 y k := fun k hk => F4.i (by unfold RkI; omega)
    unfold ThW
    rw [e _ (by omega), e _ (by omega), e _ (by omega), e _ (by omega), e _ (by omega), e _ (by omega)]
    exact T3
  have M4 := M.fs F04
  have vv : totF (wdF S f (rcX (tS S) a ob m c) (rcZ (tS S) a ob m c) (rcTX (tS S) a ob m c) (rcTZ (tS S) a ob m c) a ob) D 0 = valO S (some D) f a ob m c := rfl
  rw [vv]
  clear vv
  have ll : lnI (rcX (tS S) a ob m c) (rcZ (tS S) a ob m c) (rcTX (tS S) a ob m c) (rcTZ (tS S) a ob m c) = lnF S a ob m c := rfl
  generalize hvv : valO S (some D) f a ob m c = v at *
  generalize hll : lnF S a ob m c = ln at *
  have take : ∀ (x7 x8 : Int32), weS (canB S C jn f a ob m) (valO S (some D) f a ob m) (lnF S a ob m) c p.2 = some (c, v, ln) → Ex G d mX12_bestBy 117 [(0, .ref y), (1, .int (nI l)), (2, .int (nI i)), (3, .int (nI f)), (4, .int (nI a)), (5, .int (onI ob)), (6, .int (nI m)), (7, .int x7), (8, .int x8), (9, .int (nI c)), (10, .long v)] [] h4 Q := by
    intro x7 x8 ew
    refine t_X12_bestBy_117 (by omega) ⟨M4.1, r_lineOf (T := (show ThW (sL h4 y 41 v) y _ _ _ _ a ob from T4)) (M4.1.up (kp_sL ..)) ⟨_, rfl, ?_⟩⟩
    rw [nx, ll]
    rw [ew] at ih
    exact ih _ (F04.tr (frS_sL _ _ (Or.inl ⟨rfl, rfl⟩))) kb' k42' (fun r er => by
      obtain rfl := Option.some.inj er
      rw [hL_sL, if_pos ⟨rfl, rfl⟩])
  have keep : weS (canB S C jn f a ob m) (valO S (some D) f a ob m) (lnF S a ob m) c p.2 = p.2 → Ex G d mX12_bestBy 22 [(0, .ref y), (1, .int (nI l)), (2, .int (nI i)), (3, .int (nI f)), (4, .int (nI a)), (5, .int (onI ob)), (6, .int (nI m)), (7, .int (acI p.2)), (8, .int (acL p.2)), (9, .int (nI (c + 1)))] [] h4 Q := by
    intro ew
    rw [ew] at ih
    exact ih h4 F04 kb' k42' k41'
  obtain ⟨cnt, q⟩ := p
  cases q with
  | none => exact ⟨fun _ => take _ _ (by simp [weS, ct, hvv, hll]), fun z => absurd (show (-1 : Int32) < 0 by decide) z⟩
  | some r =>
    have hr := hJ.2 r rfl
    have e41 := k41' r rfl
    rw [e41]
    refine ⟨fun z => ?_, fun _ => ⟨fun z => keep ?_, fun z => ⟨fun z2 => take _ _ ?_, fun z2 => r_lineOf M4.1 T4 ⟨_, rfl, ?_⟩⟩⟩⟩
    · simp only [acI] at z
      rw [ti_lt, ti_nI (by omega)] at z
      have : (0 : Int32).toInt = 0 := rfl
      omega
    · have a1 : ¬ 0 < lg_cmp v r.2.1 := by rw [lgc_gt]; rw [lgc_lt] at z; omega
      have a2 : ¬ lg_cmp v r.2.1 = 0 := fun q => by rw [q] at z; exact absurd z (by decide)
      simp [weS, ct, hvv, hll, a1, a2]
    · have a1 : 0 < lg_cmp v r.2.1 := by
        rw [ti_lt] at z ⊢
        have : lg_cmp v r.2.1 ≠ 0 := z2
        have t0 : (lg_cmp v r.2.1).toInt ≠ (0 : Int32).toInt := fun q => this (Int32.toInt.inj q)
        omega
      simp [weS, ct, hvv, hll, a1]
    · rw [ll]
      refine ⟨fun z3 => take _ _ ?_, fun z3 => keep ?_⟩
      · simp only [acL] at z3
        simp [weS, ct, hvv, hll, z2, z3]
      · simp only [acL] at z3
        simp [weS, ct, hvv, hll, z2, z3]
end RB
