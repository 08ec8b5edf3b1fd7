/-! ===== ahead: the reference, the pair ===== -/
def acV : Acc → Int64
  | none => 0
  | some r => r.2.1
def MaI (y a k : Nat) : Prop := (a = y ∧ (k = 27 ∨ (31 ≤ k ∧ k ≤ 40) ∨ k = 42)) ∨ (a = y + 13 ∧ 1608 ≤ k ∧ k < 2256)
theorem mxL_le {v : Int64} (h : lg_cmp v 0 ≤ 0) : mxL 0 v = 0 := by
  rw [lgc_le] at h
  unfold mxL
  by_cases c : v < 0
  · rw [if_pos c]
  · rw [if_neg c]
    rw [Int64.lt_iff_toInt_lt] at c
    exact Int64.toInt.inj (by omega)
theorem mxL_gt {v : Int64} (h : ¬ lg_cmp v 0 ≤ 0) : mxL 0 v = v := by
  rw [lgc_le] at h
  unfold mxL
  rw [if_neg]
  rw [Int64.lt_iff_toInt_lt]
  omega
theorem JnkS.zr {S S' : Nat → Int32} (J : JnkS 30 S S') : ∀ t, 30 ≤ t → t < 54 → tS S' t 0 = 0 := J.2
section AR
variable {G : GG} {d : Nat} {y l w m f g t : Nat} {S : Nat → Int32} {C D : List Cla} {jn : Prop} {Q : Option Value → HP → Prop}
theorem r_ahead83 {h : HP} {k : Nat} (hd : 11 ≤ d) (M : MdSh G h y) (W : WF S) (hy3 : (S 3).toInt ≤ 20000) (J0 : JnkS 30 S (said h y)) (m1 : 1 ≤ m) (m5 : m ≤ 5) (hk : k < 4) (hf : f < 12) (hg : g < 12) (ht : t < 30) (wt : tS S t 0 = 1) (hl : l < 6) (hw : w < 6) (L : LawR h y l C) (hj : hI h (y + 7) l = 1 ↔ jn) (k16 : ∀ q ∈ C, q.1 ≠ 16) (LW : LawR h y (6 + w) D) (w16 : ∀ q ∈ D, q.1 = 16)
    (hQ : ∀ h2, FrS (MaI y) (BbL y) h h2 → JnkS 30 S (said h2 y) → Q (some (.int (match (seF (canB S C jn f t none m) (ahV S C jn D f g t m) (lnF S t none m) m).2 with | none => -2 | some r => nI (mgN m r.1 k)))) h2) :
    Ex G d mX12_ahead 83 [(0, .ref y), (1, .int (nI l)), (2, .int (nI w)), (3, .int (nI f)), (4, .int (nI g)), (5, .int (nI t)), (6, .int (nI m)), (7, .int (nI k)), (8, .int (-1)), (9, .int 0), (10, .long 0), (12, .int 0)] [] h Q := by
  obtain ⟨e4, l4⟩ := m4 m5
  have WR := W.r hy3
  suffices H : ∀ h', FrS (MaI y) (BbL y) h h' → JnkS 30 S (said h' y) → Ex G d mX12_ahead 83 [(0, .ref y), (1, .int (nI l)), (2, .int (nI w)), (3, .int (nI f)), (4, .int (nI g)), (5, .int (nI t)), (6, .int (nI m)), (7, .int (nI k)), (8, .int (acI none)), (9, .int (acL none)), (10, .long (acV none)), (12, .int (nI 0))] [] h' Q from H h (frS_rf _ _ _) J0
  refine loop_up (α := Nat × Acc) (f := weC (canB S C jn f t none m) (ahV S C jn D f g t m) (lnF S t none m)) (e := m * m * m * m) (J := fun i p => ∀ r, p.2 = some r → r.1 < i) (P := fun i p => ∀ h', FrS (MaI y) (BbL y) h h' → JnkS 30 S (said h' y) → Ex G d mX12_ahead 83 [(0, .ref y), (1, .int (nI l)), (2, .int (nI w)), (3, .int (nI f)), (4, .int (nI g)), (5, .int (nI t)), (6, .int (nI m)), (7, .int (nI k)), (8, .int (acI p.2)), (9, .int (acL p.2)), (10, .long (acV p.2)), (12, .int (nI i))] [] h' Q) (fun i p _ h1 r er => ?_) (fun c p hc hJ ih h' F J => ?_) (m * m * m * m) 0 (0, none) (by omega) (fun r er => by cases er) (fun hJ h' F J => ?_)
  · obtain ⟨c, q⟩ := p
    simp only [weC] at er
    cases q with
    | none =>
      simp only [weS] at er
      split at er
      · obtain rfl := Option.some.inj er
        exact Nat.lt_succ_self _
      · cases er
    | some r0 =>
      simp only [weS] at er
      split at er
      · obtain rfl := Option.some.inj er
        exact Nat.lt_succ_self _
      · have := h1 r er
        omega
  rotate_left
  · have hQ := hQ h' F J
    change ∀ r, (seF (canB S C jn f t none m) (ahV S C jn D f g t m) (lnF S t none m) m).2 = some r → r.1 < m * m * m * m at hJ
    show Ex G d mX12_ahead 83 [(0, .ref y), (1, .int (nI l)), (2, .int (nI w)), (3, .int (nI f)), (4, .int (nI g)), (5, .int (nI t)), (6, .int (nI m)), (7, .int (nI k)), (8, .int (acI (seF (canB S C jn f t none m) (ahV S C jn D f g t m) (lnF S t none m) m).2)), (9, .int (acL (seF (canB S C jn f t none m) (ahV S C jn D f g t m) (lnF S t none m) m).2)), (10, .long (acV (seF (canB S C jn f t none m) (ahV S C jn D f g t m) (lnF S t none m) m).2)), (12, .int (nI (m * m * m * m)))] [] h' Q
    generalize seF (canB S C jn f t none m) (ahV S C jn D f g t m) (lnF S t none m) m = sq at *
    refine t_X12_ahead_83 (by omega) ⟨fun _ => ⟨fun z => ⟨(M.fs F).1, ?_⟩, fun z => ?_⟩, fun z => absurd (by rw [e4]; exact (nI_le_iff (by omega) (by omega)).mpr (Nat.le_refl _)) z⟩
    · cases e : sq.2 with
      | none =>
        rw [e] at z
        exact absurd z (by decide)
      | some r =>
        rw [e] at hQ
        exact r_margin m1 m5 (by have := hJ r e; omega) hk ⟨_, rfl, hQ⟩
    · cases e : sq.2 with
      | none =>
        rw [e] at hQ
        exact hQ
      | some r =>
        rw [e] at z
        refine absurd ?_ z
        simp only [acI]
        rw [ti_le, ti_nI (by have := hJ r e; omega)]
        have : (0 : Int32).toInt = 0 := rfl
        omega
  have hp2 : ∀ a k, MaI y a k → ¬ (y + 2 ≤ a ∧ a ≤ y + 7) := fun a k q => by unfold MaI at q; omega
  have M' := M.fs F
  have nx : nI c + 1 = nI (c + 1) := nI_S c
  have Z0 : ∀ t, 30 ≤ t → t < 54 → tS S t 0 = 0 := W.2.2.2.1
  have E := J.eqs Z0
  have W' := J.wf W
  have W'R : WfR (said h' y) := W'.r (by rw [J.1 3 (by omega)]; exact hy3)
  have wt' : tS (said h' y) t 0 = 1 := by rw [J.t (by omega) (by omega)]; exact wt
  generalize hS' : said h' y = S' at *
  refine t_X12_ahead_83 (by omega) ⟨fun q => ?_, fun _ => ⟨M'.1, r_bases (ob := none) (by omega) M' (by omega) (fun u q => by cases q) (fun h0 F0 v0 => ⟨rfl, ?_⟩)⟩⟩
  · rw [e4] at q
    have := (nI_le_iff (by omega) (by omega)).mp q
    omega
  rw [hS'] at v0
  have F0' : FrS (MaI y) (BbL y) h' h0 := (F0.s _).weak (fun a k q => by unfold MaI; omega) (fun _ _ q => q)
  have F00 := F.tr F0'
  refine r_thinksBy (A := tS S') (t := t) (ob := none) (by omega) (M.fs F00) m1 m5 (by omega) v0 (fun h1 F1 T1 => ⟨rfl, ?_⟩)
  rw [nx]
  have F1' : FrS (MaI y) (BbL y) h0 h1 := (F1.s _).weak (fun a k q => by unfold MaI; omega) (fun _ _ q => q)
  have F01 := F00.tr F1'
  have M1 := M.fs F01
  have eS1 : said h1 y = S' := (funext fun j => (F1.i (by omega)).trans (F0.i (by omega))).trans hS'
  have j1 : hI h1 (y + 7) l = hI h (y + 7) l := F01.i (fun q => by unfold MaI at q; omega)
  obtain ⟨r1, r2, r3, r4⟩ := E.rc (show t < 54 by omega) wt m c
  refine r_canCome (by omega) M1 (by rw [eS1]; exact W'R) T1 hf (by omega) (by rw [eS1]; exact wt') (fun u q => by cases q) (L.fs F01 hp2) k16 (fun h2 v F2 b01 ev => ⟨_, rfl, ?_⟩)
  have evB : v = 1 ↔ canB S C jn f t none m c = true := by
    rw [← eqS_canB E WR W'R (by omega) wt, canB_iff, ev, eS1, j1]
    constructor
    · intro ⟨c1, c2, c3⟩
      exact ⟨c1, fun z => hj.mp (c2 z), c3⟩
    · intro ⟨c1, c2, c3⟩
      exact ⟨c1, fun z => hj.mpr (c2 z), c3⟩
  have F2' : FrS (MaI y) (BbL y) h1 h2 := F2.weak (fun a k q => by unfold RkI at q; unfold MaI; omega) (fun a k q => Or.inr q)
  have F02 := F01.tr F2'
  have eS2 : said h2 y = S' := (funext fun j => F2.i (by unfold RkI; omega)).trans eS1
  refine ⟨fun z => ?_, fun z => ?_⟩
  rotate_left
  · have cf : canB S C jn f t none m c = false := by
      cases q : canB S C jn f t none m c with
      | false => rfl
      | true =>
        have := evB.mpr q
        rw [z] at this
        exact absurd this (by decide)
    rw [weC_no cf] at ih
    exact ih h2 F02 (by rw [eS2]; exact J)
  have v1 := b01.resolve_left z
  have ct := evB.mp v1
  have ct' : canB S' C jn f t none m c = true := by rw [eqS_canB E WR W'R (by omega) wt]; exact ct
  have cv := canB_iff.mp ct'
  rw [weC_yes ct] at ih
  have T2 : ThW h2 y (rcX (tS S') t none m c) (rcZ (tS S') t none m c) (rcTX (tS S') t none m c) (rcTZ (tS S') t none m c) t none := by
    have e : ∀ k, 31 ≤ k ∧ k ≤ 36 → hI h2 y k = hI h1 y k := fun k hk => F2.i (by unfold RkI; omega)
    unfold ThW
    rw [e _ (by omega), e _ (by omega), e _ (by omega), e _ (by omega), e _ (by omega), e _ (by omega)]
    exact T1
  refine r_lineOf (M.fs F02).1 T2 ⟨_, rfl, r_wishOf (by omega) (M.fs F02) (by rw [eS2]; exact W'R) T2 hf (by omega) (by rw [eS2]; exact wt') (fun u q => by cases q) (by rw [eS2]; exact cv.1) hw (LW.fs F02 hp2) w16 (fun h4 F4 => ⟨_, rfl, ?_⟩)⟩
  rw [eS2]
  have F4' : FrS (MaI y) (BbL y) h2 h4 := F4.weak (fun a k q => by unfold RkI at q; unfold MaI; omega) (fun a k q => Or.inr q)
  have F04 := F02.tr F4'
  have eS4 : said h4 y = S' := (funext fun j => F4.i (by unfold RkI; omega)).trans eS2
  have T4 : ThW h4 y (rcX (tS S') t none m c) (rcZ (tS S') t none m c) (rcTX (tS S') t none m c) (rcTZ (tS S') t none m c) t none := by
    have e : ∀ k, 31 ≤ k ∧ k ≤ 36 → hI h4 y k = hI h2 y k := fun k hk => F4.i (by unfold RkI; omega)
    unfold ThW
    rw [e _ (by omega), e _ (by omega), e _ (by omega), e _ (by omega), e _ (by omega), e _ (by omega)]
    exact T2
  have vv : totF (wdF S' f (rcX (tS S') t none m c) (rcZ (tS S') t none m c) (rcTX (tS S') t none m c) (rcTZ (tS S') t none m c) t none) D 0 = valO S (some D) f t none m c := by
    rw [← E.val WR (by omega) wt]
    rfl
  have ll : lnI (rcX (tS S') t none m c) (rcZ (tS S') t none m c) (rcTX (tS S') t none m c) (rcTZ (tS S') t none m c) = lnF S t none m c := by
    rw [← E.ln (by omega) wt]
    rfl
  rw [vv, ll]
  clear vv ll
  -- the wall is thought, and the next one searches
  refine r_builds (w := 30) (f := nI f) (by omega) (M.fs F04) T4 (by omega) (by omega) (fun u q => by cases q) (by omega) (by simp) (fun h5 F5 e5 => ⟨rfl, ?_⟩)
  rw [eS4] at e5
  have F5' : FrS (MaI y) (BbL y) h4 h5 := (F5.s _).weak (fun a k q => Or.inr q) (fun _ _ q => q)
  have F05 := F04.tr F5'
  have w30 : tS S' 30 0 = 0 := J.2 30 (by omega) (by omega)
  have H' := canV_blh cv (show 6 ≤ 30 by omega) (by omega) w30 (by omega) wt' (fun u q => by cases q)
  have cvS := canB_iff.mp ct
  have H0 := canV_blh cvS (show 6 ≤ 30 by omega) (by omega) (Z0 30 (by omega) (by omega)) (by omega) wt (fun u q => by cases q)
  have WB' : WfR (said h5 y) := by
    rw [e5]
    exact W'R.bld cv hf (by omega) (by omega) w30 (by omega) wt'
  have WB : WfR (ahB S f t m c) := WR.bld cvS hf (by omega) (by omega) (Z0 30 (by omega) (by omega)) (by omega) wt
  have EB : EqS (ahB S f t m c) (said h5 y) := by
    rw [e5, r1, r2, r3, r4]
    exact E.bld H0 H' _ _ _ _ _
  have EE := tS_bld (S := S) (w := 30) (x := rcX (tS S) t none m c) (z := rcZ (tS S) t none m c) (tx := rcTX (tS S) t none m c) (tz := rcTZ (tS S) t none m c) (f := nI f) (a := t) (ob := none)
  have wB : tS (ahB S f t m c) 30 0 = 1 := EE.at_ H0 (by omega)
  refine r_bestBy (ob := none) (jn := jn) (by omega) (M.fs F05) rfl WB' m1 m5 hg (show 30 < 54 by omega) (by rw [EB.2.1 30 (by omega)]; exact wB) (fun u q => by cases q) hl (L.fs F05 hp2) (by rw [F05.i (fun q => by unfold MaI at q; omega)]; exact hj) k16 hw (LW.fs F05 hp2) w16 (fun h6 F6 v42 v41 => ⟨_, rfl, ?_⟩)
  rw [eqS_canB EB WB WB' (by omega) wB, EB.val WB (by omega) wB, EB.ln (by omega) wB] at v41 ⊢
  have F6' : FrS (MaI y) (BbL y) h5 h6 := F6.weak (fun a k q => by unfold BbI at q; unfold MaI; omega) (fun _ _ q => q)
  have F06 := F05.tr F6'
  have e6 : said h6 y = said h5 y := funext fun j => F6.i (by unfold BbI; omega)
  -- pulled down
  have tail : ∀ vr : Int64, vr = ahV S C jn D f g t m c → Ex G d mX12_ahead 184 [(0, .ref y), (1, .int (nI l)), (2, .int (nI w)), (3, .int (nI f)), (4, .int (nI g)), (5, .int (nI t)), (6, .int (nI m)), (7, .int (nI k)), (8, .int (acI p.2)), (9, .int (acL p.2)), (10, .long (acV p.2)), (12, .int (nI c)), (13, .int (lnF S t none m c)), (14, .long vr)] [] h6 Q := by
    intro vr evr
    refine t_X12_ahead_184 (by omega) ⟨(M.fs F06).1, r_pulls (w := 30) (by omega) (M.fs F06) (by omega) (fun h7 F7 v7 => ⟨rfl, ?_⟩)⟩
    have e7 : said h7 y = pulS (said h6 y) 30 := funext fun j => by
      by_cases c : 1608 ≤ j ∧ j < 2256
      · have := v7 ((j - 1608) / 12) ((j - 1608) % 12) (by omega) (by omega)
        rw [← tS_pul (by omega) (by omega)] at this
        unfold tS at this
        rw [show 1608 + 12 * ((j - 1608) / 12) + (j - 1608) % 12 = j by omega] at this
        exact this
      · rw [pul_off c]
        exact F7.i (fun z => c z.2)
    have J7 : JnkS 30 S (said h7 y) := by
      refine J.tr ?_
      rw [e7, e6, e5]
      refine JnkS.pul (c := S' 0) (r := S' 1) (by omega) (by omega) W'R.2.2.2.1 H' (by omega) ⟨fun _ _ => rfl, fun u h1 h2 => ?_⟩
      have E2 := tS_bld (S := S') (w := 30) (x := rcX (tS S') t none m c) (z := rcZ (tS S') t none m c) (tx := rcTX (tS S') t none m c) (tz := rcTZ (tS S') t none m c) (f := nI f) (a := t) (ob := none)
      rw [E2.k h2 (by omega) (by omega) (by omega)]
      exact J.2 u (by omega) h2
    have F07 : FrS (MaI y) (BbL y) h h7 := F06.tr ((F7.s _).weak (fun a k q => Or.inr q) (fun _ _ q => q))
    have ih := ih h7 F07 J7
    rw [nx]
    have hvr : ahV S C jn D f g t m c = vr := evr.symm
    clear evr
    obtain ⟨cnt, q⟩ := p
    cases q with
    | none =>
      refine ⟨fun _ => ?_, fun z => absurd (show (-1 : Int32) < 0 by decide) z⟩
      have ew : weS (canB S C jn f t none m) (ahV S C jn D f g t m) (lnF S t none m) c none = some (c, vr, lnF S t none m c) := by simp [weS, ct, hvr]
      simp only [ew] at ih
      exact ih
    | some r =>
      have hr := hJ r rfl
      have take : weS (canB S C jn f t none m) (ahV S C jn D f g t m) (lnF S t none m) c (some r) = some (c, vr, lnF S t none m c) → Ex G d mX12_ahead 83 [(0, .ref y), (1, .int (nI l)), (2, .int (nI w)), (3, .int (nI f)), (4, .int (nI g)), (5, .int (nI t)), (6, .int (nI m)), (7, .int (nI k)), (8, .int (nI c)), (9, .int (lnF S t none m c)), (10, .long vr), (12, .int (nI (c + 1)))] [] h7 Q := by
        intro ew
        simp only [ew] at ih
        exact ih
      have keep : weS (canB S C jn f t none m) (ahV S C jn D f g t m) (lnF S t none m) c (some r) = some r → Ex G d mX12_ahead 83 [(0, .ref y), (1, .int (nI l)), (2, .int (nI w)), (3, .int (nI f)), (4, .int (nI g)), (5, .int (nI t)), (6, .int (nI m)), (7, .int (nI k)), (8, .int (acI (some r))), (9, .int (acL (some r))), (10, .long (acV (some r))), (12, .int (nI (c + 1)))] [] h7 Q := by
        intro ew
        simp only [ew] at ih
        exact ih
      have av : acV (some r) = r.2.1 := rfl
      refine ⟨fun z => ?_, fun _ => ⟨fun z => keep ?_, fun z => ⟨fun z2 => take ?_, fun z2 => ⟨fun z3 => take ?_, fun z3 => keep ?_⟩⟩⟩⟩
      · simp only [acI] at z
        rw [ti_lt, ti_nI (by omega)] at z
        have : (0 : Int32).toInt = 0 := rfl
        omega
      · rw [av] at z
        have a1 : ¬ 0 < lg_cmp vr r.2.1 := by rw [lgc_gt]; rw [lgc_lt] at z; omega
        have a2 : ¬ lg_cmp vr r.2.1 = 0 := fun q => by rw [q] at z; exact absurd z (by decide)
        simp [weS, ct, hvr, a1, a2]
      · rw [av] at z z2
        have a1 : 0 < lg_cmp vr r.2.1 := by
          rw [ti_lt] at z ⊢
          have : lg_cmp vr r.2.1 ≠ 0 := z2
          have t0 : (lg_cmp vr r.2.1).toInt ≠ (0 : Int32).toInt := fun q => this (Int32.toInt.inj q)
          omega
        simp [weS, ct, hvr, a1]
      · rw [av] at z2
        simp only [acL] at z3
        simp [weS, ct, hvr, z2, z3]
      · rw [av] at z2
        simp only [acL] at z3
        simp [weS, ct, hvr, z2, z3]
  have sub0L : ∀ v : Int64, v - 0 = v := fun v => Int64.sub_zero v
  have hrv : ∀ {q : Acc}, (seF (canB (ahB S f t m c) C jn g 30 none m) (valO (ahB S f t m c) (some D) g 30 none m) (lnF (ahB S f t m c) 30 none m) m).2 = q → rvS (ahB S f t m c) C jn D g m = (match q with | none => 0 | some r => mxL 0 r.2.1) := fun {q} e => by
    unfold rvS
    rw [e]
    cases q <;> rfl
  have cnt := (seF_cnt (canB (ahB S f t m c) C jn g 30 none m) (valO (ahB S f t m c) (some D) g 30 none m) (lnF (ahB S f t m c) 30 none m) m m5).2
  generalize (seF (canB (ahB S f t m c) C jn g 30 none m) (valO (ahB S f t m c) (some D) g 30 none m) (lnF (ahB S f t m c) 30 none m) m).2 = sq at *
  refine ⟨fun z => tail _ ?_, fun z => ⟨fun z2 => tail _ ?_, fun z2 => tail _ ?_⟩⟩
  · unfold ahV
    rw [hrv rfl]
    cases sq with
    | none => exact (sub0L _).symm
    | some r =>
      simp only [acI] at z
      rw [ti_lt, ti_nI (by have := cnt r rfl; omega)] at z
      have : (0 : Int32).toInt = 0 := rfl
      omega
  · unfold ahV
    rw [hrv rfl]
    cases sq with
    | none => exact (sub0L _).symm
    | some r =>
      rw [v41 r rfl] at z2
      show _ = _ - mxL 0 r.2.1
      rw [mxL_le z2]
      exact (sub0L _).symm
  · unfold ahV
    rw [hrv rfl]
    cases sq with
    | none => exact absurd (show (-1 : Int32) < 0 by decide) z
    | some r =>
      rw [v41 r rfl] at z2 ⊢
      show _ = _ - mxL 0 r.2.1
      rw [mxL_gt z2]
end AR
