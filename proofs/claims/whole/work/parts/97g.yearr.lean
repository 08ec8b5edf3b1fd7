/-! ===== years: the reference ===== -/
def YrI (y a k : Nat) : Prop := (a = y + 13 ∧ (k = 3 ∨ k = 4 ∨ (1608 ≤ k ∧ k < 2256))) ∨ (a = y ∧ (k = 27 ∨ (31 ≤ k ∧ k ≤ 36)))
section YR
variable {G : GG} {d : Nat} {h : HP} {y : Nat} {S S' : Nat → Int32} {C : List Cla} {jn : Prop} {l c : Nat} {Q : Option Value → HP → Prop}
theorem said_4 (h : HP) (y : Nat) (v : Int32) : said (sI h (y + 13) 4 v) y = setS (said h y) 4 v := funext fun j => by
  unfold said setS
  rw [hI_sI]
  by_cases e : j = 4
  · rw [if_pos ⟨rfl, e⟩, if_pos e]
  · rw [if_neg (fun q => e q.2), if_neg e]
theorem said_3 (h : HP) (y : Nat) (v : Int32) : said (sI h (y + 13) 3 v) y = setS (said h y) 3 v := funext fun j => by
  unfold said setS
  rw [hI_sI]
  by_cases e : j = 3
  · rw [if_pos ⟨rfl, e⟩, if_pos e]
  · rw [if_neg (fun q => e q.2), if_neg e]
theorem r_year204 (M : MdSh G h y) (hc : c ≤ 1) (hQ : FrI (fun a k => a = y + 13 ∧ k = 3) h (sI h (y + 13) 3 (said h y 3 + 1)) → Q (some (.int (nI c))) (sI h (y + 13) 3 (said h y 3 + 1))) : Ex G d mX12_year 204 [(0, .ref y), (1, .int (nI l)), (2, .int (nI c))] [] h Q := by
  obtain ⟨m1, m2, m3⟩ := M.sd
  exact t_X12_year_204 ⟨M.1, y + 13, m1, m2, by rw [m3]; exact vin_nI (k := 3) (by omega) (by omega), by rw [m3]; exact vin_nI (k := 3) (by omega) (by omega), hQ (FrI.sI _ _ ⟨rfl, rfl⟩)⟩
theorem r_year36 (hd : 4 ≤ d) (M : MdSh G h y) (W : WF (said h y)) {x1 x3 : Int32} {t : Nat} (hQ : ∀ x4 x6, Ex G d mX12_year 87 [(0, .ref y), (1, .int x1), (2, .int 0), (3, .int x3), (4, .int x4), (5, .int (nI t)), (6, .int x6)] [] h Q) : ∀ (n i k : Nat), i + n = 30 → k < 2147483648 → oaF (outB (tS (said h y))) k i n = some t → Ex G d mX12_year 36 [(0, .ref y), (1, .int x1), (2, .int 0), (3, .int x3), (4, .int (nI k)), (5, .int (-1)), (6, .int (nI i))] [] h Q := by
  intro n
  induction n with
  | zero =>
    intro i k hi hk ho
    cases ho
  | succ n ih =>
    intro i k hi hk ho
    simp only [oaF] at ho
    refine t_X12_year_36 (by omega) ⟨fun q => absurd q (n30_not (by omega)), fun _ => ⟨fun q => absurd q (by decide), fun _ => ⟨M.1, m_isThing M W (by omega) (fun c => ⟨_, rfl, fun _ => ?_, fun q => absurd rfl q⟩) (fun u hu eu w => ⟨_, rfl, fun q => absurd q (by decide), fun _ => r_isOuter (by omega) M (t := i) (ti_nI (by omega)) (by omega) ⟨_, rfl, ?_⟩⟩)⟩⟩⟩
    · have nb : ¬ outB (tS (said h y)) i = true := fun q => by
        refine c ⟨i, by omega, rfl, ?_⟩
        rcases W.2.2.1 i (by omega) with z | z
        · unfold outB at q
          rw [z] at q
          simp at q
        · exact z
      rw [if_neg nb] at ho
      rw [nI_S]
      exact ih (i + 1) k (by omega) hk ho
    · obtain rfl : i = u := (nI_eq_iff (by omega) (by omega)).mp eu
      have nx : nI i + 1 = nI (i + 1) := nI_S i
      rw [nx]
      have eo : outB (tS (said h y)) i = true ↔ tS (said h y) i 6 = -1 := by
        unfold outB
        rw [w]
        simp
      by_cases c : sd h y i 6 = -1
      · rw [if_pos c]
        rw [if_pos (eo.mpr c)] at ho
        refine ⟨fun _ => ⟨fun z => ?_, fun z => ?_⟩, fun q => absurd q (by decide)⟩
        · have k0 : k ≠ 0 := fun e => z (by rw [e]; rfl)
          rw [if_neg k0] at ho
          rw [nI_P (by omega) hk]
          exact ih (i + 1) (k - 1) (by omega) (by omega) ho
        · have k0 : k = 0 := (nI_eq_iff (b := 0) hk (by omega)).mp z
          rw [if_pos k0] at ho
          obtain rfl := Option.some.inj ho
          refine t_X12_year_36 (by omega) ⟨fun _ => hQ _ _, fun _ => ⟨fun _ => hQ _ _, fun q => ?_⟩⟩
          refine absurd ?_ q
          have z0 : (0 : Int32).toInt = 0 := rfl
          rw [ti_le, ti_nI (by omega), z0]
          omega
      · rw [if_neg c]
        rw [if_neg (fun q => c (eo.mp q))] at ho
        exact ⟨fun q => absurd rfl q, fun _ => ih (i + 1) k (by omega) hk ho⟩
theorem r_year (hd : 8 ≤ d) (M : MdSh G h y) (eS : said h y = S) (W : WF S) (hy : (S 3).toInt ≤ 20000) (hl : l < 6) (L : LawR h y l (C.filter (fun q => q.1 != 15))) (hj : hI h (y + 7) l = 1 ↔ jn) (k16 : ∀ q ∈ C, q.1 ≠ 16) (Y : Yr C jn S S' c) (hQ : ∀ h2, FrS (YrI y) (CnL y) h h2 → said h2 y = S' → Q (some (.int (nI c))) h2) : Cal G d mX12_year [.ref y, .int (nI l)] h Q := by
  obtain ⟨S1, Y, rfl⟩ := Y
  have hc := Y.le
  obtain ⟨m1, m2, m3⟩ := M.sd
  have z0 : (0 : Int32).toInt = 0 := rfl
  have e2 : hI h (y + 13) 2 = S 2 := by rw [← eS]; rfl
  -- the end of a year
  have fin : ∀ h1, FrS (YrI y) (CnL y) h h1 → said h1 y = S1 → Ex G d mX12_year 204 [(0, .ref y), (1, .int (nI l)), (2, .int (nI c))] [] h1 Q := fun h1 F1 e1 => r_year204 (M.fs F1) hc (fun F2 => hQ _ (F1.tr ((F2.s _).weak (fun a k q => Or.inl ⟨q.1, Or.inl q.2⟩) (fun _ _ q => q))) (by rw [said_3, e1]))
  refine e_X12_year (by omega) ⟨M.1, y + 13, m1, m2, by rw [m3]; exact vin_nI (k := 2) (by omega) (by omega), fun q => ?_, fun q => ?_⟩
  · rw [e2, ti_le, z0] at q
    rcases Y with ⟨-, rfl, rfl⟩ | ⟨hp, -⟩
    · exact fin h (frS_rf _ _ _) eS
    · omega
  rw [e2, ti_le, z0] at q
  rcases Y with ⟨np, -⟩ | ⟨hp, t, ot, ht, t0, Y⟩
  · omega
  obtain ⟨e4, n31⟩ := wf_sed W
  have nc := W.nest hp
  have cl := cntF_le (outB (tS S)) 30 0
  have l1 := dI_lt (k := 1) n31
  have l2 := dI_lt (k := 2) n31
  have l3 := dI_lt (k := 3) n31
  have l4 := dI_lt (k := 4) n31
  have l5 := dI_lt (k := 5) n31
  have l6 := dI_lt (k := 6) n31
  have st : ∀ (g : HP) (v : Int32), FrI (fun a k => a = y + 13 ∧ k = 4) g (sI g (y + 13) 4 v) := fun g v => FrI.sI _ _ ⟨rfl, rfl⟩
  refine r_draw M n31 (by rw [eS]; exact e4) ⟨_, rfl, r_draw (n := dI 1 (sed S)) (M.fr (st _ _)) l1 (by rw [said_4, setS_eq, dI_1]) ⟨_, rfl, ?_⟩⟩
  generalize e1' : sI h (y + 13) 4 (nI (dN (sed S))) = h1
  generalize e2' : sI h1 (y + 13) 4 (nI (dN (dI 1 (sed S)))) = h2
  have F2 : FrI (fun a k => a = y + 13 ∧ k = 4) h h2 := by
    rw [← e2', ← e1']
    exact (st _ _).tr (st _ _)
  have M2 := M.fr F2
  have eS2 : said h2 y = setS S 4 (nI (dI 2 (sed S))) := by rw [← e2', said_4, ← e1', said_4, setS_set, eS, dI_S]
  have W2 : WF (said h2 y) := by
    rw [eS2]
    exact W.set (Or.inr rfl) (by rw [ti_nI l2]; omega)
  have t2 : tS (said h2 y) = tS S := by rw [eS2, tS_setS (by omega)]
  have en : cntF (outB (sd h2 y)) 0 30 = cntF (outB (tS S)) 0 30 := by
    rw [sd_tS, t2]
  refine r_nestMany (by omega) M2 W2.2.2.1 ⟨_, rfl, ?_, ?_⟩
  · rw [en]
    intro q
    have := (nI_eq_iff (b := 0) (by omega) (by omega)).mp q
    omega
  rw [en]
  have fam : irm (nI (dN (sed S) / 65536)) 12 = nI (dV S 1 % 12) := by
    rw [dI_1]
    unfold dV
    exact nR (m := 12) (by omega) (by omega)
  have lft : irm (nI (dN (dI 1 (sed S)) / 65536)) (nI (cntF (outB (tS S)) 0 30)) = nI (dV S 2 % cntF (outB (tS S)) 0 30) := by
    have l2' : dI (1 + 1) (sed S) < 2147483648 := l2
    rw [dI_S]
    unfold dV
    exact nR (by omega) (by omega)
  rw [fam, lft]
  have ml := Nat.mod_lt (dV S 2) nc
  refine r_year36 (by omega) M2 W2 (fun x4 x6 => ?_) 30 0 (dV S 2 % cntF (outB (tS S)) 0 30) rfl (by omega) (by rw [t2]; exact ot)
  refine t_X12_year_87 (by omega) ⟨M2.1, r_draw (n := dI 2 (sed S)) M2 l2 (by rw [eS2, setS_eq]) ⟨_, rfl, r_draw (n := dI 3 (sed S)) (M2.fr (st _ _)) l3 (by rw [said_4, setS_eq, dI_S]) ⟨_, rfl, ?_⟩⟩⟩
  generalize e3' : sI h2 (y + 13) 4 (nI (dN (dI 2 (sed S)))) = h3
  generalize e4' : sI h3 (y + 13) 4 (nI (dN (dI 3 (sed S)))) = h4
  have F4 : FrI (fun a k => a = y + 13 ∧ k = 4) h h4 := by
    rw [← e4', ← e3']
    exact (F2.tr (st _ _)).tr (st _ _)
  have M4 := M.fr F4
  have eS4 : said h4 y = setS S 4 (nI (dI 4 (sed S))) := by rw [← e4', said_4, ← e3', said_4, setS_set, eS2, setS_set, dI_S]
  refine r_draw (n := dI 4 (sed S)) M4 l4 (by rw [eS4, setS_eq]) ⟨_, rfl, r_draw (n := dI 5 (sed S)) (M4.fr (st _ _)) l5 (by rw [said_4, setS_eq, dI_S]) ⟨_, rfl, ?_⟩⟩
  generalize e5' : sI h4 (y + 13) 4 (nI (dN (dI 4 (sed S)))) = h5
  generalize e6' : sI h5 (y + 13) 4 (nI (dN (dI 5 (sed S)))) = h6
  have F6 : FrI (fun a k => a = y + 13 ∧ k = 4) h h6 := by
    rw [← e6', ← e5']
    exact (F4.tr (st _ _)).tr (st _ _)
  have M6 := M.fr F6
  have eS6 : said h6 y = yS1 S := by
    rw [← e6', said_4, ← e5', said_4, setS_set, eS4, setS_set, dI_S]
    rfl
  have t6 : tS (said h6 y) = tS S := by rw [eS6, tS_y]
  have tk : ∀ k, sd h6 y t k = tS S t k := fun k => by rw [sd_tS, t6]
  refine r_of (by omega) M6 (t := t) (ti_nI (by omega)) (by omega) (k := 1) rfl (by omega) ⟨_, rfl, r_of (by omega) M6 (t := t) (ti_nI (by omega)) (by omega) (k := 2) rfl (by omega) ⟨_, rfl, r_of (by omega) M6 (t := t) (ti_nI (by omega)) (by omega) (k := 3) rfl (by omega) ⟨_, rfl, r_of (by omega) M6 (t := t) (ti_nI (by omega)) (by omega) (k := 4) rfl (by omega) ⟨_, rfl, ?_⟩⟩⟩⟩
  have m3' : ∀ k, 1 + irm (nI (dN (dI k (sed S)) / 65536)) 3 = nI (1 + dV S (k + 1) % 3) := fun k => by
    have := dI_lt (k := k + 1) n31
    have e : irm (nI (dI (k + 1) (sed S) / 65536)) 3 = nI (dI (k + 1) (sed S) / 65536 % 3) := nR (m := 3) (by omega) (by omega)
    have one : (1 : Int32) = nI 1 := rfl
    rw [dI_S, e, one, nA]
    unfold dV
    rfl
  rw [m3' 2, m3' 3, m3' 4, m3' 5, tk, tk, tk, tk]
  refine r_thinks (ob := none) (a := t) M6 (fun h7 F7 TW => ⟨rfl, ?_⟩)
  have eS7 : said h7 y = yS1 S := (funext fun j => F7.i (by omega)).trans eS6
  have M7 := M6.fr F7
  have FS7 : FrS (YrI y) (CnL y) h h7 := ((F6.s _).weak (fun a k q => Or.inl ⟨q.1, Or.inr (Or.inl q.2)⟩) (fun _ _ q => q)).tr ((F7.s _).weak (fun a k q => Or.inr ⟨q.1, Or.inr q.2⟩) (fun _ _ q => q))
  refine r_frN (by omega) M7 ⟨_, rfl, fun z => ?_, fun z => ?_⟩
  · rw [eS7, tS_y] at z
    have on : frN (tS S) = none := (onI_neg (fun w q => by have := (frN_free W q).2.1; omega)).mp z
    rcases Y with ⟨-, rfl, rfl⟩ | ⟨w, hw, -⟩
    · exact fin h7 FS7 eS7
    · rw [on] at hw
      cases hw
  rcases Y with ⟨hw, -⟩ | ⟨w, hw, Y⟩
  · rw [eS7, tS_y, hw] at z
    exact absurd rfl z
  obtain ⟨w6, w30, w0⟩ := frN_free W hw
  have W7 : WF (yS1 S) := yS1_wf W
  have W7r : WfR (said h7 y) := by
    rw [eS7]
    exact W7.r (by show (setS S 4 _ 3).toInt ≤ 20000; rw [setS_ne (by omega)]; exact hy)
  have ft : dV S 1 % 12 < 12 := Nat.mod_lt _ (by omega)
  refine r_canCome (by omega) M7 W7r TW ft (by omega) (by rw [eS7, tS_y]; exact t0) (fun c q => by cases q) (L.fs FS7 (fun a k q => by unfold YrI at q; omega)) (fun q hq => k16 q (mem_f hq).1) (fun h8 v F8 b01 ev => ⟨_, rfl, ?_⟩)
  rw [canV_f, eS7] at ev
  have ev' : v = 1 ↔ yCan C jn S t := by
    have e7 : hI h7 (y + 7) l = hI h (y + 7) l := FS7.i (by unfold YrI; omega)
    rw [ev, e7]
    constructor
    · intro ⟨c1, c2, c3⟩
      exact ⟨c1, fun z => hj.mp (c2 z), c3⟩
    · intro ⟨c1, c2, c3⟩
      exact ⟨c1, fun z => hj.mpr (c2 z), c3⟩
  have F8' : FrS (YrI y) (CnL y) h7 h8 := F8.weak (fun a k q => by unfold RkI at q; exact Or.inr ⟨q.1, Or.inl q.2⟩) (fun _ _ q => q)
  have eS8 : said h8 y = yS1 S := (funext fun j => F8.i (by unfold RkI; omega)).trans eS7
  refine ⟨fun zv => ?_, fun zv => ?_⟩
  · rcases Y with ⟨cv, -⟩ | ⟨-, rfl, rfl⟩
    · have := ev'.mpr cv
      rw [zv] at this
      exact absurd this (by decide)
    · exact fin h8 (FS7.tr F8') eS8
  · rcases Y with ⟨cv, rfl, rfl⟩ | ⟨ncv, -⟩
    · have TW8 : ThW h8 y (yX S t) (yZ S t) (yTX S t) (yTZ S t) t none := by
        have e : ∀ k, 31 ≤ k ∧ k ≤ 36 → hI h8 y k = hI h7 y k := fun k hk => F8.i (by unfold RkI; omega)
        unfold ThW
        rw [e _ (by omega), e _ (by omega), e _ (by omega), e _ (by omega), e _ (by omega), e _ (by omega)]
        exact TW
      rw [eS7, tS_y, hw]
      have nw : t ≠ w := fun q => by
        rw [q, w0] at t0
        exact absurd t0 (by decide)
      refine r_builds (w := w) (by omega) (M7.fs F8) TW8 (by omega) (by omega) (fun c q => by cases q) nw (fun q => by cases q) (fun h9 F9 e9 => ⟨rfl, ?_⟩)
      refine fin h9 ((FS7.tr F8').tr ((F9.s _).weak (fun a k q => Or.inl ⟨q.1, Or.inr (Or.inr q.2)⟩) (fun _ _ q => q))) ?_
      rw [e9, eS8]
    · exact absurd (ev'.mp (b01.resolve_left zv)) ncv
end YR
