/-! ===== a land is read by the reference: all of it ===== -/
section LS1
variable {B : Nat → Int32} {n p : Nat}
theorem sg_of {c : Int32} (hp : p < n) (e : B p = c) (hL : isL c = false) (hD : isD c = false) (h1 : c ≠ 60) (h2 : c ≠ 62) : kdT B n p = 3 ∧ vlT B n p = c ∧ nxT B n p = p + 1 := by
  have np : ¬ n ≤ p := by omega
  have nw : ¬ wdeB B n p = true := by
    unfold wdeB
    rw [decide_eq_true_eq, e]
    exact fun q => q.1.elim h1 h2
  have l : ¬ isL (B p) = true := by rw [e, hL]; decide
  have dd : ¬ isD (B p) = true := by rw [e, hD]; decide
  refine ⟨?_, ?_, ?_⟩
  · unfold kdT
    rw [if_neg np, if_neg l, if_neg dd]
  · unfold vlT
    rw [if_neg np, if_neg l, if_neg dd, if_neg nw, e]
  · unfold nxT
    rw [if_neg np, if_neg l, if_neg dd, if_neg nw]
theorem of_sg {c : Int32} (k : kdT B n p = 3) (v : vlT B n p = c) (h1 : c ≠ 256) (h2 : c ≠ 257) : p < n ∧ B p = c := by
  by_cases np : n ≤ p
  · unfold kdT at k
    rw [if_pos np] at k
    omega
  · refine ⟨by omega, ?_⟩
    unfold kdT at k
    rw [if_neg np] at k
    by_cases l : isL (B p) = true
    · rw [if_pos l] at k
      omega
    · rw [if_neg l] at k
      by_cases dd : isD (B p) = true
      · rw [if_pos dd] at k
        omega
      · unfold vlT at v
        rw [if_neg np, if_neg l, if_neg dd] at v
        split at v
        · split at v
          · exact absurd v.symm h1
          · exact absurd v.symm h2
        · exact v
theorem kd0_iff : kdT B n p = 0 ↔ n ≤ p := by
  unfold kdT
  by_cases np : n ≤ p
  · rw [if_pos np]
    exact ⟨fun _ => np, fun _ => rfl⟩
  · rw [if_neg np]
    refine ⟨fun q => ?_, fun q => absurd q np⟩
    split at q
    · omega
    · split at q <;> omega
end LS1
section LS2
variable {G : GG} {d : Nat} {y : Nat} {B : Nat → Int32} {n : Nat} {Q : Option Value → HP → Prop}
theorem RQ.w {R : Nat ⊕ LSt} {h h1 : HP} {m : Nat} (W : RQ G y B n m R h Q) (F : FrI (LrF y) h h1) : RQ G y B n m R h1 Q := ⟨fun e he h2 F2 f2 => W.1 e he h2 (F.tr F2) f2, fun t ht h2 F2 L2 => W.2 t ht h2 (F.tr F2) L2⟩
theorem RQ.bz {R : Nat ⊕ LSt} {h : HP} {m : Nat} (W : RQ G y B n m R h Q) : RQ G y B n m R h (fun r h2 => ∃ v, r = some (.int v) ∧ ((v = 0 ∨ v = 1) ∧ Q (some (.int v)) h2)) := ⟨fun e he h2 F2 f2 => ⟨_, rfl, Or.inl rfl, W.1 e he h2 F2 f2⟩, fun t ht h2 F2 L2 => ⟨_, rfl, Or.inr rfl, W.2 t ht h2 F2 L2⟩⟩
theorem r_clauseL {h : HP} {s : LSt} {c : Nat} (hd : 5 ≤ d) (hc : c ≤ 24) (LP : LsP B n s) (L : LdR G h y B n s c) (R : RQ G y B n (c + 1) (clsL B n s c) h Q) : Cal G d mX12_clauseHere [.ref y] h Q := by
  have wd : ∀ (D k : Nat) (w : Int64) (h' : HP) (Q' : Option Value → HP → Prop), 1 ≤ D → k < 23 → w = Int64.ofNat (pkL (wds.getD k [])) → RdE G h' y B n s.1 → (∀ h2, FrI (F13 y) h' h2 → RdE G h2 y B n s.1 → kdT B n s.1 = 1 → vlT B n s.1 = nI k → Q' (some (.int 1)) h2) → (∀ h2, FrI (F13 y) h' h2 → RdE G h2 y B n s.1 → ¬ (kdT B n s.1 = 1 ∧ vlT B n s.1 = nI k) → Q' (some (.int 0)) h2) → Cal G D mX12_isWord [.ref y, .long w] h' Q' := fun D k w h' Q' hD hk hw E a b => r_isWord hD E.x hk hw (fun x1 x2 h2 F2 E2 => a h2 F2 E2 x1 x2) (fun x h2 F2 E2 => b h2 F2 E2 x)
  have l16 : ∀ h', FrI (F13 y) h h' → hI h' y 16 = 12 ∧ hI h' y 14 = 0 ∧ hI h' y 19 = nI c := fun h' F => ⟨(F.i (by unfold F13; omega)).trans L.2.1.2.1, (F.i (by unfold F13; omega)).trans L.2.1.1, (F.i (by unfold F13; omega)).trans L.2.1.2.2⟩
  have bad : ∀ (k : Nat) (x : Int32) h', x = nI k → FrI (F13 y) h h' → RdE G h' y B n s.1 → clsL B n s c = .inl (1 + 8 * s.1 + k) → Cal G (d - 1) mX12_fails [.ref y, .int x, .int (nI s.1)] h' (fun r4 h5 => ∃ v8, r4 = some (.int v8) ∧ ((v8 = 0 ∨ v8 = 1) ∧ Q (some (.int v8)) h5)) := fun k x h' hx F E e => r_fails E.1 (l16 h' F).2.1 hx ⟨_, rfl, Or.inl rfl, R.1 _ e _ ((F.weak (fun a k z => ay_lr (f13_ay z))).tr (FrI.sI (P := LrF y) h' _ (Or.inl ⟨rfl, by omega⟩))) (hI_eq _ _ _ _)⟩
  have K179 : ∀ h' x2 x3 x4, FrI (F13 y) h h' → RdE G h' y B n s.1 → knL B n s.1 → Ex G d mX12_clauseHere 179 [(0, .ref y), (1, .int (nI s.1)), (2, .int x2), (3, .int x3), (4, .int x4)] [.int 24, .int (nI c)] h' Q := fun h' x2 x3 x4 F E kn => by
    refine t_X12_clauseHere_179 (by omega) ⟨fun nz => ⟨E.1.1, fun z => ?_, fun _ => ?_⟩, fun z => ⟨E.1.1, bad 4 4 h' rfl F E (cl_b4 kn (Or.inl ?_))⟩⟩
    · rw [hI_ne _ _ (Or.inr (by omega))] at z
      exact absurd (l16 h' F).1 z
    rotate_left
    · have := (nI_eq_iff (b := 24) (by omega) (by omega)).mp z
      omega
    have c24 : ¬ 24 ≤ c := fun q => nz (by rw [show c = 24 by omega]; rfl)
    have e19 : hI h' y 19 = nI c := (l16 h' F).2.2
    rw [e19, nI_S]
    generalize g2 : sI h' y 19 (nI (c + 1)) = h2
    have F2 : FrI (fun a k => a = y ∧ k = 19) h' h2 := by
      rw [← g2]
      exact FrI.sI h' _ ⟨rfl, rfl⟩
    have E2 : RdE G h2 y B n s.1 := E.fi F2 (fun a k z => by omega)
    have LE : LdR G h' y B n s c := L.fr F (fun a k z => f13_ay z) E.x (l16 h' F).2.1
    have L2 : LdR G h2 y B n s (c + 1) := by
      obtain ⟨l0, ⟨l1, l2, l3⟩, l4, l5, l6, l7⟩ := LE
      have ei : ∀ a k, ¬ (a = y ∧ k = 19) → hI h2 a k = hI h' a k := fun a k ha => F2.i ha
      refine ⟨E2.x, ⟨(ei _ _ (by omega)).trans l1, (ei _ _ (by omega)).trans l2, by rw [← g2, hI_eq]⟩, ?_, (ei _ _ (by omega)).trans l5, fun c hc => (ei _ _ (by omega)).trans (l6 c hc), fun i a ha => ?_⟩
      · rw [ei _ _ (by omega), ei y 9 (by omega)]
        exact l4
      · have := l7 i a ha
        have e : ∀ k, hI h2 (y + 9) k = hI h' (y + 9) k := fun k => ei _ _ (by omega)
        unfold hsR at *
        simp only [e]
        exact this
    have FL2 : FrI (LrF y) h h2 := (F.weak (fun a k z => ay_lr (f13_ay z))).tr (F2.weak (fun a k z => Or.inl ⟨z.1, by omega⟩))
    have ld : ∀ h3, FrI (F13 y) h2 h3 → RdE G h3 y B n s.1 → LdR G h3 y B n s (c + 1) ∧ RQ G y B n (c + 1) (clsL B n s c) h3 (fun r h2 => ∃ v, r = some (.int v) ∧ ((v = 0 ∨ v = 1) ∧ Q (some (.int v)) h2)) := fun h3 F3 E3 => ⟨L2.fr F3 (fun a k z => f13_ay z) E3.x ((F3.i (by unfold F13; omega)).trans L2.2.1.1), (R.w (FL2.tr (F3.weak (fun a k z => ay_lr (f13_ay z))))).bz⟩
    refine wd _ 20 _ _ _ (by omega) (by omega) (by decide) E2 (fun h3 F3 E3 k1 v => ⟨_, rfl, fun z => absurd z (by decide), fun _ => ?_⟩) (fun h3 F3 E3 n20 => ⟨_, rfl, fun _ => ?_, fun z => absurd rfl z⟩)
    · obtain ⟨L3, R3⟩ := ld h3 F3 E3
      cases hw : s.2.2.2.1
      · rw [cl_20 k1 v (fun t => by
          rcases t with t | t | t
          · exact c24 t
          · rw [hw] at t
            cases t.2
          · rw [v] at t
            exact absurd t.1 (by decide))] at R3
        exact r_widensHere (by omega) E3 k1 L3 hw R3
      · have l8 : hI h3 y 8 = nI s.2.1 := by
          rcases L3.2.2.1 with q | q
          · exact q.2.1
          · rw [hw] at q
            cases q.1
        have s40 := LP.2.1
        refine e_X12_widens (by omega) ⟨E3.1.1, fun z => ?_, fun _ => r_fails E3.1 L3.2.1.1 (k := 4) rfl ⟨_, rfl, Or.inl rfl, R3.1 _ (cl_b4 kn (Or.inr (Or.inl ⟨v, hw⟩))) _ (FrI.sI (P := LrF y) h3 _ (Or.inl ⟨rfl, by omega⟩)) (hI_eq _ _ _ _)⟩⟩
        rw [l8] at z
        exact absurd ((nI_lt_iff (b := 0) (by omega) (by omega)).mp z) (by omega)
    refine wd _ 4 _ _ _ (by omega) (by omega) (by decide) E3 (fun h4 F4 E4 k1 v => ⟨_, rfl, fun z => absurd z (by decide), fun _ => ?_⟩) (fun h4 F4 E4 n4 => ⟨_, rfl, fun _ => ?_, fun z => absurd rfl z⟩)
    · obtain ⟨L4, R4⟩ := ld h4 (F3.tr F4) E4
      rw [cl_4 k1 v (fun t => by
        rcases t with t | t | t
        · exact c24 t
        · rw [v] at t
          exact absurd t.1 (by decide)
        · rw [v] at t
          exact absurd t.1 (by decide))] at R4
      exact r_isWorthy (by omega) E4 k1 L4 R4
    refine wd _ 6 _ _ _ (by omega) (by omega) (by decide) E4 (fun h5 F5 E5 k1 v => ⟨_, rfl, fun z => absurd z (by decide), fun _ => ?_⟩) (fun h5 F5 E5 n6 => ⟨_, rfl, fun _ => ?_, fun z => absurd rfl z⟩)
    · obtain ⟨L5, R5⟩ := ld h5 ((F3.tr F4).tr F5) E5
      rw [cl_6 k1 v (fun t => by
        rcases t with t | t | t
        · exact c24 t
        · rw [v] at t
          exact absurd t.1 (by decide)
        · rw [v] at t
          exact absurd t.1 (by decide))] at R5
      exact r_riverHere (by omega) E5 k1 L5 R5
    refine wd _ 21 _ _ _ (by omega) (by omega) (by decide) E5 (fun h6 F6 E6 k1 v => ⟨_, rfl, fun z => absurd z (by decide), fun _ => ?_⟩) (fun h6 F6 E6 n21 => ⟨_, rfl, fun _ => ?_, fun z => absurd rfl z⟩)
    · obtain ⟨L6, R6⟩ := ld h6 (((F3.tr F4).tr F5).tr F6) E6
      rw [cl_21 k1 v (fun t => by
        rcases t with t | t | t
        · exact c24 t
        · rw [v] at t
          exact absurd t.1 (by decide)
        · rw [v] at t
          exact absurd t.1 (by decide))] at R6
      exact r_wellHere (by omega) E6 k1 L6 R6
    · obtain ⟨L6, R6⟩ := ld h6 (((F3.tr F4).tr F5).tr F6) E6
      obtain ⟨k1, v⟩ := kn
      have v22 : vlT B n s.1 = 22 := by
        rcases v with v | v | v | v | v
        · exact absurd ⟨k1, v⟩ n20
        · exact v
        · exact absurd ⟨k1, v⟩ n4
        · exact absurd ⟨k1, v⟩ n6
        · exact absurd ⟨k1, v⟩ n21
      by_cases h6' : 6 ≤ s.2.2.2.2.2.length
      · refine e_X12_isHouseHere (by omega) ⟨E6.1.1, fun z => absurd ?_ z, fun _ => r_fails E6.1 L6.2.1.1 (k := 4) rfl ⟨_, rfl, Or.inl rfl, R6.1 _ (cl_b4 ⟨k1, Or.inr (Or.inl v22)⟩ (Or.inr (Or.inr ⟨v22, h6'⟩))) _ (FrI.sI (P := LrF y) h6 _ (Or.inl ⟨rfl, by omega⟩)) (hI_eq _ _ _ _)⟩⟩
        rw [L6.2.2.2.1, show s.2.2.2.2.2.length = 6 by have := LP.2.2.2.2.1; omega]
        rfl
      · rw [cl_22 k1 v22 (fun t => by
          rcases t with t | t | t
          · exact c24 t
          · rw [v22] at t
            exact absurd t.1 (by decide)
          · exact h6' t.2)] at R6
        exact r_houseHere (by omega) E6 k1 L6 (by omega) LP.2.2.2.2.2.1 R6
  have K145 : ∀ h' x2 x3, FrI (F13 y) h h' → RdE G h' y B n s.1 → ((x2 = 1 ∧ knL B n s.1) ∨ (x2 = 0 ∧ ¬ knL B n s.1)) → Ex G d mX12_clauseHere 145 [(0, .ref y), (1, .int (nI s.1)), (2, .int x2), (3, .int x3)] [.int x2] h' Q := fun h' x2 x3 F E cs => by
    obtain ⟨q1, q2, q3⟩ := l16 h' F
    refine t_X12_clauseHere_145 (by omega) ⟨fun nz => ⟨E.1.1, fun z => absurd q1 z, fun _ => ?_⟩, fun z => ⟨E.1.1, bad 0 0 h' rfl F E (cl_b0 ?_)⟩⟩
    · rw [q3]
      rcases cs with ⟨-, kn⟩ | ⟨e, -⟩
      · exact K179 h' x2 x3 x2 F E kn
      · exact absurd e nz
    · rcases cs with ⟨e, -⟩ | ⟨-, kn⟩
      · rw [z] at e
        exact absurd e (by decide)
      · exact kn
  have K111 : ∀ h' x2 x, FrI (F13 y) h h' → RdE G h' y B n s.1 → ((x2 = 1 ∧ knL B n s.1) ∨ (x2 = 0 ∧ ¬ knL B n s.1)) → Ex G d mX12_clauseHere 111 [(0, .ref y), (1, .int (nI s.1)), (2, .int x2)] [.int x] h' Q := fun h' x2 x F E cs => t_X12_clauseHere_111 (by omega) ⟨E.1.1, fun z => absurd (l16 h' F).1 z, fun _ => K145 h' x2 x F E cs⟩
  have K65 : ∀ h' x2, FrI (F13 y) h h' → RdE G h' y B n s.1 → ((x2 = 1 ∧ knL B n s.1) ∨ (x2 = 0 ∧ ¬ knL B n s.1)) → Ex G d mX12_clauseHere 65 [(0, .ref y), (1, .int (nI s.1))] [.int x2] h' Q := fun h' x2 F E cs => t_X12_clauseHere_65 (by omega) ⟨E.1.1, wd _ 12 _ _ _ (by omega) (by omega) (by decide) E (fun h3 F3 E3 _ _ => ⟨_, rfl, fun _ => K111 h3 x2 1 (F.tr F3) E3 cs, fun z => absurd z (by decide)⟩) (fun h3 F3 E3 _ => ⟨_, rfl, fun z => absurd rfl z, fun _ => wd _ 13 _ _ _ (by omega) (by omega) (by decide) E3 (fun h4 F4 E4 _ _ => ⟨_, rfl, fun _ => K111 h4 x2 1 ((F.tr F3).tr F4) E4 cs, fun z => absurd z (by decide)⟩) (fun h4 F4 E4 _ => ⟨_, rfl, fun z => absurd rfl z, fun _ => wd _ 14 _ _ _ (by omega) (by omega) (by decide) E4 (fun h5 F5 E5 _ _ => ⟨_, rfl, fun _ => K111 h5 x2 1 (((F.tr F3).tr F4).tr F5) E5 cs, fun z => absurd z (by decide)⟩) (fun h5 F5 E5 _ => ⟨_, rfl, fun z => absurd rfl z, fun _ => wd _ 15 _ _ _ (by omega) (by omega) (by decide) E5 (fun h6 F6 E6 _ _ => ⟨_, rfl, fun z => absurd z (by decide), fun _ => K111 h6 x2 1 ((((F.tr F3).tr F4).tr F5).tr F6) E6 cs⟩) (fun h6 F6 E6 _ => ⟨_, rfl, fun _ => K111 h6 x2 0 ((((F.tr F3).tr F4).tr F5).tr F6) E6 cs, fun z => absurd rfl z⟩)⟩)⟩)⟩)⟩
  refine e_X12_clauseHere (by omega) ⟨L.1.1.1, r_see L.1 (fun h2 F2 E2 => ⟨_, rfl, ?_⟩)⟩
  rw [E2.2.2.1]
  refine wd _ 20 _ _ _ (by omega) (by omega) (by decide) E2 (fun h3 F3 E3 k1 v => ⟨_, rfl, fun _ => K65 h3 1 (F2.tr F3) E3 (Or.inl ⟨rfl, k1, Or.inl v⟩), fun z => absurd z (by decide)⟩) (fun h3 F3 E3 n20 => ⟨_, rfl, fun z => absurd rfl z, fun _ => ?_⟩)
  refine wd _ 4 _ _ _ (by omega) (by omega) (by decide) E3 (fun h4 F4 E4 k1 v => ⟨_, rfl, fun _ => K65 h4 1 ((F2.tr F3).tr F4) E4 (Or.inl ⟨rfl, k1, Or.inr (Or.inr (Or.inl v))⟩), fun z => absurd z (by decide)⟩) (fun h4 F4 E4 n4 => ⟨_, rfl, fun z => absurd rfl z, fun _ => ?_⟩)
  refine wd _ 6 _ _ _ (by omega) (by omega) (by decide) E4 (fun h5 F5 E5 k1 v => ⟨_, rfl, fun _ => K65 h5 1 (((F2.tr F3).tr F4).tr F5) E5 (Or.inl ⟨rfl, k1, Or.inr (Or.inr (Or.inr (Or.inl v)))⟩), fun z => absurd z (by decide)⟩) (fun h5 F5 E5 n6 => ⟨_, rfl, fun z => absurd rfl z, fun _ => ?_⟩)
  refine wd _ 21 _ _ _ (by omega) (by omega) (by decide) E5 (fun h6 F6 E6 k1 v => ⟨_, rfl, fun _ => K65 h6 1 ((((F2.tr F3).tr F4).tr F5).tr F6) E6 (Or.inl ⟨rfl, k1, Or.inr (Or.inr (Or.inr (Or.inr v)))⟩), fun z => absurd z (by decide)⟩) (fun h6 F6 E6 n21 => ⟨_, rfl, fun z => absurd rfl z, fun _ => ?_⟩)
  refine wd _ 22 _ _ _ (by omega) (by omega) (by decide) E6 (fun h7 F7 E7 k1 v => ⟨_, rfl, fun z => absurd z (by decide), fun _ => K65 h7 1 (((((F2.tr F3).tr F4).tr F5).tr F6).tr F7) E7 (Or.inl ⟨rfl, k1, Or.inr (Or.inl v)⟩)⟩) (fun h7 F7 E7 n22 => ⟨_, rfl, fun _ => K65 h7 0 (((((F2.tr F3).tr F4).tr F5).tr F6).tr F7) E7 (Or.inr ⟨rfl, fun kn => ?_⟩), fun z => absurd rfl z⟩)
  obtain ⟨k1, v | v | v | v | v⟩ := kn
  · exact n20 ⟨k1, v⟩
  · exact n22 ⟨k1, v⟩
  · exact n4 ⟨k1, v⟩
  · exact n6 ⟨k1, v⟩
  · exact n21 ⟨k1, v⟩
theorem ldF_inl {k : Nat} : ∀ {s : LSt} {c e : Nat}, c + k = 24 → LsP B n s → ldF B n (k + 1) s c = .inl e → 1 ≤ e ∧ e ≤ 1 + 8 * n + 5 := by
  induction k with
  | zero =>
    intro s c e hc S h
    cases hh : clsL B n s c with
    | inl e' =>
      rw [ldF_1 hh] at h
      obtain rfl := Sum.inl.inj h
      exact clsL_inl S.1 hh
    | inr t =>
      have := (clsL_inr S hh).2
      omega
  | succ k ih =>
    intro s c e hc S h
    cases hh : clsL B n s c with
    | inl e' =>
      rw [ldF_1 hh] at h
      obtain rfl := Sum.inl.inj h
      exact clsL_inl S.1 hh
    | inr t =>
      have T := (clsL_inr S hh).1
      have tn : t.1 ≤ n := T.1.1
      by_cases z : kdT B n t.1 = 0
      · rw [ldF_2 hh z] at h
        cases h
      · by_cases w : kdT B n t.1 = 3 ∧ vlT B n t.1 = 59
        · rw [ldF_3 hh w] at h
          exact ih (s := (nxP B n t.1, t.2)) (by omega) ⟨at_nx tn, T.2⟩ h
        · rw [ldF_4 hh z w] at h
          obtain rfl := Sum.inl.inj h
          omega
theorem r_readsAllL {h : HP} (hd : 6 ≤ d) (M : MdSh G h y) (E : RtB h y B n) (e16 : hI h y 16 = 12) (e8 : hI h y 8 = -1) (e10 : hI h y 10 = 0) (cs : ∀ c, c < 1600 → hI h (y + 8) c = 1) (h0 : ∀ e, ldF B n 25 (LS0 B n) 0 = .inl e → ∀ h2, FrI (LrF y) h h2 → hI h2 y 14 = nI e → Q (some (.int 0)) h2) (h1 : ∀ t m, ldF B n 25 (LS0 B n) 0 = .inr t → ∀ h2, FrI (LrF y) h h2 → LdR G h2 y B n t m → hI h2 y 13 = nI n → Q (some (.int 1)) h2) : Cal G d mX12_readsAll [.ref y] h Q := by
  have n400 := E.2.1
  obtain ⟨-, -, m1, m2, m3⟩ := M.ld
  refine e_X12_readsAll (by omega) ⟨M.1, y + 4, m1, m2, by rw [e16, m3]; exact vin_nI (k := 12) (by omega) (by omega), ?_⟩
  rw [e16]
  generalize g1 : sI (sI (sI (sI (sI h (y + 4) (12 : Int32).toNatClampNeg 0) y 19 0) y 13 0) y 14 0) y 17 0 = h2
  have F2 : FrI (fun a k => a = y + 4 ∨ (a = y ∧ (k = 13 ∨ k = 14 ∨ k = 17 ∨ k = 19))) h h2 := by
    have st : ∀ (h : HP) k v, (k = 13 ∨ k = 14 ∨ k = 17 ∨ k = 19) → FrI (fun a k => a = y + 4 ∨ (a = y ∧ (k = 13 ∨ k = 14 ∨ k = 17 ∨ k = 19))) h (sI h y k v) := fun h k v hk => FrI.sI h v (Or.inr ⟨rfl, hk⟩)
    rw [← g1]
    exact ((((FrI.sI (P := fun a k => a = y + 4 ∨ (a = y ∧ (k = 13 ∨ k = 14 ∨ k = 17 ∨ k = 19))) h _ (Or.inl rfl)).tr (st _ 19 _ (by omega))).tr (st _ 13 _ (by omega))).tr (st _ 14 _ (by omega))).tr (st _ 17 _ (by omega))
  have FL : FrI (LrF y) h h2 := F2.weak (fun a k z => by unfold LrF; omega)
  have v13 : hI h2 y 13 = 0 ∧ hI h2 y 14 = 0 ∧ hI h2 y 19 = 0 := by
    rw [← g1]
    simp [hI_sI]
  have E2 : RtB h2 y B n := E.fi F2 (fun a k z => by omega)
  have L2 : LdR G h2 y B n (LS0 B n) 0 := by
    refine ⟨⟨M.fr F2, E2, 0, by omega, v13.1, rfl⟩, ⟨v13.2.1, (F2.i (by omega)).trans e16, v13.2.2⟩, Or.inr ⟨rfl, (F2.i (by omega)).trans e8, rfl, rfl⟩, (F2.i (by omega)).trans e10, fun c hc => (F2.i (by omega)).trans (cs c hc), fun i a ha => ?_⟩
    have ha' : ([] : List Rct)[i]? = some a := ha
    simp at ha'
  have ng : ∀ e h5, ldF B n 25 (LS0 B n) 0 = .inl e → FrI (LrF y) h h5 → hI h5 y 14 = nI e → ((¬ (hI h5 y 14) = 0 → Q (some (.int 0)) h5) ∧ ((hI h5 y 14) = 0 → Q (some (.int 1)) h5)) := fun e h5 he F f => by
    have := ldF_inl (k := 24) (c := 0) rfl (ls0_p B n) he
    refine ⟨fun _ => h0 e he h5 F f, fun z => ?_⟩
    rw [f] at z
    have := (nI_eq_iff (b := 0) (by omega) (by omega)).mp z
    omega
  have ng66 : ∀ e h5, ldF B n 25 (LS0 B n) 0 = .inl e → FrI (LrF y) h h5 → hI h5 y 14 = nI e → Ex G d mX12_readsAll 35 [(0, .ref y), (1, .int 0)] [] h5 Q := fun e h5 he F f => t_X12_readsAll_35 (by omega) ⟨fun _ => t_X12_readsAll_66 (by omega) ⟨fun _ => ⟨F.kd M.1, ng e h5 he F f⟩, fun z => absurd rfl z⟩, fun z => absurd rfl z⟩
  have go : ∀ k c s h5, c + k = 24 → LsP B n s → LdR G h5 y B n s c → FrI (LrF y) h h5 → ldF B n 25 (LS0 B n) 0 = ldF B n (k + 1) s c → Cal G (d - 1) mX12_clauseHere [.ref y] h5 (fun r8 h9 => ∃ v11, r8 = some (.int v11) ∧ Ex G d mX12_readsAll 35 [(0, .ref y), (1, .int v11)] [] h9 Q) := by
    intro k
    induction k with
    | zero =>
      intro c s h5 hc LP L5 F5 el
      have nt : ∀ t, clsL B n s c = .inr t → False := fun t e => by
        have := (clsL_inr LP e).2
        omega
      exact r_clauseL (by omega) (by omega) LP L5 ⟨fun e he h6 F6 f6 => ⟨_, rfl, ng66 e h6 (el.trans (ldF_1 he)) (F5.tr F6) f6⟩, fun t ht => absurd (nt t ht) (fun z => z)⟩
    | succ k ih =>
      intro c s h5 hc LP L5 F5 el
      refine r_clauseL (by omega) (by omega) LP L5 ⟨fun e he h6 F6 f6 => ⟨_, rfl, ng66 e h6 (el.trans (ldF_1 he)) (F5.tr F6) f6⟩, fun t ht h6 F6 L6 => ⟨_, rfl, ?_⟩⟩
      have TP := (clsL_inr LP ht).1
      have tn : t.1 ≤ n := TP.1.1
      refine t_X12_readsAll_35 (by omega) ⟨fun z => absurd z (by decide), fun _ => ⟨L6.1.1.1, r_see L6.1 (fun h7 F7 E7 => ⟨_, rfl, fun nz => ?_, fun z => ?_⟩)⟩⟩
      · have ns : ¬ (kdT B n t.1 = 3 ∧ vlT B n t.1 = 59) := fun q => nz ((seeV_is (c := 59) (fun hp => E7.2.1.2.2.2 _ hp) (by omega)).mpr (of_sg q.1 q.2 (by decide) (by decide)))
        have F57 := (F5.tr F6).tr (F7.weak (fun a k z => ay_lr (f13_ay z)))
        have L7 : LdR G h7 y B n t (c + 1) := L6.fr F7 (fun a k z => f13_ay z) E7.x ((F7.i (by unfold F13; omega)).trans L6.2.1.1)
        refine t_X12_readsAll_66 (by omega) ⟨fun z => absurd z (by decide), fun _ => ⟨E7.1.1, r_see E7.x (fun h8 F8 E8 => ⟨_, rfl, fun z => ⟨fun q => ?_, fun q => ?_⟩, fun z => ?_⟩)⟩⟩
        · exact absurd ((F8.i (by unfold F13; omega)).trans L7.2.1.1) q
        · have nn := (seeV_end (fun hp => E8.2.1.2.2.2 _ hp)).mp z
          have L8 : LdR G h8 y B n t (c + 1) := L7.fr F8 (fun a k z => f13_ay z) E8.x ((F8.i (by unfold F13; omega)).trans L7.2.1.1)
          refine h1 t (c + 1) (el.trans (ldF_2 ht (kd0_iff.mpr (by omega)))) h8 (F57.tr (F8.weak (fun a k z => ay_lr (f13_ay z)))) L8 ?_
          rw [E8.2.2.1, show t.1 = n by omega]
        · have z0 : ¬ kdT B n t.1 = 0 := fun q => z ((seeV_end (fun hp => E8.2.1.2.2.2 _ hp)).mpr (by have := kd0_iff.mp q; omega))
          rw [E8.2.2.1]
          refine r_fails E8.1 ((F8.i (by unfold F13; omega)).trans L7.2.1.1) (k := 0) rfl ⟨_, rfl, ng _ _ (el.trans (ldF_4 ht z0 ns)) ((F57.tr (F8.weak (fun a k z => ay_lr (f13_ay z)))).tr (FrI.sI (P := LrF y) h8 _ (Or.inl ⟨rfl, by omega⟩))) (hI_eq _ _ _ _)⟩
      · obtain ⟨tp, tb⟩ := (seeV_is (c := 59) (fun hp => E7.2.1.2.2.2 _ hp) (by omega)).mp z
        obtain ⟨s1, s2, s3⟩ := sg_of tp tb (by decide) (by decide) (by decide) (by decide)
        rw [E7.2.2.1, nI_S]
        have F8 : FrI (F13 y) h6 (sI h7 y 13 (nI (t.1 + 1))) := F7.tr (FrI.sI (P := F13 y) h7 _ ⟨rfl, rfl⟩)
        have X8 : RdX G (sI h7 y 13 (nI (t.1 + 1))) y B n (nxP B n t.1) := by
          refine ⟨E7.1.fr (FrI.sI (P := F13 y) h7 _ ⟨rfl, rfl⟩), E7.2.1.fi (FrI.sI (P := F13 y) h7 _ ⟨rfl, rfl⟩) (fun a k z => f13_ok z), t.1 + 1, by omega, hI_eq _ _ _ _, ?_⟩
          unfold nxP
          rw [s3]
        exact ih (c + 1) (nxP B n t.1, t.2) _ (by omega) ⟨at_nx tn, TP.2⟩ (L6.fr F8 (fun a k z => f13_ay z) X8 ((F8.i (by unfold F13; omega)).trans L6.2.1.1)) ((F5.tr F6).tr (F8.weak (fun a k z => ay_lr (f13_ay z)))) (el.trans (ldF_3 ht ⟨s1, s2⟩))
  exact go 24 0 _ h2 rfl (ls0_p B n) L2 FL rfl
end LS2
