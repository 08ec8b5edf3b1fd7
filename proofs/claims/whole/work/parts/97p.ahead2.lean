/-! ===== ahead: the class ===== -/
def RvL (b A w a : Nat) (_ : Nat) : Prop := a = b + 32 ∨ a = b + 34 ∨ a = A + 5 ∨ a = w + 5
section AH
variable {G : GG} {d : Nat} {b s A Wv m f g t : Nat} {S : Nat → Int32} {C D : List Cla} {jn : Prop} {Q : Option Value → HP → Prop}
theorem s_rival {h : HP} {x z tx tz : Int32} (hd : 8 ≤ d) (V : VwC G h b s S 0) (hs : b + 34 < s ∧ s + 42 ≤ b + 140 ∧ b + 140 ≤ A ∧ b + 140 ≤ Wv) (hpl : hR h b 8 = some (b + 29) ∧ hR h b 9 = some (b + 31) ∧ hR h b 11 = some (b + 34)) (K : PlW G h (b + 29)) (K2 : PlW G h (b + 31)) (kC : Kd G h (b + 34) 0) (L : PlI h (b + 29) f x z tx tz t none) (cv : canV S C jn f x z tx tz t none) (ht : t < 30) (wt : tS S t 0 = 1) (hf : f < 12) (hg : g < 12) (hne : f ≠ g) (sup : supN S g = 0) (m1 : 1 ≤ m) (m5 : m ≤ 5) (Sc : ScrC G h A C) (hC : C.length ≤ 12) (hcl : ∀ q ∈ C, ClaP q) (hj : hI h A 0 = 0 ↔ ¬ jn) (SD : ScrC G h Wv D) (hD : D.length ≤ 12) (hdl : ∀ q ∈ D, ClaP q)
    (hQ : ∀ h2, FrS (fun a _ => a = b + 31 ∨ a = b + 34 ∨ a = s + 35) (RvL b A Wv) h h2 → hI h2 (s + 35) 0 = 0 → Q (some (.long (rvS (bldS S 30 x z tx tz (nI f) t none) C jn D g m))) h2) : Cal G d mX11_rivalWish [.ref b, .ref A, .ref Wv, .int (nI g), .int (nI m)] h Q := by
  have Co := V.2.2.2.2.2.1
  have w0 : tS S 30 0 = 0 := by
    rcases V.2.2.2.2.2.2.1.2.2.1 30 (by omega) with q | q
    · exact q
    · have := (Co.2.2.2.2.2.2.1 30 (by omega) (by omega)).mp q
      omega
  have H := canV_blh cv (show 6 ≤ 30 by omega) (by omega) w0 (by omega) wt (fun c q => by cases q)
  have E := tS_bld (S := S) (w := 30) (x := x) (z := z) (tx := tx) (tz := tz) (f := nI f) (a := t) (ob := none)
  refine e_X11_rivalWish (by omega) ⟨V.1, s, V.2.1, b + 29, hpl.1, V.2.2.2.2.1.1, s_suppose (n := 0) (by omega) V K.1 (by omega) L (Or.inl ⟨rfl, ht, rfl⟩) (by omega) hf cv wt (fun h1 F1 V1' => ⟨rfl, b + 31, (F1.r _ _).trans hpl.2.1, ?_⟩)⟩
  have V1 : VwC G h1 b s (bldS S 30 x z tx tz (nI f) t none) 1 := V1'
  clear V1'
  have w1 : tS (bldS S 30 x z tx tz (nI f) t none) 30 0 = 1 := E.at_ H (by omega)
  have sup1 : supN (bldS S 30 x z tx tz (nI f) t none) g = 0 := by rw [supN_bld (by omega) H hf hg, if_neg hne, sup]
  generalize bldS S 30 x z tx tz (nI f) t none = S1 at *
  clear E
  refine s_aim (P := b + 31) (t := 30) (ob := none) (by omega) (F1.kd K2.1) V1.1 V1.2.1 V1.2.2.2.2.1 (by omega) (by omega) (fun u q => by cases q) (fun h2 F2 v2 c2 => ⟨rfl, b + 31, (F2.r _ _).trans ((F1.r _ _).trans hpl.2.1), b + 34, (F2.r _ _).trans ((F1.r _ _).trans hpl.2.2), ?_⟩)
  have FI : FrS (fun a k => a = s + 35 ∨ (a = s + 5 + t ∧ k = 6) ∨ a = b + 31) (RvL b A Wv) h h2 := ((F1.s _).weak (fun a k q => by omega) (fun _ _ q => q)).tr ((F2.s _).weak (fun a k q => by omega) (fun _ _ q => q))
  have V2 : VwC G h2 b s S1 1 := V1.fs (F2.s nop) (fun a k q => by omega)
  have X : SeX G h2 b s S1 1 (b + 31) (b + 34) A C jn (some Wv) (some D) g 30 30 none := by
    refine ⟨V2, K2.fs FI, FI.kd kC, ⟨v2.1, v2.2.1, v2.2.2.1, by rw [v2.2.2.2, sup1]; rfl⟩, fun j j1 j4 => ?_, Sc.fs FI (fun a k q => by omega), ?_, SD.fs FI (fun a k q => by omega), hD, hdl, by omega⟩
    · rw [c2 j j1 j4]
      exact (V1.2.2.2.2.2.1.at_ (Or.inr ⟨rfl, by omega, rfl⟩) w1).2.1 j j1 (by omega)
    · rw [FI.i (by omega)]
      exact hj
  refine s_search (by omega) X (by omega) (by omega) (by omega) m1 m5 hC hcl hg (Or.inr ⟨rfl, by omega, rfl⟩) w1 (fun c q => by cases q) (fun q => absurd rfl q) (fun h3 F3 H3 => ⟨rfl, s, (F3.r _ _).trans V2.2.1, b + 29, (F3.r _ _).trans ((FI.r _ _).trans hpl.1), F3.kd (FI.kd K.1), F3.kd V2.2.2.2.2.1.1, ?_⟩)
  have F03 : FrS (fun a k => a = s + 35 ∨ (a = s + 5 + t ∧ k = 6) ∨ a = b + 31 ∨ a = b + 34) (RvL b A Wv) h h3 := (FI.weak (fun a k q => by omega) (fun _ _ q => q)).tr (F3.weak (fun a k q => by unfold SeI at q; omega) (fun a k q => by
    unfold SeL at q
    unfold RvL
    rcases q with q | q | q | ⟨w, e, q⟩
    · omega
    · omega
    · omega
    · have := Option.some.inj e
      omega))
  have p5 : hI h3 (b + 29) 5 = nI t := (F03.i (by omega)).trans L.2.1
  rw [p5]
  refine s_forget (V.2.2.2.2.1.fs F03) ht (fun h4 F4 z1 z2 => ⟨rfl, b + 34, (F4.r _ _).trans ((F03.r _ _).trans hpl.2.2), F4.kd (F03.kd kC), ?_⟩)
  have F04 : FrS (fun a _ => a = b + 31 ∨ a = b + 34 ∨ a = s + 35) (RvL b A Wv) h h4 := by
    have J := F03.tr ((F4.s _).weak (PI' := fun a k => a = s + 35 ∨ (a = s + 5 + t ∧ k = 6) ∨ a = b + 31 ∨ a = b + 34) (fun a k q => by omega) (fun _ _ q => q))
    refine ⟨J.1, J.2.1, J.2.2.1, J.2.2.2.1, fun a k q => ?_, J.2.2.2.2.2⟩
    by_cases c : a = s + 5 + t ∧ k = 6
    · rw [c.1, c.2, z2]
      have a6 := (Co.at_ (Or.inl ⟨ht, rfl⟩) wt).2.1 6 (by omega) (by omega)
      rw [H.2.1.2.2] at a6
      exact a6.symm
    · exact J.i (fun z => by omega)
  have H4 : ChI h4 (b + 34) m _ _ := H3.fs (F4.s nop) (fun k q => by omega) (fun k q => q.elim)
  have hQ := hQ h4 F04 z1
  unfold rvS at hQ
  have cnt := seF_cnt (canB S1 C jn g 30 none m) (valO S1 (some D) g 30 none m) (lnF S1 30 none m) m m5
  generalize seF (canB S1 C jn g 30 none m) (valO S1 (some D) g 30 none m) (lnF S1 30 none m) m = sq at *
  obtain ⟨c0, c1, c2'⟩ := H4
  have e0 : hI h4 (b + 34) 0 = 0 ↔ sq.1 = 0 := by
    rw [c0]
    exact nI_eq_iff (b := 0) (by omega) (by omega)
  refine ⟨fun z => ?_, fun z => ?_⟩
  · cases e : sq.2 with
    | none => exact absurd (e0.mpr (c1.mp e)) z
    | some r =>
      rw [e] at hQ
      rw [(c2' r e).1]
      exact hQ
  · rw [c1.mpr (e0.mp z)] at hQ
    exact hQ
/-- what the loop of ahead keeps -/
def AhX (G : GG) (b s A Wv f t m : Nat) (S : Nat → Int32) (h0 h : HP) (p : Nat × Acc) : Prop := FrS (AhI b s) (AhL b A Wv) h0 h ∧ hI h (s + 35) 0 = 0 ∧ (hI h (b + 29) 0 = nI f ∧ hI h (b + 29) 5 = nI t ∧ hI h (b + 29) 6 = -1 ∧ hI h (b + 29) 7 = 0) ∧ (∀ j, 1 ≤ j → j ≤ 4 → hI h (b + 29) (8 + j) = tS S t j) ∧ ChI h (b + 33) m p.1 p.2
theorem s_ahead109 {h0 h : HP} {x1 x2 : Int32} {k : Nat} (hd : 10 ≤ d) (V0 : VwC G h0 b s S 0) (hs : b + 34 < s ∧ s + 42 ≤ b + 140 ∧ b + 140 ≤ A ∧ b + 140 ≤ Wv) (hpl : hR h0 b 8 = some (b + 29) ∧ hR h0 b 9 = some (b + 31) ∧ hR h0 b 10 = some (b + 33) ∧ hR h0 b 11 = some (b + 34)) (K0 : PlW G h0 (b + 29)) (K20 : PlW G h0 (b + 31)) (kC0 : Kd G h0 (b + 34) 0) (kD0 : Kd G h0 (b + 33) 0) (ht : t < 30) (wt : tS S t 0 = 1) (hf : f < 12) (hg : g < 12) (hne : f ≠ g) (supf : supN S f = 0) (sup : supN S g = 0) (m1 : 1 ≤ m) (m5 : m ≤ 5) (hk : k < 4) (Sc0 : ScrC G h0 A C) (hC : C.length ≤ 12) (hcl : ∀ q ∈ C, ClaP q) (hj0 : hI h0 A 0 = 0 ↔ ¬ jn) (SD0 : ScrC G h0 Wv D) (hD : D.length ≤ 12) (hdl : ∀ q ∈ D, ClaP q)
    (X : AhX G b s A Wv f t m S h0 h (0, none))
    (hQ : ∀ h2, FrS (AhI b s) (AhL b A Wv) h0 h2 → hI h2 (s + 35) 0 = 0 → Q (some (.int (match (seF (canB S C jn f t none m) (ahV S C jn D f g t m) (lnF S t none m) m).2 with | none => -2 | some r => nI (mgN m r.1 k)))) h2) :
    Ex G d mX11_ahead 109 [(0, .ref b), (1, .int x1), (2, .int x2), (3, .int (nI f)), (4, .int (nI g)), (5, .int (nI t)), (6, .int (nI m)), (7, .int (nI k)), (8, .ref A), (9, .ref Wv), (10, .int (nI (m * m * m * m))), (11, .int 0)] [] h Q := by
  obtain ⟨e4, l4⟩ := m4 m5
  suffices H : ∀ h', AhX G b s A Wv f t m S h0 h' (0, none) → Ex G d mX11_ahead 109 [(0, .ref b), (1, .int x1), (2, .int x2), (3, .int (nI f)), (4, .int (nI g)), (5, .int (nI t)), (6, .int (nI m)), (7, .int (nI k)), (8, .ref A), (9, .ref Wv), (10, .int (nI (m * m * m * m))), (11, .int (nI 0))] [] h' Q from H h X
  refine loop_up (α := Nat × Acc) (f := weC (canB S C jn f t none m) (ahV S C jn D f g t m) (lnF S t none m)) (e := m * m * m * m) (J := fun i p => p.1 ≤ i) (P := fun i p => ∀ h', AhX G b s A Wv f t m S h0 h' p → Ex G d mX11_ahead 109 [(0, .ref b), (1, .int x1), (2, .int x2), (3, .int (nI f)), (4, .int (nI g)), (5, .int (nI t)), (6, .int (nI m)), (7, .int (nI k)), (8, .ref A), (9, .ref Wv), (10, .int (nI (m * m * m * m))), (11, .int (nI i))] [] h' Q) (fun i p _ h1 => weC_le h1) (fun i p hi hc ih h' X' => ?_) (m * m * m * m) 0 (0, none) (by omega) (Nat.le_refl _) (fun _ h' X' => ?_)
  rotate_left
  · obtain ⟨F, z35, -, -, H⟩ := X'
    have hQ := hQ h' F z35
    have cnt := seF_cnt (canB S C jn f t none m) (ahV S C jn D f g t m) (lnF S t none m) m m5
    change ChI h' (b + 33) m (seF (canB S C jn f t none m) (ahV S C jn D f g t m) (lnF S t none m) m).1 (seF (canB S C jn f t none m) (ahV S C jn D f g t m) (lnF S t none m) m).2 at H
    generalize seF (canB S C jn f t none m) (ahV S C jn D f g t m) (lnF S t none m) m = sq at *
    refine t_X11_ahead_109 (by omega) ⟨fun _ => ⟨F.kd V0.1, b + 33, (F.r _ _).trans hpl.2.2.1, F.kd kD0, s_chm (F.kd kD0) H (by omega) hk (fun e => ⟨_, rfl, ?_⟩) (fun r e => ⟨_, rfl, ?_⟩)⟩, fun c => absurd ((nI_le_iff (by omega) (by omega)).mpr (Nat.le_refl _)) c⟩
    · rw [e] at hQ
      exact hQ
    · rw [e] at hQ
      exact hQ
  obtain ⟨F, z35, pf, pc, H⟩ := X'
  have hpV : ∀ a k, AhI b s a k → (¬ (s ≤ a ∧ a < s + 42) ∨ a = s + 35) ∧ ¬ (b + 16 ≤ a ∧ a ≤ b + 20) := fun a k q => by unfold AhI at q; omega
  have hpA : ∀ a k, AhI b s a k → a < A := fun a k q => by unfold AhI at q; omega
  have hpW : ∀ a k, AhI b s a k → a < Wv := fun a k q => by unfold AhI at q; omega
  have V := V0.f30 F hpV z35
  have K := K0.fs F
  refine t_X11_ahead_109 (by omega) ⟨fun c => ?_, fun _ => ⟨V.1, b + 29, (F.r _ _).trans hpl.1, K.1, ?_⟩⟩
  · have := (nI_le_iff (by omega) (by omega)).mp c
    omega
  refine s_spreadBy (by omega) K.1 m1 m5 (by omega) (pc 1 (by omega) (by omega)) (pc 2 (by omega) (by omega)) (pc 3 (by omega) (by omega)) (pc 4 (by omega) (by omega)) (fun h1 F1 v1 l1 => ⟨rfl, b + 29, (F1.r _ _).trans ((F.r _ _).trans hpl.1), ?_⟩)
  have F1' : FrS (AhI b s) (AhL b A Wv) h' h1 := (F1.s _).weak (fun a k q => by unfold AhI; omega) (fun _ _ q => q)
  have F01 := F.tr F1'
  have z1 : hI h1 (s + 35) 0 = 0 := (F1.i (by omega)).trans z35
  have V1 := V0.f30 F01 hpV z1
  have nx : nI i + 1 = nI (i + 1) := nI_S i
  have L1 : PlI h1 (b + 29) f (rcX (tS S) t none m i) (rcZ (tS S) t none m i) (rcTX (tS S) t none m i) (rcTZ (tS S) t none m i) t none := ⟨v1, (F1.i (by omega)).trans pf.2.1, (F1.i (by omega)).trans pf.2.2.1, (F1.i (by omega)).trans pf.1⟩
  refine s_mayCome (jn := jn) (by omega) V1 (K0.fs F01) (by omega) L1 (by rw [F1.i (by omega), pf.2.2.2, supf]; rfl) hf (Or.inl ⟨ht, rfl⟩) wt (fun c q => by cases q) (fun q => absurd rfl q) (Sc0.fs F01 hpA) hC hcl (by rw [F01.i (fun q => by have := hpA _ _ q; omega)]; exact hj0) (by omega) (fun h2 v F2 b01 ev ew => ⟨_, rfl, ?_⟩)
  have F2' : FrS (AhI b s) (AhL b A Wv) h1 h2 := F2.weak (fun a k q => by unfold McI at q; unfold AhI; omega) (fun a k q => by unfold McL at q; unfold AhL; omega)
  have F02 := F01.tr F2'
  have z2 : hI h2 (s + 35) 0 = 0 := (F2.i (by unfold McI; omega)).trans z1
  have p2 : ∀ k, k = 0 ∨ (5 ≤ k ∧ k ≤ 7) ∨ (9 ≤ k ∧ k ≤ 12) → hI h2 (b + 29) k = hI h' (b + 29) k := fun k hk => (F2.i (by unfold McI; omega)).trans (F1.i (by omega))
  have H2 : ChI h2 (b + 33) m p.1 p.2 := (H.fs (F1.s nop) (fun k q => by omega) (fun k q => q.elim)).fs F2 (fun k q => by unfold McI at q; omega) (fun k q => by unfold McL at q; omega)
  have pf2 : hI h2 (b + 29) 0 = nI f ∧ hI h2 (b + 29) 5 = nI t ∧ hI h2 (b + 29) 6 = -1 ∧ hI h2 (b + 29) 7 = 0 := by
    rw [p2 0 (by omega), p2 5 (by omega), p2 6 (by omega), p2 7 (by omega)]
    exact pf
  have pc2 : ∀ j, 1 ≤ j → j ≤ 4 → hI h2 (b + 29) (8 + j) = tS S t j := fun j h1 h4 => (p2 _ (by omega)).trans (pc j h1 h4)
  have canv : v = 1 ↔ canB S C jn f t none m i = true := by rw [canB_iff]; exact ev
  rw [nx]
  refine ⟨fun z => ?_, fun z => ?_⟩
  · have cf : canB S C jn f t none m i = false := by
      cases q : canB S C jn f t none m i with
      | false => rfl
      | true =>
        have := canv.mpr q
        rw [z] at this
        exact absurd this (by decide)
    rw [weC_no cf] at ih
    exact ih h2 ⟨F02, z2, pf2, pc2, H2⟩
  have v1' : v = 1 := b01.resolve_left z
  have ct := canv.mp v1'
  have cv := canB_iff.mp ct
  have words := ew v1'
  rw [weC_yes ct] at ih
  have K2 := K0.fs F02
  have l2 : ∀ j, j < 4 → hI h2 (b + 29) (13 + j) = nI (mgN m i j) := fun j hj => (F2.i (by unfold McI; omega)).trans (l1 j hj)
  have L2 : PlI h2 (b + 29) f (rcX (tS S) t none m i) (rcZ (tS S) t none m i) (rcTX (tS S) t none m i) (rcTZ (tS S) t none m i) t none := L1.fs F2 (fun k hk q => by unfold McI at q; omega)
  refine ⟨b + 29, (F02.r _ _).trans hpl.1, K2.1, b + 30, K2.2.1, F02.kd SD0.1, ?_⟩
  refine s_total (by omega) hD ⟨SD0.fs F02 hpW, ⟨K2.2.2.1, K2.2.2.2, words⟩, by omega, hdl⟩ (fun h3 F3 => ⟨_, rfl, b + 33, (F3.r _ _).trans ((F02.r _ _).trans hpl.2.2.1), ?_⟩)
  have F3' : FrS (AhI b s) (AhL b A Wv) h2 h3 := F3.weak (fun a k q => q.elim) (fun a k q => by unfold AhL; omega)
  have F03 := F02.tr F3'
  have i3 : ∀ a k, hI h3 a k = hI h2 a k := fun a k => F3.i (fun q => q)
  have z3 : hI h3 (s + 35) 0 = 0 := (i3 _ _).trans z2
  have V3 := V0.f30 F03 hpV z3
  have L3 : PlI h3 (b + 29) f (rcX (tS S) t none m i) (rcZ (tS S) t none m i) (rcTX (tS S) t none m i) (rcTZ (tS S) t none m i) t none := L2.fs F3 (fun k hk q => q.elim)
  refine s_rival (by omega) V3 hs ⟨(F03.r _ _).trans hpl.1, (F03.r _ _).trans hpl.2.1, (F03.r _ _).trans hpl.2.2.2⟩ (K0.fs F03) (K20.fs F03) (F03.kd kC0) L3 cv ht wt hf hg hne sup m1 m5 (Sc0.fs F03 hpA) hC hcl (by rw [F03.i (fun q => by have := hpA _ _ q; omega)]; exact hj0) (SD0.fs F03 hpW) hD hdl (fun h4 F4 z4 => ⟨_, rfl, b + 29, (F4.r _ _).trans ((F03.r _ _).trans hpl.1), F4.kd (F03.kd kD0), ?_⟩)
  have F4' : FrS (AhI b s) (AhL b A Wv) h3 h4 := F4.weak (fun a k q => by unfold AhI; omega) (fun a k q => by unfold RvL at q; unfold AhL; omega)
  have F04 := F03.tr F4'
  have i4 : ∀ k, hI h4 (b + 29) k = hI h2 (b + 29) k := fun k => (F4.i (by omega)).trans (i3 _ _)
  have H4 : ChI h4 (b + 33) m p.1 p.2 := by
    obtain ⟨c0, c1, c2⟩ := H2
    have e : ∀ k, hI h4 (b + 33) k = hI h2 (b + 33) k := fun k => (F4.i (by omega)).trans (i3 _ _)
    refine ⟨(e 0).trans c0, c1, fun r er => ?_⟩
    obtain ⟨r1, r2, r3⟩ := c2 r er
    refine ⟨?_, (e 2).trans r2, fun j hj => (e _).trans (r3 j hj)⟩
    have e3 : hL h3 (b + 33) 1 = hL h2 (b + 33) 1 := F3.l (by omega)
    rw [← r1, ← e3]
    exact F4.l (by unfold RvL; omega)
  refine s_weigh (i := i) (by omega) (K0.fs F04).1 (F04.kd kD0) (by omega) ⟨(i4 _).trans L2.1.1, (i4 _).trans L2.1.2.1, (i4 _).trans L2.1.2.2.1, (i4 _).trans L2.1.2.2.2⟩ (fun j hj => (i4 _).trans (l2 j hj)) (by omega) H4 _ (ahV S C jn D f g t m) (lnF S t none m) ct rfl rfl (fun h5 F5 H5 => ⟨rfl, ih h5 ⟨F04.tr (F5.weak (fun a k q => by unfold AhI; omega) (fun a k q => by unfold AhL; omega)), (F5.i (by omega)).trans z4, ?_, fun j h1 h4 => (F5.i (by omega)).trans ((i4 _).trans (pc2 j h1 h4)), H5⟩⟩)
  rw [F5.i (by omega), F5.i (by omega), F5.i (by omega), F5.i (by omega), i4, i4, i4, i4]
  exact pf2
end AH
