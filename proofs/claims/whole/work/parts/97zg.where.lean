/-! ===== gates tried by the class: all; the best one ===== -/
theorem sidF_n {S : Nat → Int32} {w : Nat} (W : WF S) (hw : wl (tS S) w) {A : Nat → Nat → Int32} (e : ∀ k, 1 ≤ k → k ≤ 6 → A w k = tS S w k) {sd : Nat} (h4 : sd < 4) : sidF A w (nI sd) = nI (lnW (tS S) w sd) := by
  obtain ⟨⟨a1, a2, a3, a4⟩, ⟨b1, b2⟩, b3, b4⟩ := (W.2.2.2.2.1 w hw.2.1 hw.2.2).n W.1.1.1.2 W.1.1.2.1.2
  unfold sidF lnW
  rw [show irm (nI sd) 2 = nI (sd % 2) from nR (m := 2) (by omega) (by omega), e 1 (by omega) (by omega), e 2 (by omega) (by omega), e 3 (by omega) (by omega), e 4 (by omega) (by omega), a1, a2, a3, a4, nS (by omega), nS (by omega)]
  rcases (show sd % 2 = 0 ∨ sd % 2 = 1 by omega) with c | c
  · rw [c, if_pos (show nI 0 = 0 from rfl), if_pos rfl]
  · rw [c, if_neg (show ¬ nI 1 = 0 by decide), if_neg (show ¬ (1 : Nat) = 0 by decide)]
def TgF (q a k : Nat) : Prop := (a = q ∧ (k = 1 ∨ k = 2)) ∨ a = q + 1 ∨ a = q + 2 ∨ a = q + 3 ∨ a = q + 6 ∨ a = q + 7
def lxG (j sd pl : Nat) : Prop := j / 40 < sd ∨ (j / 40 = sd ∧ j % 40 < pl)
section TG
variable {G : GG} {d : Nat} {q s : Nat} {S : Nat → Int32} {Q : Option Value → HP → Prop} {w : Nat}
/-- what a row holds, when it has taken the gates ahead of (sd, pl) -/
def Tkn (A : Nat → Nat → Int32) (w : Nat) (V : Nat → Int) (r0 r1 : Nat → Int32) (sd pl : Nat) : Prop := ∀ j, j < 160 → vldG A w j → (lxG j sd pl → r1 j = r0 j + iI (V j)) ∧ (¬ lxG j sd pl → r1 j = r0 j)
theorem Tkn.step {A : Nat → Nat → Int32} {V : Nat → Int} {r0 r1 r2 : Nat → Int32} {sd pl : Nat} (hp : pl < 40) (T : Tkn A w V r0 r1 sd pl) (e : ∀ j, r2 j = if j = 40 * sd + pl then r1 j + iI (V (40 * sd + pl)) else r1 j) : Tkn A w V r0 r2 sd (pl + 1) := fun j hj v => by
  obtain ⟨t1, t2⟩ := T j hj v
  rw [e j]
  unfold lxG at *
  by_cases c : j = 40 * sd + pl
  · rw [if_pos c]
    refine ⟨fun _ => ?_, fun z => by omega⟩
    rw [t2 (by omega), c]
  · rw [if_neg c]
    exact ⟨fun z => t1 (by omega), fun z => t2 (by omega)⟩
theorem Tkn.row {A : Nat → Nat → Int32} {V : Nat → Int} {r0 r1 : Nat → Int32} {sd : Nat} (T : Tkn A w V r0 r1 sd (lnW A w sd)) : Tkn A w V r0 r1 (sd + 1) 0 := fun j hj v => by
  obtain ⟨t1, t2⟩ := T j hj v
  unfold lxG at *
  have v2 := v.2
  refine ⟨fun z => t1 ?_, fun z => t2 (by omega)⟩
  by_cases c : j / 40 = sd
  · rw [c] at v2
    omega
  · omega
theorem s_tryGates {h : HP} {e : Nat} (hd : 2 ≤ d) (V : Svd G h q s S 0) (hw : wl (tS S) w) (he : e < 6) (hz : ¬ S (2400 + 6 * e) = 0) (hQ : ∀ h2, FrI (TgF q) h h2 → Svd G h2 q s S 0 → (∀ j, j < 160 → vldG (tS S) w j → hI h2 (q + 6) j = hI h (q + 6) j + iI (gV S w (S (2400 + 6 * e + 1)) (eO S e) (eT S e) true (j / 40) (j % 40)) ∧ hI h2 (q + 7) j = hI h (q + 7) j + iI (gV S w (S (2400 + 6 * e + 1)) (eO S e) (eT S e) false (j / 40) (j % 40))) → Q none h2) : Cal G d mX10_tryGates [.ref q, .ref (s + 5 + w), .ref (s + 36 + e)] h Q := by
  have W := V.1.2.2.2.1
  have w30 := hw.2.1
  have ds := V.1.2.2.2.2
  obtain ⟨e1, ej, ⟨o16, o1, o2⟩, t16, t1, t2⟩ := W.er he hz
  have fj : ∀ j, 1 ≤ j → j < 6 → hI h (s + 36 + e) j = S (2400 + 6 * e + j) := ((V.1.2.2.1.2.2.2.2.2 e he).2) e1
  have fo1 : hI h (s + 36 + e) 2 = nI (eO S e % 40) := by rw [fj 2 (by omega) (by omega), (ej 2 (by omega) (by omega)).1, o1]
  have fo2 : hI h (s + 36 + e) 3 = nI (eO S e / 40) := by rw [fj 3 (by omega) (by omega), (ej 3 (by omega) (by omega)).1, o2]
  have ft1 : hI h (s + 36 + e) 4 = nI (eT S e % 40) := by rw [fj 4 (by omega) (by omega), (ej 4 (by omega) (by omega)).1, t1]
  have ft2 : hI h (s + 36 + e) 5 = nI (eT S e / 40) := by rw [fj 5 (by omega) (by omega), (ej 5 (by omega) (by omega)).1, t2]
  have ke := (V.1.2.1.2.2.2.2.2.2.2 e he).2
  refine e_X10_tryGates (by omega) ⟨ke, e_X1_from ⟨ke, _, rfl, V.1.1.1.1, q + 1, V.1.1.1.2.1.1, ?_⟩⟩
  rw [fo1, fo2, ex40]
  refine s_walk (by omega) V o16 (Or.inl rfl) (Or.inl rfl) (fun h1 r1 F1 K1 _ => ⟨r1, rfl, ?_⟩)
  have V1 := V.fr F1 (fun a k z => by omega)
  have fe1 : ∀ j, hI h1 (s + 36 + e) j = hI h (s + 36 + e) j := fun j => F1.i (by omega)
  refine e_X1_to ⟨F1.kd ke, _, rfl, q + 2, V1.1.1.1.2.1.2.1, ?_⟩
  rw [fe1, fe1, ft1, ft2, ex40]
  refine s_walk (by omega) V1 t16 (Or.inr rfl) (Or.inl rfl) (fun h2 r2 F2 K2 _ => ⟨r2, rfl, ?_⟩)
  have V2 := V1.fr F2 (fun a k z => by omega)
  have fe2 : ∀ j, hI h2 (s + 36 + e) j = hI h (s + 36 + e) j := fun j => (F2.i (by omega)).trans (fe1 j)
  rw [fe2, fe2, fe2, fe2, fe2, fo1, fo2, ft1, ft2, fj 1 (by omega) (by omega)]
  refine s_settle (by omega) V2.1 o16 t16 (fun h3 F3 ec _ => ⟨rfl, ?_⟩)
  have V3 := V2.fr F3 (fun a k z => by unfold StF at z; omega)
  have fe3 : ∀ j, hI h3 (s + 36 + e) j = hI h (s + 36 + e) j := fun j => (F3.i (by unfold StF; omega)).trans (fe2 j)
  have k9 := (V3.1.2.1.2.2.2.2.2.2.1 w (by omega)).2
  have G3 : FrI (TgF q) h h3 := ((F1.weak (fun a k z => by unfold TgF; omega)).tr (F2.weak (fun a k z => by unfold TgF; omega))).tr (F3.weak (fun a k z => by unfold StF at z; unfold TgF; omega))
  refine ⟨k9, s_has k9 ⟨_, rfl, ?_⟩⟩
  rw [fe3, fe3, fo1, fo2]
  generalize hx : (if hasB (tg h3 s) w (nI (eO S e % 40)) (nI (eO S e / 40)) = true then (1 : Int32) else 0) = x4
  have lv : leavesI S w (eO S e) x4 := by
    have bb := wIn_has V3.1 hw o16
    unfold leavesI
    rw [← bb, ← hx]
    cases hasB (tg h3 s) w (nI (eO S e % 40)) (nI (eO S e / 40)) <;> simp
  have steps : ∀ h4, FrI (AgF q) h3 h4 → (∀ c, c < 1600 → hI h4 (q + 1) c = iI (dR S 0 (eO S e) c)) ∧ (∀ c, c < 1600 → hI h4 (q + 2) c = iI (dR S 0 (eT S e) c)) ∧ hI h4 q 1 = iI (coi (tS S) (S (2400 + 6 * e + 1)) (eO S e) (eT S e)) := fun h4 F4 => by
    refine ⟨fun c hc => ?_, fun c hc => ?_, ?_⟩
    · rw [F4.i (by unfold AgF; omega), F3.i (by unfold StF; omega), F2.i (by omega), K1 rfl c hc]
    · rw [F4.i (by unfold AgF; omega), F3.i (by unfold StF; omega), K2 rfl c hc]
    · rw [F4.i (by unfold AgF; omega), ec]
  have old : ∀ j, hI h3 (q + 6) j = hI h (q + 6) j ∧ hI h3 (q + 7) j = hI h (q + 7) j := fun j => by
    refine ⟨?_, ?_⟩
    · rw [F3.i (by unfold StF; omega), F2.i (by omega), F1.i (by omega)]
    · rw [F3.i (by unfold StF; omega), F2.i (by omega), F1.i (by omega)]
  let VC : Nat → Int := fun j => gV S w (S (2400 + 6 * e + 1)) (eO S e) (eT S e) true (j / 40) (j % 40)
  let VT : Nat → Int := fun j => gV S w (S (2400 + 6 * e + 1)) (eO S e) (eT S e) false (j / 40) (j % 40)
  have inner : ∀ sd, sd < 4 → (∀ h4, FrI (AgF q) h3 h4 → Tkn (tS S) w VC (hI h3 (q + 6)) (hI h4 (q + 6)) (sd + 1) 0 → Tkn (tS S) w VT (hI h3 (q + 7)) (hI h4 (q + 7)) (sd + 1) 0 → Ex G d mX10_tryGates 68 [(0, .ref q), (1, .ref (s + 5 + w)), (2, .ref (s + 36 + e)), (3, .int x4), (4, .int (nI (sd + 1)))] [] h4 Q) → ∀ n pl h4, pl + n = lnW (tS S) w sd → FrI (AgF q) h3 h4 → Tkn (tS S) w VC (hI h3 (q + 6)) (hI h4 (q + 6)) sd pl → Tkn (tS S) w VT (hI h3 (q + 7)) (hI h4 (q + 7)) sd pl → Ex G d mX10_tryGates 77 [(0, .ref q), (1, .ref (s + 5 + w)), (2, .ref (s + 36 + e)), (3, .int x4), (4, .int (nI sd)), (5, .int (nI pl))] [] h4 Q := by
    intro sd h4' next n
    have ll := lnW_le W hw sd
    induction n with
    | zero =>
      intro pl h4 hn F4 T1 T2
      have V4 := V3.fr F4 (fun a k z => by unfold AgF at z; omega)
      refine t_X10_tryGates_77 (by omega) ⟨F4.kd k9, s_lengthOf (F4.kd k9) ⟨_, rfl, fun _ => ?_, fun z => ?_⟩⟩
      · rw [nI_S]
        obtain rfl : pl = lnW (tS S) w sd := by omega
        exact next h4 F4 T1.row T2.row
      · rw [sidF_n W hw (fun k a b => V4.1.th w30 hw.2.2 a b) h4'] at z
        exact absurd ((nI_le_iff (by omega) (by omega)).mpr (by omega)) z
    | succ n ih =>
      intro pl h4 hn F4 T1 T2
      have V4 := V3.fr F4 (fun a k z => by unfold AgF at z; omega)
      obtain ⟨s1, s2, s3⟩ := steps h4 F4
      refine t_X10_tryGates_77 (by omega) ⟨F4.kd k9, s_lengthOf (F4.kd k9) ⟨_, rfl, fun z => ?_, fun _ => ⟨V4.1.1.1.1, s_addGate (by omega) V4.1 hw h4' (by omega) o16 t16 lv s1 s2 s3 (fun h5 F5 u1 u2 => ⟨rfl, ?_⟩)⟩⟩⟩
      · rw [sidF_n W hw (fun k a b => V4.1.th w30 hw.2.2 a b) h4', nI_le_iff (by omega) (by omega)] at z
        omega
      · rw [nI_S]
        refine ih (pl + 1) h5 (by omega) (F4.tr F5) (T1.step (by omega) (fun j => ?_)) (T2.step (by omega) (fun j => ?_))
        · rw [u1 j]
          show _ = if j = 40 * sd + pl then _ + iI (gV S w (S (2400 + 6 * e + 1)) (eO S e) (eT S e) true ((40 * sd + pl) / 40) ((40 * sd + pl) % 40)) else _
          rw [show (40 * sd + pl) / 40 = sd by omega, show (40 * sd + pl) % 40 = pl by omega]
        · rw [u2 j]
          show _ = if j = 40 * sd + pl then _ + iI (gV S w (S (2400 + 6 * e + 1)) (eO S e) (eT S e) false ((40 * sd + pl) / 40) ((40 * sd + pl) % 40)) else _
          rw [show (40 * sd + pl) / 40 = sd by omega, show (40 * sd + pl) % 40 = pl by omega]
  have outer : ∀ n sd h4, sd + n = 4 → FrI (AgF q) h3 h4 → Tkn (tS S) w VC (hI h3 (q + 6)) (hI h4 (q + 6)) sd 0 → Tkn (tS S) w VT (hI h3 (q + 7)) (hI h4 (q + 7)) sd 0 → Ex G d mX10_tryGates 68 [(0, .ref q), (1, .ref (s + 5 + w)), (2, .ref (s + 36 + e)), (3, .int x4), (4, .int (nI sd))] [] h4 Q := by
    intro n
    induction n with
    | zero =>
      intro sd h4 hn F4 T1 T2
      obtain rfl : sd = 4 := by omega
      refine t_X10_tryGates_68 ⟨fun _ => hQ h4 (G3.tr (F4.weak (fun a k z => by unfold AgF at z; unfold TgF; omega))) (V3.fr F4 (fun a k z => by unfold AgF at z; omega)) (fun j hj v => ?_), fun z => absurd (show (4 : Int32) ≤ nI 4 by decide) z⟩
      have lx : lxG j 4 0 := Or.inl v.1
      rw [(T1 j hj v).1 lx, (T2 j hj v).1 lx, (old j).1, (old j).2]
      exact ⟨rfl, rfl⟩
    | succ n ih =>
      intro sd h4 hn F4 T1 T2
      refine t_X10_tryGates_68 ⟨fun z => ?_, fun _ => inner sd (by omega) (fun h5 F5 U1 U2 => ih (sd + 1) h5 (by omega) F5 U1 U2) (lnW (tS S) w sd) 0 h4 (by omega) F4 T1 T2⟩
      have := (nI_le_iff (a := 4) (b := sd) (by omega) (by omega)).mp z
      omega
  exact outer 4 0 h3 rfl (FrI.rf _ h3) (fun j hj v => ⟨fun z => by unfold lxG at z; omega, fun _ => rfl⟩) (fun j hj v => ⟨fun z => by unfold lxG at z; omega, fun _ => rfl⟩)
/-- the better of two -/
def stpG (C T : Nat → Int) (at' a : Nat) : Nat := if C at' < C a ∨ (C at' = C a ∧ T at' < T a) then at' else a
def rowG (C T : Nat → Int) (ln : Nat → Nat) (sd a : Nat) : Nat := foldF (fun pl a => stpG C T (40 * sd + pl) a) a 0 (ln sd)
def bestG (C T : Nat → Int) (ln : Nat → Nat) : Nat := foldF (rowG C T ln) 0 0 4
theorem stpG_shift {C T : Nat → Int} (u v : Int) : stpG (fun j => C j + u) (fun j => T j + v) = stpG C T := by
  funext j a
  show (if C j + u < C a + u ∨ (C j + u = C a + u ∧ T j + v < T a + v) then j else a) = if C j < C a ∨ (C j = C a ∧ T j < T a) then j else a
  by_cases c : C j < C a ∨ (C j = C a ∧ T j < T a)
  · rw [if_pos c, if_pos (by omega)]
  · rw [if_neg c, if_neg (by omega)]
theorem s_bestGate {h : HP} {C T : Nat → Int} (hd : 1 ≤ d) (X : WyX G h q s S) (hw : wl (tS S) w) (bC : ∀ j, vldG (tS S) w j → 0 ≤ C j ∧ C j < 1000000) (bT : ∀ j, vldG (tS S) w j → 0 ≤ T j ∧ T j < 1000000) (vC : ∀ j, j < 160 → vldG (tS S) w j → hI h (q + 6) j = iI (C j)) (vT : ∀ j, j < 160 → vldG (tS S) w j → hI h (q + 7) j = iI (T j)) (hQ : vldG (tS S) w (bestG C T (lnW (tS S) w)) → Q (some (.int (nI (bestG C T (lnW (tS S) w))))) h) : Cal G d mX10_bestGate [.ref q, .ref (s + 5 + w)] h Q := by
  have W := X.2.2.2.1
  have w30 := hw.2.1
  have k9 := (X.2.1.2.2.2.2.2.2.1 w (by omega)).2
  have kk6 := X.1.1.2.2.2 (q + 6) (by omega) (by omega)
  have kk7 := X.1.1.2.2.2 (q + 7) (by omega) (by omega)
  have v160 : ∀ j, vldG (tS S) w j → j < 160 := fun j v => by have := v.1; omega
  refine e_X10_bestGate ?_
  unfold T_X10_bestGate
  have inner : ∀ sd, sd < 4 → ∀ n pl a, pl + n = lnW (tS S) w sd → vldG (tS S) w a → (∀ a', vldG (tS S) w a' → a' = foldF (fun pl a => stpG C T (40 * sd + pl) a) a pl n → Ex G d mX10_bestGate 4 [(0, .ref q), (1, .ref (s + 5 + w)), (2, .int (nI a')), (3, .int (nI (sd + 1)))] [] h Q) → Ex G d mX10_bestGate 12 [(0, .ref q), (1, .ref (s + 5 + w)), (2, .int (nI a)), (3, .int (nI sd)), (4, .int (nI pl))] [] h Q := by
    intro sd h4 n
    have ll := lnW_le W hw sd
    induction n with
    | zero =>
      intro pl a hn va next
      refine t_X10_bestGate_12 hd ⟨k9, s_lengthOf k9 ⟨_, rfl, fun _ => ?_, fun z => ?_⟩⟩
      · rw [nI_S]
        exact next a va rfl
      · rw [sidF_n W hw (fun k a b => X.th w30 hw.2.2 a b) h4] at z
        exact absurd ((nI_le_iff (by omega) (by omega)).mpr (by omega)) z
    | succ n ih =>
      intro pl a hn va next
      have ea : nI sd * 40 + nI pl = nI (40 * sd + pl) := e40 pl sd
      have vj : vldG (tS S) w (40 * sd + pl) := by
        unfold vldG
        rw [show (40 * sd + pl) / 40 = sd by omega, show (40 * sd + pl) % 40 = pl by omega]
        omega
      have a160 := v160 a va
      have j160 := v160 _ vj
      have va6 : vp_in (nI a) (hN h (q + 6)) := by rw [kk6.2]; exact vin_nI a160 (by omega)
      have vj6 : vp_in (nI sd * 40 + nI pl) (hN h (q + 6)) := by rw [ea, kk6.2]; exact vin_nI j160 (by omega)
      have va7 : vp_in (nI a) (hN h (q + 7)) := by rw [kk7.2]; exact vin_nI a160 (by omega)
      have vj7 : vp_in (nI sd * 40 + nI pl) (hN h (q + 7)) := by rw [ea, kk7.2]; exact vin_nI j160 (by omega)
      have c1 := bC _ vj
      have c2 := bC a va
      have d1 := bT _ vj
      have d2 := bT a va
      simp only [foldF] at next
      have yes : (C (40 * sd + pl) < C a ∨ (C (40 * sd + pl) = C a ∧ T (40 * sd + pl) < T a)) → Ex G d mX10_bestGate 12 [(0, .ref q), (1, .ref (s + 5 + w)), (2, .int (nI sd * 40 + nI pl)), (3, .int (nI sd)), (4, .int (nI pl + 1))] [] h Q := fun z => by
        rw [nI_S, ea]
        refine ih (pl + 1) _ (by omega) vj (fun a' v' e' => next a' v' ?_)
        rw [e']
        unfold stpG
        rw [if_pos z]
      have no : ¬ (C (40 * sd + pl) < C a ∨ (C (40 * sd + pl) = C a ∧ T (40 * sd + pl) < T a)) → Ex G d mX10_bestGate 12 [(0, .ref q), (1, .ref (s + 5 + w)), (2, .int (nI a)), (3, .int (nI sd)), (4, .int (nI pl + 1))] [] h Q := fun z => by
        rw [nI_S]
        refine ih (pl + 1) a (by omega) va (fun a' v' e' => next a' v' ?_)
        rw [e']
        unfold stpG
        rw [if_neg z]
      refine t_X10_bestGate_12 hd ⟨k9, s_lengthOf k9 ⟨_, rfl, fun z => ?_, fun _ => ⟨X.1.1.1, q + 6, X.1.1.2.1.2.2.2.2.2.1, kk6.1, vj6, va6, fun z => yes ?_, fun z => ⟨vj6, va6, fun z2 => no ?_, fun z2 => ⟨q + 7, X.1.1.2.1.2.2.2.2.2.2, kk7.1, vj7, va7, fun z3 => no ?_, fun z3 => yes ?_⟩⟩⟩⟩⟩
      · rw [sidF_n W hw (fun k a b => X.th w30 hw.2.2 a b) h4, nI_le_iff (by omega) (by omega)] at z
        omega
      all_goals rw [ea, cl_nI (by omega), cl_nI (by omega)] at z
      all_goals rw [vC _ j160 vj, vC _ a160 va, ti_lt, ti_iI (by omega) (by omega), ti_iI (by omega) (by omega)] at z
      · exact Or.inl z
      all_goals rw [ea, cl_nI (by omega), cl_nI (by omega)] at z2
      all_goals rw [vC _ j160 vj, vC _ a160 va, ti_eq, ti_iI (by omega) (by omega), ti_iI (by omega) (by omega)] at z2
      · omega
      all_goals rw [ea, cl_nI (by omega), cl_nI (by omega)] at z3
      all_goals rw [vT _ j160 vj, vT _ a160 va, ti_le, ti_iI (by omega) (by omega), ti_iI (by omega) (by omega)] at z3
      · omega
      · omega
  have outer : ∀ n sd a, sd + n = 4 → vldG (tS S) w a → (∀ a', vldG (tS S) w a' → a' = foldF (rowG C T (lnW (tS S) w)) a sd n → Q (some (.int (nI a'))) h) → Ex G d mX10_bestGate 4 [(0, .ref q), (1, .ref (s + 5 + w)), (2, .int (nI a)), (3, .int (nI sd))] [] h Q := by
    intro n
    induction n with
    | zero =>
      intro sd a hn va next
      obtain rfl : sd = 4 := by omega
      exact t_X10_bestGate_4 ⟨fun _ => next a va rfl, fun z => absurd (show (4 : Int32) ≤ nI 4 by decide) z⟩
    | succ n ih =>
      intro sd a hn va next
      refine t_X10_bestGate_4 ⟨fun z => ?_, fun _ => inner sd (by omega) (lnW (tS S) w sd) 0 a (by omega) va (fun a' v' e' => ih (sd + 1) a' (by omega) v' (fun a2 v2 e2 => next a2 v2 ?_))⟩
      · have := (nI_le_iff (a := 4) (b := sd) (by omega) (by omega)).mp z
        omega
      · rw [e2, e']
        rfl
  have l0 := lnW_le W hw 0
  exact outer 4 0 0 rfl ⟨by omega, by show 0 % 40 < lnW (tS S) w (0 / 40); rw [show 0 / 40 = 0 by omega, show 0 % 40 = 0 by omega]; omega⟩ (fun a' v' e' => by
    have e2 : a' = bestG C T (lnW (tS S) w) := e'
    rw [e2]
    exact hQ (by rw [← e2]; exact v'))
end TG
