/-! ===== gates tried by the class ===== -/
noncomputable def gN (S : Nat → Int32) (w sd pl o : Nat) : Nat := @ite _ (wIn (tS S) w o) (Classical.propDecidable _) (gin (tS S) w sd pl) (nbC (gin (tS S) w sd pl) sd)
noncomputable def gF (S : Nat → Int32) (w sd pl o : Nat) : Nat := @ite _ (wIn (tS S) w o) (Classical.propDecidable _) (nbC (gin (tS S) w sd pl) sd) (gin (tS S) w sd pl)
def gBad (S : Nat → Int32) (w sd pl o t : Nat) : Prop := ¬ hop S (gin (tS S) w sd pl) sd ∨ dR S 0 o (gN S w sd pl o) = -1 ∨ dR S 0 t (gF S w sd pl o) = -1
noncomputable def gV (S : Nat → Int32) (w : Nat) (f : Int32) (o t : Nat) (m : Bool) (sd pl : Nat) : Int := @ite _ (gBad S w sd pl o t) (Classical.propDecidable _) (if m then 999 else 9999) (if m then coi (tS S) f o t else dR S 0 o (gN S w sd pl o) + 1 + dR S 0 t (gF S w sd pl o))
theorem gnr_is (S : Nat → Int32) (w sd pl o : Nat) : gnr S w sd pl o (gN S w sd pl o) (gF S w sd pl o) := by
  unfold gN gF
  by_cases c : wIn (tS S) w o
  · left
    exact ⟨c, @if_pos _ (Classical.propDecidable _) c _ _ _, @if_pos _ (Classical.propDecidable _) c _ _ _⟩
  · right
    exact ⟨c, @if_neg _ (Classical.propDecidable _) c _ _ _, @if_neg _ (Classical.propDecidable _) c _ _ _⟩
theorem gV_bad {S : Nat → Int32} {w : Nat} {f : Int32} {o t : Nat} {sd pl : Nat} (h : gBad S w sd pl o t) (m : Bool) : gV S w f o t m sd pl = if m then 999 else 9999 := by
  unfold gV
  exact @if_pos _ (Classical.propDecidable _) h _ _ _
theorem gV_ok {S : Nat → Int32} {w : Nat} {f : Int32} {o t : Nat} {sd pl : Nat} (h : ¬ gBad S w sd pl o t) (m : Bool) : gV S w f o t m sd pl = if m then coi (tS S) f o t else dR S 0 o (gN S w sd pl o) + 1 + dR S 0 t (gF S w sd pl o) := by
  unfold gV
  exact @if_neg _ (Classical.propDecidable _) h _ _ _
def vldG (A : Nat → Nat → Int32) (w j : Nat) : Prop := j / 40 < 4 ∧ j % 40 < lnW A w (j / 40)
section AG
variable {G : GG} {d : Nat} {q s : Nat} {S : Nat → Int32} {Q : Option Value → HP → Prop} {w : Nat}
theorem lnW_le (W : WF S) (hw : wl (tS S) w) (sd : Nat) : 1 ≤ lnW (tS S) w sd ∧ lnW (tS S) w sd ≤ 40 := by
  obtain ⟨-, ⟨b1, b2⟩, b3, b4⟩ := (W.2.2.2.2.1 w hw.2.1 hw.2.2).n W.1.1.1.2 W.1.1.2.1.2
  unfold lnW
  split <;> omega
def leavesI (S : Nat → Int32) (w o : Nat) (x : Int32) : Prop := (x = 1 ∧ wIn (tS S) w o) ∨ (x = 0 ∧ ¬ wIn (tS S) w o)
def AgF (q a : Nat) (_ : Nat) : Prop := a = q + 6 ∨ a = q + 7
set_option maxHeartbeats 1000000 in
theorem s_addGate {h : HP} (hd : 1 ≤ d) (X : WyX G h q s S) (hw : wl (tS S) w) {sd pl o t : Nat} {f x4 : Int32} (h4 : sd < 4) (hp : pl < lnW (tS S) w sd) (ho : o < 1600) (ht : t < 1600) (lv : leavesI S w o x4) (k1 : ∀ c, c < 1600 → hI h (q + 1) c = iI (dR S 0 o c)) (k2 : ∀ c, c < 1600 → hI h (q + 2) c = iI (dR S 0 t c)) (kc : hI h q 1 = iI (coi (tS S) f o t))
    (hQ : ∀ h2, FrI (AgF q) h h2 → (∀ j, hI h2 (q + 6) j = if j = 40 * sd + pl then hI h (q + 6) j + iI (gV S w f o t true sd pl) else hI h (q + 6) j) → (∀ j, hI h2 (q + 7) j = if j = 40 * sd + pl then hI h (q + 7) j + iI (gV S w f o t false sd pl) else hI h (q + 7) j) → Q none h2) : Cal G d mX10_addGate [.ref q, .ref (s + 5 + w), .int (nI sd), .int (nI pl), .int x4] h Q := by
  have W := X.2.2.2.1
  have L := W.l40
  have w30 := hw.2.1
  have g := W.2.2.2.2.1 w w30 hw.2.2
  obtain ⟨⟨a1, a2, a3, a4⟩, ⟨b1, b2⟩, b3, b4⟩ := g.n W.1.1.1.2 W.1.1.2.1.2
  obtain ⟨gl, gi, gh, gx, gz⟩ := gin_at W hw h4 hp
  have lle := (lnW_le W hw sd).2
  have g16 := gl.lt L
  have k9 := (X.2.1.2.2.2.2.2.2.1 w (by omega)).2
  have t1 : hI h (s + 5 + w) 1 = nI (cN (tS S) w 1) := (X.th w30 hw.2.2 (by omega) (by omega)).trans a1
  have t2 : hI h (s + 5 + w) 2 = nI (cN (tS S) w 2) := (X.th w30 hw.2.2 (by omega) (by omega)).trans a2
  have t3 : hI h (s + 5 + w) 3 = nI (cN (tS S) w 3) := (X.th w30 hw.2.2 (by omega) (by omega)).trans a3
  have t4 : hI h (s + 5 + w) 4 = nI (cN (tS S) w 4) := (X.th w30 hw.2.2 (by omega) (by omega)).trans a4
  have r6 := X.1.1.2.1.2.2.2.2.2.1
  have r7 := X.1.1.2.1.2.2.2.2.2.2
  have kk6 := X.1.1.2.2.2 (q + 6) (by omega) (by omega)
  have kk7 := X.1.1.2.2.2 (q + 7) (by omega) (by omega)
  have kk1 := X.1.1.2.2.1 (q + 1) (by omega) (by omega)
  have kk2 := X.1.1.2.2.1 (q + 2) (by omega) (by omega)
  have ea : nI sd * 40 + nI pl = nI (40 * sd + pl) := e40 pl sd
  have ga := hp
  -- the two rows take it
  have put : ∀ (x5 x6 x7 x8 x9 x10 z : Int32), ((z = 0 ∧ x9 = iI (dR S 0 o (gN S w sd pl o)) ∧ x10 = iI (dR S 0 t (gF S w sd pl o)) ∧ ¬ gBad S w sd pl o t) ∨ (¬ z = 0 ∧ gBad S w sd pl o t)) → Ex G d mX10_addGate 217 [(0, .ref q), (1, .ref (s + 5 + w)), (2, .int (nI sd)), (3, .int (nI pl)), (4, .int x4), (5, .int x5), (6, .int x6), (7, .int x7), (8, .int x8), (9, .int x9), (10, .int x10)] [.int z] h Q := by
    intro x5 x6 x7 x8 x9 x10 z hz
    have v6 : vp_in (nI (40 * sd + pl)) (hN h (q + 6)) := by rw [kk6.2]; exact vin_nI (by omega) (by omega)
    have v7 : vp_in (nI (40 * sd + pl)) (hN h (q + 7)) := by rw [kk7.2]; exact vin_nI (by omega) (by omega)
    have fin : ∀ (c1 c2 : Int32), c1 = iI (gV S w f o t true sd pl) → c2 = iI (gV S w f o t false sd pl) → Q none (sI (sI h (q + 6) (40 * sd + pl) (hI h (q + 6) (40 * sd + pl) + c1)) (q + 7) (40 * sd + pl) (hI h (q + 7) (40 * sd + pl) + c2)) := fun c1 c2 e1 e2 => by
      refine hQ _ ((FrI.sI (P := AgF q) h _ (Or.inl rfl)).tr (FrI.sI (P := AgF q) _ _ (Or.inr rfl))) (fun j => ?_) (fun j => ?_)
      · rw [hI_ne _ _ (Or.inl (by omega)), hI_sI, e1]
        by_cases c : j = 40 * sd + pl
        · rw [if_pos ⟨rfl, c⟩, if_pos c, c]
        · rw [if_neg (fun z => c z.2), if_neg c]
      · rw [hI_sI, e2]
        by_cases c : j = 40 * sd + pl
        · rw [if_pos ⟨rfl, c⟩, if_pos c, c]
        · rw [if_neg (fun z => c z.2), if_neg c, hI_ne _ _ (Or.inl (by omega))]
    refine t_X10_addGate_217 ⟨X.1.1.1, q + 6, r6, kk6.1, by rw [ea]; exact v6, fun e => ?_, fun e => ?_⟩
    · rcases hz with ⟨-, e9, e10, nb⟩ | ⟨nz, -⟩
      · refine t_X10_addGate_246 ⟨kk6.1, by rw [ea]; exact v6, X.1.1.1.sI, q + 7, by rw [hR_sI]; exact r7, kk7.1.sI, by rw [ea]; exact v7, fun _ => ⟨by rw [ea]; exact v7, fun h10 g10 => ?_⟩, fun n => absurd e n⟩
        rw [ea, cl_nI (by omega), hI_ne _ _ (Or.inl (show q + 7 ≠ q + 6 by omega))] at g10
        rw [g10]
        refine fin _ _ ?_ ?_
        · rw [kc, gV_ok nb]
          rfl
        · rw [e9, e10, gV_ok nb, if_neg (by decide), iI_add, iI_add]
          rfl
      · exact absurd e nz
    · rcases hz with ⟨ez, -⟩ | ⟨-, bd⟩
      · exact absurd ez e
      · refine t_X10_addGate_246 ⟨kk6.1, by rw [ea]; exact v6, X.1.1.1.sI, q + 7, by rw [hR_sI]; exact r7, kk7.1.sI, by rw [ea]; exact v7, fun n => absurd n e, fun _ => ⟨by rw [ea]; exact v7, fun h10 g10 => ?_⟩⟩
        rw [ea, cl_nI (by omega), hI_ne _ _ (Or.inl (show q + 7 ≠ q + 6 by omega))] at g10
        rw [g10]
        refine fin _ _ ?_ ?_
        · rw [gV_bad bd]
          rfl
        · rw [gV_bad bd]
          rfl
  have two : ∀ (x5 x6 x7 x8 x9 x10 : Int32), (hop S (gin (tS S) w sd pl) sd → x9 = iI (dR S 0 o (gN S w sd pl o)) ∧ x10 = iI (dR S 0 t (gF S w sd pl o))) → (¬ hop S (gin (tS S) w sd pl) sd → x9 = -1) → Ex G d mX10_addGate 200 [(0, .ref q), (1, .ref (s + 5 + w)), (2, .int (nI sd)), (3, .int (nI pl)), (4, .int x4), (5, .int x5), (6, .int x6), (7, .int x7), (8, .int x8), (9, .int x9), (10, .int x10)] [] h Q := by
    intro x5 x6 x7 x8 x9 x10 e1 e2
    have d1 := dR_rng (g := 0) (c := gN S w sd pl o) L ho
    have d2 := dR_rng (g := 0) (c := gF S w sd pl o) L ht
    by_cases hh : hop S (gin (tS S) w sd pl) sd
    · obtain ⟨e9, e10⟩ := e1 hh
      refine t_X10_addGate_200 ⟨fun z => put _ _ _ _ _ _ 1 (Or.inr ⟨by decide, Or.inr (Or.inl ?_)⟩), fun z => ⟨fun z2 => put _ _ _ _ _ _ 0 (Or.inl ⟨rfl, e9, e10, fun bd => ?_⟩), fun z2 => put _ _ _ _ _ _ 1 (Or.inr ⟨by decide, Or.inr (Or.inr ?_)⟩)⟩⟩
      · rw [e9, iI_m1 (by omega) (by omega)] at z
        exact z
      · rcases bd with bd | bd | bd
        · exact bd hh
        · rw [e9, bd] at z
          exact z rfl
        · rw [e10, bd] at z2
          exact z2 rfl
      · rw [e10, iI_m1 (by omega) (by omega)] at z2
        exact z2
    · refine t_X10_addGate_200 ⟨fun _ => put _ _ _ _ _ _ 1 (Or.inr ⟨by decide, Or.inl hh⟩), fun z => absurd (e2 hh) z⟩
  have lk : ∀ (ox oz : Int32), (hop S (gin (tS S) w sd pl) sd → ox = nI (nbC (gin (tS S) w sd pl) sd % 40) ∧ oz = nI (nbC (gin (tS S) w sd pl) sd / 40)) → (¬ hop S (gin (tS S) w sd pl) sd → ¬ inB (S 0) (S 1) ox oz = true) → Ex G d mX10_addGate 120 [(0, .ref q), (1, .ref (s + 5 + w)), (2, .int (nI sd)), (3, .int (nI pl)), (4, .int x4), (5, .int (nI (gin (tS S) w sd pl % 40))), (6, .int (nI (gin (tS S) w sd pl / 40))), (7, .int ox)] [.int oz] h Q := by
    intro ox oz e1 e2
    refine t_X10_addGate_120 hd ⟨X.1.1.1, s, X.1.2, X.2.1.1, s_hasCell X.2.1.1 ?_⟩
    rw [X.2.2.1.1 0 (by omega), X.2.2.1.1 1 (by omega)]
    by_cases hh : hop S (gin (tS S) w sd pl) sd
    · obtain ⟨eox, eoz⟩ := e1 hh
      have nl := (hh.nb L).1
      have o16 := nl.lt L
      have ib : inB (S 0) (S 1) ox oz = true := by
        rw [eox, eoz]
        exact (inB_c o16).mpr nl
      rw [if_pos ib, eox, eoz, ex40, ex40]
      refine ⟨1, rfl, fun z => absurd z (by decide), fun _ => ⟨q + 1, X.1.1.2.1.1, fun z => ?_, fun z => ?_⟩⟩
      · rcases lv with ⟨a, -⟩ | ⟨-, b⟩
        · rw [a] at z
          exact absurd z (by decide)
        · have eN : gN S w sd pl o = nbC (gin (tS S) w sd pl) sd := @if_neg _ (Classical.propDecidable _) b _ _ _
          have eF : gF S w sd pl o = gin (tS S) w sd pl := @if_neg _ (Classical.propDecidable _) b _ _ _
          refine t_X10_addGate_178 ⟨kk1.1, by rw [kk1.2]; exact vin_nI o16 (by omega), X.1.1.1, q + 2, X.1.1.2.1.2.1, fun _ => ⟨kk2.1, by rw [kk2.2]; exact vin_nI g16 (by omega), ?_⟩, fun n => absurd z n⟩
          rw [cl_nI (by omega), cl_nI (by omega), k1 _ o16, k2 _ g16]
          exact two _ _ _ _ _ _ (fun _ => ⟨by rw [eN], by rw [eF]⟩) (fun n => absurd hh n)
      · rcases lv with ⟨-, b⟩ | ⟨a, -⟩
        · have eN : gN S w sd pl o = gin (tS S) w sd pl := @if_pos _ (Classical.propDecidable _) b _ _ _
          have eF : gF S w sd pl o = nbC (gin (tS S) w sd pl) sd := @if_pos _ (Classical.propDecidable _) b _ _ _
          refine t_X10_addGate_178 ⟨kk1.1, by rw [kk1.2]; exact vin_nI g16 (by omega), X.1.1.1, q + 2, X.1.1.2.1.2.1, fun n => absurd n z, fun _ => ⟨kk2.1, by rw [kk2.2]; exact vin_nI o16 (by omega), ?_⟩⟩
          rw [cl_nI (by omega), cl_nI (by omega), k1 _ g16, k2 _ o16]
          exact two _ _ _ _ _ _ (fun _ => ⟨by rw [eN], by rw [eF]⟩) (fun n => absurd hh n)
        · exact absurd a z
    · rw [if_neg (e2 hh)]
      exact ⟨0, rfl, fun _ => two _ _ _ _ _ _ (fun y => absurd y hh) (fun _ => rfl), fun z => absurd rfl z⟩
  have inl := gl
  unfold inLd at inl
  have nob : ∀ (ox oz : Int32), (ox.toInt < 0 ∨ (S 0).toInt ≤ ox.toInt ∨ oz.toInt < 0 ∨ (S 1).toInt ≤ oz.toInt) → ¬ inB (S 0) (S 1) ox oz = true := fun ox oz c z => by
    unfold inB at z
    rw [decide_eq_true_eq, ti_le, ti_lt, ti_le, ti_lt, show (0 : Int32).toInt = 0 from rfl] at z
    omega
  rcases (show sd = 0 ∨ sd = 1 ∨ sd = 2 ∨ sd = 3 by omega) with e | e | e | e
  · subst e
    simp only [if_true, Nat.zero_ne_one, if_false, show ¬ (0 : Nat) = 3 by omega] at gx gz
    refine e_X10_addGate ⟨fun _ => ⟨fun _ => ⟨k9, ?_⟩, fun z => absurd z (by decide)⟩, fun z => absurd z (by decide)⟩
    rw [t1, nA, ← gx]
    refine t_X10_addGate_32 ⟨fun z => absurd rfl z, fun _ => ⟨k9, ?_⟩⟩
    rw [t2, ← gz]
    refine t_X10_addGate_65 ⟨fun _ => ⟨fun _ => t_X10_addGate_93 ⟨fun z => absurd rfl z, fun _ => lk _ _ (fun hh => ?_) (fun hh => nob _ _ ?_)⟩, fun z => absurd z (by decide)⟩, fun z => absurd z (by decide)⟩
    · have := (hh.nb L).2.2
      refine ⟨by rw [show gin (tS S) w 0 pl % 40 = nbC (gin (tS S) w 0 pl) 0 % 40 by omega], ?_⟩
      rw [show (1 : Int32) = nI 1 from rfl, nS (by omega), show gin (tS S) w 0 pl / 40 - 1 = nbC (gin (tS S) w 0 pl) 0 / 40 by omega]
    · have z0 : gin (tS S) w 0 pl / 40 = 0 := Classical.byContradiction (fun z => hh ⟨gl, Or.inl ⟨rfl, by omega⟩⟩)
      rw [z0]
      exact Or.inr (Or.inr (Or.inl (by decide)))
  · subst e
    simp only [if_true, show ¬ (1 : Nat) = 0 by omega, show ¬ (1 : Nat) = 2 by omega, if_false] at gx gz
    refine e_X10_addGate ⟨fun z => absurd rfl z, fun _ => ⟨k9, ?_⟩⟩
    rw [t3, show (1 : Int32) = nI 1 from rfl, nS (by omega), ← gx]
    refine t_X10_addGate_32 ⟨fun _ => ⟨fun _ => ⟨k9, ?_⟩, fun z => absurd z (by decide)⟩, fun z => absurd z (by decide)⟩
    rw [t2, nA, ← gz]
    refine t_X10_addGate_65 ⟨fun z => absurd rfl z, fun _ => t_X10_addGate_93 ⟨fun _ => ⟨fun _ => lk _ _ (fun hh => ?_) (fun hh => nob _ _ ?_), fun z => absurd z (by decide)⟩, fun z => absurd z (by decide)⟩⟩
    · have := (hh.nb L).2.2
      refine ⟨?_, by rw [show gin (tS S) w 1 pl / 40 = nbC (gin (tS S) w 1 pl) 1 / 40 by omega]⟩
      rw [nI_S, show gin (tS S) w 1 pl % 40 + 1 = nbC (gin (tS S) w 1 pl) 1 % 40 by omega]
    · rw [nI_S, ti_nI (by omega)]
      exact Or.inr (Or.inl (Classical.byContradiction (fun z => hh ⟨gl, Or.inr (Or.inl ⟨rfl, by omega⟩)⟩)))
  · subst e
    simp only [if_true, show ¬ (2 : Nat) = 0 by omega, show ¬ (2 : Nat) = 1 by omega, show ¬ (2 : Nat) = 3 by omega, if_false] at gx gz
    refine e_X10_addGate ⟨fun _ => ⟨fun _ => ⟨k9, ?_⟩, fun z => absurd z (by decide)⟩, fun z => absurd z (by decide)⟩
    rw [t1, nA, ← gx]
    refine t_X10_addGate_32 ⟨fun _ => ⟨fun z => absurd rfl z, fun _ => ⟨k9, ?_⟩⟩, fun z => absurd z (by decide)⟩
    rw [t4, show (1 : Int32) = nI 1 from rfl, nS (by omega), ← gz]
    refine t_X10_addGate_65 ⟨fun _ => ⟨fun _ => t_X10_addGate_93 ⟨fun _ => ⟨fun z => absurd rfl z, fun _ => lk _ _ (fun hh => ?_) (fun hh => nob _ _ ?_)⟩, fun z => absurd z (by decide)⟩, fun z => absurd z (by decide)⟩, fun z => absurd z (by decide)⟩
    · have := (hh.nb L).2.2
      refine ⟨by rw [show gin (tS S) w 2 pl % 40 = nbC (gin (tS S) w 2 pl) 2 % 40 by omega], ?_⟩
      show nI _ + nI 1 = _
      rw [nA, show gin (tS S) w 2 pl / 40 + 1 = nbC (gin (tS S) w 2 pl) 2 / 40 by omega]
    · refine Or.inr (Or.inr (Or.inr ?_))
      show _ ≤ (nI _ + nI 1).toInt
      rw [nA, ti_nI (by omega)]
      exact Classical.byContradiction (fun z => hh ⟨gl, Or.inr (Or.inr (Or.inl ⟨rfl, by omega⟩))⟩)
  · subst e
    simp only [if_true, show ¬ (3 : Nat) = 0 by omega, show ¬ (3 : Nat) = 1 by omega, show ¬ (3 : Nat) = 2 by omega, if_false] at gx gz
    refine e_X10_addGate ⟨fun _ => ⟨fun z => absurd rfl z, fun _ => ⟨k9, ?_⟩⟩, fun z => absurd z (by decide)⟩
    rw [t1, ← gx]
    refine t_X10_addGate_32 ⟨fun _ => ⟨fun _ => ⟨k9, ?_⟩, fun z => absurd z (by decide)⟩, fun z => absurd z (by decide)⟩
    rw [t2, nA, ← gz]
    refine t_X10_addGate_65 ⟨fun _ => ⟨fun z => absurd rfl z, fun _ => t_X10_addGate_93 ⟨fun _ => ⟨fun _ => lk _ _ (fun hh => ?_) (fun hh => nob _ _ ?_), fun z => absurd z (by decide)⟩, fun z => absurd z (by decide)⟩⟩, fun z => absurd z (by decide)⟩
    · have := (hh.nb L).2.2
      refine ⟨?_, by rw [show gin (tS S) w 3 pl / 40 = nbC (gin (tS S) w 3 pl) 3 / 40 by omega]⟩
      rw [show (1 : Int32) = nI 1 from rfl, nS (by omega), show gin (tS S) w 3 pl % 40 - 1 = nbC (gin (tS S) w 3 pl) 3 % 40 by omega]
    · have z0 : gin (tS S) w 3 pl % 40 = 0 := Classical.byContradiction (fun z => hh ⟨gl, Or.inr (Or.inr (Or.inr ⟨rfl, by omega⟩))⟩)
      rw [z0]
      exact Or.inl (by decide)
end AG
