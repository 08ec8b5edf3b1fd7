/-! ===== a text is read by the reference: values and sums ===== -/
/-- the reference in a text: place p, m values made, code C -/
def TxR (G : GG) (h : HP) (y : Nat) (B : Nat → Int32) (n t p m : Nat) (C : List Tok) : Prop := RdX G h y B n p ∧ (hI h y 14 = 0 ∧ hI h y 16 = nI t ∧ hI h y 17 = nI m) ∧ hI h (y + 4) t = nI C.length ∧ SegR h (y + 3) (400 * t) C ∧ t < 12
def SmF (y t a k : Nat) : Prop := (a = y ∧ (k = 13 ∨ k = 14 ∨ k = 15 ∨ k = 17)) ∨ (a = y + 4 ∧ k = t) ∨ (a = y + 3 ∧ 400 * t ≤ k ∧ k < 400 * t + 400)
def RV (G : GG) (y : Nat) (B : Nat → Int32) (n t : Nat) (C : List Tok) (R : Rs) (h : HP) (Q : Option Value → HP → Prop) : Prop := (∀ e, R = .inl e → ∀ h2, FrI (SmF y t) h h2 → hI h2 y 14 = nI e → Q (some (.int 0)) h2) ∧ ∀ r, R = .inr r → ∀ h2, FrI (SmF y t) h h2 → TxR G h2 y B n t r.1 r.2.1 (C ++ r.2.2) → Q (some (.int 1)) h2
section TV
variable {G : GG} {d : Nat} {y : Nat} {B : Nat → Int32} {n t : Nat} {Q : Option Value → HP → Prop}
theorem see_sg {p c : Nat} (hb : p < n → rng (B p) (-128) 127) (hc : c < 128) (hL : isL (nI c) = false) (hD : isD (nI c) = false) (h1 : nI c ≠ 60) (h2 : nI c ≠ 62) : seeV B n p = nI c ↔ (kdT B n p = 3 ∧ vlT B n p = nI c) := by
  rw [seeV_is hb hc]
  refine ⟨fun q => ?_, fun q => of_sg q.1 q.2 ?_ ?_⟩
  · obtain ⟨a, b, -⟩ := sg_of q.1 q.2 hL hD h1 h2
    exact ⟨a, b⟩
  · exact fun z => by
      have := (nI_eq_iff (b := 256) (by omega) (by omega)).mp z
      omega
  · exact fun z => by
      have := (nI_eq_iff (b := 257) (by omega) (by omega)).mp z
      omega
theorem nx_sg {p : Nat} {c : Int32} (h : kdT B n p = 3 ∧ vlT B n p = c) (hL : isL c = false) (hD : isD c = false) (h1 : c ≠ 60) (h2 : c ≠ 62) (h3 : c ≠ 256) (h4 : c ≠ 257) : (p < n ∧ B p = c) ∧ nxT B n p = p + 1 := by
  have a := of_sg h.1 h.2 h3 h4
  exact ⟨a, (sg_of a.1 a.2 hL hD h1 h2).2.2⟩
theorem RdE.byte {h : HP} {p : Nat} (E : RdE G h y B n p) (hp : p < n) : ∃ q, hR h y 0 = some q ∧ Kd G h q 13 ∧ vp_in (hI h y 13) (hN h q) ∧ hI h q (hI h y 13).toNatClampNeg = B p := by
  obtain ⟨m1, m2, m3⟩ := E.1.tp
  have n4 := E.2.1.2.1
  refine ⟨y + 1, m1, m2, ?_, ?_⟩
  · rw [E.2.2.1, m3]
    exact vin_nI (by omega) (by omega)
  · rw [E.2.2.1, cl_nI (by omega)]
    exact E.2.1.2.2.1 p hp
theorem RdE.pass {h : HP} {p : Nat} (E : RdE G h y B n p) (hp : p < n) (hx : nxT B n p = p + 1) : RdX G (sI h y 13 (hI h y 13 + 1)) y B n (nxP B n p) := by
  rw [E.2.2.1, nI_S]
  refine ⟨E.1.fr (FrI.sI (P := F13 y) h _ ⟨rfl, rfl⟩), E.2.1.fi (FrI.sI (P := F13 y) h _ ⟨rfl, rfl⟩) (fun a k z => f13_ok z), p + 1, by omega, hI_eq _ _ _ _, ?_⟩
  unfold nxP
  rw [hx]
theorem f13_sm {a k : Nat} (z : F13 y a k) : SmF y t a k := by unfold F13 at z; unfold SmF; omega
theorem f135_sm {a k : Nat} (z : F135 y a k) : SmF y t a k := by unfold F135 at z; unfold SmF; omega
theorem MdSh.tx {h : HP} (M : MdSh G h y) : (hR h y 3 = some (y + 3) ∧ Kd G h (y + 3) 14 ∧ hN h (y + 3) = 4800) ∧ (hR h y 4 = some (y + 4) ∧ Kd G h (y + 4) 14 ∧ hN h (y + 4) = 13) := ⟨M.2 (3, 3, 14, 4800) (by decide), M.2 (4, 4, 14, 13) (by decide)⟩
theorem TxR.fr {h h2 : HP} {P : Nat → Nat → Prop} {p m x : Nat} {C : List Tok} (T : TxR G h y B n t p m C) (F : FrI P h h2) (hP : ∀ a k, P a k → a = y ∧ (k = 13 ∨ k = 14 ∨ k = 15)) (X : RdX G h2 y B n x) (w : hI h2 y 14 = 0) : TxR G h2 y B n t x m C := by
  obtain ⟨-, ⟨-, a2, a3⟩, a4, a5, a6⟩ := T
  have ei : ∀ a k, ¬ (a = y ∧ (k = 13 ∨ k = 14 ∨ k = 15)) → hI h2 a k = hI h a k := fun a k ha => F.i (fun z => ha (hP a k z))
  exact ⟨X, ⟨w, (ei _ _ (by omega)).trans a2, (ei _ _ (by omega)).trans a3⟩, (ei _ _ (by omega)).trans a4, a5.fr (fun j _ => ei _ _ (by omega)), a6⟩
theorem TxR.f13 {h h2 : HP} {p m x : Nat} {C : List Tok} (T : TxR G h y B n t p m C) (F : FrI (F13 y) h h2) (X : RdX G h2 y B n x) : TxR G h2 y B n t x m C := T.fr F (fun a k z => by unfold F13 at z; omega) X ((F.i (by unfold F13; omega)).trans T.2.1.1)
theorem r_puts {h : HP} {p m : Nat} {C : List Tok} {q : Tok} {x1 : Int32} (T : TxR G h y B n t p m C) (hc : C.length < 400) (hx : x1 = nI q.1) (hQ : ∀ h2, FrI (SmF y t) h h2 → FrI (fun a k => (a = y + 4 ∧ k = t) ∨ (a = y + 3 ∧ 400 * t ≤ k ∧ k < 400 * t + 400)) h h2 → TxR G h2 y B n t p m (C ++ [q]) → Q none h2) : Cal G d mX12_puts [.ref y, .int x1, .int q.2] h Q := by
  obtain ⟨X, ⟨w, a2, a3⟩, a4, a5, a6⟩ := T
  obtain ⟨⟨m1, m2, m3⟩, ⟨l1, l2, l3⟩⟩ := X.1.tx
  have ea : (400 : Int32) * nI t + nI C.length = nI (400 * t + C.length) := by
    show nI 400 * nI t + _ = _
    rw [nM, nA]
  refine e_X12_puts ⟨X.1.1, y + 3, m1, y + 4, l1, l2, ?_⟩
  rw [a2, cl_nI (by omega), a4, ea, l3, m3, cl_nI (by omega)]
  refine ⟨vin_nI (by omega) (by omega), m2, vin_nI (by omega) (by omega), fun h10 g10 => ?_⟩
  have k16 : hI h10 y 16 = nI t := by
    rw [g10, hI_ne _ _ (Or.inl (by omega))]
    exact a2
  have k4 : hI h10 (y + 4) t = nI C.length := by
    rw [g10, hI_ne _ _ (Or.inl (by omega))]
    exact a4
  have n4 : hN h10 (y + 4) = 13 := by
    rw [g10, hN_sI]
    exact l3
  rw [k16, cl_nI (by omega), k4, nI_S, n4]
  refine ⟨vin_nI (by omega) (by omega), vin_nI (by omega) (by omega), ?_⟩
  generalize g2 : sI h10 (y + 4) t (nI (C.length + 1)) = h2
  have F : FrI (fun a k => (a = y + 4 ∧ k = t) ∨ (a = y + 3 ∧ 400 * t ≤ k ∧ k < 400 * t + 400)) h h2 := by
    rw [← g2, g10]
    exact (FrI.sI (P := fun a k => (a = y + 4 ∧ k = t) ∨ (a = y + 3 ∧ 400 * t ≤ k ∧ k < 400 * t + 400)) h _ (Or.inr ⟨rfl, by omega, by omega⟩)).tr (FrI.sI _ _ (Or.inl ⟨rfl, rfl⟩))
  refine hQ h2 (F.weak (fun a k z => by unfold SmF; omega)) F ⟨X.fi F (fun a k z => by omega), ⟨(F.i (by omega)).trans w, (F.i (by omega)).trans a2, (F.i (by omega)).trans a3⟩, ?_, fun j r hr => ?_, a6⟩
  · rw [← g2, hI_eq, List.length_append]
    rfl
  · rw [← g2, hI_ne _ _ (Or.inl (by omega)), g10]
    rw [List.getElem?_append] at hr
    by_cases hj : j < C.length
    · rw [if_pos hj] at hr
      rw [hI_ne _ _ (Or.inr (by omega))]
      exact a5 j r hr
    · rw [if_neg hj, List.getElem?_singleton] at hr
      split at hr
      · obtain rfl := Option.some.inj hr
        rw [show j = C.length by omega, hI_eq, hx]
        rfl
      · cases hr
theorem r_makes {h : HP} {p m q : Nat} {C : List Tok} (hd : 1 ≤ d) (T : TxR G h y B n t p m C) (hm : m ≤ 60) (h0 : 60 ≤ m → ∀ h2, FrI (SmF y t) h h2 → hI h2 y 14 = nI (1 + 8 * q + 3) → Q (some (.int 0)) h2) (h1 : ¬ 60 ≤ m → ∀ h2, FrI (fun a k => a = y ∧ k = 17) h h2 → TxR G h2 y B n t p (m + 1) C → Q (some (.int 1)) h2) : Cal G d mX12_makes [.ref y, .int (nI q)] h Q := by
  obtain ⟨X, ⟨w, a2, a3⟩, a4, a5, a6⟩ := T
  refine e_X12_makes hd ⟨X.1.1, fun z => ?_, fun z => r_fails X.1 w (k := 3) rfl ⟨_, rfl, Or.inl rfl, h0 ?_ _ (FrI.sI (P := SmF y t) h _ (Or.inl ⟨rfl, by omega⟩)) (hI_eq _ _ _ _)⟩⟩
  · rw [a3, show (60 : Int32) = nI 60 from rfl, nI_eq_iff (by omega) (by omega)] at z
    rw [a3, nI_S]
    have F : FrI (fun a k => a = y ∧ k = 17) h (sI h y 17 (nI (m + 1))) := FrI.sI h _ ⟨rfl, rfl⟩
    exact h1 (by omega) _ F ⟨X.fi F (fun a k z => by omega), ⟨(F.i (by omega)).trans w, (F.i (by omega)).trans a2, hI_eq _ _ _ _⟩, (F.i (by omega)).trans a4, a5.fr (fun j _ => F.i (by omega)), a6⟩
  · rw [a3, show (60 : Int32) = nI 60 from rfl, nI_eq_iff (by omega) (by omega)] at z
    omega
theorem r_wordHere {h : HP} {p : Nat} (hd : 2 ≤ d) (X : RdX G h y B n p) (h1 : ∀ w, w < 12 → kdT B n p = 1 → vlT B n p = nI w → ∀ h2, FrI (F13 y) h h2 → RdE G h2 y B n p → Q (some (.int (nI w))) h2) (h0 : ¬ (kdT B n p = 1 ∧ 0 ≤ (vlT B n p).toInt ∧ (vlT B n p).toInt < 12) → ∀ h2, FrI (F13 y) h h2 → RdE G h2 y B n p → Q (some (.int (-1))) h2) : Cal G d mX12_wordHere [.ref y] h Q := by
  refine e_X12_wordHere (by omega) ⟨X.1.1, ?_⟩
  refine r_isWord (k := 0) (by omega) X (by omega) (by decide) (fun k1 v g0 F0 E0 => ⟨_, rfl, fun z => absurd z (by decide), fun _ => h1 0 (by omega) k1 v g0 F0 E0⟩) (fun n0 g0 F0 E0 => ⟨_, rfl, fun _ => ?_, fun z => absurd rfl z⟩)
  refine r_isWord (k := 1) (by omega) E0.x (by omega) (by decide) (fun k1 v g1 F1 E1 => ⟨_, rfl, fun z => absurd z (by decide), fun _ => h1 1 (by omega) k1 v g1 (F0.tr F1) E1⟩) (fun n1 g1 F1 E1 => ⟨_, rfl, fun _ => ?_, fun z => absurd rfl z⟩)
  refine r_isWord (k := 2) (by omega) E1.x (by omega) (by decide) (fun k1 v g2 F2 E2 => ⟨_, rfl, fun z => absurd z (by decide), fun _ => h1 2 (by omega) k1 v g2 ((F0.tr F1).tr F2) E2⟩) (fun n2 g2 F2 E2 => ⟨_, rfl, fun _ => ?_, fun z => absurd rfl z⟩)
  refine r_isWord (k := 3) (by omega) E2.x (by omega) (by decide) (fun k1 v g3 F3 E3 => ⟨_, rfl, fun z => absurd z (by decide), fun _ => h1 3 (by omega) k1 v g3 (((F0.tr F1).tr F2).tr F3) E3⟩) (fun n3 g3 F3 E3 => ⟨_, rfl, fun _ => ?_, fun z => absurd rfl z⟩)
  refine r_isWord (k := 4) (by omega) E3.x (by omega) (by decide) (fun k1 v g4 F4 E4 => ⟨_, rfl, fun z => absurd z (by decide), fun _ => h1 4 (by omega) k1 v g4 ((((F0.tr F1).tr F2).tr F3).tr F4) E4⟩) (fun n4 g4 F4 E4 => ⟨_, rfl, fun _ => ?_, fun z => absurd rfl z⟩)
  refine r_isWord (k := 5) (by omega) E4.x (by omega) (by decide) (fun k1 v g5 F5 E5 => ⟨_, rfl, fun z => absurd z (by decide), fun _ => h1 5 (by omega) k1 v g5 (((((F0.tr F1).tr F2).tr F3).tr F4).tr F5) E5⟩) (fun n5 g5 F5 E5 => ⟨_, rfl, fun _ => ?_, fun z => absurd rfl z⟩)
  refine r_isWord (k := 6) (by omega) E5.x (by omega) (by decide) (fun k1 v g6 F6 E6 => ⟨_, rfl, fun z => absurd z (by decide), fun _ => h1 6 (by omega) k1 v g6 ((((((F0.tr F1).tr F2).tr F3).tr F4).tr F5).tr F6) E6⟩) (fun n6 g6 F6 E6 => ⟨_, rfl, fun _ => ?_, fun z => absurd rfl z⟩)
  refine r_isWord (k := 7) (by omega) E6.x (by omega) (by decide) (fun k1 v g7 F7 E7 => ⟨_, rfl, fun z => absurd z (by decide), fun _ => h1 7 (by omega) k1 v g7 (((((((F0.tr F1).tr F2).tr F3).tr F4).tr F5).tr F6).tr F7) E7⟩) (fun n7 g7 F7 E7 => ⟨_, rfl, fun _ => ?_, fun z => absurd rfl z⟩)
  refine r_isWord (k := 8) (by omega) E7.x (by omega) (by decide) (fun k1 v g8 F8 E8 => ⟨_, rfl, fun z => absurd z (by decide), fun _ => h1 8 (by omega) k1 v g8 ((((((((F0.tr F1).tr F2).tr F3).tr F4).tr F5).tr F6).tr F7).tr F8) E8⟩) (fun n8 g8 F8 E8 => ⟨_, rfl, fun _ => ?_, fun z => absurd rfl z⟩)
  refine r_isWord (k := 9) (by omega) E8.x (by omega) (by decide) (fun k1 v g9 F9 E9 => ⟨_, rfl, fun z => absurd z (by decide), fun _ => h1 9 (by omega) k1 v g9 (((((((((F0.tr F1).tr F2).tr F3).tr F4).tr F5).tr F6).tr F7).tr F8).tr F9) E9⟩) (fun n9 g9 F9 E9 => ⟨_, rfl, fun _ => ?_, fun z => absurd rfl z⟩)
  refine r_isWord (k := 10) (by omega) E9.x (by omega) (by decide) (fun k1 v g10 F10 E10 => ⟨_, rfl, fun z => absurd z (by decide), fun _ => h1 10 (by omega) k1 v g10 ((((((((((F0.tr F1).tr F2).tr F3).tr F4).tr F5).tr F6).tr F7).tr F8).tr F9).tr F10) E10⟩) (fun n10 g10 F10 E10 => ⟨_, rfl, fun _ => ?_, fun z => absurd rfl z⟩)
  refine r_isWord (k := 11) (by omega) E10.x (by omega) (by decide) (fun k1 v g11 F11 E11 => ⟨_, rfl, fun z => absurd z (by decide), fun _ => h1 11 (by omega) k1 v g11 (((((((((((F0.tr F1).tr F2).tr F3).tr F4).tr F5).tr F6).tr F7).tr F8).tr F9).tr F10).tr F11) E11⟩) (fun n11 g11 F11 E11 => ⟨_, rfl, fun _ => ?_, fun z => absurd rfl z⟩)
  refine h0 (fun q => ?_) _ (((((((((((F0.tr F1).tr F2).tr F3).tr F4).tr F5).tr F6).tr F7).tr F8).tr F9).tr F10).tr F11) E11
  obtain ⟨k1, v1, v2⟩ := q
  obtain ⟨w, hw, e⟩ := of_in (n := 12) v1 v2
  rcases (by omega : w = 0 ∨ w = 1 ∨ w = 2 ∨ w = 3 ∨ w = 4 ∨ w = 5 ∨ w = 6 ∨ w = 7 ∨ w = 8 ∨ w = 9 ∨ w = 10 ∨ w = 11) with rfl | rfl | rfl | rfl | rfl | rfl | rfl | rfl | rfl | rfl | rfl | rfl
  · exact n0 ⟨k1, e⟩
  · exact n1 ⟨k1, e⟩
  · exact n2 ⟨k1, e⟩
  · exact n3 ⟨k1, e⟩
  · exact n4 ⟨k1, e⟩
  · exact n5 ⟨k1, e⟩
  · exact n6 ⟨k1, e⟩
  · exact n7 ⟨k1, e⟩
  · exact n8 ⟨k1, e⟩
  · exact n9 ⟨k1, e⟩
  · exact n10 ⟨k1, e⟩
  · exact n11 ⟨k1, e⟩
theorem r_value {h : HP} {p m : Nat} {C : List Tok} (hd : 3 ≤ d) (hm : m ≤ 60) (hb : C.length ≤ p) (T : TxR G h y B n t p m C) (R : RV G y B n t C (valR B n p m) h Q) : Cal G d mX12_value [.ref y] h Q := by
  have n400 := T.1.2.1.2.1
  refine e_X12_value (by omega) ⟨T.1.1.1, r_see T.1 (fun h2 F2 E2 => ⟨_, rfl, ?_⟩)⟩
  have T2 := T.f13 F2 E2.x
  rw [E2.2.2.1]
  have pn := E2.2.2.2.1
  refine r_isDigit E2.1 E2.2.1 (by omega) (fun a b => ⟨_, rfl, fun z => absurd z (by decide), fun _ => ?_⟩) (fun c => ⟨_, rfl, fun _ => ?_, fun z => absurd rfl z⟩)
  · obtain ⟨k2, -⟩ := kd2' (B := B) a b
    have vr : valR B n p m = if vlT B n p = -1 then .inl (1 + 8 * p + 1) else if 60 ≤ m then .inl (1 + 8 * p + 3) else .inr (nxP B n p, m + 1, [(0, vlT B n p)]) := by
      unfold valR
      rw [if_pos k2]
    refine r_numberHere (l := 0) (u := 99999) (by omega) E2.x T2.2.1.1 (by omega) (by omega) (fun nk h3 F3 f3 _ => ⟨_, rfl, fun _ => R.1 _ ?_ h3 ((F2.weak (fun a k z => f13_sm z)).tr (F3.weak (fun a k z => f135_sm z))) f3, fun z => absurd rfl z⟩) (fun ok h3 F3 X3 v3 w3 => ⟨_, rfl, fun z => absurd z (by decide), fun _ => ?_⟩)
    · rw [vr, if_pos]
      · unfold fcN
        rw [if_pos k2]
      · rcases vl2 k2 with q | q
        · exact q
        · exact absurd ⟨k2, q.1, q.2⟩ nk
    · have v1 : ¬ vlT B n p = -1 := fun q => by
        have := ok.2.1
        rw [q] at this
        exact absurd this (by decide)
      have T3 : TxR G h3 y B n t (nxP B n p) m C := T2.fr F3 (fun a k z => by unfold F135 at z; omega) X3 w3
      refine r_makes (by omega) T3 hm (fun z h4 F4 f4 => ⟨_, rfl, fun z => absurd rfl z, fun _ => R.1 _ (by rw [vr, if_neg v1, if_pos z]) h4 (((F2.weak (fun a k z => f13_sm z)).tr (F3.weak (fun a k z => f135_sm z))).tr F4) f4⟩) (fun z h4 F4 T4 => ⟨_, rfl, fun _ => ?_, fun z => absurd z (by decide)⟩)
      rw [F4.i (by omega), v3]
      exact r_puts (q := (0, vlT B n p)) T4 (by omega) rfl (fun h5 F5 _ T5 => ⟨rfl, R.2 _ (by rw [vr, if_neg v1, if_neg z]) h5 ((((F2.weak (fun a k z => f13_sm z)).tr (F3.weak (fun a k z => f135_sm z))).tr (F4.weak (fun a k z => by unfold SmF; omega))).tr F5) T5⟩)
  · have k2 : ¬ kdT B n p = 2 := fun q => c (kd2 q)
    refine r_wordHere (by omega) E2.x (fun w hw k1 v h3 F3 E3 => ⟨_, rfl, fun _ => ?_, fun z => ?_⟩) (fun no h3 F3 E3 => ⟨_, rfl, fun z => absurd z (by decide), fun _ => ?_⟩)
    · have T3 := T2.f13 F3 E3.x
      have lt := kd_lt k1 (by omega)
      have vr : valR B n p m = if 60 ≤ m then .inl (1 + 8 * p + 3) else .inr (nxP B n p, m + 1, [(1, vlT B n p)]) := by
        unfold valR
        rw [if_neg k2, if_pos ⟨k1, by rw [v, ti_nI (by omega)]; omega, by rw [v, ti_nI (by omega)]; omega⟩]
      refine r_makes (by omega) T3 hm (fun z h4 F4 f4 => ⟨_, rfl, fun z => absurd rfl z, fun _ => R.1 _ (by rw [vr, if_pos z]) h4 (((F2.tr F3).weak (fun a k z => f13_sm z)).tr F4) f4⟩) (fun z h4 F4 T4 => ⟨_, rfl, fun _ => ?_, fun z => absurd z (by decide)⟩)
      have E4 : RdE G h4 y B n p := E3.fi F4 (fun a k z => by omega)
      refine r_passWord (by omega) E4 k1 (fun h5 F5 X5 _ => ⟨rfl, ?_⟩)
      have T5 := T4.f13 F5 X5
      exact r_puts (q := (1, nI w)) T5 (by omega) rfl (fun h6 F6 _ T6 => ⟨rfl, R.2 _ (by rw [vr, if_neg z, v]) h6 (((((F2.tr F3).weak (fun a k z => f13_sm z)).tr (F4.weak (fun a k z => by unfold SmF; omega))).tr (F5.weak (fun a k z => f13_sm z))).tr F6) T6⟩)
    · exact absurd ((nI_le_iff (a := 0) (by omega) (by omega)).mpr (by omega)) z
    · have T3 := T2.f13 F3 E3.x
      have vr : valR B n p m = .inl (1 + 8 * p + 0) := by
        unfold valR
        rw [if_neg k2, if_neg no]
      exact r_fails E3.1 T3.2.1.1 (k := 0) rfl ⟨_, rfl, Or.inl rfl, R.1 _ vr _ (((F2.tr F3).weak (fun a k z => f13_sm z)).tr (FrI.sI (P := SmF y t) h3 _ (Or.inl ⟨rfl, by omega⟩))) (hI_eq _ _ _ _)⟩
theorem RV.w {C : List Tok} {R : Rs} {h h1 : HP} (W : RV G y B n t C R h Q) (F : FrI (SmF y t) h h1) : RV G y B n t C R h1 Q := ⟨fun e he h2 F2 f2 => W.1 e he h2 (F.tr F2) f2, fun r hr h2 F2 T2 => W.2 r hr h2 (F.tr F2) T2⟩
theorem nI_op {k c : Nat} (h : (nI k : Int32) = nI c) (h1 : k < 1000) (h2 : c < 1000) : k = c := (nI_eq_iff (by omega) (by omega)).mp h
theorem opM_iff (v : Int32) : opM v ≠ 0 ↔ (v = 42 ∨ v = 47) := by
  unfold opM
  by_cases a : v = 42
  · rw [if_pos a]
    exact ⟨fun _ => Or.inl a, fun _ => by decide⟩
  · rw [if_neg a]
    by_cases b : v = 47
    · rw [if_pos b]
      exact ⟨fun _ => Or.inr b, fun _ => by decide⟩
    · rw [if_neg b]
      exact ⟨fun q => absurd rfl q, fun q => absurd (q.resolve_left a) b⟩
theorem opA_iff (v : Int32) : opA v ≠ 0 ↔ (v = 43 ∨ v = 45) := by
  unfold opA
  by_cases a : v = 43
  · rw [if_pos a]
    exact ⟨fun _ => Or.inl a, fun _ => by decide⟩
  · rw [if_neg a]
    by_cases b : v = 45
    · rw [if_pos b]
      exact ⟨fun _ => Or.inr b, fun _ => by decide⟩
    · rw [if_neg b]
      exact ⟨fun q => absurd rfl q, fun q => absurd (q.resolve_left a) b⟩
theorem r_term9 {C : List Tok} (hd : 4 ≤ d) : ∀ {k p m : Nat} {l : List Tok} {h : HP}, n < p + k → m ≤ 60 → (C ++ l).length ≤ p → TxR G h y B n t p m (C ++ l) → RV G y B n t C (terL B n k p m l) h Q → Ex G d mX12_term 9 [(0, .ref y)] [] h Q
  | 0, p, m, l, h, hf, hm, hb, T, R => by have := T.1.at.1; omega
  | k + 1, p, m, l, h, hf, hm, hb, T, R => by
    have bts : ∀ {h' : HP}, RdE G h' y B n p → p < n → rng (B p) (-128) 127 := fun E hp => E.2.1.2.2.2 p hp
    have n400 := T.1.2.1.2.1
    have go : ∀ h2, FrI (F13 y) h h2 → RdE G h2 y B n p → kdT B n p = 3 → (vlT B n p = 42 ∨ vlT B n p = 47) → Ex G d mX12_term 27 [(0, .ref y)] [] h2 Q := fun h2 F2 E2 k3 v => by
      have on : p < n ∧ B p = vlT B n p ∧ nxT B n p = p + 1 := by
        rcases v with v | v
        · obtain ⟨⟨a, b⟩, c⟩ := nx_sg ⟨k3, v⟩ (by decide) (by decide) (by decide) (by decide) (by decide) (by decide)
          exact ⟨a, b.trans v.symm, c⟩
        · obtain ⟨⟨a, b⟩, c⟩ := nx_sg ⟨k3, v⟩ (by decide) (by decide) (by decide) (by decide) (by decide) (by decide)
          exact ⟨a, b.trans v.symm, c⟩
      obtain ⟨pl, pb, px⟩ := on
      have gt := nxP_gt (B := B) pl
      obtain ⟨q, q1, q2, q3, q4⟩ := E2.byte pl
      have e : terL B n (k + 1) p m l = sbind (valR B n (nxP B n p) m) (fun r => terL B n k r.1 r.2.1 (l ++ r.2.2 ++ [(opM (vlT B n p), 0)])) := by
        show (if kdT B n p = 3 ∧ opM (vlT B n p) ≠ 0 then _ else _) = _
        rw [if_pos ⟨k3, (opM_iff _).mpr v⟩]
      rw [e] at R
      have T3 : TxR G (sI h2 y 13 (hI h2 y 13 + 1)) y B n t (nxP B n p) m (C ++ l) := (T.f13 F2 E2.x).f13 (FrI.sI (P := F13 y) h2 _ ⟨rfl, rfl⟩) (E2.pass pl px)
      have F3 : FrI (SmF y t) h (sI h2 y 13 (hI h2 y 13 + 1)) := (F2.weak (fun a k z => f13_sm z)).tr (FrI.sI (P := SmF y t) h2 _ (Or.inl ⟨rfl, by omega⟩))
      have nx : ∀ s : Int32, s = nI (opM (vlT B n p)) → Ex G d mX12_term 46 [(0, .ref y)] [.int s] h2 Q := fun s hs => by
        refine t_X12_term_46 (by omega) ⟨E2.1.1, r_value (by omega) hm (by omega) T3 ⟨fun e he h4 F4 f4 => ⟨_, rfl, fun z => absurd rfl z, fun _ => R.1 e (by rw [he]; rfl) h4 (F3.tr F4) f4⟩, fun r hr h4 F4 T4 => ⟨_, rfl, fun _ => ?_, fun z => absurd z (by decide)⟩⟩⟩
        obtain ⟨ra, rm, -⟩ := (valR_ok (B := B) (n := n) (at_nx (by omega : p ≤ n)).1 hm).2 r hr
        have rn := ra.1.1
        have ln : (C ++ l ++ r.2.2).length + 1 ≤ r.1 := by
          rw [List.length_append]
          omega
        refine r_puts (q := (opM (vlT B n p), 0)) T4 (by omega) hs (fun h5 F5 _ T5 => ⟨rfl, r_term9 hd (k := k) (p := r.1) (m := r.2.1) (l := l ++ r.2.2 ++ [(opM (vlT B n p), 0)]) (by omega) rm.2 ?_ (by simpa only [List.append_assoc] using T5) (RV.w ⟨fun e he => R.1 e (by rw [hr]; exact he), fun r' hr' => R.2 r' (by rw [hr]; exact hr')⟩ ((F3.tr F4).tr F5))⟩)
        rw [List.length_append, len3]
        rw [List.length_append, List.length_append] at ln
        omega
      refine t_X12_term_27 ⟨E2.1.1, q, q1, q2, q3, ?_⟩
      rw [q4, pb]
      refine ⟨fun z => nx 5 ?_, fun z => nx 4 ?_⟩
      · rw [v.resolve_left z]
        rfl
      · rw [z]
        rfl
    refine t_X12_term_9 (by omega) ⟨T.1.1.1, r_see T.1 (fun h2 F2 E2 => ⟨_, rfl, fun z => ?_, fun z => ?_⟩)⟩
    · have := (see_sg (c := 42) (bts E2) (by omega) (by decide) (by decide) (by decide) (by decide)).mp z
      exact go h2 F2 E2 this.1 (Or.inl this.2)
    · refine r_see E2.x (fun h3 F3 E3 => ⟨_, rfl, fun z2 => ?_, fun z2 => ?_⟩)
      · have e : terL B n (k + 1) p m l = .inr (p, m, l) := by
          show (if kdT B n p = 3 ∧ opM (vlT B n p) ≠ 0 then _ else _) = _
          rw [if_neg]
          intro q
          rcases (opM_iff _).mp q.2 with v | v
          · exact z ((see_sg (c := 42) (bts E2) (by omega) (by decide) (by decide) (by decide) (by decide)).mpr ⟨q.1, v⟩)
          · exact z2 ((see_sg (c := 47) (bts E2) (by omega) (by decide) (by decide) (by decide) (by decide)).mpr ⟨q.1, v⟩)
        exact R.2 _ e h3 ((F2.tr F3).weak (fun a k z => f13_sm z)) (T.f13 (F2.tr F3) E3.x)
      · have := (see_sg (c := 47) (bts E2) (by omega) (by decide) (by decide) (by decide) (by decide)).mp z2
        exact go h3 (F2.tr F3) E3 this.1 (Or.inr this.2)
theorem r_term {h : HP} {k p m : Nat} {C : List Tok} (hd : 4 ≤ d) (hf : n < p + k) (hm : m ≤ 60) (hb : C.length ≤ p) (T : TxR G h y B n t p m C) (R : RV G y B n t C (terR B n k p m) h Q) : Cal G d mX12_term [.ref y] h Q := by
  refine e_X12_term (by omega) ⟨T.1.1.1, r_value (by omega) hm hb T ⟨fun e he h2 F2 f2 => ⟨_, rfl, fun z => absurd rfl z, fun _ => R.1 e (by unfold terR; rw [he]; rfl) h2 F2 f2⟩, fun r hr h2 F2 T2 => ⟨_, rfl, fun _ => ?_, fun z => absurd z (by decide)⟩⟩⟩
  obtain ⟨ra, rm, -⟩ := (valR_ok (B := B) (n := n) T.1.at.1 hm).2 r hr
  refine r_term9 hd (k := k) (by omega) rm.2 (by rw [List.length_append]; omega) T2 (RV.w ⟨fun e he => R.1 e (by unfold terR; rw [hr]; exact he), fun r' hr' => R.2 r' (by unfold terR; rw [hr]; exact hr')⟩ F2)
theorem r_sum9 {C : List Tok} (hd : 5 ≤ d) : ∀ {k p m : Nat} {l : List Tok} {h : HP}, n < p + k → m ≤ 60 → (C ++ l).length ≤ p → TxR G h y B n t p m (C ++ l) → RV G y B n t C (suL B n k p m l) h Q → Ex G d mX12_sum 9 [(0, .ref y)] [] h Q
  | 0, p, m, l, h, hf, hm, hb, T, R => by have := T.1.at.1; omega
  | k + 1, p, m, l, h, hf, hm, hb, T, R => by
    have bts : ∀ {h' : HP}, RdE G h' y B n p → p < n → rng (B p) (-128) 127 := fun E hp => E.2.1.2.2.2 p hp
    have n400 := T.1.2.1.2.1
    have go : ∀ h2, FrI (F13 y) h h2 → RdE G h2 y B n p → kdT B n p = 3 → (vlT B n p = 43 ∨ vlT B n p = 45) → Ex G d mX12_sum 27 [(0, .ref y)] [] h2 Q := fun h2 F2 E2 k3 v => by
      have on : p < n ∧ B p = vlT B n p ∧ nxT B n p = p + 1 := by
        rcases v with v | v
        · obtain ⟨⟨a, b⟩, c⟩ := nx_sg ⟨k3, v⟩ (by decide) (by decide) (by decide) (by decide) (by decide) (by decide)
          exact ⟨a, b.trans v.symm, c⟩
        · obtain ⟨⟨a, b⟩, c⟩ := nx_sg ⟨k3, v⟩ (by decide) (by decide) (by decide) (by decide) (by decide) (by decide)
          exact ⟨a, b.trans v.symm, c⟩
      obtain ⟨pl, pb, px⟩ := on
      have gt := nxP_gt (B := B) pl
      obtain ⟨q, q1, q2, q3, q4⟩ := E2.byte pl
      have e : suL B n (k + 1) p m l = sbind (terR B n k (nxP B n p) m) (fun r => suL B n k r.1 r.2.1 (l ++ r.2.2 ++ [(opA (vlT B n p), 0)])) := by
        show (if kdT B n p = 3 ∧ opA (vlT B n p) ≠ 0 then _ else _) = _
        rw [if_pos ⟨k3, (opA_iff _).mpr v⟩]
      rw [e] at R
      have T3 : TxR G (sI h2 y 13 (hI h2 y 13 + 1)) y B n t (nxP B n p) m (C ++ l) := (T.f13 F2 E2.x).f13 (FrI.sI (P := F13 y) h2 _ ⟨rfl, rfl⟩) (E2.pass pl px)
      have F3 : FrI (SmF y t) h (sI h2 y 13 (hI h2 y 13 + 1)) := (F2.weak (fun a k z => f13_sm z)).tr (FrI.sI (P := SmF y t) h2 _ (Or.inl ⟨rfl, by omega⟩))
      have nx : ∀ s : Int32, s = nI (opA (vlT B n p)) → Ex G d mX12_sum 46 [(0, .ref y)] [.int s] h2 Q := fun s hs => by
        refine t_X12_sum_46 (by omega) ⟨E2.1.1, r_term (k := k) (by omega) (by omega) hm (by omega) T3 ⟨fun e he h4 F4 f4 => ⟨_, rfl, fun z => absurd rfl z, fun _ => R.1 e (by rw [he]; rfl) h4 (F3.tr F4) f4⟩, fun r hr h4 F4 T4 => ⟨_, rfl, fun _ => ?_, fun z => absurd z (by decide)⟩⟩⟩
        obtain ⟨ra, rm, -⟩ := (terR_ok (B := B) (n := n) (at_nx (by omega : p ≤ n)).1 (by omega) hm).2 r hr
        have rn := ra.1.1
        have ln : (C ++ l ++ r.2.2).length + 1 ≤ r.1 := by
          rw [List.length_append]
          omega
        refine r_puts (q := (opA (vlT B n p), 0)) T4 (by omega) hs (fun h5 F5 _ T5 => ⟨rfl, r_sum9 hd (k := k) (p := r.1) (m := r.2.1) (l := l ++ r.2.2 ++ [(opA (vlT B n p), 0)]) (by omega) rm.2 ?_ (by simpa only [List.append_assoc] using T5) (RV.w ⟨fun e he => R.1 e (by rw [hr]; exact he), fun r' hr' => R.2 r' (by rw [hr]; exact hr')⟩ ((F3.tr F4).tr F5))⟩)
        rw [List.length_append, len3]
        rw [List.length_append, List.length_append] at ln
        omega
      refine t_X12_sum_27 ⟨E2.1.1, q, q1, q2, q3, ?_⟩
      rw [q4, pb]
      refine ⟨fun z => nx 3 ?_, fun z => nx 2 ?_⟩
      · rw [v.resolve_left z]
        rfl
      · rw [z]
        rfl
    refine t_X12_sum_9 (by omega) ⟨T.1.1.1, r_see T.1 (fun h2 F2 E2 => ⟨_, rfl, fun z => ?_, fun z => ?_⟩)⟩
    · have := (see_sg (c := 43) (bts E2) (by omega) (by decide) (by decide) (by decide) (by decide)).mp z
      exact go h2 F2 E2 this.1 (Or.inl this.2)
    · refine r_see E2.x (fun h3 F3 E3 => ⟨_, rfl, fun z2 => ?_, fun z2 => ?_⟩)
      · have e : suL B n (k + 1) p m l = .inr (p, m, l) := by
          show (if kdT B n p = 3 ∧ opA (vlT B n p) ≠ 0 then _ else _) = _
          rw [if_neg]
          intro q
          rcases (opA_iff _).mp q.2 with v | v
          · exact z ((see_sg (c := 43) (bts E2) (by omega) (by decide) (by decide) (by decide) (by decide)).mpr ⟨q.1, v⟩)
          · exact z2 ((see_sg (c := 45) (bts E2) (by omega) (by decide) (by decide) (by decide) (by decide)).mpr ⟨q.1, v⟩)
        exact R.2 _ e h3 ((F2.tr F3).weak (fun a k z => f13_sm z)) (T.f13 (F2.tr F3) E3.x)
      · have := (see_sg (c := 45) (bts E2) (by omega) (by decide) (by decide) (by decide) (by decide)).mp z2
        exact go h3 (F2.tr F3) E3 this.1 (Or.inr this.2)
theorem r_sum {h : HP} {k p m : Nat} {C : List Tok} (hd : 5 ≤ d) (hf : n < p + k) (hm : m ≤ 60) (hb : C.length ≤ p) (T : TxR G h y B n t p m C) (R : RV G y B n t C (suR B n k p m) h Q) : Cal G d mX12_sum [.ref y] h Q := by
  refine e_X12_sum (by omega) ⟨T.1.1.1, r_term (k := k) (by omega) hf hm hb T ⟨fun e he h2 F2 f2 => ⟨_, rfl, fun z => absurd rfl z, fun _ => R.1 e (by unfold suR; rw [he]; rfl) h2 F2 f2⟩, fun r hr h2 F2 T2 => ⟨_, rfl, fun _ => ?_, fun z => absurd z (by decide)⟩⟩⟩
  obtain ⟨ra, rm, -⟩ := (terR_ok (B := B) (n := n) T.1.at.1 hf hm).2 r hr
  refine r_sum9 hd (k := k) (by omega) rm.2 (by rw [List.length_append]; omega) T2 (RV.w ⟨fun e he => R.1 e (by unfold suR; rw [hr]; exact he), fun r' hr' => R.2 r' (by unfold suR; rw [hr]; exact hr')⟩ F2)
end TV
