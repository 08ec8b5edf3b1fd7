/-! ===== a text is read by the reference: clauses ===== -/
section TJ
variable {G : GG} {d : Nat} {y : Nat} {B : Nat → Int32} {n t : Nat} {Q : Option Value → HP → Prop}
theorem MdSh.cla {h : HP} (M : MdSh G h y) : (hR h y 5 = some (y + 5) ∧ Kd G h (y + 5) 14 ∧ hN h (y + 5) = 720) ∧ (hR h y 6 = some (y + 6) ∧ Kd G h (y + 6) 14 ∧ hN h (y + 6) = 12) ∧ (hR h y 7 = some (y + 7) ∧ Kd G h (y + 7) 14 ∧ hN h (y + 7) = 12) := ⟨M.2 (5, 5, 14, 720) (by decide), M.2 (6, 6, 14, 12) (by decide), M.2 (7, 7, 14, 12) (by decide)⟩
theorem TxR.off {h h2 : HP} {P : Nat → Nat → Prop} {p m : Nat} {C : List Tok} (T : TxR G h y B n t p m C) (F : FrI P h h2) (hP : ∀ a k, P a k → y + 5 ≤ a ∧ a ≤ y + 7) : TxR G h2 y B n t p m C := by
  obtain ⟨a1, ⟨a2, a3, a4⟩, a5, a6, a7⟩ := T
  have ei : ∀ a k, ¬ (y + 5 ≤ a ∧ a ≤ y + 7) → hI h2 a k = hI h a k := fun a k ha => F.i (fun z => ha (hP a k z))
  exact ⟨a1.fi F (fun a k z => by have := hP a k z; omega), ⟨(ei _ _ (by omega)).trans a2, (ei _ _ (by omega)).trans a3, (ei _ _ (by omega)).trans a4⟩, (ei _ _ (by omega)).trans a5, a6.fr (fun j _ => ei _ _ (by omega)), a7⟩
theorem r_cl127 {h : HP} {p m N : Nat} {C : List Tok} {x1 : Int32} (T : TxR G h y B n t p m C) (e6 : hI h (y + 6) t = nI N) (hN : N < 12) (hQ : ∀ h2, FrI (fun a k => (a = y + 5 ∧ k = 60 * t + 5 * N + 4) ∨ (a = y + 6 ∧ k = t)) h h2 → TxR G h2 y B n t p m C → hI h2 (y + 6) t = nI (N + 1) → hI h2 (y + 5) (60 * t + 5 * N + 4) = nI C.length → Q (some (.int 1)) h2) : Ex G d mX12_clauseOf 127 [(0, .ref y), (1, .int x1), (2, .int (nI (60 * t + 5 * N)))] [] h Q := by
  have t12 := T.2.2.2.2
  have e16 := T.2.1.2.1
  have e4 := T.2.2.1
  obtain ⟨⟨c1, c2, c3⟩, ⟨d1, d2, d3⟩, -⟩ := T.1.1.cla
  obtain ⟨-, l1, l2, l3⟩ := T.1.1.tx
  have p4 : (nI (60 * t + 5 * N) : Int32) + 4 = nI (60 * t + 5 * N + 4) := nA _ 4
  refine t_X12_clauseOf_127 ⟨T.1.1.1, y + 5, c1, y + 4, l1, l2, ?_⟩
  rw [e16, cl_nI (by omega), e4, p4, cl_nI (by omega), c3, l3]
  refine ⟨vin_nI (by omega) (by omega), c2, vin_nI (by omega) (by omega), y + 6, by rw [hR_sI]; exact d1, d2.sI, ?_⟩
  have q16 : hI (sI h (y + 5) (60 * t + 5 * N + 4) (nI C.length)) y 16 = nI t := by
    rw [hI_ne _ _ (Or.inl (by omega))]
    exact e16
  have q6 : hI (sI h (y + 5) (60 * t + 5 * N + 4) (nI C.length)) (y + 6) t = nI N := by
    rw [hI_ne _ _ (Or.inl (by omega))]
    exact e6
  rw [q16, cl_nI (by omega), q6, nI_S, hN_sI, d3]
  refine ⟨vin_nI (by omega) (by omega), vin_nI (by omega) (by omega), fun h15 g15 => ?_⟩
  have F : FrI (fun a k => (a = y + 5 ∧ k = 60 * t + 5 * N + 4) ∨ (a = y + 6 ∧ k = t)) h h15 := by
    rw [g15]
    exact (FrI.sI (P := fun a k => (a = y + 5 ∧ k = 60 * t + 5 * N + 4) ∨ (a = y + 6 ∧ k = t)) h _ (Or.inl ⟨rfl, rfl⟩)).tr (FrI.sI _ _ (Or.inr ⟨rfl, rfl⟩))
  refine hQ h15 F (T.off F (fun a k z => by omega)) (by rw [g15, hI_eq]) ?_
  rw [g15, hI_ne _ _ (Or.inl (by omega)), hI_eq]
theorem r_cl101 {h : HP} {k p m N : Nat} {C : List Tok} {x1 : Int32} (hd : 13 ≤ d) (hf : n < p + k) (hm : m ≤ 60) (hb : C.length ≤ p) (T : TxR G h y B n t p m C) (e6 : hI h (y + 6) t = nI N) (hN : N < 12) (h0 : ∀ x, tsR B n k p m = .inl x → ∀ h2, FrI (fun a k => TsF y t a k ∨ (a = y + 5 ∧ k = 60 * t + 5 * N + 3)) h h2 → hI h2 y 14 = nI x → Q (some (.int 0)) h2) (h1 : ∀ r, tsR B n k p m = .inr r → ∀ h2, FrI (fun a k => (TsF y t a k ∨ (a = y + 5 ∧ k = 60 * t + 5 * N + 3)) ∨ ((a = y + 5 ∧ k = 60 * t + 5 * N + 4) ∨ (a = y + 6 ∧ k = t))) h h2 → TxR G h2 y B n t r.1 r.2.1 (C ++ r.2.2) → hI h2 (y + 6) t = nI (N + 1) → hI h2 (y + 5) (60 * t + 5 * N + 3) = nI C.length → hI h2 (y + 5) (60 * t + 5 * N + 4) = nI (C ++ r.2.2).length → Q (some (.int 1)) h2) : Ex G d mX12_clauseOf 101 [(0, .ref y), (1, .int x1), (2, .int (nI (60 * t + 5 * N)))] [] h Q := by
  have t12 := T.2.2.2.2
  have e16 := T.2.1.2.1
  have e4 := T.2.2.1
  obtain ⟨⟨c1, c2, c3⟩, -⟩ := T.1.1.cla
  obtain ⟨-, l1, l2, l3⟩ := T.1.1.tx
  have p3 : (nI (60 * t + 5 * N) : Int32) + 3 = nI (60 * t + 5 * N + 3) := nA _ 3
  refine t_X12_clauseOf_101 (by omega) ⟨T.1.1.1, y + 5, c1, y + 4, l1, l2, ?_⟩
  rw [e16, cl_nI (by omega), e4, p3, cl_nI (by omega), c3, l3]
  refine ⟨vin_nI (by omega) (by omega), c2, vin_nI (by omega) (by omega), ?_⟩
  generalize g1 : sI h (y + 5) (60 * t + 5 * N + 3) (nI C.length) = h1'
  have F1 : FrI (fun a k => a = y + 5 ∧ k = 60 * t + 5 * N + 3) h h1' := by
    rw [← g1]
    exact FrI.sI h _ ⟨rfl, rfl⟩
  have T1 := T.off F1 (fun a k z => by omega)
  have v3 : hI h1' (y + 5) (60 * t + 5 * N + 3) = nI C.length := by rw [← g1, hI_eq]
  refine r_tested (k := k) (by omega) hf hm hb T1 (fun x hx h2 F2 f2 => ⟨_, rfl, fun z => absurd rfl z, fun _ => h0 x hx h2 ((F1.weak (fun a k z => Or.inr z)).tr (F2.weak (fun a k z => Or.inl z))) f2⟩) (fun r hr h2 F2 T2 => ⟨_, rfl, fun _ => ?_, fun z => absurd z (by decide)⟩)
  have q6 : hI h2 (y + 6) t = nI N := (F2.i (by unfold TsF SmF; omega)).trans ((F1.i (by omega)).trans e6)
  refine r_cl127 T2 q6 hN (fun h3 F3 T3 z1 z2 => h1 r hr h3 (((F1.weak (fun a k z => Or.inl (Or.inr z))).tr (F2.weak (fun a k z => Or.inl (Or.inl z)))).tr (F3.weak (fun a k z => Or.inr z))) T3 z1 ?_ z2)
  rw [F3.i (by omega), F2.i (by unfold TsF SmF; omega)]
  exact v3
end TJ
