/-! ===== a text is read by the reference: a clause ===== -/
/-- the row of a clause: sort s, sum sm, test ts, behind the code C -/
def ClR (h : HP) (y A s : Nat) (C sm : List Tok) (ts : Option (List Tok)) : Prop := hI h (y + 5) A = nI s ∧ hI h (y + 5) (A + 1) = nI C.length ∧ hI h (y + 5) (A + 2) = nI (C ++ sm).length ∧ (ts = none → hI h (y + 5) (A + 3) = -1) ∧ ∀ l, ts = some l → hI h (y + 5) (A + 3) = nI (C ++ sm).length ∧ hI h (y + 5) (A + 4) = nI (C ++ sm ++ l).length
def ClF (y t N a k : Nat) : Prop := TsF y t a k ∨ (a = y + 5 ∧ 60 * t + 5 * N ≤ k ∧ k < 60 * t + 5 * N + 5) ∨ (a = y + 6 ∧ k = t)
section TK
variable {G : GG} {d : Nat} {y : Nat} {B : Nat → Int32} {n t : Nat} {Q : Option Value → HP → Prop}
theorem ts_cf {N a k : Nat} (z : TsF y t a k) : ClF y t N a k := Or.inl z
theorem r_takesIf {h : HP} {p m : Nat} {C : List Tok} (hd : 2 ≤ d) (T : TxR G h y B n t p m C) (h1 : kdT B n p = 1 → vlT B n p = 17 → ∀ h2, FrI (F13 y) h h2 → TxR G h2 y B n t (nxP B n p) m C → Q (some (.int 1)) h2) (h0 : ¬ (kdT B n p = 1 ∧ vlT B n p = 17) → ∀ h2, FrI (F13 y) h h2 → TxR G h2 y B n t p m C → Q (some (.int 0)) h2) : Cal G d mX12_takesWord [.ref y, .long 26982] h Q := by
  refine e_X12_takesWord (by omega) ⟨T.1.1.1, r_isWord (k := 17) (by omega) T.1 (by omega) (by decide) (fun k1 v h2 F2 E2 => ⟨_, rfl, fun _ => r_passWord (by omega) E2 k1 (fun h3 F3 X3 _ => ⟨rfl, h1 k1 v h3 (F2.tr F3) (T.f13 (F2.tr F3) X3)⟩), fun z => absurd z (by decide)⟩) (fun no h2 F2 E2 => ⟨_, rfl, fun z => absurd rfl z, fun _ => h0 no h2 F2 (T.f13 F2 E2.x)⟩)⟩
/-- from the sum's end on -/
theorem r_cl61 {h : HP} {k p m N s : Nat} {C sm : List Tok} (hd : 14 ≤ d) (hf : n < p + k) (hm : m ≤ 60) (hb : (C ++ sm).length ≤ p) (hs : s < 3) (T : TxR G h y B n t p m (C ++ sm)) (e6 : hI h (y + 6) t = nI N) (hN : N < 12) (r0 : hI h (y + 5) (60 * t + 5 * N) = nI s ∧ hI h (y + 5) (60 * t + 5 * N + 1) = nI C.length)
    (hn : s = 0 → ¬ (kdT B n p = 1 ∧ vlT B n p = 17) → ∀ h2, FrI (ClF y t N) h h2 → TxR G h2 y B n t p m (C ++ sm) → hI h2 (y + 6) t = nI (N + 1) → ClR h2 y (60 * t + 5 * N) s C sm none → Q (some (.int 1)) h2)
    (ht : ∀ p', (p' = p ∧ 0 < s) ∨ (s = 0 ∧ (kdT B n p = 1 ∧ vlT B n p = 17) ∧ p' = nxP B n p) → (∀ x, tsR B n k p' m = .inl x → ∀ h2, FrI (ClF y t N) h h2 → hI h2 y 14 = nI x → Q (some (.int 0)) h2) ∧ ∀ r, tsR B n k p' m = .inr r → ∀ h2, FrI (ClF y t N) h h2 → TxR G h2 y B n t r.1 r.2.1 (C ++ sm ++ r.2.2) → hI h2 (y + 6) t = nI (N + 1) → ClR h2 y (60 * t + 5 * N) s C sm (some r.2.2) → Q (some (.int 1)) h2) : Ex G d mX12_clauseOf 61 [(0, .ref y), (1, .int (nI s)), (2, .int (nI (60 * t + 5 * N)))] [] h Q := by
  have t12 := T.2.2.2.2
  have e16 := T.2.1.2.1
  have e4 := T.2.2.1
  have pn := T.1.at.1
  obtain ⟨⟨c1, c2, c3⟩, -⟩ := T.1.1.cla
  obtain ⟨-, l1, l2, l3⟩ := T.1.1.tx
  have p2 : (nI (60 * t + 5 * N) : Int32) + 2 = nI (60 * t + 5 * N + 2) := nA _ 2
  have p3 : (nI (60 * t + 5 * N) : Int32) + 3 = nI (60 * t + 5 * N + 3) := nA _ 3
  refine t_X12_clauseOf_61 (by omega) ⟨T.1.1.1, y + 5, c1, y + 4, l1, l2, ?_⟩
  rw [e16, cl_nI (by omega), e4, p2, p3, cl_nI (by omega), cl_nI (by omega), hN_sI, c3, l3]
  refine ⟨vin_nI (by omega) (by omega), c2, vin_nI (by omega) (by omega), vin_nI (by omega) (by omega), fun h1 g1 => ?_⟩
  have F1 : FrI (fun a k => a = y + 5 ∧ (k = 60 * t + 5 * N + 2 ∨ k = 60 * t + 5 * N + 3)) h h1 := by
    rw [g1]
    exact (FrI.sI (P := fun a k => a = y + 5 ∧ (k = 60 * t + 5 * N + 2 ∨ k = 60 * t + 5 * N + 3)) h _ ⟨rfl, Or.inl rfl⟩).tr (FrI.sI _ _ ⟨rfl, Or.inr rfl⟩)
  have F1' : FrI (ClF y t N) h h1 := F1.weak (fun a k z => Or.inr (Or.inl ⟨z.1, by omega, by omega⟩))
  have T1 := T.off F1 (fun a k z => by omega)
  have v2 : hI h1 (y + 5) (60 * t + 5 * N + 2) = nI (C ++ sm).length := by rw [g1, hI_ne _ _ (Or.inr (by omega)), hI_eq]
  have v3 : hI h1 (y + 5) (60 * t + 5 * N + 3) = -1 := by rw [g1, hI_eq]
  have q6 : hI h1 (y + 6) t = nI N := (F1.i (by omega)).trans e6
  have row : ∀ h2 (P : Nat → Nat → Prop), FrI P h1 h2 → (∀ a k, P a k → a = y + 5 → 60 * t + 5 * N + 3 ≤ k) → hI h2 (y + 5) (60 * t + 5 * N) = nI s ∧ hI h2 (y + 5) (60 * t + 5 * N + 1) = nI C.length ∧ hI h2 (y + 5) (60 * t + 5 * N + 2) = nI (C ++ sm).length := fun h2 P F2 hP => ⟨(F2.i (fun z => by have := hP _ _ z rfl; omega)).trans ((F1.i (by omega)).trans r0.1), (F2.i (fun z => by have := hP _ _ z rfl; omega)).trans ((F1.i (by omega)).trans r0.2), (F2.i (fun z => by have := hP _ _ z rfl; omega)).trans v2⟩
  have go : ∀ p' h2, FrI (F13 y) h1 h2 → TxR G h2 y B n t p' m (C ++ sm) → p ≤ p' → ((p' = p ∧ 0 < s) ∨ (s = 0 ∧ (kdT B n p = 1 ∧ vlT B n p = 17) ∧ p' = nxP B n p)) → Ex G d mX12_clauseOf 101 [(0, .ref y), (1, .int (nI s)), (2, .int (nI (60 * t + 5 * N)))] [] h2 Q := fun p' h2 F2 T2 hp cs => by
    obtain ⟨u0, u1⟩ := ht p' cs
    have F2' : FrI (ClF y t N) h h2 := F1'.tr (F2.weak (fun a k z => ts_cf (f13_ts z)))
    refine r_cl101 (k := k) (by omega) (by omega) hm (by omega) T2 ((F2.i (by unfold F13; omega)).trans q6) hN (fun x hx h3 F3 f3 => u0 x hx h3 (F2'.tr (F3.weak (fun a k z => ?_))) f3) (fun r hr h3 F3 T3 z1 z2 z3 => u1 r hr h3 (F2'.tr (F3.weak (fun a k z => ?_))) T3 z1 ?_)
    · exact z.elim Or.inl (fun q => Or.inr (Or.inl ⟨q.1, by omega, by omega⟩))
    · exact z.elim (fun z => z.elim Or.inl (fun q => Or.inr (Or.inl ⟨q.1, by omega, by omega⟩))) (fun z => z.elim (fun q => Or.inr (Or.inl ⟨q.1, by omega, by omega⟩)) (fun q => Or.inr (Or.inr q)))
    · have rw3 := row h3 _ ((F2.weak (fun a k z => Or.inl (Or.inl (f13_ts z)))).tr F3) (fun a k z e => by unfold TsF SmF at z; omega)
      exact ⟨rw3.1, rw3.2.1, rw3.2.2, fun q => (by cases q), fun l hl => by obtain rfl := Option.some.inj hl; exact ⟨z2, z3⟩⟩
  refine ⟨fun z => go p h1 (FrI.rf _ h1) T1 (Nat.le_refl _) (Or.inl ⟨rfl, ?_⟩), fun z => ?_⟩
  · exact (nI_lt_iff (a := 0) (by omega) (by omega)).mp z
  · have s0 : s = 0 := by
      have : ¬ 0 < s := fun q => z ((nI_lt_iff (a := 0) (by omega) (by omega)).mpr q)
      omega
    refine r_takesIf (by omega) T1 (fun k1 v h2 F2 T2 => ⟨_, rfl, fun z => absurd z (by decide), fun _ => go _ h2 F2 T2 (Nat.le_of_lt (nxP_gt (kd_lt k1 (by omega)))) (Or.inr ⟨s0, ⟨k1, v⟩, rfl⟩)⟩) (fun no h2 F2 T2 => ⟨_, rfl, fun _ => ?_, fun z => absurd rfl z⟩)
    refine r_cl127 T2 ((F2.i (by unfold F13; omega)).trans q6) hN (fun h3 F3 T3 z1 z2 => hn s0 no h3 ((F1'.tr (F2.weak (fun a k z => ts_cf (f13_ts z)))).tr (F3.weak (fun a k z => ?_))) T3 z1 ?_)
    · unfold ClF
      omega
    · have rw3 := row h3 (fun a k => F13 y a k ∨ ((a = y + 5 ∧ k = 60 * t + 5 * N + 4) ∨ (a = y + 6 ∧ k = t))) ((F2.weak (fun a k z => Or.inl z)).tr (F3.weak (fun a k z => Or.inr z))) (fun a k z e => by unfold F13 at z; omega)
      exact ⟨rw3.1, rw3.2.1, rw3.2.2, fun _ => (F3.i (by omega)).trans ((F2.i (by unfold F13; omega)).trans v3), fun l hl => (by cases hl)⟩
end TK
