/-! ===== a text is read by the reference: tests ===== -/
def tQC (G : GG) (d y : Nat) (Q : Option Value → HP → Prop) : Option Value → HP → Prop := fun r25 h26 => r25 = none ∧ Cal G (d - 1) mX12_isWord [.ref y, .long 6385252] h26 (fun r28 h29 => ∃ v31, r28 = some (.int v31) ∧ ((¬ v31 = 0 → Ex G d mX12_tested 54 [(0, .ref y), (1, .int 1)] [.int 1] h29 Q) ∧ (v31 = 0 → Cal G (d - 1) mX12_isWord [.ref y, .long 28530] h29 (fun r33 h34 => ∃ v36, r33 = some (.int v36) ∧ ((v36 = 0 → Ex G d mX12_tested 54 [(0, .ref y), (1, .int 1)] [.int 0] h34 Q) ∧ (¬ v36 = 0 → Ex G d mX12_tested 54 [(0, .ref y), (1, .int 1)] [.int 1] h34 Q))))))
def tQF (G : GG) (d y : Nat) (Q : Option Value → HP → Prop) : Option Value → HP → Prop := fun r19 h20 => ∃ v23, r19 = some (.int v23) ∧ ((¬ v23 = 0 → Cal G (d - 1) mX12_closes [.ref y] h20 (tQC G d y Q)) ∧ (v23 = 0 → Q (some (.int 0)) h20))
def tQS (G : GG) (d y : Nat) (Q : Option Value → HP → Prop) : Option Value → HP → Prop := fun r1 h2 => r1 = none ∧ Ex G (d - 1) mX12_closes 5 [(0, .ref y)] [] h2 (tQC G d y Q)
def S3L (G : GG) (d y : Nat) (Q : Option Value → HP → Prop) (h : HP) : Prop := Ex G (d - 1 - 1) mX12_settles 0 [(0, .ref y), (1, .int (nI 3))] [] h (tQS G d y Q)
def FL (G : GG) (d y : Nat) (Q : Option Value → HP → Prop) (h : HP) : Prop := Ex G (d - 1) mX12_fact 2 [(0, .ref y), (1, .int 1)] [] h (tQF G d y Q)
section TX
variable {G : GG} {d : Nat} {y : Nat} {B : Nat → Int32} {n t : Nat} {Q : Option Value → HP → Prop}
theorem sm_ts {a k : Nat} (z : SmF y t a k) : TsF y t a k := Or.inl z
theorem f13_ts {a k : Nat} (z : F13 y a k) : TsF y t a k := Or.inl (f13_sm z)
theorem st_ts {a k : Nat} (z : StlF y t a k) : TsF y t a k := by unfold StlF at z; unfold TsF SmF; omega
theorem TxS.mk {h h2 : HP} {p m q m' e : Nat} {C C' : List Tok} {K : List Nat} (S : TxS G h y B n t p m C e K) (F : FrI (SmF y t) h h2) (T : TxR G h2 y B n t q m' C') (hb : C'.length + K.length ≤ q) (hm : m' ≤ 60) : TxS G h2 y B n t q m' C' e K := by
  obtain ⟨-, ⟨s1, s2, s3⟩, -, s6, s5, -⟩ := S
  exact ⟨T, ⟨(F.i (by unfold SmF; omega)).trans s1, (F.i (by unfold SmF; omega)).trans s2, s3.fr (fun i _ => F.i (by unfold SmF; omega))⟩, hb, s6, s5, hm⟩
theorem TxS.f13 {h h2 : HP} {p m q e : Nat} {C : List Tok} {K : List Nat} (S : TxS G h y B n t p m C e K) (F : FrI (F13 y) h h2) (X : RdX G h2 y B n q) (hb : p ≤ q) : TxS G h2 y B n t q m C e K := S.mk (F.weak (fun a k z => f13_sm z)) (S.1.f13 F X) (by have := S.2.2.1; omega) S.2.2.2.2.2
theorem settle1 {h : HP} {p m e : Nat} {C : List Tok} {a w : Bool} {K0 : List Nat} (hd : 1 ≤ d) (S : TxS G h y B n t p m C e (andS a ++ orS w ++ K0)) (hK : K0 = [] ∨ ∃ K, K0 = 91 :: K) (hQ : ∀ h2, FrI (StlF y t) h h2 → TxS G h2 y B n t p m (C ++ andT a ++ orT w) e K0 → Q none h2) : Ex G d mX12_settles 0 [(0, .ref y), (1, .int (nI 1))] [] h Q := by
  have stop : ∀ h2, TxS G h2 y B n t p m (C ++ andT a ++ orT w) e K0 → FrI (StlF y t) h h2 → Ex G d mX12_settles 0 [(0, .ref y), (1, .int (nI 1))] [] h2 Q := fun h2 S2 F2 => st_stop hd S2 (by omega) (fun v K' ev => by
    rcases hK with q | ⟨K, q⟩
    · rw [q] at ev
      cases ev
    · rw [q] at ev
      rw [← (List.cons.inj ev).1]
      decide) (hQ h2 F2 S2)
  have pop2 : ∀ h2, TxS G h2 y B n t p m (C ++ andT a) e (orS w ++ K0) → FrI (StlF y t) h h2 → Ex G d mX12_settles 0 [(0, .ref y), (1, .int (nI 1))] [] h2 Q := fun h2 S2 F2 => by
    cases w
    · exact stop h2 (by rw [show orT false = [] from rfl, List.append_nil]; exact S2) F2
    · exact st_pop hd (v := 13) S2 (by omega) (by decide) (by omega) (by omega) (fun h3 F3 S3 => stop h3 S3 (F2.tr F3))
  cases a
  · exact pop2 h (by rw [show andT false = [] from rfl, List.append_nil]; exact S) (FrI.rf _ h)
  · exact st_pop hd (v := 12) S (by omega) (by decide) (by omega) (by omega) (fun h3 F3 S3 => pop2 h3 S3 F3)
theorem settle2 {h : HP} {p m e : Nat} {C : List Tok} {a w : Bool} {K0 : List Nat} (hd : 1 ≤ d) (S : TxS G h y B n t p m C e (andS a ++ orS w ++ K0)) (hK : K0 = [] ∨ ∃ K, K0 = 91 :: K) (hQ : ∀ h2, FrI (StlF y t) h h2 → TxS G h2 y B n t p m (C ++ andT a) e (orS w ++ K0) → Q none h2) : Ex G d mX12_settles 0 [(0, .ref y), (1, .int (nI 2))] [] h Q := by
  have stop : ∀ h2, TxS G h2 y B n t p m (C ++ andT a) e (orS w ++ K0) → FrI (StlF y t) h h2 → Ex G d mX12_settles 0 [(0, .ref y), (1, .int (nI 2))] [] h2 Q := fun h2 S2 F2 => st_stop hd S2 (by omega) (fun v K' ev => by
    cases w
    · rcases hK with q | ⟨K, q⟩
      · rw [q] at ev
        cases ev
      · rw [q] at ev
        rw [← (List.cons.inj ev).1]
        decide
    · rw [← (List.cons.inj ev).1]
      decide) (hQ h2 F2 S2)
  cases a
  · exact stop h (by rw [show andT false = [] from rfl, List.append_nil]; exact S) (FrI.rf _ h)
  · exact st_pop hd (v := 12) S (by omega) (by decide) (by omega) (by omega) (fun h3 F3 S3 => stop h3 S3 F3)
theorem r_isInside {h : HP} {p m e : Nat} {C : List Tok} {K : List Nat} (S : TxS G h y B n t p m C e K) (h1 : 91 ∈ K → Q (some (.int 1)) h) (h0 : ¬ 91 ∈ K → Q (some (.int 0)) h) : Cal G d mX12_isInside [.ref y] h Q := by
  obtain ⟨l1, l2, l3⟩ := S.len
  obtain ⟨T, ⟨s1, s2, s3⟩, -, -, s5, -⟩ := S
  obtain ⟨m1, m2, m3⟩ := T.1.1.op
  have loop : ∀ c i, i + c = K.length → (∀ j, j < i → ¬ hI h (y + 10) j = 91) → Ex G d mX12_isInside 2 [(0, .ref y), (1, .int (nI i))] [] h Q := by
    intro c
    induction c with
    | zero =>
      intro i hi N
      refine t_X12_isInside_2 ⟨T.1.1.1, fun _ => h0 (fun q => ?_), fun z => ?_⟩
      · obtain ⟨j, a, b⟩ := s3.mem q
        exact N j (by omega) b
      · rw [s2] at z
        exact absurd ((nI_le_iff (by omega) (by omega)).mpr (by omega)) z
    | succ c ih =>
      intro i hi N
      obtain ⟨v, a, b⟩ := s3.idx (i := i) (by omega)
      refine t_X12_isInside_2 ⟨T.1.1.1, fun z => ?_, fun _ => ⟨y + 10, m1, m2, by rw [m3]; exact vin_nI (by omega) (by omega), ?_⟩⟩
      · rw [s2, nI_le_iff (by omega) (by omega)] at z
        omega
      rw [cl_nI (by omega), nI_S]
      refine ⟨fun z => ih (i + 1) (by omega) (fun j hj => ?_), fun z => h1 ?_⟩
      · by_cases e : j = i
        · rw [e]
          exact z
        · exact N j (by omega)
      · rw [b] at z
        have := s5 v a
        rw [← (nI_eq_iff (b := 91) (by omega) (by omega)).mp z]
        exact a
  exact e_X12_isInside (loop K.length 0 (by omega) (fun j hj => by omega))
theorem r_opens {h : HP} {p m e v : Nat} {C : List Tok} {K : List Nat} {x : Int32} (hd : 1 ≤ d) (E : RdE G h y B n p) (S : TxS G h y B n t p m C e K) (hp : p < n) (hx : x = nI v) (hv : v < 100) (h0 : 10 ≤ e → ∀ h2, FrI (TsF y t) h h2 → hI h2 y 14 = nI (1 + 8 * p + 2) → Q (some (.int 0)) h2) (h1 : ¬ 10 ≤ e → ∀ h2, FrI (TsF y t) h h2 → RdE G h2 y B n p → (∀ h3 q, FrI (F13 y) h2 h3 → RdX G h3 y B n q → p < q → TxS G h3 y B n t q m C (e + 1) (v :: K)) → Q (some (.int 1)) h2) : Cal G d mX12_opens [.ref y, .int x] h Q := by
  obtain ⟨l1, l2, l3⟩ := S.len
  obtain ⟨T, ⟨s1, s2, s3⟩, s4, s6, s5, s7⟩ := S
  obtain ⟨m1, m2, m3⟩ := T.1.1.op
  refine e_X12_opens hd ⟨T.1.1.1, fun z => ?_, fun z => ?_⟩
  · rw [s1, show (10 : Int32) = nI 10 from rfl, nI_eq_iff (by omega) (by omega)] at z
    have e21 : hI (sI h y 18 (hI h y 18 + 1)) y 21 = nI K.length := by
      rw [hI_ne _ _ (Or.inr (by omega))]
      exact s2
    refine ⟨y + 10, m1, m2.sI, ?_⟩
    rw [e21, cl_nI (by omega), s1, nI_S]
    refine ⟨by rw [hN_sI, m3]; exact vin_nI (by omega) (by omega), fun h7 g7 => ?_⟩
    have q21 : hI h7 y 21 = nI K.length := by
      rw [g7, hI_ne _ _ (Or.inl (by omega)), hI_ne _ _ (Or.inr (by omega))]
      exact s2
    rw [q21, nI_S]
    generalize g2 : sI h7 y 21 (nI (K.length + 1)) = h2
    have F : FrI (fun a k => (a = y ∧ (k = 18 ∨ k = 21)) ∨ (a = y + 10 ∧ k = K.length)) h h2 := by
      rw [← g2, g7]
      exact ((FrI.sI (P := fun a k => (a = y ∧ (k = 18 ∨ k = 21)) ∨ (a = y + 10 ∧ k = K.length)) h _ (Or.inl ⟨rfl, Or.inl rfl⟩)).tr (FrI.sI _ _ (Or.inr ⟨rfl, rfl⟩))).tr (FrI.sI _ _ (Or.inl ⟨rfl, Or.inr rfl⟩))
    have v18 : hI h2 y 18 = nI (e + 1) ∧ hI h2 y 21 = nI (K.length + 1) ∧ hI h2 (y + 10) K.length = nI v := by
      rw [← g2, g7, hx]
      simp [hI_sI]
    refine h1 (by omega) h2 (F.weak (fun a k z => by unfold TsF; omega)) (E.fi F (fun a k z => by omega)) (fun h3 q F3 X3 hq => ⟨⟨X3, ⟨?_, ?_, ?_⟩, ?_, ?_, T.2.2.2.2⟩, ⟨?_, ?_, ?_, ?_⟩, ?_, by omega, fun w hw => ?_, s7⟩)
    · exact (F3.i (by unfold F13; omega)).trans ((F.i (by omega)).trans T.2.1.1)
    · exact (F3.i (by unfold F13; omega)).trans ((F.i (by omega)).trans T.2.1.2.1)
    · exact (F3.i (by unfold F13; omega)).trans ((F.i (by omega)).trans T.2.1.2.2)
    · exact (F3.i (by unfold F13; omega)).trans ((F.i (by omega)).trans T.2.2.1)
    · exact T.2.2.2.1.fr (fun j _ => (F3.i (by unfold F13; omega)).trans (F.i (by omega)))
    · exact (F3.i (by unfold F13; omega)).trans v18.1
    · exact (F3.i (by unfold F13; omega)).trans v18.2.1
    · exact (F3.i (by unfold F13; omega)).trans v18.2.2
    · exact s3.fr (fun i hi => (F3.i (by unfold F13; omega)).trans (F.i (by omega)))
    · show C.length + (K.length + 1) ≤ q
      omega
    · rcases List.mem_cons.mp hw with q | q
      · omega
      · exact s5 w q
  · rw [s1, show (10 : Int32) = nI 10 from rfl, nI_eq_iff (by omega) (by omega)] at z
    rw [E.2.2.1]
    exact r_fails T.1.1 T.2.1.1 (k := 2) rfl ⟨_, rfl, Or.inl rfl, h0 (by omega) _ (FrI.sI (P := TsF y t) h _ (Or.inl (Or.inl ⟨rfl, by omega⟩))) (hI_eq _ _ _ _)⟩
theorem st_push {h : HP} {p m e v : Nat} {C : List Tok} {K : List Nat} (S : TxS G h y B n t p m C e K) (hb : C.length + K.length + 1 ≤ p) (hv : v < 100) : FrI (TsF y t) h (sI (sI h (y + 10) K.length (nI v)) y 21 (nI (K.length + 1))) ∧ TxS G (sI (sI h (y + 10) K.length (nI v)) y 21 (nI (K.length + 1))) y B n t p m C e (v :: K) := by
  obtain ⟨T, ⟨s1, s2, s3⟩, s4, s6, s5, s7⟩ := S
  have F : FrI (fun a k => (a = y ∧ k = 21) ∨ (a = y + 10 ∧ k = K.length)) h (sI (sI h (y + 10) K.length (nI v)) y 21 (nI (K.length + 1))) := (FrI.sI (P := fun a k => (a = y ∧ k = 21) ∨ (a = y + 10 ∧ k = K.length)) h _ (Or.inr ⟨rfl, rfl⟩)).tr (FrI.sI _ _ (Or.inl ⟨rfl, rfl⟩))
  refine ⟨F.weak (fun a k z => by unfold TsF; omega), ⟨T.1.fi F (fun a k z => by omega), ⟨(F.i (by omega)).trans T.2.1.1, (F.i (by omega)).trans T.2.1.2.1, (F.i (by omega)).trans T.2.1.2.2⟩, (F.i (by omega)).trans T.2.2.1, T.2.2.2.1.fr (fun j _ => F.i (by omega)), T.2.2.2.2⟩, ⟨(F.i (by omega)).trans s1, hI_eq _ _ _ _, ?_, s3.fr (fun i hi => F.i (by omega))⟩, by show C.length + (K.length + 1) ≤ p; omega, s6, fun w hw => ?_, s7⟩
  · rw [hI_ne _ _ (Or.inl (by omega)), hI_eq]
  · rcases List.mem_cons.mp hw with q | q
    · omega
    · exact s5 w q
theorem seg91 {a w : Bool} {K0 : List Nat} : 91 ∈ andS a ++ orS w ++ K0 ↔ 91 ∈ K0 := by
  cases a <;> cases w <;> simp [andS, orS]
end TX
