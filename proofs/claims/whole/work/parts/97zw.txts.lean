/-! ===== a text is read by the reference: comparisons and tests ===== -/
def Stk (h : HP) (y : Nat) : List Nat → Prop
  | [] => True
  | v :: K => hI h (y + 10) K.length = nI v ∧ Stk h y K
def strN (v : Nat) : Nat := if v = 13 then 1 else if v = 12 then 2 else if v = 11 then 3 else 0
def andS (a : Bool) : List Nat := if a = true then [12] else []
def orS (a : Bool) : List Nat := if a = true then [13] else []
def andT (a : Bool) : List Tok := if a = true then [(12, 0)] else []
def TsF (y t a k : Nat) : Prop := SmF y t a k ∨ (a = y ∧ (k = 18 ∨ k = 21)) ∨ a = y + 10
def StlF (y t a k : Nat) : Prop := (a = y ∧ (k = 18 ∨ k = 21)) ∨ ((a = y + 4 ∧ k = t) ∨ (a = y + 3 ∧ 400 * t ≤ k ∧ k < 400 * t + 400))
def TxS (G : GG) (h : HP) (y : Nat) (B : Nat → Int32) (n t p m : Nat) (C : List Tok) (e : Nat) (K : List Nat) : Prop := TxR G h y B n t p m C ∧ (hI h y 18 = nI e ∧ hI h y 21 = nI K.length ∧ Stk h y K) ∧ C.length + K.length ≤ p ∧ e ≤ 10 ∧ (∀ v ∈ K, v < 100) ∧ m ≤ 60
section TW
variable {G : GG} {d : Nat} {y : Nat} {B : Nat → Int32} {n t : Nat} {Q : Option Value → HP → Prop}
theorem cm_of {p : Nat} (hp : p < n) (e : B p = 60 ∨ B p = 62) : kdT B n p = 3 ∧ (wdeB B n p = true → nxT B n p = p + 2 ∧ vlT B n p = if B p = 60 then 256 else 257) ∧ (¬ wdeB B n p = true → nxT B n p = p + 1 ∧ vlT B n p = B p) := by
  have np : ¬ n ≤ p := by omega
  have l : ¬ isL (B p) = true := by rcases e with e | e <;> rw [e] <;> decide
  have dd : ¬ isD (B p) = true := by rcases e with e | e <;> rw [e] <;> decide
  refine ⟨?_, fun w => ⟨?_, ?_⟩, fun w => ⟨?_, ?_⟩⟩
  · unfold kdT
    rw [if_neg np, if_neg l, if_neg dd]
  · unfold nxT
    rw [if_neg np, if_neg l, if_neg dd, if_pos w]
  · unfold vlT
    rw [if_neg np, if_neg l, if_neg dd, if_pos w]
  · unfold nxT
    rw [if_neg np, if_neg l, if_neg dd, if_neg w]
  · unfold vlT
    rw [if_neg np, if_neg l, if_neg dd, if_neg w]
theorem of_cm {p : Nat} (hb : p < n → rng (B p) (-128) 127) (k : kdT B n p = 3) (c : cmO (vlT B n p) ≠ 0) : p < n ∧ (B p = 60 ∨ B p = 61 ∨ B p = 62) := by
  have hp := kd_lt k (by omega)
  refine ⟨hp, ?_⟩
  have np : ¬ n ≤ p := by omega
  unfold kdT at k
  rw [if_neg np] at k
  by_cases l : isL (B p) = true
  · rw [if_pos l] at k
    omega
  · rw [if_neg l] at k
    by_cases dd : isD (B p) = true
    · rw [if_pos dd] at k
      omega
    · have v : vlT B n p = if wdeB B n p = true then (if B p = 60 then 256 else 257) else B p := by
        unfold vlT
        rw [if_neg np, if_neg l, if_neg dd]
      by_cases w : wdeB B n p = true
      · unfold wdeB at w
        rw [decide_eq_true_eq] at w
        exact w.1.elim Or.inl (fun q => Or.inr (Or.inr q))
      · rw [if_neg w] at v
        rw [v] at c
        unfold cmO at c
        by_cases a1 : B p = 60
        · exact Or.inl a1
        · by_cases a2 : B p = 61
          · exact Or.inr (Or.inl a2)
          · by_cases a3 : B p = 62
            · exact Or.inr (Or.inr a3)
            · rw [if_neg a1, if_neg a2, if_neg a3] at c
              by_cases b1 : B p = 256
              · have := (hb hp).2
                rw [b1] at this
                exact absurd this (by decide)
              · by_cases b2 : B p = 257
                · have := (hb hp).2
                  rw [b2] at this
                  exact absurd this (by decide)
                · rw [if_neg b1, if_neg b2] at c
                  exact absurd rfl c
theorem r_compare {h : HP} {k p m : Nat} {C : List Tok} (hd : 6 ≤ d) (hf : n < p + k) (hm : m ≤ 60) (hb : C.length ≤ p) (T : TxR G h y B n t p m C) (R : RV G y B n t C (cmR B n k p m) h Q) : Cal G d mX12_compare [.ref y] h Q := by
  have n400 := T.1.2.1.2.1
  refine e_X12_compare (by omega) ⟨T.1.1.1, r_sum (k := k) (by omega) hf hm hb T ⟨fun e he h2 F2 f2 => ⟨_, rfl, fun z => absurd rfl z, fun _ => R.1 e (by unfold cmR; rw [he]; rfl) h2 F2 f2⟩, fun a ha h2 F2 T2 => ⟨_, rfl, fun _ => r_see T2.1 (fun h3 F3 E3 => ⟨_, rfl, ?_⟩), fun z => absurd z (by decide)⟩⟩⟩
  obtain ⟨aa, am, -⟩ := (suR_ok (B := B) (n := n) T.1.at.1 hf hm).2 a ha
  have an := aa.1.1
  have T3 := T2.f13 F3 E3.x
  have F23 : FrI (SmF y t) h h3 := F2.tr (F3.weak (fun a k z => f13_sm z))
  have bt : a.1 < n → rng (B a.1) (-128) 127 := fun hp => E3.2.1.2.2.2 _ hp
  rw [E3.2.2.1]
  -- with the sign s, its length e
  have fin : ∀ (x1 x3 : Int32) (s : Int32) h4, FrI (F13 y) h3 h4 → RdX G h4 y B n (nxP B n a.1) → kdT B n a.1 = 3 → cmO (vlT B n a.1) ≠ 0 → (6 : Int32) + s = nI (cmO (vlT B n a.1)) → ((¬ x1 = 60 → ((¬ x1 = 61 → ((x3 = 0 → s = 4) ∧ (¬ x3 = 0 → s = 3))) ∧ (x1 = 61 → s = 2))) ∧ (x1 = 60 → ((x3 = 0 → s = 0) ∧ (¬ x3 = 0 → s = 1)))) → Ex G d mX12_compare 105 [(0, .ref y), (1, .int x1), (2, .int (nI a.1)), (3, .int x3)] [] h4 Q := fun x1 x3 s h4 F4 X4 k3 cm e6 cs => by
    have T4 := T3.f13 F4 X4
    have F24 := F23.tr (F4.weak (fun a k z => f13_sm (t := t) z))
    have lt := kd_lt k3 (by omega)
    have gt := nxP_gt (B := B) lt
    have C1 : C.length + a.2.2.length ≤ a.1 := by omega
    refine t_X12_compare_105 (by omega) ⟨X4.1.1, r_makes (by omega) T4 am.2 (fun z h5 F5 f5 => ⟨_, rfl, fun z => absurd rfl z, fun _ => R.1 _ ?_ h5 (F24.tr F5) f5⟩) (fun z h5 F5 T5 => ⟨_, rfl, fun _ => ?_, fun z => absurd z (by decide)⟩)⟩
    · unfold cmR
      rw [ha]
      simp only [sbind]
      rw [if_pos ⟨k3, cm⟩, if_pos z]
    have last : Ex G d mX12_compare 152 [(0, .ref y), (1, .int x1), (2, .int (nI a.1)), (3, .int x3)] [.int s] h5 Q := by
      have F25 := F24.tr (F5.weak (fun a k z => by unfold SmF; omega : ∀ a k, a = y ∧ k = 17 → SmF y t a k))
      refine t_X12_compare_152 (by omega) ⟨T5.1.1.1, r_sum (k := k) (by omega) (by omega) (by omega) (by rw [List.length_append]; omega) T5 ⟨fun e he h6 F6 f6 => ⟨_, rfl, fun z => absurd rfl z, fun _ => R.1 e ?_ h6 (F25.tr F6) f6⟩, fun b hb h6 F6 T6 => ⟨_, rfl, fun _ => ?_, fun z => absurd z (by decide)⟩⟩⟩
      · unfold cmR
        rw [ha]
        simp only [sbind]
        rw [if_pos ⟨k3, cm⟩, if_neg z, he]
      · obtain ⟨ba, bm, -⟩ := (suR_ok (B := B) (n := n) (at_nx an).1 (by omega) (by omega)).2 b hb
        have bn := ba.1.1
        refine r_puts (q := (cmO (vlT B n a.1), 0)) T6 (by rw [List.length_append, List.length_append]; omega) e6 (fun h7 F7 _ T7 => ⟨rfl, R.2 (b.1, b.2.1, a.2.2 ++ b.2.2 ++ [(cmO (vlT B n a.1), 0)]) ?_ h7 ((F25.tr F6).tr F7) (by simpa only [List.append_assoc] using T7)⟩)
        unfold cmR
        rw [ha]
        simp only [sbind]
        rw [if_pos ⟨k3, cm⟩, if_neg z, hb]
    refine ⟨fun z1 => ⟨fun z2 => ⟨fun z3 => ?_, fun z3 => ?_⟩, fun z2 => ?_⟩, fun z1 => ⟨fun z3 => ?_, fun z3 => ?_⟩⟩
    · rw [← ((cs.1 z1).1 z2).1 z3]
      exact last
    · rw [← ((cs.1 z1).1 z2).2 z3]
      exact last
    · rw [← (cs.1 z1).2 z2]
      exact last
    · rw [← (cs.2 z1).1 z3]
      exact last
    · rw [← (cs.2 z1).2 z3]
      exact last
  -- behind the first byte of the sign
  have two : a.1 < n → (B a.1 = 60 ∨ B a.1 = 62) → ∀ x1 : Int32, x1 = B a.1 → Ex G d mX12_compare 44 [(0, .ref y), (1, .int x1), (2, .int (nI a.1))] [] h3 Q := fun lt eb x1 hx => by
    obtain ⟨k3, w1, w0⟩ := cm_of lt eb
    have n61 : ¬ x1 = 61 := by rw [hx]; rcases eb with e | e <;> rw [e] <;> decide
    have e13 : hI h3 y 13 + 1 = nI (a.1 + 1) := by rw [E3.2.2.1, nI_S]
    have F4 : FrI (F13 y) h3 (sI h3 y 13 (nI (a.1 + 1))) := FrI.sI h3 _ ⟨rfl, rfl⟩
    have M4 : MdSh G (sI h3 y 13 (nI (a.1 + 1))) y := E3.1.fr F4
    have B4 : RtB (sI h3 y 13 (nI (a.1 + 1))) y B n := E3.2.1.fi F4 (fun a k z => f13_ok z)
    obtain ⟨m1, m2, m3⟩ := M4.tp
    have no : ¬ wdeB B n a.1 = true → Ex G d mX12_compare 90 [(0, .ref y), (1, .int x1), (2, .int (nI a.1))] [.int 0] (sI h3 y 13 (nI (a.1 + 1))) Q := fun w => by
      obtain ⟨v1, v2⟩ := w0 w
      have X4 : RdX G (sI h3 y 13 (nI (a.1 + 1))) y B n (nxP B n a.1) := ⟨M4, B4, a.1 + 1, by omega, hI_eq _ _ _ _, by unfold nxP; rw [v1]⟩
      refine t_X12_compare_90 ⟨fun _ => ?_, fun z => absurd rfl z⟩
      rcases eb with e | e
      · refine fin x1 0 0 _ F4 X4 k3 (by rw [v2, e]; decide) (by rw [v2, e]; decide) ⟨fun z => absurd (hx.trans e) z, fun _ => ⟨fun _ => rfl, fun z => absurd rfl z⟩⟩
      · refine fin x1 0 4 _ F4 X4 k3 (by rw [v2, e]; decide) (by rw [v2, e]; decide) ⟨fun _ => ⟨fun _ => ⟨fun _ => rfl, fun z => absurd rfl z⟩, fun z => absurd z n61⟩, fun z => ?_⟩
        rw [hx, e] at z
        exact absurd z (by decide)
    have yes : wdeB B n a.1 = true → a.1 + 1 < n → Ex G d mX12_compare 90 [(0, .ref y), (1, .int x1), (2, .int (nI a.1))] [.int 1] (sI h3 y 13 (nI (a.1 + 1))) Q := fun w lt2 => by
      obtain ⟨v1, v2⟩ := w1 w
      have F5 : FrI (F13 y) h3 (sI (sI h3 y 13 (nI (a.1 + 1))) y 13 (nI (a.1 + 1 + 1))) := F4.tr (FrI.sI _ _ ⟨rfl, rfl⟩)
      have X5 : RdX G (sI (sI h3 y 13 (nI (a.1 + 1))) y 13 (nI (a.1 + 1 + 1))) y B n (nxP B n a.1) := ⟨E3.1.fr F5, E3.2.1.fi F5 (fun a k z => f13_ok z), a.1 + 2, by omega, hI_eq _ _ _ _, by unfold nxP; rw [v1]⟩
      refine t_X12_compare_90 ⟨fun z => absurd z (by decide), fun _ => ⟨M4.1, ?_⟩⟩
      rw [hI_eq, nI_S]
      rcases eb with e | e
      · refine fin x1 1 1 _ F5 X5 k3 (by rw [v2, if_pos e]; decide) (by rw [v2, if_pos e]; decide) ⟨fun z => absurd (hx.trans e) z, fun _ => ⟨fun z => absurd z (by decide), fun _ => rfl⟩⟩
      · have n60 : ¬ B a.1 = 60 := by rw [e]; decide
        refine fin x1 1 3 _ F5 X5 k3 (by rw [v2, if_neg n60]; decide) (by rw [v2, if_neg n60]; decide) ⟨fun _ => ⟨fun _ => ⟨fun z => absurd z (by decide), fun _ => rfl⟩, fun z => absurd z n61⟩, fun z => ?_⟩
        rw [hx] at z
        exact absurd z n60
    refine t_X12_compare_44 ⟨E3.1.1, fun z => absurd z n61, fun _ => ?_⟩
    rw [e13, hI_eq, hI_ne _ _ (Or.inr (by omega)), E3.2.1.1, nI_le_iff (by omega) (by omega)]
    refine ⟨fun z => no (fun w => ?_), fun z => ⟨y + 1, m1, m2, by rw [m3]; exact vin_nI (by omega) (by omega), ?_⟩⟩
    · unfold wdeB at w
      rw [decide_eq_true_eq] at w
      omega
    · rw [cl_nI (by omega), B4.2.2.1 (a.1 + 1) (by omega)]
      refine ⟨fun z2 => no (fun w => ?_), fun z2 => yes ?_ (by omega)⟩
      · unfold wdeB at w
        rw [decide_eq_true_eq] at w
        exact z2 w.2.2
      · unfold wdeB
        rw [decide_eq_true_eq]
        exact ⟨eb, by omega, z2⟩
  refine ⟨fun z => ?_, fun z60 => ⟨fun z => ?_, fun z61 => ⟨fun z => ?_, fun z62 => ?_⟩⟩⟩
  · obtain ⟨lt, e⟩ := (seeV_is (c := 60) bt (by omega)).mp z
    exact two lt (Or.inl e) _ (z.trans e.symm)
  · obtain ⟨lt, e⟩ := (seeV_is (c := 61) bt (by omega)).mp z
    obtain ⟨k3, v, x⟩ := sg_of lt e (by decide) (by decide) (by decide) (by decide)
    refine t_X12_compare_44 ⟨E3.1.1, fun _ => t_X12_compare_90 ⟨fun _ => ?_, fun z => absurd rfl z⟩, fun q => absurd z q⟩
    exact fin _ 0 2 _ (FrI.sI (P := F13 y) h3 _ ⟨rfl, rfl⟩) (E3.pass lt x) k3 (by rw [v]; decide) (by rw [v]; decide) ⟨fun _ => ⟨fun q => absurd z q, fun _ => rfl⟩, fun q => absurd q z60⟩
  · obtain ⟨lt, e⟩ := (seeV_is (c := 62) bt (by omega)).mp z
    exact two lt (Or.inr e) _ (z.trans e.symm)
  · refine r_fails E3.1 T3.2.1.1 (k := 0) rfl ⟨_, rfl, Or.inl rfl, R.1 _ ?_ _ (F23.tr (FrI.sI (P := SmF y t) h3 _ (Or.inl ⟨rfl, by omega⟩))) (hI_eq _ _ _ _)⟩
    unfold cmR
    rw [ha]
    simp only [sbind]
    rw [if_neg]
    intro q
    obtain ⟨lt, e | e | e⟩ := of_cm bt q.1 q.2
    · exact z60 ((seeV_is (c := 60) bt (by omega)).mpr ⟨lt, e⟩)
    · exact z61 ((seeV_is (c := 61) bt (by omega)).mpr ⟨lt, e⟩)
    · exact z62 ((seeV_is (c := 62) bt (by omega)).mpr ⟨lt, e⟩)
theorem Stk.fr {h h2 : HP} : ∀ {K : List Nat}, (∀ i, i < K.length → hI h2 (y + 10) i = hI h (y + 10) i) → Stk h y K → Stk h2 y K
  | [], _, _ => trivial
  | v :: K, e, S => ⟨(e _ (Nat.lt_succ_self _)).trans S.1, Stk.fr (fun i hi => e i (Nat.lt_succ_of_lt hi)) S.2⟩
theorem Stk.mem {h : HP} : ∀ {K : List Nat} {v : Nat}, Stk h y K → v ∈ K → ∃ i, i < K.length ∧ hI h (y + 10) i = nI v
  | w :: K, v, S, m => by
    rcases List.mem_cons.mp m with e | m
    · exact ⟨K.length, Nat.lt_succ_self _, by rw [e]; exact S.1⟩
    · obtain ⟨i, a, b⟩ := Stk.mem S.2 m
      exact ⟨i, Nat.lt_succ_of_lt a, b⟩
theorem Stk.idx {h : HP} : ∀ {K : List Nat} {i : Nat}, Stk h y K → i < K.length → ∃ v ∈ K, hI h (y + 10) i = nI v
  | w :: K, i, S, m => by
    by_cases e : i = K.length
    · exact ⟨w, List.mem_cons_self, by rw [e]; exact S.1⟩
    · have m' : i < K.length := by
        have : i < K.length + 1 := m
        omega
      obtain ⟨v, a, b⟩ := Stk.idx S.2 m'
      exact ⟨v, List.mem_cons_of_mem _ a, b⟩
theorem MdSh.op {h : HP} (M : MdSh G h y) : hR h y 20 = some (y + 10) ∧ Kd G h (y + 10) 14 ∧ hN h (y + 10) = 400 := M.2 (20, 10, 14, 400) (by decide)
theorem TxS.len {h : HP} {p m e : Nat} {C : List Tok} {K : List Nat} (S : TxS G h y B n t p m C e K) : C.length + K.length ≤ p ∧ p ≤ n ∧ n ≤ 400 := ⟨S.2.2.1, S.1.1.at.1, S.1.1.2.1.2.1⟩
theorem st_stop {h : HP} {p m e x : Nat} {C : List Tok} {K : List Nat} (hd : 1 ≤ d) (S : TxS G h y B n t p m C e K) (hx : x ≤ 3) (hs : ∀ v K', K = v :: K' → strN v < x) (hQ : Q none h) : Ex G d mX12_settles 0 [(0, .ref y), (1, .int (nI x))] [] h Q := by
  obtain ⟨l1, l2, l3⟩ := S.len
  obtain ⟨T, ⟨s1, s2, s3⟩, -, -, s5, -⟩ := S
  obtain ⟨m1, m2, m3⟩ := T.1.1.op
  cases K with
  | nil =>
    have s2' : hI h y 21 = 0 := s2
    exact t_X12_settles hd ⟨T.1.1.1, fun _ => hQ, fun z => absurd (by rw [s2']; decide) z⟩
  | cons v K =>
    have s2' : hI h y 21 = nI (K.length + 1) := s2
    have l1' : C.length + (K.length + 1) ≤ p := l1
    have pm : (nI (K.length + 1) : Int32) - 1 = nI K.length := by rw [← nI_S]; exact Int32.add_sub_cancel _ _
    have vv := s5 v List.mem_cons_self
    refine t_X12_settles hd ⟨T.1.1.1, fun _ => hQ, fun _ => ⟨y + 10, m1, m2, ?_⟩⟩
    rw [s2', pm, cl_nI (by omega), s3.1, m3]
    have str : ∀ (s : Int32) (P : Int32 → Prop), s = nI (strN v) → ∃ v10, some (Value.int s) = some (Value.int v10) ∧ ((v10 < nI x → Q none h) ∧ (¬ v10 < nI x → P v10)) := fun s P hs' => ⟨_, rfl, fun _ => hQ, fun z => absurd (by rw [hs']; exact (nI_lt_iff (by have := hs v K rfl; omega) (by omega)).mpr (hs v K rfl)) z⟩
    refine ⟨vin_nI (by omega) (by omega), e_X12_strength ⟨fun a => ⟨fun b => ⟨fun c => str _ _ ?_, fun c => str _ _ ?_⟩, fun b => str _ _ ?_⟩, fun a => str _ _ ?_⟩⟩
    · unfold strN
      rw [if_neg (fun q => a (by rw [q]; rfl)), if_neg (fun q => b (by rw [q]; rfl)), if_neg (fun q => c (by rw [q]; rfl))]
      rfl
    · have := (nI_eq_iff (b := 11) (by omega) (by omega)).mp c
      rw [this]
      rfl
    · have := (nI_eq_iff (b := 12) (by omega) (by omega)).mp b
      rw [this]
      rfl
    · have := (nI_eq_iff (b := 13) (by omega) (by omega)).mp a
      rw [this]
      rfl
theorem st_pop {h : HP} {p m e x v : Nat} {C : List Tok} {K : List Nat} (hd : 1 ≤ d) (S : TxS G h y B n t p m C e (v :: K)) (hx : x ≤ 3) (hs : x ≤ strN v) (hv : v = 11 ∨ v = 12 ∨ v = 13) (he : v = 11 → 1 ≤ e) (hQ : ∀ h2, FrI (StlF y t) h h2 → TxS G h2 y B n t p m (C ++ [(v, 0)]) (if v = 11 then e - 1 else e) K → Ex G d mX12_settles 0 [(0, .ref y), (1, .int (nI x))] [] h2 Q) : Ex G d mX12_settles 0 [(0, .ref y), (1, .int (nI x))] [] h Q := by
  obtain ⟨l1, l2, l3⟩ := S.len
  obtain ⟨T, ⟨s1, s2, s3⟩, s4, s6, s5, s7⟩ := S
  obtain ⟨m1, m2, m3⟩ := T.1.1.op
  have s2' : hI h y 21 = nI (K.length + 1) := s2
  have l1' : C.length + (K.length + 1) ≤ p := l1
  have pm : (nI (K.length + 1) : Int32) - 1 = nI K.length := by rw [← nI_S]; exact Int32.add_sub_cancel _ _
  refine t_X12_settles hd ⟨T.1.1.1, fun z => ?_, fun _ => ⟨y + 10, m1, m2, ?_⟩⟩
  · rw [s2'] at z
    have := (nI_le_iff (b := 0) (by omega) (by omega)).mp z
    omega
  rw [s2', pm, cl_nI (by omega), s3.1, m3]
  generalize g1 : sI h y 21 (nI K.length) = h1
  have F1 : FrI (fun a k => a = y ∧ k = 21) h h1 := by
    rw [← g1]
    exact FrI.sI h _ ⟨rfl, rfl⟩
  have T1 : TxR G h1 y B n t p m C := by
    obtain ⟨a1, ⟨a2, a3, a4⟩, a5, a6, a7⟩ := T
    exact ⟨a1.fi F1 (fun a k z => by omega), ⟨(F1.i (by omega)).trans a2, (F1.i (by omega)).trans a3, (F1.i (by omega)).trans a4⟩, (F1.i (by omega)).trans a5, a6.fr (fun j _ => F1.i (by omega)), a7⟩
  have e21 : hI h1 y 21 = nI K.length := by rw [← g1, hI_eq]
  have go : ∃ q12, hR h1 y 20 = some q12 ∧ Kd G h1 q12 14 ∧ vp_in (hI h1 y 21) (hN h1 q12) ∧ Cal G (d - 1) mX12_puts [.ref y, .int (hI h1 q12 (hI h1 y 21).toNatClampNeg), .int 0] h1 (fun r16 h17 => r16 = none ∧ ∃ q19, hR h17 y 20 = some q19 ∧ Kd G h17 q19 14 ∧ vp_in (hI h17 y 21) (hN h17 q19) ∧ ((¬ (hI h17 q19 (hI h17 y 21).toNatClampNeg) = 11 → Ex G d mX12_settles 0 [(0, .ref y), (1, .int (nI x))] [] h17 Q) ∧ ((hI h17 q19 (hI h17 y 21).toNatClampNeg) = 11 → Ex G d mX12_settles 0 [(0, .ref y), (1, .int (nI x))] [] (sI h17 y 18 ((hI h17 y 18) - 1)) Q))) := by
    refine ⟨y + 10, (F1.r _ _).trans m1, F1.kd m2, ?_, ?_⟩
    · rw [e21, (F1.n m2).trans m3]
      exact vin_nI (by omega) (by omega)
    rw [e21, cl_nI (by omega), F1.i (by omega), s3.1]
    refine r_puts (q := (v, 0)) T1 (by omega) rfl (fun h2 F2 F2' T2 => ⟨rfl, y + 10, (F2.r _ _).trans ((F1.r _ _).trans m1), F2.kd (F1.kd m2), ?_⟩)
    have n2 : hN h2 (y + 10) = 400 := (F2.n (F1.kd m2)).trans ((F1.n m2).trans m3)
    have q21 : hI h2 y 21 = nI K.length := (F2'.i (by omega)).trans e21
    have q18 : hI h2 y 18 = nI e := (F2'.i (by omega)).trans ((F1.i (by omega)).trans s1)
    have q10 : ∀ i, hI h2 (y + 10) i = hI h (y + 10) i := fun i => (F2'.i (by omega)).trans (F1.i (by omega))
    rw [n2, q21, cl_nI (by omega), q10, s3.1, q18]
    have FF : FrI (StlF y t) h h2 := (F1.weak (fun a k z => by unfold StlF; omega)).tr (F2'.weak (fun a k z => by unfold StlF; omega))
    have sk : Stk h2 y K := Stk.fr (fun i _ => q10 i) s3.2
    have ln : (C ++ [(v, (0 : Int32))]).length + K.length ≤ p := by
      rw [List.length_append]
      show C.length + 1 + K.length ≤ p
      omega
    have mm : ∀ w ∈ K, w < 100 := fun w hw => s5 w (List.mem_cons_of_mem _ hw)
    refine ⟨vin_nI (by omega) (by omega), fun z => hQ h2 FF ⟨T2, ⟨?_, q21, sk⟩, ln, by split <;> omega, mm, s7⟩, fun z => ?_⟩
    · rw [if_neg (fun q => z (by rw [q]; rfl))]
      exact q18
    · have v11 : v = 11 := (nI_eq_iff (b := 11) (by omega) (by omega)).mp z
      have e1 := he v11
      have em : (nI e : Int32) - 1 = nI (e - 1) := by
        rw [show e = e - 1 + 1 by omega, ← nI_S, Int32.add_sub_cancel, show e - 1 + 1 - 1 = e - 1 by omega]
      rw [em]
      have F3 : FrI (fun a k => a = y ∧ k = 18) h2 (sI h2 y 18 (nI (e - 1))) := FrI.sI h2 _ ⟨rfl, rfl⟩
      obtain ⟨a1, ⟨a2, a3, a4⟩, a5, a6, a7⟩ := T2
      refine hQ _ (FF.tr (F3.weak (fun a k z => by unfold StlF; omega))) ⟨⟨a1.fi F3 (fun a k z => by omega), ⟨(F3.i (by omega)).trans a2, (F3.i (by omega)).trans a3, (F3.i (by omega)).trans a4⟩, (F3.i (by omega)).trans a5, a6.fr (fun j _ => F3.i (by omega)), a7⟩, ⟨?_, (F3.i (by omega)).trans q21, sk.fr (fun i _ => F3.i (by omega))⟩, ln, by split <;> omega, mm, s7⟩
      rw [if_pos v11, hI_eq]
  have nst : ∀ s : Int32, s = nI (strN v) → ¬ s < nI x := fun s hs' z => by
    rw [hs'] at z
    have : strN v ≤ 3 := by unfold strN; split <;> (try split) <;> (try split) <;> omega
    have := (nI_lt_iff (by omega) (by omega)).mp z
    omega
  refine ⟨vin_nI (by omega) (by omega), e_X12_strength ⟨fun a => ⟨fun b => ⟨fun c => ?_, fun c => ⟨_, rfl, fun z => absurd z (nst _ ?_), fun _ => ?_⟩⟩, fun b => ⟨_, rfl, fun z => absurd z (nst _ ?_), fun _ => ?_⟩⟩, fun a => ⟨_, rfl, fun z => absurd z (nst _ ?_), fun _ => ?_⟩⟩⟩
  · rcases hv with q | q | q
    · exact absurd (by rw [q]; rfl) c
    · exact absurd (by rw [q]; rfl) b
    · exact absurd (by rw [q]; rfl) a
  · rw [(nI_eq_iff (b := 11) (by omega) (by omega)).mp c]
    rfl
  · rw [s2', pm, g1]
    exact go
  · rw [(nI_eq_iff (b := 12) (by omega) (by omega)).mp b]
    rfl
  · rw [s2', pm, g1]
    exact go
  · rw [(nI_eq_iff (b := 13) (by omega) (by omega)).mp a]
    rfl
  · rw [s2', pm, g1]
    exact go
end TW
