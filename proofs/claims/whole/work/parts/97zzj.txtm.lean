/-! ===== a text is read by the class: clauses ===== -/
def ShC (G : GG) (h : HP) (b : Nat) : Prop := (hR h (b + 7) 1 = some (b + 9) ∧ Kd G h (b + 9) 14 ∧ hN h (b + 9) = 12) ∧ (hR h (b + 7) 2 = some (b + 10) ∧ Kd G h (b + 10) 14 ∧ hN h (b + 10) = 12) ∧ (hR h (b + 7) 3 = some (b + 11) ∧ Kd G h (b + 11) 14 ∧ hN h (b + 11) = 12)
def CcF (b a k : Nat) : Prop := (a = b + 1 ∧ 1 ≤ k) ∨ (a = b + 7 ∧ 5 ≤ k) ∨ (b + 8 ≤ a ∧ a ≤ b + 11)
def RwC (h : HP) (b : Nat) (C : List Int32) (i : Nat) (q : Cla) : Prop := hI h (b + 9) i = nI q.1 ∧ ((q.1 = 12 ∨ q.1 = 16) → ∃ A D, C = A ++ (q.2.1.map encC ++ [(-1 : Int32)]) ++ D ∧ hI h (b + 10) i = nI A.length) ∧ (q.2.2 = none → hI h (b + 11) i = -1) ∧ ∀ l, q.2.2 = some l → ∃ A D, C = A ++ (l.map encC ++ [(-1 : Int32)]) ++ D ∧ hI h (b + 11) i = nI A.length
def LcT (G : GG) (h : HP) (b : Nat) (B : Nat → Int32) (n : Nat) (s : TSt) (C : List Int32) : Prop := TxC G h b B n s.1 s.2.1 C ∧ ShC G h b ∧ (hI h (b + 1) 1 = 0 ∧ hI h (b + 7) 6 = nI s.2.2.1.length ∧ hI h (b + 7) 8 = jnI s.2.2.2) ∧ C.length ≤ s.1 + 2 * s.2.2.1.length ∧ ∀ i q, s.2.2.1[i]? = some q → RwC h b C i q
def RDC (G : GG) (b : Nat) (B : Nat → Int32) (n : Nat) (R : Nat ⊕ TSt) (h : HP) (Q : Option Value → HP → Prop) : Prop := (∀ e, R = .inl e → ∀ h2, FrI (CcF b) h h2 → hI h2 (b + 1) 1 = nI e → Q (some (.int 0)) h2) ∧ ∀ s, R = .inr s → ∀ C h2, FrI (CcF b) h h2 → LcT G h2 b B n s C → Q (some (.int 1)) h2
section TN
variable {G : GG} {d : Nat} {b : Nat} {B : Nat → Int32} {n k : Nat} {wish : Bool} {Q : Option Value → HP → Prop}
theorem cx_cc {a k : Nat} (z : CxF b a k) : CcF b a k := by unfold CxF at z; unfold CcF; omega
theorem nx_cc {a k : Nat} (z : NxF (b + 1) a k) : CcF b a k := cx_cc (nx_cx z)
theorem ShC.fr {P : Nat → Nat → Prop} {h h2 : HP} (S : ShC G h b) (F : FrI P h h2) : ShC G h2 b := by
  obtain ⟨⟨a1, a2, a3⟩, ⟨b1, b2, b3⟩, c1, c2, c3⟩ := S
  exact ⟨⟨(F.r _ _).trans a1, F.kd a2, (F.n a2).trans a3⟩, ⟨(F.r _ _).trans b1, F.kd b2, (F.n b2).trans b3⟩, (F.r _ _).trans c1, F.kd c2, (F.n c2).trans c3⟩
theorem TxC.off {h h2 : HP} {P : Nat → Nat → Prop} {p m : Nat} {C : List Int32} (T : TxC G h b B n p m C) (F : FrI P h h2) (hP : ∀ a k, P a k → (b + 9 ≤ a ∧ a ≤ b + 11) ∨ (a = b + 7 ∧ (k = 6 ∨ k = 8))) : TxC G h2 b B n p m C := by
  obtain ⟨S, ⟨a1, a2, a3, a4, a5⟩, ⟨a6, a7⟩, a8⟩ := T
  have ei : ∀ a k, ¬ ((b + 9 ≤ a ∧ a ≤ b + 11) ∨ (a = b + 7 ∧ (k = 6 ∨ k = 8))) → hI h2 a k = hI h a k := fun a k ha => F.i (fun z => ha (hP a k z))
  exact ⟨S.fi F (fun a k z => by have := hP a k z; omega), ⟨F.kd a1, (F.r _ _).trans a2, (F.r _ _).trans a3, F.kd a4, (F.n a4).trans a5⟩, ⟨(ei _ _ (by omega)).trans a6, (ei _ _ (by omega)).trans a7⟩, fun j v hv => (ei _ _ (by omega)).trans (a8 j v hv)⟩
theorem RwC.up {h h2 : HP} {C : List Int32} {i : Nat} {q : Cla} (R : RwC h b C i q) (E : List Int32) (he : ∀ a, b + 9 ≤ a → a ≤ b + 11 → hI h2 a i = hI h a i) : RwC h2 b (C ++ E) i q := by
  obtain ⟨a1, a2, a3, a4⟩ := R
  refine ⟨(he _ (by omega) (by omega)).trans a1, fun hq => ?_, fun e => (he _ (by omega) (by omega)).trans (a3 e), fun l hl => ?_⟩
  · obtain ⟨A, D, b1, b2⟩ := a2 hq
    exact ⟨A, D ++ E, by rw [b1]; simp only [List.append_assoc], (he _ (by omega) (by omega)).trans b2⟩
  · obtain ⟨A, D, b1, b2⟩ := a4 l hl
    exact ⟨A, D ++ E, by rw [b1]; simp only [List.append_assoc], (he _ (by omega) (by omega)).trans b2⟩
theorem LcT.add {h h2 : HP} {s : TSt} {C E : List Int32} {q : Cla} {p m : Nat} {j : Option Nat} (L : LcT G h b B n s C) (he : ∀ a i, b + 9 ≤ a → a ≤ b + 11 → i < s.2.2.1.length → hI h2 a i = hI h a i) (T : TxC G h2 b B n p m (C ++ E)) (sh : ShC G h2 b) (f : hI h2 (b + 1) 1 = 0) (e6 : hI h2 (b + 7) 6 = nI (s.2.2.1.length + 1)) (e8 : hI h2 (b + 7) 8 = jnI j) (hl : (C ++ E).length ≤ p + 2 * (s.2.2.1.length + 1)) (R : RwC h2 b (C ++ E) s.2.2.1.length q) : LcT G h2 b B n (p, m, s.2.2.1 ++ [q], j) (C ++ E) := by
  have ln : (s.2.2.1 ++ [q]).length = s.2.2.1.length + 1 := by rw [List.length_append]; rfl
  refine ⟨T, sh, ⟨f, ?_, e8⟩, ?_, fun i r hr => ?_⟩
  · show hI h2 (b + 7) 6 = nI (s.2.2.1 ++ [q]).length
    rw [ln]
    exact e6
  · show (C ++ E).length ≤ p + 2 * (s.2.2.1 ++ [q]).length
    rw [ln]
    exact hl
  · have hr' : (s.2.2.1 ++ [q])[i]? = some r := hr
    rw [List.getElem?_append] at hr'
    by_cases hi : i < s.2.2.1.length
    · rw [if_pos hi] at hr'
      exact (L.2.2.2.2 i r hr').up E (fun a h1 h2 => he a i h1 h2 hi)
    · rw [if_neg hi, List.getElem?_singleton] at hr'
      split at hr'
      · obtain rfl := Option.some.inj hr'
        rw [show i = s.2.2.1.length by omega]
        exact R
      · cases hr'
theorem c_test {h : HP} {p m : Nat} {C : List Int32} (hd : 41 ≤ d) (hf : n < p + k) (hm : m ≤ 60) (hc : C.length ≤ p + 23) (T : TxC G h b B n p m C) (R : RD G b B n C (tsR B n k p m) h Q) : Cal G d mX5_readTest [.ref (b + 7), .int 0] h Q := by
  have pn := T.1.pn.1
  refine e_X5_readTest (by omega) ⟨T.2.1.1, (c_fact_test k).1 (D := d - 1) (e := 0) (p := p) (m := m) (C := C) (by omega) (by omega) hf hm hc T ⟨fun e he h2 F2 f2 L2 => ⟨_, rfl, ?_⟩, fun r hr h2 F2 t2 T2 => ⟨_, rfl, ?_⟩⟩⟩
  · obtain ⟨k1, k2, k3, k4⟩ := T.kp F2
    exact c_testx (by omega) k1 k2 k3 k4 L2 (fun h3 F3 t3 L3 => R.1 e (by unfold tsR; rw [he]; rfl) h3 (F2.tr F3) (t3.trans f2) L3)
  · obtain ⟨ra, rm, -⟩ := ((tsF_ok (B := B) (n := n) (k := k)).1 (d := 0) (w := false) (l := []) pn hf hm).2 r hr
    have R2 := R.w F2 t2
    have et : tsR B n k p m = tsF B n k false 0 r.1 r.2.1 false r.2.2 := by
      unfold tsR
      rw [hr]
      rfl
    rw [et] at R2
    refine (c_fact_test k).2 (D := d) (e := 0) (i := 0) (w := false) (l := r.2.2) (C := C) (by omega) (by omega) (Nat.zero_le _) (by omega) rm.2 ?_ T2 R2
    rw [List.length_append, List.length_map]
    show C.length + r.2.2.length + 0 ≤ r.1 + 23
    omega
/-- the test of a clause -/
theorem c_273 {h : HP} {p m N : Nat} {C : List Int32} {x1 x2 x3 x4 : Int32} (hd : 42 ≤ d) (hf : n < p + k) (hm : m ≤ 60) (hc : C.length ≤ p + 22) (sh : ShC G h b) (e6 : hI h (b + 7) 6 = nI (N + 1)) (hN : N < 12) (T : TxC G h b B n p m C) (t1 : hI h (b + 1) 1 = 0)
    (h0 : ∀ e, tsR B n k p m = .inl e → ∀ h2, FrI (CcF b) h h2 → hI h2 (b + 1) 1 = nI e → Q (some (.int 0)) h2)
    (h1 : ∀ r, tsR B n k p m = .inr r → ∀ h2, FrI (fun a k => CxF b a k ∨ (a = b + 11 ∧ k = N)) h h2 → hI h2 (b + 1) 1 = 0 → TxC G h2 b B n r.1 r.2.1 (C ++ (r.2.2.map encC ++ [(-1 : Int32)])) → hI h2 (b + 11) N = nI C.length → Q (some (.int 1)) h2) : Ex G d mX5_readClause 273 [(0, .ref (b + 7)), (1, .int x1), (2, .int x2), (3, .int x3), (4, .int x4), (5, .int 1)] [] h Q := by
  have pn := T.1.pn.1
  have n400 := T.1.2.1.2.1
  have pm : nI (N + 1) - 1 = nI N := by
    show nI _ - nI 1 = _
    rw [nS (by omega), Nat.add_sub_cancel]
  refine t_X5_readClause_273 (by omega) ⟨fun z => absurd z (by decide), fun _ => ⟨T.2.1.1, b + 11, sh.2.2.1, sh.2.2.2.1, ?_⟩⟩
  rw [e6, pm, cl_nI (by omega), sh.2.2.2.2, T.2.2.1.1]
  refine ⟨vin_nI (by omega) (by omega), ?_⟩
  generalize g2 : sI h (b + 11) N (nI C.length) = h2
  have F2 : FrI (fun a k => a = b + 11 ∧ k = N) h h2 := by
    rw [← g2]
    exact FrI.sI h _ ⟨rfl, rfl⟩
  have T2 := T.off F2 (fun a k z => by omega)
  have v11 : hI h2 (b + 11) N = nI C.length := by rw [← g2, hI_eq]
  have t2 : hI h2 (b + 1) 1 = 0 := (F2.i (by omega)).trans t1
  have FC2 : FrI (CcF b) h h2 := F2.weak (fun a k z => by unfold CcF; omega)
  refine c_test (k := k) (by omega) hf hm (by omega) T2 ⟨fun e he h3 F3 f3 L3 => ⟨_, rfl, ?_⟩, fun r hr h3 F3 t3 T3 => ⟨_, rfl, ?_⟩⟩
  · obtain ⟨k1, k2, k3, k4⟩ := T2.kp F3
    exact c_putb k1 k2 k3 k4 L3 (fun h4 F4 t4 _ => ⟨rfl, Or.inl rfl, h0 e he h4 (FC2.tr ((F3.tr F4).weak (fun a k z => cx_cc z))) (t4.trans f3)⟩)
  · obtain ⟨ra, rm, -⟩ := (tsR_ok (B := B) (n := n) pn hf hm).2 r hr
    have rn := ra.1.1
    refine c_put T3 (by rw [List.length_append, List.length_map]; omega) (fun h4 F4 t4 T4 => ⟨rfl, Or.inr rfl, h1 r hr h4 ((F2.weak (fun a k z => Or.inr z)).tr ((F3.tr F4).weak (fun a k z => Or.inl z))) (t4.trans (t3.trans t2)) ?_ ?_⟩)
    · rw [← List.append_assoc]
      exact T4
    · rw [(F3.tr F4).i (by unfold CxF; omega)]
      exact v11
theorem c_clause {h : HP} {s : TSt} {C : List Int32} {x1 : Int32} (hd : 43 ≤ d) (hk : n < k) (hx : x1 = if wish = true then 1 else 0) (S : TsP B n wish s) (L : LcT G h b B n s C) (R : RDC G b B n (claR B n k wish s) h Q) : Cal G d mX5_readClause [.ref (b + 7), .int x1] h Q := by
  have sn : s.1 ≤ n := S.1.1
  have s60 := S.2.1
  have s12 := S.2.2.1
  have sj := S.2.2.2.2.2
  have L' := L
  obtain ⟨T, sh, ⟨e1, e6, e8⟩, hc, hr⟩ := L
  obtain ⟨f1, f2, f3, f4⟩ := T.1.f
  obtain ⟨a1, a2, a3, a4, a5⟩ := T.2.1
  have n400 := T.1.2.1.2.1
  have kl := kdT_le B n s.1
  have bad : ∀ (k' : Nat) (x : Int32), x = nI k' → claR B n k wish s = .inl (1 + 8 * s.1 + k') → Cal G (d - 1) mX8_fail [.ref (b + 1), .int x] h (fun r6 h7 => ∃ v10, r6 = some (.int v10) ∧ ((v10 = 0 ∨ v10 = 1) ∧ Q (some (.int v10)) h7)) := fun k' x hx e => s_fail T.1 hx ⟨_, rfl, Or.inl rfl, R.1 _ e _ (FrI.sI (P := CcF b) h _ (Or.inl ⟨rfl, by omega⟩)) (hI_eq _ _ _ _)⟩
  have K104 : ∀ x3, kwT B n wish s.1 → ¬ tmT B n s → Ex G d mX5_readClause 104 [(0, .ref (b + 7)), (1, .int x1), (2, .int (vlT B n s.1)), (3, .int x3)] [] h Q := fun x3 kw nt => by
    have l12 : s.2.2.1.length < 12 := by
      have : ¬ 12 ≤ s.2.2.1.length := fun q => nt (Or.inl q)
      omega
    have lt := kd_lt kw.1 (by omega)
    have gt := nxP_gt (B := B) lt
    have n1 := (at_nx (B := B) sn).1
    refine t_X5_readClause_104 (by omega) ⟨a1, b + 9, sh.1.1, sh.1.2.1, ?_⟩
    rw [e6, cl_nI (by omega), sh.1.2.2]
    refine ⟨vin_nI (by omega) (by omega), b + 10, by rw [hR_sI]; exact sh.2.1.1, sh.2.1.2.1.sI, ?_⟩
    have q6 : hI (sI h (b + 9) s.2.2.1.length (vlT B n s.1)) (b + 7) 6 = nI s.2.2.1.length := by
      rw [hI_ne _ _ (Or.inl (by omega))]
      exact e6
    rw [q6, cl_nI (by omega), hN_sI, sh.2.1.2.2]
    refine ⟨vin_nI (by omega) (by omega), fun h10 g10 => ?_⟩
    have F10 : FrI (fun a k => (a = b + 9 ∨ a = b + 10) ∧ k = s.2.2.1.length) h h10 := by
      rw [g10]
      exact (FrI.sI (P := fun a k => (a = b + 9 ∨ a = b + 10) ∧ k = s.2.2.1.length) h _ ⟨Or.inl rfl, rfl⟩).tr (FrI.sI _ _ ⟨Or.inr rfl, rfl⟩)
    have q10 : hI h10 (b + 7) 6 = nI s.2.2.1.length := (F10.i (by omega)).trans e6
    refine ⟨b + 11, (F10.r _ _).trans sh.2.2.1, F10.kd sh.2.2.2.1, ?_⟩
    rw [q10, cl_nI (by omega), (F10.n sh.2.2.2.1).trans sh.2.2.2.2]
    refine ⟨vin_nI (by omega) (by omega), fun h17 g17 => ?_⟩
    rw [hI_ne _ _ (Or.inl (by omega)), q10, nI_S] at g17
    have F17 : FrI (fun a k => ((b + 9 ≤ a ∧ a ≤ b + 11) ∧ k = s.2.2.1.length) ∨ (a = b + 7 ∧ k = 6)) h h17 := by
      rw [g17]
      exact ((F10.weak (fun a k z => Or.inl ⟨by omega, z.2⟩)).tr (FrI.sI (P := fun a k => ((b + 9 ≤ a ∧ a ≤ b + 11) ∧ k = s.2.2.1.length) ∨ (a = b + 7 ∧ k = 6)) h10 _ (Or.inl ⟨by omega, rfl⟩))).tr (FrI.sI _ _ (Or.inr ⟨rfl, rfl⟩))
    have T17 := T.off F17 (fun a k z => by omega)
    have r9 : hI h17 (b + 9) s.2.2.1.length = vlT B n s.1 := by
      rw [g17, hI_ne _ _ (Or.inl (by omega)), hI_ne _ _ (Or.inl (by omega)), g10, hI_ne _ _ (Or.inl (by omega)), hI_eq]
    have r11 : hI h17 (b + 11) s.2.2.1.length = -1 := by
      rw [g17, hI_ne _ _ (Or.inl (by omega)), hI_eq]
    have r6 : hI h17 (b + 7) 6 = nI (s.2.2.1.length + 1) := by rw [g17, hI_eq]
    refine ⟨b + 1, T17.2.1.2.1, T17.1.f.1, s_next T17.1 (fun h23 F23 S23 => ⟨rfl, ?_⟩)⟩
    have T23 := T17.nx F23 S23
    have ei : ∀ a k, a ≠ b + 1 → hI h23 a k = hI h17 a k := fun a k ha => F23.i (fun z => by unfold NxF at z; omega)
    have sh23 : ShC G h23 b := (sh.fr F17).fr F23
    have t23 : hI h23 (b + 1) 1 = 0 := (F23.i (by unfold NxF; omega)).trans ((F17.i (by omega)).trans e1)
    have F0 : FrI (CcF b) h h23 := (F17.weak (fun a k z => by unfold CcF; omega)).tr (F23.weak (fun a k z => nx_cc z))
    have r9' : hI h23 (b + 9) s.2.2.1.length = vlT B n s.1 := (ei _ _ (by omega)).trans r9
    have r11' : hI h23 (b + 11) s.2.2.1.length = -1 := (ei _ _ (by omega)).trans r11
    have r6' : hI h23 (b + 7) 6 = nI (s.2.2.1.length + 1) := (ei _ _ (by omega)).trans r6
    have r8' : hI h23 (b + 7) 8 = jnI s.2.2.2 := (ei _ _ (by omega)).trans ((F17.i (by omega)).trans e8)
    have low : ∀ a i, b + 9 ≤ a → a ≤ b + 11 → i < s.2.2.1.length → hI h23 a i = hI h a i := fun a i h1 h2 hi => (ei _ _ (by omega)).trans (F17.i (by omega))
    -- a test behind what is there
    have fin : ∀ (c p3 m3 : Nat) (sm : List Tok) (E : List Int32) (h3 : HP) (x4 : Int32), FrI (fun a k => CxF b a k ∨ (a = b + 10 ∧ k = s.2.2.1.length)) h23 h3 → vlT B n s.1 = nI c → nxP B n s.1 ≤ p3 → p3 ≤ n → m3 ≤ 60 → (C ++ E).length ≤ p3 + 2 * s.2.2.1.length → TxC G h3 b B n p3 m3 (C ++ E) → hI h3 (b + 1) 1 = 0 → ((c = 12 ∨ c = 16) → ∃ A D, C ++ E = A ++ (sm.map encC ++ [(-1 : Int32)]) ++ D ∧ hI h3 (b + 10) s.2.2.1.length = nI A.length) → claR B n k wish s = sbind (tsR B n k p3 m3) (fun r => .inr (r.1, r.2.1, s.2.2.1 ++ [(c, sm, some r.2.2)], s.2.2.2)) → Ex G d mX5_readClause 273 [(0, .ref (b + 7)), (1, .int x1), (2, .int (vlT B n s.1)), (3, .int x3), (4, .int x4), (5, .int 1)] [] h3 Q := fun c p3 m3 sm E h3 x4 F3 v g3 l3 hm hl T3 t3 rs ec => by
      have i3 : ∀ a k, ¬ (CxF b a k ∨ (a = b + 10 ∧ k = s.2.2.1.length)) → hI h3 a k = hI h23 a k := fun a k z => F3.i z
      have F03 : FrI (CcF b) h h3 := F0.tr (F3.weak (fun a k z => z.elim cx_cc (fun q => Or.inr (Or.inr ⟨by omega, by omega⟩))))
      refine c_273 (k := k) (by omega) (by omega) hm (by omega) (sh23.fr F3) ((i3 _ _ (by unfold CxF; omega)).trans r6') l12 T3 t3 (fun e he h4 F4 f4 => R.1 e (by rw [ec, he]; rfl) h4 (F03.tr F4) f4) (fun r hr h4 F4 t4 T4 z4 => ?_)
      obtain ⟨ra, rm, -⟩ := (tsR_ok (B := B) (n := n) l3 (by omega) hm).2 r hr
      have i4 : ∀ a k, ¬ (CxF b a k ∨ (a = b + 11 ∧ k = s.2.2.1.length)) → hI h4 a k = hI h3 a k := fun a k z => F4.i z
      rw [List.append_assoc] at T4
      refine R.2 (r.1, r.2.1, s.2.2.1 ++ [(c, sm, some r.2.2)], s.2.2.2) (by rw [ec, hr]; rfl) (C ++ (E ++ (r.2.2.map encC ++ [(-1 : Int32)]))) h4 (F03.tr (F4.weak (fun a k z => z.elim cx_cc (fun q => Or.inr (Or.inr ⟨by omega, by omega⟩))))) (L'.add (fun a i h1 h2 hi => ?_) T4 ((sh23.fr F3).fr F4) t4 ?_ ?_ ?_ ⟨?_, fun hq => ?_, fun e => ?_, fun l hl' => ?_⟩)
      · exact (i4 _ _ (by unfold CxF; omega)).trans ((i3 _ _ (by unfold CxF; omega)).trans (low a i h1 h2 hi))
      · exact (i4 _ _ (by unfold CxF; omega)).trans ((i3 _ _ (by unfold CxF; omega)).trans r6')
      · exact (i4 _ _ (by unfold CxF; omega)).trans ((i3 _ _ (by unfold CxF; omega)).trans r8')
      · rw [← List.append_assoc, List.length_append, List.length_append (as := r.2.2.map encC), List.length_map]
        show (C ++ E).length + (r.2.2.length + 1) ≤ r.1 + 2 * (s.2.2.1.length + 1)
        omega
      · exact ((i4 _ _ (by unfold CxF; omega)).trans ((i3 _ _ (by unfold CxF; omega)).trans r9')).trans v
      · obtain ⟨A, D, q1, q2⟩ := rs hq
        exact ⟨A, D ++ (r.2.2.map encC ++ [(-1 : Int32)]), by show C ++ (E ++ _) = A ++ (sm.map encC ++ [(-1 : Int32)]) ++ _; rw [← List.append_assoc, q1]; simp only [List.append_assoc], (i4 _ _ (by unfold CxF; omega)).trans q2⟩
      · have e2 : some r.2.2 = (none : Option (List Tok)) := e
        cases e2
      · obtain rfl := Option.some.inj hl'
        exact ⟨C ++ E, [], by rw [List.append_nil, List.append_assoc], z4⟩
    refine ⟨fun n15 => ?_, fun v15 => ?_⟩
    · have tst : ∀ c : Nat, (c = 13 ∨ c = 14) → vlT B n s.1 = nI c → Ex G d mX5_readClause 204 [(0, .ref (b + 7)), (1, .int x1), (2, .int (vlT B n s.1)), (3, .int x3), (4, .int 1)] [.int 1] h23 Q := fun c hc' v => by
        have v2 : vlT B n s.1 = 13 ∨ vlT B n s.1 = 14 := by
          rcases hc' with rfl | rfl
          · exact Or.inl v
          · exact Or.inr v
        have ec : (vlT B n s.1).toInt.toNat = c := by rw [v, ti_nI (by omega)]; rfl
        have cr := cr_t (k := k) kw nt v2
        rw [ec] at cr
        refine t_X5_readClause_204 (by omega) ⟨fun _ => fin c (nxP B n s.1) s.2.1 [] [] h23 1 (FrI.rf _ _) v (Nat.le_refl _) n1 s60 ?_ ?_ t23 (fun q => by omega) cr, fun z => absurd z (by decide)⟩
        · rw [List.append_nil]
          omega
        · rw [List.append_nil]
          exact T23
      refine ⟨fun v13 => tst 13 (Or.inl rfl) v13, fun n13 => ⟨fun n14 => ?_, fun v14 => tst 14 (Or.inr rfl) v14⟩⟩
      have v2 : vlT B n s.1 = 12 ∨ vlT B n s.1 = 16 := by
        rcases kw.cs with v | (v | v) | v
        · exact absurd v n15
        · exact absurd v n13
        · exact absurd v n14
        · exact v
      obtain ⟨c, hc12, v⟩ : ∃ c, (c = 12 ∨ c = 16) ∧ vlT B n s.1 = nI c := by
        rcases v2 with v | v
        · exact ⟨12, Or.inl rfl, v⟩
        · exact ⟨16, Or.inr rfl, v⟩
      have ec : (vlT B n s.1).toInt.toNat = c := by rw [v, ti_nI (by omega)]; rfl
      have cr := cr_s (k := k) kw nt v2
      rw [ec] at cr
      have pm : nI (s.2.2.1.length + 1) - 1 = nI s.2.2.1.length := by
        show nI _ - nI 1 = _
        rw [nS (by omega), Nat.add_sub_cancel]
      refine t_X5_readClause_204 (by omega) ⟨fun z => absurd rfl z, fun _ => ⟨T23.2.1.1, b + 10, sh23.2.1.1, sh23.2.1.2.1, ?_⟩⟩
      rw [r6', pm, cl_nI (by omega), sh23.2.1.2.2, T23.2.2.1.1]
      refine ⟨vin_nI (by omega) (by omega), ?_⟩
      generalize g24 : sI h23 (b + 10) s.2.2.1.length (nI C.length) = h24
      have F24 : FrI (fun a k => a = b + 10 ∧ k = s.2.2.1.length) h23 h24 := by
        rw [← g24]
        exact FrI.sI h23 _ ⟨rfl, rfl⟩
      have T24 := T23.off F24 (fun a k z => by omega)
      have v10 : hI h24 (b + 10) s.2.2.1.length = nI C.length := by rw [← g24, hI_eq]
      have t24 : hI h24 (b + 1) 1 = 0 := (F24.i (by omega)).trans t23
      have F04 : FrI (CcF b) h h24 := F0.tr (F24.weak (fun a k z => by unfold CcF; omega))
      refine c_sum (k := k) (by omega) (by omega) s60 (by omega) T24 ⟨fun e he h5 F5 f5 L5 => ⟨_, rfl, ?_⟩, fun a ha h5 F5 t5 T5 => ⟨_, rfl, ?_⟩⟩
      · obtain ⟨k1, k2, k3, k4⟩ := T24.kp F5
        refine c_putb k1 k2 k3 k4 L5 (fun h6 F6 t6 _ => ⟨rfl, fun _ => t_X5_readClause_273 (by omega) ⟨fun _ => ⟨Or.inl rfl, R.1 e (by rw [cr, he]; rfl) h6 (F04.tr ((F5.tr F6).weak (fun a k z => cx_cc z))) (t6.trans f5)⟩, fun z => absurd rfl z⟩, fun z => absurd rfl z⟩)
      · obtain ⟨aa, am, -⟩ := (suR_ok (B := B) (n := n) n1 (by omega) s60).2 a ha
        have an := aa.1.1
        refine c_put T5 (by rw [List.length_append, List.length_map]; omega) (fun h6 F6 t6 T6 => ⟨rfl, fun z => absurd z (by decide), fun _ => ⟨b + 1, T6.2.1.2.1, T6.1.f.1, ?_⟩⟩)
        rw [List.append_assoc] at T6
        have F46 : FrI (CxF b) h24 h6 := F5.tr F6
        have F6' : FrI (fun a k => CxF b a k ∨ (a = b + 10 ∧ k = s.2.2.1.length)) h23 h6 := (F24.weak (fun a k z => Or.inr z)).tr (F46.weak (fun a k z => Or.inl z))
        have t6' : hI h6 (b + 1) 1 = 0 := t6.trans (t5.trans t24)
        have v6 : hI h6 (b + 10) s.2.2.1.length = nI C.length := (F46.i (by unfold CxF; omega)).trans v10
        have len6 : (C ++ (a.2.2.map encC ++ [(-1 : Int32)])).length ≤ a.1 + 2 * s.2.2.1.length := by
          rw [List.length_append, List.length_append, List.length_map]
          show C.length + (a.2.2.length + 1) ≤ a.1 + 2 * s.2.2.1.length
          omega
        refine s_isWord T6.1 (k := 17) rfl (fun q1 q2 => ⟨_, rfl, fun z => absurd z (by decide), fun _ => ⟨b + 1, T6.2.1.2.1, T6.1.f.1, s_next T6.1 (fun h7 F7 S7 => ⟨rfl, ?_⟩)⟩⟩) (fun no => ⟨_, rfl, fun _ => ?_, fun z => absurd rfl z⟩)
        · have T7 := T6.nx F7 S7
          have gt2 := nxP_gt (B := B) (kd_lt q1 (by omega))
          have cr2 : claR B n k wish s = sbind (tsR B n k (nxP B n a.1) a.2.1) (fun r => .inr (r.1, r.2.1, s.2.2.1 ++ [(c, a.2.2, some r.2.2)], s.2.2.2)) := by
            rw [cr, ha]
            exact if_pos ⟨q1, q2⟩
          refine fin c (nxP B n a.1) a.2.1 a.2.2 _ h7 1 (F6'.tr (F7.weak (fun a k z => Or.inl (nx_cx z)))) v (by omega) (at_nx an).1 am.2 (by omega) T7 ((F7.i (by unfold NxF; omega)).trans t6') (fun _ => ⟨C, [], by rw [List.append_nil], (F7.i (by unfold NxF; omega)).trans v6⟩) cr2
        · refine t_X5_readClause_273 (by omega) ⟨fun _ => ⟨Or.inr rfl, ?_⟩, fun z => absurd rfl z⟩
          have i6 : ∀ a k, ¬ (CxF b a k ∨ (a = b + 10 ∧ k = s.2.2.1.length)) → hI h6 a k = hI h23 a k := fun a k z => F6'.i z
          refine R.2 (a.1, a.2.1, s.2.2.1 ++ [(c, a.2.2, none)], s.2.2.2) (by rw [cr, ha]; exact if_neg no) (C ++ (a.2.2.map encC ++ [(-1 : Int32)])) h6 (F0.tr (F6'.weak (fun a k z => z.elim cx_cc (fun q => Or.inr (Or.inr ⟨by omega, by omega⟩))))) (L'.add (fun a i h1 h2 hi => (i6 _ _ (by unfold CxF; omega)).trans (low a i h1 h2 hi)) T6 (sh23.fr F6') t6' ((i6 _ _ (by unfold CxF; omega)).trans r6') ((i6 _ _ (by unfold CxF; omega)).trans r8') (by omega) ⟨((i6 _ _ (by unfold CxF; omega)).trans r9').trans v, fun _ => ⟨C, [], by rw [List.append_nil], v6⟩, fun _ => (i6 _ _ (by unfold CxF; omega)).trans r11', fun l hl' => ?_⟩)
          have hl2 : (none : Option (List Tok)) = some l := hl'
          cases hl2
    · have jn : s.2.2.2 = none := by
        cases hj : s.2.2.2 with
        | none => rfl
        | some w => exact (nt (Or.inr ⟨v15, by rw [hj]; exact fun q => by cases q⟩)).elim
      have cr := cr_15 (k := k) kw nt v15
      refine ⟨b + 1, T23.2.1.2.1, T23.1.f.1, s_number (l := 0) (u := 1) (by omega) T23.1 (by omega) (by omega) (fun nk h32 F32 f32 => ⟨_, rfl, fun _ => R.1 (fcN B n (nxP B n s.1)) ?_ _ ?_ ?_, fun z => absurd (hI_eq _ _ _ _) z⟩) (fun ok h32 F32 S32 => ⟨_, rfl, fun z => ?_, fun _ => ?_⟩)⟩
      · rw [cr, numR_bad nk]
        rfl
      · exact (F0.tr (F32.weak (fun a k z => cx_cc (fa_cx z)))).tr (FrI.sI (P := CcF b) h32 _ (Or.inr (Or.inl ⟨rfl, by omega⟩)))
      · rw [hI_ne _ _ (Or.inl (by omega))]
        exact f32
      · obtain ⟨-, o1, o2, o3⟩ := numR_ok ok
        rw [hI_eq, o1, ti_eq, ti_nI (by omega)] at z
        have : (-1 : Int32).toInt = -1 := rfl
        omega
      · obtain ⟨o0, o1, o2, o3⟩ := numR_ok ok
        generalize g33 : sI h32 (b + 7) 8 (vlT B n (nxP B n s.1)) = h33
        have F33 : FrI (fun a k => a = b + 7 ∧ k = 8) h32 h33 := by
          rw [← g33]
          exact FrI.sI h32 _ ⟨rfl, rfl⟩
        have T33 := (T23.nx F32 S32).off F33 (fun a k z => by omega)
        have i3 : ∀ a k, ¬ (a = b + 1 ∨ (a = b + 7 ∧ k = 8)) → hI h33 a k = hI h23 a k := fun a k z => (F33.i (by omega)).trans (F32.i (by unfold NxF; omega))
        have t33 : hI h33 (b + 1) 1 = 0 := (F33.i (by omega)).trans ((F32.i (by unfold NxF; omega)).trans t23)
        have T33' : TxC G h33 b B n (nxP B n (nxP B n s.1)) s.2.1 (C ++ []) := by
          rw [List.append_nil]
          exact T33
        have gt3 := nxP_gt (B := B) (kd_lt ok.1 (by omega))
        have := L'.add (E := []) (q := (15, [], none)) (j := some (nmv B n (nxP B n s.1))) (fun a i h1 h2 hi => (i3 _ _ (by omega)).trans (low a i h1 h2 hi)) T33' ((sh23.fr F32).fr F33) t33 ((i3 _ _ (by omega)).trans r6') (by rw [← g33, hI_eq]; exact o1) (by rw [List.append_nil]; omega) ⟨((i3 _ _ (by omega)).trans r9').trans v15, fun q => absurd q (by decide), fun _ => (i3 _ _ (by omega)).trans r11', fun l hl' => by have hl2 : (none : Option (List Tok)) = some l := hl'; cases hl2⟩
        exact R.2 _ (by rw [cr, o0]; rfl) _ h33 ((F0.tr (F32.weak (fun a k z => nx_cc z))).tr (F33.weak (fun a k z => Or.inr (Or.inl ⟨z.1, by omega⟩)))) this
  have K58 : ∀ w x, ((x = 1 ∧ kwT B n wish s.1 ∧ w = vlT B n s.1) ∨ (x = 0 ∧ ¬ kwT B n wish s.1)) → Ex G d mX5_readClause 58 [(0, .ref (b + 7)), (1, .int x1), (2, .int w)] [.int x] h Q := fun w x cs => by
    refine t_X5_readClause_58 (by omega) ⟨fun nz => ⟨a1, ?_⟩, fun z => ⟨a1, b + 1, a2, f1, bad 0 0 rfl (cr_b0 ?_)⟩⟩
    · obtain ⟨kw, rfl⟩ : kwT B n wish s.1 ∧ w = vlT B n s.1 := by
        rcases cs with q | q
        · exact q.2
        · exact absurd q.1 nz
      rw [e6, e8]
      refine ⟨fun z => ⟨b + 1, a2, f1, bad 4 4 rfl (cr_b4 kw (Or.inl ?_))⟩, fun z => ?_⟩
      · exact (nI_le_iff (a := 12) (by omega) (by omega)).mp z
      · have l12 : ¬ 12 ≤ s.2.2.1.length := fun q => z ((nI_le_iff (a := 12) (by omega) (by omega)).mpr q)
        refine ⟨fun n15 => K104 x kw (fun q => q.elim l12 (fun q => n15 q.1)), fun v15 => ⟨fun z1 => K104 x kw (fun q => q.elim l12 (fun q => q.2 ?_)), fun z1 => ⟨b + 1, a2, f1, bad 4 4 rfl (cr_b4 kw (Or.inr ⟨v15, fun q => z1 ?_⟩))⟩⟩⟩
        · cases hj : s.2.2.2 with
          | none => rfl
          | some u =>
            rw [hj] at z1
            have z2 : nI u = -1 := z1
            have := sj u hj
            rw [ti_eq, ti_nI (by omega)] at z2
            have : (-1 : Int32).toInt = -1 := rfl
            omega
        · rw [q]
          rfl
    · rcases cs with q | q
      · rw [z] at q
        exact absurd q.1 (by decide)
      · exact q.2
  have K22 : ∀ w, ((kdT B n s.1 = 1 ∧ w = vlT B n s.1) ∨ (¬ kdT B n s.1 = 1 ∧ w = -1)) → Ex G d mX5_readClause 22 [(0, .ref (b + 7)), (1, .int x1)] [.int w] h Q := fun w cs => by
    have i12 : (12 : Int32).toInt = 12 := rfl
    have i13 : (13 : Int32).toInt = 13 := rfl
    have i14 : (14 : Int32).toInt = 14 := rfl
    have i15 : (15 : Int32).toInt = 15 := rfl
    have im : (-1 : Int32).toInt = -1 := rfl
    refine t_X5_readClause_22 ⟨fun z => ?_, fun z => ?_⟩
    · have wf : wish = false := by
        cases hw : wish with
        | false => rfl
        | true =>
          rw [hx, hw] at z
          exact absurd z (by decide)
      have iff : kwT B n wish s.1 ↔ (12 ≤ w.toInt ∧ w.toInt ≤ 15) := by
        rw [wf]
        constructor
        · intro q
          rcases cs with c | c
          · rw [c.2]
            rcases q.2 with q2 | ⟨-, q2 | q2 | q2 | q2⟩
            · exact absurd q2.1 (by decide)
            all_goals
              rw [q2]
              decide
          · exact absurd q.1 c.1
        · intro q
          rcases cs with c | c
          · refine ⟨c.1, Or.inr ⟨rfl, ?_⟩⟩
            rw [← c.2]
            simp only [ti_eq, i12, i13, i14, i15]
            omega
          · rw [c.2, im] at q
            omega
      rw [ti_lt, ti_lt, i12, i15]
      refine ⟨fun q => K58 w 0 (Or.inr ⟨rfl, fun u => by have := iff.mp u; omega⟩), fun q => ⟨fun q2 => K58 w 0 (Or.inr ⟨rfl, fun u => by have := iff.mp u; omega⟩), fun q2 => ?_⟩⟩
      have kw := iff.mpr (by omega)
      exact K58 w 1 (Or.inl ⟨rfl, kw, cs.elim (fun c => c.2) (fun c => absurd kw.1 c.1)⟩)
    · have wt : wish = true := by
        cases hw : wish with
        | true => rfl
        | false =>
          rw [hx, hw] at z
          exact absurd rfl z
      refine ⟨fun q => K58 w 0 (Or.inr ⟨rfl, fun u => ?_⟩), fun q => ?_⟩
      · rcases cs with c | c
        · rcases u.2 with u2 | u2
          · exact q (c.2.trans u2.2)
          · rw [wt] at u2
            exact absurd u2.1 (by decide)
        · exact c.1 u.1
      · rcases cs with c | c
        · exact K58 w 1 (Or.inl ⟨rfl, ⟨c.1, Or.inl ⟨wt, c.2.symm.trans q⟩⟩, c.2⟩)
        · rw [q] at c
          exact absurd c.2 (by decide)
  refine e_X5_readClause ⟨a1, b + 1, a2, f1, fun z => K22 (-1) (Or.inr ⟨fun q => z ?_, rfl⟩), fun z => ?_⟩
  · rw [f2, q]
    rfl
  · rw [f4]
    rw [f2] at z
    exact K22 _ (Or.inl ⟨(nI_eq_iff (b := 1) (by omega) (by omega)).mp z, rfl⟩)
end TN
