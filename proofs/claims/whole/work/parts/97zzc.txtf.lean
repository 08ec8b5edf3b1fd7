/-! ===== a text is read by the class: tests, all of them ===== -/
def orX (w : Bool) : Int32 := if w = true then 1 else 0
section TG
variable {G : GG} {b : Nat} {B : Nat → Int32} {n : Nat}
theorem c_testx {D : Nat} {h : HP} {Q : Option Value → HP → Prop} {x1 x3 x4 : Int32} (hd : 1 ≤ D) (a1 : Kd G h (b + 7) 5) (a3 : hR h (b + 7) 0 = some (b + 8)) (a4 : Kd G h (b + 8) 14) (a5 : hN h (b + 8) = 424) (L : LnK h b) (hQ : ∀ h2, FrI (CxF b) h h2 → hI h2 (b + 1) 1 = hI h (b + 1) 1 → LnK h2 b → Q (some (.int 0)) h2) : Ex G D mX5_readTest 11 [(0, .ref (b + 7)), (1, .int x1), (2, .int 0), (3, .int x3), (4, .int x4)] [] h Q := by
  have e1 := hQ h (FrI.rf _ h) rfl L
  exact t_X5_readTest_11 hd ⟨fun _ => ⟨fun _ => ⟨Or.inl rfl, e1⟩, fun _ => ⟨a1, c_putb a1 a3 a4 a5 L (fun h2 F2 t2 L2 => ⟨rfl, Or.inl rfl, hQ h2 F2 t2 L2⟩)⟩⟩, fun _ => ⟨fun _ => ⟨fun _ => ⟨Or.inl rfl, e1⟩, fun _ => ⟨a1, c_putb a1 a3 a4 a5 L (fun h2 F2 t2 L2 => ⟨rfl, Or.inl rfl, hQ h2 F2 t2 L2⟩)⟩⟩, fun z => absurd rfl z⟩⟩
theorem c_fact_test : ∀ k : Nat,
    (∀ {D e p m : Nat} {C : List Int32} {h : HP} {Q : Option Value → HP → Prop}, 40 ≤ D + 3 * e → e ≤ 10 → n < p + k → m ≤ 60 → C.length ≤ p + 23 → TxC G h b B n p m C → RD G b B n C (tsF B n k true e p m false []) h Q → Cal G D mX5_readFact [.ref (b + 7), .int (nI e)] h Q) ∧
    (∀ {D e i p m : Nat} {w : Bool} {l : List Tok} {C : List Int32} {h : HP} {Q : Option Value → HP → Prop}, 41 ≤ D + 3 * e → e ≤ 10 → i ≤ p → n < p + k → m ≤ 60 → (C ++ l.map encC).length + (orT w).length ≤ p + 23 → TxC G h b B n p m (C ++ l.map encC) → RD G b B n C (tsF B n k false e p m w l) h Q → Ex G D mX5_readTest 11 [(0, .ref (b + 7)), (1, .int (nI e)), (2, .int 1), (3, .int (orX w)), (4, .int (nI i))] [] h Q) := by
  intro k
  induction k with
  | zero =>
    refine ⟨fun _ _ hf _ _ T _ => ?_, fun _ _ _ hf _ _ T _ => ?_⟩
    · have := T.1.pn.1
      omega
    · have := T.1.pn.1
      omega
  | succ k ih =>
    obtain ⟨FA, TE⟩ := ih
    have tok1 : ∀ {e p m : Nat}, p ≤ n → n < p + k → m ≤ 60 → OkR B n p m TestQ (tsF B n k true e p m false []) := fun a b c => tsF_ok.1 a b c
    have tok2 : ∀ {p0 m0 e p m : Nat} {w : Bool} {l : List Tok}, At B n p → n < p + k → p0 + l.length + (orT w).length ≤ p → p0 < p → m0 + pushN l ≤ m → m ≤ 60 → TesW w l → OkR B n p0 m0 TestQ (tsF B n k false e p m w l) := fun a b c d e f g => tsF_ok.2 a b c d e f g
    refine ⟨fun {D e p m C h Q} hD he hf hm hc T R => ?_, fun {D e i p m w l C h Q} hD he hi hf hm hc T R => ?_⟩
    · have pn := T.1.pn.1
      have n400 := T.1.2.1.2.1
      obtain ⟨S, ⟨a1, a2, a3, a4, a5⟩, -⟩ := id T
      have f1 := S.f.1
      have ln : LnK h b := T.ln (by omega)
      -- too deep
      have deep : ¬ (nI e : Int32) < 10 → tsF B n (k + 1) true e p m false [] = .inl (1 + 8 * p + 2) → Cal G (D - 1) mX5_readNested [.ref (b + 7), .int (nI e)] h (fun r10 h11 => ∃ v13, r10 = some (.int v13) ∧ ((v13 = 0 ∨ v13 = 1) ∧ Q (some (.int v13)) h11)) := fun z et => e_X5_readNested (by omega) ⟨fun q => absurd q z, fun _ => ⟨a1, b + 1, a2, f1, s_fail S (k := 2) rfl ⟨_, rfl, Or.inl rfl, _, rfl, Or.inl rfl, R.1 _ et _ (FrI.sI (P := CxF b) h _ (Or.inl ⟨rfl, by omega⟩)) (hI_eq _ _ _ _) (by obtain ⟨L, hL, e⟩ := ln; exact ⟨L, hL, by rw [hI_ne _ _ (Or.inl (by omega))]; exact e⟩)⟩⟩⟩
      have lt10 : (nI e : Int32) < 10 ↔ e < 10 := nI_lt_iff (b := 10) (by omega) (by omega)
      by_cases c14 : kdT B n p = 1 ∧ vlT B n p = 14
      · have lt := kd_lt c14.1 (by omega)
        have gt := nxP_gt (B := B) lt
        have et : tsF B n (k + 1) true e p m false [] = if 10 ≤ e then .inl (1 + 8 * p + 2) else sbind (tsF B n k true (e + 1) (nxP B n p) m false []) (fun r => .inr (r.1, r.2.1, r.2.2 ++ [(11, 0)])) := by
          show (if kdT B n p = 1 ∧ vlT B n p = 14 then _ else _) = _
          rw [if_pos c14]
        refine e_X5_readFact (by omega) ⟨a1, b + 1, a2, f1, s_isWord (k := 14) S rfl (fun _ _ => ⟨_, rfl, fun _ => ?_, fun z => absurd z (by decide)⟩) (fun q => absurd c14 q)⟩
        by_cases e10 : 10 ≤ e
        · exact deep (fun q => by have := lt10.mp q; omega) (by rw [et, if_pos e10])
        · rw [if_neg e10] at et
          refine e_X5_readNested (by omega) ⟨fun _ => ⟨a1, b + 1, a2, f1, s_isWord (k := 14) S rfl (fun _ _ => ⟨_, rfl, b + 1, a2, f1, s_next S (fun h2 F2 S2 => ⟨rfl, fun z => absurd z (by decide), fun _ => ?_⟩)⟩) (fun q => absurd c14 q)⟩, fun q => absurd (lt10.mpr (by omega)) q⟩
          have T2 := T.nx F2 S2
          have F2' : FrI (CxF b) h h2 := F2.weak (fun a k z => nx_cx z)
          have t2 : hI h2 (b + 1) 1 = hI h (b + 1) 1 := F2.i (by unfold NxF; omega)
          rw [nI_S]
          refine FA (by omega) (by omega) (by omega) hm (by omega) T2 ⟨fun x hx h3 F3 f3 L3 => ⟨_, rfl, ?_⟩, fun r hr h3 F3 t3 T3 => ⟨_, rfl, ?_⟩⟩
          · obtain ⟨b1, b2, b3, b4⟩ := T2.kp F3
            exact c_putb b1 b2 b3 b4 L3 (fun h4 F4 t4 L4 => ⟨rfl, Or.inl rfl, _, rfl, Or.inl rfl, R.1 x (by rw [et, hx]; rfl) h4 ((F2'.tr F3).tr F4) (t4.trans f3) L4⟩)
          · obtain ⟨ra, rm, -⟩ := (tok1 (at_nx pn).1 (by omega) hm).2 r hr
            have rn := ra.1.1
            have l3 : (C ++ r.2.2.map encC).length + 1 ≤ r.1 + 23 := by
              rw [List.length_append, List.length_map]
              omega
            refine c_put T3 (by omega) (fun h4 F4 t4 T4 => ⟨rfl, Or.inr rfl, _, rfl, Or.inr rfl, R.2 (r.1, r.2.1, r.2.2 ++ [(11, 0)]) (by rw [et, hr]; rfl) h4 ((F2'.tr F3).tr F4) (t4.trans (t3.trans t2)) ?_⟩)
            rw [List.map_append, ← List.append_assoc]
            exact T4
      · by_cases c91 : kdT B n p = 3 ∧ vlT B n p = 91
        · have lt := kd_lt c91.1 (by omega)
          have gt := nxP_gt (B := B) lt
          have et : tsF B n (k + 1) true e p m false [] = if 10 ≤ e then .inl (1 + 8 * p + 2) else sbind (sbind (tsF B n k true (e + 1) (nxP B n p) m false []) (fun r => tsF B n k false (e + 1) r.1 r.2.1 false r.2.2)) (fun r => if kdT B n r.1 = 3 ∧ vlT B n r.1 = 93 then .inr (nxP B n r.1, r.2) else .inl (1 + 8 * r.1 + 0)) := by
            show (if kdT B n p = 1 ∧ vlT B n p = 14 then _ else _) = _
            rw [if_neg c14, if_pos c91]
          refine e_X5_readFact (by omega) ⟨a1, b + 1, a2, f1, s_isWord (k := 14) S rfl (fun q1 q2 => absurd ⟨q1, q2⟩ c14) (fun _ => ⟨_, rfl, fun z => absurd rfl z, fun _ => ⟨b + 1, a2, f1, s_isSign S (fun _ _ => ⟨_, rfl, fun z => absurd z (by decide), fun _ => ?_⟩) (fun q => absurd c91 q)⟩⟩)⟩
          by_cases e10 : 10 ≤ e
          · exact deep (fun q => by have := lt10.mp q; omega) (by rw [et, if_pos e10])
          · rw [if_neg e10] at et
            refine e_X5_readNested (by omega) ⟨fun _ => ⟨a1, b + 1, a2, f1, s_isWord (k := 14) S rfl (fun q1 q2 => absurd ⟨q1, q2⟩ c14) (fun _ => ⟨_, rfl, b + 1, a2, f1, s_next S (fun h2 F2 S2 => ⟨rfl, fun _ => ?_, fun z => absurd rfl z⟩)⟩)⟩, fun q => absurd (lt10.mpr (by omega)) q⟩
            have T2 := T.nx F2 S2
            have F2' : FrI (CxF b) h h2 := F2.weak (fun a k z => nx_cx z)
            have t2 : hI h2 (b + 1) 1 = hI h (b + 1) 1 := F2.i (by unfold NxF; omega)
            rw [nI_S]
            refine e_X5_readTest (by omega) ⟨T2.2.1.1, FA (by omega) (by omega) (by omega) hm (by omega) T2 ⟨fun x hx h3 F3 f3 L3 => ⟨_, rfl, ?_⟩, fun r hr h3 F3 t3 T3 => ⟨_, rfl, ?_⟩⟩⟩
            · obtain ⟨b1, b2, b3, b4⟩ := T2.kp F3
              exact c_testx (by omega) b1 b2 b3 b4 L3 (fun h4 F4 t4 L4 => ⟨_, rfl, fun z => absurd rfl z, fun _ => ⟨_, rfl, Or.inl rfl, R.1 x (by rw [et, hx]; rfl) h4 ((F2'.tr F3).tr F4) (t4.trans f3) L4⟩⟩)
            · obtain ⟨ra, rm, rs⟩ := (tok1 (at_nx pn).1 (by omega) hm).2 r hr
              have rn := ra.1.1
              have l3 : (C ++ r.2.2.map encC).length ≤ r.1 + 23 := by
                rw [List.length_append, List.length_map]
                omega
              refine TE (w := false) (i := 0) (by omega) (by omega) (by omega) (by omega) rm.2 (by show _ + 0 ≤ _; omega) T3 ⟨fun x hx h4 F4 f4 L4 => ⟨_, rfl, fun z => absurd rfl z, fun _ => ⟨_, rfl, Or.inl rfl, R.1 x (by rw [et, hr]; simp only [sbind]; rw [hx]) h4 ((F2'.tr F3).tr F4) f4 L4⟩⟩, fun r2 hr2 h4 F4 t4 T4 => ⟨_, rfl, fun _ => ⟨b + 1, T4.2.1.2.1, T4.1.f.1, ?_⟩, fun z => absurd z (by decide)⟩⟩
              obtain ⟨sa, sm, -⟩ := (tok2 (p0 := nxP B n p) (m0 := m) ra.1 (by omega) (by show _ + 0 ≤ _; omega) ra.2.2 rm.1 rm.2 (Or.inl ⟨rfl, rs⟩)).2 r2 hr2
              have sn := sa.1.1
              have L4 : LnK h4 b := T4.ln (by rw [List.length_append, List.length_map]; omega)
              refine s_isSign T4.1 (fun q1 q2 => ⟨_, rfl, fun _ => ⟨b + 1, T4.2.1.2.1, T4.1.f.1, s_next T4.1 (fun h5 F5 S5 => ⟨rfl, _, rfl, Or.inr rfl, R.2 (nxP B n r2.1, r2.2) (by rw [et, hr]; simp only [sbind]; rw [hr2]; exact if_pos ⟨q1, q2⟩) h5 (((F2'.tr F3).tr F4).tr (F5.weak (fun a k z => nx_cx z))) ((F5.i (by unfold NxF; omega)).trans (t4.trans (t3.trans t2))) (T4.nx F5 S5)⟩)⟩, fun z => absurd z (by decide)⟩) (fun q => ⟨_, rfl, fun z => absurd rfl z, fun _ => ⟨b + 1, T4.2.1.2.1, T4.1.f.1, s_fail T4.1 (k := 0) rfl ⟨_, rfl, Or.inl rfl, _, rfl, Or.inl rfl, R.1 _ (by rw [et, hr]; simp only [sbind]; rw [hr2]; exact if_neg q) _ (((F2'.tr F3).tr F4).tr (FrI.sI (P := CxF b) h4 _ (Or.inl ⟨rfl, by omega⟩))) (hI_eq _ _ _ _) (by obtain ⟨L, hL, e⟩ := L4; exact ⟨L, hL, by rw [hI_ne _ _ (Or.inl (by omega))]; exact e⟩)⟩⟩⟩)
        · have et : tsF B n (k + 1) true e p m false [] = cmR B n (k + 1) p m := by
            show (if kdT B n p = 1 ∧ vlT B n p = 14 then _ else _) = _
            rw [if_neg c14, if_neg c91]
          rw [et] at R
          exact c_cmp (k := k + 1) (by omega) hf hm hc c14 c91 T R
    · have pn := T.1.pn.1
      have n400 := T.1.2.1.2.1
      obtain ⟨S, ⟨a1, a2, a3, a4, a5⟩, -⟩ := id T
      have f1 := S.f.1
      have ox : orX w = 0 ↔ w = false := by cases w <;> decide
      have ol : w = true → (orT w).length = 1 := fun q => by rw [q]; rfl
      have exitR : ¬ (kdT B n p = 1 ∧ vlT B n p = 18) → ¬ (kdT B n p = 1 ∧ vlT B n p = 19) → tsF B n (k + 1) false e p m w l = .inr (p, m, l ++ orT w) := fun n1 n2 => by
        show (if kdT B n p = 1 ∧ vlT B n p = 18 then _ else _) = _
        rw [if_neg n1, if_neg n2]
      have exitN : ¬ (kdT B n p = 1 ∧ vlT B n p = 18) → ¬ (kdT B n p = 1 ∧ vlT B n p = 19) → orX w = 0 → (((1 : Int32) = 0 ∨ (1 : Int32) = 1) ∧ Q (some (.int 1)) h) := fun n1 n2 z => by
        obtain rfl := ox.mp z
        refine ⟨Or.inr rfl, R.2 _ (exitR n1 n2) h (FrI.rf _ h) rfl ?_⟩
        show TxC G h b B n p m (C ++ (l ++ []).map encC)
        rw [List.append_nil]
        exact T
      have exitP : ¬ (kdT B n p = 1 ∧ vlT B n p = 18) → ¬ (kdT B n p = 1 ∧ vlT B n p = 19) → ¬ orX w = 0 → Cal G (D - 1) mX5_put [.ref (b + 7), .int (-12)] h (fun r3 h4 => r3 = none ∧ (((1 : Int32) = 0 ∨ (1 : Int32) = 1) ∧ Q (some (.int 1)) h4)) := fun n1 n2 z => by
        have w1 : w = true := by
          cases w
          · exact absurd (by decide) z
          · rfl
        have := ol w1
        refine c_put T (by omega) (fun h2 F2 t2 T2 => ⟨rfl, Or.inr rfl, R.2 _ (exitR n1 n2) h2 F2 t2 ?_⟩)
        show TxC G h2 b B n p m (C ++ (l ++ orT w).map encC)
        rw [w1, List.map_append, ← List.append_assoc]
        exact T2
      refine t_X5_readTest_11 (by omega) ⟨fun z => ?_, fun z => ⟨fun z1 => absurd z1 (by decide), fun _ => ⟨a1, b + 1, a2, f1, ?_⟩⟩⟩
      · have := (nI_le_iff (a := 400) (by omega) (by omega)).mp z
        have k0 : ¬ kdT B n p = 1 := fun q => by
          have := kd_lt q (by omega)
          omega
        exact ⟨exitN (fun q => k0 q.1) (fun q => k0 q.1), fun z2 => ⟨a1, exitP (fun q => k0 q.1) (fun q => k0 q.1) z2⟩⟩
      refine s_isWord (k := 18) S rfl (fun k1 v => ⟨_, rfl, fun z => absurd z (by decide), fun _ => ⟨b + 1, a2, f1, ?_⟩⟩) (fun n18 => ⟨_, rfl, fun _ => ⟨b + 1, a2, f1, s_isWord (k := 19) S rfl (fun k1 v => ⟨_, rfl, fun z => absurd z (by decide), fun _ => ?_⟩) (fun n19 => ⟨_, rfl, fun _ => ⟨exitN n18 n19, exitP n18 n19⟩, fun z => absurd rfl z⟩)⟩, fun z => absurd rfl z⟩)
      · have lt := kd_lt k1 (by omega)
        have gt := nxP_gt (B := B) lt
        have et : tsF B n (k + 1) false e p m w l = sbind (tsF B n k true e (nxP B n p) m false []) (fun r => tsF B n k false e r.1 r.2.1 w (l ++ r.2.2 ++ [(12, 0)])) := by
          show (if kdT B n p = 1 ∧ vlT B n p = 18 then _ else _) = _
          rw [if_pos (show kdT B n p = 1 ∧ vlT B n p = 18 from ⟨k1, v⟩)]
        refine s_next S (fun h2 F2 S2 => ⟨rfl, ?_⟩)
        have T2 := T.nx F2 S2
        have F2' : FrI (CxF b) h h2 := F2.weak (fun a k z => nx_cx z)
        have t2 : hI h2 (b + 1) 1 = hI h (b + 1) 1 := F2.i (by unfold NxF; omega)
        refine FA (by omega) he (by omega) hm (by omega) T2 ⟨fun x hx h3 F3 f3 L3 => ⟨_, rfl, ?_⟩, fun r hr h3 F3 t3 T3 => ⟨_, rfl, ?_⟩⟩
        · obtain ⟨b1, b2, b3, b4⟩ := T2.kp F3
          refine c_putb b1 b2 b3 b4 L3 (fun h4 F4 t4 L4 => ⟨rfl, ?_⟩)
          obtain ⟨b1, b2, b3, b4⟩ := T2.kp (F3.tr F4)
          exact c_testx (by omega) b1 b2 b3 b4 L4 (fun h5 F5 t5 L5 => R.1 x (by rw [et, hx]; rfl) h5 (((F2'.tr F3).tr F4).tr F5) (t5.trans (t4.trans f3)) L5)
        · obtain ⟨ra, rm, -⟩ := (tok1 (at_nx pn).1 (by omega) hm).2 r hr
          have rn := ra.1.1
          have l3 : (C ++ l.map encC ++ r.2.2.map encC).length + (orT w).length + 1 ≤ r.1 + 23 := by
            rw [List.length_append, List.length_map]
            omega
          refine c_put T3 (by omega) (fun h4 F4 t4 T4 => ⟨rfl, ?_⟩)
          rw [nI_S]
          have e1 : C ++ l.map encC ++ r.2.2.map encC ++ [-11] = C ++ (l ++ r.2.2 ++ [(12, 0)]).map encC := by
            simp only [List.map_append, List.append_assoc, List.map_cons, List.map_nil]
            rfl
          rw [e1] at T4
          refine TE (i := i + 1) (by omega) he (by omega) (by omega) rm.2 ?_ T4 (RD.w ⟨fun e he => R.1 e (by rw [et, hr]; exact he), fun r' hr' => R.2 r' (by rw [et, hr]; exact hr')⟩ ((F2'.tr F3).tr F4) (t4.trans (t3.trans t2)))
          rw [← e1, List.length_append]
          show _ + 1 + (orT w).length ≤ _
          omega
      · have lt := kd_lt k1 (by omega)
        have gt := nxP_gt (B := B) lt
        have et : tsF B n (k + 1) false e p m w l = sbind (tsF B n k true e (nxP B n p) m false []) (fun r => tsF B n k false e r.1 r.2.1 true (l ++ orT w ++ r.2.2)) := by
          show (if kdT B n p = 1 ∧ vlT B n p = 18 then _ else _) = _
          rw [if_neg (show ¬ (kdT B n p = 1 ∧ vlT B n p = 18) from n18), if_pos (show kdT B n p = 1 ∧ vlT B n p = 19 from ⟨k1, v⟩)]
        have nine : ∀ h1, FrI (CxF b) h h1 → hI h1 (b + 1) 1 = hI h (b + 1) 1 → TxC G h1 b B n p m (C ++ (l ++ orT w).map encC) → Ex G D mX5_readTest 79 [(0, .ref (b + 7)), (1, .int (nI e)), (2, .int 1), (3, .int (orX w)), (4, .int (nI i))] [] h1 Q := fun h1 F1 t1 T1 => by
          have l1 : (C ++ (l ++ orT w).map encC).length ≤ p + 23 := by
            rw [List.length_append, List.length_map, List.length_append]
            rw [List.length_append, List.length_map] at hc
            omega
          refine t_X5_readTest_79 (by omega) ⟨T1.2.1.1, b + 1, T1.2.1.2.1, T1.1.f.1, s_next T1.1 (fun h2 F2 S2 => ⟨rfl, ?_⟩)⟩
          have T2 := T1.nx F2 S2
          have F2' : FrI (CxF b) h h2 := F1.tr (F2.weak (fun a k z => nx_cx z))
          have t2 : hI h2 (b + 1) 1 = hI h (b + 1) 1 := (F2.i (by unfold NxF; omega)).trans t1
          refine FA (by omega) he (by omega) hm (by omega) T2 ⟨fun x hx h3 F3 f3 L3 => ⟨_, rfl, ?_⟩, fun r hr h3 F3 t3 T3 => ⟨_, rfl, ?_⟩⟩
          · obtain ⟨b1, b2, b3, b4⟩ := T2.kp F3
            exact c_testx (by omega) b1 b2 b3 b4 L3 (fun h5 F5 t5 L5 => R.1 x (by rw [et, hx]; rfl) h5 ((F2'.tr F3).tr F5) (t5.trans f3) L5)
          · obtain ⟨ra, rm, -⟩ := (tok1 (at_nx pn).1 (by omega) hm).2 r hr
            have rn := ra.1.1
            rw [nI_S]
            rw [List.append_assoc, ← List.map_append] at T3
            refine TE (w := true) (i := i + 1) (by omega) he (by omega) (by omega) rm.2 ?_ T3 (RD.w ⟨fun e he => R.1 e (by rw [et, hr]; exact he), fun r' hr' => R.2 r' (by rw [et, hr]; exact hr')⟩ (F2'.tr F3) (t3.trans t2))
            rw [List.map_append, ← List.append_assoc, List.length_append, List.length_map]
            show _ + 1 ≤ _
            omega
        refine ⟨fun z => ?_, fun z => ?_⟩
        · refine nine h (FrI.rf _ h) rfl ?_
          rw [ox.mp z]
          show TxC G h b B n p m (C ++ (l ++ []).map encC)
          rw [List.append_nil]
          exact T
        · have w1 : w = true := by
            cases w
            · exact absurd (by decide) z
            · rfl
          have := ol w1
          refine c_put T (by omega) (fun h2 F2 t2 T2 => ⟨rfl, nine h2 F2 t2 ?_⟩)
          rw [w1, List.map_append, ← List.append_assoc]
          exact T2
end TG
