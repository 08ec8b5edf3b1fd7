/-! ===== a text is read by the reference: tests, all of them ===== -/
section TY
variable {G : GG} {d : Nat} {y : Nat} {B : Nat → Int32} {n t : Nat} {Q : Option Value → HP → Prop}
set_option maxHeartbeats 1000000 in
theorem fact_test (hd : 12 ≤ d) : ∀ k : Nat,
    (∀ {e p m : Nat} {K : List Nat} {C : List Tok} {h : HP}, TxS G h y B n t p m C e K → n < p + k → (∀ x, tsF B n k true e p m false [] = .inl x → ∀ h2, FrI (TsF y t) h h2 → hI h2 y 14 = nI x → Q (some (.int 0)) h2) → (∀ r, tsF B n k true e p m false [] = .inr r → ∀ h2, FrI (TsF y t) h h2 → TxS G h2 y B n t r.1 r.2.1 (C ++ r.2.2) e K → S3L G d y Q h2) → FL G d y Q h) ∧
    (∀ {e p m : Nat} {w a : Bool} {l A C : List Tok} {K0 : List Nat} {h : HP}, TxS G h y B n t p m C e (andS a ++ orS w ++ K0) → C ++ andT a = A ++ l → (K0 = [] ∨ ∃ K, K0 = 91 :: K ∧ 1 ≤ e) → n < p + k → (∀ x, tsF B n k false e p m w l = .inl x → ∀ h2, FrI (TsF y t) h h2 → hI h2 y 14 = nI x → Q (some (.int 0)) h2) → (∀ r, tsF B n k false e p m w l = .inr r → (K0 = [] → ∀ h2, FrI (TsF y t) h h2 → TxS G h2 y B n t r.1 r.2.1 (A ++ r.2.2) e [] → Q (some (.int 1)) h2) ∧ ∀ K, K0 = 91 :: K → ((kdT B n r.1 = 3 ∧ vlT B n r.1 = 93) → ∀ h2, FrI (TsF y t) h h2 → TxS G h2 y B n t (nxP B n r.1) r.2.1 (A ++ r.2.2) (e - 1) K → S3L G d y Q h2) ∧ (¬ (kdT B n r.1 = 3 ∧ vlT B n r.1 = 93) → ∀ h2, FrI (TsF y t) h h2 → hI h2 y 14 = nI (1 + 8 * r.1 + 0) → Q (some (.int 0)) h2)) → S3L G d y Q h) := by
  intro k
  induction k with
  | zero =>
    refine ⟨fun S hf _ _ => ?_, fun S _ _ hf _ _ => ?_⟩
    · have := S.len
      omega
    · have := S.len
      omega
  | succ k ih =>
    obtain ⟨FA, TE⟩ := ih
    have tok1 : ∀ {e p m : Nat}, p ≤ n → n < p + k → m ≤ 60 → OkR B n p m TestQ (tsF B n k true e p m false []) := fun a b c => tsF_ok.1 a b c
    refine ⟨fun {e p m K C h} S hf E0 E1 => ?_, fun {e p m w a l A C K0 h} S hA hK hf E0 E1 => ?_⟩
    · -- a fact
      obtain ⟨l1, l2, l3⟩ := S.len
      have bt : p < n → rng (B p) (-128) 127 := fun hp => S.1.1.2.1.2.2.2 _ hp
      have s60 := S.2.2.2.2.2
      refine t_X12_fact_2 (by omega) ⟨fun z => absurd z (by decide), fun _ => ⟨S.1.1.1.1, r_see S.1.1 (fun h2 F2 X2 => ⟨_, rfl, r_isWord (k := 14) (by omega) X2.x (by omega) (by decide) (fun k1 v h3 F3 X3 => ⟨_, rfl, fun z => absurd z (by decide), fun _ => ?_⟩) (fun nn h3 F3 X3 => ⟨_, rfl, fun _ => ⟨fun z => ?_, fun z => ?_⟩, fun z => absurd rfl z⟩)⟩)⟩⟩
      · -- not
        have lt := kd_lt k1 (by omega)
        have S3 := S.f13 (F2.tr F3) X3.x (Nat.le_refl _)
        have F23 : FrI (TsF y t) h h3 := (F2.tr F3).weak (fun a k z => f13_ts z)
        have et : tsF B n (k + 1) true e p m false [] = if 10 ≤ e then .inl (1 + 8 * p + 2) else sbind (tsF B n k true (e + 1) (nxP B n p) m false []) (fun r => .inr (r.1, r.2.1, r.2.2 ++ [(11, 0)])) := by
          show (if kdT B n p = 1 ∧ vlT B n p = 14 then _ else _) = _
          rw [if_pos (show kdT B n p = 1 ∧ vlT B n p = 14 from ⟨k1, v⟩)]
        refine r_opens (v := 11) (by omega) X3 S3 lt rfl (by omega) (fun z h4 F4 f4 => ⟨_, rfl, fun z => absurd rfl z, fun _ => ⟨_, rfl, fun z => absurd rfl z, fun _ => E0 _ (by rw [et, if_pos z]) h4 (F23.tr F4) f4⟩⟩) (fun z h4 F4 X4 N4 => ⟨_, rfl, fun _ => r_passWord (by omega) X4 k1 (fun h5 F5 X5 _ => ⟨rfl, ?_⟩), fun z => absurd z (by decide)⟩)
        have gt := nxP_gt (B := B) lt
        have S5 := N4 h5 _ F5 X5 gt
        have F25 := (F23.tr F4).tr (F5.weak (fun a k z => f13_ts (t := t) z))
        rw [if_neg z] at et
        refine FA S5 (by omega) (fun x hx h6 F6 f6 => E0 x (by rw [et, hx]; rfl) h6 (F25.tr F6) f6) (fun r hr h6 F6 S6 => ?_)
        refine st_pop (by omega) (v := 11) S6 (by omega) (by decide) (by omega) (by omega) (fun h7 F7 S7 => E1 (r.1, r.2.1, r.2.2 ++ [(11, 0)]) (by rw [et, hr]; rfl) h7 ((F25.tr F6).tr (F7.weak (fun a k z => st_ts z))) ?_)
        rw [← List.append_assoc]
        exact S7
      · -- a comparison
        have n91 : ¬ (kdT B n p = 3 ∧ vlT B n p = 91) := fun q => z ((see_sg (c := 91) bt (by omega) (by decide) (by decide) (by decide) (by decide)).mpr q)
        have et : tsF B n (k + 1) true e p m false [] = cmR B n (k + 1) p m := by
          show (if kdT B n p = 1 ∧ vlT B n p = 14 then _ else _) = _
          rw [if_neg (show ¬ (kdT B n p = 1 ∧ vlT B n p = 14) from nn), if_neg n91]
        have S3 := S.f13 (F2.tr F3) X3.x (Nat.le_refl _)
        have F23 : FrI (TsF y t) h h3 := (F2.tr F3).weak (fun a k z => f13_ts z)
        refine t_X12_fact_2 (by omega) ⟨fun _ => ⟨X3.1.1, r_compare (k := k + 1) (by omega) hf s60 (by omega) S3.1 ⟨fun x hx h4 F4 f4 => ⟨_, rfl, Or.inl rfl, _, rfl, fun z => absurd rfl z, fun _ => E0 x (by rw [et, hx]) h4 (F23.tr (F4.weak (fun a k z => sm_ts z))) f4⟩, fun r hr h4 F4 T4 => ⟨_, rfl, Or.inr rfl, _, rfl, fun _ => ?_, fun z => absurd z (by decide)⟩⟩⟩, fun z => absurd rfl z⟩
        obtain ⟨ra, rm, -⟩ := (cmR_ok (B := B) (n := n) l2 hf s60).2 r hr
        have S4 : TxS G h4 y B n t r.1 r.2.1 (C ++ r.2.2) e K := S3.mk F4 T4 (by rw [List.length_append]; omega) rm.2
        exact e_X12_closes (by omega) ⟨T4.1.1.1, cal_of rfl (Nat.le_of_ble_eq_true rfl) (E1 r (by rw [et, hr]) h4 (F23.tr (F4.weak (fun a k z => sm_ts z))) S4)⟩
      · -- a bracket
        have c91 := (see_sg (c := 91) bt (by omega) (by decide) (by decide) (by decide) (by decide)).mp z
        obtain ⟨⟨lt, -⟩, px⟩ := nx_sg c91 (by decide) (by decide) (by decide) (by decide) (by decide) (by decide)
        have S3 := S.f13 (F2.tr F3) X3.x (Nat.le_refl _)
        have F23 : FrI (TsF y t) h h3 := (F2.tr F3).weak (fun a k z => f13_ts z)
        have et : tsF B n (k + 1) true e p m false [] = if 10 ≤ e then .inl (1 + 8 * p + 2) else sbind (sbind (tsF B n k true (e + 1) (nxP B n p) m false []) (fun r => tsF B n k false (e + 1) r.1 r.2.1 false r.2.2)) (fun r => if kdT B n r.1 = 3 ∧ vlT B n r.1 = 93 then .inr (nxP B n r.1, r.2) else .inl (1 + 8 * r.1 + 0)) := by
          show (if kdT B n p = 1 ∧ vlT B n p = 14 then _ else _) = _
          rw [if_neg (show ¬ (kdT B n p = 1 ∧ vlT B n p = 14) from nn), if_pos (show kdT B n p = 3 ∧ vlT B n p = 91 from c91)]
        refine r_opens (v := 91) (by omega) X3 S3 lt rfl (by omega) (fun z h4 F4 f4 => ⟨_, rfl, fun z => absurd rfl z, fun _ => ⟨_, rfl, fun z => absurd rfl z, fun _ => E0 _ (by rw [et, if_pos z]) h4 (F23.tr F4) f4⟩⟩) (fun z h4 F4 X4 N4 => ⟨_, rfl, fun _ => ?_, fun z => absurd z (by decide)⟩)
        have gt := nxP_gt (B := B) lt
        have S5 := N4 _ _ (FrI.sI (P := F13 y) h4 _ ⟨rfl, rfl⟩) (X4.pass lt px) gt
        have F25 : FrI (TsF y t) h (sI h4 y 13 (hI h4 y 13 + 1)) := (F23.tr F4).tr (FrI.sI (P := TsF y t) h4 _ (Or.inl (Or.inl ⟨rfl, by omega⟩)))
        rw [if_neg z] at et
        refine FA S5 (by omega) (fun x hx h6 F6 f6 => E0 x (by rw [et, hx]; rfl) h6 (F25.tr F6) f6) (fun r hr h6 F6 S6 => ?_)
        obtain ⟨ra, -⟩ := (tok1 (at_nx l2).1 (by omega) s60).2 r hr
        refine TE (w := false) (a := false) (l := r.2.2) (A := C) (K0 := 91 :: K) S6 (by rw [show andT false = [] from rfl, List.append_nil]) (Or.inr ⟨K, rfl, by omega⟩) (by omega) (fun x hx h7 F7 f7 => E0 x (by rw [et, hr]; simp only [sbind]; rw [hx]) h7 ((F25.tr F6).tr F7) f7) (fun r2 hr2 => ⟨fun q => (by cases q), fun K' eK => ?_⟩)
        obtain rfl : K = K' := (List.cons.inj eK).2
        refine ⟨fun c h7 F7 S7 => E1 (nxP B n r2.1, r2.2) (by rw [et, hr]; simp only [sbind]; rw [hr2]; exact if_pos c) h7 ((F25.tr F6).tr F7) S7, fun c h7 F7 f7 => E0 _ (by rw [et, hr]; simp only [sbind]; rw [hr2]; exact if_neg c) h7 ((F25.tr F6).tr F7) f7⟩
    · -- behind a fact
      obtain ⟨l1, l2, l3⟩ := S.len
      have bt : p < n → rng (B p) (-128) 127 := fun hp => S.1.1.2.1.2.2.2 _ hp
      have s60 := S.2.2.2.2.2
      have hKb : K0 = [] ∨ ∃ K, K0 = 91 :: K := hK.imp id (fun ⟨K, q, _⟩ => ⟨K, q⟩)
      have ca : ∀ {w : Bool}, C ++ andT a ++ orT w = A ++ (l ++ orT w) := fun {w} => by rw [hA, List.append_assoc]
      -- no further word
      have over : ∀ h', FrI (TsF y t) h h' → TxS G h' y B n t p m C e (andS a ++ orS w ++ K0) → ¬ (kdT B n p = 1 ∧ vlT B n p = 18) → ¬ (kdT B n p = 1 ∧ vlT B n p = 19) → (K0 = [] ∨ ¬ (kdT B n p = 3 ∧ vlT B n p = 93)) → Ex G d mX12_tested 12 [(0, .ref y), (1, .int 0)] [] h' Q := fun h' F' S' n18 n19 o => by
        have et : tsF B n (k + 1) false e p m w l = .inr (p, m, l ++ orT w) := by
          show (if kdT B n p = 1 ∧ vlT B n p = 18 then _ else _) = _
          rw [if_neg n18, if_neg n19]
        refine t_X12_tested_12 (by omega) ⟨fun _ => ⟨S'.1.1.1.1, r_isInside S' (fun q => ⟨_, rfl, fun z => absurd z (by decide), fun _ => ?_⟩) (fun q => ⟨_, rfl, fun _ => ?_, fun z => absurd rfl z⟩)⟩, fun z => absurd rfl z⟩
        · rw [seg91] at q
          rcases hKb with q2 | ⟨K, q2⟩
          · rw [q2] at q
            exact absurd q List.not_mem_nil
          · refine r_see S'.1.1 (fun h2 F2 X2 => ⟨_, rfl, ?_⟩)
            rw [X2.2.2.1]
            refine r_fails X2.1 ((F2.i (by unfold F13; omega)).trans S'.1.2.1.1) (k := 0) rfl ⟨_, rfl, Or.inl rfl, ((E1 _ et).2 K q2).2 (o.resolve_left (fun z => by rw [q2] at z; cases z)) _ ((F'.tr (F2.weak (fun a k z => f13_ts z))).tr (FrI.sI (P := TsF y t) h2 _ (Or.inl (Or.inl ⟨rfl, by omega⟩)))) (hI_eq _ _ _ _)⟩
        · rw [seg91] at q
          rcases hKb with q2 | ⟨K, q2⟩
          · refine cal_of rfl (Nat.le_of_ble_eq_true rfl) (settle1 (by omega) S' (Or.inl q2) (fun h2 F2 S2 => ⟨rfl, (E1 _ et).1 q2 h2 (F'.tr (F2.weak (fun a k z => st_ts z))) ?_⟩))
            rw [ca, q2] at S2
            exact S2
          · rw [q2] at q
            exact absurd List.mem_cons_self q
      -- one more fact, behind the sign v
      have more : ∀ h' v, FrI (TsF y t) h h' → TxS G h' y B n t p m C e (andS a ++ orS w ++ K0) → RdE G h' y B n p → kdT B n p = 1 → ((v = 12 ∧ vlT B n p = 18) ∨ (v = 13 ∧ vlT B n p = 19)) → Ex G d mX12_tested 76 [(0, .ref y), (1, .int 1)] [.int (nI v)] h' Q := fun h' v F' S' X' k1 hv => by
        have lt := kd_lt k1 (by omega)
        have gt := nxP_gt (B := B) lt
        refine t_X12_tested_76 (by omega) ⟨X'.1.1, r_passWord (by omega) X' k1 (fun h2 F2 X2 _ => ⟨rfl, ?_⟩)⟩
        have S2 := S'.f13 F2 X2 (by omega)
        have F2' := F'.tr (F2.weak (fun a k z => f13_ts (t := t) z))
        -- behind the push
        have push : ∀ (CC : List Tok) (KK : List Nat) h3, FrI (TsF y t) h2 h3 → TxS G h3 y B n t (nxP B n p) m CC e KK → CC.length + KK.length = C.length + (andS a ++ orS w ++ K0).length → (∀ h4, FrI (TsF y t) h h4 → TxS G h4 y B n t (nxP B n p) m CC e (v :: KK) → FL G d y Q h4) → ∃ q12, hR h3 y 20 = some q12 ∧ Kd G h3 q12 14 ∧ vp_in (hI h3 y 21) (hN h3 q12) ∧ ∀ h16, h16 = (sI (sI h3 q12 (hI h3 y 21).toNatClampNeg (nI v)) y 21 ((hI (sI h3 q12 (hI h3 y 21).toNatClampNeg (nI v)) y 21) + 1)) → Ex G d mX12_tested 12 [(0, .ref y), (1, .int 1)] [] h16 Q := fun CC KK h3 F3 S3 eq go => by
          obtain ⟨m1, m2, m3⟩ := S3.1.1.1.op
          have q21 := S3.2.1.2.1
          have sl := S3.len
          refine ⟨y + 10, m1, m2, by rw [q21, m3]; exact vin_nI (by omega) (by omega), fun h16 g16 => ?_⟩
          rw [q21, cl_nI (by omega), hI_ne _ _ (Or.inl (by omega)), q21, nI_S] at g16
          obtain ⟨Fp, Sp⟩ := st_push S3 (v := v) (by omega) (by omega)
          rw [← g16] at Fp Sp
          exact t_X12_tested_12 (by omega) ⟨fun z => absurd z (by decide), fun _ => ⟨Sp.1.1.1.1, e_X12_fact (go h16 ((F2'.tr F3).tr Fp) Sp)⟩⟩
        have lenA : (andT a).length = (andS a).length := by cases a <;> rfl
        have lenO : (orT w).length = (orS w).length := by cases w <;> rfl
        rcases hv with ⟨rfl, v18⟩ | ⟨rfl, v19⟩
        · have et : tsF B n (k + 1) false e p m w l = sbind (tsF B n k true e (nxP B n p) m false []) (fun r => tsF B n k false e r.1 r.2.1 w (l ++ r.2.2 ++ [(12, 0)])) := by
            show (if kdT B n p = 1 ∧ vlT B n p = 18 then _ else _) = _
            rw [if_pos (show kdT B n p = 1 ∧ vlT B n p = 18 from ⟨k1, v18⟩)]
          refine e_X12_strength ⟨fun z => ⟨fun z2 => absurd rfl z2, fun _ => ⟨_, rfl, cal_of rfl (Nat.le_of_ble_eq_true rfl) (settle2 (by omega) S2 hKb (fun h3 F3 S3 => ⟨rfl, push _ _ h3 (F3.weak (fun a k z => st_ts z)) S3 ?_ (fun h4 F4 S4 => FA S4 (by omega) (fun x hx h5 F5 f5 => E0 x (by rw [et, hx]; rfl) h5 (F4.tr F5) f5) (fun r hr h5 F5 S5 => ?_))⟩))⟩⟩, fun z => absurd z (by decide)⟩
          · simp only [List.length_append, lenA]
            omega
          · obtain ⟨ra, -⟩ := (tok1 (at_nx l2).1 (by omega) s60).2 r hr
            refine TE (w := w) (a := true) (l := l ++ r.2.2 ++ [(12, 0)]) (A := A) (K0 := K0) S5 ?_ hK (by omega) (fun x hx h6 F6 f6 => E0 x (by rw [et, hr]; exact hx) h6 ((F4.tr F5).tr F6) f6) (fun r2 hr2 => ?_)
            · rw [hA]
              simp only [List.append_assoc]
              rfl
            · obtain ⟨u1, u2⟩ := E1 r2 (by rw [et, hr]; exact hr2)
              exact ⟨fun q h6 F6 S6 => u1 q h6 ((F4.tr F5).tr F6) S6, fun K q => ⟨fun c h6 F6 S6 => (u2 K q).1 c h6 ((F4.tr F5).tr F6) S6, fun c h6 F6 f6 => (u2 K q).2 c h6 ((F4.tr F5).tr F6) f6⟩⟩
        · have n18 : ¬ (kdT B n p = 1 ∧ vlT B n p = 18) := fun q => by
            rw [v19] at q
            exact absurd q.2 (by decide)
          have et : tsF B n (k + 1) false e p m w l = sbind (tsF B n k true e (nxP B n p) m false []) (fun r => tsF B n k false e r.1 r.2.1 true (l ++ orT w ++ r.2.2)) := by
            show (if kdT B n p = 1 ∧ vlT B n p = 18 then _ else _) = _
            rw [if_neg n18, if_pos (show kdT B n p = 1 ∧ vlT B n p = 19 from ⟨k1, v19⟩)]
          refine e_X12_strength ⟨fun z => absurd rfl z, fun _ => ⟨_, rfl, cal_of rfl (Nat.le_of_ble_eq_true rfl) (settle1 (by omega) S2 hKb (fun h3 F3 S3 => ⟨rfl, push _ _ h3 (F3.weak (fun a k z => st_ts z)) S3 ?_ (fun h4 F4 S4 => FA S4 (by omega) (fun x hx h5 F5 f5 => E0 x (by rw [et, hx]; rfl) h5 (F4.tr F5) f5) (fun r hr h5 F5 S5 => ?_))⟩))⟩⟩
          · simp only [List.length_append, lenA, lenO]
            omega
          · obtain ⟨ra, -⟩ := (tok1 (at_nx l2).1 (by omega) s60).2 r hr
            refine TE (w := true) (a := false) (l := l ++ orT w ++ r.2.2) (A := A) (K0 := K0) S5 ?_ hK (by omega) (fun x hx h6 F6 f6 => E0 x (by rw [et, hr]; exact hx) h6 ((F4.tr F5).tr F6) f6) (fun r2 hr2 => ?_)
            · rw [show andT false = [] from rfl, List.append_nil, ca]
              simp only [List.append_assoc]
            · obtain ⟨u1, u2⟩ := E1 r2 (by rw [et, hr]; exact hr2)
              exact ⟨fun q h6 F6 S6 => u1 q h6 ((F4.tr F5).tr F6) S6, fun K q => ⟨fun c h6 F6 S6 => (u2 K q).1 c h6 ((F4.tr F5).tr F6) S6, fun c h6 F6 f6 => (u2 K q).2 c h6 ((F4.tr F5).tr F6) f6⟩⟩
      -- out of the brackets
      have out : ∀ h', FrI (F13 y) h h' → RdE G h' y B n p → (K0 = [] ∨ ¬ (kdT B n p = 3 ∧ vlT B n p = 93)) → tQC G d y Q none h' := fun h' F' X' o => by
        have st : ∀ h2, FrI (F13 y) h' h2 → RdE G h2 y B n p → FrI (TsF y t) h h2 ∧ TxS G h2 y B n t p m C e (andS a ++ orS w ++ K0) := fun h2 F2 X2 => ⟨(F'.tr F2).weak (fun a k z => f13_ts z), S.f13 (F'.tr F2) X2.x (Nat.le_refl _)⟩
        refine ⟨rfl, r_isWord (k := 18) (by omega) X'.x (by omega) (by decide) (fun k1 v h2 F2 X2 => ⟨_, rfl, fun _ => ?_, fun z => absurd z (by decide)⟩) (fun n18 h2 F2 X2 => ⟨_, rfl, fun z => absurd rfl z, fun _ => r_isWord (k := 19) (by omega) X2.x (by omega) (by decide) (fun k1 v h3 F3 X3 => ⟨_, rfl, fun z => absurd z (by decide), fun _ => ?_⟩) (fun n19 h3 F3 X3 => ⟨_, rfl, fun _ => ?_, fun z => absurd rfl z⟩)⟩)⟩
        · refine t_X12_tested_54 (by omega) ⟨fun z => absurd z (by decide), fun _ => ⟨X2.1.1, r_isWord (k := 18) (by omega) X2.x (by omega) (by decide) (fun k1 v h3 F3 X3 => ⟨_, rfl, fun z => absurd z (by decide), fun _ => ?_⟩) (fun n18 => absurd ⟨k1, v⟩ n18)⟩⟩
          obtain ⟨a1, a2⟩ := st h3 (F2.tr F3) X3
          exact more h3 12 a1 a2 X3 k1 (Or.inl ⟨rfl, v⟩)
        · refine t_X12_tested_54 (by omega) ⟨fun z => absurd z (by decide), fun _ => ⟨X3.1.1, r_isWord (k := 18) (by omega) X3.x (by omega) (by decide) (fun k1 v => absurd ⟨k1, v⟩ n18) (fun _ h4 F4 X4 => ⟨_, rfl, fun _ => ?_, fun z => absurd rfl z⟩)⟩⟩
          obtain ⟨a1, a2⟩ := st h4 ((F2.tr F3).tr F4) X4
          exact more h4 13 a1 a2 X4 k1 (Or.inr ⟨rfl, v⟩)
        · obtain ⟨a1, a2⟩ := st h3 (F2.tr F3) X3
          exact t_X12_tested_54 (by omega) ⟨fun _ => over h3 a1 a2 n18 n19 o, fun z => absurd rfl z⟩
      refine st_stop (by omega) S (by omega) (fun v K' ev => ?_) ⟨rfl, t_X12_closes_5 (by omega) ⟨S.1.1.1.1, r_see S.1.1 (fun h2 F2 X2 => ⟨_, rfl, fun z => ?_, fun z => ?_⟩)⟩⟩
      · have : v ∈ andS a ++ orS w ++ K0 := by rw [ev]; exact List.mem_cons_self
        cases a
        · cases w
          · rcases hKb with q | ⟨K, q⟩
            · rw [q] at ev
              cases ev
            · rw [q] at ev
              rw [← (List.cons.inj ev).1]
              decide
          · rw [← (List.cons.inj ev).1]
            decide
        · rw [← (List.cons.inj ev).1]
          decide
      · exact out h2 F2 X2 (Or.inr (fun q => z ((see_sg (c := 93) bt (by omega) (by decide) (by decide) (by decide) (by decide)).mpr q)))
      · have c93 := (see_sg (c := 93) bt (by omega) (by decide) (by decide) (by decide) (by decide)).mp z
        have S2 := S.f13 F2 X2.x (Nat.le_refl _)
        refine r_isInside S2 (fun q => ⟨_, rfl, fun z => absurd z (by decide), fun _ => ?_⟩) (fun q => ⟨_, rfl, fun _ => ?_, fun z => absurd rfl z⟩)
        · rw [seg91] at q
          rcases hK with q2 | ⟨K, q2, e1⟩
          · rw [q2] at q
            exact absurd q List.not_mem_nil
          · have et : tsF B n (k + 1) false e p m w l = .inr (p, m, l ++ orT w) := by
              show (if kdT B n p = 1 ∧ vlT B n p = 18 then _ else _) = _
              have nk : ¬ kdT B n p = 1 := by have := c93.1; omega
              rw [if_neg (fun q => nk q.1), if_neg (fun q => nk q.1)]
            obtain ⟨⟨lt, -⟩, px⟩ := nx_sg c93 (by decide) (by decide) (by decide) (by decide) (by decide) (by decide)
            have gt := nxP_gt (B := B) lt
            refine cal_of rfl (Nat.le_of_ble_eq_true rfl) (settle1 (by omega) S2 hKb (fun h3 F3 S3 => ⟨rfl, fun h15 g15 => ?_⟩))
            rw [ca, q2] at S3
            obtain ⟨s1, s2, s3⟩ := S3.2.1
            have s2' : hI h3 y 21 = nI (K.length + 1) := s2
            have pm : (nI (K.length + 1) : Int32) - 1 = nI K.length := by rw [← nI_S]; exact Int32.add_sub_cancel _ _
            have em : (nI e : Int32) - 1 = nI (e - 1) := by
              rw [show e = e - 1 + 1 by omega, ← nI_S, Int32.add_sub_cancel, show e - 1 + 1 - 1 = e - 1 by omega]
            rw [hI_ne _ _ (Or.inr (by omega)), s1, s2', pm, em] at g15
            have F15 : FrI (fun a k => a = y ∧ (k = 21 ∨ k = 18)) h3 h15 := by
              rw [g15]
              exact (FrI.sI (P := fun a k => a = y ∧ (k = 21 ∨ k = 18)) h3 _ ⟨rfl, Or.inl rfl⟩).tr (FrI.sI _ _ ⟨rfl, Or.inr rfl⟩)
            have v15 : hI h15 y 21 = nI K.length ∧ hI h15 y 18 = nI (e - 1) := by
              rw [g15]
              simp [hI_sI]
            have T15 : TxR G h15 y B n t p m (A ++ (l ++ orT w)) := by
              obtain ⟨a1, ⟨a2, a3, a4⟩, a5, a6, a7⟩ := S3.1
              exact ⟨a1.fi F15 (fun a k z => by omega), ⟨(F15.i (by omega)).trans a2, (F15.i (by omega)).trans a3, (F15.i (by omega)).trans a4⟩, (F15.i (by omega)).trans a5, a6.fr (fun j _ => F15.i (by omega)), a7⟩
            have sl : (A ++ (l ++ orT w)).length + (K.length + 1) ≤ p := S3.2.2.1
            have S15 : TxS G h15 y B n t p m (A ++ (l ++ orT w)) (e - 1) K := ⟨T15, ⟨v15.2, v15.1, s3.2.fr (fun i _ => F15.i (by omega))⟩, by omega, by have := S3.2.2.2.1; omega, fun v hv => S3.2.2.2.2.1 v (List.mem_cons_of_mem _ hv), s60⟩
            have F5 : FrI (TsF y t) h (sI h15 y 13 (hI h15 y 13 + 1)) := (((F2.weak (fun a k z => f13_ts z)).tr (F3.weak (fun a k z => st_ts z))).tr (F15.weak (fun a k z => Or.inr (Or.inl ⟨z.1, by omega⟩)))).tr (FrI.sI (P := TsF y t) h15 _ (Or.inl (Or.inl ⟨rfl, by omega⟩)))
            have X3 : RdE G h15 y B n p := (X2.fi F3 (fun a k z => by unfold StlF at z; omega)).fi F15 (fun a k z => by omega)
            have S6 : TxS G (sI h15 y 13 (hI h15 y 13 + 1)) y B n t (nxP B n p) m (A ++ (l ++ orT w)) (e - 1) K := S15.f13 (FrI.sI (P := F13 y) h15 _ ⟨rfl, rfl⟩) (X3.pass lt px) (by omega)
            exact cal_of rfl (Nat.le_of_ble_eq_true rfl) (((E1 _ et).2 K q2).1 c93 _ F5 S6)
        · rw [seg91] at q
          have k0 : K0 = [] := by
            rcases hKb with q2 | ⟨K, q2⟩
            · exact q2
            · rw [q2] at q
              exact absurd List.mem_cons_self q
          exact out h2 F2 X2 (Or.inl k0)
theorem r_tested {h : HP} {k p m : Nat} {C : List Tok} (hd : 12 ≤ d) (hf : n < p + k) (hm : m ≤ 60) (hb : C.length ≤ p) (T : TxR G h y B n t p m C) (h0 : ∀ x, tsR B n k p m = .inl x → ∀ h2, FrI (TsF y t) h h2 → hI h2 y 14 = nI x → Q (some (.int 0)) h2) (h1 : ∀ r, tsR B n k p m = .inr r → ∀ h2, FrI (TsF y t) h h2 → TxR G h2 y B n t r.1 r.2.1 (C ++ r.2.2) → Q (some (.int 1)) h2) : Cal G d mX12_tested [.ref y] h Q := by
  have F : FrI (fun a k => a = y ∧ (k = 21 ∨ k = 18)) h (sI (sI h y 21 0) y 18 0) := (FrI.sI (P := fun a k => a = y ∧ (k = 21 ∨ k = 18)) h _ ⟨rfl, Or.inl rfl⟩).tr (FrI.sI _ _ ⟨rfl, Or.inr rfl⟩)
  have F' : FrI (TsF y t) h (sI (sI h y 21 0) y 18 0) := F.weak (fun a k z => by unfold TsF; omega)
  have S : TxS G (sI (sI h y 21 0) y 18 0) y B n t p m C 0 [] := by
    obtain ⟨a1, ⟨a2, a3, a4⟩, a5, a6, a7⟩ := T
    refine ⟨⟨a1.fi F (fun a k z => by omega), ⟨(F.i (by omega)).trans a2, (F.i (by omega)).trans a3, (F.i (by omega)).trans a4⟩, (F.i (by omega)).trans a5, a6.fr (fun j _ => F.i (by omega)), a7⟩, ⟨hI_eq _ _ _ _, ?_, trivial⟩, by show C.length + 0 ≤ p; omega, by omega, fun v hv => absurd hv List.not_mem_nil, hm⟩
    rw [hI_ne _ _ (Or.inr (by omega)), hI_eq]
    rfl
  have pn := T.1.at.1
  obtain ⟨FA, TE⟩ := fact_test (G := G) (d := d) (y := y) (B := B) (n := n) (t := t) (Q := Q) hd k
  refine e_X12_tested ⟨T.1.1.1, t_X12_tested_12 (by omega) ⟨fun z => absurd z (by decide), fun _ => ⟨S.1.1.1.1, e_X12_fact (FA S hf (fun x hx h2 F2 f2 => h0 x (by unfold tsR; rw [hx]; rfl) h2 (F'.tr F2) f2) (fun r hr h2 F2 S2 => ?_))⟩⟩⟩
  obtain ⟨ra, rm, -⟩ := (tsF_ok.1 pn hf hm : OkR B n p m TestQ (tsF B n k true 0 p m false [])).2 r hr
  refine TE (w := false) (a := false) (l := r.2.2) (A := C) (K0 := []) S2 (by rw [show andT false = [] from rfl, List.append_nil]) (Or.inl rfl) (by omega) (fun x hx h3 F3 f3 => h0 x (by unfold tsR; rw [hr]; exact hx) h3 ((F'.tr F2).tr F3) f3) (fun r2 hr2 => ⟨fun _ h3 F3 S3 => h1 r2 (by unfold tsR; rw [hr]; exact hr2) h3 ((F'.tr F2).tr F3) S3.1, fun K q => (by cases q)⟩)
end TY
