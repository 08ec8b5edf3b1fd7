/-! ===== a text is read by the class: facts and tests ===== -/
section TE
variable {G : GG} {d : Nat} {b : Nat} {B : Nat → Int32} {n : Nat} {Q : Option Value → HP → Prop}
theorem RD.bz {C : List Int32} {R : Rs} {h : HP} (W : RD G b B n C R h Q) : RD G b B n C R h (fun r h2 => ∃ v, r = some (.int v) ∧ ((v = 0 ∨ v = 1) ∧ Q (some (.int v)) h2)) := ⟨fun e he h2 F2 f2 k2 => ⟨_, rfl, Or.inl rfl, W.1 e he h2 F2 f2 k2⟩, fun r hr h2 F2 t2 T2 => ⟨_, rfl, Or.inr rfl, W.2 r hr h2 F2 t2 T2⟩⟩
theorem s_comp {h : HP} {v : Int32} (hA : cmO v ≠ 0 → Q (some (.int (encC (cmO v, 0)))) h) (h0 : cmO v = 0 → Q (some (.int (-1))) h) : Cal G d mX4_comparisonOf [.int v] h Q := by
  refine e_X4_comparisonOf ⟨fun z => ?_, fun z1 => ⟨fun z => ?_, fun z2 => ⟨fun z => ?_, fun z3 => ⟨fun z => ?_, fun z4 => ⟨fun z => ?_, fun z5 => h0 ?_⟩⟩⟩⟩⟩
  · rw [z] at hA
    exact hA (by decide)
  · rw [z] at hA
    exact hA (by decide)
  · rw [z] at hA
    exact hA (by decide)
  · rw [z] at hA
    exact hA (by decide)
  · rw [z] at hA
    exact hA (by decide)
  · unfold cmO
    rw [if_neg z1, if_neg z4, if_neg z2, if_neg z5, if_neg z3]
/-- a comparison -/
theorem c_cmp {h : HP} {k p m : Nat} {C : List Int32} {x1 : Int32} (hd : 7 ≤ d) (hf : n < p + k) (hm : m ≤ 60) (hc : C.length ≤ p + 23) (n14 : ¬ (kdT B n p = 1 ∧ vlT B n p = 14)) (n91 : ¬ (kdT B n p = 3 ∧ vlT B n p = 91)) (T : TxC G h b B n p m C) (R : RD G b B n C (cmR B n k p m) h Q) : Cal G d mX5_readFact [.ref (b + 7), .int x1] h Q := by
  have pn := T.1.pn.1
  have n400 := T.1.2.1.2.1
  refine e_X5_readFact (by omega) ⟨T.2.1.1, b + 1, T.2.1.2.1, T.1.f.1, s_isWord (k := 14) T.1 rfl (fun q1 q2 => absurd ⟨q1, q2⟩ n14) (fun _ => ⟨_, rfl, fun z => absurd rfl z, fun _ => ⟨b + 1, T.2.1.2.1, T.1.f.1, s_isSign T.1 (fun q1 q2 => absurd ⟨q1, q2⟩ n91) (fun _ => ⟨_, rfl, fun _ => ?_, fun z => absurd rfl z⟩)⟩⟩)⟩
  refine c_sum (k := k) (by omega) hf hm hc T ⟨fun e he h2 F2 f2 L2 => ⟨_, rfl, fun z => absurd rfl z, fun _ => R.1 e (by unfold cmR; rw [he]; rfl) h2 F2 f2 L2⟩, fun a ha h2 F2 t2 T2 => ⟨_, rfl, fun _ => ⟨b + 1, T2.2.1.2.1, T2.1.f.1, ?_⟩, fun z => absurd z (by decide)⟩⟩
  obtain ⟨aa, am, -⟩ := (suR_ok (B := B) (n := n) pn hf hm).2 a ha
  have an := aa.1.1
  have l2 : (C ++ a.2.2.map encC).length ≤ a.1 + 23 := by
    rw [List.length_append, List.length_map]
    omega
  obtain ⟨f1, f2, f3, f4⟩ := T2.1.f
  have kl := kdT_le B n a.1
  have L2 : LnK h2 b := T2.ln (by omega)
  have bad : ∀ (k' : Nat) (x : Int32), x = nI k' → cmR B n k p m = .inl (1 + 8 * a.1 + k') → Cal G (d - 1) mX8_fail [.ref (b + 1), .int x] h2 (fun r6 h7 => ∃ v10, r6 = some (.int v10) ∧ ((v10 = 0 ∨ v10 = 1) ∧ Q (some (.int v10)) h7)) := fun k' x hx e => s_fail T2.1 hx ⟨_, rfl, Or.inl rfl, R.1 _ e _ (F2.tr (FrI.sI (P := CxF b) h2 _ (Or.inl ⟨rfl, by omega⟩))) (hI_eq _ _ _ _) (by obtain ⟨L, hL, e⟩ := L2; exact ⟨L, hL, by rw [hI_ne _ _ (Or.inl (by omega))]; exact e⟩)⟩
  have no : ¬ (kdT B n a.1 = 3 ∧ cmO (vlT B n a.1) ≠ 0) → Ex G d mX5_readFact 64 [(0, .ref (b + 7)), (1, .int x1)] [.int (-1)] h2 Q := fun q => by
    refine t_X5_readFact_64 (by omega) ⟨fun z => absurd rfl z, fun _ => ⟨T2.2.1.1, b + 1, T2.2.1.2.1, f1, bad 0 0 rfl ?_⟩⟩
    unfold cmR
    rw [ha]
    exact if_neg q
  refine ⟨fun z => no (fun q => z (by rw [f2, q.1]; rfl)), fun z => ?_⟩
  have k3 : kdT B n a.1 = 3 := by
    rw [f2] at z
    exact (nI_eq_iff (b := 3) (by omega) (by omega)).mp z
  rw [f4]
  refine s_comp (fun cm => ⟨_, rfl, ?_⟩) (fun c0 => ⟨_, rfl, no (fun q => q.2 c0)⟩)
  have lt := kd_lt k3 (by omega)
  have gt := nxP_gt (B := B) lt
  have ne : ¬ encC (cmO (vlT B n a.1), 0) = -1 := by
    have := (cmO_r (vlT B n a.1)).resolve_left cm
    rcases (by omega : cmO (vlT B n a.1) = 6 ∨ cmO (vlT B n a.1) = 7 ∨ cmO (vlT B n a.1) = 8 ∨ cmO (vlT B n a.1) = 9 ∨ cmO (vlT B n a.1) = 10) with e | e | e | e | e <;> rw [e] <;> decide
  have eR : cmR B n k p m = if 60 ≤ a.2.1 then .inl (1 + 8 * a.1 + 3) else sbind (suR B n k (nxP B n a.1) (a.2.1 + 1)) (fun b => .inr (b.1, b.2.1, a.2.2 ++ b.2.2 ++ [(cmO (vlT B n a.1), 0)])) := by
    unfold cmR
    rw [ha]
    exact if_pos ⟨k3, cm⟩
  refine t_X5_readFact_64 (by omega) ⟨fun _ => ⟨T2.2.1.1, ?_⟩, fun z => absurd z ne⟩
  rw [T2.2.2.1.2, show (60 : Int32) = nI 60 from rfl, nI_lt_iff (by omega) (by omega), nI_S]
  refine ⟨fun z6 => ?_, fun z6 => ⟨b + 1, T2.2.1.2.1, f1, bad 3 3 rfl (by rw [eR, if_pos (by omega)])⟩⟩
  rw [if_neg (by omega)] at eR
  have F3 : FrI (fun a k => a = b + 7 ∧ k = 7) h2 (sI h2 (b + 7) 7 (nI (a.2.1 + 1))) := FrI.sI h2 _ ⟨rfl, rfl⟩
  have T3 : TxC G (sI h2 (b + 7) 7 (nI (a.2.1 + 1))) b B n a.1 (a.2.1 + 1) (C ++ a.2.2.map encC) := by
    obtain ⟨S, ⟨a1, a2, a3, a4, a5⟩, ⟨a6, a7⟩, a8⟩ := T2
    exact ⟨S.fi F3 (fun a k z => by omega), ⟨F3.kd a1, (F3.r _ _).trans a2, (F3.r _ _).trans a3, F3.kd a4, (F3.n a4).trans a5⟩, ⟨(F3.i (by omega)).trans a6, hI_eq _ _ _ _⟩, fun j v hv => (F3.i (by omega)).trans (a8 j v hv)⟩
  refine ⟨b + 1, T3.2.1.2.1, T3.1.f.1, s_next T3.1 (fun h4 F4 S4 => ⟨rfl, ?_⟩)⟩
  have T4 := T3.nx F4 S4
  have F24 : FrI (CxF b) h h4 := (F2.tr (F3.weak (fun a k z => by unfold CxF; omega))).tr (F4.weak (fun a k z => nx_cx z))
  have t4 : hI h4 (b + 1) 1 = hI h (b + 1) 1 := (F4.i (by unfold NxF; omega)).trans ((F3.i (by omega)).trans t2)
  refine c_sum (k := k) (by omega) (by omega) (by omega) (by omega) T4 ⟨fun e he h5 F5 f5 L5 => ⟨_, rfl, ?_⟩, fun r hr h5 F5 t5 T5 => ⟨_, rfl, ?_⟩⟩
  · obtain ⟨b1, b2, b3, b4⟩ := T4.kp F5
    exact c_putb b1 b2 b3 b4 L5 (fun h6 F6 t6 L6 => ⟨rfl, Or.inl rfl, R.1 e (by rw [eR, he]; rfl) h6 ((F24.tr F5).tr F6) (t6.trans f5) L6⟩)
  · obtain ⟨ra, rm, -⟩ := (suR_ok (B := B) (n := n) (at_nx an).1 (by omega) (by omega)).2 r hr
    have rn := ra.1.1
    have l5 : (C ++ a.2.2.map encC ++ r.2.2.map encC).length + 1 ≤ r.1 + 23 := by
      rw [List.length_append, List.length_map]
      omega
    refine c_put T5 (by omega) (fun h6 F6 t6 T6 => ⟨rfl, Or.inr rfl, R.2 (r.1, r.2.1, a.2.2 ++ r.2.2 ++ [(cmO (vlT B n a.1), 0)]) (by rw [eR, hr]; rfl) h6 ((F24.tr F5).tr F6) (t6.trans (t5.trans t4)) ?_⟩)
    have e : C ++ a.2.2.map encC ++ r.2.2.map encC ++ [encC (cmO (vlT B n a.1), 0)] = C ++ (a.2.2 ++ r.2.2 ++ [(cmO (vlT B n a.1), 0)]).map encC := by
      simp only [List.map_append, List.append_assoc, List.map_cons, List.map_nil]
    rw [e] at T6
    exact T6
end TE
