/-! ===== a text is read by the class: values and sums ===== -/
def TxC (G : GG) (h : HP) (b : Nat) (B : Nat → Int32) (n p m : Nat) (C : List Int32) : Prop := TpS G h (b + 1) B n p ∧ (Kd G h (b + 7) 5 ∧ hR h (b + 7) 4 = some (b + 1) ∧ hR h (b + 7) 0 = some (b + 8) ∧ Kd G h (b + 8) 14 ∧ hN h (b + 8) = 424) ∧ (hI h (b + 7) 5 = nI C.length ∧ hI h (b + 7) 7 = nI m) ∧ ∀ j v, C[j]? = some v → hI h (b + 8) j = v
def CxF (b a k : Nat) : Prop := (a = b + 1 ∧ 1 ≤ k) ∨ (a = b + 7 ∧ (k = 5 ∨ k = 7)) ∨ a = b + 8
def LnK (h : HP) (b : Nat) : Prop := ∃ L, L ≤ 424 ∧ hI h (b + 7) 5 = nI L
def RD (G : GG) (b : Nat) (B : Nat → Int32) (n : Nat) (C : List Int32) (R : Rs) (h : HP) (Q : Option Value → HP → Prop) : Prop := (∀ e, R = .inl e → ∀ h2, FrI (CxF b) h h2 → hI h2 (b + 1) 1 = nI e → LnK h2 b → Q (some (.int 0)) h2) ∧ ∀ r, R = .inr r → ∀ h2, FrI (CxF b) h h2 → hI h2 (b + 1) 1 = hI h (b + 1) 1 → TxC G h2 b B n r.1 r.2.1 (C ++ r.2.2.map encC) → Q (some (.int 1)) h2
theorem encC0 (v : Int32) : encC (0, v) = v := rfl
theorem encC1 (v : Int32) : encC (1, v) = -20 - v := rfl
section TC
variable {G : GG} {d : Nat} {b : Nat} {B : Nat → Int32} {n : Nat} {Q : Option Value → HP → Prop}
theorem nx_cx {a k : Nat} (z : NxF (b + 1) a k) : CxF b a k := by unfold NxF at z; unfold CxF; omega
theorem fa_cx {a k : Nat} (z : Fa1 (b + 1) a k) : CxF b a k := by unfold Fa1 at z; unfold CxF; omega
theorem RD.w {C : List Int32} {R : Rs} {h h1 : HP} (W : RD G b B n C R h Q) (F : FrI (CxF b) h h1) (t1 : hI h1 (b + 1) 1 = hI h (b + 1) 1) : RD G b B n C R h1 Q := ⟨fun e he h2 F2 f2 k2 => W.1 e he h2 (F.tr F2) f2 k2, fun r hr h2 F2 t2 T2 => W.2 r hr h2 (F.tr F2) (t2.trans t1) T2⟩
theorem TxC.nx {h h2 : HP} {p m q : Nat} {C : List Int32} (T : TxC G h b B n p m C) (F : FrI (NxF (b + 1)) h h2) (S : TpS G h2 (b + 1) B n q) : TxC G h2 b B n q m C := by
  obtain ⟨-, ⟨a1, a2, a3, a4, a5⟩, ⟨a6, a7⟩, a8⟩ := T
  have ei : ∀ a k, a ≠ b + 1 → hI h2 a k = hI h a k := fun a k ha => F.i (fun z => by unfold NxF at z; omega)
  exact ⟨S, ⟨F.kd a1, (F.r _ _).trans a2, (F.r _ _).trans a3, F.kd a4, (F.n a4).trans a5⟩, ⟨(ei _ _ (by omega)).trans a6, (ei _ _ (by omega)).trans a7⟩, fun j v hv => (ei _ _ (by omega)).trans (a8 j v hv)⟩
theorem TxC.ln {h : HP} {p m : Nat} {C : List Int32} (T : TxC G h b B n p m C) (hc : C.length ≤ 424) : LnK h b := ⟨C.length, hc, T.2.2.1.1⟩
theorem c_put {h : HP} {p m : Nat} {C : List Int32} {x : Int32} (T : TxC G h b B n p m C) (hc : C.length < 424) (hQ : ∀ h2, FrI (CxF b) h h2 → hI h2 (b + 1) 1 = hI h (b + 1) 1 → TxC G h2 b B n p m (C ++ [x]) → Q none h2) : Cal G d mX5_put [.ref (b + 7), .int x] h Q := by
  obtain ⟨S, ⟨a1, a2, a3, a4, a5⟩, ⟨a6, a7⟩, a8⟩ := T
  refine e_X5_put ⟨a1, b + 8, a3, a4, ?_⟩
  rw [a5, a6, show Int32.ofNat 424 = nI 424 from rfl, nI_le_iff (by omega) (by omega), cl_nI (by omega)]
  refine ⟨fun z => by omega, fun _ => ⟨vin_nI (by omega) (by omega), fun h7 g7 => ?_⟩⟩
  rw [hI_ne _ _ (Or.inl (by omega)), a6, nI_S] at g7
  have F : FrI (fun a k => a = b + 8 ∨ (a = b + 7 ∧ k = 5)) h h7 := by
    rw [g7]
    exact (FrI.sI (P := fun a k => a = b + 8 ∨ (a = b + 7 ∧ k = 5)) h _ (Or.inl rfl)).tr (FrI.sI _ _ (Or.inr ⟨rfl, rfl⟩))
  refine hQ h7 (F.weak (fun a k z => by unfold CxF; omega)) (F.i (by omega)) ⟨S.fi F (fun a k z => by omega), ⟨F.kd a1, (F.r _ _).trans a2, (F.r _ _).trans a3, F.kd a4, (F.n a4).trans a5⟩, ⟨?_, (F.i (by omega)).trans a7⟩, fun j v hv => ?_⟩
  · rw [g7, hI_eq, List.length_append]
    rfl
  · rw [g7, hI_ne _ _ (Or.inl (by omega))]
    rw [List.getElem?_append] at hv
    by_cases hj : j < C.length
    · rw [if_pos hj] at hv
      rw [hI_ne _ _ (Or.inr (by omega))]
      exact a8 j v hv
    · rw [if_neg hj, List.getElem?_singleton] at hv
      split at hv
      · rw [show j = C.length by omega, hI_eq]
        exact Option.some.inj hv
      · cases hv
theorem c_putb {h : HP} {x : Int32} (a1 : Kd G h (b + 7) 5) (a3 : hR h (b + 7) 0 = some (b + 8)) (a4 : Kd G h (b + 8) 14) (a5 : hN h (b + 8) = 424) (L : LnK h b) (hQ : ∀ h2, FrI (CxF b) h h2 → hI h2 (b + 1) 1 = hI h (b + 1) 1 → LnK h2 b → Q none h2) : Cal G d mX5_put [.ref (b + 7), .int x] h Q := by
  obtain ⟨L, hL, e⟩ := L
  refine e_X5_put ⟨a1, b + 8, a3, a4, ?_⟩
  rw [a5, e, show Int32.ofNat 424 = nI 424 from rfl, nI_le_iff (by omega) (by omega), cl_nI (by omega)]
  refine ⟨fun z => hQ h (FrI.rf _ h) rfl ⟨L, hL, e⟩, fun z => ⟨vin_nI (by omega) (by omega), fun h7 g7 => ?_⟩⟩
  rw [hI_ne _ _ (Or.inl (by omega)), e, nI_S] at g7
  have F : FrI (fun a k => a = b + 8 ∨ (a = b + 7 ∧ k = 5)) h h7 := by
    rw [g7]
    exact (FrI.sI (P := fun a k => a = b + 8 ∨ (a = b + 7 ∧ k = 5)) h _ (Or.inl rfl)).tr (FrI.sI _ _ (Or.inr ⟨rfl, rfl⟩))
  exact hQ h7 (F.weak (fun a k z => by unfold CxF; omega)) (F.i (by omega)) ⟨L + 1, by omega, by rw [g7, hI_eq]⟩
theorem c_value {h : HP} {p m : Nat} {C : List Int32} (hd : 2 ≤ d) (hm : m ≤ 60) (hc : C.length ≤ p + 23) (T : TxC G h b B n p m C) (R : RD G b B n C (valR B n p m) h Q) : Cal G d mX5_readValue [.ref (b + 7)] h Q := by
  have T' := T
  obtain ⟨S, ⟨a1, a2, a3, a4, a5⟩, ⟨a6, a7⟩, a8⟩ := T
  obtain ⟨f1, f2, f3, f4⟩ := S.f
  have kl := kdT_le B n p
  have pn := S.pn.1
  have n400 := S.2.1.2.1
  have ln : LnK h b := T'.ln (by omega)
  have bad : ∀ (k : Nat) (x : Int32), x = nI k → valR B n p m = .inl (1 + 8 * p + k) → Cal G (d - 1) mX8_fail [.ref (b + 1), .int x] h (fun r6 h7 => ∃ v10, r6 = some (.int v10) ∧ ((v10 = 0 ∨ v10 = 1) ∧ Q (some (.int v10)) h7)) := fun k x hx e => s_fail S hx ⟨_, rfl, Or.inl rfl, R.1 _ e _ (FrI.sI (P := CxF b) h _ (Or.inl ⟨rfl, by omega⟩)) (hI_eq _ _ _ _) (by obtain ⟨L, hL, e⟩ := ln; exact ⟨L, hL, by rw [hI_ne _ _ (Or.inl (by omega))]; exact e⟩)⟩
  have go : ∀ (x1 x2 : Int32) (q : Tok), p < n → (valR B n p m = if 60 ≤ m then .inl (1 + 8 * p + 3) else .inr (nxP B n p, m + 1, [q])) → ((x1 = 0 → encC q = -20 - vlT B n p) ∧ (¬ x1 = 0 → encC q = vlT B n p)) → Ex G d mX5_readValue 97 [(0, .ref (b + 7)), (1, .int x1), (2, .int x2)] [] h Q := fun x1 x2 q lt ev cq => by
    refine t_X5_readValue_97 (by omega) ⟨a1, ?_⟩
    rw [a7, show (60 : Int32) = nI 60 from rfl, nI_lt_iff (by omega) (by omega), nI_S]
    refine ⟨fun z => ?_, fun z => ⟨b + 1, a2, f1, bad 3 3 rfl (by rw [ev, if_pos (by omega)])⟩⟩
    have F1 : FrI (fun a k => a = b + 7 ∧ k = 7) h (sI h (b + 7) 7 (nI (m + 1))) := FrI.sI h _ ⟨rfl, rfl⟩
    have T1 : TxC G (sI h (b + 7) 7 (nI (m + 1))) b B n p (m + 1) C := ⟨S.fi F1 (fun a k z => by omega), ⟨F1.kd a1, (F1.r _ _).trans a2, (F1.r _ _).trans a3, F1.kd a4, (F1.n a4).trans a5⟩, ⟨(F1.i (by omega)).trans a6, hI_eq _ _ _ _⟩, fun j v hv => (F1.i (by omega)).trans (a8 j v hv)⟩
    have e4 : hI (sI h (b + 7) 7 (nI (m + 1))) (b + 1) 4 = vlT B n p := by
      rw [hI_ne _ _ (Or.inl (by omega))]
      exact f4
    have fin : ∀ x : Int32, encC q = x → Cal G (d - 1) mX5_put [.ref (b + 7), .int x] (sI h (b + 7) 7 (nI (m + 1))) (fun r7 h8 => r7 = none ∧ ∃ q10, hR h8 (b + 7) 4 = some q10 ∧ Kd G h8 q10 8 ∧ Cal G (d - 1) mX8_next [.ref q10] h8 (fun r12 h13 => r12 = none ∧ Q (some (.int 1)) h13)) := fun x hx => by
      refine c_put T1 (by omega) (fun h2 F2 t2 T2 => ⟨rfl, b + 1, T2.2.1.2.1, T2.1.f.1, s_next T2.1 (fun h3 F3 S3 => ⟨rfl, R.2 _ (by rw [ev, if_neg (by omega)]) h3 (((F1.weak (fun a k z => by unfold CxF; omega)).tr F2).tr (F3.weak (fun a k z => nx_cx z))) ?_ ?_⟩)⟩)
      · rw [F3.i (by unfold NxF; omega), t2, hI_ne _ _ (Or.inl (by omega))]
      · have := T2.nx F3 S3
        rw [← hx] at this
        exact this
    refine ⟨fun z1 => ⟨b + 1, (F1.r _ _).trans a2, F1.kd f1, ?_⟩, fun z1 => ⟨b + 1, (F1.r _ _).trans a2, F1.kd f1, ?_⟩⟩
    · rw [e4]
      exact fin _ (cq.1 z1)
    · rw [e4]
      exact fin _ (cq.2 z1)
  have e2 : ∀ c : Nat, c < 10 → (hI h (b + 1) 2 = nI c ↔ kdT B n p = c) := fun c hc => by rw [f2]; exact nI_eq_iff (by omega) (by omega)
  refine e_X5_readValue ⟨a1, b + 1, a2, f1, fun z => ?_, fun z => ?_⟩
  · have k2 : ¬ kdT B n p = 2 := fun q => z ((e2 2 (by omega)).mpr q)
    have no : ¬ (kdT B n p = 1 ∧ 0 ≤ (vlT B n p).toInt ∧ (vlT B n p).toInt < 12) → Ex G d mX5_readValue 55 [(0, .ref (b + 7)), (1, .int 0)] [.int 0] h Q := fun q => t_X5_readValue_55 (by omega) ⟨fun z => absurd rfl z, fun _ => ⟨fun z => absurd rfl z, fun _ => ⟨a1, b + 1, a2, f1, bad 0 0 rfl (by unfold valR; rw [if_neg k2, if_neg q])⟩⟩⟩
    refine t_X5_readValue_16 ⟨a1, b + 1, a2, f1, fun z1 => no (fun q => z1 ((e2 1 (by omega)).mpr q.1)), fun z1 => ?_⟩
    have k1 := (e2 1 (by omega)).mp z1
    rw [f4]
    refine ⟨fun z2 => no (fun q => ?_), fun z2 => ⟨fun z3 => no (fun q => ?_), fun z3 => ?_⟩⟩
    · rw [ti_lt] at z2
      have : (0 : Int32).toInt = 0 := rfl
      omega
    · rw [ti_le] at z3
      have : (12 : Int32).toInt = 12 := rfl
      omega
    · have q : kdT B n p = 1 ∧ 0 ≤ (vlT B n p).toInt ∧ (vlT B n p).toInt < 12 := by
        rw [ti_lt] at z2
        rw [ti_le] at z3
        have : (0 : Int32).toInt = 0 := rfl
        have : (12 : Int32).toInt = 12 := rfl
        omega
      refine t_X5_readValue_55 (by omega) ⟨fun z => absurd rfl z, fun _ => ⟨fun _ => t_X5_readValue_73 (by omega) ⟨fun _ => go 0 1 (1, vlT B n p) (kd_lt k1 (by omega)) (by unfold valR; rw [if_neg k2, if_pos q]) ⟨fun _ => encC1 _, fun z => absurd rfl z⟩, fun z => absurd rfl z⟩, fun z => absurd z (by decide)⟩⟩
  · have k2 := (e2 2 (by omega)).mp z
    have lt := kd_lt k2 (by omega)
    have n1 : ¬ hI h (b + 1) 2 = 1 := fun q => by
      have := (e2 1 (by omega)).mp q
      omega
    refine t_X5_readValue_16 ⟨a1, b + 1, a2, f1, fun _ => t_X5_readValue_55 (by omega) ⟨fun _ => t_X5_readValue_73 (by omega) ⟨fun z => absurd z (by decide), fun _ => ⟨a1, b + 1, a2, f1, ?_⟩⟩, fun z => absurd z (by decide)⟩, fun z => absurd z n1⟩
    rw [f4]
    refine ⟨fun z1 => go 1 0 (0, vlT B n p) lt (by unfold valR; rw [if_pos k2, if_neg z1]) ⟨fun z => absurd z (by decide), fun _ => encC0 _⟩, fun z1 => bad 1 1 rfl (by unfold valR; rw [if_pos k2, if_pos z1])⟩
end TC
