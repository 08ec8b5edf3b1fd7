/-! ===== a text is read by the class: sums ===== -/
def wT (o : Nat) : List Tok := if o = 0 then [] else [(o, 0)]
def wX (o : Nat) : Int32 := if o = 0 then -1 else encC (o, 0)
section TD
variable {G : GG} {d : Nat} {b : Nat} {B : Nat → Int32} {n : Nat} {Q : Option Value → HP → Prop}
theorem s_arith {h : HP} {v : Int32} (hM : opM v ≠ 0 → Q (some (.int (encC (opM v, 0)))) h) (hA : opA v ≠ 0 → Q (some (.int (encC (opA v, 0)))) h) (h0 : opM v = 0 → opA v = 0 → Q (some (.int (-1))) h) : Cal G d mX4_arithmeticOf [.int v] h Q := by
  refine e_X4_arithmeticOf ⟨fun z => ?_, fun z42 => ⟨fun z => ?_, fun z43 => ⟨fun z => ?_, fun z44 => ⟨fun z => ?_, fun z45 => ⟨fun z => ?_, fun z46 => ⟨fun z => ?_, fun z47 => ?_⟩⟩⟩⟩⟩⟩
  · rw [z] at hM
    exact hM (by decide)
  · rw [z] at hA
    exact hA (by decide)
  · rw [z] at h0
    exact h0 (by decide) (by decide)
  · rw [z] at hA
    exact hA (by decide)
  · rw [z] at h0
    exact h0 (by decide) (by decide)
  · rw [z] at hM
    exact hM (by decide)
  · refine h0 ?_ ?_
    · unfold opM
      rw [if_neg z42, if_neg z47]
    · unfold opA
      rw [if_neg z43, if_neg z45]
theorem TxC.kp {h h2 : HP} {p m : Nat} {C : List Int32} (T : TxC G h b B n p m C) (F : FrI (CxF b) h h2) : Kd G h2 (b + 7) 5 ∧ hR h2 (b + 7) 0 = some (b + 8) ∧ Kd G h2 (b + 8) 14 ∧ hN h2 (b + 8) = 424 := ⟨F.kd T.2.1.1, (F.r _ _).trans T.2.1.2.2.1, F.kd T.2.1.2.2.2.1, (F.n T.2.1.2.2.2.1).trans T.2.1.2.2.2.2⟩
/-- a fault: what waits is put, and 0 answered -/
theorem c_sumx {h : HP} {x2 x3 : Int32} (hd : 1 ≤ d) (a1 : Kd G h (b + 7) 5) (a3 : hR h (b + 7) 0 = some (b + 8)) (a4 : Kd G h (b + 8) 14) (a5 : hN h (b + 8) = 424) (L : LnK h b) (hQ : ∀ h2, FrI (CxF b) h h2 → hI h2 (b + 1) 1 = hI h (b + 1) 1 → LnK h2 b → Q (some (.int 0)) h2) : Ex G d mX5_readSum 9 [(0, .ref (b + 7)), (1, .int 0), (2, .int x2), (3, .int x3)] [] h Q := by
  have e1 := hQ h (FrI.rf _ h) rfl L
  exact t_X5_readSum_9 hd ⟨fun _ => ⟨fun _ => ⟨Or.inl rfl, e1⟩, fun _ => ⟨a1, c_putb a1 a3 a4 a5 L (fun h2 F2 t2 L2 => ⟨rfl, Or.inl rfl, hQ h2 F2 t2 L2⟩)⟩⟩, fun _ => ⟨fun _ => ⟨fun _ => ⟨Or.inl rfl, e1⟩, fun _ => ⟨a1, c_putb a1 a3 a4 a5 L (fun h2 F2 t2 L2 => ⟨rfl, Or.inl rfl, hQ h2 F2 t2 L2⟩)⟩⟩, fun z => absurd rfl z⟩⟩
theorem wX_m1 {o : Nat} (ho : o = 0 ∨ o = 2 ∨ o = 3) : wX o = -1 ↔ o = 0 := by
  rcases ho with rfl | rfl | rfl <;> decide
theorem c_sum9 {C : List Int32} (hd : 4 ≤ d) : ∀ (M : Nat) {i j k p m o : Nat} {S0 T : List Tok} {h : HP}, n - p < M → i ≤ p → n < p + j → n < p + k → m ≤ 60 → (o = 0 ∨ o = 2 ∨ o = 3) → (C ++ (S0 ++ T).map encC).length + (wT o).length ≤ p + 23 → TxC G h b B n p m (C ++ (S0 ++ T).map encC) → RD G b B n C (sbind (terL B n j p m T) (fun r => suL B n k r.1 r.2.1 (S0 ++ r.2.2 ++ wT o))) h Q → Ex G d mX5_readSum 9 [(0, .ref (b + 7)), (1, .int 1), (2, .int (wX o)), (3, .int (nI i))] [] h Q := by
  intro M
  induction M with
  | zero =>
    intro i j k p m o S0 T h hM
    omega
  | succ M ih =>
    intro i j k p m o S0 T h hM hi hj hk hm ho hc TT R
    have TT' := TT
    obtain ⟨S, ⟨a1, a2, a3, a4, a5⟩, -⟩ := TT'
    have pn := S.pn.1
    have n400 := S.2.1.2.1
    obtain ⟨f1, f2, f3, f4⟩ := S.f
    have kl := kdT_le B n p
    obtain ⟨j, rfl⟩ : ∃ j', j = j' + 1 := ⟨j - 1, by omega⟩
    obtain ⟨k, rfl⟩ : ∃ k', k = k' + 1 := ⟨k - 1, by omega⟩
    have exitR : ¬ (kdT B n p = 3 ∧ opM (vlT B n p) ≠ 0) → ¬ (kdT B n p = 3 ∧ opA (vlT B n p) ≠ 0) → sbind (terL B n (j + 1) p m T) (fun r => suL B n (k + 1) r.1 r.2.1 (S0 ++ r.2.2 ++ wT o)) = .inr (p, m, S0 ++ T ++ wT o) := fun n1 n2 => by
      rw [show terL B n (j + 1) p m T = .inr (p, m, T) from if_neg n1]
      exact if_neg n2
    have exitN : ¬ (kdT B n p = 3 ∧ opM (vlT B n p) ≠ 0) → ¬ (kdT B n p = 3 ∧ opA (vlT B n p) ≠ 0) → wX o = -1 → (((1 : Int32) = 0 ∨ (1 : Int32) = 1) ∧ Q (some (.int 1)) h) := fun n1 n2 z => by
      obtain rfl := (wX_m1 ho).mp z
      refine ⟨Or.inr rfl, R.2 _ (exitR n1 n2) h (FrI.rf _ h) rfl ?_⟩
      show TxC G h b B n p m (C ++ (S0 ++ T ++ []).map encC)
      rw [List.append_nil]
      exact TT
    have exitP : ¬ (kdT B n p = 3 ∧ opM (vlT B n p) ≠ 0) → ¬ (kdT B n p = 3 ∧ opA (vlT B n p) ≠ 0) → ¬ wX o = -1 → Cal G (d - 1) mX5_put [.ref (b + 7), .int (wX o)] h (fun r3 h4 => r3 = none ∧ (((1 : Int32) = 0 ∨ (1 : Int32) = 1) ∧ Q (some (.int 1)) h4)) := fun n1 n2 z => by
      have o0 : ¬ o = 0 := fun q => z ((wX_m1 ho).mpr q)
      have w1 : wT o = [(o, 0)] := if_neg o0
      have x1 : wX o = encC (o, 0) := if_neg o0
      rw [w1] at hc
      have hc' : (C ++ (S0 ++ T).map encC).length + 1 ≤ p + 23 := hc
      refine c_put TT (by omega) (fun h2 F2 t2 T2 => ⟨rfl, Or.inr rfl, R.2 _ (exitR n1 n2) h2 F2 t2 ?_⟩)
      show TxC G h2 b B n p m (C ++ (S0 ++ T ++ wT o).map encC)
      rw [w1, List.map_append, ← List.append_assoc, List.map_cons, List.map_nil, ← x1]
      exact T2
    have wl : (wT o).length ≤ 1 := by
      unfold wT
      split
      · exact Nat.zero_le _
      · exact Nat.le_refl _
    refine t_X5_readSum_9 (by omega) ⟨fun z => ?_, fun z => ⟨fun z1 => absurd z1 (by decide), fun _ => ⟨a1, b + 1, a2, f1, fun z3 => ?_, fun z3 => ?_⟩⟩⟩
    · have := (nI_le_iff (a := 400) (by omega) (by omega)).mp z
      have k0 : ¬ kdT B n p = 3 := fun q => by
        have := kd_lt q (by omega)
        omega
      exact ⟨exitN (fun q => k0 q.1) (fun q => k0 q.1), fun z2 => ⟨a1, exitP (fun q => k0 q.1) (fun q => k0 q.1) z2⟩⟩
    · have k0 : ¬ kdT B n p = 3 := fun q => z3 (by rw [f2, q]; rfl)
      exact ⟨exitN (fun q => k0 q.1) (fun q => k0 q.1), fun z2 => exitP (fun q => k0 q.1) (fun q => k0 q.1) z2⟩
    have k3 : kdT B n p = 3 := by
      rw [f2] at z3
      exact (nI_eq_iff (b := 3) (by omega) (by omega)).mp z3
    have lt := kd_lt k3 (by omega)
    have gt := nxP_gt (B := B) lt
    rw [f4]
    refine s_arith (fun oM => ⟨_, rfl, fun _ => ?_, fun z => ?_⟩) (fun oA => ⟨_, rfl, fun _ => ?_, fun z => ?_⟩) (fun z1 z2 => ⟨_, rfl, fun z => absurd rfl z, fun _ => ⟨exitN (fun q => q.2 z1) (fun q => q.2 z2), exitP (fun q => q.2 z1) (fun q => q.2 z2)⟩⟩)
    · -- times, by
      have r45 := (opM_r (vlT B n p)).resolve_left oM
      have ne : ¬ encC (opM (vlT B n p), 0) = -2 ∧ ¬ encC (opM (vlT B n p), 0) = -3 := by
        rcases (by omega : opM (vlT B n p) = 4 ∨ opM (vlT B n p) = 5) with e | e <;> rw [e] <;> decide
      rw [show terL B n (j + 1) p m T = sbind (valR B n (nxP B n p) m) (fun r => terL B n j r.1 r.2.1 (T ++ r.2.2 ++ [(opM (vlT B n p), 0)])) from if_pos ⟨k3, oM⟩] at R
      refine ⟨fun z => absurd z ne.1, fun _ => ⟨fun _ => t_X5_readSum_71 (by omega) ⟨fun _ => ?_, fun z => absurd rfl z⟩, fun z => absurd z ne.2⟩⟩
      refine t_X5_readSum_91 (by omega) ⟨a1, b + 1, a2, f1, s_next S (fun h2 F2 S2 => ⟨rfl, ?_⟩)⟩
      have F2' : FrI (CxF b) h h2 := F2.weak (fun a k z => nx_cx z)
      have t2 : hI h2 (b + 1) 1 = hI h (b + 1) 1 := F2.i (by unfold NxF; omega)
      have T2 := TT.nx F2 S2
      refine c_value (by omega) hm (by omega) T2 ⟨fun e he h3 F3 f3 L3 => ⟨_, rfl, fun z => absurd rfl z, fun _ => ?_⟩, fun r hr h3 F3 t3 T3 => ⟨_, rfl, fun z => absurd rfl z, fun _ => ?_⟩⟩
      · obtain ⟨b1, b2, b3, b4⟩ := T2.kp F3
        refine c_putb b1 b2 b3 b4 L3 (fun h4 F4 t4 L4 => ⟨rfl, ?_⟩)
        obtain ⟨b1, b2, b3, b4⟩ := T2.kp (F3.tr F4)
        exact c_sumx (by omega) b1 b2 b3 b4 L4 (fun h5 F5 t5 L5 => R.1 e (by rw [he]; rfl) h5 (((F2'.tr F3).tr F4).tr F5) (t5.trans (t4.trans f3)) L5)
      · obtain ⟨ra, rm, -⟩ := (valR_ok (B := B) (n := n) (at_nx pn).1 hm).2 r hr
        have rn := ra.1.1
        have l3 : (C ++ (S0 ++ T).map encC ++ r.2.2.map encC).length + (wT o).length + 1 ≤ r.1 + 23 := by
          rw [List.length_append, List.length_map]
          omega
        refine c_put T3 (by omega) (fun h4 F4 t4 T4 => ⟨rfl, ?_⟩)
        rw [nI_S]
        have e : C ++ (S0 ++ T).map encC ++ r.2.2.map encC ++ [encC (opM (vlT B n p), 0)] = C ++ (S0 ++ (T ++ r.2.2 ++ [(opM (vlT B n p), 0)])).map encC := by
          simp only [List.map_append, List.append_assoc, List.map_cons, List.map_nil]
        rw [e] at T4
        refine ih (i := i + 1) (j := j) (k := k + 1) (p := r.1) (m := r.2.1) (o := o) (S0 := S0) (T := T ++ r.2.2 ++ [(opM (vlT B n p), 0)]) (by omega) (by omega) (by omega) (by omega) rm.2 ho ?_ T4 (RD.w ⟨fun e he => R.1 e (by rw [hr]; exact he), fun r' hr' => R.2 r' (by rw [hr]; exact hr')⟩ ((F2'.tr F3).tr F4) (t4.trans (t3.trans t2)))
        rw [← e, List.length_append]
        show _ + 1 + (wT o).length ≤ _
        omega
    · rcases (by have := opM_r (vlT B n p); omega : opM (vlT B n p) = 4 ∨ opM (vlT B n p) = 5) with e | e <;> rw [e] at z <;> exact absurd z (by decide)
    · -- plus, minus
      have r23 := (opA_r (vlT B n p)).resolve_left oA
      have o23 : opA (vlT B n p) = 2 ∨ opA (vlT B n p) = 3 := by omega
      have nM : ¬ (kdT B n p = 3 ∧ opM (vlT B n p) ≠ 0) := fun q => by
        rcases (opM_iff _).mp q.2 with v | v <;> rcases (opA_iff _).mp oA with v2 | v2 <;> rw [v] at v2 <;> exact absurd v2 (by decide)
      have xA : wX (opA (vlT B n p)) = encC (opA (vlT B n p), 0) := if_neg oA
      have eR : sbind (terL B n (j + 1) p m T) (fun r => suL B n (k + 1) r.1 r.2.1 (S0 ++ r.2.2 ++ wT o)) = sbind (valR B n (nxP B n p) m) (fun v => sbind (terL B n k v.1 v.2.1 v.2.2) (fun r => suL B n k r.1 r.2.1 (S0 ++ T ++ wT o ++ r.2.2 ++ wT (opA (vlT B n p))))) := by
        rw [show terL B n (j + 1) p m T = .inr (p, m, T) from if_neg nM]
        show suL B n (k + 1) p m (S0 ++ T ++ wT o) = _
        rw [show suL B n (k + 1) p m (S0 ++ T ++ wT o) = sbind (terR B n k (nxP B n p) m) (fun r => suL B n k r.1 r.2.1 (S0 ++ T ++ wT o ++ r.2.2 ++ [(opA (vlT B n p), 0)])) from if_pos ⟨k3, oA⟩]
        unfold terR
        rw [show wT (opA (vlT B n p)) = [(opA (vlT B n p), 0)] from if_neg oA]
        cases valR B n (nxP B n p) m <;> rfl
      rw [eR] at R
      -- with what waited put
      have nine : ∀ h1, FrI (CxF b) h h1 → hI h1 (b + 1) 1 = hI h (b + 1) 1 → TxC G h1 b B n p m (C ++ (S0 ++ T ++ wT o).map encC) → Ex G d mX5_readSum 91 [(0, .ref (b + 7)), (1, .int 1), (2, .int (wX (opA (vlT B n p)))), (3, .int (nI i)), (4, .int (wX (opA (vlT B n p)))), (5, .int 1)] [] h1 Q := fun h1 F1 t1 T1 => by
        have l1 : (C ++ (S0 ++ T ++ wT o).map encC).length ≤ p + 23 := by
          rw [List.length_append, List.length_map, List.length_append]
          rw [List.length_append, List.length_map] at hc
          omega
        refine t_X5_readSum_91 (by omega) ⟨T1.2.1.1, b + 1, T1.2.1.2.1, T1.1.f.1, s_next T1.1 (fun h2 F2 S2 => ⟨rfl, ?_⟩)⟩
        have F2' : FrI (CxF b) h h2 := F1.tr (F2.weak (fun a k z => nx_cx z))
        have t2 : hI h2 (b + 1) 1 = hI h (b + 1) 1 := (F2.i (by unfold NxF; omega)).trans t1
        have T2 := T1.nx F2 S2
        refine c_value (by omega) hm (by omega) T2 ⟨fun e he h3 F3 f3 L3 => ⟨_, rfl, fun _ => ?_, fun z => absurd z (by decide)⟩, fun r hr h3 F3 t3 T3 => ⟨_, rfl, fun _ => ?_, fun z => absurd z (by decide)⟩⟩
        · obtain ⟨b1, b2, b3, b4⟩ := T2.kp F3
          exact c_sumx (by omega) b1 b2 b3 b4 L3 (fun h5 F5 t5 L5 => R.1 e (by rw [he]; rfl) h5 ((F2'.tr F3).tr F5) (t5.trans f3) L5)
        · obtain ⟨ra, rm, -⟩ := (valR_ok (B := B) (n := n) (at_nx pn).1 hm).2 r hr
          have rn := ra.1.1
          rw [nI_S]
          rw [List.append_assoc, ← List.map_append] at T3
          refine ih (i := i + 1) (j := k) (k := k) (p := r.1) (m := r.2.1) (o := opA (vlT B n p)) (S0 := S0 ++ T ++ wT o) (T := r.2.2) (by omega) (by omega) (by omega) (by omega) rm.2 (by omega) ?_ T3 (RD.w ⟨fun e he => R.1 e (by rw [hr]; exact he), fun r' hr' => R.2 r' (by rw [hr]; exact hr')⟩ (F2'.tr F3) (t3.trans t2))
          have w1 : (wT (opA (vlT B n p))).length = 1 := by rw [show wT (opA (vlT B n p)) = [(opA (vlT B n p), 0)] from if_neg oA]; rfl
          rw [w1, List.map_append, ← List.append_assoc, List.length_append, List.length_map]
          omega
      have sev : Ex G d mX5_readSum 71 [(0, .ref (b + 7)), (1, .int 1), (2, .int (wX o)), (3, .int (nI i)), (4, .int (wX (opA (vlT B n p))))] [.int 1] h Q := by
        refine t_X5_readSum_71 (by omega) ⟨fun z => absurd z (by decide), fun _ => ⟨fun z => ?_, fun z => ⟨a1, ?_⟩⟩⟩
        · obtain rfl := (wX_m1 ho).mp z
          refine nine h (FrI.rf _ h) rfl ?_
          show TxC G h b B n p m (C ++ (S0 ++ T ++ []).map encC)
          rw [List.append_nil]
          exact TT
        · have o0 : ¬ o = 0 := fun q => z ((wX_m1 ho).mpr q)
          have w1 : wT o = [(o, 0)] := if_neg o0
          have x1 : wX o = encC (o, 0) := if_neg o0
          have hc' : (C ++ (S0 ++ T).map encC).length + 1 ≤ p + 23 := by
            rw [w1] at hc
            exact hc
          refine c_put TT (by omega) (fun h2 F2 t2 T2 => ⟨rfl, nine h2 F2 t2 ?_⟩)
          rw [w1, List.map_append, ← List.append_assoc, List.map_cons, List.map_nil, ← x1]
          exact T2
      rw [← xA]
      refine ⟨fun _ => sev, fun z => ⟨fun z2 => ?_, fun _ => sev⟩⟩
      rw [xA] at z z2
      rcases o23 with e | e
      · rw [e] at z
        exact absurd (by decide) z
      · rw [e] at z2
        exact absurd (by decide) z2
    · rcases (by have := opA_r (vlT B n p); omega : opA (vlT B n p) = 2 ∨ opA (vlT B n p) = 3) with e | e <;> rw [e] at z <;> exact absurd z (by decide)
theorem c_sum {h : HP} {k p m : Nat} {C : List Int32} (hd : 5 ≤ d) (hf : n < p + k) (hm : m ≤ 60) (hc : C.length ≤ p + 23) (T : TxC G h b B n p m C) (R : RD G b B n C (suR B n k p m) h Q) : Cal G d mX5_readSum [.ref (b + 7)] h Q := by
  have pn := T.1.pn.1
  have eR : suR B n k p m = sbind (valR B n p m) (fun v => sbind (terL B n k v.1 v.2.1 v.2.2) (fun r => suL B n k r.1 r.2.1 ([] ++ r.2.2 ++ wT 0))) := by
    unfold suR terR
    cases valR B n p m with
    | inl e => rfl
    | inr v =>
      show sbind (terL B n k v.1 v.2.1 v.2.2) _ = sbind (terL B n k v.1 v.2.1 v.2.2) _
      congr 1
      funext r
      show _ = suL B n k r.1 r.2.1 ([] ++ r.2.2 ++ [])
      rw [List.append_nil, List.nil_append]
  rw [eR] at R
  refine e_X5_readSum (by omega) ⟨T.2.1.1, c_value (by omega) hm hc T ⟨fun e he h3 F3 f3 L3 => ⟨_, rfl, ?_⟩, fun r hr h3 F3 t3 T3 => ⟨_, rfl, ?_⟩⟩⟩
  · obtain ⟨b1, b2, b3, b4⟩ := T.kp F3
    exact c_sumx (by omega) b1 b2 b3 b4 L3 (fun h5 F5 t5 L5 => R.1 e (by rw [he]; rfl) h5 (F3.tr F5) (t5.trans f3) L5)
  · obtain ⟨ra, rm, -⟩ := (valR_ok (B := B) (n := n) pn hm).2 r hr
    refine c_sum9 (by omega) (n + 1) (i := 0) (j := k) (k := k) (p := r.1) (m := r.2.1) (o := 0) (S0 := []) (T := r.2.2) (by omega) (by omega) (by omega) (by omega) rm.2 (Or.inl rfl) ?_ T3 (RD.w ⟨fun e he => R.1 e (by rw [hr]; exact he), fun r' hr' => R.2 r' (by rw [hr]; exact hr')⟩ F3 t3)
    show (C ++ ([] ++ r.2.2).map encC).length + 0 ≤ r.1 + 23
    rw [List.nil_append, List.length_append, List.length_map]
    omega
end TD
