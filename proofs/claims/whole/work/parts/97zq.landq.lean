/-! ===== a land is read by the reference: clauses ===== -/
section LQ
variable {G : GG} {d : Nat} {y : Nat} {B : Nat → Int32} {n : Nat} {Q : Option Value → HP → Prop}
theorem r_wellHere {h : HP} {s : LSt} {m : Nat} (hd : 3 ≤ d) (E : RdE G h y B n s.1) (k1 : kdT B n s.1 = 1) (L : LdR G h y B n s m) (R : RQ G y B n m (sbind (numR B n (nxP B n s.1) 0 39) (fun a => sbind (numR B n a.2 0 39) (fun b => .inr (b.2, s.2.1, s.2.2.1, s.2.2.2.1, (fun c => if c = 40 * b.1 + a.1 then s.2.2.2.2.1 c ||| 256 else s.2.2.2.2.1 c), s.2.2.2.2.2)))) h Q) : Cal G d mX12_isWellHere [.ref y] h Q := by
  refine e_X12_isWellHere (by omega) ⟨E.1.1, r_passWord (by omega) E k1 (fun h2 F2 X2 _ => ⟨rfl, r_numberHere (l := 0) (u := 39) (by omega) X2 ((F2.i (by unfold F13; omega)).trans L.2.1.1) (by omega) (by omega) (fun nk h3 F3 f3 _ => ⟨_, rfl, fun z => absurd rfl z, fun _ => R.1 _ (by rw [numR_bad nk]; rfl) h3 (((F2.weak (fun a k z => f13_ay z)).tr (F3.weak (fun a k z => f135_ay z))).weak (fun a k z => ay_lr z)) f3⟩) (fun ok h3 F3 X3 v3 w3 => ⟨_, rfl, fun _ => ?_, fun z => absurd z (by decide)⟩)⟩)⟩
  obtain ⟨e1, v1, l1, u1⟩ := numR_ok ok
  rw [v1] at v3
  have G3 := (F2.weak (fun a k z => f13_ay z)).tr (F3.weak (fun a k z => f135_ay z))
  refine r_numberHere (l := 0) (u := 39) (by omega) X3 w3 (by omega) (by omega) (fun nk h4 F4 f4 _ => ⟨_, rfl, fun z => absurd rfl z, fun _ => R.1 _ (by rw [e1]; simp only [sbind]; rw [numR_bad nk]) h4 ((G3.tr (F4.weak (fun a k z => f135_ay z))).weak (fun a k z => ay_lr z)) f4⟩) (fun ok2 h4 F4 X4 v4 w4 => ⟨_, rfl, fun _ => ?_, fun z => absurd z (by decide)⟩)
  obtain ⟨e2, v2, l2, u2⟩ := numR_ok ok2
  rw [v2] at v4
  have G4 := G3.tr (F4.weak (fun a k z => f135_ay z))
  have L4 := L.fr G4 (fun a k z => z) X4 w4
  obtain ⟨⟨m1, m2, m3⟩, -⟩ := X4.1.ld
  rw [v3, v4, e40']
  have vi : vp_in (nI (40 * nmv B n (nxP B n (nxP B n s.1)) + nmv B n (nxP B n s.1))) (hN h4 (y + 8)) := by rw [m3]; exact vin_nI (by omega) (by omega)
  refine ⟨y + 8, m1, m2, vi, vi, fun h5 g5 => ?_⟩
  rw [cl_nI (by omega), L4.2.2.2.2.1 _ (by omega)] at g5
  have F5 : FrI (fun a _ => a = y + 8) h4 h5 := by
    rw [g5]
    exact FrI.sI h4 _ rfl
  refine R.2 (nxP B n (nxP B n (nxP B n s.1)), s.2.1, s.2.2.1, s.2.2.2.1, (fun k => if k = 40 * nmv B n (nxP B n (nxP B n s.1)) + nmv B n (nxP B n s.1) then s.2.2.2.2.1 k ||| 256 else s.2.2.2.2.1 k), s.2.2.2.2.2) (by rw [e1]; simp only [sbind]; rw [e2]) h5 ((G4.weak (fun a k z => ay_lr z)).tr (F5.weak (fun a k z => by unfold LrF; omega))) (L4.cells F5 (fun c hc => ?_))
  rw [g5, hI_sI]
  show _ = if c = _ then _ else _
  by_cases e : c = 40 * nmv B n (nxP B n (nxP B n s.1)) + nmv B n (nxP B n s.1)
  · rw [if_pos ⟨rfl, e⟩, if_pos e, e]
  · rw [if_neg (fun z => e z.2), if_neg e]
    exact L4.2.2.2.2.1 c hc
theorem r_widensHere {h : HP} {s : LSt} {m : Nat} (hd : 3 ≤ d) (E : RdE G h y B n s.1) (k1 : kdT B n s.1 = 1) (L : LdR G h y B n s m) (hw : s.2.2.2.1 = false) (R : RQ G y B n m (sbind (numR B n (nxP B n s.1) 5 40) (fun a => sbind (numR B n a.2 5 40) (fun b => .inr (b.2, a.1, b.1, true, s.2.2.2.2)))) h Q) : Cal G d mX12_widens [.ref y, .int (nI s.1)] h Q := by
  have l4 : hI h y 8 = -1 := by
    rcases L.2.2.1 with q | q
    · rw [hw] at q
      cases q.1
    · exact q.2.1
  refine e_X12_widens (by omega) ⟨E.1.1, fun _ => ?_, fun z => absurd (by rw [l4]; decide) z⟩
  refine r_passWord (by omega) E k1 (fun h2 F2 X2 _ => ⟨rfl, r_numberHere (l := 5) (u := 40) (by omega) X2 ((F2.i (by unfold F13; omega)).trans L.2.1.1) (by omega) (by omega) (fun nk h3 F3 f3 _ => ⟨_, rfl, fun z => absurd rfl z, fun _ => R.1 _ (by rw [numR_bad nk]; rfl) h3 (((F2.weak (fun a k z => f13_ay z)).tr (F3.weak (fun a k z => f135_ay z))).weak (fun a k z => ay_lr z)) f3⟩) (fun ok h3 F3 X3 v3 w3 => ⟨_, rfl, fun _ => ?_, fun z => absurd z (by decide)⟩)⟩)
  obtain ⟨e1, v1, l1, u1⟩ := numR_ok ok
  rw [v1] at v3
  have G3 := (F2.weak (fun a k z => f13_ay z)).tr (F3.weak (fun a k z => f135_ay z))
  have F3' : FrI (LrF y) h (sI h3 y 8 (hI h3 y 15)) := (G3.weak (fun a k z => ay_lr z)).tr (FrI.sI (P := LrF y) h3 _ (Or.inl ⟨rfl, by omega⟩))
  refine r_numberHere (l := 5) (u := 40) (by omega) (X3.ay (by omega)) ((hI_ne _ _ (Or.inr (by omega))).trans w3) (by omega) (by omega) (fun nk h4 F4 f4 _ => ⟨_, rfl, fun z => absurd rfl z, fun _ => R.1 _ (by rw [e1]; simp only [sbind]; rw [numR_bad nk]) h4 (F3'.tr (F4.weak (fun a k z => ay_lr (f135_ay z)))) f4⟩) (fun ok2 h4 F4 X4 v4 w4 => ⟨_, rfl, fun _ => ?_, fun z => absurd z (by decide)⟩)
  obtain ⟨e2, v2, l2, u2⟩ := numR_ok ok2
  rw [v2] at v4
  rw [v4]
  rw [v3] at F4
  have F5 : FrI (LrF y) h (sI h4 y 9 (nI (nmv B n (nxP B n (nxP B n s.1))))) := by
    rw [v3] at F3'
    exact (F3'.tr (F4.weak (fun a k z => ay_lr (f135_ay z)))).tr (FrI.sI (P := LrF y) h4 _ (Or.inl ⟨rfl, by omega⟩))
  have ei : ∀ a k, ¬ AyF y a k → ¬ (a = y ∧ (k = 8 ∨ k = 9)) → hI (sI h4 y 9 (nI (nmv B n (nxP B n (nxP B n s.1))))) a k = hI h a k := fun a k z1 z2 => by
    rw [hI_ne _ _ (by omega), F4.i (fun q => z1 (f135_ay q)), hI_ne _ _ (by omega), G3.i z1]
  obtain ⟨-, ⟨-, q2, q3⟩, -, q5, q6, q7⟩ := L
  refine R.2 (nxP B n (nxP B n (nxP B n s.1)), nmv B n (nxP B n s.1), nmv B n (nxP B n (nxP B n s.1)), true, s.2.2.2.2) (by rw [e1]; simp only [sbind]; rw [e2]) _ F5 ⟨X4.ay (by omega), ⟨(hI_ne _ _ (Or.inr (by omega))).trans w4, (ei _ _ (by unfold AyF; omega) (by omega)).trans q2, (ei _ _ (by unfold AyF; omega) (by omega)).trans q3⟩, Or.inl ⟨rfl, ?_, hI_eq _ _ _ _⟩, (ei _ _ (by unfold AyF; omega) (by omega)).trans q5, fun c hc => (ei _ _ (by unfold AyF; omega) (by omega)).trans (q6 c hc), fun i a ha => ?_⟩
  · rw [hI_ne _ _ (Or.inr (by omega)), F4.i (by unfold F135; omega), hI_eq]
  · have := q7 i a ha
    have e : ∀ k, hI (sI h4 y 9 (nI (nmv B n (nxP B n (nxP B n s.1))))) (y + 9) k = hI h (y + 9) k := fun k => ei _ _ (by unfold AyF; omega) (by omega)
    unfold hsR at *
    simp only [e]
    exact this
theorem r_houseHere {h : HP} {s : LSt} {m : Nat} (hd : 3 ≤ d) (E : RdE G h y B n s.1) (k1 : kdT B n s.1 = 1) (L : LdR G h y B n s m) (h6 : s.2.2.2.2.2.length < 6) (hR : ∀ a ∈ s.2.2.2.2.2, RctP a) (R : RQ G y B n m (sbind (areaR B n (nxP B n s.1)) (hseR (nxP B n s.1) s)) h Q) : Cal G d mX12_isHouseHere [.ref y, .int (nI s.1)] h Q := by
  have x1 := (at_nx (B := B) L.1.at.1).1
  refine e_X12_isHouseHere (by omega) ⟨E.1.1, fun _ => ?_, fun z => ?_⟩
  rotate_left
  · rw [L.2.2.2.1, show (6 : Int32) = nI 6 from rfl, nI_eq_iff (by omega) (by omega)] at z
    omega
  refine r_passWord (by omega) E k1 (fun h2 F2 X2 _ => ⟨rfl, r_see X2 (fun h3 F3 E3 => ⟨_, rfl, ?_⟩)⟩)
  have G3 := (F2.weak (fun a k z => f13_ay z)).tr (F3.weak (fun a k z => f13_ay z))
  have w3 : hI h3 y 14 = 0 := (F3.i (by unfold F13; omega)).trans ((F2.i (by unfold F13; omega)).trans L.2.1.1)
  rw [E3.2.2.1]
  refine r_area (by omega) E3.x w3 (fun e ea h4 F4 f4 => ⟨_, rfl, fun z => absurd rfl z, fun _ => R.1 e (by rw [ea]; rfl) h4 ((G3.tr F4).weak (fun a k z => ay_lr z)) f4⟩) (fun r q ea h4 F4 X4 w4 e4 => ⟨_, rfl, fun _ => ?_, fun z => absurd z (by decide)⟩)
  have G4 := G3.tr F4
  have L4 := L.fr G4 (fun a k z => z) X4 w4
  have RP := (areaR_inr x1 ea).1
  have RP' := RP
  unfold RctP at RP'
  obtain ⟨-, ⟨-, q2, q3⟩, q4, q5, q6, q7⟩ := L4
  obtain ⟨-, ⟨m1, m2, m3⟩, -⟩ := X4.1.ld
  replace q5 : hI h4 y 10 = nI s.2.2.2.2.2.length := q5
  have G4' := G4.weak (fun a k z => ay_lr z)
  generalize hl : s.2.2.2.2.2.length = N at *
  have loop : ∀ c i, i + c = N → (∀ j a, j < i → s.2.2.2.2.2[j]? = some a → clrR r a) → Ex G d mX12_isHouseHere 41 [(0, .ref y), (1, .int (nI s.1)), (2, .int (nI (nxP B n s.1))), (3, .int (nI i))] [] h4 Q := by
    intro c
    induction c with
    | zero =>
      intro i hi C
      have a0 : (4 : Int32) * nI N = nI (4 * N) := nM 4 N
      have p1 : (nI (4 * N) : Int32) + 1 = nI (4 * N + 1) := nA _ 1
      have p2 : (nI (4 * N) : Int32) + 2 = nI (4 * N + 2) := nA _ 2
      have p3 : (nI (4 * N) : Int32) + 3 = nI (4 * N + 3) := nA _ 3
      have vi : ∀ k, k < 4 → vp_in (nI (4 * N + k)) (hN h4 (y + 9)) := fun k hk => by rw [m3]; exact vin_nI (by omega) (by omega)
      have c0 : ∀ k, k < 4 → (nI (4 * N + k)).toNatClampNeg = 4 * N + k := fun k hk => cl_nI (by omega)
      have y9 : ∀ (h : HP) j v k, hI (sI h (y + 9) j v) y k = hI h y k := fun h j v k => hI_ne _ _ (Or.inl (by omega))
      refine t_X12_isHouseHere_41 (by omega) ⟨X4.1.1, fun _ => ⟨y + 9, m1, m2, ?_⟩, fun z => ?_⟩
      rotate_left
      · rw [q5] at z
        exact absurd ((nI_le_iff (by omega) (by omega)).mpr (by omega)) z
      simp only [y9]
      simp only [q5, a0, p1, p2, p3, hN_sI, e4.1, e4.2.1, e4.2.2.1, e4.2.2.2]
      simp only [show nI (4 * N) = nI (4 * N + 0) from rfl, c0 0 (by omega), c0 1 (by omega)]
      refine ⟨vi 0 (by omega), vi 1 (by omega), fun h8 g8 => ?_⟩
      have k8 : ∀ k, hI h8 y k = hI h4 y k := fun k => by rw [g8, y9, y9]
      have n8 : hN h8 (y + 9) = hN h4 (y + 9) := by rw [g8, hN_sI, hN_sI]
      simp only [k8, n8, q5, a0, p2, p3, c0 2 (by omega), c0 3 (by omega), e4.2.2.1, e4.2.2.2]
      refine ⟨vi 2 (by omega), vi 3 (by omega), fun h13 g13 => ?_⟩
      have k13 : ∀ k, hI h13 y k = hI h4 y k := fun k => by rw [g13, y9, y9, k8]
      rw [k13, q5, nI_S]
      have F13' : FrI (fun a _ => a = y + 9) h4 h13 := by
        have st : ∀ (h : HP) k v, FrI (fun a _ => a = y + 9) h (sI h (y + 9) k v) := fun h k v => FrI.sI h v rfl
        rw [g13, g8]
        exact (((st h4 _ _).tr (st _ _ _)).tr (st _ _ _)).tr (st _ _ _)
      have val : ∀ k, hI h13 (y + 9) k = if k = 4 * N + 3 then nI r.2.2.2 else if k = 4 * N + 2 then nI r.2.2.1 else if k = 4 * N + 1 then nI r.2.1 else if k = 4 * N then nI r.1 else hI h4 (y + 9) k := fun k => by
        rw [g13, g8]
        simp only [hI_sI, true_and, Nat.add_zero]
      have cl : ∀ a ∈ s.2.2.2.2.2, clrR r a := fun a ha => by
        obtain ⟨j, hj, e⟩ := List.mem_iff_getElem.mp ha
        exact C j a (by omega) (by rw [List.getElem?_eq_getElem hj, e])
      have F14 : FrI (fun a k => a = y + 9 ∨ (a = y ∧ k = 10)) h4 (sI h13 y 10 (nI (N + 1))) := (F13'.weak (fun a k z => Or.inl z)).tr (FrI.sI h13 _ (Or.inr ⟨rfl, rfl⟩))
      have ei : ∀ a k, ¬ (a = y + 9 ∨ (a = y ∧ k = 10)) → hI (sI h13 y 10 (nI (N + 1))) a k = hI h4 a k := fun a k z => F14.i z
      have e8 : hI (sI h13 y 10 (nI (N + 1))) y 8 = hI h4 y 8 := ei _ _ (by omega)
      have e9 : hI (sI h13 y 10 (nI (N + 1))) y 9 = hI h4 y 9 := ei _ _ (by omega)
      refine R.2 (q, s.2.1, s.2.2.1, s.2.2.2.1, s.2.2.2.2.1, s.2.2.2.2.2 ++ [r]) (by rw [ea]; exact hseR_ok cl) _ (G4'.tr (F14.weak (fun a k z => by unfold LrF; omega))) ⟨X4.fi F14 (fun a k z => by omega), ⟨(ei _ _ (by omega)).trans w4, (ei _ _ (by omega)).trans q2, (ei _ _ (by omega)).trans q3⟩, ?_, ?_, fun c hc => (ei _ _ (by omega)).trans (q6 c hc), fun i a ha => ?_⟩
      · rw [e8, e9]
        exact q4
      · rw [hI_eq]
        show _ = nI (s.2.2.2.2.2 ++ [r]).length
        rw [List.length_append, hl]
        rfl
      · have ha' : (s.2.2.2.2.2 ++ [r])[i]? = some a := ha
        have e : ∀ k, hI (sI h13 y 10 (nI (N + 1))) (y + 9) k = hI h13 (y + 9) k := fun k => hI_ne _ _ (Or.inl (by omega))
        unfold hsR
        simp only [e, val]
        rw [List.getElem?_append] at ha'
        by_cases hi : i < s.2.2.2.2.2.length
        · rw [if_pos hi] at ha'
          have := q7 i a ha'
          unfold hsR at this
          rw [if_neg (by omega), if_neg (by omega), if_neg (by omega), if_neg (by omega), if_neg (by omega), if_neg (by omega), if_neg (by omega), if_neg (by omega), if_neg (by omega), if_neg (by omega), if_neg (by omega), if_neg (by omega), if_neg (by omega), if_neg (by omega), if_neg (by omega), if_neg (by omega)]
          exact this
        · rw [if_neg hi, List.getElem?_singleton] at ha'
          split at ha'
          · obtain rfl := Option.some.inj ha'
            obtain rfl : i = N := by omega
            refine ⟨?_, ?_, ?_, ?_⟩
            · rw [if_neg (by omega), if_neg (by omega), if_neg (by omega), if_pos rfl]
            · rw [if_neg (by omega), if_neg (by omega), if_pos rfl]
            · rw [if_neg (by omega), if_pos rfl]
            · rw [if_pos rfl]
          · cases ha'
    | succ c ih =>
      intro i hi C
      have hi' : i < s.2.2.2.2.2.length := by omega
      obtain ⟨a, ea'⟩ : ∃ a, s.2.2.2.2.2[i]? = some a := ⟨_, List.getElem?_eq_getElem hi'⟩
      have ap := hR a (List.mem_of_getElem? ea')
      unfold RctP at ap
      have h9 := q7 i a ea'
      unfold hsR at h9
      have a0 : (4 : Int32) * nI i = nI (4 * i + 0) := nM 4 i
      have p1 : (nI (4 * i + 0) : Int32) + 1 = nI (4 * i + 1) := nA _ 1
      have p2 : (nI (4 * i + 0) : Int32) + 2 = nI (4 * i + 2) := nA _ 2
      have p3 : (nI (4 * i + 0) : Int32) + 3 = nI (4 * i + 3) := nA _ 3
      have vi : ∀ k, k < 4 → vp_in (nI (4 * i + k)) (hN h4 (y + 9)) := fun k hk => by rw [m3]; exact vin_nI (by omega) (by omega)
      have c0 : ∀ k, k < 4 → (nI (4 * i + k)).toNatClampNeg = 4 * i + k := fun k hk => cl_nI (by omega)
      refine t_X12_isHouseHere_41 (by omega) ⟨X4.1.1, fun z => ?_, fun _ => ⟨y + 9, m1, m2, ?_⟩⟩
      · rw [q5, nI_le_iff (by omega) (by omega)] at z
        omega
      simp only [a0, p1, p2, p3, c0 0 (by omega), c0 1 (by omega), c0 2 (by omega), c0 3 (by omega), e4.1, e4.2.1, e4.2.2.1, e4.2.2.2]
      refine ⟨vi 0 (by omega), vi 1 (by omega), vi 2 (by omega), vi 3 (by omega), ?_⟩
      rw [show hI h4 (y + 9) (4 * i + 0) = nI a.1 from h9.1, h9.2.1, h9.2.2.1, h9.2.2.2]
      have on : clrR r a → ∃ v26, (some (Value.int 1)) = some (Value.int v26) ∧ ((¬ v26 = 0 → Ex G d mX12_isHouseHere 41 [(0, .ref y), (1, .int (nI s.1)), (2, .int (nI (nxP B n s.1))), (3, .int (nI i + 1))] [] h4 Q) ∧ (v26 = 0 → Cal G (d - 1) mX12_fails [.ref y, .int 5, .int (nI (nxP B n s.1))] h4 (fun r28 h29 => ∃ v31, r28 = some (.int v31) ∧ ((v31 = 0 ∨ v31 = 1) ∧ Q (some (.int v31)) h29)))) := fun cc => by
        refine ⟨1, rfl, fun _ => ?_, fun z => absurd z (by decide)⟩
        rw [nI_S]
        refine ih (i + 1) (by omega) (fun j a' hj ha' => ?_)
        by_cases e : j = i
        · rw [e, ea'] at ha'
          obtain rfl := Option.some.inj ha'
          exact cc
        · exact C j a' (by omega) ha'
      refine e_X12_areClear ?_
      unfold T_X12_areClear
      rw [nI_lt_iff (by omega) (by omega), nI_lt_iff (by omega) (by omega), nI_lt_iff (by omega) (by omega), nI_le_iff (by omega) (by omega)]
      refine ⟨fun z => on (by unfold clrR; omega), fun z1 => ⟨fun z => on (by unfold clrR; omega), fun z2 => ⟨fun z => on (by unfold clrR; omega), fun z3 => ⟨fun z4 => ⟨_, rfl, fun z => absurd rfl z, fun _ => r_fails X4.1 w4 (k := 5) rfl ⟨_, rfl, Or.inl rfl, ?_⟩⟩, fun z => on (by unfold clrR; omega)⟩⟩⟩⟩
      have nc : ¬ ∀ a ∈ s.2.2.2.2.2, clrR r a := fun q => by
        have := q a (List.mem_of_getElem? ea')
        unfold clrR at this
        omega
      exact R.1 _ (by rw [ea]; exact hseR_bad nc) _ (G4'.tr (FrI.sI (P := LrF y) h4 _ (Or.inl ⟨rfl, by omega⟩))) (hI_eq _ _ _ _)
  exact loop N 0 (by omega) (fun j a hj => by omega)
end LQ
