/-! ===== a land, as the reference says it ===== -/
def LndS (t : LSt) (S S' : Nat → Int32) : Prop := (S' 0 = nI t.2.1 ∧ S' 1 = nI t.2.2.1 ∧ S' 2 = nI t.2.2.2.2.2.length ∧ S' 3 = 0 ∧ S' 4 = S 4) ∧ (∀ c, c < 1600 → S' (8 + c) = t.2.2.2.2.1 c) ∧ (∀ j, j < 144 → S' (2256 + j) = S (2256 + j)) ∧ (∀ i a, t.2.2.2.2.2[i]? = some a → ∀ k, k < 11 → tS S' i k = bRow (nI a.1) (nI a.2.1) (nI a.2.2.1) (nI a.2.2.2) (-1) 0 k) ∧ (∀ u, t.2.2.2.2.2.length ≤ u → u < 54 → tS S' u 0 = 0) ∧ ∀ e, e < 6 → S' (2400 + 6 * e) = 0
def LwF (y a k : Nat) : Prop := LrF y a k ∨ (a = y ∧ k = 1)
theorem bRow_o (x z tx tz f o o' : Int32) : ∀ k, k < 11 → bRow x z tx tz f o k = bRow x z tx tz f o' k
  | 0, _ => rfl
  | 1, _ => rfl
  | 2, _ => rfl
  | 3, _ => rfl
  | 4, _ => rfl
  | 5, _ => rfl
  | 6, _ => rfl
  | 7, _ => rfl
  | 8, _ => rfl
  | 9, _ => rfl
  | 10, _ => rfl
  | k + 11, h => absurd h (by omega)
section LT
variable {G : GG} {d : Nat} {y : Nat} {B : Nat → Int32} {n : Nat} {Q : Option Value → HP → Prop}
/-- from the writing on -/
theorem r_land139 {h : HP} {t : LSt} {m : Nat} {x4 : Int32} (hd : 2 ≤ d) (LP : LsP B n t) (L : LdR G h y B n t m) (hQ : ∀ h2, FrI (fun a k => (a = y ∧ k = 1) ∨ a = y + 13) h h2 → hI h2 y 1 = 0 → LndS t (said h y) (said h2 y) → Q (some (.int (nI t.2.2.2.2.2.length))) h2) : Ex G d mX12_land 139 [(0, .ref y), (1, .int 1), (2, .int (nI t.2.1)), (3, .int (nI t.2.2.1)), (4, .int x4)] [] h Q := by
  obtain ⟨X, -, -, q5, q6, q7⟩ := L
  have M := X.1
  have len6 := LP.2.2.2.2.1
  obtain ⟨m1, m2, m3⟩ := M.sd
  obtain ⟨⟨c1, c2, c3⟩, ⟨d1, d2, d3⟩, -⟩ := M.ld
  have vi : ∀ (h1 : HP) (k : Nat), hN h1 (y + 13) = 2440 → k < 2440 → vp_in (nI k) (hN h1 (y + 13)) := fun h1 k e hk => by rw [e]; exact vin_nI (by omega) (by omega)
  refine t_X12_land_139 ⟨M.1, fun _ => ⟨y + 13, m1, m2.sI, vi _ 0 m3 (by omega), vi _ 1 m3 (by omega), vi _ 2 m3 (by omega), fun h9 g9 => ?_⟩, fun z => absurd z (by decide)⟩
  have e10 : hI (sI (sI (sI h y 1 0) (y + 13) 0 (nI t.2.1)) (y + 13) 1 (nI t.2.2.1)) y 10 = nI t.2.2.2.2.2.length := by
    rw [hI_ne _ _ (Or.inl (by omega)), hI_ne _ _ (Or.inl (by omega)), hI_ne _ _ (Or.inr (by omega))]
    exact q5
  rw [e10] at g9
  have n9 : hN h9 (y + 13) = 2440 := by
    rw [g9, hN_sI, hN_sI, hN_sI, hN_sI]
    exact m3
  refine ⟨vi h9 3 n9 (by omega), ?_⟩
  generalize gA : sI h9 (y + 13) 3 0 = hA
  have FA : FrI (fun a k => (a = y ∧ k = 1) ∨ (a = y + 13 ∧ k < 4)) h hA := by
    have st : ∀ (h : HP) k v, k < 4 → FrI (fun a k => (a = y ∧ k = 1) ∨ (a = y + 13 ∧ k < 4)) h (sI h (y + 13) k v) := fun h k v hk => FrI.sI h v (Or.inr ⟨rfl, hk⟩)
    rw [← gA, g9]
    exact ((((FrI.sI (P := fun a k => (a = y ∧ k = 1) ∨ (a = y + 13 ∧ k < 4)) h _ (Or.inl ⟨rfl, rfl⟩)).tr (st _ 0 _ (by omega))).tr (st _ 1 _ (by omega))).tr (st _ 2 _ (by omega))).tr (st _ 3 _ (by omega))
  have vA : hI hA y 1 = 0 ∧ hI hA (y + 13) 0 = nI t.2.1 ∧ hI hA (y + 13) 1 = nI t.2.2.1 ∧ hI hA (y + 13) 2 = nI t.2.2.2.2.2.length ∧ hI hA (y + 13) 3 = 0 := by
    rw [← gA, g9]
    simp [hI_sI]
  -- what holds all along
  have al : ∀ h1, FrI (fun a _ => a = y + 13) hA h1 → FrI (fun a k => (a = y ∧ k = 1) ∨ a = y + 13) h h1 ∧ MdSh G h1 y ∧ hI h1 y 10 = nI t.2.2.2.2.2.length ∧ (∀ c, c < 1600 → hI h1 (y + 8) c = t.2.2.2.2.1 c) ∧ (∀ k, hI h1 (y + 9) k = hI h (y + 9) k) ∧ hI h1 y 1 = 0 := fun h1 F => by
    have F' : FrI (fun a k => (a = y ∧ k = 1) ∨ a = y + 13) h h1 := (FA.weak (fun a k z => by omega)).tr (F.weak (fun a k z => Or.inr z))
    exact ⟨F', M.fr F', (F'.i (by omega)).trans q5, fun c hc => (F'.i (by omega)).trans (q6 c hc), fun k => F'.i (by omega), (F.i (by omega)).trans vA.1⟩
  have E : ∀ hD, FrI (fun a k => a = y + 13 ∧ 8 ≤ k ∧ k < 2256) hA hD → (∀ c, c < 1600 → hI hD (y + 13) (8 + c) = t.2.2.2.2.1 c) → (∀ i a, t.2.2.2.2.2[i]? = some a → ∀ k, k < 11 → tS (said hD y) i k = bRow (nI a.1) (nI a.2.1) (nI a.2.2.1) (nI a.2.2.2) (-1) 0 k) → (∀ u, t.2.2.2.2.2.length ≤ u → u < 54 → tS (said hD y) u 0 = 0) → ∀ c i h1, i + c = 6 → FrI (fun a k => a = y + 13 ∧ 2400 ≤ k) hD h1 → (∀ e, e < i → hI h1 (y + 13) (2400 + 6 * e) = 0) → Ex G d mX12_land 318 [(0, .ref y), (1, .int 1), (2, .int (nI t.2.1)), (3, .int (nI t.2.2.1)), (4, .int (nI i))] [] h1 Q := by
    intro hD FD cD rD zD c
    induction c with
    | zero =>
      intro i h1 hi F e0
      obtain rfl : i = 6 := by omega
      obtain ⟨a1, a2, a3, a4, a5, a6⟩ := al h1 ((FD.weak (fun a k z => z.1)).tr (F.weak (fun a k z => z.1)))
      refine t_X12_land_318 ⟨fun _ => ⟨a2.1, ?_⟩, fun z => absurd (show (6 : Int32) ≤ nI 6 by decide) z⟩
      rw [a3]
      have lo : ∀ k, k < 8 → said h1 y k = hI hA (y + 13) k := fun k hk => (F.i (by omega)).trans (FD.i (by omega))
      have mi : ∀ k, k < 2400 → said h1 y k = said hD y k := fun k hk => F.i (by omega)
      refine hQ h1 a1 a6 ⟨⟨(lo 0 (by omega)).trans vA.2.1, (lo 1 (by omega)).trans vA.2.2.1, (lo 2 (by omega)).trans vA.2.2.2.1, (lo 3 (by omega)).trans vA.2.2.2.2, (lo 4 (by omega)).trans (FA.i (by omega))⟩, fun c hc => (mi _ (by omega)).trans (cD c hc), fun j hj => (mi _ (by omega)).trans ((FD.i (by omega)).trans (FA.i (by omega))), fun i a ha k hk => ?_, fun u h1 h2 => (mi _ (by omega)).trans (zD u h1 h2), e0⟩
      have hi := (List.getElem?_eq_some_iff.mp ha).1
      exact (mi _ (by omega)).trans (rD i a ha k hk)
    | succ c ih =>
      intro i h1 hi F e0
      obtain ⟨a1, a2, a3, a4, a5, a6⟩ := al h1 ((FD.weak (fun a k z => z.1)).tr (F.weak (fun a k z => z.1)))
      obtain ⟨s1, s2, s3⟩ := a2.sd
      have ea : (2400 : Int32) + 6 * nI i = nI (2400 + 6 * i) := by
        show nI 2400 + nI 6 * nI i = _
        rw [nM, nA]
      refine t_X12_land_318 ⟨fun z => ?_, fun _ => ⟨a2.1, y + 13, s1, s2, ?_⟩⟩
      · have := (nI_le_iff (a := 6) (by omega) (by omega)).mp z
        omega
      rw [ea, cl_nI (by omega), nI_S]
      refine ⟨vi h1 _ s3 (by omega), ih (i + 1) _ (by omega) (F.tr (FrI.sI h1 _ ⟨rfl, by omega⟩)) (fun e he => ?_)⟩
      by_cases c : e = i
      · rw [c, hI_eq]
      · rw [hI_ne _ _ (Or.inr (by omega))]
        exact e0 e (by omega)
  have D : ∀ hC, FrI (fun a k => a = y + 13 ∧ 8 ≤ k ∧ k < 2256) hA hC → (∀ c, c < 1600 → hI hC (y + 13) (8 + c) = t.2.2.2.2.1 c) → ∀ c i h1, i + c = t.2.2.2.2.2.length → FrI (fun a k => a = y + 13 ∧ 1608 ≤ k ∧ k < 2256) hC h1 → (∀ j a, j < i → t.2.2.2.2.2[j]? = some a → ∀ k, k < 11 → tS (said h1 y) j k = bRow (nI a.1) (nI a.2.1) (nI a.2.2.1) (nI a.2.2.2) (-1) 0 k) → (∀ u, i ≤ u → u < 54 → tS (said h1 y) u 0 = 0) → Ex G d mX12_land 251 [(0, .ref y), (1, .int 1), (2, .int (nI t.2.1)), (3, .int (nI t.2.2.1)), (4, .int (nI i))] [] h1 Q := by
    intro hC FC cC c
    induction c with
    | zero =>
      intro i h1 hi F r0 z0
      obtain ⟨a1, a2, a3, a4, a5, a6⟩ := al h1 ((FC.weak (fun a k z => z.1)).tr (F.weak (fun a k z => z.1)))
      refine t_X12_land_251 (by omega) ⟨a2.1, fun _ => ?_, fun z => ?_⟩
      · refine E h1 (FC.tr (F.weak (fun a k z => by omega))) (fun c hc => (F.i (by omega)).trans (cC c hc)) (fun j a ha => r0 j a ?_ ha) (fun u h1 h2 => z0 u (by omega) h2) 6 0 h1 rfl (FrI.rf _ h1) (fun e he => by omega)
        have := (List.getElem?_eq_some_iff.mp ha).1
        omega
      · rw [a3] at z
        exact absurd ((nI_le_iff (by omega) (by omega)).mpr (by omega)) z
    | succ c ih =>
      intro i h1 hi F r0 z0
      obtain ⟨a1, a2, a3, a4, a5, a6⟩ := al h1 ((FC.weak (fun a k z => z.1)).tr (F.weak (fun a k z => z.1)))
      have hi' : i < t.2.2.2.2.2.length := by omega
      obtain ⟨a, ea'⟩ : ∃ a, t.2.2.2.2.2[i]? = some a := ⟨_, List.getElem?_eq_getElem hi'⟩
      have h9 := q7 i a ea'
      unfold hsR at h9
      have a0 : (4 : Int32) * nI i = nI (4 * i + 0) := nM 4 i
      have p1 : (nI (4 * i + 0) : Int32) + 1 = nI (4 * i + 1) := nA _ 1
      have p2 : (nI (4 * i + 0) : Int32) + 2 = nI (4 * i + 2) := nA _ 2
      have p3 : (nI (4 * i + 0) : Int32) + 3 = nI (4 * i + 3) := nA _ 3
      obtain ⟨-, ⟨s1, s2, s3⟩, -⟩ := a2.ld
      have v9 : ∀ k, k < 4 → vp_in (nI (4 * i + k)) (hN h1 (y + 9)) := fun k hk => by rw [s3]; exact vin_nI (by omega) (by omega)
      have c0 : ∀ k, k < 4 → (nI (4 * i + k)).toNatClampNeg = 4 * i + k := fun k hk => cl_nI (by omega)
      refine t_X12_land_251 (by omega) ⟨a2.1, fun z => ?_, fun _ => ⟨y + 9, s1, s2, ?_⟩⟩
      · rw [a3, nI_le_iff (by omega) (by omega)] at z
        omega
      simp only [a0, p1, p2, p3, c0 0 (by omega), c0 1 (by omega), c0 2 (by omega), c0 3 (by omega), a5]
      refine ⟨v9 0 (by omega), v9 1 (by omega), v9 2 (by omega), v9 3 (by omega), ?_⟩
      rw [show hI h (y + 9) (4 * i + 0) = nI a.1 from h9.1, h9.2.1, h9.2.2.1, h9.2.2.2]
      refine r_comes (by omega) a2 (by omega) (fun h2 F2 v2 => ⟨rfl, ?_⟩)
      rw [nI_S]
      refine ih (i + 1) h2 (by omega) (F.tr F2) (fun j a' hj ha' k hk => ?_) (fun u h3 h4 => ?_)
      · rw [v2 j k (by omega) (by omega)]
        by_cases e : j = i
        · rw [if_pos e]
          rw [e, ea'] at ha'
          obtain rfl := Option.some.inj ha'
          exact bRow_o _ _ _ _ _ _ _ k hk
        · rw [if_neg e]
          exact r0 j a' (by omega) ha' k hk
      · rw [v2 u 0 (by omega) (by omega), if_neg (by omega)]
        exact z0 u (by omega) h4
  have C : ∀ hB, FrI (fun a k => a = y + 13 ∧ 8 ≤ k ∧ k < 2256) hA hB → (∀ c, c < 1600 → hI hB (y + 13) (8 + c) = t.2.2.2.2.1 c) → ∀ c i h1, i + c = 54 → FrI (fun a k => a = y + 13 ∧ 1608 ≤ k ∧ k < 2256) hB h1 → (∀ u, u < i → tS (said h1 y) u 0 = 0) → Ex G d mX12_land 224 [(0, .ref y), (1, .int 1), (2, .int (nI t.2.1)), (3, .int (nI t.2.2.1)), (4, .int (nI i))] [] h1 Q := by
    intro hB FB cB c
    induction c with
    | zero =>
      intro i h1 hi F z0
      obtain rfl : i = 54 := by omega
      refine t_X12_land_224 (by omega) ⟨fun _ => ?_, fun z => absurd (show (54 : Int32) ≤ nI 54 by decide) z⟩
      exact D h1 (FB.tr (F.weak (fun a k z => by omega))) (fun c hc => (F.i (by omega)).trans (cB c hc)) _ 0 h1 (Nat.zero_add _) (FrI.rf _ h1) (fun j a hj => by omega) (fun u h1 h2 => z0 u h2)
    | succ c ih =>
      intro i h1 hi F z0
      obtain ⟨a1, a2, a3, a4, a5, a6⟩ := al h1 ((FB.weak (fun a k z => z.1)).tr (F.weak (fun a k z => z.1)))
      obtain ⟨s1, s2, s3⟩ := a2.sd
      have ea : (1608 : Int32) + 12 * nI i = nI (1608 + 12 * i) := by
        show nI 1608 + nI 12 * nI i = _
        rw [nM, nA]
      refine t_X12_land_224 (by omega) ⟨fun z => ?_, fun _ => ⟨a2.1, y + 13, s1, e_X12_placeOf ⟨_, rfl, s2, ?_⟩⟩⟩
      · have := (nI_le_iff (a := 54) (by omega) (by omega)).mp z
        omega
      rw [ea, cl_nI (by omega), nI_S]
      refine ⟨vi h1 _ s3 (by omega), ih (i + 1) _ (by omega) (F.tr (FrI.sI h1 _ ⟨rfl, by omega, by omega⟩)) (fun u hu => ?_)⟩
      show hI _ (y + 13) (1608 + 12 * u + 0) = 0
      by_cases c : u = i
      · rw [c]
        exact hI_eq _ _ _ _
      · rw [hI_ne _ _ (Or.inr (by omega))]
        exact z0 u (by omega)
  have Bl : ∀ c i h1, i + c = 1600 → FrI (fun a k => a = y + 13 ∧ 8 ≤ k ∧ k < 2256) hA h1 → (∀ u, u < i → hI h1 (y + 13) (8 + u) = t.2.2.2.2.1 u) → Ex G d mX12_land 190 [(0, .ref y), (1, .int 1), (2, .int (nI t.2.1)), (3, .int (nI t.2.2.1)), (4, .int (nI i))] [] h1 Q := by
    intro c
    induction c with
    | zero =>
      intro i h1 hi F z0
      have hi' : i = 1600 := by omega
      refine t_X12_land_190 ⟨fun _ => C h1 F (fun c hc => z0 c (by omega)) 54 0 h1 rfl (FrI.rf _ h1) (fun u hu => by omega), fun z => ?_⟩
      rw [hi'] at z
      exact absurd (show (1600 : Int32) ≤ nI 1600 by decide) z
    | succ c ih =>
      intro i h1 hi F z0
      obtain ⟨a1, a2, a3, a4, a5, a6⟩ := al h1 (F.weak (fun a k z => z.1))
      obtain ⟨s1, s2, s3⟩ := a2.sd
      obtain ⟨⟨u1, u2, u3⟩, -⟩ := a2.ld
      have ea : (8 : Int32) + nI i = nI (8 + i) := nA 8 i
      refine t_X12_land_190 ⟨fun z => ?_, fun _ => ⟨a2.1, y + 13, s1, y + 8, u1, u2, by rw [u3]; exact vin_nI (by omega) (by omega), s2, ?_⟩⟩
      · have := (nI_le_iff (a := 1600) (by omega) (by omega)).mp z
        omega
      rw [ea, cl_nI (by omega), cl_nI (by omega), nI_S, a4 i (by omega)]
      refine ⟨vi h1 _ s3 (by omega), ih (i + 1) _ (by omega) (F.tr (FrI.sI h1 _ ⟨rfl, by omega, by omega⟩)) (fun u hu => ?_)⟩
      by_cases c : u = i
      · rw [c, hI_eq]
      · rw [hI_ne _ _ (Or.inr (by omega))]
        exact z0 u (by omega)
  exact Bl 1600 0 hA rfl (FrI.rf _ hA) (fun u hu => by omega)
theorem r_land {h : HP} (hd : 8 ≤ d) (M : MdSh G h y) (E : RtB h y B n) (h0 : ∀ e, landF B n = .inl e → ∀ h2, FrI (LwF y) h h2 → hI h2 y 1 = 0 → Q (some (.int (-2 - nI e))) h2) (h1 : ∀ t, landF B n = .inr t → LsP B n t → ¬ outH t → ∀ h2, FrI (fun a k => LwF y a k ∨ a = y + 13) h h2 → hI h2 y 1 = 0 → LndS t (said h y) (said h2 y) → Q (some (.int (nI t.2.2.2.2.2.length))) h2) : Cal G d mX12_land [.ref y] h Q := by
  have n400 := E.2.1
  refine e_X12_land ⟨M.1, ?_⟩
  generalize gA : sI (sI (sI h y 16 12) y 8 (-1)) y 10 0 = hA
  have FA : FrI (fun a k => a = y ∧ (k = 16 ∨ k = 8 ∨ k = 10)) h hA := by
    have st : ∀ (h : HP) k v, (k = 16 ∨ k = 8 ∨ k = 10) → FrI (fun a k => a = y ∧ (k = 16 ∨ k = 8 ∨ k = 10)) h (sI h y k v) := fun h k v hk => FrI.sI h v ⟨rfl, hk⟩
    rw [← gA]
    exact ((st h 16 _ (by omega)).tr (st _ 8 _ (by omega))).tr (st _ 10 _ (by omega))
  have vA : hI hA y 16 = 12 ∧ hI hA y 8 = -1 ∧ hI hA y 10 = 0 := by
    rw [← gA]
    simp [hI_sI]
  have lr : ∀ {h1 h2 : HP}, FrI (LrF y) h1 h2 → FrI (LwF y) h1 h2 := fun F => F.weak (fun a k z => Or.inl z)
  -- a fault
  have ng139 : ∀ e h5 x2 x3 x4, landF B n = .inl e → FrI (LwF y) h h5 → hI h5 y 14 = nI e → Ex G d mX12_land 139 [(0, .ref y), (1, .int 0), (2, .int x2), (3, .int x3), (4, .int x4)] [] h5 Q := fun e h5 x2 x3 x4 he F f => by
    refine t_X12_land_139 ⟨F.kd M.1, fun z => absurd rfl z, fun _ => ?_⟩
    rw [hI_ne _ _ (Or.inr (by omega)), f]
    exact h0 e he _ (F.tr (FrI.sI (P := LwF y) h5 _ (Or.inr ⟨rfl, rfl⟩))) (hI_eq _ _ _ _)
  have ng80 : ∀ e h5 x2 x3 x4, landF B n = .inl e → FrI (LwF y) h h5 → hI h5 y 14 = nI e → Ex G d mX12_land 80 [(0, .ref y), (1, .int 0), (2, .int x2), (3, .int x3), (4, .int x4)] [] h5 Q := fun e h5 x2 x3 x4 he F f => t_X12_land_80 (by omega) ⟨F.kd M.1, fun _ => ng139 e h5 x2 x3 x4 he F f, fun _ => ⟨fun _ => ng139 e h5 x2 x3 x4 he F f, fun z => absurd rfl z⟩⟩
  have ng59 : ∀ e h5 sx, landF B n = .inl e → FrI (LwF y) h h5 → hI h5 y 14 = nI e → Ex G d mX12_land 59 [(0, .ref y), (1, .int 0)] [.int sx] h5 Q := fun e h5 sx he F f => t_X12_land_59 ⟨F.kd M.1, fun _ => ng80 e h5 _ _ _ he F f, fun _ => ng80 e h5 _ _ _ he F f⟩
  have fill : ∀ c i hF, i + c = 1600 → FrI (fun a _ => a = y + 8) hA hF → (∀ u, u < i → hI hF (y + 8) u = 1) → Ex G d mX12_land 18 [(0, .ref y), (1, .int (nI i))] [] hF Q := by
    intro c
    induction c with
    | succ c ih =>
      intro i hF hi F z0
      obtain ⟨⟨u1, u2, u3⟩, -⟩ := ((M.fr FA).fr F).ld
      refine t_X12_land_18 (by omega) ⟨fun z => ?_, fun _ => ⟨F.kd (FA.kd M.1), y + 8, u1, u2, by rw [u3]; exact vin_nI (by omega) (by omega), ?_⟩⟩
      · have := (nI_le_iff (a := 1600) (by omega) (by omega)).mp z
        omega
      rw [cl_nI (by omega), nI_S]
      refine ih (i + 1) _ (by omega) (F.tr (FrI.sI hF _ rfl)) (fun u hu => ?_)
      by_cases c : u = i
      · rw [c, hI_eq]
      · rw [hI_ne _ _ (Or.inr (by omega))]
        exact z0 u (by omega)
    | zero =>
      intro i hF hi F z0
      have hi' : i = 1600 := by omega
      have MF : MdSh G hF y := (M.fr FA).fr F
      have EF : RtB hF y B n := (E.fi FA (fun a k z => by omega)).fi F (fun a k z => by omega)
      have F1 : FrI (LrF y) h hF := (FA.weak (fun a k z => Or.inl ⟨z.1, by omega⟩)).tr (F.weak (fun a k z => Or.inr (Or.inr (Or.inl z))))
      refine t_X12_land_18 (by omega) ⟨fun _ => ⟨MF.1, ?_⟩, fun z => ?_⟩
      rotate_left
      · rw [hi'] at z
        exact absurd (show (1600 : Int32) ≤ nI 1600 by decide) z
      refine r_readsAllL (by omega) MF EF ((F.i (by omega)).trans vA.1) ((F.i (by omega)).trans vA.2.1) ((F.i (by omega)).trans vA.2.2) (fun c hc => z0 c (by omega)) (fun e he h2 F2 f2 => ⟨_, rfl, ?_⟩) (fun t m ht h2 F2 L2 e13 => ⟨_, rfl, ?_⟩)
      · have le : landF B n = .inl e := by
          unfold landF
          rw [he]
          rfl
        exact ⟨fun _ => ng59 e h2 _ le (lr (F1.tr F2)) f2, fun _ => ng59 e h2 _ le (lr (F1.tr F2)) f2⟩
      · obtain ⟨TP, -⟩ := ldF_inr (ls0_p B n) ht
        have F12 := F1.tr F2
        have M2 := L2.1.1
        have b1 := TP.2.1
        have b2 := TP.2.2.1
        have len6 := TP.2.2.2.2.1
        have RP := TP.2.2.2.2.2.1
        have L2q := L2
        obtain ⟨X2, ⟨w2, -, -⟩, q4, q5, q6, q7⟩ := L2
        obtain ⟨-, ⟨d1, d2, d3⟩, -⟩ := M2.ld
        have loop : ∀ c i, i + c = t.2.2.2.2.2.length → (∀ j a, j < i → t.2.2.2.2.2[j]? = some a → ¬ (t.2.1 < a.2.2.1 ∨ t.2.2.1 < a.2.2.2)) → Ex G d mX12_land 80 [(0, .ref y), (1, .int 1), (2, .int (nI t.2.1)), (3, .int (nI t.2.2.1)), (4, .int (nI i))] [] h2 Q := by
          intro c
          induction c with
          | zero =>
            intro i hi C
            refine t_X12_land_80 (by omega) ⟨M2.1, fun _ => ?_, fun z => ?_⟩
            · have no : ¬ outH t := fun o => by
                obtain ⟨a, ha, oa⟩ := o
                obtain ⟨j, hj, ej⟩ := List.mem_iff_getElem.mp ha
                exact C j a (by omega) (by rw [List.getElem?_eq_getElem hj, ej]) oa
              refine r_land139 (by omega) TP L2q (fun h3 F3 f3 LS => h1 t ?_ TP no h3 ((F12.weak (fun a k z => Or.inl (Or.inl z))).tr (F3.weak (fun a k z => ?_))) f3 ?_)
              · unfold landF
                rw [ht]
                exact @if_neg _ (Classical.propDecidable _) no _ _ _
              · rcases z with z | z
                · exact Or.inl (Or.inr z)
                · exact Or.inr z
              · have es : said h2 y = said h y := funext fun k => F12.i (by unfold LrF; omega)
                rw [es] at LS
                exact LS
            · rw [q5] at z
              exact absurd ((nI_le_iff (by omega) (by omega)).mpr (by omega)) z
          | succ c ih =>
            intro i hi C
            have hi' : i < t.2.2.2.2.2.length := by omega
            obtain ⟨a, ea'⟩ : ∃ a, t.2.2.2.2.2[i]? = some a := ⟨_, List.getElem?_eq_getElem hi'⟩
            have ap := RP a (List.mem_of_getElem? ea')
            unfold RctP at ap
            have h9 := q7 i a ea'
            unfold hsR at h9
            have p2 : (4 : Int32) * nI i + 2 = nI (4 * i + 2) := by
              show nI 4 * nI i + nI 2 = _
              rw [nM, nA]
            have p3 : (4 : Int32) * nI i + 3 = nI (4 * i + 3) := by
              show nI 4 * nI i + nI 3 = _
              rw [nM, nA]
            have out : (t.2.1 < a.2.2.1 ∨ t.2.2.1 < a.2.2.2) → Cal G (d - 1) mX12_fails [.ref y, .int 5, .int (hI h2 y 13)] h2 (fun r9 h10 => ∃ v12, r9 = some (.int v12) ∧ Ex G d mX12_land 80 [(0, .ref y), (1, .int v12), (2, .int (nI t.2.1)), (3, .int (nI t.2.2.1)), (4, .int (nI (i + 1)))] [] h10 Q) := fun o => by
              rw [e13]
              refine r_fails M2 w2 (k := 5) rfl ⟨_, rfl, ng80 (1 + 8 * n + 5) _ _ _ _ ?_ ((lr F12).tr (FrI.sI (P := LwF y) h2 _ (Or.inl (Or.inl ⟨rfl, by omega⟩)))) (hI_eq _ _ _ _)⟩
              unfold landF
              rw [ht]
              exact @if_pos _ (Classical.propDecidable _) ⟨a, List.mem_of_getElem? ea', o⟩ _ _ _
            refine t_X12_land_80 (by omega) ⟨M2.1, fun z => ?_, fun _ => ⟨fun z => absurd z (by decide), fun _ => ⟨y + 9, d1, d2, ?_⟩⟩⟩
            · rw [q5, nI_le_iff (by omega) (by omega)] at z
              omega
            rw [p2, p3, cl_nI (by omega), cl_nI (by omega), h9.2.2.1, h9.2.2.2, nI_lt_iff (by omega) (by omega), nI_le_iff (by omega) (by omega), nI_S, d3]
            refine ⟨vin_nI (by omega) (by omega), fun z => out (Or.inl z), fun z => ⟨vin_nI (by omega) (by omega), fun z2 => ih (i + 1) (by omega) (fun j a' hj ha' => ?_), fun z2 => out (Or.inr (by omega))⟩⟩
            by_cases e : j = i
            · rw [e, ea'] at ha'
              obtain rfl := Option.some.inj ha'
              omega
            · exact C j a' (by omega) ha'
        rcases q4 with ⟨z1, z2, z3⟩ | ⟨z1, z2, z3, z4⟩
        · have p8 : (0 : Int32) ≤ nI t.2.1 := (nI_le_iff (a := 0) (by omega) (by omega)).mpr (by omega)
          rw [z2]
          refine ⟨fun _ => t_X12_land_59 ⟨M2.1, ?_⟩, fun z => absurd p8 z⟩
          rw [z2, z3]
          exact ⟨fun _ => loop _ 0 (Nat.zero_add _) (fun j a hj => by omega), fun z => absurd p8 z⟩
        · rw [z2]
          refine ⟨fun z => absurd z (by decide), fun _ => t_X12_land_59 ⟨M2.1, ?_⟩⟩
          rw [z2]
          refine ⟨fun z => absurd z (by decide), fun _ => ?_⟩
          have := loop _ 0 (Nat.zero_add _) (fun j a hj => by omega)
          rw [z3, z4] at this
          exact this
  exact fill 1600 0 hA rfl (FrI.rf _ hA) (fun u hu => by omega)
end LT
