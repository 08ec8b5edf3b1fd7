/-! ===== a land is read by the reference ===== -/
def AyF (y a k : Nat) : Prop := a = y ∧ (k = 13 ∨ k = 14 ∨ k = 15 ∨ (22 ≤ k ∧ k ≤ 25))
def LrF (y a k : Nat) : Prop := (a = y ∧ 8 ≤ k ∧ k ≤ 25) ∨ a = y + 4 ∨ a = y + 8 ∨ a = y + 9
def hsR (h : HP) (y i : Nat) (a : Rct) : Prop := hI h (y + 9) (4 * i) = nI a.1 ∧ hI h (y + 9) (4 * i + 1) = nI a.2.1 ∧ hI h (y + 9) (4 * i + 2) = nI a.2.2.1 ∧ hI h (y + 9) (4 * i + 3) = nI a.2.2.2
def LdR (G : GG) (h : HP) (y : Nat) (B : Nat → Int32) (n : Nat) (s : LSt) (m : Nat) : Prop := RdX G h y B n s.1 ∧ (hI h y 14 = 0 ∧ hI h y 16 = 12 ∧ hI h y 19 = nI m) ∧ ((s.2.2.2.1 = true ∧ hI h y 8 = nI s.2.1 ∧ hI h y 9 = nI s.2.2.1) ∨ (s.2.2.2.1 = false ∧ hI h y 8 = -1 ∧ s.2.1 = 20 ∧ s.2.2.1 = 20)) ∧ hI h y 10 = nI s.2.2.2.2.2.length ∧ (∀ c, c < 1600 → hI h (y + 8) c = s.2.2.2.2.1 c) ∧ ∀ i a, s.2.2.2.2.2[i]? = some a → hsR h y i a
/-- what must follow a reading with that result -/
def RQ (G : GG) (y : Nat) (B : Nat → Int32) (n m : Nat) (R : Nat ⊕ LSt) (h : HP) (Q : Option Value → HP → Prop) : Prop := (∀ e, R = .inl e → ∀ h2, FrI (LrF y) h h2 → hI h2 y 14 = nI e → Q (some (.int 0)) h2) ∧ ∀ t, R = .inr t → ∀ h2, FrI (LrF y) h h2 → LdR G h2 y B n t m → Q (some (.int 1)) h2
section LR
variable {G : GG} {d : Nat} {y : Nat} {B : Nat → Int32} {n : Nat} {Q : Option Value → HP → Prop}
theorem f135_ay {a k : Nat} (z : F135 y a k) : AyF y a k := by unfold F135 at z; unfold AyF; omega
theorem f13_ay {a k : Nat} (z : F13 y a k) : AyF y a k := by unfold F13 at z; unfold AyF; omega
theorem ay_lr {a k : Nat} (z : AyF y a k) : LrF y a k := by unfold AyF at z; unfold LrF; omega
theorem RdX.ay {h : HP} {x k : Nat} {v : Int32} (X : RdX G h y B n x) (hk : k ≠ 1 ∧ k ≠ 13) : RdX G (sI h y k v) y B n x := X.fi (P := fun a j => a = y ∧ j = k) (FrI.sI h v ⟨rfl, rfl⟩) (fun a j z => by omega)
theorem r_area {h : HP} {x : Nat} (hd : 2 ≤ d) (X : RdX G h y B n x) (w0 : hI h y 14 = 0) (h0 : ∀ e, areaR B n x = .inl e → ∀ h2, FrI (AyF y) h h2 → hI h2 y 14 = nI e → Q (some (.int 0)) h2) (h1 : ∀ r q, areaR B n x = .inr (r, q) → ∀ h2, FrI (AyF y) h h2 → RdX G h2 y B n q → hI h2 y 14 = 0 → (hI h2 y 22 = nI r.1 ∧ hI h2 y 23 = nI r.2.1 ∧ hI h2 y 24 = nI r.2.2.1 ∧ hI h2 y 25 = nI r.2.2.2) → Q (some (.int 1)) h2) : Cal G d mX12_area [.ref y] h Q := by
  have ar : ∀ (h : HP) (k : Nat) (v : Int32), (22 ≤ k ∧ k ≤ 25) → FrI (AyF y) h (sI h y k v) := fun h k v hk => FrI.sI h v ⟨rfl, by omega⟩
  refine e_X12_area (by omega) ⟨X.1.1, r_numberHere (l := 0) (u := 40) (by omega) X w0 (by omega) (by omega) (fun nk h2 F2 f2 _ => ⟨_, rfl, fun z => absurd rfl z, fun _ => h0 _ (by unfold areaR; rw [numR_bad nk]; rfl) _ (F2.weak (fun a k z => f135_ay z)) f2⟩) (fun ok h2 F2 X2 v2 w2 => ⟨_, rfl, fun _ => ?_, fun z => absurd z (by decide)⟩)⟩
  obtain ⟨e1, v1, l1, u1⟩ := numR_ok ok
  rw [v1] at v2
  have G2 : FrI (AyF y) h (sI h2 y 22 (hI h2 y 15)) := (F2.weak (fun a k z => f135_ay z)).tr (ar h2 22 _ (by omega))
  refine r_numberHere (l := 0) (u := 40) (by omega) (X2.ay (by omega)) ((hI_ne _ _ (Or.inr (by omega))).trans w2) (by omega) (by omega) (fun nk h3 F3 f3 _ => ⟨_, rfl, fun z => absurd rfl z, fun _ => h0 _ (by unfold areaR; rw [e1]; simp only [sbind]; rw [numR_bad nk]) _ (G2.tr (F3.weak (fun a k z => f135_ay z))) f3⟩) (fun ok2 h3 F3 X3 v3 w3 => ⟨_, rfl, fun _ => ?_, fun z => absurd z (by decide)⟩)
  obtain ⟨e2, v2', l2, u2⟩ := numR_ok ok2
  rw [v2'] at v3
  have G3 : FrI (AyF y) h (sI h3 y 23 (hI h3 y 15)) := (G2.tr (F3.weak (fun a k z => f135_ay z))).tr (ar h3 23 _ (by omega))
  have q22 : hI (sI h3 y 23 (hI h3 y 15)) y 22 = nI (nmv B n x) := by
    rw [hI_ne _ _ (Or.inr (by omega)), F3.i (by unfold F135; omega), hI_eq, v2]
  rw [q22, nI_S]
  refine r_numberHere (u := 40) (by omega) (X3.ay (by omega)) ((hI_ne _ _ (Or.inr (by omega))).trans w3) (by omega) (by omega) (fun nk h4 F4 f4 _ => ⟨_, rfl, fun z => absurd rfl z, fun _ => h0 _ (by unfold areaR; rw [e1]; simp only [sbind]; rw [e2]; simp only []; rw [numR_bad nk]) _ (G3.tr (F4.weak (fun a k z => f135_ay z))) f4⟩) (fun ok3 h4 F4 X4 v4 w4 => ⟨_, rfl, fun _ => ?_, fun z => absurd z (by decide)⟩)
  obtain ⟨e3, v3', l3, u3⟩ := numR_ok ok3
  rw [v3'] at v4
  have G4 : FrI (AyF y) h (sI h4 y 24 (hI h4 y 15)) := (G3.tr (F4.weak (fun a k z => f135_ay z))).tr (ar h4 24 _ (by omega))
  have q23 : hI (sI h4 y 24 (hI h4 y 15)) y 23 = nI (nmv B n (nxP B n x)) := by
    rw [hI_ne _ _ (Or.inr (by omega)), F4.i (by unfold F135; omega), hI_eq, v3]
  rw [q23, nI_S]
  refine r_numberHere (u := 40) (by omega) (X4.ay (by omega)) ((hI_ne _ _ (Or.inr (by omega))).trans w4) (by omega) (by omega) (fun nk h5 F5 f5 _ => ⟨_, rfl, fun z => absurd rfl z, fun _ => h0 _ (by unfold areaR; rw [e1]; simp only [sbind]; rw [e2]; simp only []; rw [e3]; simp only []; rw [numR_bad nk]) _ (G4.tr (F5.weak (fun a k z => f135_ay z))) f5⟩) (fun ok4 h5 F5 X5 v5 w5 => ⟨_, rfl, fun _ => ?_, fun z => absurd z (by decide)⟩)
  obtain ⟨e4, v4', l4, u4⟩ := numR_ok ok4
  rw [v4'] at v5
  refine h1 (nmv B n x, nmv B n (nxP B n x), nmv B n (nxP B n (nxP B n x)), nmv B n (nxP B n (nxP B n (nxP B n x)))) _ (by unfold areaR; rw [e1]; simp only [sbind]; rw [e2]; simp only []; rw [e3]; simp only []; rw [e4]) _ ((G4.tr (F5.weak (fun a k z => f135_ay z))).tr (ar h5 25 _ (by omega))) (X5.ay (by omega)) ((hI_ne _ _ (Or.inr (by omega))).trans w5) ⟨?_, ?_, ?_, ?_⟩
  · rw [hI_ne _ _ (Or.inr (by omega)), F5.i (by unfold F135; omega), hI_ne _ _ (Or.inr (by omega)), F4.i (by unfold F135; omega), q22]
  · rw [hI_ne _ _ (Or.inr (by omega)), F5.i (by unfold F135; omega), q23]
  · rw [hI_ne _ _ (Or.inr (by omega)), F5.i (by unfold F135; omega), hI_eq, v4]
  · rw [hI_eq, v5]
/-- cells of a rectangle are marked, one after another -/
theorem mk_gen {A : Nat} {h : HP} {r : Rct} {f : Int32 → Int32} {v : Nat → Int32} (RP : RctP r) (O : HP → Nat → Prop) (I : HP → Nat → Nat → Prop) (QQ : HP → Prop) (hv : ∀ c, c < 1600 → hI h A c = v c) (o : ∀ h1 j, FrI (fun a _ => a = A) h h1 → j ≤ r.2.2.2 → (r.2.2.2 ≤ j → QQ h1) → (j < r.2.2.2 → I h1 r.1 j) → O h1 j) (i : ∀ h1 u j, FrI (fun a _ => a = A) h h1 → j < r.2.2.2 → u ≤ r.2.2.1 → (r.2.2.1 ≤ u → O h1 (j + 1)) → (u < r.2.2.1 → hI h1 A (40 * j + u) = v (40 * j + u) ∧ I (sI h1 A (40 * j + u) (f (v (40 * j + u)))) (u + 1) j) → I h1 u j) (q : ∀ h1, FrI (fun a _ => a = A) h h1 → (∀ c, c < 1600 → hI h1 A c = mrk r f v c) → QQ h1) : O h r.2.1 := by
  unfold RctP at RP
  let Dn : HP → Nat → Nat → Prop := fun h1 u j => ∀ c, c < 1600 → (inRc r c → (c / 40 < j ∨ (c / 40 = j ∧ c % 40 < u)) → hI h1 A c = f (v c)) ∧ (¬ (inRc r c ∧ (c / 40 < j ∨ (c / 40 = j ∧ c % 40 < u))) → hI h1 A c = v c)
  have inner : ∀ j, r.2.1 ≤ j → j < r.2.2.2 → (∀ h1, FrI (fun a _ => a = A) h h1 → Dn h1 r.1 (j + 1) → O h1 (j + 1)) → ∀ m u h1, r.1 ≤ u → u + m = r.2.2.1 → FrI (fun a _ => a = A) h h1 → Dn h1 u j → I h1 u j := by
    intro j j1 j2 next m
    induction m with
    | zero =>
      intro u h1 hu hm F D
      refine i h1 u j F j2 (by omega) (fun _ => ?_) (fun z => by omega)
      refine next h1 F (fun c hc => ⟨fun ic z => (D c hc).1 ic ?_, fun z => (D c hc).2 (fun y => z ⟨y.1, by omega⟩)⟩)
      unfold inRc at ic
      omega
    | succ m ih =>
      intro u h1 hu hm F D
      have old : hI h1 A (40 * j + u) = v (40 * j + u) := (D _ (by omega)).2 (fun y => by omega)
      refine i h1 u j F j2 (by omega) (fun z => by omega) (fun _ => ⟨old, ih (u + 1) _ (by omega) (by omega) (F.tr (FrI.sI h1 _ rfl)) (fun c hc => ?_)⟩)
      obtain ⟨d1, d2⟩ := D c hc
      by_cases e : c = 40 * j + u
      · rw [e, hI_eq]
        refine ⟨fun _ _ => rfl, fun z => absurd ⟨?_, by omega⟩ z⟩
        unfold inRc
        omega
      · rw [hI_ne _ _ (Or.inr e)]
        exact ⟨fun ic z => d1 ic (by omega), fun z => d2 (fun y => z ⟨y.1, by omega⟩)⟩
  have outer : ∀ m j h1, r.2.1 ≤ j → j + m = r.2.2.2 → FrI (fun a _ => a = A) h h1 → Dn h1 r.1 j → O h1 j := by
    intro m
    induction m with
    | zero =>
      intro j h1 hj hm F D
      refine o h1 j F (by omega) (fun _ => q h1 F (fun c hc => ?_)) (fun z => by omega)
      by_cases ic : inRc r c
      · rw [mrk_yes ic]
        exact (D c hc).1 ic (by unfold inRc at ic; omega)
      · rw [mrk_no ic]
        exact (D c hc).2 (fun y => ic y.1)
    | succ m ih =>
      intro j h1 hj hm F D
      exact o h1 j F (by omega) (fun z => by omega) (fun _ => inner j hj (by omega) (fun h2 F2 D2 => ih (j + 1) h2 (by omega) (by omega) F2 D2) (r.2.2.1 - r.1) r.1 h1 (Nat.le_refl _) (by omega) F D)
  refine outer (r.2.2.2 - r.2.1) r.2.1 h (Nat.le_refl _) (by omega) (FrI.rf _ h) (fun c hc => ⟨fun ic z => ?_, fun _ => hv c hc⟩)
  unfold inRc at ic
  omega
theorem MdSh.ld {h : HP} (M : MdSh G h y) : (hR h y 11 = some (y + 8) ∧ Kd G h (y + 8) 14 ∧ hN h (y + 8) = 1600) ∧ (hR h y 12 = some (y + 9) ∧ Kd G h (y + 9) 14 ∧ hN h (y + 9) = 24) ∧ (hR h y 4 = some (y + 4) ∧ Kd G h (y + 4) 14 ∧ hN h (y + 4) = 13) := ⟨M.2 (11, 8, 14, 1600) (by decide), M.2 (12, 9, 14, 24) (by decide), M.2 (4, 4, 14, 13) (by decide)⟩
theorem LdR.fr {h h2 : HP} {P : Nat → Nat → Prop} {s : LSt} {x m : Nat} (L : LdR G h y B n s m) (F : FrI P h h2) (hP : ∀ a k, P a k → AyF y a k) (X : RdX G h2 y B n x) (w : hI h2 y 14 = 0) : LdR G h2 y B n (x, s.2) m := by
  obtain ⟨-, ⟨-, l2, l3⟩, l4, l5, l6, l7⟩ := L
  have ei : ∀ a k, ¬ AyF y a k → hI h2 a k = hI h a k := fun a k ha => F.i (fun z => ha (hP a k z))
  have e8 : hI h2 y 8 = hI h y 8 := ei _ _ (by unfold AyF; omega)
  have e9 : hI h2 y 9 = hI h y 9 := ei _ _ (by unfold AyF; omega)
  refine ⟨X, ⟨w, (ei _ _ (by unfold AyF; omega)).trans l2, (ei _ _ (by unfold AyF; omega)).trans l3⟩, ?_, (ei _ _ (by unfold AyF; omega)).trans l5, fun c hc => (ei _ _ (by unfold AyF; omega)).trans (l6 c hc), fun i a ha => ?_⟩
  · rw [e8, e9]
    exact l4
  · have := l7 i a ha
    have e : ∀ k, hI h2 (y + 9) k = hI h (y + 9) k := fun k => ei _ _ (by unfold AyF; omega)
    unfold hsR at *
    simp only [e]
    exact this
theorem LdR.cells {h h2 : HP} {s : LSt} {m : Nat} {v : Nat → Int32} (L : LdR G h y B n s m) (F : FrI (fun a _ => a = y + 8) h h2) (hv : ∀ c, c < 1600 → hI h2 (y + 8) c = v c) : LdR G h2 y B n (s.1, s.2.1, s.2.2.1, s.2.2.2.1, v, s.2.2.2.2.2) m := by
  obtain ⟨l0, ⟨l1, l2, l3⟩, l4, l5, l6, l7⟩ := L
  have ei : ∀ a k, a ≠ y + 8 → hI h2 a k = hI h a k := fun a k ha => F.i ha
  have e8 : hI h2 y 8 = hI h y 8 := ei _ _ (by omega)
  have e9 : hI h2 y 9 = hI h y 9 := ei _ _ (by omega)
  refine ⟨l0.fi F (fun a k z => by omega), ⟨(ei _ _ (by omega)).trans l1, (ei _ _ (by omega)).trans l2, (ei _ _ (by omega)).trans l3⟩, ?_, (ei _ _ (by omega)).trans l5, hv, fun i a ha => ?_⟩
  · rw [e8, e9]
    exact l4
  · have := l7 i a ha
    have e : ∀ k, hI h2 (y + 9) k = hI h (y + 9) k := fun k => ei _ _ (by omega)
    unfold hsR at *
    simp only [e]
    exact this
theorem r_riverHere {h : HP} {s : LSt} {m : Nat} (hd : 3 ≤ d) (E : RdE G h y B n s.1) (k1 : kdT B n s.1 = 1) (L : LdR G h y B n s m) (R : RQ G y B n m (sbind (areaR B n (nxP B n s.1)) (fun r => .inr (r.2, s.2.1, s.2.2.1, s.2.2.2.1, mrk r.1 (fun v => v ||| 128) s.2.2.2.2.1, s.2.2.2.2.2))) h Q) : Cal G d mX12_isRiverHere [.ref y] h Q := by
  have x1 := (at_nx (B := B) L.1.at.1).1
  refine e_X12_isRiverHere (by omega) ⟨E.1.1, r_passWord (by omega) E k1 (fun h2 F2 X2 _ => ⟨rfl, r_area (by omega) X2 ((F2.i (by unfold F13; omega)).trans L.2.1.1) (fun e ea h3 F3 f3 => ⟨_, rfl, fun z => absurd rfl z, fun _ => R.1 e (by rw [ea]; rfl) h3 (((F2.weak (fun a k z => f13_ay z)).tr F3).weak (fun a k z => ay_lr z)) f3⟩) (fun r q ea h3 F3 X3 w3 e3 => ⟨_, rfl, fun _ => ?_, fun z => absurd z (by decide)⟩)⟩)⟩
  have G3 := (F2.weak (fun a k z => f13_ay z)).tr F3
  have L3 := L.fr G3 (fun a k z => z) X3 w3
  have RP := (areaR_inr x1 ea).1
  have RP' := RP
  unfold RctP at RP'
  rw [e3.2.1]
  refine mk_gen (A := y + 8) (f := fun v => v ||| 128) (v := s.2.2.2.2.1) RP (fun h1 j => Ex G d mX12_isRiverHere 18 [(0, .ref y), (1, .int (nI j))] [] h1 Q) (fun h1 u j => Ex G d mX12_isRiverHere 31 [(0, .ref y), (1, .int (nI j)), (2, .int (nI u))] [] h1 Q) (fun h1 => Q (some (.int 1)) h1) L3.2.2.2.2.1 (fun h1 j F hj a b => ?_) (fun h1 u j F hj hu a b => ?_) (fun h4 F4 v4 => ?_)
  · have e25 : hI h1 y 25 = nI r.2.2.2 := (F.i (by omega)).trans e3.2.2.2
    have e22 : hI h1 y 22 = nI r.1 := (F.i (by omega)).trans e3.1
    refine t_X12_isRiverHere_18 ⟨F.kd X3.1.1, ?_⟩
    rw [e25, e22, nI_le_iff (by omega) (by omega)]
    exact ⟨fun z => a z, fun z => b (by omega)⟩
  · have e24 : hI h1 y 24 = nI r.2.2.1 := (F.i (by omega)).trans e3.2.2.1
    obtain ⟨⟨m1, m2, m3⟩, -⟩ := (X3.1.fr F).ld
    refine t_X12_isRiverHere_31 ⟨F.kd X3.1.1, ?_⟩
    rw [e24, nI_le_iff (by omega) (by omega), nI_S, nI_S, e40']
    have vi : ¬ r.2.2.1 ≤ u → vp_in (nI (40 * j + u)) (hN h1 (y + 8)) := fun z => by rw [m3]; exact vin_nI (by omega) (by omega)
    refine ⟨fun z => a z, fun z => ⟨y + 8, m1, m2, vi z, vi z, fun h8 g8 => ?_⟩⟩
    rw [cl_nI (by omega), (b (by omega)).1] at g8
    rw [g8]
    exact (b (by omega)).2
  · exact R.2 _ (by rw [ea]; rfl) h4 ((G3.weak (fun a k z => ay_lr z)).tr (F4.weak (fun a k z => by unfold LrF; omega))) (L3.cells F4 v4)
theorem r_isWorthy {h : HP} {s : LSt} {m : Nat} (hd : 3 ≤ d) (E : RdE G h y B n s.1) (k1 : kdT B n s.1 = 1) (L : LdR G h y B n s m) (R : RQ G y B n m (sbind (numR B n (nxP B n s.1) 0 99) (fun a => sbind (areaR B n a.2) (fun r => .inr (r.2, s.2.1, s.2.2.1, s.2.2.2.1, mrk r.1 (fun v => v / 128 * 128 + nI a.1) s.2.2.2.2.1, s.2.2.2.2.2)))) h Q) : Cal G d mX12_isWorth [.ref y] h Q := by
  have x1 := (at_nx (B := B) L.1.at.1).1
  refine e_X12_isWorth (by omega) ⟨E.1.1, r_passWord (by omega) E k1 (fun h2 F2 X2 _ => ⟨rfl, r_numberHere (l := 0) (u := 99) (by omega) X2 ((F2.i (by unfold F13; omega)).trans L.2.1.1) (by omega) (by omega) (fun nk h3 F3 f3 _ => ⟨_, rfl, fun z => absurd rfl z, fun _ => R.1 _ (by rw [numR_bad nk]; rfl) h3 (((F2.weak (fun a k z => f13_ay z)).tr (F3.weak (fun a k z => f135_ay z))).weak (fun a k z => ay_lr z)) f3⟩) (fun ok h3 F3 X3 v3 w3 => ⟨_, rfl, fun _ => ?_, fun z => absurd z (by decide)⟩)⟩)⟩
  obtain ⟨e1, v1, l1, u1⟩ := numR_ok ok
  rw [v1] at v3
  rw [v3]
  have G3 := (F2.weak (fun a k z => f13_ay z)).tr (F3.weak (fun a k z => f135_ay z))
  refine r_area (by omega) X3 w3 (fun e ea h4 F4 f4 => ⟨_, rfl, fun z => absurd rfl z, fun _ => R.1 e (by rw [e1]; simp only [sbind]; rw [ea]) h4 ((G3.tr F4).weak (fun a k z => ay_lr z)) f4⟩) (fun r q ea h4 F4 X4 w4 e4 => ⟨_, rfl, fun _ => ?_, fun z => absurd z (by decide)⟩)
  have G4 := G3.tr F4
  have L4 := L.fr G4 (fun a k z => z) X4 w4
  have RP := (areaR_inr (at_nx x1).1 ea).1
  have RP' := RP
  unfold RctP at RP'
  rw [e4.2.1]
  refine mk_gen (A := y + 8) (f := fun v => v / 128 * 128 + nI (nmv B n (nxP B n s.1))) (v := s.2.2.2.2.1) RP (fun h1 j => Ex G d mX12_isWorth 35 [(0, .ref y), (1, .int (nI (nmv B n (nxP B n s.1)))), (2, .int (nI j))] [] h1 Q) (fun h1 u j => Ex G d mX12_isWorth 48 [(0, .ref y), (1, .int (nI (nmv B n (nxP B n s.1)))), (2, .int (nI j)), (3, .int (nI u))] [] h1 Q) (fun h1 => Q (some (.int 1)) h1) L4.2.2.2.2.1 (fun h1 j F hj a b => ?_) (fun h1 u j F hj hu a b => ?_) (fun h5 F5 v5 => ?_)
  · have e25 : hI h1 y 25 = nI r.2.2.2 := (F.i (by omega)).trans e4.2.2.2
    have e22 : hI h1 y 22 = nI r.1 := (F.i (by omega)).trans e4.1
    refine t_X12_isWorth_35 ⟨F.kd X4.1.1, ?_⟩
    rw [e25, e22, nI_le_iff (by omega) (by omega)]
    exact ⟨fun z => a z, fun z => b (by omega)⟩
  · have e24 : hI h1 y 24 = nI r.2.2.1 := (F.i (by omega)).trans e4.2.2.1
    obtain ⟨⟨m1, m2, m3⟩, -⟩ := (X4.1.fr F).ld
    refine t_X12_isWorth_48 ⟨F.kd X4.1.1, ?_⟩
    rw [e24, nI_le_iff (by omega) (by omega), nI_S, nI_S, e40']
    have vi : ¬ r.2.2.1 ≤ u → vp_in (nI (40 * j + u)) (hN h1 (y + 8)) := fun z => by rw [m3]; exact vin_nI (by omega) (by omega)
    refine ⟨fun z => a z, fun z => ⟨y + 8, m1, m2, vi z, vi z, fun h8 g8 => ?_⟩⟩
    rw [cl_nI (by omega), (b (by omega)).1] at g8
    rw [g8]
    exact (b (by omega)).2
  · exact R.2 _ (by rw [e1]; simp only [sbind]; rw [ea]) h5 ((G4.weak (fun a k z => ay_lr z)).tr (F5.weak (fun a k z => by unfold LrF; omega))) (L4.cells F5 v5)
end LR
