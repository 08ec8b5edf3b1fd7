/-! ===== a land is read by the class ===== -/
def hsT (h : HP) (p i : Nat) (a : Rct) : Prop := tg h p i 0 = 1 ∧ tg h p i 1 = nI a.1 ∧ tg h p i 2 = nI a.2.1 ∧ tg h p i 3 = nI a.2.2.1 ∧ tg h p i 4 = nI a.2.2.2 ∧ tg h p i 5 = -1 ∧ tg h p i 6 = -1 ∧ tg h p i 7 = 0 ∧ tg h p i 8 = -1 ∧ tg h p i 9 = 0 ∧ tg h p i 10 = 0 ∧ tg h p i 11 = 0
def LdC (G : GG) (h : HP) (b p : Nat) (B : Nat → Int32) (n : Nat) (s : LSt) : Prop := TpS G h (b + 1) B n s.1 ∧ StSh G h p ∧ (Kd G h (b + 6) 2 ∧ hI h (b + 6) 0 = if s.2.2.2.1 then 1 else 0) ∧ (hI h p 0 = nI s.2.1 ∧ hI h p 1 = nI s.2.2.1 ∧ hI h p 2 = nI s.2.2.2.2.2.length ∧ hI h p 3 = 0) ∧ (∀ c, c < 1600 → hI h (p + 1) c = s.2.2.2.2.1 c) ∧ (∀ i a, s.2.2.2.2.2[i]? = some a → hsT h p i a) ∧ (∀ t, s.2.2.2.2.2.length ≤ t → t < 31 → tg h p t 0 = 0) ∧ ∀ e, e < 6 → hI h (p + 36 + e) 0 = 0
def LcF (b p a k : Nat) : Prop := (a = b + 1 ∧ 1 ≤ k) ∨ (b + 3 ≤ a ∧ a ≤ b + 6) ∨ (p ≤ a ∧ a < p + 42)
def ArF (b a k : Nat) : Prop := (a = b + 1 ∧ 1 ≤ k) ∨ (a = b + 6 ∧ 1 ≤ k)
section LC
variable {G : GG} {d : Nat} {b p : Nat} {B : Nat → Int32} {n : Nat} {Q : Option Value → HP → Prop}
theorem nxf_ar {a k : Nat} (z : NxF (b + 1) a k) : ArF b a k := by unfold NxF at z; unfold ArF; omega
theorem fa1_ar {a k : Nat} (z : Fa1 (b + 1) a k) : ArF b a k := by unfold Fa1 at z; unfold ArF; omega
theorem TpS.b6 {h : HP} {x k : Nat} {v : Int32} (S : TpS G h (b + 1) B n x) : TpS G (sI h (b + 6) k v) (b + 1) B n x := S.fi (P := fun a _ => a = b + 6) (FrI.sI h v rfl) (fun a k z => by omega)
theorem s_readArea {h : HP} {x : Nat} (hd : 2 ≤ d) (S : TpS G h (b + 1) B n x) (k6 : Kd G h (b + 6) 2) (h0 : ∀ e, areaR B n x = .inl e → ∀ h2, FrI (ArF b) h h2 → hI h2 (b + 1) 1 = nI e → Q (some (.int 0)) h2) (h1 : ∀ r q, areaR B n x = .inr (r, q) → ∀ h2, FrI (ArF b) h h2 → TpS G h2 (b + 1) B n q → hI h2 (b + 1) 1 = hI h (b + 1) 1 → (hI h2 (b + 6) 1 = nI r.1 ∧ hI h2 (b + 6) 2 = nI r.2.1 ∧ hI h2 (b + 6) 3 = nI r.2.2.1 ∧ hI h2 (b + 6) 4 = nI r.2.2.2) → Q (some (.int 1)) h2) : Cal G d mX2_readArea [.ref (b + 6), .ref (b + 1)] h Q := by
  have ar : ∀ (h : HP) (k : Nat) (v : Int32), 1 ≤ k → FrI (ArF b) h (sI h (b + 6) k v) := fun h k v hk => FrI.sI h v (Or.inr ⟨rfl, hk⟩)
  have t6 : ∀ (h : HP) (k : Nat) (v : Int32), hI (sI h (b + 6) k v) (b + 1) 1 = hI h (b + 1) 1 := fun h k v => hI_ne _ _ (Or.inl (by omega))
  refine e_X2_readArea (by omega) ⟨S.f.1, s_number (l := 0) (u := 40) (by omega) S (by omega) (by omega) (fun nk h2 F2 f2 => ⟨_, rfl, F2.kd k6, fun z => ?_, fun _ => h0 _ (by unfold areaR; rw [numR_bad nk]; rfl) _ ((F2.weak (fun a k z => fa1_ar z)).tr (ar h2 1 _ (by omega))) (by rw [t6]; exact f2)⟩) (fun ok h2 F2 S2 => ⟨_, rfl, F2.kd k6, fun _ => ?_, fun z => ?_⟩)⟩
  · rw [hI_eq] at z
    exact absurd rfl z
  rotate_left
  · rw [hI_eq, (numR_ok ok).2.1] at z
    have := (numR_ok ok).2.2.2
    exact absurd z (nI_ne_neg (by omega))
  obtain ⟨e1, v1, l1, u1⟩ := numR_ok ok
  have G2 : FrI (ArF b) h (sI h2 (b + 6) 1 (vlT B n x)) := (F2.weak (fun a k z => nxf_ar z)).tr (ar h2 1 _ (by omega))
  refine s_number (l := 0) (u := 40) (by omega) S2.b6 (by omega) (by omega) (fun nk h3 F3 f3 => ⟨_, rfl, fun z => ?_, fun _ => h0 _ (by unfold areaR; rw [e1]; simp only [sbind]; rw [numR_bad nk]) _ ((G2.tr (F3.weak (fun a k z => fa1_ar z))).tr (ar h3 2 _ (by omega))) (by rw [t6]; exact f3)⟩) (fun ok2 h3 F3 S3 => ⟨_, rfl, fun _ => ?_, fun z => ?_⟩)
  · rw [hI_eq] at z
    exact absurd rfl z
  rotate_left
  · rw [hI_eq, (numR_ok ok2).2.1] at z
    have := (numR_ok ok2).2.2.2
    exact absurd z (nI_ne_neg (by omega))
  obtain ⟨e2, v2, l2, u2⟩ := numR_ok ok2
  have G3 : FrI (ArF b) h (sI h3 (b + 6) 2 (vlT B n (nxP B n x))) := (G2.tr (F3.weak (fun a k z => nxf_ar z))).tr (ar h3 2 _ (by omega))
  have w1 : hI (sI h3 (b + 6) 2 (vlT B n (nxP B n x))) (b + 6) 1 = nI (nmv B n x) := by
    rw [hI_ne _ _ (Or.inr (by omega)), F3.i (by unfold NxF; omega), hI_eq, v1]
  rw [w1, nI_S]
  refine s_number (u := 40) (by omega) S3.b6 (by omega) (by omega) (fun nk h4 F4 f4 => ⟨_, rfl, fun z => ?_, fun _ => h0 _ (by unfold areaR; rw [e1]; simp only [sbind]; rw [e2]; simp only []; rw [numR_bad nk]) _ ((G3.tr (F4.weak (fun a k z => fa1_ar z))).tr (ar h4 3 _ (by omega))) (by rw [t6]; exact f4)⟩) (fun ok3 h4 F4 S4 => ⟨_, rfl, fun _ => ?_, fun z => ?_⟩)
  · rw [hI_eq] at z
    exact absurd rfl z
  rotate_left
  · rw [hI_eq, (numR_ok ok3).2.1] at z
    have := (numR_ok ok3).2.2.2
    exact absurd z (nI_ne_neg (by omega))
  obtain ⟨e3, v3, l3, u3⟩ := numR_ok ok3
  have G4 : FrI (ArF b) h (sI h4 (b + 6) 3 (vlT B n (nxP B n (nxP B n x)))) := (G3.tr (F4.weak (fun a k z => nxf_ar z))).tr (ar h4 3 _ (by omega))
  have w2 : hI (sI h4 (b + 6) 3 (vlT B n (nxP B n (nxP B n x)))) (b + 6) 2 = nI (nmv B n (nxP B n x)) := by
    rw [hI_ne _ _ (Or.inr (by omega)), F4.i (by unfold NxF; omega), hI_eq, v2]
  rw [w2, nI_S]
  refine s_number (u := 40) (by omega) S4.b6 (by omega) (by omega) (fun nk h5 F5 f5 => ⟨_, rfl, fun _ => h0 _ (by unfold areaR; rw [e1]; simp only [sbind]; rw [e2]; simp only []; rw [e3]; simp only []; rw [numR_bad nk]) _ ((G4.tr (F5.weak (fun a k z => fa1_ar z))).tr (ar h5 4 _ (by omega))) (by rw [t6]; exact f5), fun z => ?_⟩) (fun ok4 h5 F5 S5 => ⟨_, rfl, fun z => ?_, fun _ => ?_⟩)
  · rw [hI_eq] at z
    exact absurd rfl z
  · rw [hI_eq, (numR_ok ok4).2.1] at z
    have := (numR_ok ok4).2.2.2
    exact absurd z (nI_ne_neg (by omega))
  obtain ⟨e4, v4, l4, u4⟩ := numR_ok ok4
  refine h1 (nmv B n x, nmv B n (nxP B n x), nmv B n (nxP B n (nxP B n x)), nmv B n (nxP B n (nxP B n (nxP B n x)))) _ (by unfold areaR; rw [e1]; simp only [sbind]; rw [e2]; simp only []; rw [e3]; simp only []; rw [e4]) _ ((G4.tr (F5.weak (fun a k z => nxf_ar z))).tr (ar h5 4 _ (by omega))) S5.b6 (by rw [t6, F5.i (by unfold NxF; omega), t6, F4.i (by unfold NxF; omega), t6, F3.i (by unfold NxF; omega), t6, F2.i (by unfold NxF; omega)]) ⟨?_, ?_, ?_, ?_⟩
  · rw [hI_ne _ _ (Or.inr (by omega)), F5.i (by unfold NxF; omega), hI_ne _ _ (Or.inr (by omega)), F4.i (by unfold NxF; omega), w1]
  · rw [hI_ne _ _ (Or.inr (by omega)), F5.i (by unfold NxF; omega), w2]
  · rw [hI_ne _ _ (Or.inr (by omega)), F5.i (by unfold NxF; omega), hI_eq, v3]
  · rw [hI_eq, v4]
/-- cells of a rectangle are marked -/
theorem s_mark {h : HP} {r : Rct} {x2 x3 : Int32} {f : Int32 → Int32} {v : Nat → Int32} (hp : b + 35 ≤ p) (St : StSh G h p) (k6 : Kd G h (b + 6) 2) (RP : RctP r) (e6 : hI h (b + 6) 1 = nI r.1 ∧ hI h (b + 6) 2 = nI r.2.1 ∧ hI h (b + 6) 3 = nI r.2.2.1 ∧ hI h (b + 6) 4 = nI r.2.2.2) (hv : ∀ c, c < 1600 → hI h (p + 1) c = v c) (hf : ∀ c, ((v c) &&& x2) ||| x3 = f (v c)) (hQ : ∀ h2, FrI (fun a _ => a = p + 1) h h2 → (∀ c, c < 1600 → hI h2 (p + 1) c = mrk r f v c) → Q none h2) : Cal G d mX2_mark [.ref (b + 6), .ref p, .int x2, .int x3] h Q := by
  obtain ⟨q1, q2, q3, q4⟩ := e6
  unfold RctP at RP
  refine e_X2_mark ⟨k6, ?_⟩
  rw [q2]
  have fr : ∀ h1, FrI (fun a _ => a = p + 1) h h1 → StSh G h1 p ∧ Kd G h1 (b + 6) 2 ∧ hI h1 (b + 6) 1 = nI r.1 ∧ hI h1 (b + 6) 3 = nI r.2.2.1 ∧ hI h1 (b + 6) 4 = nI r.2.2.2 := fun h1 F => ⟨St.fr F, F.kd k6, (F.i (by omega)).trans q1, (F.i (by omega)).trans q3, (F.i (by omega)).trans q4⟩
  -- done ahead of (u, j)
  let Dn : HP → Nat → Nat → Prop := fun h1 u j => ∀ c, c < 1600 → (inRc r c → (c / 40 < j ∨ (c / 40 = j ∧ c % 40 < u)) → hI h1 (p + 1) c = f (v c)) ∧ (¬ (inRc r c ∧ (c / 40 < j ∨ (c / 40 = j ∧ c % 40 < u))) → hI h1 (p + 1) c = v c)
  have inner : ∀ j, r.2.1 ≤ j → j < r.2.2.2 → (∀ h1, FrI (fun a _ => a = p + 1) h h1 → Dn h1 r.1 (j + 1) → Ex G d mX2_mark 6 [(0, .ref (b + 6)), (1, .ref p), (2, .int x2), (3, .int x3), (4, .int (nI (j + 1)))] [] h1 Q) → ∀ m u h1, r.1 ≤ u → u + m = r.2.2.1 → FrI (fun a _ => a = p + 1) h h1 → Dn h1 u j → Ex G d mX2_mark 21 [(0, .ref (b + 6)), (1, .ref p), (2, .int x2), (3, .int x3), (4, .int (nI j)), (5, .int (nI u))] [] h1 Q := by
    intro j j1 j2 next m
    induction m with
    | zero =>
      intro u h1 hu hm F D
      obtain ⟨S1, k1, c1, c3, c4⟩ := fr h1 F
      refine t_X2_mark_21 ⟨k1, fun _ => ?_, fun z => ?_⟩
      · rw [nI_S]
        refine next h1 F (fun c hc => ⟨fun ic z => (D c hc).1 ic ?_, fun z => (D c hc).2 (fun y => z ⟨y.1, by omega⟩)⟩)
        unfold inRc at ic
        omega
      · rw [c3] at z
        exact absurd ((nI_le_iff (by omega) (by omega)).mpr (by omega)) z
    | succ m ih =>
      intro u h1 hu hm F D
      obtain ⟨S1, k1, c1, c3, c4⟩ := fr h1 F
      obtain ⟨a1, ⟨b1, -⟩, ⟨f1, f2⟩, -⟩ := S1
      have vi : vp_in (nI j * 40 + nI u) (hN h1 (p + 1)) := by rw [e40, f2]; exact vin_nI (by omega) (by omega)
      refine t_X2_mark_21 ⟨k1, fun z => ?_, fun _ => ⟨a1, p + 1, b1, f1, vi, vi, fun h9 g9 => ?_⟩⟩
      · rw [c3, nI_le_iff (by omega) (by omega)] at z
        omega
      · have old : hI h1 (p + 1) (40 * j + u) = v (40 * j + u) := (D _ (by omega)).2 (fun y => by omega)
        rw [e40, cl_nI (by omega), old, hf] at g9
        rw [nI_S]
        refine ih (u + 1) h9 (by omega) (by omega) (by rw [g9]; exact F.tr (FrI.sI h1 _ rfl)) (fun c hc => ?_)
        obtain ⟨d1, d2⟩ := D c hc
        rw [g9]
        by_cases e : c = 40 * j + u
        · rw [e, hI_eq]
          refine ⟨fun _ _ => rfl, fun z => absurd ⟨?_, by omega⟩ z⟩
          unfold inRc
          omega
        · rw [hI_ne _ _ (Or.inr e)]
          exact ⟨fun ic z => d1 ic (by omega), fun z => d2 (fun y => z ⟨y.1, by omega⟩)⟩
  have outer : ∀ m j h1, r.2.1 ≤ j → j + m = r.2.2.2 → FrI (fun a _ => a = p + 1) h h1 → Dn h1 r.1 j → Ex G d mX2_mark 6 [(0, .ref (b + 6)), (1, .ref p), (2, .int x2), (3, .int x3), (4, .int (nI j))] [] h1 Q := by
    intro m
    induction m with
    | zero =>
      intro j h1 hj hm F D
      obtain ⟨S1, k1, c1, c3, c4⟩ := fr h1 F
      refine t_X2_mark_6 ⟨k1, fun _ => hQ h1 F (fun c hc => ?_), fun z => ?_⟩
      · by_cases ic : inRc r c
        · rw [mrk_yes ic]
          exact (D c hc).1 ic (by unfold inRc at ic; omega)
        · rw [mrk_no ic]
          exact (D c hc).2 (fun y => ic y.1)
      · rw [c4] at z
        exact absurd ((nI_le_iff (by omega) (by omega)).mpr (by omega)) z
    | succ m ih =>
      intro j h1 hj hm F D
      obtain ⟨S1, k1, c1, c3, c4⟩ := fr h1 F
      refine t_X2_mark_6 ⟨k1, fun z => ?_, fun _ => ?_⟩
      · rw [c4, nI_le_iff (by omega) (by omega)] at z
        omega
      · rw [c1]
        exact inner j hj (by omega) (fun h2 F2 D2 => ih (j + 1) h2 (by omega) (by omega) F2 D2) (r.2.2.1 - r.1) r.1 h1 (Nat.le_refl _) (by omega) F D
  refine outer (r.2.2.2 - r.2.1) r.2.1 h (Nat.le_refl _) (by omega) (FrI.rf _ h) (fun c hc => ⟨fun ic z => ?_, fun _ => hv c hc⟩)
  unfold inRc at ic
  omega
theorem LdC.fr {h h2 : HP} {P : Nat → Nat → Prop} {s : LSt} {x : Nat} (L : LdC G h b p B n s) (hp : b + 35 ≤ p) (F : FrI P h h2) (hP : ∀ a k, P a k → ArF b a k) (S : TpS G h2 (b + 1) B n x) : LdC G h2 b p B n (x, s.2) := by
  obtain ⟨-, l2, ⟨l3, l3'⟩, ⟨l4, l5, l6, l7⟩, l8, l9, l10, l11⟩ := L
  have ei : ∀ a k, p ≤ a → hI h2 a k = hI h a k := fun a k ha => F.i (fun z => by have := hP a k z; unfold ArF at this; omega)
  refine ⟨S, l2.fr F, ⟨F.kd l3, (F.i (fun z => by have := hP _ _ z; unfold ArF at this; omega)).trans l3'⟩, ⟨(ei _ _ (by omega)).trans l4, (ei _ _ (by omega)).trans l5, (ei _ _ (by omega)).trans l6, (ei _ _ (by omega)).trans l7⟩, fun c hc => (ei _ _ (by omega)).trans (l8 c hc), fun i a ha => ?_, fun t h1 h2 => (ei _ _ (by omega)).trans (l10 t h1 h2), fun e he => (ei _ _ (by omega)).trans (l11 e he)⟩
  have := l9 i a ha
  unfold hsT tg at *
  simp only [ei _ _ (show p ≤ p + 5 + i by omega)]
  exact this
theorem s_clearC {h : HP} {x0 x1 x2 x3 : Nat} (h0 : x0 < 1000) (h1 : x1 < 1000) (h2 : x2 < 1000) (h3 : x3 < 1000) (q1 : (x1 < x2 ∨ x3 < x0) → Q (some (.int 1)) h) (q0 : ¬ (x1 < x2 ∨ x3 < x0) → Q (some (.int 0)) h) : Cal G d mX3_areClear [.int (nI x0), .int (nI x1), .int (nI x2), .int (nI x3)] h Q := by
  refine e_X3_areClear ?_
  unfold T_X3_areClear
  rw [nI_S, nI_S, nI_le_iff (by omega) (by omega), nI_lt_iff (by omega) (by omega)]
  exact ⟨fun z => q1 (by omega), fun z => ⟨fun z2 => q0 (by omega), fun z2 => q1 (by omega)⟩⟩
end LC
