/-! ===== a land is read by the class: clauses ===== -/
section LD
variable {G : GG} {d : Nat} {b p : Nat} {B : Nat → Int32} {n : Nat} {Q : Option Value → HP → Prop}
/-- what must follow a reading with that result -/
def RC (G : GG) (b p : Nat) (B : Nat → Int32) (n : Nat) (R : Nat ⊕ LSt) (h : HP) (Q : Option Value → HP → Prop) : Prop := (∀ e, R = .inl e → ∀ h2, FrI (LcF b p) h h2 → hI h2 (b + 1) 1 = nI e → Q (some (.int 0)) h2) ∧ ∀ t, R = .inr t → ∀ h2, FrI (LcF b p) h h2 → hI h2 (b + 1) 1 = hI h (b + 1) 1 → LdC G h2 b p B n t → Q (some (.int 1)) h2
theorem ar_lc {a k : Nat} (z : ArF b a k) : LcF b p a k := by unfold ArF at z; unfold LcF; omega
theorem fa1_lc {a k : Nat} (z : Fa1 (b + 1) a k) : LcF b p a k := ar_lc (fa1_ar z)
theorem nxf_lc {a k : Nat} (z : NxF (b + 1) a k) : LcF b p a k := ar_lc (nxf_ar z)
theorem s_readWide {h : HP} {s : LSt} {x : Nat} (hd : 2 ≤ d) (hp : b + 35 ≤ p) (L : LdC G h b p B n (x, s.2)) (R : RC G b p B n (sbind (numR B n x 5 40) (fun a => sbind (numR B n a.2 5 40) (fun c => .inr (c.2, a.1, c.1, true, s.2.2.2.2)))) h Q) : Cal G d mX2_readWide [.ref (b + 6), .ref (b + 1), .ref p] h Q := by
  obtain ⟨S, l2, ⟨l3, l3'⟩, ⟨l4, l5, l6, l7⟩, l8, l9, l10, l11⟩ := L
  replace S : TpS G h (b + 1) B n x := S
  have Fw : FrI (LcF b p) h (sI h (b + 6) 0 1) := FrI.sI h _ (Or.inr (Or.inl ⟨by omega, by omega⟩))
  refine e_X2_readWide (by omega) ⟨l3, S.f.1, s_number (l := 5) (u := 40) (by omega) S.b6 (by omega) (by omega) (fun nk h2 F2 f2 => ⟨_, rfl, fun z => absurd rfl z, fun _ => R.1 _ (by rw [numR_bad nk]; rfl) h2 (Fw.tr (F2.weak (fun a k z => fa1_lc z))) f2⟩) (fun ok h2 F2 S2 => ⟨_, rfl, fun _ => ?_, fun z => ?_⟩)⟩
  rotate_left
  · rw [(numR_ok ok).2.1] at z
    have := (numR_ok ok).2.2.2
    exact absurd z (nI_ne_neg (by omega))
  obtain ⟨e1, v1, l1, u1⟩ := numR_ok ok
  have G2 := Fw.tr (F2.weak (fun a k z => nxf_lc (p := p) z))
  refine s_number (l := 5) (u := 40) (by omega) S2 (by omega) (by omega) (fun nk h3 F3 f3 => ⟨_, rfl, fun z => absurd rfl z, fun _ => R.1 _ (by rw [e1]; simp only [sbind]; rw [numR_bad nk]) h3 (G2.tr (F3.weak (fun a k z => fa1_lc z))) f3⟩) (fun ok2 h3 F3 S3 => ⟨_, rfl, fun _ => ?_, fun z => ?_⟩)
  rotate_left
  · rw [(numR_ok ok2).2.1] at z
    have := (numR_ok ok2).2.2.2
    exact absurd z (nI_ne_neg (by omega))
  obtain ⟨e2, v2, l2', u2⟩ := numR_ok ok2
  have G3 := G2.tr (F3.weak (fun a k z => nxf_lc (p := p) z))
  have lw : ∀ (h : HP) k v, FrI (LcF b p) h (sI h p k v) := fun h k v => FrI.sI h v (Or.inr (Or.inr ⟨by omega, by omega⟩))
  have lp : ∀ (h : HP) k v, FrI (fun a _ => a = p) h (sI h p k v) := fun h k v => FrI.sI h v rfl
  have ei : ∀ a k, p ≤ a → hI h3 a k = hI h a k := fun a k ha => by rw [F3.i (by unfold NxF; omega), F2.i (by unfold NxF; omega), hI_ne _ _ (Or.inl (by omega))]
  rw [v1, v2]
  refine ⟨G3.kd l2.1, R.2 (nxP B n (nxP B n x), nmv B n x, nmv B n (nxP B n x), true, s.2.2.2.2) (by rw [e1]; simp only [sbind]; rw [e2]) _ ((G3.tr (lw h3 0 _)).tr (lw _ 1 _)) (by rw [hI_ne _ _ (Or.inl (by omega)), hI_ne _ _ (Or.inl (by omega)), F3.i (by unfold NxF; omega), F2.i (by unfold NxF; omega), hI_ne _ _ (Or.inl (by omega))]) ⟨S3.fi ((lp h3 0 _).tr (lp _ 1 _)) (fun a k z => by omega), (l2.fr G3).fr ((lp h3 0 _).tr (lp _ 1 _)), ⟨G3.kd l3, ?_⟩, ⟨?_, ?_, ?_, ?_⟩, fun c hc => ?_, fun i a ha => ?_, fun t h1 h2 => ?_, fun e he => ?_⟩⟩
  · rw [hI_ne _ _ (Or.inl (by omega)), hI_ne _ _ (Or.inl (by omega)), F3.i (by unfold NxF; omega), F2.i (by unfold NxF; omega), hI_eq]
    rfl
  · rw [hI_ne _ _ (Or.inr (by omega)), hI_eq]
  · rw [hI_eq]
  · rw [hI_ne _ _ (Or.inr (by omega)), hI_ne _ _ (Or.inr (by omega)), ei _ _ (by omega)]
    exact l6
  · rw [hI_ne _ _ (Or.inr (by omega)), hI_ne _ _ (Or.inr (by omega)), ei _ _ (by omega)]
    exact l7
  · rw [hI_ne _ _ (Or.inl (by omega)), hI_ne _ _ (Or.inl (by omega)), ei _ _ (by omega)]
    exact l8 c hc
  · have := l9 i a ha
    have e : ∀ k, tg (sI (sI h3 p 0 (nI (nmv B n x))) p 1 (nI (nmv B n (nxP B n x)))) p i k = tg h p i k := fun k => by
      unfold tg
      rw [hI_ne _ _ (Or.inl (by omega)), hI_ne _ _ (Or.inl (by omega)), ei _ _ (by omega)]
    unfold hsT at this ⊢
    simp only [e]
    exact this
  · unfold tg
    rw [hI_ne _ _ (Or.inl (by omega)), hI_ne _ _ (Or.inl (by omega)), ei _ _ (by omega)]
    exact l10 t h1 h2
  · rw [hI_ne _ _ (Or.inl (by omega)), hI_ne _ _ (Or.inl (by omega)), ei _ _ (by omega)]
    exact l11 e he
/-- other cells alone -/
theorem LdC.cells {h h2 : HP} {s : LSt} {v : Nat → Int32} (L : LdC G h b p B n s) (hp : b + 35 ≤ p) (F : FrI (fun a _ => a = p + 1) h h2) (hv : ∀ c, c < 1600 → hI h2 (p + 1) c = v c) : LdC G h2 b p B n (s.1, s.2.1, s.2.2.1, s.2.2.2.1, v, s.2.2.2.2.2) := by
  obtain ⟨S, l2, ⟨l3, l3'⟩, ⟨l4, l5, l6, l7⟩, l8, l9, l10, l11⟩ := L
  have ei : ∀ a k, a ≠ p + 1 → hI h2 a k = hI h a k := fun a k ha => F.i ha
  refine ⟨S.fi F (fun a k z => by omega), l2.fr F, ⟨F.kd l3, (ei _ _ (by omega)).trans l3'⟩, ⟨(ei _ _ (by omega)).trans l4, (ei _ _ (by omega)).trans l5, (ei _ _ (by omega)).trans l6, (ei _ _ (by omega)).trans l7⟩, hv, fun i a ha => ?_, fun t h1 h2 => (ei _ _ (by omega)).trans (l10 t h1 h2), fun e he => (ei _ _ (by omega)).trans (l11 e he)⟩
  have := l9 i a ha
  have e : ∀ k, tg h2 p i k = tg h p i k := fun k => ei _ _ (by omega)
  unfold hsT at this ⊢
  simp only [e]
  exact this
theorem s_readRiver {h : HP} {s : LSt} {x : Nat} (hd : 3 ≤ d) (hp : b + 35 ≤ p) (hx : x ≤ n) (L : LdC G h b p B n (x, s.2)) (hr : ∀ c, rng (s.2.2.2.2.1 c) 0 511) (R : RC G b p B n (sbind (areaR B n x) (fun r => .inr (r.2, s.2.1, s.2.2.1, s.2.2.2.1, mrk r.1 (fun v => v ||| 128) s.2.2.2.2.1, s.2.2.2.2.2))) h Q) : Cal G d mX2_readRiver [.ref (b + 6), .ref (b + 1), .ref p] h Q := by
  have L' := L
  obtain ⟨S, l2, ⟨l3, l3'⟩, -, l8, -⟩ := L
  replace S : TpS G h (b + 1) B n x := S
  refine e_X2_readRiver (by omega) ⟨l3, s_readArea (by omega) S l3 (fun e ea h2 F2 f2 => ⟨_, rfl, fun z => absurd rfl z, fun _ => R.1 e (by rw [ea]; rfl) h2 (F2.weak (fun a k z => ar_lc z)) f2⟩) (fun r q ea h2 F2 S2 t2 e6 => ⟨_, rfl, fun _ => ?_, fun z => absurd z (by decide)⟩)⟩
  have L2 := L'.fr hp F2 (fun a k z => z) S2
  refine s_mark (f := fun v => v ||| 128) (v := s.2.2.2.2.1) hp (l2.fr F2) (F2.kd l3) (areaR_inr hx ea).1 e6 L2.2.2.2.2.1 (fun c => (put_river (hr c)).1) (fun h3 F3 v3 => ⟨rfl, R.2 _ (by rw [ea]; rfl) h3 ((F2.weak (fun a k z => ar_lc z)).tr (F3.weak (fun a k z => by unfold LcF; omega))) ((F3.i (by omega)).trans t2) ?_⟩)
  exact L2.cells hp F3 v3
theorem s_readWorth {h : HP} {s : LSt} {x : Nat} (hd : 3 ≤ d) (hp : b + 35 ≤ p) (hx : x ≤ n) (L : LdC G h b p B n (x, s.2)) (hr : ∀ c, rng (s.2.2.2.2.1 c) 0 511) (R : RC G b p B n (sbind (numR B n x 0 99) (fun a => sbind (areaR B n a.2) (fun r => .inr (r.2, s.2.1, s.2.2.1, s.2.2.2.1, mrk r.1 (fun v => v / 128 * 128 + nI a.1) s.2.2.2.2.1, s.2.2.2.2.2)))) h Q) : Cal G d mX2_readWorth [.ref (b + 6), .ref (b + 1), .ref p] h Q := by
  have L' := L
  obtain ⟨S, l2, ⟨l3, l3'⟩, -, l8, -⟩ := L
  replace S : TpS G h (b + 1) B n x := S
  refine e_X2_readWorth (by omega) ⟨S.f.1, s_number (l := 0) (u := 99) (by omega) S (by omega) (by omega) (fun nk h2 F2 f2 => ⟨_, rfl, fun _ => R.1 _ (by rw [numR_bad nk]; rfl) h2 (F2.weak (fun a k z => fa1_lc z)) f2, fun z => absurd rfl z⟩) (fun ok h2 F2 S2 => ⟨_, rfl, fun z => ?_, fun _ => ⟨F2.kd l3, ?_⟩⟩)⟩
  · rw [(numR_ok ok).2.1] at z
    have := (numR_ok ok).2.2.2
    exact absurd z (nI_ne_neg (by omega))
  obtain ⟨e1, v1, l1, u1⟩ := numR_ok ok
  refine s_readArea (by omega) S2 (F2.kd l3) (fun e ea h3 F3 f3 => ⟨_, rfl, fun z => absurd rfl z, fun _ => R.1 e (by rw [e1]; simp only [sbind]; rw [ea]) h3 ((F2.weak (fun a k z => nxf_lc z)).tr (F3.weak (fun a k z => ar_lc z))) f3⟩) (fun r q ea h3 F3 S3 t3 e6 => ⟨_, rfl, fun _ => ?_, fun z => absurd z (by decide)⟩)
  have L3 := L'.fr (P := ArF b) hp ((F2.weak (fun a k z => nxf_ar z)).tr F3) (fun a k z => z) S3
  rw [v1]
  refine s_mark (f := fun v => v / 128 * 128 + nI (nmv B n x)) (v := s.2.2.2.2.1) hp ((l2.fr F2).fr F3) (F3.kd (F2.kd l3)) (areaR_inr (at_nx hx).1 ea).1 e6 L3.2.2.2.2.1 (fun c => (put_worth (hr c) (by omega)).1) (fun h4 F4 v4 => ⟨rfl, R.2 _ (by rw [e1]; simp only [sbind]; rw [ea]) h4 (((F2.weak (fun a k z => nxf_lc z)).tr (F3.weak (fun a k z => ar_lc z))).tr (F4.weak (fun a k z => by unfold LcF; omega))) ((F4.i (by omega)).trans (t3.trans (F2.i (by unfold NxF; omega)))) ?_⟩)
  exact L3.cells hp F4 v4
theorem s_readWell {h : HP} {s : LSt} {x : Nat} (hd : 2 ≤ d) (hp : b + 35 ≤ p) (L : LdC G h b p B n (x, s.2)) (R : RC G b p B n (sbind (numR B n x 0 39) (fun a => sbind (numR B n a.2 0 39) (fun c => .inr (c.2, s.2.1, s.2.2.1, s.2.2.2.1, (fun k => if k = 40 * c.1 + a.1 then s.2.2.2.2.1 k ||| 256 else s.2.2.2.2.1 k), s.2.2.2.2.2)))) h Q) : Cal G d mX2_readWell [.ref (b + 6), .ref (b + 1), .ref p] h Q := by
  have L' := L
  obtain ⟨S, l2, ⟨l3, l3'⟩, -, l8, -⟩ := L
  replace S : TpS G h (b + 1) B n x := S
  have ar : ∀ (h : HP) (k : Nat) (v : Int32), 1 ≤ k → FrI (ArF b) h (sI h (b + 6) k v) := fun h k v hk => FrI.sI h v (Or.inr ⟨rfl, hk⟩)
  have t6 : ∀ (h : HP) (k : Nat) (v : Int32), hI (sI h (b + 6) k v) (b + 1) 1 = hI h (b + 1) 1 := fun h k v => hI_ne _ _ (Or.inl (by omega))
  refine e_X2_readWell (by omega) ⟨S.f.1, s_number (l := 0) (u := 39) (by omega) S (by omega) (by omega) (fun nk h2 F2 f2 => ⟨_, rfl, F2.kd l3, fun z => ?_, fun _ => R.1 _ (by rw [numR_bad nk]; rfl) _ ((F2.weak (fun a k z => fa1_lc z)).tr ((ar h2 1 _ (by omega)).weak (fun a k z => ar_lc z))) (by rw [t6]; exact f2)⟩) (fun ok h2 F2 S2 => ⟨_, rfl, F2.kd l3, fun _ => ?_, fun z => ?_⟩)⟩
  · rw [hI_eq] at z
    exact absurd rfl z
  rotate_left
  · rw [hI_eq, (numR_ok ok).2.1] at z
    have := (numR_ok ok).2.2.2
    exact absurd z (nI_ne_neg (by omega))
  obtain ⟨e1, v1, l1, u1⟩ := numR_ok ok
  have G2 : FrI (ArF b) h (sI h2 (b + 6) 1 (vlT B n x)) := (F2.weak (fun a k z => nxf_ar z)).tr (ar h2 1 _ (by omega))
  refine s_number (l := 0) (u := 39) (by omega) S2.b6 (by omega) (by omega) (fun nk h3 F3 f3 => ⟨_, rfl, fun z => ?_, fun _ => R.1 _ (by rw [e1]; simp only [sbind]; rw [numR_bad nk]) _ (((G2.tr (F3.weak (fun a k z => fa1_ar z))).tr (ar h3 2 _ (by omega))).weak (fun a k z => ar_lc z)) (by rw [t6]; exact f3)⟩) (fun ok2 h3 F3 S3 => ⟨_, rfl, fun _ => ?_, fun z => ?_⟩)
  · rw [hI_eq] at z
    exact absurd rfl z
  rotate_left
  · rw [hI_eq, (numR_ok ok2).2.1] at z
    have := (numR_ok ok2).2.2.2
    exact absurd z (nI_ne_neg (by omega))
  obtain ⟨e2, v2, l2', u2⟩ := numR_ok ok2
  have G3 : FrI (ArF b) h (sI h3 (b + 6) 2 (vlT B n (nxP B n x))) := (G2.tr (F3.weak (fun a k z => nxf_ar z))).tr (ar h3 2 _ (by omega))
  have L3 := L'.fr hp G3 (fun a k z => z) S3.b6
  have w1 : hI (sI h3 (b + 6) 2 (vlT B n (nxP B n x))) (b + 6) 1 = nI (nmv B n x) := by
    rw [hI_ne _ _ (Or.inr (by omega)), F3.i (by unfold NxF; omega), hI_eq, v1]
  have w2 : hI (sI h3 (b + 6) 2 (vlT B n (nxP B n x))) (b + 6) 2 = nI (nmv B n (nxP B n x)) := by rw [hI_eq, v2]
  have tt : hI (sI h3 (b + 6) 2 (vlT B n (nxP B n x))) (b + 1) 1 = hI h (b + 1) 1 := by rw [t6, F3.i (by unfold NxF; omega), t6, F2.i (by unfold NxF; omega)]
  generalize g4 : sI h3 (b + 6) 2 (vlT B n (nxP B n x)) = h4 at *
  obtain ⟨q1, ⟨q2, -⟩, ⟨q3, q4⟩, -⟩ := L3.2.1
  have vi : vp_in (hI h4 (b + 6) 2 * 40 + hI h4 (b + 6) 1) (hN h4 (p + 1)) := by rw [w1, w2, e40, q4]; exact vin_nI (by omega) (by omega)
  refine ⟨q1, p + 1, q2, q3, vi, vi, fun h19 g19 => ?_⟩
  rw [w1, w2, e40, cl_nI (by omega), L3.2.2.2.2.1 _ (by omega)] at g19
  have F5 : FrI (fun a _ => a = p + 1) h4 h19 := by
    rw [g19]
    exact FrI.sI h4 _ rfl
  refine R.2 (nxP B n (nxP B n x), s.2.1, s.2.2.1, s.2.2.2.1, (fun k => if k = 40 * nmv B n (nxP B n x) + nmv B n x then s.2.2.2.2.1 k ||| 256 else s.2.2.2.2.1 k), s.2.2.2.2.2) (by rw [e1]; simp only [sbind]; rw [e2]) h19 ((G3.weak (fun a k z => ar_lc z)).tr (F5.weak (fun a k z => by unfold LcF; omega))) ((F5.i (by omega)).trans tt) (L3.cells hp F5 (fun c hc => ?_))
  rw [g19, hI_sI]
  show _ = if c = 40 * nmv B n (nxP B n x) + nmv B n x then _ else _
  by_cases e : c = 40 * nmv B n (nxP B n x) + nmv B n x
  · rw [if_pos ⟨rfl, e⟩, if_pos e, e]
  · rw [if_neg (fun z => e z.2), if_neg e]
    exact L3.2.2.2.2.1 c hc
theorem s_readHouse {h : HP} {s : LSt} {x : Nat} (hd : 4 ≤ d) (hp : b + 35 ≤ p) (hx : x ≤ n) (L : LdC G h b p B n (x, s.2)) (h6 : s.2.2.2.2.2.length < 6) (hR : ∀ a ∈ s.2.2.2.2.2, RctP a) (R : RC G b p B n (sbind (areaR B n x) (hseR x s)) h Q) : Cal G d mX2_readHouse [.ref (b + 6), .ref (b + 1), .ref p] h Q := by
  have L' := L
  obtain ⟨S, l2, ⟨l3, l3'⟩, -⟩ := L
  replace S : TpS G h (b + 1) B n x := S
  refine e_X2_readHouse (by omega) ⟨S.f.1, l3, s_readArea (by omega) S l3 (fun e ea h2 F2 f2 => ⟨_, rfl, fun z => absurd rfl z, fun _ => R.1 e (by rw [ea]; rfl) h2 (F2.weak (fun a k z => ar_lc z)) f2⟩) (fun r q ea h2 F2 S2 t2 e6 => ⟨_, rfl, fun _ => ?_, fun z => absurd z (by decide)⟩)⟩
  have L2 := L'.fr hp F2 (fun a k z => z) S2
  obtain ⟨-, m2, ⟨m3, m3'⟩, ⟨m4, m5, m6, m7⟩, m8, m9, m10, m11⟩ := L2
  have m6' : hI h2 p 2 = nI s.2.2.2.2.2.length := m6
  have RP := (areaR_inr hx ea).1
  have k9 := (m2.2.2.2.2.2.2.1 s.2.2.2.2.2.length (by omega)).2
  rw [m6']
  refine th_at m2 (t := s.2.2.2.2.2.length) (ti_nI (by omega)) (by omega) (e_X9_rise ⟨k9, fun h3 g3 => ⟨rfl, ?_⟩⟩)
  rw [e6.1, e6.2.1, e6.2.2.1, e6.2.2.2] at g3
  generalize g4 : sI (sI (sI (sI (sI h3 (p + 5 + s.2.2.2.2.2.length) 7 0) (p + 5 + s.2.2.2.2.2.length) 8 (-1)) (p + 5 + s.2.2.2.2.2.length) 9 0) (p + 5 + s.2.2.2.2.2.length) 10 0) (p + 5 + s.2.2.2.2.2.length) 11 0 = h4
  let T := p + 5 + s.2.2.2.2.2.length
  have F4 : FrI (fun a _ => a = T) h2 h4 := by
    have st : ∀ (h : HP) k v, FrI (fun a _ => a = T) h (sI h (p + 5 + s.2.2.2.2.2.length) k v) := fun h k v => FrI.sI h v rfl
    rw [← g4, g3]
    exact (((((((((((st h2 0 _).tr (st _ 1 _)).tr (st _ 2 _)).tr (st _ 3 _)).tr (st _ 4 _)).tr (st _ 5 _)).tr (st _ 6 _)).tr (st _ 7 _)).tr (st _ 8 _)).tr (st _ 9 _)).tr (st _ 10 _)).tr (st _ 11 _)
  have row : hsT h4 p s.2.2.2.2.2.length r := by
    unfold hsT tg
    rw [← g4, g3]
    simp [hI_sI]
  have new : ∀ k, k < s.2.2.2.2.2.length → ∀ j, tg h4 p k j = tg h2 p k j := fun k hk j => F4.i (by show ¬ p + 5 + k = p + 5 + s.2.2.2.2.2.length; omega)
  have F4' : FrI (LcF b p) h h4 := (F2.weak (fun a k z => ar_lc z)).tr (F4.weak (fun a k z => by
    have z' : a = p + 5 + s.2.2.2.2.2.length := z
    unfold LcF
    omega))
  have a6 : ∀ k, hI h4 (b + 6) k = hI h2 (b + 6) k := fun k => F4.i (by show ¬ b + 6 = p + 5 + s.2.2.2.2.2.length; omega)
  have hp2 : hI h4 p 2 = nI s.2.2.2.2.2.length := (F4.i (by show ¬ p = p + 5 + s.2.2.2.2.2.length; omega)).trans m6'
  have S4 : TpS G h4 (b + 1) B n q := S2.fi F4 (fun a k z => by
    have z' : a = p + 5 + s.2.2.2.2.2.length := z
    omega)
  have st4 := m2.fr F4
  have e3 : hI h (b + 1) 3 = nI x := S.f.2.2.1
  rw [e3]
  unfold RctP at RP
  have loop : ∀ m i, i + m = s.2.2.2.2.2.length → (∀ j a, j < i → s.2.2.2.2.2[j]? = some a → clrR r a) → Ex G d mX2_readHouse 51 [(0, .ref (b + 6)), (1, .ref (b + 1)), (2, .ref p), (3, .int (nI x)), (4, .ref (p + 5 + s.2.2.2.2.2.length)), (5, .int (nI i))] [] h4 Q := by
    intro m
    induction m with
    | zero =>
      intro i hi C
      refine t_X2_readHouse_51 (by omega) ⟨st4.1, fun _ => ?_, fun z => ?_⟩
      · rw [hp2, nI_S]
        have cl : ∀ a ∈ s.2.2.2.2.2, clrR r a := fun a ha => by
          obtain ⟨j, hj, e⟩ := List.mem_iff_getElem.mp ha
          exact C j a (by omega) (by rw [List.getElem?_eq_getElem hj, e])
        have F5 : FrI (fun a _ => a = p) h4 (sI h4 p 2 (nI (s.2.2.2.2.2.length + 1))) := FrI.sI h4 _ rfl
        have ei : ∀ a k, a ≠ p → a ≠ p + 5 + s.2.2.2.2.2.length → hI (sI h4 p 2 (nI (s.2.2.2.2.2.length + 1))) a k = hI h2 a k := fun a k h1 h2' => by
          rw [hI_ne _ _ (Or.inl h1)]
          exact F4.i h2'
        have eg : ∀ t k, tg (sI h4 p 2 (nI (s.2.2.2.2.2.length + 1))) p t k = tg h4 p t k := fun t k => hI_ne _ _ (Or.inl (by omega))
        refine R.2 (q, s.2.1, s.2.2.1, s.2.2.2.1, s.2.2.2.2.1, s.2.2.2.2.2 ++ [r]) (by rw [ea]; exact hseR_ok cl) _ (F4'.tr (F5.weak (fun a k z => by unfold LcF; omega))) ((ei _ _ (by omega) (by omega)).trans t2) ⟨S4.fi F5 (fun a k z => by omega), st4.fr F5, ⟨(F4.kd m3).sI, ?_⟩, ⟨?_, ?_, ?_, ?_⟩, fun c hc => ?_, fun i a ha => ?_, fun t h1 h2 => ?_, fun e he => ?_⟩
        · rw [ei _ _ (by omega) (by omega)]
          exact m3'
        · rw [hI_ne _ _ (Or.inr (by omega)), F4.i (by show ¬ p = p + 5 + s.2.2.2.2.2.length; omega)]
          exact m4
        · rw [hI_ne _ _ (Or.inr (by omega)), F4.i (by show ¬ p = p + 5 + s.2.2.2.2.2.length; omega)]
          exact m5
        · rw [hI_eq]
          simp
        · rw [hI_ne _ _ (Or.inr (by omega)), F4.i (by show ¬ p = p + 5 + s.2.2.2.2.2.length; omega)]
          exact m7
        · rw [ei _ _ (by omega) (by omega)]
          exact m8 c hc
        · have ha' : (s.2.2.2.2.2 ++ [r])[i]? = some a := ha
          rw [List.getElem?_append] at ha'
          unfold hsT
          simp only [eg]
          by_cases hi : i < s.2.2.2.2.2.length
          · rw [if_pos hi] at ha'
            have := m9 i a ha'
            unfold hsT at this
            simp only [new i hi]
            exact this
          · rw [if_neg hi, List.getElem?_singleton] at ha'
            split at ha'
            · obtain rfl := Option.some.inj ha'
              obtain rfl : i = s.2.2.2.2.2.length := by omega
              exact row
            · cases ha'
        · have h1' : (s.2.2.2.2.2 ++ [r]).length ≤ t := h1
          simp only [List.length_append, List.length_cons, List.length_nil] at h1'
          rw [eg]
          show hI h4 (p + 5 + t) 0 = 0
          rw [F4.i (by show ¬ p + 5 + t = p + 5 + s.2.2.2.2.2.length; omega)]
          exact m10 t (by show s.2.2.2.2.2.length ≤ t; omega) h2
        · rw [ei _ _ (by omega) (by omega)]
          exact m11 e he
      · rw [hp2] at z
        exact absurd ((nI_le_iff (by omega) (by omega)).mpr (by omega)) z
    | succ m ih =>
      intro i hi C
      have hi' : i < s.2.2.2.2.2.length := by omega
      obtain ⟨a, ea'⟩ : ∃ a, s.2.2.2.2.2[i]? = some a := ⟨_, List.getElem?_eq_getElem hi'⟩
      have ap := hR a (List.mem_of_getElem? ea')
      unfold RctP at ap
      have h9 := m9 i a ea'
      unfold hsT at h9
      have g : ∀ j, hI h4 (p + 5 + i) j = tg h2 p i j := fun j => new i hi' j
      obtain ⟨q1, ⟨q2, q3, q4, q5⟩, -, -, ⟨q6, q7⟩, -, q8, -⟩ := st4
      refine t_X2_readHouse_51 (by omega) ⟨q1, fun z => ?_, fun _ => ⟨p + 3, q4, q6, by rw [q7]; exact vin_nI (by omega) (by omega), p + 5 + i, by rw [cl_nI (by omega)]; exact (q8 i (by omega)).1, F4.kd m3, e_X2_isClearOf (by omega) ⟨F4.kd m3, (q8 i (by omega)).2, ?_⟩⟩⟩
      · rw [hp2, nI_le_iff (by omega) (by omega)] at z
        omega
      have on : clrR r a → Ex G d mX2_readHouse 51 [(0, .ref (b + 6)), (1, .ref (b + 1)), (2, .ref p), (3, .int (nI x)), (4, .ref (p + 5 + s.2.2.2.2.2.length)), (5, .int (nI i + 1))] [] h4 Q := fun c => by
        rw [nI_S]
        refine ih (i + 1) (by omega) (fun j a' hj ha' => ?_)
        by_cases e : j = i
        · rw [e, ea'] at ha'
          obtain rfl := Option.some.inj ha'
          exact c
        · exact C j a' (by omega) ha'
      rw [a6, a6, e6.1, e6.2.2.1, g, g, h9.2.1, h9.2.2.2.1]
      refine s_clearC (by omega) (by omega) (by omega) (by omega) (fun c => ⟨_, rfl, fun _ => ⟨_, rfl, fun _ => on (by unfold clrR; omega), fun z => absurd z (by decide)⟩, fun z => absurd z (by decide)⟩) (fun c => ⟨_, rfl, fun z => absurd rfl z, fun _ => ?_⟩)
      rw [a6, a6, e6.2.1, e6.2.2.2, g, g, h9.2.2.1, h9.2.2.2.2.1]
      refine s_clearC (by omega) (by omega) (by omega) (by omega) (fun c2 => ⟨_, rfl, fun z => absurd z (by decide), fun _ => ⟨_, rfl, fun _ => on (by unfold clrR; omega), fun z => absurd z (by decide)⟩⟩) (fun c2 => ⟨_, rfl, fun _ => ⟨_, rfl, fun z => absurd rfl z, fun _ => ⟨S4.f.1, e_X8_failAt ⟨S4.f.1, _, rfl, Or.inl rfl, ?_⟩⟩⟩, fun z => absurd rfl z⟩)
      have nc : ¬ ∀ a ∈ s.2.2.2.2.2, clrR r a := fun q => by
        have := q a (List.mem_of_getElem? ea')
        unfold clrR at this
        omega
      refine R.1 _ (by rw [ea]; exact hseR_bad nc) _ (F4'.tr (FrI.sI (P := LcF b p) h4 _ (Or.inl ⟨rfl, by omega⟩))) ?_
      rw [hI_eq, show (1 : Int32) + 8 * nI x + 5 = nI 1 + nI 8 * nI x + nI 5 from rfl, nM, nA, nA]
  exact loop s.2.2.2.2.2.length 0 (by omega) (fun j a hj => by omega)
end LD
