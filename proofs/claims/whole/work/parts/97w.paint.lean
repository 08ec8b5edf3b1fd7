/-! ===== ways of the class: its shape; walls are painted ===== -/
def WySh (G : GG) (h : HP) (q : Nat) : Prop := Kd G h q 10 ∧ (hR h q 0 = some (q + 1) ∧ hR h q 3 = some (q + 2) ∧ hR h q 4 = some (q + 3) ∧ hR h q 5 = some (q + 4) ∧ hR h q 6 = some (q + 5) ∧ hR h q 7 = some (q + 6) ∧ hR h q 8 = some (q + 7)) ∧
  (∀ a, q + 1 ≤ a → a ≤ q + 5 → Kd G h a 14 ∧ hN h a = 1600) ∧ ∀ a, q + 6 ≤ a → a ≤ q + 7 → Kd G h a 14 ∧ hN h a = 160
def WyX (G : GG) (h : HP) (q s : Nat) (S : Nat → Int32) : Prop := (WySh G h q ∧ hR h q 9 = some s) ∧ StSh G h s ∧ CoSt h s S ∧ WF S ∧ (s + 42 ≤ q ∨ q + 8 ≤ s)
theorem WySh.fr {P : Nat → Nat → Prop} {G : GG} {h h2 : HP} {q : Nat} (F : FrI P h h2) (X : WySh G h q) : WySh G h2 q := by
  obtain ⟨k, ⟨r1, r2, r3, r4, r5, r6, r7⟩, a1, a2⟩ := X
  exact ⟨F.kd k, ⟨(F.r _ _).trans r1, (F.r _ _).trans r2, (F.r _ _).trans r3, (F.r _ _).trans r4, (F.r _ _).trans r5, (F.r _ _).trans r6, (F.r _ _).trans r7⟩, fun a h1 h2 => ⟨F.kd (a1 a h1 h2).1, (F.n (a1 a h1 h2).1).trans (a1 a h1 h2).2⟩, fun a h1 h2 => ⟨F.kd (a2 a h1 h2).1, (F.n (a2 a h1 h2).1).trans (a2 a h1 h2).2⟩⟩
theorem WyX.fr {P : Nat → Nat → Prop} {G : GG} {h h2 : HP} {q s : Nat} {S : Nat → Int32} (F : FrI P h h2) (hp : ∀ a k, P a k → q ≤ a ∧ a ≤ q + 7) (X : WyX G h q s S) : WyX G h2 q s S := by
  obtain ⟨⟨x1, x2⟩, x3, x4, x5, x6⟩ := X
  exact ⟨⟨x1.fr F, (F.r _ _).trans x2⟩, x3.fr F, x4.fr (fun a k h1 h2 => F.i (fun z => by have := hp a k z; omega)), x5, x6⟩
theorem WyX.th {G : GG} {h : HP} {q s : Nat} {S : Nat → Int32} (X : WyX G h q s S) {t : Nat} (ht : t < 30) (h0 : tS S t 0 = 1) {k : Nat} (h1 : 1 ≤ k) (h6 : k ≤ 6) : tg h s t k = tS S t k := ((X.2.2.1.2.2.2.1 t ht).2 h0).1 k h1 h6
theorem WyX.ar {G : GG} {h : HP} {q s : Nat} {S : Nat → Int32} (X : WyX G h q s S) {t : Nat} (ht : t < 30) (h0 : tS S t 0 = 1) : areaI (tg h s) t = areaI (tS S) t := by
  unfold areaI
  rw [X.th ht h0 (by omega) (by omega), X.th ht h0 (by omega) (by omega), X.th ht h0 (by omega) (by omega), X.th ht h0 (by omega) (by omega)]
theorem e40 (x z : Nat) : nI z * 40 + nI x = nI (40 * z + x) := by
  show nI z * nI 40 + nI x = _
  rw [nM, nA, Nat.mul_comm]
theorem e40' (x z : Nat) : 40 * nI z + nI x = nI (40 * z + x) := by
  show nI 40 * nI z + nI x = _
  rw [nM, nA]
theorem area_inn {c r : Int32} {A : Nat → Nat → Int32} {t u : Nat} (g1 : geo c r A t) (g2 : geo c r A u) (hc : c.toInt ≤ 40) (hr : r.toInt ≤ 40) (h : inn A t u) : areaI A t < areaI A u := by
  obtain ⟨⟨a1, a2, a3, a4⟩, ⟨b1, b2⟩, b3, b4⟩ := g1.n hc hr
  obtain ⟨⟨a1', a2', a3', a4'⟩, ⟨b1', b2'⟩, b3', b4'⟩ := g2.n hc hr
  unfold inn at h
  unfold areaI
  rw [a1, a2, a3, a4, a1', a2', a3', a4'] at h ⊢
  rw [ti_nI (by omega), ti_nI (by omega), ti_nI (by omega), ti_nI (by omega), ti_nI (by omega), ti_nI (by omega), ti_nI (by omega), ti_nI (by omega)] at h
  generalize cN A t 1 = x0 at *
  generalize cN A t 2 = y0 at *
  generalize cN A t 3 = x1 at *
  generalize cN A t 4 = y1 at *
  generalize cN A u 1 = x0' at *
  generalize cN A u 2 = y0' at *
  generalize cN A u 3 = x1' at *
  generalize cN A u 4 = y1' at *
  rw [nS (by omega), nS (by omega), nS (by omega), nS (by omega), nM, nM]
  have l1 : (x1 - x0) * (y1 - y0) < (x1' - x0') * (y1' - y0') := Nat.mul_lt_mul_of_lt_of_lt (by omega) (by omega)
  have l2 : (x1' - x0') * (y1' - y0') ≤ 40 * 40 := Nat.mul_le_mul (by omega) (by omega)
  rw [nI_lt_iff (by omega) (by omega)]
  exact l1
/-- a cell while wall i is painted, up to (u, j) -/
def PtI (A : Nat → Nat → Int32) (i u j x z : Nat) (v : Int32) : Prop := (inC A i x z → ¬ (z < j ∨ (z = j ∧ x < u)) → InnP A i x z v) ∧ ((¬ inC A i x z ∨ z < j ∨ (z = j ∧ x < u)) → InnP A (i + 1) x z v)
/-- all cells have their innermost wall of those below M -/
def PtA (A : Nat → Nat → Int32) (M : Nat) (V : Nat → Int32) : Prop := ∀ x z, x < 40 → z < 40 → InnP A M x z (V (40 * z + x))
section PN
variable {A : Nat → Nat → Int32} {c r : Int32} {i : Nat}
theorem inC_n (g : geo c r A i) (hc : c.toInt ≤ 40) (hr : r.toInt ≤ 40) (x z : Nat) : inC A i x z ↔ (cN A i 1 ≤ x ∧ x < cN A i 3) ∧ cN A i 2 ≤ z ∧ z < cN A i 4 := by
  unfold geo at g
  unfold inC cN
  omega
theorem pt_begin (W : WfT 30 c r A) (hc : c.toInt ≤ 40) (hr : r.toInt ≤ 40) (hi : i < 30) (hw : wl A i) {V : Nat → Int32} (P : PtA A i V) : ∀ x z, x < 40 → z < 40 → PtI A i (cN A i 1) (cN A i 2) x z (V (40 * z + x)) := fun x z hx hz => by
  refine ⟨fun _ _ => P x z hx hz, fun q => (innP_step W hc hi (P x z hx hz)).1 (fun y => ?_)⟩
  have e := (inC_n (W.1 i hi hw.2.2) hc hr x z).mp y.2
  rcases q with q | q
  · exact q y.2
  · omega
theorem pt_row (W : WfT 30 c r A) (hc : c.toInt ≤ 40) (hr : r.toInt ≤ 40) (hi : i < 30) (hw : wl A i) {V : Nat → Int32} {j : Nat} (P : ∀ x z, x < 40 → z < 40 → PtI A i (cN A i 3) j x z (V (40 * z + x))) : ∀ x z, x < 40 → z < 40 → PtI A i (cN A i 1) (j + 1) x z (V (40 * z + x)) := fun x z hx hz => by
  have e := inC_n (W.1 i hi hw.2.2) hc hr x z
  obtain ⟨p1, p2⟩ := P x z hx hz
  refine ⟨fun a b => p1 a (fun y => b ?_), fun a => p2 ?_⟩
  · omega
  · by_cases y : inC A i x z
    · have y' := e.mp y
      rcases a with a | a
      · exact absurd y a
      · exact Or.inr (by omega)
    · exact Or.inl y
theorem pt_end (W : WfT 30 c r A) (hc : c.toInt ≤ 40) (hr : r.toInt ≤ 40) (hi : i < 30) (hw : wl A i) {V : Nat → Int32} {u : Nat} (P : ∀ x z, x < 40 → z < 40 → PtI A i u (cN A i 4) x z (V (40 * z + x))) : PtA A (i + 1) V := fun x z hx hz => by
  have e := inC_n (W.1 i hi hw.2.2) hc hr x z
  refine (P x z hx hz).2 ?_
  by_cases y : inC A i x z
  · have y' := e.mp y
    exact Or.inr (by omega)
  · exact Or.inl y
/-- one cell: what its new value must be -/
theorem pt_cell (W : WfT 30 c r A) (hc : c.toInt ≤ 40) (hr : r.toInt ≤ 40) (hi : i < 30) (hw : wl A i) {V V' : Nat → Int32} {u j : Nat} (hu : cN A i 1 ≤ u ∧ u < cN A i 3) (hj : cN A i 2 ≤ j ∧ j < cN A i 4) (P : ∀ x z, x < 40 → z < 40 → PtI A i u j x z (V (40 * z + x))) (ev : ∀ x z, x < 40 → z < 40 → (x ≠ u ∨ z ≠ j) → V' (40 * z + x) = V (40 * z + x)) (en : InnP A (i + 1) u j (V' (40 * j + u))) : ∀ x z, x < 40 → z < 40 → PtI A i (u + 1) j x z (V' (40 * z + x)) := fun x z hx hz => by
  by_cases e : x = u ∧ z = j
  · obtain ⟨rfl, rfl⟩ := e
    exact ⟨fun _ b => absurd (Or.inr ⟨rfl, by omega⟩) b, fun _ => en⟩
  · rw [ev x z hx hz (by omega)]
    obtain ⟨p1, p2⟩ := P x z hx hz
    exact ⟨fun a b => p1 a (fun y => b (by omega)), fun a => p2 (a.imp id (fun y => by omega))⟩
theorem pt_here (W : WfT 30 c r A) (hc : c.toInt ≤ 40) (hr : r.toInt ≤ 40) (hi : i < 30) (hw : wl A i) {V : Nat → Int32} {u j : Nat} (hu : cN A i 1 ≤ u ∧ u < cN A i 3) (hj : cN A i 2 ≤ j ∧ j < cN A i 4) (P : ∀ x z, x < 40 → z < 40 → PtI A i u j x z (V (40 * z + x))) : (V (40 * j + u) = -1 → InnP A (i + 1) u j (nI i)) ∧ (¬ V (40 * j + u) = -1 → ∃ w, V (40 * j + u) = nI w ∧ wl A w ∧ (Lie A i w → InnP A (i + 1) u j (nI i)) ∧ (¬ Lie A i w → Lie A w i ∧ InnP A (i + 1) u j (V (40 * j + u)))) := by
  have g := W.1 i hi hw.2.2
  have n := (g.n hc hr).2
  have iu : inC A i u j := (inC_n g hc hr u j).mpr ⟨hu, hj⟩
  have p := (P u j (by omega) (by omega)).1 iu (by omega)
  obtain ⟨-, s2, s3⟩ := innP_step W hc hi p
  refine ⟨fun e => s2 hw iu e, fun e => ?_⟩
  have p' := p
  rcases p' with ⟨q, -⟩ | ⟨w, q, w1, w2, -⟩
  · exact absurd q e
  · obtain ⟨-, t1, t2⟩ := s3 hw iu w q (by omega)
    exact ⟨w, q, w1, t1, t2⟩
end PN
section PC
variable {G : GG} {d : Nat} {q s : Nat} {S : Nat → Int32} {Q : Option Value → HP → Prop}
theorem s_paint {h : HP} (hd : 1 ≤ d) (X : WyX G h q s S) {i : Nat} (hw : wl (tS S) i) (P : PtA (tS S) i (hI h (q + 4))) (hQ : ∀ h2, FrI (fun a _ => a = q + 4) h h2 → PtA (tS S) (i + 1) (hI h2 (q + 4)) → Q none h2) : Cal G d mX10_paint [.ref q, .int (nI i)] h Q := by
  have W := X.2.2.2.1
  have hi := hw.2.1
  have hc := W.1.1.1.2
  have hr := W.1.1.2.1.2
  have g := W.2.2.2.2.1 i hi hw.2.2
  obtain ⟨⟨a1, a2, a3, a4⟩, ⟨b1, b2⟩, b3, b4⟩ := g.n hc hr
  have k9 := (X.2.1.2.2.2.2.2.2.1 i (by omega)).2
  have pf : ∀ a (k : Nat), a = q + 4 → q ≤ a ∧ a ≤ q + 7 := fun a _ e => by omega
  have tgs : ∀ h1, FrI (fun a _ => a = q + 4) h h1 → ∀ k, 1 ≤ k → k ≤ 6 → hI h1 (s + 5 + i) k = tS S i k := fun h1 F k k1 k2 => (X.fr F pf).th hi hw.2.2 k1 k2
  refine e_X10_paint hd ⟨X.1.1.1, s, X.1.2, th_at X.2.1 (t := i) (ti_nI (by omega)) (by omega) (s_area k9 ⟨_, rfl, ?_⟩)⟩
  rw [X.ar hi hw.2.2, show hI h (s + 5 + i) 2 = _ from tgs h (FrI.rf _ h) 2 (by omega) (by omega), a2]
  have inner : ∀ j, cN (tS S) i 2 ≤ j → j < cN (tS S) i 4 → (∀ h1, FrI (fun a _ => a = q + 4) h h1 → (∀ x z, x < 40 → z < 40 → PtI (tS S) i (cN (tS S) i 1) (j + 1) x z (hI h1 (q + 4) (40 * z + x))) → Ex G d mX10_paint 21 [(0, .ref q), (1, .int (nI i)), (2, .ref (s + 5 + i)), (3, .int (areaI (tS S) i)), (4, .int (nI (j + 1)))] [] h1 Q) → ∀ n u h1, cN (tS S) i 1 ≤ u → u + n = cN (tS S) i 3 → FrI (fun a _ => a = q + 4) h h1 → (∀ x z, x < 40 → z < 40 → PtI (tS S) i u j x z (hI h1 (q + 4) (40 * z + x))) → Ex G d mX10_paint 36 [(0, .ref q), (1, .int (nI i)), (2, .ref (s + 5 + i)), (3, .int (areaI (tS S) i)), (4, .int (nI j)), (5, .int (nI u))] [] h1 Q := by
    intro j j1 j2 next n
    induction n with
    | zero =>
      intro u h1 hu hn F V
      obtain rfl : u = cN (tS S) i 3 := by omega
      refine t_X10_paint_36 hd ⟨F.kd k9, fun _ => ?_, fun z => ?_⟩
      · rw [nI_S]
        exact next h1 F (pt_row W.2.2.2.2 hc hr hi hw V)
      · rw [tgs h1 F 3 (by omega) (by omega), a3] at z
        exact absurd ((nI_le_iff (by omega) (by omega)).mpr (Nat.le_refl _)) z
    | succ n ih =>
      intro u h1 hu hn F V
      have X1 := X.fr F pf
      have k4 := X1.1.1.2.2.1 (q + 4) (by omega) (by omega)
      have vi : vp_in (nI j * 40 + nI u) (hN h1 (q + 4)) := by
        rw [e40, k4.2]
        exact vin_nI (by omega) (by omega)
      obtain ⟨n1, n2⟩ := pt_here W.2.2.2.2 hc hr hi hw ⟨hu, by omega⟩ ⟨j1, j2⟩ V
      have upd : InnP (tS S) (i + 1) u j (nI i) → Ex G d mX10_paint 36 [(0, .ref q), (1, .int (nI i)), (2, .ref (s + 5 + i)), (3, .int (areaI (tS S) i)), (4, .int (nI j)), (5, .int (nI u + 1))] [] (sI h1 (q + 4) (nI j * 40 + nI u).toNatClampNeg (nI i)) Q := fun y => by
        rw [nI_S, e40, cl_nI (by omega)]
        refine ih (u + 1) _ (by omega) (by omega) (F.tr (FrI.sI h1 _ rfl)) (pt_cell W.2.2.2.2 hc hr hi hw ⟨hu, by omega⟩ ⟨j1, j2⟩ V (fun x z hx hz hne => ?_) ?_)
        · rw [hI_ne _ _ (Or.inr (by omega))]
        · rw [hI_eq]
          exact y
      have keep : InnP (tS S) (i + 1) u j (hI h1 (q + 4) (40 * j + u)) → Ex G d mX10_paint 36 [(0, .ref q), (1, .int (nI i)), (2, .ref (s + 5 + i)), (3, .int (areaI (tS S) i)), (4, .int (nI j)), (5, .int (nI u + 1))] [] h1 Q := fun y => by
        rw [nI_S]
        exact ih (u + 1) h1 (by omega) (by omega) F (pt_cell W.2.2.2.2 hc hr hi hw ⟨hu, by omega⟩ ⟨j1, j2⟩ V (fun x z hx hz hne => rfl) y)
      have ex : (nI j * 40 + nI u).toNatClampNeg = 40 * j + u := by rw [e40, cl_nI (by omega)]
      refine t_X10_paint_36 hd ⟨F.kd k9, fun z => ?_, fun _ => ⟨X1.1.1.1, q + 4, X1.1.1.2.1.2.2.2.1, k4.1, vi, fun z => ⟨vi, upd (n1 ?_)⟩, fun z => ?_⟩⟩
      · rw [tgs h1 F 3 (by omega) (by omega), a3, nI_le_iff (by omega) (by omega)] at z
        omega
      · rw [ex] at z
        exact z
      · rw [ex] at z ⊢
        obtain ⟨w, ew, wwl, t1, t2⟩ := n2 z
        rw [ew]
        have w30 := wwl.2.1
        have k9' := (X1.2.1.2.2.2.2.2.2.1 w (by omega)).2
        refine ⟨s, X1.1.2, th_at X1.2.1 (t := w) (ti_nI (by omega)) (by omega) (s_area k9' ⟨_, rfl, fun c => ?_, fun c => ?_⟩)⟩
        · rw [X1.ar w30 wwl.2.2] at c
          refine keep ((t2 (fun l => ?_)).2)
          have := area_inn g (W.2.2.2.2.1 w w30 wwl.2.2) hc hr (lie_inn W.2.2.2.2 hi hw.2.2 w30 l).2.2
          rw [ti_lt] at this
          rw [ti_le] at c
          omega
        · rw [X1.ar w30 wwl.2.2] at c
          refine ⟨q + 4, X1.1.1.2.1.2.2.2.1, k4.1, vi, ?_⟩
          rw [← ex]
          refine upd (t1 (Classical.byContradiction (fun l => ?_)))
          have := area_inn (W.2.2.2.2.1 w w30 wwl.2.2) g hc hr (lie_inn W.2.2.2.2 w30 wwl.2.2 hi (t2 l).1).2.2
          rw [ti_lt] at this
          rw [ti_le] at c
          omega
  have outer : ∀ n j h1, cN (tS S) i 2 ≤ j → j + n = cN (tS S) i 4 → FrI (fun a _ => a = q + 4) h h1 → (∀ x z, x < 40 → z < 40 → PtI (tS S) i (cN (tS S) i 1) j x z (hI h1 (q + 4) (40 * z + x))) → Ex G d mX10_paint 21 [(0, .ref q), (1, .int (nI i)), (2, .ref (s + 5 + i)), (3, .int (areaI (tS S) i)), (4, .int (nI j))] [] h1 Q := by
    intro n
    induction n with
    | zero =>
      intro j h1 hj hn F V
      obtain rfl : j = cN (tS S) i 4 := by omega
      refine t_X10_paint_21 ⟨F.kd k9, fun _ => hQ h1 F (pt_end W.2.2.2.2 hc hr hi hw V), fun z => ?_⟩
      rw [tgs h1 F 4 (by omega) (by omega), a4] at z
      exact absurd ((nI_le_iff (by omega) (by omega)).mpr (Nat.le_refl _)) z
    | succ n ih =>
      intro j h1 hj hn F V
      refine t_X10_paint_21 ⟨F.kd k9, fun z => ?_, fun _ => ?_⟩
      · rw [tgs h1 F 4 (by omega) (by omega), a4, nI_le_iff (by omega) (by omega)] at z
        omega
      · rw [tgs h1 F 1 (by omega) (by omega), a1]
        exact inner j hj (by omega) (fun h2 F2 V2 => ih (j + 1) h2 (by omega) (by omega) F2 V2) (cN (tS S) i 3 - cN (tS S) i 1) _ h1 (Nat.le_refl _) (by omega) F V
  exact outer (cN (tS S) i 4 - cN (tS S) i 2) _ h (Nat.le_refl _) (by omega) (FrI.rf _ h) (pt_begin W.2.2.2.2 hc hr hi hw P)
theorem FrI.fill {P : Nat → Nat → Prop} (h : HP) {a n : Nat} (v : Int32) (hp : ∀ k, P a k) : FrI P h (fillI h a n v) := ⟨kp_fill h a n v, rfl, rfl, fun _ _ => rfl, fun _ _ => rfl, fun b j z => by
  rw [hI_fill, if_neg]
  rintro ⟨rfl, -⟩
  exact z (hp j)⟩
theorem s_paintWalls {h : HP} (hd : 2 ≤ d) (X : WyX G h q s S) (hQ : ∀ h2, FrI (fun a _ => a = q + 4) h h2 → PtA (tS S) 30 (hI h2 (q + 4)) → Q none h2) : Cal G d mX10_paintWalls [.ref q] h Q := by
  have pf : ∀ a (k : Nat), a = q + 4 → q ≤ a ∧ a ≤ q + 7 := fun a _ e => by omega
  have k4 := X.1.1.2.2.1 (q + 4) (by omega) (by omega)
  refine e_X10_paintWalls (by omega) ⟨X.1.1.1, q + 4, X.1.1.2.1.2.2.2.1, s_fill k4.1 k4.2 (by omega) ⟨rfl, ?_⟩⟩
  have loop : ∀ n i h1, i + n = 30 → 6 ≤ i → FrI (fun a _ => a = q + 4) h h1 → PtA (tS S) i (hI h1 (q + 4)) → Ex G d mX10_paintWalls 11 [(0, .ref q), (1, .int (nI i))] [] h1 Q := by
    intro n
    induction n with
    | zero =>
      intro i h1 hi _ F P
      obtain rfl : i = 30 := by omega
      exact t_X10_paintWalls_11 (by omega) ⟨fun _ => hQ h1 F P, fun z => absurd (show (30 : Int32) ≤ nI 30 by decide) z⟩
    | succ n ih =>
      intro i h1 hi h6 F P
      have X1 := X.fr F pf
      have hb := (X1.2.2.1.2.2.2.1 i (by omega)).1
      refine t_X10_paintWalls_11 (by omega) ⟨fun z => absurd z (n30_not (by omega)), fun _ => ⟨X1.1.1.1, s, X1.1.2, th_at X1.2.1 (t := i) (ti_nI (by omega)) (by omega) ⟨fun z => ?_, fun z => ?_⟩⟩⟩
      · rw [nI_S]
        refine ih (i + 1) h1 (by omega) (by omega) F (fun x z' hx hz => (innP_step X1.2.2.2.1.2.2.2.2 X1.2.2.2.1.1.1.1.2 (by omega) (P x z' hx hz)).1 (fun y => ?_))
        have e : hI h1 (s + 5 + i) 0 = 1 := hb.trans y.1.2.2
        rw [e] at z
        exact absurd z (by decide)
      · have w0 : wl (tS S) i := ⟨h6, by omega, by
          rcases X1.2.2.2.1.2.2.1 i (by omega) with e | e
          · exact absurd (hb.trans e) z
          · exact e⟩
        refine s_paint (by omega) X1 w0 P (fun h2 F2 P2 => ⟨rfl, ?_⟩)
        rw [nI_S]
        exact ih (i + 1) h2 (by omega) (by omega) (F.tr F2) P2
  refine loop 24 6 _ rfl (by omega) (FrI.fill h _ (fun _ => rfl)) (fun x z hx hz => ?_)
  rw [hI_fill, if_pos ⟨rfl, by omega⟩]
  exact Or.inl ⟨rfl, fun u hu h6 => by have := hu.1; omega⟩
end PC
