/-! ===== ways: walls and cells ===== -/
def wl (A : Nat → Nat → Int32) (w : Nat) : Prop := 6 ≤ w ∧ w < 30 ∧ A w 0 = 1
def inC (A : Nat → Nat → Int32) (t x z : Nat) : Prop := ((A t 1).toInt ≤ (x : Int) ∧ (x : Int) < (A t 3).toInt) ∧ (A t 2).toInt ≤ (z : Int) ∧ (z : Int) < (A t 4).toInt
def Lie (A : Nat → Nat → Int32) (t u : Nat) : Prop := liesF A (nI u) 31 (A t 6) = true
theorem liesF_S (A : Nat → Nat → Int32) (o : Int32) (n : Nat) (p : Int32) : liesF A o (n + 1) p = if p = -1 then false else if p = o then true else liesF A o n (A p.toNatClampNeg 6) := rfl
section GE
variable {A : Nat → Nat → Int32} {c r : Int32}
theorem lie_step (W : WfT 30 c r A) (hc : c.toInt ≤ 40) {t p u : Nat} (ht : t < 30) (t0 : A t 0 = 1) (h6 : A t 6 = nI p) (hp : p < 30) (hu : u < 30) : A p 0 = 1 ∧ inn A t p ∧ 6 ≤ p ∧ (Lie A t u ↔ p = u ∨ Lie A p u) := by
  rcases W.2.1 t ht t0 with e | ⟨v, v6, v30, ev, v0, vi⟩
  · rw [h6] at e
    exact absurd e (nI_ne_neg (by omega))
  · rw [h6, nI_eq_iff (by omega) (by omega)] at ev
    subst ev
    refine ⟨v0, vi, v6, ?_⟩
    unfold Lie
    rw [h6]
    have ef := liesF_fuel (A := A) (b := 30) (by omega) (nI u) 20 30 31 (A p 6) (W.ends hc hp v0) (by omega) (by omega)
    rw [show liesF A (nI u) 31 (nI p) = _ from liesF_S A (nI u) 30 (nI p), if_neg (nI_ne_neg (by omega)), cl_nI (by omega), ef]
    by_cases e : p = u
    · rw [if_pos (by rw [e])]
      simp [e]
    · rw [if_neg (fun q => e ((nI_eq_iff (by omega) (by omega)).mp q))]
      simp [e]
theorem lie_top {t u : Nat} (h6 : A t 6 = -1) : ¬ Lie A t u := by
  unfold Lie
  rw [h6, show liesF A (nI u) 31 (-1) = _ from liesF_S A (nI u) 30 (-1), if_pos rfl]
  decide
theorem chain_to (W : WfT 30 c r A) (hc : c.toInt ≤ 40) : ∀ (n u : Nat), endsT A 30 n (A u 6) → u < 30 → A u 0 = 1 → ∀ q : Int32, (q = -1 ∨ ∃ p, p < 30 ∧ q = nI p ∧ Lie A u p) → ∃ v, v < 30 ∧ A v 0 = 1 ∧ A v 6 = q ∧ (u = v ∨ Lie A u v) := by
  intro n
  induction n with
  | zero =>
    intro u e hu u0 q hq
    have e6 : A u 6 = -1 := e
    rcases hq with rfl | ⟨p, hp, rfl, hl⟩
    · exact ⟨u, hu, u0, e6, Or.inl rfl⟩
    · exact absurd hl (lie_top e6)
  | succ n ih =>
    intro u e hu u0 q hq
    rcases e with e6 | ⟨r', e6, hr, r0, e⟩
    · rcases hq with rfl | ⟨p, hp, rfl, hl⟩
      · exact ⟨u, hu, u0, e6, Or.inl rfl⟩
      · exact absurd hl (lie_top e6)
    · by_cases eq : q = nI r'
      · exact ⟨u, hu, u0, by rw [e6, eq], Or.inl rfl⟩
      · obtain ⟨v, v30, v0, v6, vl⟩ := ih r' e hr r0 q (by
          rcases hq with hq | ⟨p, hp, rfl, hl⟩
          · exact Or.inl hq
          · rcases (lie_step W hc hu u0 e6 hr hp).2.2.2.mp hl with z | z
            · exact absurd (by rw [z]) eq
            · exact Or.inr ⟨p, hp, rfl, z⟩)
        refine ⟨v, v30, v0, v6, Or.inr ((lie_step W hc hu u0 e6 hr v30).2.2.2.mpr ?_)⟩
        exact vl
theorem lie_inn (W : WfT 30 c r A) {t u : Nat} (ht : t < 30) (t0 : A t 0 = 1) (hu : u < 30) (h : Lie A t u) : 6 ≤ u ∧ A u 0 = 1 ∧ inn A t u := by
  obtain ⟨a1, a2, a3, a4⟩ := W.lies (by omega) (show u < 2147483648 by omega) 31 t ht t0 h
  exact ⟨a1, a3, a4⟩
theorem tri (W : WfT 30 c r A) (hc : c.toInt ≤ 40) : ∀ (n t : Nat), endsT A 30 n (A t 6) → t < 30 → A t 0 = 1 → ∀ u, u < 30 → A u 0 = 1 → u ≠ t → Lie A t u ∨ Lie A u t ∨ clr A t u := by
  have top : ∀ t, t < 30 → A t 0 = 1 → A t 6 = -1 → ∀ u, u < 30 → A u 0 = 1 → u ≠ t → Lie A t u ∨ Lie A u t ∨ clr A t u := by
    intro t ht t0 t6 u hu u0 hne
    obtain ⟨v, v30, v0, v6, vl⟩ := chain_to W hc 20 u (W.endsT hc hu u0) hu u0 (-1) (Or.inl rfl)
    by_cases e : v = t
    · subst e
      rcases vl with z | z
      · exact absurd z hne
      · exact Or.inr (Or.inl z)
    · refine Or.inr (Or.inr ?_)
      have cl := W.2.2 t v ht v30 (fun q => e q.symm) t0 v0 (by rw [t6, v6])
      rcases vl with z | z
      · rw [z]
        exact cl
      · have := (lie_inn W hu u0 v30 z).2.2
        unfold inn at this
        unfold clr at cl ⊢
        omega
  intro n
  induction n with
  | zero => exact fun t e ht t0 => top t ht t0 e
  | succ n ih =>
    intro t e ht t0 u hu u0 hne
    rcases e with e6 | ⟨p, e6, hp, p0, e⟩
    · exact top t ht t0 e6 u hu u0 hne
    · have st := lie_step W hc ht t0 e6 hp hu
      by_cases pu : p = u
      · exact Or.inl (st.2.2.2.mpr (Or.inl pu))
      · rcases ih p e hp p0 u hu u0 (fun q => pu q.symm) with z | z | z
        · exact Or.inl (st.2.2.2.mpr (Or.inr z))
        · obtain ⟨v, v30, v0, v6, vl⟩ := chain_to W hc 20 u (W.endsT hc hu u0) hu u0 (nI p) (Or.inr ⟨p, hp, rfl, z⟩)
          by_cases e : v = t
          · subst e
            rcases vl with z | z
            · exact absurd z hne
            · exact Or.inr (Or.inl z)
          · refine Or.inr (Or.inr ?_)
            have cl := W.2.2 t v ht v30 (fun q => e q.symm) t0 v0 (by rw [e6, v6])
            rcases vl with z | z
            · rw [z]
              exact cl
            · have := (lie_inn W hu u0 v30 z).2.2
              unfold inn at this
              unfold clr at cl ⊢
              omega
        · refine Or.inr (Or.inr ?_)
          have := st.2.1
          unfold inn at this
          unfold clr at z ⊢
          omega
theorem tri' (W : WfT 30 c r A) (hc : c.toInt ≤ 40) {t u : Nat} (ht : t < 30) (t0 : A t 0 = 1) (hu : u < 30) (u0 : A u 0 = 1) (hne : u ≠ t) : Lie A t u ∨ Lie A u t ∨ clr A t u := tri W hc 20 t (W.endsT hc ht t0) ht t0 u hu u0 hne
theorem inn_lie (W : WfT 30 c r A) (hc : c.toInt ≤ 40) {t u : Nat} (ht : t < 30) (t0 : A t 0 = 1) (hu : u < 30) (u0 : A u 0 = 1) (h : inn A t u) : Lie A t u := by
  have g1 := W.1 t ht t0
  have g2 := W.1 u hu u0
  unfold geo at g1 g2
  have h' := h
  unfold inn at h'
  have hne : u ≠ t := fun q => by
    rw [q] at h'
    omega
  rcases tri' W hc ht t0 hu u0 hne with z | z | z
  · exact z
  · have := (lie_inn W hu u0 ht z).2.2
    unfold inn at this
    omega
  · unfold clr at z
    omega
theorem lie_tr (W : WfT 30 c r A) (hc : c.toInt ≤ 40) {t u v : Nat} (ht : t < 30) (t0 : A t 0 = 1) (hu : u < 30) (hv : v < 30) (h1 : Lie A t u) (h2 : Lie A u v) : Lie A t v := by
  obtain ⟨-, u0, i1⟩ := lie_inn W ht t0 hu h1
  obtain ⟨-, v0, i2⟩ := lie_inn W hu u0 hv h2
  refine inn_lie W hc ht t0 hv v0 ?_
  unfold inn at i1 i2 ⊢
  omega
theorem lie_no (W : WfT 30 c r A) {t u : Nat} (ht : t < 30) (t0 : A t 0 = 1) (hu : u < 30) (u0 : A u 0 = 1) (h1 : Lie A t u) (h2 : Lie A u t) : False := by
  have i1 := (lie_inn W ht t0 hu h1).2.2
  have i2 := (lie_inn W hu u0 ht h2).2.2
  unfold inn at i1 i2
  omega
def adj (x z x' z' : Nat) : Prop := (x ≤ x' + 1 ∧ x' ≤ x + 1) ∧ z ≤ z' + 1 ∧ z' ≤ z + 1
section CR2
variable {x z x' z' : Nat} {w : Nat}
theorem cross_in (W : WfT 30 c r A) (hc : c.toInt ≤ 40) (hw : wl A w) (hin : inC A w x z) (hout : ¬ inC A w x' z') (ad : adj x z x' z') {v : Nat} (hv : wl A v) (iv : inC A v x z) : v = w ∨ Lie A w v := by
  by_cases e : v = w
  · exact Or.inl e
  · refine Or.inr ?_
    rcases tri' W hc hw.2.1 hw.2.2 hv.2.1 hv.2.2 e with q | q | q
    · exact q
    · have := (lie_inn W hv.2.1 hv.2.2 hw.2.1 q).2.2
      unfold inn at this
      unfold inC at *
      unfold adj at ad
      omega
    · unfold clr at q
      unfold inC at *
      omega
theorem cross_out (W : WfT 30 c r A) (hc : c.toInt ≤ 40) (hw : wl A w) (hin : inC A w x z) (hout : ¬ inC A w x' z') (ad : adj x z x' z') {v : Nat} (hv : wl A v) (iv : inC A v x' z') : Lie A w v := by
  have e : v ≠ w := fun q => hout (by rw [← q]; exact iv)
  rcases tri' W hc hw.2.1 hw.2.2 hv.2.1 hv.2.2 e with q | q | q
  · exact q
  · have := (lie_inn W hv.2.1 hv.2.2 hw.2.1 q).2.2
    unfold inn at this
    unfold inC at *
    omega
  · unfold clr at q
    unfold inC at *
    unfold adj at ad
    omega
theorem cross_up (W : WfT 30 c r A) (hw : wl A w) (hin : inC A w x z) (ad : adj x z x' z') {v : Nat} (hv : v < 30) (h : Lie A w v) : inC A v x' z' := by
  have := (lie_inn W hw.2.1 hw.2.2 hv h).2.2
  unfold inn at this
  unfold inC at *
  unfold adj at ad
  omega
end CR2
/-- the innermost wall of a cell -/
def InnP (A : Nat → Nat → Int32) (M x z : Nat) (v : Int32) : Prop := (v = -1 ∧ ∀ u, wl A u → u < M → ¬ inC A u x z) ∨ ∃ w, v = nI w ∧ wl A w ∧ w < M ∧ inC A w x z ∧ ∀ u, wl A u → u < M → inC A u x z → u = w ∨ Lie A w u
theorem innP_uniq (W : WfT 30 c r A) {x z : Nat} {v v' : Int32} (h : InnP A 30 x z v) (h' : InnP A 30 x z v') : v = v' := by
  rcases h with ⟨rfl, h⟩ | ⟨w, rfl, w1, w2, w3, w4⟩
  · rcases h' with ⟨rfl, -⟩ | ⟨w, rfl, w1, w2, w3, w4⟩
    · rfl
    · exact absurd w3 (h w w1 w2)
  · rcases h' with ⟨rfl, h⟩ | ⟨w', rfl, w1', w2', w3', w4'⟩
    · exact absurd w3 (h w w1 w2)
    · rcases w4 w' w1' w2' w3' with e | e
      · rw [e]
      · rcases w4' w w1 w2 w3 with e' | e'
        · rw [e']
        · exact (lie_no W w2 w1.2.2 w2' w1'.2.2 e e').elim
theorem cross_inn (W : WfT 30 c r A) (hc : c.toInt ≤ 40) {x z x' z' w : Nat} (hw : wl A w) (hin : inC A w x z) (hout : ¬ inC A w x' z') (ad : adj x z x' z') {v v' : Int32} (h : InnP A 30 x z v) (h' : InnP A 30 x' z' v') : v = nI w ∧ v' = A w 6 := by
  constructor
  · exact innP_uniq W h (Or.inr ⟨w, rfl, hw, hw.2.1, hin, fun u hu _ iu => cross_in W hc hw hin hout ad hu iu⟩)
  · refine innP_uniq W h' ?_
    rcases W.2.1 w hw.2.1 hw.2.2 with e | ⟨p, p6, p30, ep, p0, pi⟩
    · exact Or.inl ⟨e, fun u hu _ iu => lie_top e (cross_out W hc hw hin hout ad hu iu)⟩
    · have st := fun u hu => (lie_step W hc hw.2.1 hw.2.2 ep p30 (u := u) hu).2.2.2
      exact Or.inr ⟨p, ep, ⟨p6, p30, p0⟩, p30, cross_up W hw hin ad p30 ((st p p30).mpr (Or.inl rfl)), fun u hu h30 iu => by
        rcases (st u h30).mp (cross_out W hc hw hin hout ad hu iu) with q | q
        · exact Or.inl q.symm
        · exact Or.inr q⟩
theorem same_inn (W : WfT 30 c r A) {x z x' z' : Nat} (e : ∀ w, wl A w → (inC A w x z ↔ inC A w x' z')) {v v' : Int32} (h : InnP A 30 x z v) (h' : InnP A 30 x' z' v') : v = v' := by
  refine innP_uniq W h ?_
  rcases h' with ⟨rfl, h⟩ | ⟨w, rfl, w1, w2, w3, w4⟩
  · exact Or.inl ⟨rfl, fun u hu h30 iu => h u hu h30 ((e u hu).mp iu)⟩
  · exact Or.inr ⟨w, rfl, w1, w2, (e w w1).mpr w3, fun u hu h30 iu => w4 u hu h30 ((e u hu).mp iu)⟩
/-- a wall whose line lies between two cells: there is one at most -/
def crs (A : Nat → Nat → Int32) (w x z x' z' : Nat) : Prop := ¬ (inC A w x z ↔ inC A w x' z')
theorem crs_one (W : WfT 30 c r A) (hc : c.toInt ≤ 40) {x z x' z' w u : Nat} (ad : adj x z x' z') (hw : wl A w) (hu : wl A u) (h1 : crs A w x z x' z') (h2 : crs A u x z x' z') : w = u := by
  have ad' : adj x' z' x z := by unfold adj at *; omega
  have key : ∀ {x z x' z' : Nat}, adj x z x' z' → inC A w x z → ¬ inC A w x' z' → ¬ (inC A u x z ↔ inC A u x' z') → w = u := by
    intro x z x' z' ad a b c
    by_cases iu : inC A u x z
    · have ou : ¬ inC A u x' z' := fun q => c ⟨fun _ => q, fun _ => iu⟩
      rcases cross_in W hc hw a b ad hu iu with e | e
      · exact e.symm
      · rcases cross_in W hc hu iu ou ad hw a with e' | e'
        · exact e'
        · exact (lie_no W hw.2.1 hw.2.2 hu.2.1 hu.2.2 e e').elim
    · have ou : inC A u x' z' := Classical.byContradiction (fun q => c ⟨fun z => absurd z iu, fun z => absurd z q⟩)
      have := (lie_inn W hw.2.1 hw.2.2 hu.2.1 (cross_out W hc hw a b ad hu ou)).2.2
      refine absurd ?_ iu
      unfold inn at this
      unfold inC at *
      omega
  unfold crs at h1 h2
  by_cases a : inC A w x z
  · exact key ad a (fun q => h1 ⟨fun _ => q, fun _ => a⟩) h2
  · exact key ad' (Classical.byContradiction (fun q => h1 ⟨fun z => absurd z a, fun z => absurd z q⟩)) a (fun q => h2 q.symm)
/-- one more wall is painted -/
theorem innP_step (W : WfT 30 c r A) (hc : c.toInt ≤ 40) {x z i : Nat} {v : Int32} (hi : i < 30) (h : InnP A i x z v) : (¬ (wl A i ∧ inC A i x z) → InnP A (i + 1) x z v) ∧ (wl A i → inC A i x z → v = -1 → InnP A (i + 1) x z (nI i)) ∧ (wl A i → inC A i x z → ∀ w, v = nI w → w < 30 → wl A w ∧ ((Lie A i w → InnP A (i + 1) x z (nI i)) ∧ (¬ Lie A i w → Lie A w i ∧ InnP A (i + 1) x z v))) := by
  refine ⟨fun n => ?_, fun hw hin e => ?_, fun hw hin w e hw30 => ?_⟩
  · rcases h with ⟨rfl, h⟩ | ⟨w, rfl, w1, w2, w3, w4⟩
    · refine Or.inl ⟨rfl, fun u hu h1 iu => ?_⟩
      by_cases c : u = i
      · subst c
        exact n ⟨hu, iu⟩
      · exact h u hu (by omega) iu
    · refine Or.inr ⟨w, rfl, w1, by omega, w3, fun u hu h1 iu => ?_⟩
      by_cases c : u = i
      · subst c
        exact absurd ⟨hu, iu⟩ n
      · exact w4 u hu (by omega) iu
  · rcases h with ⟨rfl, h⟩ | ⟨w, rfl, w1, w2, w3, w4⟩
    · refine Or.inr ⟨i, rfl, hw, by omega, hin, fun u hu h1 iu => ?_⟩
      by_cases c : u = i
      · exact Or.inl c
      · exact absurd iu (h u hu (by omega))
    · exact absurd e (nI_ne_neg (by omega))
  · rcases h with ⟨rfl, h⟩ | ⟨w', rfl, w1, w2, w3, w4⟩
    · exact absurd e.symm (nI_ne_neg (by omega))
    · obtain rfl : w' = w := (nI_eq_iff (by omega) (by omega)).mp e
      refine ⟨w1, fun l => ?_, fun l => ?_⟩
      · refine Or.inr ⟨i, rfl, hw, by omega, hin, fun u hu h1 iu => ?_⟩
        by_cases c : u = i
        · exact Or.inl c
        · rcases w4 u hu (by omega) iu with q | q
          · rw [q]
            exact Or.inr l
          · exact Or.inr (lie_tr W hc hw.2.1 hw.2.2 w1.2.1 hu.2.1 l q)
      · have lw : Lie A w' i := by
          rcases tri' W hc w1.2.1 w1.2.2 hw.2.1 hw.2.2 (by omega) with q | q | q
          · exact q
          · exact absurd q l
          · unfold clr at q
            unfold inC at *
            omega
        refine ⟨lw, Or.inr ⟨w', rfl, w1, by omega, w3, fun u hu h1 iu => ?_⟩⟩
        by_cases c : u = i
        · rw [c]
          exact Or.inr lw
        · exact w4 u hu (by omega) iu
end GE
