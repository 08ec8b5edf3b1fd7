/-! ===== ways: between which cells one may go ===== -/
def rv (S : Nat → Int32) (c : Nat) : Prop := (S (8 + c)).toInt / 128 % 2 = 1
def inLd (S : Nat → Int32) (c : Nat) : Prop := ((c % 40 : Nat) : Int) < (S 0).toInt ∧ ((c / 40 : Nat) : Int) < (S 1).toInt
def hop (S : Nat → Int32) (c s : Nat) : Prop := inLd S c ∧ ((s = 0 ∧ 1 ≤ c / 40) ∨ (s = 1 ∧ ((c % 40 : Nat) : Int) + 1 < (S 0).toInt) ∨ (s = 2 ∧ ((c / 40 : Nat) : Int) + 1 < (S 1).toInt) ∨ (s = 3 ∧ 1 ≤ c % 40))
def wIn (A : Nat → Nat → Int32) (w c : Nat) : Prop := inC A w (c % 40) (c / 40)
/-- the gate of a wall is where one goes -/
def gp (A : Nat → Nat → Int32) (w c s : Nat) : Prop := (wIn A w c → (A w 7).toInt = s) ∧ (¬ wIn A w c → (A w 7).toInt = ((s + 2) % 4 : Nat)) ∧ (s % 2 = 0 → (A w 8).toInt = ((c % 40 : Nat) : Int) - (A w 1).toInt) ∧ (s % 2 = 1 → (A w 8).toInt = ((c / 40 : Nat) : Int) - (A w 2).toInt)
def crW (A : Nat → Nat → Int32) (w c d : Nat) : Prop := ¬ (wIn A w c ↔ wIn A w d)
def Ed (S : Nat → Int32) (g c s : Nat) : Prop := hop S c s ∧ ¬ rv S c ∧ ¬ rv S (nbC c s) ∧ ∀ w, wl (tS S) w → w ≠ g → crW (tS S) w c (nbC c s) → gp (tS S) w c s
def Ld40 (S : Nat → Int32) : Prop := (S 0).toInt ≤ 40 ∧ (S 1).toInt ≤ 40
theorem nb0 (c : Nat) : nbC c 0 = c - 40 := rfl
theorem nb1 (c : Nat) : nbC c 1 = c + 1 := rfl
theorem nb2 (c : Nat) : nbC c 2 = c + 40 := rfl
theorem nb3 (c : Nat) : nbC c 3 = c - 1 := rfl
section GF
variable {S : Nat → Int32} {A : Nat → Nat → Int32} {g c s w d : Nat}
theorem inLd.lt (L : Ld40 S) (h : inLd S c) : c < 1600 := by
  unfold inLd at h
  unfold Ld40 at L
  omega
theorem hop.s4 (h : hop S c s) : s < 4 := by
  unfold hop at h
  omega
theorem hop.nb (L : Ld40 S) (h : hop S c s) : inLd S (nbC c s) ∧ adj (c % 40) (c / 40) (nbC c s % 40) (nbC c s / 40) ∧ ((s = 0 ∧ nbC c s % 40 = c % 40 ∧ nbC c s / 40 + 1 = c / 40) ∨ (s = 1 ∧ nbC c s % 40 = c % 40 + 1 ∧ nbC c s / 40 = c / 40) ∨ (s = 2 ∧ nbC c s % 40 = c % 40 ∧ nbC c s / 40 = c / 40 + 1) ∨ (s = 3 ∧ nbC c s % 40 + 1 = c % 40 ∧ nbC c s / 40 = c / 40)) := by
  unfold Ld40 at L
  unfold hop inLd at h
  unfold inLd adj
  obtain ⟨h0, ⟨rfl, h⟩ | ⟨rfl, h⟩ | ⟨rfl, h⟩ | ⟨rfl, h⟩⟩ := h
  · rw [nb0]; omega
  · rw [nb1]; omega
  · rw [nb2]; omega
  · rw [nb3]; omega
theorem hop.back (L : Ld40 S) (h : hop S c s) : hop S (nbC c s) ((s + 2) % 4) ∧ nbC (nbC c s) ((s + 2) % 4) = c := by
  have n := h.nb L
  have h' := h
  unfold Ld40 at L
  unfold hop inLd at h
  obtain ⟨h0, ⟨rfl, h⟩ | ⟨rfl, h⟩ | ⟨rfl, h⟩ | ⟨rfl, h⟩⟩ := h
  · refine ⟨⟨n.1, ?_⟩, ?_⟩
    · rw [nb0] at n ⊢; omega
    · show nbC (nbC c 0) 2 = c
      rw [nb2, nb0]; omega
  · refine ⟨⟨n.1, ?_⟩, ?_⟩
    · rw [nb1] at n ⊢; omega
    · show nbC (nbC c 1) 3 = c
      rw [nb3, nb1]; omega
  · refine ⟨⟨n.1, ?_⟩, ?_⟩
    · rw [nb2] at n ⊢; omega
    · show nbC (nbC c 2) 0 = c
      rw [nb0, nb2]; omega
  · refine ⟨⟨n.1, ?_⟩, ?_⟩
    · rw [nb3] at n ⊢; omega
    · show nbC (nbC c 3) 1 = c
      rw [nb1, nb3]; omega
theorem crW.symm (h : crW A w c d) : crW A w d c := fun q => h q.symm
theorem crW.tr {e : Nat} (h : crW A w c d) (h2 : ¬ crW A w d e) : crW A w c e := fun q => h (q.trans (Classical.not_not.mp h2).symm)
theorem crW.tr2 {e : Nat} (h : crW A w c d) (h2 : crW A w d e) : ¬ crW A w c e := fun q => by
  unfold crW at *
  by_cases a : wIn A w c <;> by_cases b : wIn A w d <;> by_cases e : wIn A w e <;> simp_all
theorem gp.back (L : Ld40 S) (h : hop S c s) (cr : crW A w c (nbC c s)) (G : gp A w c s) : gp A w (nbC c s) ((s + 2) % 4) := by
  have n := (h.nb L).2.2
  obtain ⟨g1, g2, g3, g4⟩ := G
  have e4 : ((s + 2) % 4 + 2) % 4 = s := by have := h.s4; omega
  have iff : wIn A w (nbC c s) ↔ ¬ wIn A w c := by
    unfold crW at cr
    by_cases a : wIn A w c <;> by_cases b : wIn A w (nbC c s) <;> simp_all
  refine ⟨fun q => g2 (iff.mp q), fun q => ?_, fun q => ?_, fun q => ?_⟩
  · rw [e4]
    exact g1 (Classical.not_not.mp (fun z => q (iff.mpr z)))
  · rw [g3 (by omega)]
    omega
  · rw [g4 (by omega)]
    omega
theorem Ed.back (L : Ld40 S) (h : Ed S g c s) : Ed S g (nbC c s) ((s + 2) % 4) ∧ nbC (nbC c s) ((s + 2) % 4) = c := by
  obtain ⟨h1, h2, h3, h4⟩ := h
  obtain ⟨b1, b2⟩ := h1.back L
  refine ⟨⟨b1, h3, by rw [b2]; exact h2, fun w hw hg cr => ?_⟩, b2⟩
  rw [b2] at cr
  exact (h4 w hw hg cr.symm).back L h1 cr.symm
theorem Ed.ged (L : Ld40 S) : GEd (Ed S g) := fun c s _ h => ⟨h.1.1.lt L, (h.1.nb L).1.lt L⟩
/-- a wall has one gate -/
theorem gp_one (L : Ld40 S) {c' s' : Nat} (h : hop S c s) (h' : hop S c' s') (cr : crW A w c (nbC c s)) (cr' : crW A w c' (nbC c' s')) (G : gp A w c s) (G' : gp A w c' s') (i : wIn A w c ↔ wIn A w c') : c = c' := by
  have n := (h.nb L).2.2
  have n' := (h'.nb L).2.2
  have e : s = s' := by
    have a := h.s4
    have b := h'.s4
    by_cases q : wIn A w c
    · have e1 := G.1 q
      have e2 := G'.1 (i.mp q)
      omega
    · have e1 := G.2.1 q
      have e2 := G'.2.1 (fun z => q (i.mpr z))
      omega
  subst e
  have p1 := G.2.2
  have p2 := G'.2.2
  unfold crW at cr cr'
  have cc : (wIn A w c ∧ ¬ wIn A w (nbC c s) ∧ wIn A w c' ∧ ¬ wIn A w (nbC c' s)) ∨ (¬ wIn A w c ∧ wIn A w (nbC c s) ∧ ¬ wIn A w c' ∧ wIn A w (nbC c' s)) := by
    by_cases q1 : wIn A w c <;> by_cases q2 : wIn A w (nbC c s) <;> by_cases q3 : wIn A w c' <;> by_cases q4 : wIn A w (nbC c' s) <;> simp_all
  have hx : c % 40 = c' % 40 ∧ c / 40 = c' / 40 → c = c' := by omega
  apply hx
  clear cr cr' i hx G G' h h'
  unfold wIn inC at cc
  generalize (A w 1).toInt = a1 at *
  generalize (A w 2).toInt = a2 at *
  generalize (A w 3).toInt = a3 at *
  generalize (A w 4).toInt = a4 at *
  generalize (A w 8).toInt = a8 at *
  generalize nbC c s = d at *
  generalize nbC c' s = d' at *
  rcases n with n | n | n | n <;> rcases n' with n' | n' | n' | n' <;> first | (exfalso; omega) | skip
  all_goals
    obtain ⟨rfl, m1, m2⟩ := n
    obtain ⟨-, m1', m2'⟩ := n'
    rcases cc with cc | cc <;> omega
theorem rv_dec (c : Nat) : rv S c ∨ ¬ rv S c := Classical.em _
end GF
