/-! ===== coins of a way: of the walls that part its ends ===== -/
def keyB (A : Nat → Nat → Int32) (f : Int32) (w : Nat) : Prop := A w 5 = f ∨ ((A w 10 >>> (f &&& 31)) &&& 1) = 1
/-- toll of a wall for a family; none without a gate -/
def tlc (A : Nat → Nat → Int32) (f : Int32) (w : Nat) : Int := if A w 5 = f ∨ ((A w 10 >>> (f &&& 31)) &&& 1) = 1 then 0 else if A w 7 = -1 then 0 else (A w 9).toInt
noncomputable def cnw (A : Nat → Nat → Int32) (f : Int32) (o c w : Nat) : Int := @ite _ (wl A w ∧ crW A w o c) (Classical.propDecidable _) (tlc A f w) 0
noncomputable def coi (A : Nat → Nat → Int32) (f : Int32) (o c : Nat) : Int := sum1 (fun i => cnw A f o c (6 + i)) 24
theorem sum1_dif {f g : Nat → Int} {i : Nat} : ∀ n, i < n → (∀ j, j < n → j ≠ i → f j = g j) → sum1 f n = sum1 g n + (f i - g i)
  | 0, h, _ => by omega
  | n + 1, h, e => by
    simp only [sum1]
    by_cases c : i = n
    · subst c
      rw [sum1_congr i (fun j hj => e j (by omega) (by omega))]
      omega
    · rw [sum1_dif n (by omega) (fun j hj hne => e j (by omega) hne), e n (by omega) (by omega)]
      omega
theorem sum1_rng {f : Nat → Int} {m : Int} : ∀ n : Nat, (∀ j, j < n → 0 ≤ f j ∧ f j ≤ m) → 0 ≤ sum1 f n ∧ sum1 f n ≤ n * m
  | 0, _ => by simp [sum1]
  | n + 1, h => by
    have a := sum1_rng n (fun j hj => h j (by omega))
    have b := h n (by omega)
    have e : ((n + 1 : Nat) : Int) * m = n * m + m := by
      rw [Int.natCast_succ, Int.add_mul, Int.one_mul]
    simp only [sum1]
    omega
/-- gates of walls are as they should be -/
def GtA (A : Nat → Nat → Int32) : Prop := ∀ w, wl A w → gat A w
theorem WF.gt {S : Nat → Int32} (W : WF S) : GtA (tS S) := fun w hw => (W.1.2.2.2.2.2.1 w hw.2.1 hw.2.2).2.2
section CN
variable {S : Nat → Int32} {A : Nat → Nat → Int32} {f : Int32} {g c s w d o : Nat}
theorem cnw_yes (hw : wl A w) (h : crW A w o c) : cnw A f o c w = tlc A f w := by
  unfold cnw
  exact @if_pos _ (Classical.propDecidable _) ⟨hw, h⟩ _ _ _
theorem cnw_no (h : ¬ (wl A w ∧ crW A w o c)) : cnw A f o c w = 0 := by
  unfold cnw
  exact @if_neg _ (Classical.propDecidable _) h _ _ _
theorem tlc_rng (T : GtA A) (hw : wl A w) : 0 ≤ tlc A f w ∧ tlc A f w ≤ 999 := by
  have q := (T w hw).2
  unfold tlc
  split
  · omega
  · split
    · omega
    · rcases q with ⟨q, -⟩ | ⟨-, -, -, q⟩
      · contradiction
      · unfold rng at q
        omega
theorem coi_rng (T : GtA A) : 0 ≤ coi A f o c ∧ coi A f o c ≤ 23976 := by
  have := sum1_rng (f := fun i => cnw A f o c (6 + i)) (m := 999) 24 (fun j _ => by
    by_cases q : wl A (6 + j) ∧ crW A (6 + j) o c
    · show 0 ≤ cnw A f o c (6 + j) ∧ _
      rw [cnw_yes q.1 q.2]
      exact tlc_rng T q.1
    · show 0 ≤ cnw A f o c (6 + j) ∧ _
      rw [cnw_no q]
      omega)
  unfold coi
  omega
theorem coi_self : coi A f o o = 0 := by
  unfold coi
  have : ∀ n, sum1 (fun _ => 0) n = 0 := fun n => by
    induction n with
    | zero => rfl
    | succ n ih => simp only [sum1, ih]; rfl
  rw [sum1_congr (g := fun _ => 0) 24 (fun i _ => cnw_no (fun q => q.2 Iff.rfl))]
  exact this 24
theorem coi_same (h : ∀ w, wl A w → ¬ crW A w c d) : coi A f o d = coi A f o c := by
  unfold coi
  refine sum1_congr 24 (fun i _ => ?_)
  by_cases q : wl A (6 + i) ∧ crW A (6 + i) o c
  · rw [cnw_yes q.1 q.2, cnw_yes q.1 (q.2.tr (h _ q.1))]
  · rw [cnw_no q, cnw_no (fun z => q ⟨z.1, z.2.tr (fun y => h _ z.1 y.symm)⟩)]
theorem coi_step (hw : wl A w) (cr : crW A w c d) (h1 : ∀ u, wl A u → crW A u c d → u = w) : (¬ crW A w o c → coi A f o d = coi A f o c + tlc A f w) ∧ (crW A w o c → coi A f o d = coi A f o c - tlc A f w) := by
  have key : coi A f o d = coi A f o c + (cnw A f o d w - cnw A f o c w) := by
    have := hw.1
    have := hw.2.1
    have e := sum1_dif (f := fun i => cnw A f o d (6 + i)) (g := fun i => cnw A f o c (6 + i)) (i := w - 6) 24 (by omega) (fun j _ hj => by
      show cnw A f o d (6 + j) = cnw A f o c (6 + j)
      by_cases q : wl A (6 + j) ∧ crW A (6 + j) o c
      · rw [cnw_yes q.1 q.2, cnw_yes q.1 (q.2.tr (fun z => by have := h1 _ q.1 z; omega))]
      · rw [cnw_no q, cnw_no (fun z => q ⟨z.1, z.2.tr (fun y => by have := h1 _ z.1 y.symm; omega)⟩)])
    have e6 : 6 + (w - 6) = w := by omega
    simp only [e6] at e
    exact e
  constructor
  · intro q
    have y : crW A w o d := Classical.byContradiction (fun z => q (cr.tr (fun t => z t.symm)).symm)
    rw [key, cnw_yes hw y, cnw_no (fun z => q z.2)]
    omega
  · intro q
    rw [key, cnw_yes hw q, cnw_no (fun z => q.tr2 cr z.2)]
    omega
/-- one edge, one wall at most -/
theorem cr_one (W : WF S) (L : Ld40 S) (h : hop S c s) {u : Nat} (hw : wl (tS S) w) (hu : wl (tS S) u) (cr : crW (tS S) w c (nbC c s)) (cu : crW (tS S) u c (nbC c s)) : u = w := crs_one W.2.2.2.2 W.1.1.1.2 (h.nb L).2.1 hu hw cu cr
theorem WF.l40 (W : WF S) : Ld40 S := ⟨W.1.1.1.2, W.1.1.2.1.2⟩
/-- whoever is behind a wall came by its gate -/
theorem gate_first {n : Nat} {b : BS} (I : BI0 (Ed S g) o n b) : ∀ (k : Nat) (q : Nat), b.1 q = k → crW (tS S) w o q → ∃ p s, s < 4 ∧ Ed S g p s ∧ b.1 p ≠ -1 ∧ b.1 p < k ∧ ¬ crW (tS S) w o p ∧ crW (tS S) w o (nbC p s) := by
  intro k
  induction k with
  | zero =>
    intro q hq cr
    have hne : q ≠ o := fun e => by rw [e] at cr; exact cr Iff.rfl
    obtain ⟨p, s, p1, p2, p3, p4, p5⟩ := I.2.2.2.2.2.2.2 q (by rw [hq]; omega) hne
    rcases I.2.2.1 p with z | ⟨i, hi, z⟩
    · exact absurd z p4
    · have := (I.2.1 i hi).2.1
      rw [z] at this
      omega
  | succ k ih =>
    intro q hq cr
    have hne : q ≠ o := fun e => by rw [e] at cr; exact cr Iff.rfl
    obtain ⟨p, s, p1, p2, p3, p4, p5⟩ := I.2.2.2.2.2.2.2 q (by rw [hq]; omega) hne
    by_cases c : crW (tS S) w o p
    · obtain ⟨p', s', a1, a2, a3, a4, a5⟩ := ih p (by omega) c
      exact ⟨p', s', a1, a2, a3, by omega, a5⟩
    · exact ⟨p, s, p1, p2, p4, by omega, c, by rw [p3]; exact cr⟩
/-- a cell that is found anew is not nearer -/
theorem new_far (L : Ld40 S) {n : Nat} {b : BS} (I : BI0 (Ed S g) o n b) (h : Ed S g c s) (hc : b.1 c ≠ -1) (hd : b.1 (nbC c s) = -1) (hw : wl (tS S) w) (hg : w ≠ g) (cr : crW (tS S) w c (nbC c s)) : ¬ crW (tS S) w o c := by
  intro q
  obtain ⟨k, hk⟩ : ∃ k : Nat, b.1 c = k := by
    rcases I.2.2.1 c with z | ⟨i, hi, z⟩
    · exact absurd z hc
    · have := (I.2.1 i hi).2.1
      rw [z] at this
      exact ⟨(b.1 c).toNat, by omega⟩
  obtain ⟨p, s', a1, a2, a3, a4, a5, a6⟩ := gate_first I k c hk q
  have bk := h.back L
  have cp : crW (tS S) w p (nbC p s') := by
    unfold crW at *
    simp_all
  have i : wIn (tS S) w (nbC c s) ↔ wIn (tS S) w p := by
    unfold crW at *
    by_cases x1 : wIn (tS S) w c <;> by_cases x2 : wIn (tS S) w (nbC c s) <;> by_cases x3 : wIn (tS S) w p <;> by_cases x4 : wIn (tS S) w o <;> simp_all
  have e := gp_one L bk.1.1 a2.1 (by rw [bk.2]; exact cr.symm) cp (bk.1.2.2.2 w hw hg (by rw [bk.2]; exact cr.symm)) (a2.2.2.2 w hw hg cp) i
  rw [e] at hd
  exact a3 hd
end CN
