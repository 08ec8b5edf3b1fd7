/-! ===== more of reading what the reference says ===== -/
section MR2
variable {G : GG} {d : Nat} {h : HP} {Q : Option Value → HP → Prop} {y : Nat}
theorem r_liesIn (hd : 2 ≤ d) (M : MdSh G h y) {x o : Int32} {t N : Nat} (ho : ¬ o = -1) (hx : x.toInt = t) (ht : t < 54) (he : endsF (sd h y) 54 N (sd h y t 6)) (hQ : Q (some (.int (if liesF (sd h y) o (N + 1) (sd h y t 6) then 1 else 0))) h) : Cal G d mX12_liesIn [.ref y, .int x, .int o] h Q := by
  refine e_X12_liesIn (by omega) ⟨M.1, r_of (by omega) M hx ht (k := 6) rfl (by omega) ⟨_, rfl, ?_⟩⟩
  have loop : ∀ n p, endsF (sd h y) 54 n p → Q (some (.int (if liesF (sd h y) o (n + 1) p then 1 else 0))) h → Ex G d mX12_liesIn 8 [(0, .ref y), (1, .int x), (2, .int o), (3, .int p)] [] h Q := by
    intro n
    induction n with
    | zero =>
      intro p hp hq
      obtain rfl : p = -1 := hp
      refine t_X12_liesIn_8 (by omega) ⟨fun _ => ⟨fun _ => ?_, fun q => absurd q.symm ho⟩, fun q => absurd rfl q⟩
      simpa [liesF] using hq
    | succ n ih =>
      intro p hp hq
      refine t_X12_liesIn_8 (by omega) ⟨fun q => ⟨fun _ => ?_, fun q2 => absurd (q2.symm.trans q) ho⟩, fun q => ⟨fun q2 => ⟨fun q3 => absurd q2 q3, fun _ => ?_⟩, fun q2 => ?_⟩⟩
      · rw [liesF, if_pos q] at hq
        exact hq
      · rw [liesF, if_neg q, if_pos q2] at hq
        exact hq
      · rcases hp with hp | ⟨r, rfl, hr, hp⟩
        · exact absurd hp q
        · rw [liesF, if_neg q, if_neg q2, cl_nI (by omega)] at hq
          exact ⟨M.1, r_of (by omega) M (t := r) (ti_nI (by omega)) hr (k := 6) rfl (by omega) ⟨_, rfl, ih _ hp hq⟩⟩
  exact loop N _ he hQ
theorem r_roundMany (hd : 2 ≤ d) (M : MdSh G h y) {x : Int32} {t N : Nat} (hx : x.toInt = t) (ht : t < 54) (he : endsF (sd h y) 54 N (sd h y t 6)) (hQ : Q (some (.int (nI (rndF (sd h y) (N + 1) (sd h y t 6))))) h) : Cal G d mX12_roundMany [.ref y, .int x] h Q := by
  refine e_X12_roundMany (by omega) ⟨M.1, r_of (by omega) M hx ht (k := 6) rfl (by omega) ⟨_, rfl, ?_⟩⟩
  have loop : ∀ n p c, endsF (sd h y) 54 n p → Q (some (.int (nI (c + rndF (sd h y) (n + 1) p)))) h → Ex G d mX12_roundMany 10 [(0, .ref y), (1, .int x), (2, .int (nI c)), (3, .int p)] [] h Q := by
    intro n
    induction n with
    | zero =>
      intro p c hp hq
      obtain rfl : p = -1 := hp
      refine t_X12_roundMany_10 (by omega) ⟨fun _ => ?_, fun q => absurd rfl q⟩
      simpa [rndF] using hq
    | succ n ih =>
      intro p c hp hq
      refine t_X12_roundMany_10 (by omega) ⟨fun q => ?_, fun q => ?_⟩
      · rw [rndF, if_pos q] at hq
        exact hq
      · rcases hp with hp | ⟨r, rfl, hr, hp⟩
        · exact absurd hp q
        · rw [rndF, if_neg q, cl_nI (by omega)] at hq
          rw [nI_S]
          exact ⟨M.1, r_of (by omega) M (t := r) (ti_nI (by omega)) hr (k := 6) rfl (by omega) ⟨_, rfl, ih _ (c + 1) hp (by rw [Nat.add_assoc]; exact hq)⟩⟩
  exact loop N _ 0 he (by rw [Nat.zero_add]; exact hQ)
theorem r_freeCells (hd : 3 ≤ d) (M : MdSh G h y) (b : bin (sd h y)) (hQ : Q (some (.int (subF (outB (sd h y)) (areaI (sd h y)) (hI h (y + 13) 0 * hI h (y + 13) 1) 0 30))) h) : Cal G d mX12_freeCells [.ref y] h Q := by
  obtain ⟨m1, m2, m3⟩ := M.2 (29, 13, 14, 2440) (by decide)
  replace m3 : hN h (y + 13) = 2440 := m3
  refine e_X12_freeCells ⟨M.1, y + 13, m1, m2, by rw [m3]; exact vin_nI (k := 0) (by omega) (by omega), by rw [m3]; exact vin_nI (k := 1) (by omega) (by omega), ?_⟩
  have loop : ∀ n i a, i + n = 30 → Q (some (.int (subF (outB (sd h y)) (areaI (sd h y)) a i n))) h → Ex G d mX12_freeCells 16 [(0, .ref y), (1, .int a), (2, .int (nI i))] [] h Q := by
    intro n
    induction n with
    | zero =>
      intro i a hi hq
      obtain rfl : i = 30 := by omega
      exact t_X12_freeCells_16 (by omega) ⟨fun _ => hq, fun q => absurd (show (30 : Int32) ≤ nI 30 by decide) q⟩
    | succ n ih =>
      intro i a hi hq
      refine t_X12_freeCells_16 (by omega) ⟨fun q => absurd ((nI_le_iff (a := 30) (b := i) (by omega) (by omega)).mp q) (by omega), fun _ => ⟨M.1, r_isThing (by omega) M b (fun q => absurd ⟨by rw [ti_nI (by omega)]; omega, by rw [ti_nI (by omega)]; omega⟩ q) (fun t e ht => ?_)⟩⟩
      obtain rfl : i = t := (nI_eq_iff (by omega) (by omega)).mp e
      simp only [subF] at hq
      cases w : wallB (sd h y) i
      · have e : outB (sd h y) i = false := by
          simp only [wallB, bne_eq_false_iff_eq] at w
          simp [outB, w]
        rw [e] at hq
        refine ⟨0, rfl, fun _ => ?_, fun q => absurd rfl q⟩
        rw [nI_S, sub0]
        exact ih (i + 1) a (by omega) hq
      · refine ⟨1, rfl, fun q => absurd q (by decide), fun _ => r_isOuter (by omega) M (t := i) (ti_nI (by omega)) (by omega) ?_⟩
        simp only [wallB, bne_iff_ne, ne_eq] at w
        rw [nI_S, sub0]
        by_cases w2 : sd h y i 6 = -1
        · have e : outB (sd h y) i = true := by simp [outB, w, w2]
          rw [e] at hq
          rw [if_pos w2]
          exact ⟨1, rfl, fun q => absurd q (by decide), fun _ => r_cellsOf (by omega) M (t := i) (ti_nI (by omega)) (by omega) ⟨_, rfl, ih (i + 1) _ (by omega) hq⟩⟩
        · have e : outB (sd h y) i = false := by simp [outB, w2]
          rw [e] at hq
          rw [if_neg w2]
          exact ⟨0, rfl, fun _ => ih (i + 1) a (by omega) hq, fun q => absurd rfl q⟩
  exact loop 30 0 _ rfl hQ
/-- how many walls lie in t -/
def deepN (A : Nat → Nat → Int32) (N : Nat) (o : Int32) : Nat := cntF (fun w => wallB A w && liesF A o N (A w 6)) 6 48
theorem r_deepOf (hd : 3 ≤ d) (M : MdSh G h y) (b : bin (sd h y)) {o : Int32} {N : Nat} (ho : ¬ o = -1) (he : ∀ w, w < 54 → wallB (sd h y) w = true → endsF (sd h y) 54 N (sd h y w 6)) (hQ : Q (some (.int (nI (deepN (sd h y) (N + 1) o)))) h) : Cal G d mX12_deepOf [.ref y, .int o] h Q := by
  refine e_X12_deepOf ?_
  unfold T_X12_deepOf
  have loop : ∀ n i c, i + n = 54 → Q (some (.int (nI (c + cntF (fun w => wallB (sd h y) w && liesF (sd h y) o (N + 1) (sd h y w 6)) i n)))) h → Ex G d mX12_deepOf 5 [(0, .ref y), (1, .int o), (2, .int (nI c)), (3, .int (nI i))] [] h Q := by
    intro n
    induction n with
    | zero =>
      intro i c hi hq
      obtain rfl : i = 54 := by omega
      exact t_X12_deepOf_5 (by omega) ⟨fun _ => hq, fun q => absurd (show (54 : Int32) ≤ nI 54 by decide) q⟩
    | succ n ih =>
      intro i c hi hq
      refine t_X12_deepOf_5 (by omega) ⟨fun q => absurd ((nI_le_iff (a := 54) (b := i) (by omega) (by omega)).mp q) (by omega), fun _ => ⟨M.1, r_of (by omega) M (t := i) (ti_nI (by omega)) (by omega) (k := 0) rfl (by omega) ⟨_, rfl, fun q => ?_, fun q => ?_⟩⟩⟩
      all_goals
        simp only [nI_S, add0]
        simp only [cntF] at hq
      · have e : wallB (sd h y) i = false := by
          rcases b i (by omega) with e | e
          · simp [wallB, e]
          · exact absurd e q
        simp only [e, Bool.false_and] at hq
        exact ih (i + 1) c (by omega) (by simpa using hq)
      · have e : wallB (sd h y) i = true := by simp [wallB, q]
        refine r_liesIn (by omega) M ho (t := i) (ti_nI (by omega)) (by omega) (he i (by omega) e) ?_
        simp only [e, Bool.true_and] at hq
        cases w : liesF (sd h y) o (N + 1) (sd h y i 6)
        · rw [w] at hq
          exact ⟨0, rfl, fun _ => ih (i + 1) c (by omega) (by simpa using hq), fun q => absurd rfl q⟩
        · rw [w] at hq
          exact ⟨1, rfl, fun q => absurd q (by decide), fun _ => ih (i + 1) (c + 1) (by omega) (by simpa [Nat.add_assoc] using hq)⟩
  exact loop 48 6 0 rfl (by rw [Nat.zero_add]; exact hQ)
end MR2
