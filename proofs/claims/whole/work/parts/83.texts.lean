/-! ===== laws and wishes ===== -/
noncomputable def vS (w : Nat → Int64) (l : List Tok) : Int64 := Classical.epsilon (fun v => EvX w l v)
noncomputable def vT (w : Nat → Int64) (l : List Tok) : Int64 := Classical.epsilon (fun v => EvX w l v ∧ (v = 0 ∨ v = 1))
theorem vS_ev (w : Nat → Int64) {n : Nat} {l : List Tok} (h : SumP n l) : EvX w l (vS w l) := by
  obtain ⟨v, e⟩ := h.ev w
  exact Classical.epsilon_spec (p := fun v => EvX w l v) ⟨v, Or.inl ⟨n, e⟩⟩
theorem vT_ev (w : Nat → Int64) {n : Nat} {l : List Tok} (h : TestP n l) : EvX w l (vT w l) ∧ (vT w l = 0 ∨ vT w l = 1) := by
  obtain ⟨v, e, b⟩ := h.ev w
  exact Classical.epsilon_spec (p := fun v => EvX w l v ∧ (v = 0 ∨ v = 1)) ⟨v, Or.inr ⟨n, e⟩, b⟩
noncomputable def holdB (w : Nat → Int64) (q : Cla) : Bool := match q.2.2 with
  | none => true
  | some l => vT w l == 1
def claV (v : Int64) : Int64 := if v.toInt < 1 then 1 else if 40 < v.toInt then 40 else v
noncomputable def farF (w : Nat → Int64) : List Cla → Int64
  | [] => 1
  | q :: r => if q.1 = 12 ∧ holdB w q = true then claV (vS w q.2.1) else farF w r
noncomputable def mayF (w : Nat → Int64) : List Cla → Bool → Bool → Bool
  | [], a, g => g || !a
  | q :: r, a, g => if q.1 = 14 ∧ holdB w q = true then false else if q.1 = 13 then mayF w r true (g || holdB w q) else mayF w r a g
noncomputable def totF (w : Nat → Int64) : List Cla → Int64 → Int64
  | [], s => s
  | q :: r, s => if q.1 = 16 ∧ holdB w q = true then totF w r (s + vS w q.2.1) else totF w r s
theorem farF_filter (w : Nat → Int64) : ∀ C : List Cla, farF w (C.filter (fun q => q.1 != 15)) = farF w C
  | [] => rfl
  | q :: r => by
    by_cases c : q.1 = 15
    · rw [List.filter_cons_of_neg (by simp [c])]
      simp only [farF, c]
      rw [if_neg (by omega)]
      exact farF_filter w r
    · rw [List.filter_cons_of_pos (by simp [c])]
      simp only [farF]
      rw [farF_filter w r]
theorem mayF_filter (w : Nat → Int64) : ∀ (C : List Cla) (a g : Bool), mayF w (C.filter (fun q => q.1 != 15)) a g = mayF w C a g
  | [], _, _ => rfl
  | q :: r, a, g => by
    by_cases c : q.1 = 15
    · rw [List.filter_cons_of_neg (by simp [c])]
      simp only [mayF, c]
      rw [if_neg (by omega), if_neg (by omega)]
      exact mayF_filter w r a g
    · rw [List.filter_cons_of_pos (by simp [c])]
      simp only [mayF]
      rw [mayF_filter w r, mayF_filter w r]
theorem totF_filter (w : Nat → Int64) : ∀ (C : List Cla) (s : Int64), totF w (C.filter (fun q => q.1 != 15)) s = totF w C s
  | [], _ => rfl
  | q :: r, s => by
    by_cases c : q.1 = 15
    · rw [List.filter_cons_of_neg (by simp [c])]
      simp only [totF, c]
      rw [if_neg (by omega)]
      exact totF_filter w r s
    · rw [List.filter_cons_of_pos (by simp [c])]
      simp only [totF]
      rw [totF_filter w r, totF_filter w r]
theorem claV_rng (v : Int64) : 1 ≤ (claV v).toInt ∧ (claV v).toInt ≤ 40 := by
  unfold claV
  have e1 : (1 : Int64).toInt = 1 := by simp
  have e40 : (40 : Int64).toInt = 40 := by simp
  split
  · rw [e1]; omega
  · split
    · rw [e40]; omega
    · omega
theorem farF_rng (w : Nat → Int64) : ∀ C : List Cla, 1 ≤ (farF w C).toInt ∧ (farF w C).toInt ≤ 40
  | [] => by
    have e1 : (1 : Int64).toInt = 1 := by simp
    simp only [farF]
    rw [e1]; omega
  | q :: r => by
    simp only [farF]
    split
    · exact claV_rng _
    · exact farF_rng w r
theorem mxmn (v : Int64) : mxL 1 (mnL 40 v) = claV v := by
  have e1 : (1 : Int64).toInt = 1 := by simp
  have e40 : (40 : Int64).toInt = 40 := by simp
  unfold mxL mnL claV
  by_cases c : v < 40
  · rw [if_pos c]
    rw [Int64.lt_iff_toInt_lt, e40] at c
    by_cases c2 : v < 1
    · rw [if_pos c2]
      rw [Int64.lt_iff_toInt_lt, e1] at c2
      rw [if_pos c2]
    · rw [if_neg c2]
      rw [Int64.lt_iff_toInt_lt, e1] at c2
      rw [if_neg c2, if_neg (by omega)]
  · rw [if_neg c]
    rw [Int64.lt_iff_toInt_lt, e40] at c
    rw [if_neg (by decide), if_neg (by omega)]
    by_cases c2 : 40 < v.toInt
    · rw [if_pos c2]
    · rw [if_neg c2]
      exact Int64.toInt_inj.mp (by rw [e40]; omega)
theorem drop_at {C : List Cla} {i : Nat} {q : Cla} (e : C[i]? = some q) : C.drop i = q :: C.drop (i + 1) := by
  obtain ⟨h, e⟩ := List.getElem?_eq_some_iff.mp e
  rw [List.drop_eq_getElem_cons h, e]
theorem get_at {C : List Cla} {i : Nat} (h : i < C.length) : ∃ q, C[i]? = some q ∧ q ∈ C := ⟨C[i], List.getElem?_eq_getElem h, List.getElem_mem h⟩
section TC
variable {G : GG} {d : Nat} {Q : Option Value → HP → Prop} {a wA : Nat} {w : Nat → Int64} {C : List Cla}
/-- a Script, the words, and what its clauses are -/
def ScrW (G : GG) (h : HP) (a wA : Nat) (w : Nat → Int64) (C : List Cla) : Prop := ScrC G h a C ∧ (Kd G h wA 15 ∧ hN h wA = 12 ∧ ∀ i, i < 12 → hL h wA i = w i) ∧ wA ≠ a + 5 ∧ ∀ q ∈ C, ClaP q
theorem ScrW.fr {h h2 : HP} (F : FrS nop (fun x _ => x = a + 5) h h2) (S : ScrW G h a wA w C) : ScrW G h2 a wA w C := ⟨S.1.fr F.1 (fun x k _ _ => F.r x k) (fun x k _ _ => F.i (fun z => z)), ⟨F.kd S.2.1.1, (F.n S.2.1.1).trans S.2.1.2.1, fun i hi => (F.l S.2.2.1).trans (S.2.1.2.2 i hi)⟩, S.2.2⟩
theorem ScrW.run {h : HP} (S : ScrW G h a wA w C) : RunC G h a wA w := ⟨S.1.1, ⟨S.1.2.1.1, S.1.2.2.1.1, S.1.2.2.1.2⟩, ⟨S.1.2.1.2.2.2.2, S.1.2.2.2.2.2.2.1.1, S.1.2.2.2.2.2.2.1.2⟩, S.2.1, S.2.2.1⟩
/-- the test of clause i -/
theorem s_test {h : HP} {i : Nat} {q : Cla} {l : List Tok} (hd : 1 ≤ d) (S : ScrW G h a wA w C) (hq : C[i]? = some q) (hl : q.2.2 = some l) (hQ : ∀ h2 v, FrS nop (fun x _ => x = a + 5) h h2 → (lg_cmp v 0 = 0 ↔ holdB w q = false) → Q (some (.long v)) h2) : ∃ p, hI h (a + 4) i = nI p ∧ p < 424 ∧ Cal G d mX4_run [.ref a, .int (nI p), .ref wA] h Q := by
  have hm : q ∈ C := List.mem_of_getElem? hq
  obtain ⟨p, e, sg⟩ := (S.1.2.2.2.2.2.2.2 i q hq).2.2.2 l hl
  have T : (∃ n, TestP n l) ∧ pushN l ≤ 60 := by
    rcases S.2.2.2 q hm with z | ⟨-, l', e', t1, t2⟩ | ⟨-, -, -, t⟩
    · rw [z.2] at hl; cases hl
    · rw [hl] at e'
      obtain rfl : l = l' := Option.some.inj e'
      exact ⟨t1, t2⟩
    · exact t l hl
  obtain ⟨⟨n, t⟩, tp⟩ := T
  obtain ⟨ev, b01⟩ := vT_ev w t
  refine ⟨p, e, by have := sg.1; have := S.run.2.1.2.2; omega, s_run hd ev sg tp S.run (fun h2 F => hQ h2 _ F ?_)⟩
  have hb : holdB w q = (vT w l == 1) := by
    unfold holdB
    rw [hl]
  rw [hb]
  rcases b01 with z | z <;> rw [z] <;> decide
theorem s_sum {h : HP} {i : Nat} {q : Cla} (hd : 1 ≤ d) (S : ScrW G h a wA w C) (hq : C[i]? = some q) (hk : q.1 = 12 ∨ q.1 = 16) (hQ : ∀ h2, FrS nop (fun x _ => x = a + 5) h h2 → Q (some (.long (vS w q.2.1))) h2) : ∃ p, hI h (a + 3) i = nI p ∧ Cal G d mX4_run [.ref a, .int (nI p), .ref wA] h Q := by
  have hm : q ∈ C := List.mem_of_getElem? hq
  obtain ⟨p, e, sg⟩ := (S.1.2.2.2.2.2.2.2 i q hq).2.1 hk
  rcases S.2.2.2 q hm with z | z | ⟨-, ⟨n, t⟩, tp, -⟩
  · omega
  · omega
  · exact ⟨p, e, s_run hd (vS_ev w t) sg tp S.run hQ⟩
theorem s_distance {h : HP} (hd : 2 ≤ d) (hC : C.length ≤ 12) (S : ScrW G h a wA w C) (hQ : ∀ h2, FrS nop (fun x _ => x = a + 5) h h2 → Q (some (.int ((farF w C).toInt32))) h2) : Cal G d mX4_distance [.ref a, .ref wA] h Q := by
  refine e_X4_distance ?_
  unfold T_X4_distance
  have loop : ∀ n i h1, i + n = C.length → FrS nop (fun x _ => x = a + 5) h h1 → (∀ h2, FrS nop (fun x _ => x = a + 5) h h2 → Q (some (.int ((farF w (C.drop i)).toInt32))) h2) → Ex G d mX4_distance 2 [(0, .ref a), (1, .ref wA), (2, .int (nI i))] [] h1 Q := by
    intro n
    induction n with
    | zero =>
      intro i h1 hi F k
      have S1 := S.fr F
      obtain rfl : i = C.length := by omega
      refine t_X4_distance_2 (by omega) ⟨S1.1.1, a + 2, S1.1.2.1.2.1, S1.1.2.2.2.1.1, fun _ => ?_, fun q => ?_⟩
      · have := k h1 F
        rw [List.drop_length] at this
        exact this
      · rw [S1.1.2.2.2.1.2] at q
        exact absurd ((nI_le_iff (by omega) (by omega)).mpr (Nat.le_refl _)) q
    | succ n ih =>
      intro i h1 hi F k
      have S1 := S.fr F
      obtain ⟨q, hq, hm⟩ := get_at (C := C) (i := i) (by omega)
      have cl : (nI i).toNatClampNeg = i := cl_nI (by omega)
      obtain ⟨f1, f2, f3, f4⟩ := S1.1.2.2.2.2.2.2.2 i q hq
      rw [drop_at hq] at k
      have kk : q.1 < 100 := by
        rcases S.2.2.2 q hm with z | z | z <;> omega
      refine t_X4_distance_2 (by omega) ⟨S1.1.1, a + 2, S1.1.2.1.2.1, S1.1.2.2.2.1.1, fun z => ?_, fun _ => ⟨by rw [S1.1.2.2.2.1.2]; exact vin_nI (by omega) (by omega), ?_⟩⟩
      · rw [S1.1.2.2.2.1.2] at z
        have := (nI_le_iff (by omega) (by omega)).mp z
        omega
      rw [cl, f1]
      refine ⟨fun c => ?_, fun c => ⟨a + 4, S1.1.2.1.2.2.2.1, S1.1.2.2.2.2.2.1.1, by rw [S1.1.2.2.2.2.2.1.2]; exact vin_nI (by omega) (by omega), ?_⟩⟩
      · rw [nI_S]
        refine ih (i + 1) h1 (by omega) F (fun h2 F2 => ?_)
        have := k h2 F2
        simp only [farF] at this
        rw [if_neg (fun z => c ((nI_eq_iff (b := 12) (by omega) (by omega)).mpr z.1))] at this
        exact this
      · have c12 : q.1 = 12 := (nI_eq_iff (b := 12) (by omega) (by omega)).mp c
        have take : holdB w q = true → ∀ h3, FrS nop (fun x _ => x = a + 5) h h3 → Ex G d mX4_distance 48 [(0, .ref a), (1, .ref wA), (2, .int (nI i))] [] h3 Q := by
          intro hb h3 F3
          have S3 := S.fr F3
          obtain ⟨p, e, cc⟩ := s_sum (d := d - 1) (i := i) (Q := fun r6 h7 => ∃ v9, r6 = some (.long v9) ∧ Q (some (.int ((mxL 1 (mnL 40 v9)).toInt32))) h7) (by omega) S3 hq (Or.inl c12) (fun h2 F2 => ⟨_, rfl, by
            rw [mxmn]
            have := k h2 (F3.tr F2)
            simp only [farF] at this
            rw [if_pos ⟨c12, hb⟩] at this
            exact this⟩)
          refine t_X4_distance_48 (by omega) ⟨S3.1.1, a + 3, S3.1.2.1.2.2.1, S3.1.2.2.2.2.1.1, by rw [S3.1.2.2.2.2.1.2]; exact vin_nI (by omega) (by omega), ?_⟩
          rw [cl, e]
          exact cc
        cases hl : q.2.2 with
        | none =>
          refine ⟨fun _ => take (by unfold holdB; rw [hl]) h1 F, fun z => absurd (f3 hl) z⟩
        | some l =>
          obtain ⟨p, e, hp, cc⟩ := s_test (d := d - 1) (i := i) (l := l) (Q := fun r14 h15 => ∃ v17, r14 = some (.long v17) ∧ (((lg_cmp v17 0) = 0 → Ex G d mX4_distance 2 [(0, .ref a), (1, .ref wA), (2, .int (nI i + 1))] [] h15 Q) ∧ (¬ (lg_cmp v17 0) = 0 → Ex G d mX4_distance 48 [(0, .ref a), (1, .ref wA), (2, .int (nI i))] [] h15 Q))) (by omega) S1 hq hl (fun h2 v F2 ev => ⟨_, rfl, fun z => by
            rw [nI_S]
            refine ih (i + 1) h2 (by omega) (F.tr F2) (fun h4 F4 => ?_)
            have := k h4 F4
            simp only [farF] at this
            rw [if_neg (fun y => by rw [ev.mp z] at y; exact absurd y.2 (by simp))] at this
            exact this, fun z => take (by
              cases hb : holdB w q
              · exact absurd (ev.mpr hb) z
              · rfl) h2 (F.tr F2)⟩)
          refine ⟨fun z => ?_, fun _ => ⟨by rw [S1.1.2.2.2.2.2.1.2]; exact vin_nI (by omega) (by omega), ?_⟩⟩
          · rw [e] at z
            exact absurd z (nI_ne_neg (by omega))
          · rw [e]
            exact cc
  exact loop C.length 0 h (by omega) (frS_rf _ _ h) (by rw [List.drop_zero]; exact hQ)
theorem s_total {h : HP} (hd : 2 ≤ d) (hC : C.length ≤ 12) (S : ScrW G h a wA w C) (hQ : ∀ h2, FrS nop (fun x _ => x = a + 5) h h2 → Q (some (.long (totF w C 0))) h2) : Cal G d mX4_total [.ref a, .ref wA] h Q := by
  refine e_X4_total ?_
  unfold T_X4_total
  have loop : ∀ n i s h1, i + n = C.length → FrS nop (fun x _ => x = a + 5) h h1 → (∀ h2, FrS nop (fun x _ => x = a + 5) h h2 → Q (some (.long (totF w (C.drop i) s))) h2) → Ex G d mX4_total 5 [(0, .ref a), (1, .ref wA), (2, .long s), (4, .int (nI i))] [] h1 Q := by
    intro n
    induction n with
    | zero =>
      intro i s h1 hi F k
      have S1 := S.fr F
      obtain rfl : i = C.length := by omega
      refine t_X4_total_5 (by omega) ⟨S1.1.1, a + 2, S1.1.2.1.2.1, S1.1.2.2.2.1.1, fun _ => ?_, fun q => ?_⟩
      · have := k h1 F
        rw [List.drop_length] at this
        exact this
      · rw [S1.1.2.2.2.1.2] at q
        exact absurd ((nI_le_iff (by omega) (by omega)).mpr (Nat.le_refl _)) q
    | succ n ih =>
      intro i s h1 hi F k
      have S1 := S.fr F
      obtain ⟨q, hq, hm⟩ := get_at (C := C) (i := i) (by omega)
      have cl : (nI i).toNatClampNeg = i := cl_nI (by omega)
      obtain ⟨f1, f2, f3, f4⟩ := S1.1.2.2.2.2.2.2.2 i q hq
      rw [drop_at hq] at k
      have kk : q.1 < 100 := by
        rcases S.2.2.2 q hm with z | z | z <;> omega
      refine t_X4_total_5 (by omega) ⟨S1.1.1, a + 2, S1.1.2.1.2.1, S1.1.2.2.2.1.1, fun z => ?_, fun _ => ⟨by rw [S1.1.2.2.2.1.2]; exact vin_nI (by omega) (by omega), ?_⟩⟩
      · rw [S1.1.2.2.2.1.2] at z
        have := (nI_le_iff (by omega) (by omega)).mp z
        omega
      rw [cl, f1]
      refine ⟨fun c => ?_, fun c => ⟨a + 4, S1.1.2.1.2.2.2.1, S1.1.2.2.2.2.2.1.1, by rw [S1.1.2.2.2.2.2.1.2]; exact vin_nI (by omega) (by omega), ?_⟩⟩
      · rw [nI_S]
        refine ih (i + 1) s h1 (by omega) F (fun h2 F2 => ?_)
        have := k h2 F2
        simp only [totF] at this
        rw [if_neg (fun z => c ((nI_eq_iff (b := 16) (by omega) (by omega)).mpr z.1))] at this
        exact this
      · have c12 : q.1 = 16 := (nI_eq_iff (b := 16) (by omega) (by omega)).mp c
        have take : holdB w q = true → ∀ h3, FrS nop (fun x _ => x = a + 5) h h3 → Ex G d mX4_total 55 [(0, .ref a), (1, .ref wA), (2, .long s), (4, .int (nI i))] [] h3 Q := by
          intro hb h3 F3
          have S3 := S.fr F3
          obtain ⟨p, e, cc⟩ := s_sum (d := d - 1) (i := i) (Q := fun r6 h7 => ∃ v9, r6 = some (.long v9) ∧ Ex G d mX4_total 5 [(0, .ref a), (1, .ref wA), (2, .long (s + v9)), (4, .int (nI i + 1))] [] h7 Q) (by omega) S3 hq (Or.inr c12) (fun h2 F2 => ⟨_, rfl, by
            rw [nI_S]
            refine ih (i + 1) _ h2 (by omega) (F3.tr F2) (fun h4 F4 => ?_)
            have := k h4 F4
            simp only [totF] at this
            rw [if_pos ⟨c12, hb⟩] at this
            exact this⟩)
          refine t_X4_total_55 (by omega) ⟨S3.1.1, a + 3, S3.1.2.1.2.2.1, S3.1.2.2.2.2.1.1, by rw [S3.1.2.2.2.2.1.2]; exact vin_nI (by omega) (by omega), ?_⟩
          rw [cl, e]
          exact cc
        cases hl : q.2.2 with
        | none =>
          refine ⟨fun _ => take (by unfold holdB; rw [hl]) h1 F, fun z => absurd (f3 hl) z⟩
        | some l =>
          obtain ⟨p, e, hp, cc⟩ := s_test (d := d - 1) (i := i) (l := l) (Q := fun r14 h15 => ∃ v17, r14 = some (.long v17) ∧ (((lg_cmp v17 0) = 0 → Ex G d mX4_total 5 [(0, .ref a), (1, .ref wA), (2, .long s), (4, .int (nI i + 1))] [] h15 Q) ∧ (¬ (lg_cmp v17 0) = 0 → Ex G d mX4_total 55 [(0, .ref a), (1, .ref wA), (2, .long s), (4, .int (nI i))] [] h15 Q))) (by omega) S1 hq hl (fun h2 v F2 ev => ⟨_, rfl, fun z => by
            rw [nI_S]
            refine ih (i + 1) s h2 (by omega) (F.tr F2) (fun h4 F4 => ?_)
            have := k h4 F4
            simp only [totF] at this
            rw [if_neg (fun y => by rw [ev.mp z] at y; exact absurd y.2 (by simp))] at this
            exact this, fun z => take (by
              cases hb : holdB w q
              · exact absurd (ev.mpr hb) z
              · rfl) h2 (F.tr F2)⟩)
          refine ⟨fun z => ?_, fun _ => ⟨by rw [S1.1.2.2.2.2.2.1.2]; exact vin_nI (by omega) (by omega), ?_⟩⟩
          · rw [e] at z
            exact absurd z (nI_ne_neg (by omega))
          · rw [e]
            exact cc
  exact loop C.length 0 0 h (by omega) (frS_rf _ _ h) (by rw [List.drop_zero]; exact hQ)
def bI (b : Bool) : Int32 := if b then 1 else 0
theorem bI0 {b : Bool} : bI b = 0 ↔ b = false := by cases b <;> decide
theorem s_allows {h : HP} (hd : 2 ≤ d) (hC : C.length ≤ 12) (S : ScrW G h a wA w C) (hQ : ∀ h2, FrS nop (fun x _ => x = a + 5) h h2 → Q (some (.int (bI (mayF w C false false)))) h2) : Cal G d mX4_allows [.ref a, .ref wA] h Q := by
  refine e_X4_allows ?_
  unfold T_X4_allows
  have loop : ∀ n i b g h1, i + n = C.length → FrS nop (fun x _ => x = a + 5) h h1 → (∀ h2, FrS nop (fun x _ => x = a + 5) h h2 → Q (some (.int (bI (mayF w (C.drop i) b g)))) h2) → Ex G d mX4_allows 7 [(0, .ref a), (1, .ref wA), (2, .int (bI b)), (3, .int (bI g)), (4, .int (nI i))] [] h1 Q := by
    intro n
    induction n with
    | zero =>
      intro i b g h1 hi F k
      have S1 := S.fr F
      obtain rfl : i = C.length := by omega
      have k1 := k h1 F
      rw [List.drop_length] at k1
      simp only [mayF] at k1
      refine t_X4_allows_7 (by omega) ⟨S1.1.1, a + 2, S1.1.2.1.2.1, S1.1.2.2.2.1.1, fun _ => ⟨fun c => ?_, fun c => ⟨fun c2 => ?_, fun c2 => ?_⟩⟩, fun q => ?_⟩
      · cases g
        · exact absurd rfl c
        · exact k1
      · rw [bI0] at c
        subst c
        cases b
        · exact absurd rfl c2
        · exact k1
      · rw [bI0] at c c2
        subst c c2
        exact k1
      · rw [S1.1.2.2.2.1.2] at q
        exact absurd ((nI_le_iff (by omega) (by omega)).mpr (Nat.le_refl _)) q
    | succ n ih =>
      intro i b g h1 hi F k
      have S1 := S.fr F
      obtain ⟨q, hq, hm⟩ := get_at (C := C) (i := i) (by omega)
      have cl : (nI i).toNatClampNeg = i := cl_nI (by omega)
      obtain ⟨f1, f2, f3, f4⟩ := S1.1.2.2.2.2.2.2.2 i q hq
      rw [drop_at hq] at k
      have kk : q.1 < 100 := by
        rcases S.2.2.2 q hm with z | z | z <;> omega
      have tst : q.1 = 13 ∨ q.1 = 14 → ∃ l, q.2.2 = some l := fun z => by
        rcases S.2.2.2 q hm with y | ⟨-, l, e, -⟩ | y
        · omega
        · exact ⟨l, e⟩
        · omega
      have second : ¬ (q.1 = 14 ∧ holdB w q = true) → ∀ h3, FrS nop (fun x _ => x = a + 5) h h3 → Ex G d mX4_allows 48 [(0, .ref a), (1, .ref wA), (2, .int (bI b)), (3, .int (bI g)), (4, .int (nI i))] [] h3 Q := by
        intro nn h3 F3
        have S3 := S.fr F3
        have e3 : hI h3 (a + 2) i = nI q.1 := (S3.1.2.2.2.2.2.2.2 i q hq).1
        refine t_X4_allows_48 (by omega) ⟨S3.1.1, a + 2, S3.1.2.1.2.1, S3.1.2.2.2.1.1, by rw [S3.1.2.2.2.1.2]; exact vin_nI (by omega) (by omega), ?_⟩
        rw [cl, e3, nI_S]
        refine ⟨fun c => ?_, fun c => ⟨fun c2 => ?_, fun c2 => ?_⟩⟩
        · refine ih (i + 1) b g h3 (by omega) F3 (fun h4 F4 => ?_)
          have := k h4 F4
          simp only [mayF] at this
          rw [if_neg nn, if_neg (fun z => c ((nI_eq_iff (b := 13) (by omega) (by omega)).mpr z))] at this
          exact this
        · have c13 : q.1 = 13 := (nI_eq_iff (b := 13) (by omega) (by omega)).mp c
          refine ih (i + 1) true true h3 (by omega) F3 (fun h4 F4 => ?_)
          have := k h4 F4
          simp only [mayF] at this
          rw [if_neg nn, if_pos c13] at this
          cases g
          · exact absurd rfl c2
          · exact this
        · have c13 : q.1 = 13 := (nI_eq_iff (b := 13) (by omega) (by omega)).mp c
          rw [bI0] at c2
          obtain ⟨l, hl⟩ := tst (Or.inl c13)
          obtain ⟨p, e, hp, cc⟩ := s_test (d := d - 1) (i := i) (l := l) (Q := fun r12 h13 => ∃ v15, r12 = some (.long v15) ∧ (((lg_cmp v15 0) = 0 → Ex G d mX4_allows 7 [(0, .ref a), (1, .ref wA), (2, .int 1), (3, .int 0), (4, .int (nI (i + 1)))] [] h13 Q) ∧ (¬ (lg_cmp v15 0) = 0 → Ex G d mX4_allows 7 [(0, .ref a), (1, .ref wA), (2, .int 1), (3, .int 1), (4, .int (nI (i + 1)))] [] h13 Q))) (by omega) S3 hq hl (fun h2 v F2 ev => ⟨_, rfl, fun z => by
            refine ih (i + 1) true false h2 (by omega) (F3.tr F2) (fun h4 F4 => ?_)
            have := k h4 F4
            simp only [mayF] at this
            rw [if_neg nn, if_pos c13, c2, ev.mp z] at this
            exact this, fun z => by
            have hb : holdB w q = true := by
              cases hb : holdB w q
              · exact absurd (ev.mpr hb) z
              · rfl
            refine ih (i + 1) true true h2 (by omega) (F3.tr F2) (fun h4 F4 => ?_)
            have := k h4 F4
            simp only [mayF] at this
            rw [if_neg nn, if_pos c13, c2, hb] at this
            exact this⟩)
          refine ⟨a + 4, S3.1.2.1.2.2.2.1, S3.1.2.2.2.2.2.1.1, by rw [S3.1.2.2.2.2.2.1.2]; exact vin_nI (by omega) (by omega), ?_⟩
          rw [e]
          exact cc
      refine t_X4_allows_7 (by omega) ⟨S1.1.1, a + 2, S1.1.2.1.2.1, S1.1.2.2.2.1.1, fun z => ?_, fun _ => ⟨by rw [S1.1.2.2.2.1.2]; exact vin_nI (by omega) (by omega), ?_⟩⟩
      · rw [S1.1.2.2.2.1.2] at z
        have := (nI_le_iff (by omega) (by omega)).mp z
        omega
      rw [cl, f1]
      refine ⟨fun c => second (fun z => c ((nI_eq_iff (b := 14) (by omega) (by omega)).mpr z.1)) h1 F, fun c => ?_⟩
      have c14 : q.1 = 14 := (nI_eq_iff (b := 14) (by omega) (by omega)).mp c
      obtain ⟨l, hl⟩ := tst (Or.inr c14)
      obtain ⟨p, e, hp, cc⟩ := s_test (d := d - 1) (i := i) (l := l) (Q := fun r14 h15 => ∃ v17, r14 = some (.long v17) ∧ (((lg_cmp v17 0) = 0 → Ex G d mX4_allows 48 [(0, .ref a), (1, .ref wA), (2, .int (bI b)), (3, .int (bI g)), (4, .int (nI i))] [] h15 Q) ∧ (¬ (lg_cmp v17 0) = 0 → Q (some (.int 0)) h15))) (by omega) S1 hq hl (fun h2 v F2 ev => ⟨_, rfl, fun z => second (fun y => by rw [ev.mp z] at y; exact absurd y.2 (by simp)) h2 (F.tr F2), fun z => by
        have hb : holdB w q = true := by
          cases hb : holdB w q
          · exact absurd (ev.mpr hb) z
          · rfl
        have := k h2 (F.tr F2)
        simp only [mayF] at this
        rw [if_pos ⟨c14, hb⟩] at this
        exact this⟩)
      refine ⟨a + 4, S1.1.2.1.2.2.2.1, S1.1.2.2.2.2.2.1.1, by rw [S1.1.2.2.2.2.2.1.2]; exact vin_nI (by omega) (by omega), ?_⟩
      rw [e]
      exact cc
  exact loop C.length 0 false false h (by omega) (frS_rf _ _ h) (by rw [List.drop_zero]; exact hQ)
end TC
