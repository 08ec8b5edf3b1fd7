/-! ===== nests, cells ===== -/
theorem n12_not {i : Nat} (h : i < 12) : ¬ (12 : Int32) ≤ nI i := fun q => by
  have := (nI_le_iff (a := 12) (b := i) (by omega) (by omega)).mp q
  omega
theorem n30_not {i : Nat} (h : i < 30) : ¬ (30 : Int32) ≤ nI i := fun q => by
  have := (nI_le_iff (a := 30) (b := i) (by omega) (by omega)).mp q
  omega
def rndA (A : Nat → Nat → Int32) (t : Nat) : Nat := rndF A 31 (A t 6)
theorem rndA_le (A : Nat → Nat → Int32) (t : Nat) : rndA A t ≤ 31 := rndF_le A 31 _
def deeper (A : Nat → Nat → Int32) (i a : Nat) : Bool := decide (rndA A a < rndA A i)
def ra (A : Nat → Nat → Int32) : Option Nat → Int32
  | none => -1
  | some t => nI (rndA A t)
section NS
variable {G : GG} {d : Nat} {h : HP} {s : Nat} {Q : Option Value → HP → Prop}
theorem s_innermostOfAll (hd : 1 ≤ d) (S : StSh G h s) (he : ∀ t, t < 30 → wallB (tg h s) t = true → endsF (tg h s) 31 30 (tg h s t 6)) (hQ : Q (some (.int (onI (selF (wallB (tg h s)) (deeper (tg h s)) 0 30)))) h) : Cal G d mX6_innermostOfAll [.ref s] h Q := by
  refine e_X6_innermostOfAll ?_
  unfold T_X6_innermostOfAll
  refine loop_up (J := SelJ (wallB (tg h s))) (P := fun i a => Ex G d mX6_innermostOfAll 6 [(0, .ref s), (1, .int (onI a)), (2, .int (ra (tg h s) a)), (3, .int (nI i))] [] h Q) (f := selS (wallB (tg h s)) (deeper (tg h s))) (e := 30) (fun i a _ j => j.step) ?_ 30 0 none rfl (fun t q => by cases q) ?_
  · intro i a hi J p
    refine t_X6_innermostOfAll_6 hd ⟨fun q => absurd q (n30_not hi), fun _ => th_at S (t := i) (ti_nI (by omega)) (by omega) ⟨fun w => ?_, fun w => ?_⟩⟩
    · have e : wallB (tg h s) i = false := by simp [wallB, tg, w]
      rw [nI_S]
      cases a with
      | none => simpa [selS, e] using p
      | some u => simpa [selS, e] using p
    · have e : wallB (tg h s) i = true := by simp [wallB, tg, w]
      refine s_coversOf S (t := i) (ti_nI (by omega)) (by omega) (he i hi e) ⟨_, rfl, fun c => ?_, fun c => s_coversOf S (t := i) (ti_nI (by omega)) (by omega) (he i hi e) ⟨_, rfl, ?_⟩⟩
      · rw [nI_S]
        cases a with
        | none =>
          have : (-1 : Int32) < nI (rndF (tg h s) 31 (tg h s i 6)) := by
            rw [ti_lt, tn1, ti_nI (by have := rndF_le (tg h s) 31 (tg h s i 6); omega)]
            omega
          rw [ti_lt] at this
          rw [ti_le] at c
          simp only [ra] at c
          omega
        | some u =>
          have b1 := rndA_le (tg h s) i
          have b2 := rndA_le (tg h s) u
          have c' := (nI_le_iff (a := rndA (tg h s) i) (b := rndA (tg h s) u) (by omega) (by omega)).mp c
          simp only [selS, e, deeper, Bool.true_and] at p
          rw [if_neg (by simp; omega)] at p
          exact p
      · rw [nI_S]
        cases a with
        | none =>
          simp only [selS, e, if_true] at p
          exact p
        | some u =>
          have b1 := rndA_le (tg h s) i
          have b2 := rndA_le (tg h s) u
          have c' : ¬ rndA (tg h s) i ≤ rndA (tg h s) u := fun q => c ((nI_le_iff (a := rndA (tg h s) i) (b := rndA (tg h s) u) (by omega) (by omega)).mpr q)
          simp only [selS, e, deeper, Bool.true_and] at p
          rw [if_pos (by simp; omega)] at p
          exact p
  · intro _
    exact t_X6_innermostOfAll_6 hd ⟨fun _ => hQ, fun q => absurd (show (30 : Int32) ≤ nI 30 by decide) q⟩
def lessB (A : Nat → Nat → Int32) (N : Nat) (f : Nat) : Bool := cntF (ownB A (nI f)) 6 N == 0
theorem s_wallless (hd : 1 ≤ d) (S : StSh G h s) (hQ : Q (some (.int (nI (cntF (lessB (tg h s) 24) 0 12)))) h) : Cal G d mX6_wallless [.ref s] h Q := by
  refine e_X6_wallless ?_
  unfold T_X6_wallless
  have loop : ∀ n i c, i + n = 12 → Q (some (.int (nI (c + cntF (lessB (tg h s) 24) i n)))) h → Ex G d mX6_wallless 4 [(0, .ref s), (1, .int (nI c)), (2, .int (nI i))] [] h Q := by
    intro n
    induction n with
    | zero =>
      intro i c hi hq
      obtain rfl : i = 12 := by omega
      exact t_X6_wallless_4 hd ⟨fun _ => hq, fun q => absurd (show (12 : Int32) ≤ nI 12 by decide) q⟩
    | succ n ih =>
      intro i c hi hq
      refine t_X6_wallless_4 hd ⟨fun q => absurd q (n12_not (by omega)), fun _ => ⟨S.1, s_wallsOf S ⟨_, rfl, fun w => ?_, fun w => ?_⟩⟩⟩
      · rw [nI_S]
        have e : lessB (tg h s) 24 i = false := by
          unfold lessB
          rw [beq_eq_false_iff_ne]
          intro q
          rw [q] at w
          exact w rfl
        simp only [cntF, e] at hq
        exact ih (i + 1) c (by omega) (by simpa using hq)
      · rw [nI_S, nI_S]
        have e : lessB (tg h s) 24 i = true := by
          unfold lessB
          rw [beq_iff_eq]
          have := cntF_le (ownB (tg h s) (nI i)) 24 6
          exact (nI_eq_iff (b := 0) (by omega) (by omega)).mp w
        simp only [cntF, e] at hq
        exact ih (i + 1) (c + 1) (by omega) (by simpa [Nat.add_assoc] using hq)
  exact loop 12 0 0 rfl (by simpa using hQ)
end NS
section NR
variable {G : GG} {d : Nat} {h : HP} {y : Nat} {Q : Option Value → HP → Prop}
theorem r_nests28 (hd : 3 ≤ d) (M : MdSh G h y) (b : bin (sd h y)) {x1 : Int32} (hQ : Q (some (.int (nI (cntF (lessB (sd h y) 48) 0 12)))) h) : Ex G d mX12_nests 28 [(0, .ref y), (1, .int x1), (2, .int 0), (3, .int 0)] [] h Q := by
  have loop : ∀ n i c, i + n = 12 → Q (some (.int (nI (c + cntF (lessB (sd h y) 48) i n)))) h → Ex G d mX12_nests 28 [(0, .ref y), (1, .int x1), (2, .int (nI c)), (3, .int (nI i))] [] h Q := by
    intro n
    induction n with
    | zero =>
      intro i c hi hq
      obtain rfl : i = 12 := by omega
      exact t_X12_nests_28 (by omega) ⟨fun _ => hq, fun q => absurd (show (12 : Int32) ≤ nI 12 by decide) q⟩
    | succ n ih =>
      intro i c hi hq
      refine t_X12_nests_28 (by omega) ⟨fun q => absurd q (n12_not (by omega)), fun _ => ⟨M.1, r_wallsOf (by omega) M b ⟨_, rfl, fun w => ?_, fun w => ?_⟩⟩⟩
      · rw [nI_S, add0]
        have e : lessB (sd h y) 48 i = false := by
          unfold lessB
          rw [beq_eq_false_iff_ne]
          intro q
          rw [q] at w
          exact w rfl
        simp only [cntF, e] at hq
        exact ih (i + 1) c (by omega) (by simpa using hq)
      · rw [nI_S, nI_S]
        have e : lessB (sd h y) 48 i = true := by
          unfold lessB
          rw [beq_iff_eq]
          have := cntF_le (ownB (sd h y) (nI i)) 48 6
          exact (nI_eq_iff (b := 0) (by omega) (by omega)).mp w
        simp only [cntF, e] at hq
        exact ih (i + 1) (c + 1) (by omega) (by simpa [Nat.add_assoc] using hq)
  exact loop 12 0 0 rfl (by simpa using hQ)
theorem r_nests79 (hd : 3 ≤ d) (M : MdSh G h y) (b : bin (sd h y)) (he : ∀ t, t < 30 → wallB (sd h y) t = true → endsF (sd h y) 54 30 (sd h y t 6)) {x1 : Int32}
    (hQ : ∀ a, a = selF (wallB (sd h y)) (deeper (sd h y)) 0 30 → (x1 = 2 → Q (some (.int (onI a))) h) ∧ (¬ x1 = 2 → (a = none → Q (some (.int (-1))) h) ∧ ∀ t, a = some t → Q (some (.int (nI (rndA (sd h y) t)))) h)) : Ex G d mX12_nests 79 [(0, .ref y), (1, .int x1), (2, .int 0), (3, .int (-1)), (4, .int 0)] [] h Q := by
  refine loop_up (J := SelJ (wallB (sd h y))) (P := fun i a => Ex G d mX12_nests 79 [(0, .ref y), (1, .int x1), (2, .int 0), (3, .int (onI a)), (4, .int (nI i))] [] h Q) (f := selS (wallB (sd h y)) (deeper (sd h y))) (e := 30) (fun i a _ j => j.step) ?_ 30 0 none rfl (fun t q => by cases q) ?_
  · intro i a hi J p
    refine t_X12_nests_79 (by omega) ⟨fun q => absurd q (n30_not hi), fun _ => ⟨M.1, r_isThing (by omega) M b (fun q => absurd ⟨by rw [ti_nI (by omega)]; omega, by rw [ti_nI (by omega)]; omega⟩ q) (fun t et ht => ?_)⟩⟩
    obtain rfl : i = t := (nI_eq_iff (by omega) (by omega)).mp et
    rw [nI_S]
    cases e : wallB (sd h y) i
    · refine ⟨_, rfl, fun _ => ?_, fun q => absurd rfl q⟩
      cases a with
      | none => simpa [selS, e] using p
      | some u => simpa [selS, e] using p
    · refine ⟨_, rfl, fun q => absurd q (by decide), fun _ => ⟨fun c => ?_, fun c => ?_⟩⟩
      · cases a with
        | none =>
          simp only [selS, e, if_true] at p
          exact p
        | some u =>
          have := (J u rfl).1
          simp only [onI] at c
          rw [ti_lt, ti_nI (by omega), show (0 : Int32).toInt = 0 from rfl] at c
          omega
      · cases a with
        | none => exact absurd (show onI none < 0 by decide) c
        | some u =>
          obtain ⟨hu, wu⟩ := J u rfl
          refine r_roundMany (N := 30) (t := i) (by omega) M (ti_nI (by omega)) (by omega) (he i hi e) ⟨_, rfl, r_roundMany (N := 30) (t := u) (by omega) M (ti_nI (by omega)) (by omega) (he u (by omega) wu) ⟨_, rfl, fun c => ?_, fun c => ?_⟩⟩
          · have b1 := rndA_le (sd h y) i
            have b2 := rndA_le (sd h y) u
            have c' := (nI_le_iff (a := rndA (sd h y) i) (b := rndA (sd h y) u) (by omega) (by omega)).mp c
            simp only [selS, e, deeper, Bool.true_and] at p
            rw [if_neg (by simp; omega)] at p
            exact p
          · have b1 := rndA_le (sd h y) i
            have b2 := rndA_le (sd h y) u
            have c' : ¬ rndA (sd h y) i ≤ rndA (sd h y) u := fun q => c ((nI_le_iff (a := rndA (sd h y) i) (b := rndA (sd h y) u) (by omega) (by omega)).mpr q)
            simp only [selS, e, deeper, Bool.true_and] at p
            rw [if_pos (by simp; omega)] at p
            exact p
  · intro J
    obtain ⟨q1, q2⟩ := hQ _ rfl
    unfold selF at q1 q2
    generalize foldF (selS (wallB (sd h y)) (deeper (sd h y))) none 0 30 = a at *
    refine t_X12_nests_79 (by omega) ⟨fun _ => ⟨q1, fun c => ⟨fun c2 => ?_, fun c2 => ?_⟩⟩, fun q => absurd (show (30 : Int32) ≤ nI 30 by decide) q⟩
    · cases a with
      | none => exact absurd c2 (by decide)
      | some u =>
        obtain ⟨hu, wu⟩ := J u rfl
        exact ⟨M.1, r_roundMany (N := 30) (t := u) (by omega) M (ti_nI (by omega)) (by omega) (he u (by omega) wu) ⟨_, rfl, (q2 c).2 u rfl⟩⟩
    · cases a with
      | none => exact (q2 c).1 rfl
      | some u =>
        have := (J u rfl).1
        refine absurd ?_ c2
        simp only [onI]
        rw [ti_le, ti_nI (by omega), show (0 : Int32).toInt = 0 from rfl]
        omega
end NR
theorem subF_congr {p q : Nat → Bool} {f g : Nat → Int32} : ∀ (n i : Nat) (a : Int32), (∀ j, i ≤ j → j < i + n → p j = q j) → (∀ j, i ≤ j → j < i + n → p j = true → f j = g j) → subF p f a i n = subF q g a i n
  | 0, _, _, _, _ => rfl
  | n + 1, i, a, h1, h2 => by
    have e := h1 i (by omega) (by omega)
    simp only [subF]
    rw [← e]
    cases c : p i
    · exact subF_congr n (i + 1) _ (fun j a b => h1 j (by omega) (by omega)) (fun j a b => h2 j (by omega) (by omega))
    · rw [h2 i (by omega) (by omega) c]
      exact subF_congr n (i + 1) _ (fun j a b => h1 j (by omega) (by omega)) (fun j a b => h2 j (by omega) (by omega))
section BD
variable {G : GG} {h : HP} {y s : Nat}
theorem Bd.wB (B : Bd G h y s) {t : Nat} (ht : t < 30) : wallB (tg h s) t = wallB (tS (said h y)) t := by
  unfold wallB
  rw [(B.2.2.1.2.2.2.1 t ht).1]
theorem Bd.wI (B : Bd G h y s) {t : Nat} (ht : t < 30) (w : wallB (tS (said h y)) t = true) : tS (said h y) t 0 = 1 := (B.2.2.2.2.2.1.w (by omega)).mpr w
theorem Bd.oB (B : Bd G h y s) {t : Nat} (ht : t < 30) : outB (tg h s) t = outB (tS (said h y)) t := by
  have e := B.wB ht
  unfold outB
  unfold wallB at e
  rw [e]
  cases c : (tS (said h y) t 0 != 0)
  · rfl
  · rw [B.th ht (B.wI ht c) (by omega) (by omega)]
theorem Bd.wwB (B : Bd G h y s) {f : Int32} {t : Nat} (ht : t < 30) : ownB (tg h s) f t = ownB (tS (said h y)) f t := by
  have e := B.wB ht
  unfold ownB
  unfold wallB at e
  rw [e]
  cases c : (tS (said h y) t 0 != 0)
  · rfl
  · rw [B.th ht (B.wI ht c) (by omega) (by omega)]
theorem Bd.aI (B : Bd G h y s) {t : Nat} (ht : t < 30) (w : wallB (tS (said h y)) t = true) : areaI (tg h s) t = areaI (tS (said h y)) t := by
  unfold areaI
  rw [B.th ht (B.wI ht w) (by omega) (by omega), B.th ht (B.wI ht w) (by omega) (by omega), B.th ht (B.wI ht w) (by omega) (by omega), B.th ht (B.wI ht w) (by omega) (by omega)]
theorem Bd.own24 (B : Bd G h y s) (f : Int32) : cntF (ownB (tg h s) f) 6 24 = cntF (ownB (tS (said h y)) f) 6 48 := by
  rw [show (48 : Nat) = 24 + 24 from rfl, cntF_app, cntF_none 24 (6 + 24) (fun j h1 h2 => ?_)]
  · rw [Nat.add_zero]
    exact cntF_congr 24 6 (fun j h1 h2 => B.wwB (by omega))
  · unfold ownB
    rw [B.2.2.2.2.2.2.1 j (by omega) (by omega)]
    rfl
theorem Bd.inm (B : Bd G h y s) : selF (wallB (tg h s)) (deeper (tg h s)) 0 30 = selF (wallB (tS (said h y))) (deeper (tS (said h y))) 0 30 := by
  refine foldF_selC 30 0 none (fun t q => by cases q) (fun j h1 h2 => B.wB (by omega)) (fun j u h1 h2 w1 w2 => ?_)
  rw [B.wB (by omega)] at w1 w2
  unfold deeper rndA
  rw [B.rnd (by omega) (B.wI (by omega) w1), B.rnd (by omega) (B.wI (by omega) w2)]
end BD
theorem outB_w {A : Nat → Nat → Int32} {t : Nat} (h : outB A t = true) : wallB A t = true := by
  unfold outB at h
  exact (Bool.and_eq_true_iff.mp h).1
/-- something is found where something is -/
theorem selF_some {p : Nat → Bool} {r : Nat → Nat → Bool} : ∀ (n i : Nat) (a : Option Nat), (a ≠ none ∨ ∃ j, i ≤ j ∧ j < i + n ∧ p j = true) → foldF (selS p r) a i n ≠ none
  | 0, i, a, h => by
    rcases h with h | ⟨j, h1, h2, -⟩
    · exact h
    · omega
  | n + 1, i, a, h => by
    simp only [foldF]
    refine selF_some n (i + 1) _ ?_
    rcases h with h | ⟨j, h1, h2, h3⟩
    · left
      cases a with
      | none => exact absurd rfl h
      | some u =>
        simp only [selS]
        split <;> simp
    · by_cases e : j = i
      · subst e
        left
        cases a with
        | none => simp [selS, h3]
        | some u =>
          simp only [selS]
          split <;> simp
      · exact Or.inr ⟨j, by omega, by omega, h3⟩
theorem p_nests (G : GG) (u0 : Nat) (h : HP) (I : Inv G u0 h) (x1 : Int32) : Pr (Inv G u0) G G.1 (G.1 + 119) mX11_nests mX12_nests [.int x1] h := by
  obtain ⟨s, p, I⟩ := I
  unfold Pr Inv
  generalize G.1 = b at *
  generalize hy : b + 119 = y at *
  have B := I.bd
  have M := B.2.1
  have W := B.2.2.2
  have st := B.1
  have kb := I.1.2.1
  have n2 := I.2.1.2.1
  have ks := B.1.1
  have ok : ∀ v w : Int32, v = w → some (Value.int v) = some (Value.int w) ∧ ∃ s p, InvB G u0 h b y s p := fun v w e => ⟨by rw [e], s, p, I⟩
  have eo : cntF (outB (sd h y)) 0 30 = cntF (outB (tg h s)) 0 30 := cntF_congr _ _ (fun j h1 h2 => (B.oB (by omega)).symm)
  have ef : subF (outB (sd h y)) (areaI (sd h y)) (hI h (y + 13) 0 * hI h (y + 13) 1) 0 30 = subF (outB (tg h s)) (areaI (tg h s)) (hI h s 0 * hI h s 1) 0 30 := by
    rw [B.2.2.1.1 0 (by omega), B.2.2.1.1 1 (by omega)]
    refine (subF_congr 30 0 _ (fun j h1 h2 => B.oB (by omega)) (fun j h1 h2 w => ?_)).symm
    rw [B.oB (by omega)] at w
    exact B.aI (by omega) (outB_w w)
  have eC : ∀ t, t < 30 → wallB (tg h s) t = true → endsF (tg h s) 31 30 (tg h s t 6) := fun t ht w => B.endC ht ((B.wall ht).mp w)
  have eR : ∀ t, t < 30 → wallB (sd h y) t = true → endsF (sd h y) 54 30 (sd h y t 6) := fun t ht w => (W.ends ht ((B.wallR ht).mp w)).mono (by omega) (by omega)
  have R : ∀ {v : Int32}, (x1 = 2 ∨ x1 = 3) → (∀ a, a = selF (wallB (sd h y)) (deeper (sd h y)) 0 30 → (x1 = 2 → onI a = v) ∧ (¬ x1 = 2 → (a = none → -1 = v) ∧ ∀ t, a = some t → nI (rndA (sd h y) t) = v)) → Cal G 59 mX12_nests [.ref y, .int x1] h (fun r2 h2 => r2 = some (.int v) ∧ ∃ s p, InvB G u0 h2 b y s p) := by
    intro v hx hq
    have y2 : (2 : Int64).toInt = 2 := by simp
    have y3 : (3 : Int64).toInt = 3 := by simp
    refine e_X12_nests (by omega) ⟨fun _ => ⟨fun _ => ⟨fun _ => r_in ⟨_, rfl, fun _ => r_nests79 (by omega) M W.2.2.1 eR (fun a ea => ⟨fun c => ok _ _ ((hq a ea).1 c), fun c => ⟨fun c2 => ok _ _ (((hq a ea).2 c).1 c2), fun t c2 => ok _ _ (((hq a ea).2 c).2 t c2)⟩⟩), fun q => ?_⟩, fun q => ?_⟩, fun q => ?_⟩, fun q => ?_⟩
    · rw [if10, ti64, y2, y3] at q
      rcases hx with rfl | rfl
      · exact absurd ⟨by decide, by decide⟩ q
      · exact absurd ⟨by decide, by decide⟩ q
    · rcases hx with rfl | rfl <;> exact absurd q (by decide)
    · rcases hx with rfl | rfl <;> exact absurd q (by decide)
    · rcases hx with rfl | rfl <;> exact absurd q (by decide)
  refine e_X11_nests (by omega) ⟨fun c => ⟨kb, s, n2, ks, s_nestCount (by omega) st ⟨_, rfl, _, rfl, e_X12_nests (by omega) ⟨fun q => absurd c q, fun _ => ⟨M.1, r_nestMany (by omega) M W.2.2.1 ⟨_, rfl, ok _ _ (by rw [eo])⟩⟩⟩⟩⟩, fun c0 => ⟨fun c => ⟨kb, s, n2, ks, s_freeCells (by omega) st ⟨_, rfl, _, rfl, e_X12_nests (by omega) ⟨fun _ => ⟨fun q => absurd c q, fun _ => ⟨M.1, r_freeCells (by omega) M W.2.2.1 ⟨_, rfl, ok _ _ ef⟩⟩⟩, fun q => absurd q c0⟩⟩⟩, fun c1 => ⟨fun c => ⟨kb, s, n2, ks, s_innermostOfAll (by omega) st eC ⟨_, rfl, _, rfl, R (Or.inl c) (fun a ea => ⟨fun _ => by rw [ea]; exact congrArg onI B.inm.symm, fun q => absurd c q⟩)⟩⟩, fun c2 => ⟨fun c => ⟨kb, s, n2, ks, fun hh => ?_, fun hh => ?_⟩, fun c3 => ⟨fun c => ⟨kb, s, n2, ks, s_wallless (by omega) st ⟨_, rfl, _, rfl, e_X12_nests (by omega) ⟨fun _ => ⟨fun _ => ⟨fun q => absurd c q, fun _ => r_nests28 (by omega) M W.2.2.1 (ok _ _ ?_)⟩, fun q => absurd q c1⟩, fun q => absurd q c0⟩⟩⟩, fun c4 => ⟨_, rfl, e_X12_nests (by omega) ⟨fun _ => ⟨fun _ => ⟨fun _ => r_in ⟨_, rfl, fun q => ?_, fun _ => ok _ _ rfl⟩, fun q => absurd q c4⟩, fun q => absurd q c1⟩, fun q => absurd q c0⟩⟩⟩⟩⟩⟩⟩
  · have h2 : 0 < (said h y 2).toInt := by
      rw [B.2.2.1.1 2 (by omega)] at hh
      have := W.1.1.2.2.1.1
      rcases Int.lt_or_eq_of_le this with q | q
      · exact q
      · exact absurd (Int32.toInt_inj.mp q.symm) hh
    have w0 : tS (said h y) 0 0 = 1 := (W.1.2.2.2.2.1 0 (by omega)).mpr h2
    have ns : selF (wallB (tg h s)) (deeper (tg h s)) 0 30 ≠ none := selF_some 30 0 none (Or.inr ⟨0, by omega, by omega, (B.wall (by omega)).mpr w0⟩)
    refine s_innermostOfAll (by omega) st eC ⟨_, rfl, ?_⟩
    have J : SelJ (wallB (tg h s)) 30 (selF (wallB (tg h s)) (deeper (tg h s)) 0 30) := foldF_inv (J := SelJ (wallB (tg h s))) 30 0 none (fun j x _ _ q => q.step) (fun t q => by cases q)
    have e := B.inm
    generalize selF (wallB (tg h s)) (deeper (tg h s)) 0 30 = a at *
    cases a with
    | none => exact absurd rfl ns
    | some t =>
      obtain ⟨ht, w⟩ := J t rfl
      refine s_coversOf st (t := t) (ti_nI (by omega)) (by omega) (eC t ht w) ⟨_, rfl, _, rfl, R (Or.inr c) (fun a ea => ⟨fun q => absurd q c2, fun _ => ⟨fun q => ?_, fun u q => ?_⟩⟩)⟩
      · rw [ea, sd_tS, ← e] at q
        cases q
      · rw [ea, sd_tS, ← e] at q
        obtain rfl : t = u := Option.some.inj q
        unfold rndA
        rw [sd_tS, B.rnd ht ((B.wall ht).mp w)]
  · refine ⟨_, rfl, R (Or.inr c) (fun a ea => ⟨fun q => absurd q c2, fun _ => ⟨fun _ => rfl, fun u q => ?_⟩⟩)⟩
    have J : SelJ (wallB (sd h y)) 30 (selF (wallB (sd h y)) (deeper (sd h y)) 0 30) := foldF_inv (J := SelJ (wallB (sd h y))) 30 0 none (fun j x _ _ q => q.step) (fun t q => by cases q)
    obtain ⟨hu, wu⟩ := J u (ea ▸ q)
    have := W.2.1 ⟨u, hu, (B.wallR hu).mp wu⟩
    rw [B.2.2.1.1 2 (by omega)] at hh
    rw [hh] at this
    exact absurd this (by decide)
  · refine congrArg nI (cntF_congr _ _ (fun j h1 h2 => ?_)).symm
    unfold lessB
    rw [B.own24]
    rfl
  · have y2 : (2 : Int64).toInt = 2 := by simp
    have y3 : (3 : Int64).toInt = 3 := by simp
    rw [if10, Decidable.not_not, ti64, y2, y3] at q
    have : x1 = 2 ∨ x1 = 3 := by
      have : x1.toInt = 2 ∨ x1.toInt = 3 := by omega
      rcases this with e | e
      · left; exact nI_ti (n := 2) e
      · right; exact nI_ti (n := 3) e
    rcases this with e | e
    · exact absurd e c2
    · exact absurd e c3
