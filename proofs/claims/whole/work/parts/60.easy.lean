/-! ===== the easy pairs ===== -/
theorem MdSh.sd {G : GG} {h : HP} {y : Nat} (M : MdSh G h y) : hR h y 29 = some (y + 13) ∧ Kd G h (y + 13) 14 ∧ hN h (y + 13) = 2440 := M.2 (29, 13, 14, 2440) (by decide)
theorem ti64 (x : Int32) : (x.toInt64).toInt = x.toInt := by simp
theorem lgc_lt {x y : Int64} : lg_cmp x y < 0 ↔ x.toInt < y.toInt := by
  unfold lg_cmp
  have e1 : (x > y) ↔ y.toInt < x.toInt := Int64.lt_iff_toInt_lt
  have e2 : x = y ↔ x.toInt = y.toInt := Int64.toInt_inj.symm
  by_cases h1 : x > y
  · rw [if_pos h1]
    rw [e1] at h1
    constructor
    · intro q; exact absurd q (by decide)
    · intro q; omega
  · rw [if_neg h1]
    rw [e1] at h1
    by_cases h2 : x = y
    · rw [if_pos h2]
      rw [e2] at h2
      constructor
      · intro q; exact absurd q (by decide)
      · intro q; omega
    · rw [if_neg h2]
      rw [e2] at h2
      constructor
      · intro _; omega
      · intro _; decide
theorem lgc_gt {x y : Int64} : 0 < lg_cmp x y ↔ y.toInt < x.toInt := by
  unfold lg_cmp
  have e1 : (x > y) ↔ y.toInt < x.toInt := Int64.lt_iff_toInt_lt
  by_cases h1 : x > y
  · rw [if_pos h1]
    rw [e1] at h1
    exact ⟨fun _ => h1, fun _ => by decide⟩
  · rw [if_neg h1]
    rw [e1] at h1
    by_cases h2 : x = y
    · rw [if_pos h2]
      exact ⟨fun q => absurd q (by decide), fun q => by omega⟩
    · rw [if_neg h2]
      exact ⟨fun q => absurd q (by decide), fun q => by omega⟩
section EZ
variable {G : GG} {d : Nat} {h : HP} {Q : Option Value → HP → Prop}
theorem r_in {a lo hi : Int64} (hQ : Q (some (.int (if lo.toInt ≤ a.toInt ∧ a.toInt ≤ hi.toInt then 1 else 0))) h) : Cal G d mX12_in [.long a, .long lo, .long hi] h Q := by
  refine e_X12_in ⟨fun c => ?_, fun c => ⟨fun c2 => ?_, fun c2 => ?_⟩⟩
  all_goals simp only [lgc_lt, lgc_gt] at *
  · rw [if_neg (by omega)] at hQ; exact hQ
  · rw [if_neg (by omega)] at hQ; exact hQ
  · rw [if_pos (by omega)] at hQ; exact hQ
/-- a family -/
def famI (x : Int32) : Prop := 0 ≤ x.toInt ∧ x.toInt < 12
theorem s_isFamily {x : Int32} (h0 : ¬ famI x → Q (some (.int 0)) h) (h1 : famI x → Q (some (.int 1)) h) : Cal G d mX11_isFamily [.int x] h Q := by
  refine e_X11_isFamily ⟨fun c => h0 ?_, fun c => ⟨fun c2 => h0 ?_, fun c2 => h1 ?_⟩⟩
  all_goals
    simp only [ti_lt, ti_le, Int32.reduceToInt] at *
    unfold famI
    omega
theorem r_isFamily {x : Int32} (h0 : ¬ famI x → Q (some (.int 0)) h) (h1 : famI x → Q (some (.int 1)) h) : Cal G d mX12_isFamily [.int x] h Q := by
  refine e_X12_isFamily ⟨fun c => h0 ?_, fun c => ⟨fun c2 => h0 ?_, fun c2 => h1 ?_⟩⟩
  all_goals
    simp only [ti_lt, ti_le, Int32.reduceToInt] at *
    unfold famI
    omega
theorem r_feed {T B n : Nat} {x1 x2 x3 x4 x5 : Int32} (hd : 1 ≤ d) (kT : Kd G h T 12) (eB : hR h T 0 = some B) (kB : Kd G h B 13) (nB : hN h B = 400) (hne : B ≠ T) (hn : hI h T 1 = nI n) (hle : n ≤ 400)
    (hQ0 : ¬ n + 20 ≤ 400 → Q (some (.int (-1))) h)
    (hQ : n + 20 ≤ 400 → ∀ h2, FrI (fun a k => (a = T ∧ k = 1) ∨ (a = B ∧ n ≤ k ∧ k < n + 20)) h h2 → hI h2 T 1 = nI (n + 20) → (∀ j, j < 20 → hI h2 B (n + j) = b5 x1 x2 x3 x4 x5 j) → Q (some (.int (nI (n + 20)))) h2) : Cal G d mX12_feed [.ref T, .int x1, .int x2, .int x3, .int x4, .int x5] h Q := by
  refine e_X12_feed hd ?_
  unfold T_X12_feed
  rw [hn]
  have e : (nI n + 20).toInt = n + 20 := by
    rw [ti_add] <;> rw [ti_nI (by omega)] <;> simp <;> omega
  have e4 : (400 : Int32).toInt = 400 := rfl
  refine ⟨kT, fun c => ?_, fun c => hQ0 (by rw [ti_le, e, e4] at c; omega)⟩
  have hr : n + 20 ≤ 400 := by rw [ti_le, e, e4] at c; omega
  have P5 : ∀ {a k m}, (a = T ∧ k = 1) ∨ (a = B ∧ m ≤ k ∧ k < m + 4) → n ≤ m → m + 4 ≤ n + 20 → (a = T ∧ k = 1) ∨ (a = B ∧ n ≤ k ∧ k < n + 20) := by
    intro a k m q q1 q2
    rcases q with q | ⟨q, q3, q4⟩
    · exact Or.inl q
    · exact Or.inr ⟨q, by omega, by omega⟩
  refine s_four kT eB kB nB hne hn (by omega) fun h1 f1 l1 v1 => ⟨rfl, ?_⟩
  refine s_four (f1.kd kT) ((f1.r _ _).trans eB) (f1.kd kB) ((f1.n kB).trans nB) hne l1 (by omega) fun h2 f2 l2 v2 => ⟨rfl, ?_⟩
  refine s_four (f2.kd (f1.kd kT)) ((f2.r _ _).trans ((f1.r _ _).trans eB)) (f2.kd (f1.kd kB)) ((f2.n (f1.kd kB)).trans ((f1.n kB).trans nB)) hne l2 (by omega) fun h3 f3 l3 v3 => ⟨rfl, ?_⟩
  refine s_four (f3.kd (f2.kd (f1.kd kT))) ((f3.r _ _).trans ((f2.r _ _).trans ((f1.r _ _).trans eB))) (f3.kd (f2.kd (f1.kd kB))) ((f3.n (f2.kd (f1.kd kB))).trans ((f2.n (f1.kd kB)).trans ((f1.n kB).trans nB))) hne l3 (by omega) fun h4 f4 l4 v4 => ⟨rfl, ?_⟩
  refine s_four (f4.kd (f3.kd (f2.kd (f1.kd kT)))) ((f4.r _ _).trans ((f3.r _ _).trans ((f2.r _ _).trans ((f1.r _ _).trans eB)))) (f4.kd (f3.kd (f2.kd (f1.kd kB)))) ((f4.n (f3.kd (f2.kd (f1.kd kB)))).trans ((f3.n (f2.kd (f1.kd kB))).trans ((f2.n (f1.kd kB)).trans ((f1.n kB).trans nB)))) hne l4 (by omega) fun h5 f5 l5 v5 => ⟨rfl, ?_⟩
  rw [l5]
  refine hQ hr h5 ?_ l5 ?_
  · exact (f1.weak fun a k q => P5 q (by omega) (by omega)).tr ((f2.weak fun a k q => P5 q (by omega) (by omega)).tr ((f3.weak fun a k q => P5 q (by omega) (by omega)).tr ((f4.weak fun a k q => P5 q (by omega) (by omega)).tr (f5.weak fun a k q => P5 q (by omega) (by omega)))))
  · intro j hj
    have no : ∀ m, ¬ (m ≤ n + j ∧ n + j < m + 4) → ¬ ((B = T ∧ n + j = 1) ∨ (B = B ∧ m ≤ n + j ∧ n + j < m + 4)) := by
      intro m hm q
      rcases q with q | q
      · exact hne q.1
      · exact hm q.2
    unfold b5
    by_cases j1 : j < 4
    · rw [if_pos j1, f5.i (no _ (by omega)), f4.i (no _ (by omega)), f3.i (no _ (by omega)), f2.i (no _ (by omega)), v1 j j1, Nat.mod_eq_of_lt j1]
    · rw [if_neg j1]
      by_cases j2 : j < 8
      · rw [if_pos j2, f5.i (no _ (by omega)), f4.i (no _ (by omega)), f3.i (no _ (by omega)), show n + j = n + 4 + (j - 4) by omega, v2 (j - 4) (by omega), show j % 4 = j - 4 by omega]
      · rw [if_neg j2]
        by_cases j3 : j < 12
        · rw [if_pos j3, f5.i (no _ (by omega)), f4.i (no _ (by omega)), show n + j = n + 4 + 4 + (j - 8) by omega, v3 (j - 8) (by omega), show j % 4 = j - 8 by omega]
        · rw [if_neg j3]
          by_cases j4 : j < 16
          · rw [if_pos j4, f5.i (no _ (by omega)), show n + j = n + 4 + 4 + 4 + (j - 12) by omega, v4 (j - 12) (by omega), show j % 4 = j - 12 by omega]
          · rw [if_neg j4, show n + j = n + 4 + 4 + 4 + 4 + (j - 16) by omega, v5 (j - 16) (by omega), show j % 4 = j - 16 by omega]
end EZ
theorem bt_rng (x : Int32) (j : Nat) : rng (bt x j) (-128) 127 := by
  unfold bt btv rng
  rw [Int8.toInt_toInt32]
  have := Int8.le_toInt ((x >>> (nI (24 - 8 * j) &&& 31)).toInt8.toInt32).toInt8
  have := Int8.toInt_lt ((x >>> (nI (24 - 8 * j) &&& 31)).toInt8.toInt32).toInt8
  omega
/-- both tapes change, and nothing else that the invariant reads -/
theorem InvB.tape {G : GG} {u0 : Nat} {h h2 : HP} {b y s p : Nat} {P RP : Nat → Nat → Prop} (I : InvB G u0 h b y s p) (F : FrJ P RP h h2) (hp : ∀ a k, P a k → Scr b y p a k ∨ (a = b + 1 ∧ k = 0) ∨ a = b + 2 ∨ (a = y ∧ k = 1) ∨ a = y + 1) (hr : ∀ a k, RP a k → Scr2 b a k) (ht : TapeX h2 b y) : InvB G u0 h2 b y s p := by
  obtain ⟨R, N, C⟩ := I
  have g := R.1
  have n := N.1
  refine ⟨R.fr2 F (fun a k z => ?_) (fun a k z => ?_) ht, N.fr F hr, C.fr (fun k => F.i (fun z => ?_)) (fun a k h1 h2 => F.i (fun z => ?_)) (fun a k h1 h2 => F.i (fun z => ?_))⟩
  · have := hp a k z
    unfold Scr at this
    unfold Tight2
    omega
  · have := hr a k z
    unfold Scr2 at this
    unfold RLoose
    omega
  all_goals
    have := hp _ _ z
    unfold Scr at this
    omega
theorem p_feed (G : GG) (u0 : Nat) (h : HP) (I : Inv G u0 h) (x1 x2 x3 x4 x5 : Int32) : Pr (Inv G u0) G G.1 (G.1 + 119) mX11_feed mX12_feed [.int x1, .int x2, .int x3, .int x4, .int x5] h := by
  obtain ⟨s, p, I⟩ := I
  unfold Pr Inv
  generalize G.1 = b at *
  generalize hy : b + 119 = y at *
  obtain ⟨n, t1, t2, t3, t4⟩ := I.1.2.2.2.2.1
  obtain ⟨-, a1, a2, a3⟩ : _ ∧ hR h b 0 = some (b + 1) ∧ Kd G h (b + 1) 8 ∧ hN h (b + 1) = 11 := I.1.2.2.1 (0, 0, 1, 8, 11) (by decide)
  obtain ⟨-, c1, c2, c3⟩ : _ ∧ hR h (b + 1) 5 = some (b + 2) ∧ Kd G h (b + 2) 13 ∧ hN h (b + 2) = 400 := I.1.2.2.1 (1, 5, 2, 13, 400) (by decide)
  obtain ⟨m1, m2, m3⟩ : hR h y 0 = some (y + 1) ∧ Kd G h (y + 1) 13 ∧ hN h (y + 1) = 400 := I.1.2.2.2.1.2 (0, 1, 13, 400) (by decide)
  have my := I.1.2.2.2.1.1
  refine s_feed (by omega) I.1.2.1 a1 a2 c1 c2 c3 (by omega) t2 t1 (fun hn => ⟨_, rfl, ?_⟩) (fun hn h2 F l v => ⟨_, rfl, ?_⟩)
  · exact r_feed (by omega) my m1 m2 m3 (by omega) t3 t1 (fun _ => ⟨rfl, s, p, I⟩) (fun q => absurd q hn)
  · refine r_feed (by omega) (F.kd my) ((F.r _ _).trans m1) (F.kd m2) ((F.n m2).trans m3) (by omega) ((F.i (by omega)).trans t3) t1 (fun q => absurd hn q) (fun _ h3 F3 l3 v3 => ⟨rfl, s, p, ?_⟩)
    refine I.tape (RP := fun _ _ => False) (P := fun a k => (a = b + 1 ∧ k = 0) ∨ a = b + 2 ∨ (a = y ∧ k = 1) ∨ a = y + 1) (((F.j _).weak (fun a k q => by omega) (fun _ _ q => q)).tr ((F3.j _).weak (fun a k q => by omega) (fun _ _ q => q))) (fun a k q => Or.inr q) (fun a k q => q.elim) ⟨n + 20, hn, (F3.i (by omega)).trans l, l3, fun k hk => ?_⟩
    by_cases hkn : k < n
    · rw [F3.i (by omega), F.i (by omega), F3.i (a := y + 1) (by omega), F.i (a := y + 1) (by omega)]
      exact t4 k hkn
    · have e1 := v (k - n) (by omega)
      have e2 := v3 (k - n) (by omega)
      rw [show n + (k - n) = k by omega] at e1 e2
      rw [F3.i (by omega), e1, e2]
      exact ⟨rfl, bt_rng _ _⟩
theorem p_end (G : GG) (u0 : Nat) (h : HP) (I : Inv G u0 h) (x1 : Int32) : Pr (Inv G u0) G G.1 (G.1 + 119) mX11_end mX12_end [.int x1] h := by
  obtain ⟨s, p, I⟩ := I
  unfold Pr Inv
  generalize G.1 = b at *
  generalize hy : b + 119 = y at *
  obtain ⟨n, t1, t2, t3, t4⟩ := I.1.2.2.2.2.1
  obtain ⟨-, a1, a2, a3⟩ : _ ∧ hR h b 0 = some (b + 1) ∧ Kd G h (b + 1) 8 ∧ hN h (b + 1) = 11 := I.1.2.2.1 (0, 0, 1, 8, 11) (by decide)
  have my := I.1.2.2.2.1.1
  refine e_X11_end ⟨fun c => ⟨_, rfl, ?_⟩, fun c => ⟨I.1.2.1, b + 1, a1, a2, fun c2 => ⟨_, rfl, ?_⟩, fun c2 => ⟨_, rfl, ?_⟩⟩⟩
  · exact e_X12_end ⟨fun _ => ⟨rfl, s, p, I⟩, fun q => absurd c q⟩
  · refine e_X12_end ⟨fun q => absurd q c, fun _ => ⟨my, fun _ => ⟨rfl, s, p, ?_⟩, fun q => absurd ?_ q⟩⟩
    · rw [t2, ti_le, ti_nI (by omega)] at c2
      rw [ti_lt] at c
      have e0 : (0 : Int32).toInt = 0 := rfl
      refine I.tape (RP := fun _ _ => False) (P := fun a k => (a = b + 1 ∧ k = 0) ∨ a = b + 2 ∨ (a = y ∧ k = 1) ∨ a = y + 1) ((FrJ.sI _ _ (Or.inl ⟨rfl, rfl⟩)).tr (FrJ.sI _ _ (Or.inr (Or.inr (Or.inl ⟨rfl, rfl⟩))))) (fun a k q => Or.inr q) (fun a k q => q.elim) ⟨x1.toInt.toNat, by omega, ?_, ?_, fun k hk => ?_⟩
      · rw [hI_ne _ _ (Or.inl (by omega)), hI_eq]
        exact nI_ti (by omega)
      · rw [hI_eq]
        exact nI_ti (by omega)
      · rw [hI_ne _ _ (Or.inl (by omega)), hI_ne _ _ (Or.inl (by omega)), hI_ne _ _ (Or.inl (by omega)), hI_ne _ _ (Or.inl (by omega))]
        exact t4 k (by omega)
    · rw [hI_ne _ _ (Or.inl (by omega)), t3, ← t2]
      exact c2
  · exact e_X12_end ⟨fun q => absurd q c, fun _ => ⟨my, fun q => absurd (by rw [t2, ← t3]; exact q) c2, fun _ => ⟨rfl, s, p, I⟩⟩⟩
