/-! ===== making a State ===== -/
def fillI (h : HP) (a n : Nat) (x : Int32) : HP := (fun b j => if b = a ∧ j < n then x else h.1 b j, h.2)
theorem hI_fill (h : HP) (a n : Nat) (x : Int32) (b j : Nat) : hI (fillI h a n x) b j = if b = a ∧ j < n then x else hI h b j := rfl
theorem kp_fill (h : HP) (a n : Nat) (x : Int32) : KP h (fillI h a n x) := ⟨Nat.le_refl _, Nat.le_refl _, fun _ _ => ⟨rfl, rfl⟩⟩
theorem fill0 (h : HP) (a : Nat) (x : Int32) : fillI h a 0 x = h := by
  show ((fun b j => if b = a ∧ j < 0 then x else h.1 b j, h.2) : HP) = h
  have : (fun b j => if b = a ∧ j < 0 then x else h.1 b j) = h.1 := by
    funext b j
    rw [if_neg (by omega)]
  rw [this]
theorem fillS (h : HP) (a n : Nat) (x : Int32) : sI (fillI h a n x) a n x = fillI h a (n + 1) x := by
  show ((fun b j => if b = a ∧ j = n then x else if b = a ∧ j < n then x else h.1 b j, h.2) : HP) = (fun b j => if b = a ∧ j < n + 1 then x else h.1 b j, h.2)
  congr 1
  funext b j
  by_cases h1 : b = a ∧ j = n
  · rw [if_pos h1, if_pos ⟨h1.1, by omega⟩]
  · rw [if_neg h1]
    by_cases h2 : b = a ∧ j < n
    · rw [if_pos h2, if_pos ⟨h2.1, by omega⟩]
    · rw [if_neg h2, if_neg (by omega)]
section CT
variable {G : GG} {d : Nat} {h : HP} {Q : Option Value → HP → Prop} {s : Nat}
theorem s_fill {a n : Nat} {x : Int32} (k : Kd G h a 14) (hn : hN h a = n) (hn2 : n < 2147483648) (hQ : Q none (fillI h a n x)) : Cal G d mJ7_fill_53178 [.ref a, .int x] h Q := by
  refine e_J7_fill_53178 ⟨k, ?_⟩
  rw [hn]
  have loop : ∀ m i, i + m = n → Ex G d mJ7_fill_53178 5 [(0, .ref a), (1, .int x), (2, .int (nI i)), (3, .int (Int32.ofNat n))] [] (fillI h a i x) Q := by
    intro m
    induction m with
    | zero =>
      intro i hi
      obtain rfl : i = n := by omega
      exact t_J7_fill_53178_5 ⟨fun _ => hQ, fun q => absurd ((nI_le_iff (a := i) (b := i) hn2 hn2).mpr (Nat.le_refl _)) q⟩
    | succ m ih =>
      intro i hi
      refine t_J7_fill_53178_5 ⟨fun q => absurd ((nI_le_iff (a := n) (b := i) hn2 (by omega)).mp q) (by omega), fun _ => ⟨k, ?_, ?_⟩⟩
      · show vp_in (nI i) (hN h a)
        rw [hn]; exact vin_nI (by omega) hn2
      · rw [cl_nI (by omega), fillS, nI_S]
        exact ih (i + 1) (by omega)
  have := loop n 0 (by omega)
  rw [fill0] at this
  exact this
/-- a blank thing -/
def thBl (k : Nat) : Int32 := if k = 5 ∨ k = 6 ∨ k = 8 then -1 else 0
/-- what a new State at s holds so far: things below i, errands below e -/
def StPart (G : GG) (h0 h : HP) (s i e : Nat) : Prop :=
  KP h0 h ∧ hZ h = s + 5 + i + e ∧ hU h = hU h0 + 1781 + 12 * i + 6 * e ∧ (∀ a, a < s → ∀ k, hI h a k = hI h0 a k ∧ hL h a k = hL h0 a k ∧ hR h a k = hR h0 a k) ∧
  (Kd G h s 6 ∧ (hR h s 5 = some (s + 1) ∧ hR h s 6 = some (s + 2) ∧ hR h s 7 = some (s + 3) ∧ hR h s 8 = some (s + 4)) ∧ (Kd G h (s + 1) 14 ∧ hN h (s + 1) = 1600) ∧ (Kd G h (s + 2) 14 ∧ hN h (s + 2) = 144) ∧ (Kd G h (s + 3) 20 ∧ hN h (s + 3) = 31) ∧ (Kd G h (s + 4) 17 ∧ hN h (s + 4) = 6)) ∧
  (∀ j, j < i → hR h (s + 3) j = some (s + 5 + j) ∧ Kd G h (s + 5 + j) 9) ∧ (∀ j, j < e → hR h (s + 4) j = some (s + 36 + j) ∧ Kd G h (s + 36 + j) 1) ∧
  (hI h s 0 = 20 ∧ hI h s 1 = 20 ∧ hI h s 2 = 0 ∧ hI h s 3 = 0 ∧ hI h s 4 = 0) ∧ (∀ c, c < 1600 → hI h (s + 1) c = 1) ∧ (∀ j, hI h (s + 2) j = 0) ∧ (∀ j, j < i → ∀ k, tg h s j k = thBl k) ∧ (∀ j, j < e → ∀ k, hI h (s + 36 + j) k = 0)
theorem s_State_init (hd : 2 ≤ d) (k : Kd G h s 6) (hz : hZ h = s + 1) (b0 : ∀ k, hI h s k = 0) (hQ : ∀ h2, StPart G h h2 s 31 6 → Q none h2) : Cal G d mX6_init [.ref s] h Q := by
  have gs := k.2.1
  refine e_X6_init (by omega) ⟨k, ?_⟩
  intro q2 h3 e1 e2 q7 h8 e3 e4 q12 h13 e5 e6 q17 h18 e7 e8
  have c1 : ((1600 : Int32).toNatClampNeg) = 1600 := by decide
  have c2 : ((144 : Int32).toNatClampNeg) = 144 := by decide
  have c3 : ((31 : Int32).toNatClampNeg) = 31 := by decide
  have c4 : ((6 : Int32).toNatClampNeg) = 6 := by decide
  rw [c1] at e2
  rw [c2] at e4
  rw [c3] at e6
  rw [c4] at e8
  have z2 : q2 = s + 1 := by rw [e1, hZ_sI, hZ_sI, hz]
  have z3 : hZ h3 = s + 2 := by rw [e2, hZ_nw, hZ_sI, hZ_sI, hz]
  have z7 : q7 = s + 2 := by rw [e3, hZ_sR, z3]
  have z8 : hZ h8 = s + 3 := by rw [e4, hZ_nw, hZ_sR, z3]
  have z12 : q12 = s + 3 := by rw [e5, hZ_sR, z8]
  have z13 : hZ h13 = s + 4 := by rw [e6, hZ_nw, hZ_sR, z8]
  have z17 : q17 = s + 4 := by rw [e7, hZ_sR, z13]
  have z18 : hZ h18 = s + 5 := by rw [e8, hZ_nw, hZ_sR, z13]
  subst z2 z7 z12 z17
  have hKK : ∀ a, hK h18 a = if a = s + 4 then 17 else if a = s + 3 then 20 else if a = s + 2 then 14 else if a = s + 1 then 14 else hK h a := by
    intro a
    rw [e8, hK_nw, hZ_sR, z13, hK_sR, e6, hK_nw, hZ_sR, z8, hK_sR, e4, hK_nw, hZ_sR, z3, hK_sR, e2, hK_nw, hZ_sI, hZ_sI, hz, hK_sI, hK_sI]
  have hNN : ∀ a, hN h18 a = if a = s + 4 then 6 else if a = s + 3 then 31 else if a = s + 2 then 144 else if a = s + 1 then 1600 else hN h a := by
    intro a
    rw [e8, hN_nw, hZ_sR, z13, hN_sR, e6, hN_nw, hZ_sR, z8, hN_sR, e4, hN_nw, hZ_sR, z3, hN_sR, e2, hN_nw, hZ_sI, hZ_sI, hz, hN_sI, hN_sI]
  have hII : ∀ a k, hI h18 a k = if a = s + 4 then 0 else if a = s + 3 then 0 else if a = s + 2 then 0 else if a = s + 1 then 0 else if a = s ∧ k = 1 then 20 else if a = s ∧ k = 0 then 20 else hI h a k := by
    intro a k
    rw [e8, hI_nw, hZ_sR, z13, hI_sR, e6, hI_nw, hZ_sR, z8, hI_sR, e4, hI_nw, hZ_sR, z3, hI_sR, e2, hI_nw, hZ_sI, hZ_sI, hz, hI_sI, hI_sI]
  have hLL : ∀ a k, hL h18 a k = if a = s + 4 then 0 else if a = s + 3 then 0 else if a = s + 2 then 0 else if a = s + 1 then 0 else hL h a k := by
    intro a k
    rw [e8, hL_nw, hZ_sR, z13, hL_sR, e6, hL_nw, hZ_sR, z8, hL_sR, e4, hL_nw, hZ_sR, z3, hL_sR, e2, hL_nw, hZ_sI, hZ_sI, hz, hL_sI, hL_sI]
  have hRR : ∀ a k, a < s + 1 → hR h18 a k = if a = s ∧ k = 7 then some (s + 3) else if a = s ∧ k = 6 then some (s + 2) else if a = s ∧ k = 5 then some (s + 1) else hR h a k := by
    intro a k ha
    have n1 : ¬ a = s + 4 := by omega
    have n2 : ¬ a = s + 3 := by omega
    have n3 : ¬ a = s + 2 := by omega
    have n4 : ¬ a = s + 1 := by omega
    rw [e8, hR_nw, hZ_sR, z13, hR_sR, e6, hR_nw, hZ_sR, z8, hR_sR, e4, hR_nw, hZ_sR, z3, hR_sR, e2, hR_nw, hZ_sI, hZ_sI, hz, hR_sI, hR_sI]
    simp only [n1, n2, n3, n4, if_false]
  have hUU : hU h18 = hU h + 1781 := by
    rw [e8, hU_nw, hU_sR, e6, hU_nw, hU_sR, e4, hU_nw, hU_sR, e2, hU_nw, hU_sI, hU_sI]
  have k18 : Kd G (sR h18 s 8 (some (s + 4))) (s + 1) 14 := ⟨by rw [hK_sR, hKK]; simp, by omega, by rw [hZ_sR, z18]; omega⟩
  refine ⟨s + 1, by rw [hR_sR]; simp [hRR s 5 (by omega)], s_fill (n := 1600) k18 (by rw [hN_sR, hNN]; simp) (by omega) ⟨rfl, ?_⟩⟩
  have P0 : StPart G h (fillI (sR h18 s 8 (some (s + 4))) (s + 1) 1600 1) s 0 0 := by
    have eI : ∀ a k, hI (fillI (sR h18 s 8 (some (s + 4))) (s + 1) 1600 1) a k = if a = s + 1 ∧ k < 1600 then 1 else hI h18 a k := fun a k => rfl
    have eR : ∀ a k, hR (fillI (sR h18 s 8 (some (s + 4))) (s + 1) 1600 1) a k = if a = s ∧ k = 8 then some (s + 4) else hR h18 a k := fun a k => rfl
    have eK : ∀ a, hK (fillI (sR h18 s 8 (some (s + 4))) (s + 1) 1600 1) a = hK h18 a := fun a => rfl
    have eN : ∀ a, hN (fillI (sR h18 s 8 (some (s + 4))) (s + 1) 1600 1) a = hN h18 a := fun a => rfl
    have eZ : hZ (fillI (sR h18 s 8 (some (s + 4))) (s + 1) 1600 1) = s + 5 := z18
    have eU : hU (fillI (sR h18 s 8 (some (s + 4))) (s + 1) 1600 1) = hU h + 1781 := hUU
    have eL : ∀ a k, hL (fillI (sR h18 s 8 (some (s + 4))) (s + 1) 1600 1) a k = hL h18 a k := fun a k => rfl
    have kd : ∀ a κ, s ≤ a → a < s + 5 → hK h18 a = κ → Kd G (fillI (sR h18 s 8 (some (s + 4))) (s + 1) 1600 1) a κ := fun a κ h1 h2 h3 => ⟨by rw [eK]; exact h3, by omega, by rw [eZ]; exact h2⟩
    refine ⟨⟨by rw [eZ, hz]; omega, by rw [eU]; omega, fun a ha => ⟨?_, ?_⟩⟩, by rw [eZ], by rw [eU], fun a ha k => ⟨?_, ?_, ?_⟩, ⟨kd s 6 (by omega) (by omega) ?_, ⟨?_, ?_, ?_, ?_⟩, ⟨kd _ 14 (by omega) (by omega) ?_, ?_⟩, ⟨kd _ 14 (by omega) (by omega) ?_, ?_⟩, ⟨kd _ 20 (by omega) (by omega) ?_, ?_⟩, ⟨kd _ 17 (by omega) (by omega) ?_, ?_⟩⟩, fun j hj => absurd hj (by omega), fun j hj => absurd hj (by omega), ⟨?_, ?_, ?_, ?_, ?_⟩, fun c hc => ?_, fun j => ?_, fun j hj => absurd hj (by omega), fun j hj => absurd hj (by omega)⟩
    · rw [hz] at ha; rw [eK, hKK, if_neg (by omega), if_neg (by omega), if_neg (by omega), if_neg (by omega)]
    · rw [hz] at ha; rw [eN, hNN, if_neg (by omega), if_neg (by omega), if_neg (by omega), if_neg (by omega)]
    · rw [eI, if_neg (by omega), hII, if_neg (by omega), if_neg (by omega), if_neg (by omega), if_neg (by omega), if_neg (by omega), if_neg (by omega)]
    · rw [eL, hLL, if_neg (by omega), if_neg (by omega), if_neg (by omega), if_neg (by omega)]
    · rw [eR, if_neg (by omega), hRR _ _ (by omega), if_neg (by omega), if_neg (by omega), if_neg (by omega)]
    · rw [hKK, if_neg (by omega), if_neg (by omega), if_neg (by omega), if_neg (by omega)]; exact k.1
    · rw [eR, if_neg (by omega), hRR _ _ (by omega)]; simp
    · rw [eR, if_neg (by omega), hRR _ _ (by omega)]; simp
    · rw [eR, if_neg (by omega), hRR _ _ (by omega)]; simp
    · rw [eR]; simp
    · rw [hKK]; simp
    · rw [eN, hNN]; simp
    · rw [hKK]; simp
    · rw [eN, hNN]; simp
    · rw [hKK]; simp
    · rw [eN, hNN]; simp
    · rw [hKK]; simp
    · rw [eN, hNN]; simp
    · rw [eI, if_neg (by omega), hII]; simp
    · rw [eI, if_neg (by omega), hII]; simp
    · rw [eI, if_neg (by omega), hII]; simp [b0]
    · rw [eI, if_neg (by omega), hII]; simp [b0]
    · rw [eI, if_neg (by omega), hII]; simp [b0]
    · rw [eI]; simp [hc]
    · rw [eI, if_neg (by omega), hII]; simp
  have loop2 : ∀ m e h1, e + m = 6 → StPart G h h1 s 31 e → Ex G d mX6_init 89 [(0, .ref s), (1, .int (nI e))] [] h1 Q := by
    intro m
    induction m with
    | zero =>
      intro e h1 he P
      obtain rfl : e = 6 := by omega
      exact t_X6_init_89 (by omega) ⟨fun _ => hQ h1 P, fun q => absurd (show (6 : Int32) ≤ nI 6 by decide) q⟩
    | succ m ih =>
      intro e h1 he P
      obtain ⟨p1, p2, p3, p4, ⟨p5, ⟨p6, p7, p8, p9⟩, ⟨p10, p11⟩, ⟨p12, p13⟩, ⟨p14, p15⟩, ⟨p16, p17⟩⟩, p18, p19, p20, p21, p22, p23, p24⟩ := P
      refine t_X6_init_89 (by omega) ⟨fun q => absurd ((nI_le_iff (a := 6) (b := e) (by omega) (by omega)).mp q) (by omega), fun _ => ⟨p5, s + 4, p9, ?_⟩⟩
      intro q5 h6 r1 r2
      subst r1 r2
      have kz : KP h1 (nw h1 1 6) := KP.nw h1 1 6
      have kn : Kd G (nw h1 1 6) (hZ h1) 1 := ⟨by rw [hK_nw, if_pos rfl], by omega, by rw [hZ_nw]; omega⟩
      refine e_X1_init (by omega) ⟨rfl, p16.up kz, ?_, kn, ?_⟩
      · rw [p16.len kz, p17]; exact vin_nI (by omega) (by omega)
      · rw [nI_S, cl_nI (by omega)]
        have kk : KP h1 (sR (nw h1 1 6) (s + 4) e (some (hZ h1))) := kz.tr (kp_sR _ _ _ _)
        have eI : ∀ a k, a < hZ h1 → hI (sR (nw h1 1 6) (s + 4) e (some (hZ h1))) a k = hI h1 a k := fun a k ha => by rw [hI_sR, hI_nw, if_neg (by omega)]
        have eL : ∀ a k, a < hZ h1 → hL (sR (nw h1 1 6) (s + 4) e (some (hZ h1))) a k = hL h1 a k := fun a k ha => by rw [hL_sR, hL_nw, if_neg (by omega)]
        have eR : ∀ a k, a < hZ h1 → (a ≠ s + 4 ∨ k ≠ e) → hR (sR (nw h1 1 6) (s + 4) e (some (hZ h1))) a k = hR h1 a k := fun a k ha hk => by rw [hR_sR, if_neg (by omega), hR_nw, if_neg (by omega)]
        refine ih (e + 1) _ (by omega) ⟨p1.tr kk, by rw [hZ_sR, hZ_nw, p2]; omega, by rw [hU_sR, hU_nw, p3]; omega, fun a ha k => ⟨?_, ?_, ?_⟩, ⟨p5.up kk, ⟨?_, ?_, ?_, ?_⟩, ⟨p10.up kk, (p10.len kk).trans p11⟩, ⟨p12.up kk, (p12.len kk).trans p13⟩, ⟨p14.up kk, (p14.len kk).trans p15⟩, ⟨p16.up kk, (p16.len kk).trans p17⟩⟩, fun j hj => ⟨?_, (p18 j hj).2.up kk⟩, fun j hj => ⟨?_, ?_⟩, ⟨?_, ?_, ?_, ?_, ?_⟩, fun c hc => ?_, fun j => ?_, fun j hj k => ?_, fun j hj k => ?_⟩
        · rw [eI _ _ (by omega)]; exact (p4 a ha k).1
        · rw [eL _ _ (by omega)]; exact (p4 a ha k).2.1
        · rw [eR _ _ (by omega) (by omega)]; exact (p4 a ha k).2.2
        · rw [eR _ _ (by omega) (by omega)]; exact p6
        · rw [eR _ _ (by omega) (by omega)]; exact p7
        · rw [eR _ _ (by omega) (by omega)]; exact p8
        · rw [eR _ _ (by omega) (by omega)]; exact p9
        · rw [eR _ _ (by omega) (by omega)]; exact (p18 j hj).1
        · by_cases hje : j = e
          · subst hje
            rw [hR_sR, if_pos ⟨rfl, rfl⟩, p2]
          · rw [eR _ _ (by omega) (by omega)]; exact (p19 j (by omega)).1
        · by_cases hje : j = e
          · subst hje
            have := kn.up (kp_sR (nw h1 1 6) (s + 4) j (some (hZ h1)))
            rw [p2] at this ⊢
            exact this
          · exact (p19 j (by omega)).2.up kk
        · rw [eI _ _ (by omega)]; exact p20.1
        · rw [eI _ _ (by omega)]; exact p20.2.1
        · rw [eI _ _ (by omega)]; exact p20.2.2.1
        · rw [eI _ _ (by omega)]; exact p20.2.2.2.1
        · rw [eI _ _ (by omega)]; exact p20.2.2.2.2
        · rw [eI _ _ (by omega)]; exact p21 c hc
        · rw [eI _ _ (by omega)]; exact p22 j
        · show hI _ (s + 5 + j) k = _
          rw [eI _ _ (by omega)]; exact p23 j hj k
        · by_cases hje : j = e
          · subst hje
            rw [hI_sR, hI_nw, if_pos (by omega)]
          · rw [eI _ _ (by omega)]; exact p24 j (by omega) k
  have loop1 : ∀ m i h1, i + m = 31 → StPart G h h1 s i 0 → Ex G d mX6_init 62 [(0, .ref s), (1, .int (nI i))] [] h1 Q := by
    intro m
    induction m with
    | zero =>
      intro i h1 hi P
      obtain rfl : i = 31 := by omega
      exact t_X6_init_62 (by omega) ⟨fun _ => loop2 6 0 h1 rfl P, fun q => absurd (show (31 : Int32) ≤ nI 31 by decide) q⟩
    | succ m ih =>
      intro i h1 hi P
      obtain ⟨p1, p2, p3, p4, ⟨p5, ⟨p6, p7, p8, p9⟩, ⟨p10, p11⟩, ⟨p12, p13⟩, ⟨p14, p15⟩, ⟨p16, p17⟩⟩, p18, p19, p20, p21, p22, p23, p24⟩ := P
      refine t_X6_init_62 (by omega) ⟨fun q => absurd ((nI_le_iff (a := 31) (b := i) (by omega) (by omega)).mp q) (by omega), fun _ => ⟨p5, s + 3, p8, ?_⟩⟩
      intro q5 h6 r1 r2
      subst r1 r2
      have kz : KP h1 (nw h1 9 12) := KP.nw h1 9 12
      have kn : Kd G (nw h1 9 12) (hZ h1) 9 := ⟨by rw [hK_nw, if_pos rfl], by omega, by rw [hZ_nw]; omega⟩
      refine e_X9_init (by omega) ⟨kn, rfl, p14.up kz, ?_, kn, ?_⟩
      · show vp_in (nI i) (hN (nw h1 9 12) (s + 3))
        rw [p14.len kz, p15]; exact vin_nI (by omega) (by omega)
      · rw [nI_S, cl_nI (by omega)]
        have kk : KP h1 (sR (sI (sI (sI (nw h1 9 12) (hZ h1) 5 (-1)) (hZ h1) 6 (-1)) (hZ h1) 8 (-1)) (s + 3) i (some (hZ h1))) := kz.tr (((kp_sI _ _ _ _).tr (kp_sI _ _ _ _)).tr ((kp_sI _ _ _ _).tr (kp_sR _ _ _ _)))
        have eI : ∀ a k, a < hZ h1 → hI (sR (sI (sI (sI (nw h1 9 12) (hZ h1) 5 (-1)) (hZ h1) 6 (-1)) (hZ h1) 8 (-1)) (s + 3) i (some (hZ h1))) a k = hI h1 a k := fun a k ha => by rw [hI_sR, hI_sI, if_neg (by omega), hI_sI, if_neg (by omega), hI_sI, if_neg (by omega), hI_nw, if_neg (by omega)]
        have eL : ∀ a k, a < hZ h1 → hL (sR (sI (sI (sI (nw h1 9 12) (hZ h1) 5 (-1)) (hZ h1) 6 (-1)) (hZ h1) 8 (-1)) (s + 3) i (some (hZ h1))) a k = hL h1 a k := fun a k ha => by rw [hL_sR, hL_sI, hL_sI, hL_sI, hL_nw, if_neg (by omega)]
        have eR : ∀ a k, a < hZ h1 → (a ≠ s + 3 ∨ k ≠ i) → hR (sR (sI (sI (sI (nw h1 9 12) (hZ h1) 5 (-1)) (hZ h1) 6 (-1)) (hZ h1) 8 (-1)) (s + 3) i (some (hZ h1))) a k = hR h1 a k := fun a k ha hk => by rw [hR_sR, if_neg (by omega), hR_sI, hR_sI, hR_sI, hR_nw, if_neg (by omega)]
        refine ih (i + 1) _ (by omega) ⟨p1.tr kk, by rw [hZ_sR, hZ_sI, hZ_sI, hZ_sI, hZ_nw, p2]; omega, by rw [hU_sR, hU_sI, hU_sI, hU_sI, hU_nw, p3]; omega, fun a ha k => ⟨?_, ?_, ?_⟩, ⟨p5.up kk, ⟨?_, ?_, ?_, ?_⟩, ⟨p10.up kk, (p10.len kk).trans p11⟩, ⟨p12.up kk, (p12.len kk).trans p13⟩, ⟨p14.up kk, (p14.len kk).trans p15⟩, ⟨p16.up kk, (p16.len kk).trans p17⟩⟩, fun j hj => ⟨?_, ?_⟩, fun j hj => absurd hj (by omega), ⟨?_, ?_, ?_, ?_, ?_⟩, fun c hc => ?_, fun j => ?_, fun j hj k => ?_, fun j hj k => absurd hj (by omega)⟩
        · rw [eI _ _ (by omega)]; exact (p4 a ha k).1
        · rw [eL _ _ (by omega)]; exact (p4 a ha k).2.1
        · rw [eR _ _ (by omega) (by omega)]; exact (p4 a ha k).2.2
        · rw [eR _ _ (by omega) (by omega)]; exact p6
        · rw [eR _ _ (by omega) (by omega)]; exact p7
        · rw [eR _ _ (by omega) (by omega)]; exact p8
        · rw [eR _ _ (by omega) (by omega)]; exact p9
        · by_cases hje : j = i
          · subst hje
            rw [hR_sR, if_pos ⟨rfl, rfl⟩, p2]
            rfl
          · rw [eR _ _ (by omega) (by omega)]; exact (p18 j (by omega)).1
        · by_cases hje : j = i
          · subst hje
            have := kn.up (((kp_sI (nw h1 9 12) (hZ h1) 5 (-1)).tr (kp_sI _ (hZ h1) 6 (-1))).tr ((kp_sI _ (hZ h1) 8 (-1)).tr (kp_sR _ (s + 3) j (some (hZ h1)))))
            have ez : hZ h1 = s + 5 + j := by omega
            rw [← ez]
            exact this
          · exact (p18 j (by omega)).2.up kk
        · rw [eI _ _ (by omega)]; exact p20.1
        · rw [eI _ _ (by omega)]; exact p20.2.1
        · rw [eI _ _ (by omega)]; exact p20.2.2.1
        · rw [eI _ _ (by omega)]; exact p20.2.2.2.1
        · rw [eI _ _ (by omega)]; exact p20.2.2.2.2
        · rw [eI _ _ (by omega)]; exact p21 c hc
        · rw [eI _ _ (by omega)]; exact p22 j
        · show hI _ (s + 5 + j) k = _
          by_cases hje : j = i
          · subst hje
            have ez : s + 5 + j = hZ h1 := by omega
            rw [ez, hI_sR, hI_sI, hI_sI, hI_sI, hI_nw]
            unfold thBl
            by_cases k8 : k = 8
            · simp [k8]
            · by_cases k6 : k = 6
              · simp [k6]
              · by_cases k5 : k = 5
                · simp [k5]
                · simp [k5, k6, k8]
          · rw [eI _ _ (by omega)]; exact p23 j (by omega) k
  exact loop1 31 0 _ rfl P0
end CT
