/-! ===== laws and wishes: the reference ===== -/
section TR
variable {G : GG} {d : Nat} {Q : Option Value → HP → Prop} {y t : Nat} {w : Nat → Int64} {D : List Cla}
def ScrV (G : GG) (h : HP) (y t : Nat) (w : Nat → Int64) (D : List Cla) : Prop := RunR G h y w ∧ ScrR h y t D ∧ D.length ≤ 12 ∧ t < 12 ∧ ∀ q ∈ D, ClaP q ∧ q.1 ≠ 15
theorem ScrV.fr {h h2 : HP} (F : FrS (RkI y) (RkL y) h h2) (S : ScrV G h y t w D) : ScrV G h2 y t w D := ⟨S.1.fr F, S.2.1.fr S.2.2.1 (fun k _ _ => F.i (by unfold RkI; omega)) (fun k _ _ => F.i (by unfold RkI; omega)) (F.i (by unfold RkI; omega)), S.2.2⟩
theorem cIx (t i j : Nat) : 60 * nI t + 5 * nI i + nI j = nI (60 * t + 5 * i + j) := by
  show nI 60 * nI t + nI 5 * nI i + nI j = _
  rw [nM, nM, nA, nA]
theorem r_isHolding {h : HP} {i : Nat} {q : Cla} (hd : 2 ≤ d) (S : ScrV G h y t w D) (hq : D[i]? = some q) (hQ : ∀ h2, FrS (RkI y) (RkL y) h h2 → Q (some (.int (bI (holdB w q)))) h2) : Cal G d mX12_isHolding [.ref y, .int (nI t), .int (nI i)] h Q := by
  have M := S.1.1
  have hi := (List.getElem?_eq_some_iff.mp hq).1
  have hm : q ∈ D := List.mem_of_getElem? hq
  have hl := S.2.2.1
  have ht := S.2.2.2.1
  obtain ⟨p1, p2, p3⟩ : hR h y 5 = some (y + 5) ∧ Kd G h (y + 5) 14 ∧ hN h (y + 5) = 720 := M.2 (5, 5, 14, 720) (by decide)
  obtain ⟨-, -, f3, f4⟩ := S.2.1.2 i q hq
  have e3 : 60 * nI t + 5 * nI i + 3 = nI (60 * t + 5 * i + 3) := cIx t i 3
  have e4 : 60 * nI t + 5 * nI i + 4 = nI (60 * t + 5 * i + 4) := cIx t i 4
  have v3 : vp_in (60 * nI t + 5 * nI i + 3) (hN h (y + 5)) := by rw [e3, p3]; exact vin_nI (by omega) (by omega)
  have v4 : vp_in (60 * nI t + 5 * nI i + 4) (hN h (y + 5)) := by rw [e4, p3]; exact vin_nI (by omega) (by omega)
  refine e_X12_isHolding (by omega) ⟨M.1, y + 5, p1, p2, v3, ?_⟩
  rw [e3, e4, cl_nI (by omega), cl_nI (by omega)]
  cases hl' : q.2.2 with
  | none =>
    rw [f3 hl']
    refine ⟨fun _ => ?_, fun c => absurd (show (-1 : Int32) < 0 by decide) c⟩
    have := hQ h (frS_rf _ _ h)
    have hb : holdB w q = true := by unfold holdB; rw [hl']
    rw [hb] at this
    exact this
  | some l =>
    obtain ⟨p, c1, c2, c3, c4⟩ := f4 l hl'
    have T : (∃ n, TestP n l) ∧ pushN l ≤ 60 := by
      rcases (S.2.2.2.2 q hm).1 with z | ⟨-, l', e', t1, t2⟩ | ⟨-, -, -, tt⟩
      · rw [z.2] at hl'; cases hl'
      · rw [hl'] at e'
        obtain rfl : l = l' := Option.some.inj e'
        exact ⟨t1, t2⟩
      · exact tt l hl'
    obtain ⟨⟨n, tt⟩, tp⟩ := T
    obtain ⟨ev, b01⟩ := vT_ev w tt
    have hb : holdB w q = (vT w l == 1) := by
      unfold holdB
      rw [hl']
    rw [c2, c3]
    refine ⟨fun c => ?_, fun _ => ⟨by rw [← e3]; exact v3, by rw [← e4]; exact v4, r_reckons (by omega) ht ev c4 c1 tp S.1 (fun h2 F => ⟨_, rfl, fun c => ?_, fun c => ?_⟩)⟩⟩
    · rw [ti_lt, ti_nI (by omega), show (0 : Int32).toInt = 0 from rfl] at c
      omega
    · have := hQ h2 F
      rw [hb] at this
      rcases b01 with z | z
      · rw [z] at this; exact this
      · rw [z] at c; exact absurd rfl c
    · have := hQ h2 F
      rw [hb] at this
      rcases b01 with z | z
      · rw [z] at c; exact absurd c (by decide)
      · rw [z] at this; exact this
theorem r_summed {h : HP} {i : Nat} {q : Cla} (hd : 2 ≤ d) (S : ScrV G h y t w D) (hq : D[i]? = some q) (hk : q.1 = 12 ∨ q.1 = 16) (hQ : ∀ h2, FrS (RkI y) (RkL y) h h2 → Q (some (.long (vS w q.2.1))) h2) : Cal G d mX12_summed [.ref y, .int (nI t), .int (nI i)] h Q := by
  have M := S.1.1
  have hi := (List.getElem?_eq_some_iff.mp hq).1
  have hm : q ∈ D := List.mem_of_getElem? hq
  have hl := S.2.2.1
  have ht := S.2.2.2.1
  obtain ⟨p1, p2, p3⟩ : hR h y 5 = some (y + 5) ∧ Kd G h (y + 5) 14 ∧ hN h (y + 5) = 720 := M.2 (5, 5, 14, 720) (by decide)
  obtain ⟨-, ⟨p, c1, c2, c3, c4⟩, -, -⟩ := S.2.1.2 i q hq
  have e1 : 60 * nI t + 5 * nI i + 1 = nI (60 * t + 5 * i + 1) := cIx t i 1
  have e2 : 60 * nI t + 5 * nI i + 2 = nI (60 * t + 5 * i + 2) := cIx t i 2
  refine e_X12_summed (by omega) ⟨M.1, y + 5, p1, p2, by rw [e1, p3]; exact vin_nI (by omega) (by omega), by rw [e2, p3]; exact vin_nI (by omega) (by omega), ?_⟩
  rw [e1, e2, cl_nI (by omega), cl_nI (by omega), c2, c3]
  rcases (S.2.2.2.2 q hm).1 with z | z | ⟨-, ⟨n, tt⟩, tp, -⟩
  · omega
  · omega
  · exact r_reckons (by omega) ht (vS_ev w tt) c4 c1 tp S.1 (fun h2 F => ⟨_, rfl, hQ h2 F⟩)
theorem srt0 {k : Nat} : nI (srt k) = 0 ↔ ¬ (k = 13 ∨ k = 14) := by
  unfold srt
  by_cases c : k = 13
  · rw [if_pos c]
    exact ⟨fun q => absurd q (by decide), fun q => absurd (Or.inl c) q⟩
  · rw [if_neg c]
    by_cases c2 : k = 14
    · rw [if_pos c2]
      exact ⟨fun q => absurd q (by decide), fun q => absurd (Or.inr c2) q⟩
    · rw [if_neg c2]
      exact ⟨fun _ q => by omega, fun _ => rfl⟩
theorem lgc_le {x z : Int64} : lg_cmp x z ≤ 0 ↔ x.toInt ≤ z.toInt := by
  have := @lgc_gt x z
  rw [ti_lt] at this
  rw [ti_le, show (0 : Int32).toInt = 0 from rfl] at *
  omega
theorem lgc_ge {x z : Int64} : 0 ≤ lg_cmp x z ↔ z.toInt ≤ x.toInt := by
  have := @lgc_lt x z
  rw [ti_lt] at this
  rw [ti_le, show (0 : Int32).toInt = 0 from rfl] at *
  omega
theorem r_bounded {h : HP} {v : Int64} (hQ : Q (some (.long (claV v))) h) : Cal G d mX12_bounded [.long v, .long 1, .long 40] h Q := by
  have e1 : (1 : Int64).toInt = 1 := by simp
  have e40 : (40 : Int64).toInt = 40 := by simp
  unfold claV at hQ
  refine e_X12_bounded ⟨fun c => ⟨fun c2 => ?_, fun c2 => ?_⟩, fun c => ?_⟩
  · rw [lgc_ge, e1] at c
    rw [lgc_le, e40] at c2
    rw [if_neg (by omega), if_neg (by omega)] at hQ
    exact hQ
  · rw [lgc_ge, e1] at c
    rw [lgc_le, e40] at c2
    rw [if_neg (by omega), if_pos (by omega)] at hQ
    exact hQ
  · rw [lgc_ge, e1] at c
    rw [if_pos (by omega)] at hQ
    exact hQ
theorem r_farBy {h : HP} (hd : 3 ≤ d) (S : ScrV G h y t w D) (hk : ∀ q ∈ D, q.1 ≠ 16) (hQ : ∀ h2, FrS (RkI y) (RkL y) h h2 → Q (some (.long (farF w D))) h2) : Cal G d mX12_farBy [.ref y, .int (nI t)] h Q := by
  have hl := S.2.2.1
  have ht := S.2.2.2.1
  have ct : (nI t).toNatClampNeg = t := cl_nI (by omega)
  refine e_X12_farBy ?_
  unfold T_X12_farBy
  have loop : ∀ n i h1, i + n = D.length → FrS (RkI y) (RkL y) h h1 → (∀ h2, FrS (RkI y) (RkL y) h h2 → Q (some (.long (farF w (D.drop i)))) h2) → Ex G d mX12_farBy 2 [(0, .ref y), (1, .int (nI t)), (2, .int (nI i))] [] h1 Q := by
    intro n
    induction n with
    | zero =>
      intro i h1 hi F k
      have S1 := S.fr F
      have M1 := S1.1.1
      obtain rfl : i = D.length := by omega
      obtain ⟨q1, q2, q3⟩ : hR h1 y 6 = some (y + 6) ∧ Kd G h1 (y + 6) 14 ∧ hN h1 (y + 6) = 12 := M1.2 (6, 6, 14, 12) (by decide)
      refine t_X12_farBy_2 (by omega) ⟨M1.1, y + 6, q1, q2, by rw [q3]; exact vin_nI ht (by omega), ?_⟩
      rw [ct, S1.2.1.1]
      refine ⟨fun _ => ?_, fun q => absurd ((nI_le_iff (by omega) (by omega)).mpr (Nat.le_refl _)) q⟩
      have := k h1 F
      rw [List.drop_length] at this
      exact this
    | succ n ih =>
      intro i h1 hi F k
      have S1 := S.fr F
      have M1 := S1.1.1
      obtain ⟨q, hq, hm⟩ := get_at (C := D) (i := i) (by omega)
      obtain ⟨q1, q2, q3⟩ : hR h1 y 6 = some (y + 6) ∧ Kd G h1 (y + 6) 14 ∧ hN h1 (y + 6) = 12 := M1.2 (6, 6, 14, 12) (by decide)
      obtain ⟨p1, p2, p3⟩ : hR h1 y 5 = some (y + 5) ∧ Kd G h1 (y + 5) 14 ∧ hN h1 (y + 5) = 720 := M1.2 (5, 5, 14, 720) (by decide)
      have e0 : 60 * nI t + 5 * nI i = nI (60 * t + 5 * i) := by
        show nI 60 * nI t + nI 5 * nI i = _
        rw [nM, nM, nA]
      have f1 := (S1.2.1.2 i q hq).1
      rw [drop_at hq] at k
      have kinds : q.1 = 12 ∨ q.1 = 13 ∨ q.1 = 14 := by
        have := hk q hm
        have := (S.2.2.2.2 q hm).2
        rcases (S.2.2.2.2 q hm).1 with z | z | z <;> omega
      refine t_X12_farBy_2 (by omega) ⟨M1.1, y + 6, q1, q2, by rw [q3]; exact vin_nI ht (by omega), ?_⟩
      rw [ct, S1.2.1.1]
      refine ⟨fun z => ?_, fun _ => ⟨y + 5, p1, p2, by rw [e0, p3]; exact vin_nI (by omega) (by omega), ?_⟩⟩
      · have := (nI_le_iff (by omega) (by omega)).mp z
        omega
      rw [e0, cl_nI (by omega), f1, srt0, nI_S]
      refine ⟨fun c => ?_, fun c => r_isHolding (by omega) S1 hq (fun h2 F2 => ⟨_, rfl, fun c2 => ?_, fun c2 => ?_⟩)⟩
      · refine ih (i + 1) h1 (by omega) F (fun h2 F2 => ?_)
        have := k h2 F2
        simp only [farF] at this
        rw [if_neg (by omega)] at this
        exact this
      · rw [bI0] at c2
        refine ih (i + 1) h2 (by omega) (F.tr F2) (fun h3 F3 => ?_)
        have := k h3 F3
        simp only [farF] at this
        rw [if_neg (fun z => by rw [c2] at z; exact absurd z.2 (by simp))] at this
        exact this
      · have hb : holdB w q = true := by
          cases hb : holdB w q
          · exact absurd (bI0.mpr hb) c2
          · rfl
        refine r_summed (by omega) (S1.fr F2) hq (Or.inl (by omega)) (fun h3 F3 => ⟨_, rfl, r_bounded ⟨_, rfl, ?_⟩⟩)
        have := k h3 (F.tr (F2.tr F3))
        simp only [farF] at this
        rw [if_pos ⟨by omega, hb⟩] at this
        exact this
  exact loop D.length 0 h (by omega) (frS_rf _ _ h) (by rw [List.drop_zero]; exact hQ)
theorem bIor (a : Bool) : (bI a ||| 0 = bI a) ∧ (bI a ||| 1 = 1) ∧ (0 ||| bI a = bI a) ∧ (1 ||| bI a = 1) := by cases a <;> decide
theorem r_mayBy {h : HP} (hd : 3 ≤ d) (S : ScrV G h y t w D) (hk : ∀ q ∈ D, q.1 ≠ 16) (hQ : ∀ h2, FrS (RkI y) (RkL y) h h2 → Q (some (.int (bI (mayF w D false false)))) h2) : Cal G d mX12_mayBy [.ref y, .int (nI t)] h Q := by
  have hl := S.2.2.1
  have ht := S.2.2.2.1
  have ct : (nI t).toNatClampNeg = t := cl_nI (by omega)
  refine e_X12_mayBy ?_
  unfold T_X12_mayBy
  have loop : ∀ n i a g h1, i + n = D.length → FrS (RkI y) (RkL y) h h1 → (∀ h2, FrS (RkI y) (RkL y) h h2 → Q (some (.int (bI (mayF w (D.drop i) a g)))) h2) → Ex G d mX12_mayBy 7 [(0, .ref y), (1, .int (nI t)), (2, .int (bI a)), (3, .int (bI g)), (4, .int (nI i))] [] h1 Q := by
    intro n
    induction n with
    | zero =>
      intro i a g h1 hi F k
      have S1 := S.fr F
      have M1 := S1.1.1
      obtain rfl : i = D.length := by omega
      obtain ⟨q1, q2, q3⟩ : hR h1 y 6 = some (y + 6) ∧ Kd G h1 (y + 6) 14 ∧ hN h1 (y + 6) = 12 := M1.2 (6, 6, 14, 12) (by decide)
      have k1 := k h1 F
      rw [List.drop_length] at k1
      simp only [mayF] at k1
      refine t_X12_mayBy_7 (by omega) ⟨M1.1, y + 6, q1, q2, by rw [q3]; exact vin_nI ht (by omega), ?_⟩
      rw [ct, S1.2.1.1]
      refine ⟨fun _ => ⟨fun c => ?_, fun c => ⟨fun c2 => ?_, fun c2 => ?_⟩⟩, fun q => absurd ((nI_le_iff (by omega) (by omega)).mpr (Nat.le_refl _)) q⟩
      · cases g
        · exact absurd rfl c
        · exact k1
      · rw [bI0] at c
        subst c
        cases a
        · exact absurd rfl c2
        · exact k1
      · rw [bI0] at c c2
        subst c c2
        exact k1
    | succ n ih =>
      intro i a g h1 hi F k
      have S1 := S.fr F
      have M1 := S1.1.1
      obtain ⟨q, hq, hm⟩ := get_at (C := D) (i := i) (by omega)
      obtain ⟨q1, q2, q3⟩ : hR h1 y 6 = some (y + 6) ∧ Kd G h1 (y + 6) 14 ∧ hN h1 (y + 6) = 12 := M1.2 (6, 6, 14, 12) (by decide)
      obtain ⟨p1, p2, p3⟩ : hR h1 y 5 = some (y + 5) ∧ Kd G h1 (y + 5) 14 ∧ hN h1 (y + 5) = 720 := M1.2 (5, 5, 14, 720) (by decide)
      have e0 : 60 * nI t + 5 * nI i = nI (60 * t + 5 * i) := by
        show nI 60 * nI t + nI 5 * nI i = _
        rw [nM, nM, nA]
      have f1 := (S1.2.1.2 i q hq).1
      rw [drop_at hq] at k
      have kinds : q.1 = 12 ∨ q.1 = 13 ∨ q.1 = 14 := by
        have := hk q hm
        have := (S.2.2.2.2 q hm).2
        rcases (S.2.2.2.2 q hm).1 with z | z | z <;> omega
      refine t_X12_mayBy_7 (by omega) ⟨M1.1, y + 6, q1, q2, by rw [q3]; exact vin_nI ht (by omega), ?_⟩
      rw [ct, S1.2.1.1]
      refine ⟨fun z => ?_, fun _ => ⟨y + 5, p1, p2, by rw [e0, p3]; exact vin_nI (by omega) (by omega), ?_⟩⟩
      · have := (nI_le_iff (by omega) (by omega)).mp z
        omega
      rw [e0, cl_nI (by omega), f1]
      rcases kinds with e | e | e
      · have es : nI (srt q.1) = 0 := srt0.mpr (by omega)
        rw [es]
        refine ⟨fun c => absurd rfl c, fun _ => ?_⟩
        rw [nI_S]
        refine ih (i + 1) a g h1 (by omega) F (fun h2 F2 => ?_)
        have := k h2 F2
        simp only [mayF] at this
        rw [if_neg (by omega), if_neg (by omega)] at this
        exact this
      · have es : nI (srt q.1) = 1 := by rw [e]; rfl
        rw [es]
        refine ⟨fun _ => r_isHolding (by omega) S1 hq (fun h2 F2 => ⟨_, rfl, fun _ => ⟨fun c => absurd rfl c, fun _ => t_X12_mayBy_76 ⟨fun c => absurd rfl c, fun _ => ⟨fun c => ?_, fun c => ?_⟩⟩⟩, fun c => absurd c (by decide)⟩), fun c => absurd c (by decide)⟩
        · rw [nI_S, (bIor a).2.1, (bIor g).1]
          rw [bI0] at c
          refine ih (i + 1) true g h2 (by omega) (F.tr F2) (fun h3 F3 => ?_)
          have := k h3 F3
          simp only [mayF] at this
          rw [if_neg (by omega), if_pos e, c, Bool.or_false] at this
          exact this
        · rw [nI_S, (bIor a).2.1, (bIor g).2.1]
          have hb : holdB w q = true := by
            cases hb : holdB w q
            · exact absurd (bI0.mpr hb) c
            · rfl
          refine ih (i + 1) true true h2 (by omega) (F.tr F2) (fun h3 F3 => ?_)
          have := k h3 F3
          simp only [mayF] at this
          rw [if_neg (by omega), if_pos e, hb, Bool.or_true] at this
          exact this
      · have es : nI (srt q.1) = 2 := by rw [e]; rfl
        rw [es]
        refine ⟨fun _ => r_isHolding (by omega) S1 hq (fun h2 F2 => ⟨_, rfl, fun c => absurd rfl c, fun _ => ⟨fun c => ⟨fun _ => t_X12_mayBy_76 ⟨fun _ => ?_, fun c => absurd c (by decide)⟩, fun c => absurd c (by decide)⟩, fun c => ?_⟩⟩), fun c => absurd c (by decide)⟩
        · rw [nI_S, (bIor a).1, (bIor g).1]
          rw [bI0] at c
          refine ih (i + 1) a g h2 (by omega) (F.tr F2) (fun h3 F3 => ?_)
          have := k h3 F3
          simp only [mayF] at this
          rw [if_neg (fun z => by rw [c] at z; exact absurd z.2 (by simp)), if_neg (by omega)] at this
          exact this
        · have hb : holdB w q = true := by
            cases hb : holdB w q
            · exact absurd (bI0.mpr hb) c
            · rfl
          have := k h2 (F.tr F2)
          simp only [mayF] at this
          rw [if_pos ⟨e, hb⟩] at this
          exact this
  exact loop D.length 0 false false h (by omega) (frS_rf _ _ h) (by rw [List.drop_zero]; exact hQ)
theorem r_wish16 {h : HP} {x1 x2 : Int32} (hd : 3 ≤ d) (S : ScrV G h y t w D) (hk : ∀ q ∈ D, q.1 = 16) (hQ : ∀ h2, FrS (RkI y) (RkL y) h h2 → Q (some (.long (totF w D 0))) h2) : Ex G d mX12_wishOf 16 [(0, .ref y), (1, .int x1), (2, .int x2), (3, .int (nI t)), (4, .long 0), (6, .int 0)] [] h Q := by
  have hl := S.2.2.1
  have ht := S.2.2.2.1
  have ct : (nI t).toNatClampNeg = t := cl_nI (by omega)
  have loop : ∀ n i s h1, i + n = D.length → FrS (RkI y) (RkL y) h h1 → (∀ h2, FrS (RkI y) (RkL y) h h2 → Q (some (.long (totF w (D.drop i) s))) h2) → Ex G d mX12_wishOf 16 [(0, .ref y), (1, .int x1), (2, .int x2), (3, .int (nI t)), (4, .long s), (6, .int (nI i))] [] h1 Q := by
    intro n
    induction n with
    | zero =>
      intro i s h1 hi F k
      have S1 := S.fr F
      have M1 := S1.1.1
      obtain rfl : i = D.length := by omega
      obtain ⟨q1, q2, q3⟩ : hR h1 y 6 = some (y + 6) ∧ Kd G h1 (y + 6) 14 ∧ hN h1 (y + 6) = 12 := M1.2 (6, 6, 14, 12) (by decide)
      refine t_X12_wishOf_16 (by omega) ⟨M1.1, y + 6, q1, q2, by rw [q3]; exact vin_nI ht (by omega), ?_⟩
      rw [ct, S1.2.1.1]
      refine ⟨fun _ => ?_, fun q => absurd ((nI_le_iff (by omega) (by omega)).mpr (Nat.le_refl _)) q⟩
      have := k h1 F
      rw [List.drop_length] at this
      exact this
    | succ n ih =>
      intro i s h1 hi F k
      have S1 := S.fr F
      have M1 := S1.1.1
      obtain ⟨q, hq, hm⟩ := get_at (C := D) (i := i) (by omega)
      obtain ⟨q1, q2, q3⟩ : hR h1 y 6 = some (y + 6) ∧ Kd G h1 (y + 6) 14 ∧ hN h1 (y + 6) = 12 := M1.2 (6, 6, 14, 12) (by decide)
      rw [drop_at hq] at k
      refine t_X12_wishOf_16 (by omega) ⟨M1.1, y + 6, q1, q2, by rw [q3]; exact vin_nI ht (by omega), ?_⟩
      rw [ct, S1.2.1.1, nI_S]
      refine ⟨fun z => ?_, fun _ => r_isHolding (by omega) S1 hq (fun h2 F2 => ⟨_, rfl, fun c2 => ?_, fun c2 => ?_⟩)⟩
      · have := (nI_le_iff (by omega) (by omega)).mp z
        omega
      · rw [bI0] at c2
        rw [show s + 0 = s from Int64.add_zero s]
        refine ih (i + 1) s h2 (by omega) (F.tr F2) (fun h3 F3 => ?_)
        have := k h3 F3
        simp only [totF] at this
        rw [if_neg (fun z => by rw [c2] at z; exact absurd z.2 (by simp))] at this
        exact this
      · have hb : holdB w q = true := by
          cases hb : holdB w q
          · exact absurd (bI0.mpr hb) c2
          · rfl
        refine r_summed (by omega) (S1.fr F2) hq (Or.inr (hk q hm)) (fun h3 F3 => ⟨_, rfl, ?_⟩)
        refine ih (i + 1) _ h3 (by omega) (F.tr (F2.tr F3)) (fun h4 F4 => ?_)
        have := k h4 F4
        simp only [totF] at this
        rw [if_pos ⟨hk q hm, hb⟩] at this
        exact this
  exact loop D.length 0 0 h (by omega) (frS_rf _ _ h) (by rw [List.drop_zero]; exact hQ)
end TR
