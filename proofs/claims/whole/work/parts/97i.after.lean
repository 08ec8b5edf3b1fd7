/-! ===== the pair after ===== -/
section AF
variable {G : GG} {d : Nat} {y l : Nat} {C : List Cla} {jn : Prop} {Q : Option Value → HP → Prop}
theorem r_keeps {h : HP} (M : MdSh G h y) (hQ : ∀ h2, FrI (fun a k => a = y + 14) h h2 → (∀ j, j < 2440 → hI h2 (y + 14) j = said h y j) → Q none h2) : Cal G d mX12_keeps [.ref y] h Q := by
  have loop : ∀ n i h1, i + n = 2440 → FrI (fun a k => a = y + 14) h h1 → (∀ j, j < i → hI h1 (y + 14) j = said h y j) → Ex G d mX12_keeps 2 [(0, .ref y), (1, .int (nI i))] [] h1 Q := by
    intro n
    induction n with
    | zero =>
      intro i h1 hi F V
      obtain rfl : i = 2440 := by omega
      exact t_X12_keeps_2 ⟨fun _ => hQ h1 F V, fun q => absurd (show (2440 : Int32) ≤ nI 2440 by decide) q⟩
    | succ n ih =>
      intro i h1 hi F V
      have M1 := M.fr F
      obtain ⟨m1, m2, m3⟩ := M1.sd
      obtain ⟨p1, p2, p3⟩ : hR h1 y 30 = some (y + 14) ∧ Kd G h1 (y + 14) 14 ∧ hN h1 (y + 14) = 2440 := M1.2 (30, 14, 14, 2440) (by decide)
      refine t_X12_keeps_2 ⟨fun q => absurd q (n2440_not (by omega)), fun _ => ⟨M1.1, y + 14, p1, y + 13, m1, m2, by rw [m3]; exact vin_nI (by omega) (by omega), p2, by rw [p3]; exact vin_nI (by omega) (by omega), ?_⟩⟩
      rw [cl_nI (by omega), nI_S]
      refine ih (i + 1) _ (by omega) (F.tr (FrI.sI _ _ rfl)) (fun j hj => ?_)
      by_cases c : j = i
      · subst c
        rw [hI_eq]
        exact F.i (by omega)
      · rw [hI_ne _ _ (Or.inr c)]
        exact V j (by omega)
  exact e_X12_keeps (loop 2440 0 h (by omega) (FrI.rf _ h) (fun j hj => by omega))
theorem r_putsBack {h : HP} (M : MdSh G h y) (hQ : ∀ h2, FrI (fun a k => a = y + 13 ∧ k < 2440) h h2 → (∀ j, j < 2440 → said h2 y j = hI h (y + 14) j) → Q none h2) : Cal G d mX12_putsBack [.ref y] h Q := by
  have loop : ∀ n i h1, i + n = 2440 → FrI (fun a k => a = y + 13 ∧ k < 2440) h h1 → (∀ j, j < i → said h1 y j = hI h (y + 14) j) → Ex G d mX12_putsBack 2 [(0, .ref y), (1, .int (nI i))] [] h1 Q := by
    intro n
    induction n with
    | zero =>
      intro i h1 hi F V
      obtain rfl : i = 2440 := by omega
      exact t_X12_putsBack_2 ⟨fun _ => hQ h1 F V, fun q => absurd (show (2440 : Int32) ≤ nI 2440 by decide) q⟩
    | succ n ih =>
      intro i h1 hi F V
      have M1 := M.fr F
      obtain ⟨m1, m2, m3⟩ := M1.sd
      obtain ⟨p1, p2, p3⟩ : hR h1 y 30 = some (y + 14) ∧ Kd G h1 (y + 14) 14 ∧ hN h1 (y + 14) = 2440 := M1.2 (30, 14, 14, 2440) (by decide)
      refine t_X12_putsBack_2 ⟨fun q => absurd q (n2440_not (by omega)), fun _ => ⟨M1.1, y + 13, m1, y + 14, p1, p2, by rw [p3]; exact vin_nI (by omega) (by omega), m2, by rw [m3]; exact vin_nI (by omega) (by omega), ?_⟩⟩
      rw [cl_nI (by omega), nI_S]
      refine ih (i + 1) _ (by omega) (F.tr (FrI.sI _ _ ⟨rfl, by omega⟩)) (fun j hj => ?_)
      unfold said
      by_cases c : j = i
      · subst c
        rw [hI_eq]
        exact F.i (by omega)
      · rw [hI_ne _ _ (Or.inr c)]
        exact V j (by omega)
  exact e_X12_putsBack (loop 2440 0 h (by omega) (FrI.rf _ h) (fun j hj => by omega))
theorem r_deepest {h : HP} (hd : 5 ≤ d) (M : MdSh G h y) (W : WF (said h y)) (hQ : Q (some (.int (mxF (wallB (tS (said h y))) (fun t => nI (deepN (tS (said h y)) 31 (nI t))) 0 6 24))) h) : Cal G d mX12_deepest [.ref y] h Q := by
  have loop : ∀ n i (a : Int32), i + n = 30 → 6 ≤ i → Q (some (.int (mxF (wallB (tS (said h y))) (fun t => nI (deepN (tS (said h y)) 31 (nI t))) a i n))) h → Ex G d mX12_deepest 5 [(0, .ref y), (1, .int a), (2, .int (nI i))] [] h Q := by
    intro n
    induction n with
    | zero =>
      intro i a hi h6 q
      obtain rfl : i = 30 := by omega
      exact t_X12_deepest_5 (by omega) ⟨fun _ => q, fun q => absurd (show (30 : Int32) ≤ nI 30 by decide) q⟩
    | succ n ih =>
      intro i a hi h6 q
      simp only [mxF] at q
      refine t_X12_deepest_5 (by omega) ⟨fun q => absurd q (n30_not (by omega)), fun _ => ⟨M.1, m_isThing M W (by omega) (fun c => ⟨_, rfl, fun _ => ?_, fun q => absurd rfl q⟩) (fun u hu eu w => ⟨_, rfl, fun q => absurd q (by decide), fun _ => ?_⟩)⟩⟩
      · have nb : ¬ wallB (tS (said h y)) i = true := fun z => c ⟨i, by omega, rfl, (W.2.2.1.w (by omega)).mpr z⟩
        rw [if_neg nb] at q
        rw [nI_S]
        exact ih (i + 1) a (by omega) (by omega) q
      · obtain rfl : i = u := (nI_eq_iff (by omega) (by omega)).mp eu
        rw [if_pos ((W.2.2.1.w (by omega)).mp w)] at q
        refine r_deepOf (N := 30) (by omega) M W.2.2.1 (nI_ne_neg (by omega)) (fun v hv wv => ?_) ⟨_, rfl, r_more ⟨_, rfl, ?_⟩⟩
        · have v0 := (W.2.2.1.w hv).mpr wv
          exact ((W.t54.endsT W.1.1.1.2 hv v0).toF).mono (Nat.le_refl _) (by omega)
        · rw [nI_S]
          exact ih (i + 1) _ (by omega) (by omega) q
  exact e_X12_deepest (loop 24 6 0 rfl (by omega) hQ)
theorem mxF_congr {p q : Nat → Bool} {f g : Nat → Int32} : ∀ (n i : Nat) (a : Int32), (∀ j, i ≤ j → j < i + n → p j = q j) → (∀ j, i ≤ j → j < i + n → p j = true → f j = g j) → mxF p f a i n = mxF q g a i n
  | 0, _, _, _, _ => rfl
  | n + 1, i, a, h1, h2 => by
    simp only [mxF]
    rw [h1 i (by omega) (by omega)]
    by_cases c : q i = true
    · rw [if_pos c, if_pos c, h2 i (by omega) (by omega) (by rw [h1 i (by omega) (by omega)]; exact c)]
      exact mxF_congr n (i + 1) _ (fun j a b => h1 j (by omega) (by omega)) (fun j a b => h2 j (by omega) (by omega))
    · rw [if_neg c, if_neg c]
      exact mxF_congr n (i + 1) _ (fun j a b => h1 j (by omega) (by omega)) (fun j a b => h2 j (by omega) (by omega))
/-- what it looks like -/
def olV (S : Nat → Int32) : Nat → Int32
  | 0 => nI (cntF (wallB (tS S)) 6 24)
  | 1 => nI (cntF (outB (tS S)) 0 30)
  | 2 => mxF (wallB (tS S)) (fun t => nI (deepN (tS S) 31 (nI t))) 0 6 24
  | _ => subF (outB (tS S)) (areaI (tS S)) (S 0 * S 1) 0 30
theorem s_outlook {h : HP} {b s k : Nat} {S : Nat → Int32} (hd : 2 ≤ d) (kb : Kd G h b 11) (n2 : hR h b 12 = some s) (st : StSh G h s) (Co : CoSt h s S) (W : WF S) (hk : k < 4) (hQ : Q (some (.int (olV S k))) h) : Cal G d mX11_outlook [.ref b, .int (nI k)] h Q := by
  have ew : ∀ t, t < 30 → wallB (tg h s) t = wallB (tS S) t := fun t ht => by
    unfold wallB
    rw [(Co.2.2.2.1 t ht).1]
  have tk : ∀ t, t < 30 → wallB (tS S) t = true → (∀ k, 1 ≤ k → k ≤ 6 → tg h s t k = tS S t k) ∧ tg h s t 7 = nI (deepN (tS S) 31 (nI t)) := fun t ht w => by
    have := (Co.2.2.2.1 t ht).2 ((W.2.2.1.w (by omega)).mpr w)
    exact ⟨this.1, this.2.1⟩
  have eo : ∀ t, t < 30 → outB (tg h s) t = outB (tS S) t := fun t ht => by
    have e := ew t ht
    unfold wallB at e
    unfold outB
    rw [e]
    cases q : (tS S t 0 != 0) with
    | false => rw [Bool.false_and, Bool.false_and]
    | true => rw [(tk t ht q).1 6 (by omega) (by omega)]
  have ow : ∀ t, outB (tS S) t = true → wallB (tS S) t = true := fun t q => by
    unfold outB at q
    unfold wallB
    rw [Bool.and_eq_true] at q
    exact q.1
  have : k = 0 ∨ k = 1 ∨ k = 2 ∨ k = 3 := by omega
  rcases this with rfl | rfl | rfl | rfl
  · refine e_X11_outlook (by omega) ⟨fun _ => ⟨kb, s, n2, st.1, s_wallCount st ⟨_, rfl, ?_⟩⟩, fun q => absurd rfl q⟩
    rw [cntF_congr 24 6 (fun t h1 h2 => ew t (by omega))]
    exact hQ
  · refine e_X11_outlook (by omega) ⟨fun q => absurd q (by decide), fun _ => ⟨fun _ => ⟨kb, s, n2, st.1, s_nestCount (by omega) st ⟨_, rfl, ?_⟩⟩, fun q => absurd rfl q⟩⟩
    rw [cntF_congr 30 0 (fun t h1 h2 => eo t (by omega))]
    exact hQ
  · refine e_X11_outlook (by omega) ⟨fun q => absurd q (by decide), fun _ => ⟨fun q => absurd q (by decide), fun _ => ⟨fun _ => ⟨kb, s, n2, st.1, s_deepest (by omega) st ⟨_, rfl, ?_⟩⟩, fun q => absurd rfl q⟩⟩⟩
    rw [mxF_congr (q := wallB (tS S)) (g := fun t => nI (deepN (tS S) 31 (nI t))) 24 6 0 (fun t h1 h2 => ew t (by omega)) (fun t h1 h2 w => (tk t (by omega) (by rw [← ew t (by omega)]; exact w)).2)]
    exact hQ
  · refine e_X11_outlook (by omega) ⟨fun q => absurd q (by decide), fun _ => ⟨fun q => absurd q (by decide), fun _ => ⟨fun q => absurd q (by decide), fun _ => ⟨kb, s, n2, st.1, s_freeCells (by omega) st ⟨_, rfl, ?_⟩⟩⟩⟩⟩
    rw [subF_congr (q := outB (tS S)) (g := areaI (tS S)) 30 0 _ (fun t h1 h2 => eo t (by omega)) (fun t h1 h2 w => by
      have tt := (tk t (by omega) (ow t (by rw [← eo t (by omega)]; exact w))).1
      unfold areaI
      rw [tt 1 (by omega) (by omega), tt 2 (by omega) (by omega), tt 3 (by omega) (by omega), tt 4 (by omega) (by omega)]), Co.1 0 (by omega), Co.1 1 (by omega)]
    exact hQ
theorem r_after42 (hd : 9 ≤ d) (hl : l < 6) (k16 : ∀ q ∈ C, q.1 ≠ 16) {N : Nat} {x3 : Int32} (hN : N ≤ 60) : ∀ (n i : Nat) (S : Nat → Int32) (h : HP) (S' : Nat → Int32) (c' : Nat), i + n = N → MdSh G h y → said h y = S → WF S → (S 3).toInt + n ≤ 20000 → LawR h y l (C.filter (fun q => q.1 != 15)) → (hI h (y + 7) l = 1 ↔ jn) → YrN C jn n S S' c' → (∀ h2, FrS (YrI y) (CnL y) h h2 → said h2 y = S' → Ex G d mX12_after 42 [(0, .ref y), (1, .int (nI l)), (2, .int (nI N)), (3, .int x3), (4, .int (nI N))] [] h2 Q) → Ex G d mX12_after 42 [(0, .ref y), (1, .int (nI l)), (2, .int (nI N)), (3, .int x3), (4, .int (nI i))] [] h Q := by
  intro n
  induction n with
  | zero =>
    intro i S h S' c' hi M eS W hy L hj Y hQ
    obtain ⟨rfl, rfl⟩ := Y
    obtain rfl : i = N := by omega
    exact hQ h (frS_rf _ _ _) eS
  | succ n ih =>
    intro i S h S' c' hi M eS W hy L hj Y hQ
    obtain ⟨S1, c1, c2, Y1, Y2, rfl⟩ := Y
    refine t_X12_after_42 (by omega) ⟨fun q => ?_, fun _ => ⟨M.1, r_yearN (by omega) hl k16 M eS W (by omega) L hj Y1 (fun h2 M2 e2 W2 y2 L2 j2 F2 => ⟨_, rfl, ?_⟩)⟩⟩
    · have := (nI_le_iff (by omega) (by omega)).mp q
      omega
    · rw [nI_S]
      exact ih (i + 1) S1 h2 S' c2 (by omega) M2 e2 W2 (by omega) L2 j2 Y2 (fun h3 F3 e3 => hQ h3 (F2.tr F3) e3)
theorem r_afterE {h : HP} {N k : Nat} {x1 : Int32} {S : Nat → Int32} (hd : 6 ≤ d) (M : MdSh G h y) (eS : said h y = S) (W : WF S) (hk : k < 4) (hQ : ∀ h2, FrI (fun a k => a = y + 13 ∧ k < 2440) h h2 → (∀ j, j < 2440 → said h2 y j = hI h (y + 14) j) → Q (some (.int (olV S k))) h2) : Ex G d mX12_after 42 [(0, .ref y), (1, .int x1), (2, .int (nI N)), (3, .int (nI k)), (4, .int (nI N))] [] h Q := by
  subst eS
  have last : ∀ v, v = olV (said h y) k → Cal G (d - 1) mX12_putsBack [.ref y] h (fun r10 h11 => r10 = none ∧ Q (some (.int v)) h11) := fun v ev => r_putsBack M (fun h2 F2 e2 => ⟨rfl, by rw [ev]; exact hQ h2 F2 e2⟩)
  have le : nI N ≤ nI N := by rw [ti_le]; omega
  have : k = 0 ∨ k = 1 ∨ k = 2 ∨ k = 3 := by omega
  rcases this with rfl | rfl | rfl | rfl
  · exact t_X12_after_42 (by omega) ⟨fun _ => ⟨fun q => absurd rfl q, fun _ => ⟨M.1, r_wallMany (by omega) M W.2.2.1 ⟨_, rfl, last _ rfl⟩⟩⟩, fun q => absurd le q⟩
  · exact t_X12_after_42 (by omega) ⟨fun _ => ⟨fun _ => ⟨fun q => absurd rfl q, fun _ => ⟨M.1, r_nestMany (by omega) M W.2.2.1 ⟨_, rfl, last _ rfl⟩⟩⟩, fun q => absurd q (by decide)⟩, fun q => absurd le q⟩
  · exact t_X12_after_42 (by omega) ⟨fun _ => ⟨fun _ => ⟨fun _ => ⟨fun q => absurd rfl q, fun _ => ⟨M.1, r_deepest (by omega) M W ⟨_, rfl, last _ rfl⟩⟩⟩, fun q => absurd q (by decide)⟩, fun q => absurd q (by decide)⟩, fun q => absurd le q⟩
  · exact t_X12_after_42 (by omega) ⟨fun _ => ⟨fun _ => ⟨fun _ => ⟨fun _ => ⟨M.1, r_freeCells (by omega) M W.2.2.1 ⟨_, rfl, last _ rfl⟩⟩, fun q => absurd q (by decide)⟩, fun q => absurd q (by decide)⟩, fun q => absurd q (by decide)⟩, fun q => absurd le q⟩
end AF
