/-! ===== a State with a wall built; the pair build ===== -/
theorem WF.t54 {S : Nat → Int32} (W : WF S) : WfT 54 (S 0) (S 1) (tS S) := by
  obtain ⟨_, _, _, d, w1, w2, w3⟩ := W
  have l30 : ∀ t, t < 54 → tS S t 0 = 1 → t < 30 := fun t ht q => by
    by_cases z : t < 30
    · exact z
    · rw [d t (by omega) ht] at q
      exact absurd q (by decide)
  refine ⟨fun t ht q => w1 t (l30 t ht q) q, fun t ht q => ?_, fun t u ht hu hne q1 q2 q3 => w3 t u (l30 t ht q1) (l30 u hu q2) hne q1 q2 q3⟩
  rcases w2 t (l30 t ht q) q with z | ⟨u, h1, h2, h3⟩
  · exact Or.inl z
  · exact Or.inr ⟨u, h1, by omega, h3⟩
theorem drT_v {h : HP} {s t u : Nat} {A : Nat → Nat → Int32} (h6 : 6 ≤ t ↔ 6 ≤ u) (e : 6 ≤ t → tg h s t 7 = nI (deepN A 31 (nI u))) (hz : t < 6 → deepN A 31 (nI u) = 0) : drT h s t = nI (drN A u) := by
  unfold drT drN
  by_cases c : 6 ≤ t
  · rw [if_pos c, if_pos (h6.mp c), e c]
    show nI 1 + _ = _
    rw [nA]
  · rw [if_neg c, if_neg (fun q => c (h6.mpr q)), hz (by omega)]
    rfl
/-- a house has nothing in it -/
theorem deep_h {M : Nat} (hM : M ≤ 54) {c r : Int32} {A : Nat → Nat → Int32} (W : WfT 54 c r A) (hc : c.toInt ≤ 40) (b : bin A) {t : Nat} (ht : t < 6) : deepN A 31 (nI t) = 0 := by
  unfold deepN
  refine cntF_none 48 6 (fun v h1 h2 => ?_)
  cases q : wallB A v with
  | false => rfl
  | true =>
    have v0 := (b.w (show v < 54 by omega)).mpr q
    cases q2 : liesF A (nI t) 31 (A v 6) with
    | false => rfl
    | true =>
      have := (W.lies (by omega) (by omega) 31 v (by omega) v0 q2).1
      omega
theorem CoSt.bld {h h2 : HP} {s : Nat} {S : Nat → Int32} {w a : Nat} {x z tx tz f : Int32} {ob : Option Nat} (C : CoSt h s S) (W : WF S) (H : BlH (tS S) w a ob) (hw : w < 30) (ha : a < 30) (hb : ∀ c, ob = some c → c < 30) (F : FrI (fun a k => s + 5 ≤ a ∧ a ≤ s + 35) h h2) (v : ∀ u k, u < 31 → tg h2 s u k = if k = 6 ∧ (u = a ∨ ob = some u) then nI w else if u = w ∧ k ≤ 11 then rRow x z tx tz f (drT h s a + drTO h s ob) k else tg h s u k) : CoSt h2 s (bldS S w x z tx tz f a ob) := by
  have E := tS_bld (S := S) (w := w) (x := x) (z := z) (tx := tx) (tz := tz) (f := f) (a := a) (ob := ob)
  have off : ∀ j, ¬ (1608 ≤ j ∧ j < 2256) → bldS S w x z tx tz f a ob j = S j := fun j q => bld_off q
  generalize bldS S w x z tx tz f a ob = S' at *
  obtain ⟨c1, c2, c3, c4, c5, c6⟩ := C
  have W54 := W.t54
  have hc := W.1.1.1.2
  have dr : ∀ t, t < 30 → tS S t 0 = 1 → drT h s t = nI (drN (tS S) t) := fun t ht t0 => drT_v Iff.rfl (fun _ => ((c4 t ht).2 t0).2.1) (fun q => deep_h (Nat.le_refl 54) W54 hc W.2.2.1 q)
  have drO_ : drTO h s ob = nI (drO (tS S) ob) := by
    cases ob with
    | none => rfl
    | some c => exact dr c (hb c rfl) (H.2.2 c rfl).2.2.1
  refine ⟨fun j hj => ?_, fun c hc => ?_, fun j hj => ?_, fun t ht => ?_, ?_, fun e he => ?_⟩
  · rw [off j (by omega), F.i (by omega)]
    exact c1 j hj
  · rw [off _ (by omega), F.i (by omega)]
    exact c2 c hc
  · rw [off _ (by omega), F.i (by omega)]
    exact c3 j hj
  · by_cases tw : t = w
    · subst tw
      have nn : ¬ (t = a ∨ ob = some t) := fun q => H.ne (H.out q).2.1 rfl
      have row : ∀ k, k ≤ 11 → tg h2 s t k = rRow x z tx tz f (drT h s a + drTO h s ob) k := fun k hk => by
        rw [v t k (by omega), if_neg (fun q => nn q.2), if_pos ⟨rfl, hk⟩]
      have at_ : ∀ k, k < 12 → tS S' t k = bRow x z tx tz f (tS S t k) k := fun k hk => E.at_ H hk
      unfold CoTh
      rw [row 0 (by omega), at_ 0 (by omega), row 7 (by omega), row 8 (by omega), row 9 (by omega), row 10 (by omega), row 11 (by omega), at_ 7 (by omega), at_ 8 (by omega), at_ 9 (by omega), at_ 10 (by omega), bl_deep_w W54 hc W.2.2.1 H E]
      refine ⟨rfl, fun _ => ⟨fun k h1 h6 => ?_, ?_, rfl, fun _ => rfl, fun q => absurd rfl q, rfl⟩⟩
      · rw [row k (by omega), at_ k (by omega)]
        have : k = 1 ∨ k = 2 ∨ k = 3 ∨ k = 4 ∨ k = 5 ∨ k = 6 := by omega
        rcases this with rfl | rfl | rfl | rfl | rfl | rfl <;> rfl
      · show drT h s a + drTO h s ob = _
        rw [dr a ha H.2.1.2.1, drO_, nA]
    · have gk : ∀ k, k ≠ 6 → tg h2 s t k = tg h s t k := fun k hk => by
        rw [v t k (by omega), if_neg (fun q => hk q.1), if_neg (fun q => tw q.1)]
      have sk : ∀ k, k < 12 → k ≠ 6 → tS S' t k = tS S t k := fun k hk h6 => E.k (by omega) hk tw h6
      obtain ⟨d1, d2⟩ := c4 t ht
      unfold CoTh
      rw [gk 0 (by omega), sk 0 (by omega) (by omega), gk 7 (by omega), gk 8 (by omega), gk 9 (by omega), gk 10 (by omega), gk 11 (by omega), sk 7 (by omega) (by omega), sk 8 (by omega) (by omega), sk 9 (by omega) (by omega), sk 10 (by omega) (by omega), bl_deep_o W54 hc W.2.2.1 H E (by omega) tw]
      refine ⟨d1, fun q => ?_⟩
      obtain ⟨e1, e2⟩ := d2 q
      refine ⟨fun k h1 h6 => ?_, e2⟩
      by_cases k6 : k = 6
      · subst k6
        by_cases c : t = a ∨ ob = some t
        · rw [v t 6 (by omega), if_pos ⟨rfl, c⟩, E.in_ (by omega) tw c]
        · rw [v t 6 (by omega), if_neg (fun q => c q.2), if_neg (fun q => tw q.1), E.out (by omega) tw c]
          exact e1 6 (by omega) (by omega)
      · rw [gk k k6, sk k (by omega) k6]
        exact e1 k h1 h6
  · rw [v 30 0 (by omega), if_neg (fun q => absurd q.1 (by omega)), if_neg (fun q => by omega)]
    exact c5
  · rw [off _ (by omega), F.i (by omega)]
    refine ⟨(c6 e he).1, fun q j h1 h2 => ?_⟩
    rw [off _ (by omega), F.i (by omega)]
    exact (c6 e he).2 q j h1 h2
theorem firF_congr {p q : Nat → Bool} : ∀ (n i : Nat), (∀ j, i ≤ j → j < i + n → p j = q j) → firF p i n = firF q i n
  | 0, _, _ => rfl
  | n + 1, i, h => by
    simp only [firF]
    rw [h i (by omega) (by omega), firF_congr n (i + 1) (fun j h1 h2 => h j (by omega) (by omega))]
theorem firF_some {p : Nat → Bool} : ∀ {n i k : Nat}, firF p i n = some k → i ≤ k ∧ k < i + n ∧ p k = true
  | 0, i, k, h => by cases h
  | n + 1, i, k, h => by
    simp only [firF] at h
    by_cases c : p i = true
    · rw [if_pos c] at h
      obtain rfl := Option.some.inj h
      exact ⟨by omega, by omega, c⟩
    · rw [if_neg c] at h
      have := firF_some h
      exact ⟨by omega, by omega, this.2.2⟩
/-- the first free number -/
def frN (A : Nat → Nat → Int32) : Option Nat := firF (fun t => !wallB A t) 6 24
theorem frN_free {S : Nat → Int32} (W : WF S) {w : Nat} (h : frN (tS S) = some w) : 6 ≤ w ∧ w < 30 ∧ tS S w 0 = 0 := by
  obtain ⟨h1, h2, h3⟩ := firF_some h
  refine ⟨h1, h2, ?_⟩
  rcases W.2.2.1 w (by omega) with e | e
  · exact e
  · unfold wallB at h3
    rw [e] at h3
    exact absurd h3 (by decide)
theorem s_frN {G : GG} {d : Nat} {h : HP} {s : Nat} {S : Nat → Int32} {Q : Option Value → HP → Prop} (St : StSh G h s) (C : CoSt h s S) (hQ : Q (some (.int (onI (frN (tS S))))) h) : Cal G d mX6_freeNumber [.ref s] h Q := by
  refine s_freeNumber St ?_
  have : firF (fun t => !wallB (tg h s) t) 6 24 = frN (tS S) := firF_congr 24 6 (fun t h1 h2 => by
    unfold wallB
    rw [(C.2.2.2.1 t (by omega)).1])
  rw [this]
  exact hQ
theorem r_frN {G : GG} {d : Nat} {h : HP} {y : Nat} {Q : Option Value → HP → Prop} (hd : 2 ≤ d) (M : MdSh G h y) (hQ : Q (some (.int (onI (frN (tS (said h y)))))) h) : Cal G d mX12_freeNumber [.ref y] h Q := r_freeNumber hd M hQ
theorem p_build (G : GG) (u0 : Nat) (h : HP) (I : Inv G u0 h) (x1 x2 x3 x4 x5 x6 x7 x8 : Int32) : Pr (Inv G u0) G G.1 (G.1 + 119) mX11_build mX12_build [.int x1, .int x2, .int x3, .int x4, .int x5, .int x6, .int x7, .int x8] h := by
  obtain ⟨s, p, I⟩ := I
  unfold Pr Inv
  generalize G.1 = b at *
  generalize hy : b + 119 = y at *
  have B := I.bd
  have M := B.2.1
  have W := B.2.2.2
  have ns := I.2.1.1
  obtain ⟨nl, nw', La, Wi, Im, T, X, D, Bu⟩ := I.1.2.2.2.2.2
  have nl6 := T.1
  have ok : some (Value.int (-1)) = some (Value.int (-1)) ∧ ∃ s p, InvB G u0 h b y s p := ⟨rfl, s, p, I⟩
  have R : ∀ {h1 : HP} {Q : Option Value → HP → Prop} (I1 : InvB G u0 h1 b y s p) (T0 : hI h1 (y + 2) 0 = nI nl), ((¬ ((0 ≤ x1.toInt ∧ x1.toInt < nl) ∧ askd (said h1 y) x2 x7 x8)) → Q (some (.int (-1))) h1) → (((0 ≤ x1.toInt ∧ x1.toInt < nl) ∧ askd (said h1 y) x2 x7 x8) → Cal G 58 mX12_thinks [.ref y, .int x3, .int x4, .int x5, .int x6, .int x7, .int x8] h1 (fun r12 h13 => r12 = none ∧ Cal G 58 mX12_freeNumber [.ref y] h13 (fun r15 h16 => ∃ v18, r15 = some (.int v18) ∧ ((v18 = (-1) → Q (some (.int (-2))) h16) ∧ (¬ v18 = (-1) → Cal G 58 mX12_canCome [.ref y, .int x1, .int x2] h16 (fun r20 h21 => ∃ v23, r20 = some (.int v23) ∧ ((¬ v23 = 0 → Cal G 58 mX12_builds [.ref y, .int v18, .int x2] h21 (fun r25 h26 => r25 = none ∧ Q (some (.int v18)) h26)) ∧ (v23 = 0 → Q (some (.int (-2))) h21)))))))) → Cal G 59 mX12_build [.ref y, .int x1, .int x2, .int x3, .int x4, .int x5, .int x6, .int x7, .int x8] h1 Q := by
    intro h1 Q I1 T0 q0 q1
    exact e_X12_build (by omega) ⟨I1.md.1, r_isText (k := 0) I1.md (by omega) T0 nl6 (fun c => ⟨_, rfl, fun _ => q0 (fun z => c z.1), fun q => absurd rfl q⟩) (fun l hl el => ⟨_, rfl, fun q => absurd q (by decide), fun _ => r_areAsked (by omega) I1.md I1.wf (fun c => ⟨_, rfl, fun q => absurd rfl q, fun _ => q0 (fun z => c z.2)⟩) (fun ak => ⟨_, rfl, fun _ => q1 ⟨by rw [el, ti_nI (by omega)]; omega, ak⟩, fun q => absurd q (by decide)⟩)⟩)⟩
  have no : (¬ ((0 ≤ x1.toInt ∧ x1.toInt < nl) ∧ askd (said h y) x2 x7 x8)) → ∃ v, some (Value.int (-1)) = some (.int v) ∧ Cal G 59 mX12_build [.ref y, .int x1, .int x2, .int x3, .int x4, .int x5, .int x6, .int x7, .int x8] h (fun r2 h2 => r2 = some (.int v) ∧ ∃ s p, InvB G u0 h2 b y s p) := fun c => ⟨_, rfl, R I T.2.2.2.2.1 (fun _ => ok) (fun q => absurd q c)⟩
  refine e_X11_build (by omega) ⟨I.kb, s_lawAt I T (fun c => ⟨_, rfl, fun _ => no (fun z => c z.1), fun _ q => by cases q⟩) (fun l hl el => ⟨_, rfl, fun q => (by cases q), fun q7 eq7 => ?_⟩)⟩
  obtain rfl : La l = q7 := Option.some.inj eq7
  refine s_areThere (by omega) B I.kb I.now (fun c => ⟨_, rfl, fun q => absurd rfl q, fun _ => no (fun z => c z.2)⟩) (fun f t ob hf ef ht et wt eo wo => ⟨_, rfl, fun _ => ⟨b + 29, I.plan.1, I.plan.2, s_pset I.plan.2 (fun h1 F1 v1 => ⟨rfl, s, (F1.r _ _).trans I.now, ?_⟩)⟩, fun q => absurd q (by decide)⟩)
  have good : (0 ≤ x1.toInt ∧ x1.toInt < nl) ∧ askd (said h y) x2 x7 x8 := ⟨by rw [el, ti_nI (by omega)]; omega, ⟨f, t, ob, hf, ef, ht, et, wt, eo, wo⟩⟩
  clear no
  subst el ef et eo
  have wo' : thereO (said h y) ob := fun c q => ⟨by have := (wo c q).1; omega, (wo c q).2⟩
  have I1 : InvB G u0 h1 b y s p := I.scr ((F1.j _).weak (fun a k q => by unfold Scr; omega) (fun _ _ q => q))
  have eS1 : said h1 y = said h y := funext fun j => F1.i (by omega)
  have C1 : CoSt h1 s (said h y) := by rw [← eS1]; exact I1.2.2.1
  obtain ⟨C, LX, k16⟩ := I.law T hl
  have lx6 := LX.2.2.2.2.2
  have LX1 := LX.fs (F1.s nop) (fun a k q => by omega)
  have V1 := I1.vw ht (by rw [eS1]; exact wt)
  rw [eS1] at V1
  have PL1 : PlI h1 (b + 29) f x3 x4 x5 x6 t ob := ⟨⟨v1.2.1, v1.2.2.1, v1.2.2.2.1, v1.2.2.2.2.1⟩, v1.2.2.2.2.2.1, v1.2.2.2.2.2.2.1, v1.1⟩
  refine ⟨I1.st.1, s_frN I1.st C1 ⟨_, rfl, fun z => ?_, fun z => ?_⟩⟩
  · -- no number is free
    have on : frN (tS (said h y)) = none := (onI_neg (fun w q => by have := (frN_free W q).2.1; omega)).mp z
    refine ⟨_, rfl, R I1 ((F1.i (by omega)).trans T.2.2.2.2.1) (fun c => absurd (by rw [eS1]; exact good) c) (fun _ => r_thinks I1.md (fun h2 F2 TW => ⟨rfl, ?_⟩))⟩
    have I2 : InvB G u0 h2 b y s p := I1.scr ((F2.j _).weak (fun a k q => by unfold Scr; omega) (fun _ _ q => q))
    have eS2 : said h2 y = said h y := (funext fun j => F2.i (by omega)).trans eS1
    refine r_frN (by omega) I2.md ⟨_, rfl, fun _ => ⟨rfl, s, p, I2⟩, fun z => ?_⟩
    rw [eS2, on] at z
    exact absurd rfl z
  cases hw : frN (tS (said h y)) with
  | none =>
    rw [hw] at z
    exact absurd rfl z
  | some w =>
    obtain ⟨w6, w30, w0⟩ := frN_free W hw
    refine ⟨b + 29, I1.plan.1, s_mayCome (by omega) V1 I1.plw (by omega) PL1 (by rw [v1.2.2.2.2.2.2.2, sup0 I.wf]; rfl) hf (Or.inl ⟨ht, rfl⟩) wt wo (fun _ => ht) LX1.2.2.1 LX1.1 LX1.2.1 LX1.2.2.2.2.1 (by omega) (fun h2 v F2 b01 ev _ => ⟨_, rfl, ?_⟩)⟩
    have I2 : InvB G u0 h2 b y s p := I1.scr ((F2.j _).weak (fun a k q => by unfold McI at q; unfold Scr; omega) (fun _ _ q => q))
    have eS2 : said h2 y = said h y := (funext fun j => F2.i (by unfold McI; omega)).trans eS1
    have LX2 := LX1.fs F2 (fun a k q => by unfold McI at q; omega)
    have T2 : hI h2 (y + 2) 0 = nI nl := (F2.i (by unfold McI; omega)).trans ((F1.i (by omega)).trans T.2.2.2.2.1)
    have PL2 := PL1.fs F2 (fun k hk q => by unfold McI at q; omega)
    have W3 : WfR (said h y) := V1.2.2.2.2.2.2.1
    -- the reference, up to whether it can come
    have RR : ∀ {h3 : HP} {Q : Option Value → HP → Prop}, MdSh G h3 y → said h3 y = said h y → LawR h3 y l (C.filter (fun q => q.1 != 15)) → hI h3 (y + 7) l = hI h1 (y + 7) l → (∀ h5, FrS (fun a k => a = y ∧ (k = 27 ∨ (31 ≤ k ∧ k ≤ 36))) (CnL y) h3 h5 → ThW h5 y x3 x4 x5 x6 t ob → ((v = 0 → Q (some (.int (-2))) h5) ∧ (v = 1 → Cal G 58 mX12_builds [.ref y, .int (nI w), .int (nI f)] h5 (fun r25 h26 => r25 = none ∧ Q (some (.int (nI w))) h26)))) → Cal G 58 mX12_thinks [.ref y, .int x3, .int x4, .int x5, .int x6, .int (nI t), .int (onI ob)] h3 (fun r12 h13 => r12 = none ∧ Cal G 58 mX12_freeNumber [.ref y] h13 (fun r15 h16 => ∃ v18, r15 = some (.int v18) ∧ ((v18 = (-1) → Q (some (.int (-2))) h16) ∧ (¬ v18 = (-1) → Cal G 58 mX12_canCome [.ref y, .int (nI l), .int (nI f)] h16 (fun r20 h21 => ∃ v23, r20 = some (.int v23) ∧ ((¬ v23 = 0 → Cal G 58 mX12_builds [.ref y, .int v18, .int (nI f)] h21 (fun r25 h26 => r25 = none ∧ Q (some (.int v18)) h26)) ∧ (v23 = 0 → Q (some (.int (-2))) h21))))))) := by
      intro h3 Q M3 eS3 L3 j3 q
      refine r_thinks M3 (fun h4 F4 TW => ⟨rfl, ?_⟩)
      have M4 := M3.fr F4
      have eS4 : said h4 y = said h y := (funext fun j => F4.i (by omega)).trans eS3
      refine r_frN (by omega) M4 ⟨_, rfl, ?_⟩
      rw [eS4, hw]
      refine ⟨fun z => absurd z (nI_ne_neg (by omega)), fun _ => ?_⟩
      refine r_canCome (by omega) M4 (by rw [eS4]; exact W3) TW hf (by omega) (by rw [eS4]; exact wt) (by rw [eS4]; exact wo') (L3.fs (F4.s nop) (fun a k q => by omega)) (fun q hq => k16 q (mem_f hq).1) (fun h5 v5 F5 b5 e5 => ⟨_, rfl, ?_⟩)
      rw [eS4, F4.i (by omega), j3, canV_f] at e5
      have same : v5 = v := by
        rcases b5 with z | z <;> rcases b01 with z' | z'
        · rw [z, z']
        · have := e5.mpr (ev.mp z')
          rw [z] at this
          exact absurd this (by decide)
        · have := ev.mpr (e5.mp z)
          rw [z'] at this
          exact absurd this (by decide)
        · rw [z, z']
      have F35 : FrS (fun a k => a = y ∧ (k = 27 ∨ (31 ≤ k ∧ k ≤ 36))) (CnL y) h3 h5 := ((F4.s _).weak (fun a k q => ⟨q.1, Or.inr q.2⟩) (fun _ _ q => q)).tr (F5.weak (fun a k q => by unfold RkI at q; exact ⟨q.1, Or.inl q.2⟩) (fun _ _ q => q))
      have TW5 : ThW h5 y x3 x4 x5 x6 t ob := by
        have e : ∀ k, 31 ≤ k ∧ k ≤ 36 → hI h5 y k = hI h4 y k := fun k hk => F5.i (by unfold RkI; omega)
        unfold ThW
        rw [e _ (by omega), e _ (by omega), e _ (by omega), e _ (by omega), e _ (by omega), e _ (by omega)]
        exact TW
      obtain ⟨q1, q2⟩ := q h5 F35 TW5
      rw [same]
      exact ⟨fun z => q2 (b01.resolve_left z), q1⟩
    refine ⟨fun z => ⟨s, I2.now, b + 29, I2.plan.1, I2.st.1, ?_⟩, fun z => ⟨_, rfl, R I2 T2 (fun c => absurd (by rw [eS2]; exact good) c) (fun _ => ?_)⟩⟩
    · have v1' := b01.resolve_left z
      have cv := ev.mp v1'
      have H := canV_blh cv w6 (by omega) w0 (by omega) wt wo'
      refine s_raise (by omega) I2.st I2.plan.2 (by omega) PL2 (by omega) (by omega) (fun c q => by have := (wo c q).1; omega) (fun h3 F3 v3 => ⟨rfl, _, rfl, ?_⟩)
      have C2 : CoSt h2 s (said h y) := by rw [← eS2]; exact I2.2.2.1
      have C3 := C2.bld (f := nI f) W H w30 ht (fun c q => (wo c q).1) F3 v3
      have WB := W.bld cv hf w6 w30 w0 ht wt wo
      have eS3 : said h3 y = said h y := (funext fun j => F3.i (by omega)).trans eS2
      have LX3 := LX2.fs (F3.s nop) (fun a k q => by omega)
      have j3 : hI h3 (y + 7) l = hI h1 (y + 7) l := (F3.i (by omega)).trans (F2.i (by unfold McI; omega))
      have M3 : MdSh G h3 y := I2.md.fr F3
      refine e_X12_build (by omega) ⟨M3.1, r_isText (k := 0) M3 (by omega) ((F3.i (by omega)).trans T2) nl6 (fun c => absurd good.1 c) (fun _ _ _ => ⟨_, rfl, fun q => absurd q (by decide), fun _ => r_areAsked (by omega) M3 (by rw [eS3]; exact W) (fun c => absurd (by rw [eS3]; exact good.2) c) (fun _ => ⟨_, rfl, fun _ => ?_, fun q => absurd q (by decide)⟩)⟩)⟩
      refine RR (Q := fun r2 h2 => r2 = some (.int (nI w)) ∧ ∃ s p, InvB G u0 h2 b y s p) M3 eS3 LX3.2.2.2.1 j3 (fun h5 F5 TW5 => ⟨fun z0 => absurd z0 (by rw [v1']; decide), fun _ => ?_⟩)
      have eS5 : said h5 y = said h y := (funext fun j => F5.i (by omega)).trans eS3
      refine r_builds (by omega) (M3.fs F5) TW5 (by omega) (by omega) (fun c q => (wo' c q).1) (H.ne wt) (fun q => H.ne (wo' w q).2 rfl) (fun h6 F6 e6 => ⟨rfl, rfl, s, p, ?_⟩)
      rw [eS5] at e6
      have FJ : FrJ (fun a k => (s + 5 ≤ a ∧ a ≤ s + 35) ∨ (a = y ∧ (k = 27 ∨ (31 ≤ k ∧ k ≤ 36))) ∨ (a = y + 13 ∧ 1608 ≤ k ∧ k < 2256)) (fun _ _ => False) h2 h6 := (((F3.j _).weak (fun a k q => Or.inl q) (fun _ _ q => q)).tr ((F5.j _).weak (fun a k q => Or.inr (Or.inl q)) (fun _ _ q => q))).tr ((F6.j _).weak (fun a k q => Or.inr (Or.inr q)) (fun _ _ q => q))
      have C6 : CoSt h6 s (said h6 y) := by
        rw [e6]
        exact C3.fr (fun a k h1 h2 => (F6.i (by omega)).trans (F5.i (by omega)))
      refine I2.thg FJ (fun a k q => by unfold ThgP Scr; omega) (fun _ _ q => q.elim) (fun q => ?_) C6.2.2.2.1 C6.2.2.2.2.1 (by rw [e6]; exact WB)
      rw [eS2] at q
      rw [q t ht] at wt
      exact absurd wt (by decide)
    · refine RR (Q := fun r2 h2 => r2 = some (.int (-2)) ∧ ∃ s p, InvB G u0 h2 b y s p) I2.md eS2 LX2.2.2.2.1 (F2.i (by unfold McI; omega)) (fun h5 F5 TW5 => ⟨fun _ => ⟨rfl, s, p, I2.scr ((F5.j _).weak (fun a k q => by unfold Scr; omega) (fun _ _ q => q))⟩, fun z1 => ?_⟩)
      rw [z] at z1
      exact absurd z1 (by decide)
