/-! ===== walls only supposed ===== -/
def pulS (S : Nat → Int32) (w j : Nat) : Int32 := if 1608 ≤ j ∧ j < 2256 then pullA (tS S) w ((j - 1608) / 12) ((j - 1608) % 12) else S j
theorem tS_pul {S : Nat → Int32} {w u k : Nat} (hu : u < 54) (hk : k < 12) : tS (pulS S w) u k = pullA (tS S) w u k := by
  have e1 : (1608 + 12 * u + k - 1608) / 12 = u := by omega
  have e2 : (1608 + 12 * u + k - 1608) % 12 = k := by omega
  show pulS S w (1608 + 12 * u + k) = _
  unfold pulS
  rw [if_pos (by omega), e1, e2]
theorem pul_off {S : Nat → Int32} {w j : Nat} (h : ¬ (1608 ≤ j ∧ j < 2256)) : pulS S w j = S j := by
  unfold pulS
  rw [if_neg h]
/-- S' is S but for rows from w on, which hold nothing -/
def JnkS (w : Nat) (S S' : Nat → Int32) : Prop := (∀ j, ¬ (1608 + 12 * w ≤ j ∧ j < 2256) → S' j = S j) ∧ ∀ t, w ≤ t → t < 54 → tS S' t 0 = 0
theorem JnkS.t {w : Nat} {S S' : Nat → Int32} (J : JnkS w S S') {t k : Nat} (ht : t < w) (hk : k < 12) : tS S' t k = tS S t k := J.1 _ (by omega)
theorem noW {M : Nat} (hM : M ≤ 54) {c r : Int32} {A : Nat → Nat → Int32} (W : WfT M c r A) {w : Nat} (hw : w < 54) (w0 : ¬ A w 0 = 1) {u : Nat} (hu : u < M) (u0 : A u 0 = 1) : ¬ A u 6 = nI w := fun q => by
  rcases W.2.1 u hu u0 with e | ⟨v, h1, h2, h3, h4, h5⟩
  · rw [q] at e
    exact absurd e (nI_ne_neg (by omega))
  · rw [q, nI_eq_iff (by omega) (by omega)] at h3
    rw [h3] at w0
    exact w0 h4
/-- built, then pulled down -/
theorem JnkS.pul {S S1 : Nat → Int32} {w a : Nat} {x z tx tz f : Int32} {c r : Int32} (hw : w < 54) (h30 : 30 ≤ w) (W : WfT 54 c r (tS S)) (H : BlH (tS S) w a none) (ha : a < w) (J : JnkS (w + 1) (bldS S w x z tx tz f a none) S1) : JnkS w S (pulS S1 w) := by
  have E := tS_bld (S := S) (w := w) (x := x) (z := z) (tx := tx) (tz := tz) (f := f) (a := a) (ob := none)
  have row6 : tS S1 w 6 = -1 := by
    rw [J.t (by omega) (by omega), E.at_ H (by omega)]
    rfl
  have low : ∀ u k, u < w → k < 12 → tS (pulS S1 w) u k = tS S u k := fun u k hu hk => by
    rw [tS_pul (by omega) hk]
    unfold pullA
    rw [if_neg (by omega), row6]
    have ek : ∀ k, k < 12 → k ≠ 6 → tS S1 u k = tS S u k := fun k hk h6 => by
      rw [J.t (by omega) hk, E.k (by omega) hk (by omega) h6]
    by_cases k6 : k = 6
    · subst k6
      by_cases ua : u = a
      · subst ua
        rw [if_pos ⟨rfl, by rw [ek 0 (by omega) (by omega)]; exact H.2.1.2.1, by rw [J.t (by omega) (by omega), E.in_ (by omega) (by omega) (Or.inl rfl)]⟩]
        exact H.2.1.2.2.symm
      · have e6 : tS S1 u 6 = tS S u 6 := by
          rw [J.t (by omega) (by omega), E.out (by omega) (by omega) (fun q => by
            rcases q with q | q
            · exact ua q
            · cases q)]
        rw [e6, ek 0 (by omega) (by omega), if_neg (fun q => noW (Nat.le_refl 54) W hw (fun z => by rw [H.1.2.2] at z; exact absurd z (by decide)) (show u < 54 by omega) q.2.1 q.2.2)]
    · rw [if_neg (fun q => k6 q.1)]
      exact ek k hk k6
  refine ⟨fun j hj => ?_, fun t h1 h2 => ?_⟩
  · by_cases c : 1608 ≤ j ∧ j < 2256
    · have := low ((j - 1608) / 12) ((j - 1608) % 12) (by omega) (by omega)
      unfold tS at this
      rw [show 1608 + 12 * ((j - 1608) / 12) + (j - 1608) % 12 = j by omega] at this
      exact this
    · rw [pul_off c, J.1 j (by omega), bld_off c]
  · rw [tS_pul h2 (by omega)]
    unfold pullA
    by_cases e : t = w
    · rw [if_pos ⟨e, rfl⟩]
    · rw [if_neg (fun q => e q.1), if_neg (fun q => absurd q.1 (by omega))]
      exact J.2 t (by omega) h2
theorem wft_same {M : Nat} {c r : Int32} {A A' : Nat → Nat → Int32} (e : ∀ t k, t < M → k < 7 → A' t k = A t k) (W : WfT M c r A) : WfT M c r A' := by
  obtain ⟨w1, w2, w3⟩ := W
  have ei : ∀ t u, t < M → u < M → (inn A' t u ↔ inn A t u) := fun t u ht hu => by
    unfold inn
    rw [e t 1 ht (by omega), e t 2 ht (by omega), e t 3 ht (by omega), e t 4 ht (by omega), e u 1 hu (by omega), e u 2 hu (by omega), e u 3 hu (by omega), e u 4 hu (by omega)]
  have ec : ∀ t u, t < M → u < M → (clr A' t u ↔ clr A t u) := fun t u ht hu => by
    unfold clr
    rw [e t 1 ht (by omega), e t 2 ht (by omega), e t 3 ht (by omega), e t 4 ht (by omega), e u 1 hu (by omega), e u 2 hu (by omega), e u 3 hu (by omega), e u 4 hu (by omega)]
  refine ⟨fun t ht q => ?_, fun t ht q => ?_, fun t u ht hu hne q1 q2 q3 => ?_⟩
  · rw [e t 0 ht (by omega)] at q
    exact (w1 t ht q).same (fun k h1 h4 => e t k ht (by omega))
  · rw [e t 0 ht (by omega)] at q
    rw [e t 6 ht (by omega)]
    rcases w2 t ht q with z | ⟨u, h1, h2, h3, h4, h5⟩
    · exact Or.inl z
    · exact Or.inr ⟨u, h1, h2, h3, by rw [e u 0 h2 (by omega)]; exact h4, (ei t u ht h2).mpr h5⟩
  · rw [e t 0 ht (by omega)] at q1
    rw [e u 0 hu (by omega)] at q2
    rw [e t 6 ht (by omega), e u 6 hu (by omega)] at q3
    exact (ec t u ht hu).mpr (w3 t u ht hu hne q1 q2 q3)
theorem JnkS.wf {S S' : Nat → Int32} (J : JnkS 30 S S') (W : WF S) : WF S' := by
  have et : ∀ t k, t < 30 → k < 12 → tS S' t k = tS S t k := fun t k ht hk => J.t ht hk
  have off : ∀ j, ¬ (1608 ≤ j ∧ j < 2256) → S' j = S j := fun j hj => J.1 j (by omega)
  refine W.thg off (fun t ht => et t 0 (by omega) (by omega)) (fun t ht q => ?_) ?_ (fun t ht => ?_) J.2 ?_
  · rw [et t 0 ht (by omega)] at q
    rw [et t 5 ht (by omega), et t 7 ht (by omega)]
    obtain ⟨a1, a2, a3⟩ := W.1.2.2.2.2.2.1 t ht q
    refine ⟨a1, a2, ?_⟩
    unfold gat at a3 ⊢
    rw [et t 10 ht (by omega), et t 7 ht (by omega), et t 8 ht (by omega), et t 9 ht (by omega), et t 1 ht (by omega), et t 2 ht (by omega), et t 3 ht (by omega), et t 4 ht (by omega)]
    exact a3
  · rintro ⟨t, ht, q⟩
    rw [et t 0 ht (by omega)] at q
    rw [off 2 (by omega)]
    exact W.2.1 ⟨t, ht, q⟩
  · by_cases c : t < 30
    · rw [et t 0 c (by omega)]
      exact W.2.2.1 t ht
    · exact Or.inl (J.2 t (by omega) ht)
  · rw [off 0 (by omega), off 1 (by omega)]
    exact wft_same (fun t k ht hk => et t k ht (by omega)) W.2.2.2.2
theorem JnkS.deep {S S' : Nat → Int32} (J : JnkS 30 S S') (W : WF S) (o : Nat) : deepN (tS S') 31 (nI o) = deepN (tS S) 31 (nI o) := by
  unfold deepN
  refine cntF_congr 48 6 (fun v h1 h2 => ?_)
  by_cases c : v < 30
  · have e0 : wallB (tS S') v = wallB (tS S) v := by
      unfold wallB
      rw [J.t c (by omega)]
    rw [e0]
    cases q : wallB (tS S) v with
    | false => rw [Bool.false_and, Bool.false_and]
    | true =>
      have v0 := (W.2.2.1.w (by omega)).mpr q
      rw [J.t c (by omega), liesF_congr (A := tS S) (b := 30) (by omega) (fun r hr => J.t hr (by omega)) (nI o) 31 20 _ (W.endsT c v0).toF]
  · have z1 : wallB (tS S') v = false := by
      unfold wallB
      rw [J.2 v (by omega) (by omega)]
      decide
    have z2 : wallB (tS S) v = false := by
      unfold wallB
      rw [W.2.2.2.1 v (by omega) (by omega)]
      decide
    rw [z1, z2, Bool.false_and, Bool.false_and]
theorem JnkS.co {h : HP} {s : Nat} {S S' : Nat → Int32} (J : JnkS 30 S S') (W : WF S) (C : CoSt h s S) : CoSt h s S' := by
  obtain ⟨c1, c2, c3, c4, c5, c6⟩ := C
  have off : ∀ j, ¬ (1608 ≤ j ∧ j < 2256) → S' j = S j := fun j hj => J.1 j (by omega)
  have et : ∀ t k, t < 30 → k < 12 → tS S' t k = tS S t k := fun t k ht hk => J.t ht hk
  refine ⟨fun j hj => by rw [off j (by omega)]; exact c1 j hj, fun c hc => by rw [off _ (by omega)]; exact c2 c hc, fun j hj => by rw [off _ (by omega)]; exact c3 j hj, fun t ht => ?_, c5, fun e he => ?_⟩
  · obtain ⟨d1, d2⟩ := c4 t ht
    unfold CoTh
    rw [et t 0 ht (by omega), et t 7 ht (by omega), et t 8 ht (by omega), et t 9 ht (by omega), et t 10 ht (by omega), J.deep W]
    refine ⟨d1, fun q => ?_⟩
    obtain ⟨e1, e2⟩ := d2 q
    exact ⟨fun k h1 h6 => by rw [et t k ht (by omega)]; exact e1 k h1 h6, e2⟩
  · rw [off _ (by omega)]
    refine ⟨(c6 e he).1, fun q j h1 h2 => ?_⟩
    rw [off _ (by omega)]
    exact (c6 e he).2 q j h1 h2
theorem JnkS.rf {S : Nat → Int32} (W : WF S) : JnkS 30 S S := ⟨fun _ _ => rfl, W.2.2.2.1⟩
theorem JnkS.tr {w : Nat} {S S1 S2 : Nat → Int32} (J : JnkS w S S1) (K : JnkS w S1 S2) : JnkS w S S2 := ⟨fun j hj => (K.1 j hj).trans (J.1 j hj), K.2⟩
theorem WfR.bld {S : Nat → Int32} {C : List Cla} {jn : Prop} {f : Nat} {x z tx tz : Int32} {a w : Nat} (W : WfR S) (h : canV S C jn f x z tx tz a none) (hf : f < 12) (h6 : 6 ≤ w) (hw : w < 54) (w0 : tS S w 0 = 0) (ha : a < 54) (wa : tS S a 0 = 1) : WfR (bldS S w x z tx tz (nI f) a none) := by
  have H := canV_blh h h6 hw w0 ha wa (fun c q => by cases q)
  have E := tS_bld (S := S) (w := w) (x := x) (z := z) (tx := tx) (tz := tz) (f := nI f) (a := a) (ob := none)
  have g := canV_gap h
  have off : ∀ j, ¬ (1608 ≤ j ∧ j < 2256) → bldS S w x z tx tz (nI f) a none j = S j := fun j q => bld_off q
  generalize bldS S w x z tx tz (nI f) a none = S' at *
  obtain ⟨a1, a2, a3, a4, a5, a6, a7, a8, a9⟩ := W
  refine ⟨by rw [off 0 (by omega), off 1 (by omega)]; exact a1, fun c hc => by rw [off _ (by omega)]; exact a2 c hc, fun t ht => ?_, ?_, fun t t6 ht q => ?_, fun j hj => by rw [off _ (by omega)]; exact a6 j hj, fun f hf => by rw [off _ (by omega)]; exact a7 f hf, by rw [off 3 (by omega)]; exact a8, fun t ht q => ?_⟩
  · by_cases tw : t = w
    · subst tw
      exact Or.inr (E.at_ H (by omega))
    · rw [E.k ht (by omega) tw (by omega)]
      exact a3 t ht
  · rw [off 0 (by omega), off 1 (by omega)]
    exact bl_wft (Nat.le_refl 54) a4 H hw ha (fun b q => by cases q) E h.1.1 g.1 g.2 (fun t ht t0 t6 n1 n2 => h.2.2.1 t ht t0 t6 n1 n2)
  · by_cases tw : t = w
    · subst tw
      have w5 : tS S' t 5 = nI f := E.at_ H (by omega)
      rw [w5]
      unfold rng
      rw [ti_nI (by omega)]
      omega
    · rw [E.k ht (by omega) tw (by omega)] at q
      rw [E.k ht (by omega) tw (by omega)]
      exact a5 t t6 ht q
  · rw [E.k (by omega) (by omega) (by omega) (by omega)] at q
    rw [E.k (by omega) (by omega) (by omega) (by omega)]
    exact a9 t ht q
theorem supN_bld {S : Nat → Int32} {f : Nat} {x z tx tz : Int32} {a w : Nat} (h30 : 30 ≤ w) (H : BlH (tS S) w a none) {f' : Nat} (hf : f < 12) (hf' : f' < 12) : supN (bldS S w x z tx tz (nI f) a none) f' = supN S f' + if f = f' then 1 else 0 := by
  have E := tS_bld (S := S) (w := w) (x := x) (z := z) (tx := tx) (tz := tz) (f := nI f) (a := a) (ob := none)
  generalize bldS S w x z tx tz (nI f) a none = S' at *
  have hw := H.1.2.1
  unfold supN
  have e := cntF_rm (p := fun v => if v < 54 then ownB (tS S') (nI f') v else ownB (tS S) (nI f') v) (q := ownB (tS S) (nI f')) (w := w) 24 30 h30 (by omega) (fun j hj => ?_) ?_
  · have c1 : cntF (fun v => if v < 54 then ownB (tS S') (nI f') v else ownB (tS S) (nI f') v) 30 24 = cntF (ownB (tS S') (nI f')) 30 24 := cntF_congr 24 30 (fun v h1 h2 => if_pos (by omega))
    rw [← c1, e, if_pos hw]
    have w0 : tS S' w 0 = 1 := E.at_ H (by omega)
    have w5 : tS S' w 5 = nI f := E.at_ H (by omega)
    unfold ownB
    rw [w0, w5]
    by_cases c : f = f'
    · rw [if_pos c, c]
      simp
    · rw [if_neg c]
      have : ¬ nI f = nI f' := fun q => c ((nI_eq_iff (by omega) (by omega)).mp q)
      simp [this]
  · by_cases c : j < 54
    · rw [if_pos c]
      unfold ownB
      rw [E.k c (by omega) hj (by omega), E.k c (by omega) hj (by omega)]
    · rw [if_neg c]
  · unfold ownB
    rw [H.1.2.2]
    have : ((0 : Int32) != 0) = false := by decide
    rw [this, Bool.false_and]
def ixN (n tc ta : Nat) : Prop := (n = 0 ∧ tc < 30 ∧ ta = tc) ∨ (tc = 30 ∧ 1 ≤ n ∧ ta = 29 + n)
theorem ixN_ix {n tc ta : Nat} (e : ixN n tc ta) : ix n tc ta := by
  unfold ixN at e
  unfold ix
  omega
