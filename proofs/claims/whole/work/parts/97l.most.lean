/-! ===== the most walls: the class ===== -/
noncomputable def cgB (S : Nat → Int32) (C : List Cla) (jn : Prop) (f a g : Nat) : Bool := @decide (canV S C jn f (tS S a 1 - nI g) (tS S a 2 - nI g) (tS S a 3 + nI g) (tS S a 4 + nI g) a none) (Classical.propDecidable _)
theorem cgB_iff {S : Nat → Int32} {C : List Cla} {jn : Prop} {f a g : Nat} : cgB S C jn f a g = true ↔ canV S C jn f (tS S a 1 - nI g) (tS S a 2 - nI g) (tS S a 3 + nI g) (tS S a 4 + nI g) a none := by
  unfold cgB
  exact @decide_eq_true_iff _ (Classical.propDecidable _)
noncomputable def moG (C : List Cla) (jn : Prop) (f : Nat) (S : Nat → Int32) (a : Nat) : Option Nat := firF (cgB S C jn f a) 1 9
def moS (S : Nat → Int32) (w f a g : Nat) : Nat → Int32 := bldS S w (tS S a 1 - nI g) (tS S a 2 - nI g) (tS S a 3 + nI g) (tS S a 4 + nI g) (nI f) a none
def MoT (C : List Cla) (jn : Prop) (f : Nat) : Nat → Nat → (Nat → Int32) → Nat → (Nat → Int32) → Prop
  | 0, n, S, a, S' => S' = S ∧ (n = 24 ∨ moG C jn f S a = none)
  | m + 1, n, S, a, S' => n < 24 ∧ ∃ g, moG C jn f S a = some g ∧ MoT C jn f m (n + 1) (moS S (30 + n) f a g) (30 + n) S'
section SU
variable {G : GG} {d : Nat} {h : HP} {b s n P : Nat} {S : Nat → Int32} {Q : Option Value → HP → Prop}
theorem CoV.sup {h h2 : HP} {f : Nat} {x z tx tz : Int32} {tc ta : Nat} (C : CoV h s S n) (W : WfR S) (e : ixN n tc ta) (hn : n < 24) (H : BlH (tS S) (30 + n) ta none) (F : ∀ a k, s ≤ a → a < s + 42 → ¬ (s + 5 ≤ a ∧ a ≤ s + 35) → hI h2 a k = hI h a k) (v : ∀ u k, u < 31 → tg h2 s u k = if u = 30 ∧ k = 6 then -1 else if k = 6 ∧ u = tc then nI 30 else if u = 30 ∧ k ≤ 11 then rRow x z tx tz (nI f) (drT h s tc) k else tg h s u k) : CoV h2 s (bldS S (30 + n) x z tx tz (nI f) ta none) (n + 1) := by
  have E := tS_bld (S := S) (w := 30 + n) (x := x) (z := z) (tx := tx) (tz := tz) (f := nI f) (a := ta) (ob := none)
  have off : ∀ j, ¬ (1608 ≤ j ∧ j < 2256) → bldS S (30 + n) x z tx tz (nI f) ta none j = S j := fun j q => bld_off q
  generalize bldS S (30 + n) x z tx tz (nI f) ta none = S' at *
  have at_ := C.at_ (ixN_ix e) H.2.1.2.1
  have dr : drT h s tc = nI (drN (tS S) ta) := drT_v (by unfold ixN at e; omega) (fun _ => at_.2.2) (fun q => deep_h (Nat.le_refl 54) W.2.2.2.1 W.1.1.2 W.2.2.1 (by unfold ixN at e; omega))
  obtain ⟨c1, c2, c3, c4, c5, c6, c7, c8, c9⟩ := C
  refine ⟨fun j hj => ?_, fun c hc => ?_, fun j hj => ?_, fun t ht => ?_, Or.inr ⟨by omega, ?_, fun k h1 h6 => ?_, ?_⟩, by omega, fun t h1 h2 => ?_, fun t h1 h2 => ?_, fun _ => ?_⟩
  · rw [off j (by omega), F _ _ (by omega) (by omega) (by omega)]
    exact c1 j hj
  · rw [off _ (by omega), F _ _ (by omega) (by omega) (by omega)]
    exact c2 c hc
  · rw [off _ (by omega), F _ _ (by omega) (by omega) (by omega)]
    exact c3 j hj
  · have tw : t ≠ 30 + n := by omega
    have gk : ∀ k, k ≠ 6 → tg h2 s t k = tg h s t k := fun k hk => by
      rw [v t k (by omega), if_neg (fun q => hk q.2), if_neg (fun q => hk q.1), if_neg (fun q => by omega)]
    have sk : ∀ k, k < 12 → k ≠ 6 → tS S' t k = tS S t k := fun k hk h6 => E.k (by omega) hk tw h6
    obtain ⟨d1, d2⟩ := c4 t ht
    unfold CoTh
    rw [gk 0 (by omega), sk 0 (by omega) (by omega), gk 7 (by omega), gk 8 (by omega), gk 9 (by omega), gk 10 (by omega), gk 11 (by omega), sk 7 (by omega) (by omega), sk 8 (by omega) (by omega), sk 9 (by omega) (by omega), sk 10 (by omega) (by omega), bl_deep_o W.2.2.2.1 W.1.1.2 W.2.2.1 H E (by omega) tw]
    refine ⟨d1, fun q => ?_⟩
    obtain ⟨e1, e2⟩ := d2 q
    refine ⟨fun k h1 h6 => ?_, e2⟩
    by_cases k6 : k = 6
    · subst k6
      rw [v t 6 (by omega), if_neg (fun q => by omega)]
      by_cases c : t = tc
      · rw [if_pos ⟨rfl, c⟩]
        unfold ixN at e
        obtain ⟨rfl, rfl⟩ : n = 0 ∧ ta = t := by omega
        rw [E.in_ (by omega) tw (Or.inl rfl)]
      · rw [if_neg (fun q => c q.2), if_neg (fun q => by omega), E.out (by omega) tw (fun q => by
          rcases q with q | q
          · unfold ixN at e
            omega
          · cases q)]
        exact e1 6 (by omega) (by omega)
    · rw [gk k k6, sk k (by omega) k6]
      exact e1 k h1 h6
  · rw [v 30 0 (by omega), if_neg (fun q => absurd q.2 (by omega)), if_neg (fun q => absurd q.1 (by omega)), if_pos ⟨rfl, by omega⟩]
    rfl
  · have ew : tS S' (29 + (n + 1)) k = bRow x z tx tz (nI f) (tS S (30 + n) k) k := by
      rw [show 29 + (n + 1) = 30 + n by omega]
      exact E.at_ H (by omega)
    rw [ew, v 30 k (by omega)]
    have : k = 1 ∨ k = 2 ∨ k = 3 ∨ k = 4 ∨ k = 5 ∨ k = 6 := by omega
    rcases this with rfl | rfl | rfl | rfl | rfl | rfl
    all_goals simp [rRow, bRow]
  · rw [v 30 7 (by omega), if_neg (fun q => absurd q.2 (by omega)), if_neg (fun q => absurd q.1 (by omega)), if_pos ⟨rfl, by omega⟩]
    rw [show 29 + (n + 1) = 30 + n by omega, bl_deep_w W.2.2.2.1 W.1.1.2 W.2.2.1 H E]
    have o0 : drO (tS S) none = 0 := rfl
    have r7 : rRow x z tx tz (nI f) (drT h s tc) 7 = drT h s tc := rfl
    rw [o0, Nat.add_zero, r7, dr]
  · by_cases tw : t = 30 + n
    · subst tw
      exact ⟨fun _ => by omega, fun _ => E.at_ H (by omega)⟩
    · rw [E.k h2 (by omega) tw (by omega), c7 t h1 h2]
      omega
  · have tw : t ≠ 30 + n := by omega
    by_cases c : t = ta
    · unfold ixN at e
      rw [E.in_ (by omega) tw (Or.inl c)]
      have : 30 + n = t + 1 := by omega
      rw [this]
    · rw [E.out (by omega) tw (fun q => by
        rcases q with q | q
        · exact c q
        · cases q)]
      unfold ixN at e
      exact c8 t h1 (by omega)
  · rw [show 29 + (n + 1) = 30 + n by omega]
    exact E.at_ H (by omega)
theorem s_suppose (hd : 2 ≤ d) (V : VwC G h b s S n) (kP : Kd G h P 3) (hP : P < s ∧ b + 20 < s) {f : Nat} {x z tx tz : Int32} {tc ta : Nat} {C : List Cla} {jn : Prop} (L : PlI h P f x z tx tz tc none) (e : ixN n tc ta) (hn : n < 24) (hf : f < 12) (cv : canV S C jn f x z tx tz ta none) (wa : tS S ta 0 = 1) (hQ : ∀ h2, FrI (fun a k => a = s + 35 ∨ (a = s + 5 + tc ∧ k = 6)) h h2 → VwC G h2 b s (bldS S (30 + n) x z tx tz (nI f) ta none) (n + 1) → Q none h2) : Cal G d mX6_suppose [.ref s, .ref P] h Q := by
  have Co := V.2.2.2.2.2.1
  have W := V.2.2.2.2.2.2.1
  have St := V.2.2.2.2.1
  have il := ix_lt (ixN_ix e) Co.2.2.2.2.2.1
  have w0 : tS S (30 + n) 0 = 0 := by
    rcases W.2.2.1 (30 + n) (by omega) with q | q
    · exact q
    · have := (Co.2.2.2.2.2.2.1 (30 + n) (by omega) (by omega)).mp q
      omega
  have H := canV_blh cv (show 6 ≤ 30 + n by omega) (by omega) w0 il.2 wa (fun c q => by cases q)
  refine e_X6_suppose (by omega) ⟨St.1, ?_⟩
  refine s_raise (w := 30) (ob := none) (by omega) St kP hP.1 L (by omega) il.1 (fun t q => by cases q) (fun h2 F2 v2 => ⟨rfl, ?_⟩)
  have St2 := St.fr F2
  obtain ⟨-, ⟨-, -, b3, -⟩, -, -, ⟨e1, e2⟩, -, k1, -⟩ := St2
  have F3 : FrI (fun a k => s + 5 ≤ a ∧ a ≤ s + 35) h (sI h2 (s + 5 + 30) 6 (-1)) := F2.tr (FrI.sI _ _ ⟨by omega, by omega⟩)
  have v3 : ∀ u k, u < 31 → tg (sI h2 (s + 5 + 30) 6 (-1)) s u k = if u = 30 ∧ k = 6 then -1 else if k = 6 ∧ u = tc then nI 30 else if u = 30 ∧ k ≤ 11 then rRow x z tx tz (nI f) (drT h s tc) k else tg h s u k := fun u k hu => by
    rw [tg_set, v2 u k hu]
    by_cases c1 : u = 30 ∧ k = 6
    · rw [if_pos c1, if_pos c1]
    · rw [if_neg c1, if_neg c1]
      by_cases c2 : k = 6 ∧ u = tc
      · rw [if_pos c2, if_pos ⟨c2.1, Or.inl c2.2⟩]
      · rw [if_neg c2, if_neg (c := k = 6 ∧ (u = tc ∨ none = some u)) (fun q => by
          rcases q.2 with z | z
          · exact c2 ⟨q.1, z⟩
          · cases z)]
        have : drT h s tc + drTO h s none = drT h s tc := by
          show drT h s tc + 0 = _
          exact Int32.add_zero _
        rw [this]
  refine ⟨s + 3, b3, e1, by rw [e2]; exact vin_nI (k := 30) (by omega) (by omega), s + 5 + 30, (k1 30 (by omega)).1, (k1 30 (by omega)).2, ?_⟩
  generalize sI h2 (s + 5 + 30) 6 (-1) = h3 at *
  have F3' : FrI (fun a k => a = s + 35 ∨ (a = s + 5 + tc ∧ k = 6)) h h3 := by
    refine ⟨F3.1, F3.2.1, F3.2.2.1, F3.2.2.2.1, F3.2.2.2.2.1, fun a k q => ?_⟩
    by_cases c : s + 5 ≤ a ∧ a ≤ s + 35
    · have t := v3 (a - (s + 5)) k (by omega)
      unfold tg at t
      rw [show s + 5 + (a - (s + 5)) = a by omega] at t
      rw [t, if_neg (fun z => q (Or.inl (by omega))), if_neg (fun z => q (Or.inr ⟨by omega, z.1⟩)), if_neg (fun z => q (Or.inl (by omega)))]
    · exact F3.i c
  refine hQ h3 F3' ⟨F3.kd V.1, (F3.r _ _).trans V.2.1, (F3.r _ _).trans V.2.2.1, V.2.2.2.1.fs (F3.s nop), St.fr F3, Co.sup W e hn H (fun a k h1 h2 q => F3.i q) v3, W.bld cv hf (by omega) (by omega) w0 il.2 wa, ?_⟩
  exact (V.2.2.2.2.2.2.2.fr (fun a k h1 h2 => F3.i (by omega))).congr (bld_off (by omega)) (bld_off (by omega)) W.1.1.2 W.1.2.2 (fun c hc => bld_off (by omega))
theorem s_forget (St : StSh G h s) {t : Nat} (ht : t < 30) (hQ : ∀ h2, FrI (fun a k => (a = s + 35 ∧ k = 0) ∨ (a = s + 5 + t ∧ k = 6)) h h2 → hI h2 (s + 35) 0 = 0 → hI h2 (s + 5 + t) 6 = -1 → Q none h2) : Cal G d mX6_forget [.ref s, .int (nI t)] h Q := by
  obtain ⟨a1, ⟨-, -, b3, -⟩, -, -, ⟨e1, e2⟩, -, k1, -⟩ := St
  have F1 : FrI (fun a k => (a = s + 35 ∧ k = 0) ∨ (a = s + 5 + t ∧ k = 6)) h (sI h (s + 5 + 30) 0 0) := FrI.sI _ _ (Or.inl ⟨by omega, rfl⟩)
  refine e_X6_forget ⟨a1, s + 3, b3, e1, by rw [e2]; exact vin_nI (k := 30) (by omega) (by omega), s + 5 + 30, (k1 30 (by omega)).1, (k1 30 (by omega)).2, by rw [F1.n e1, e2]; exact vin_nI (by omega) (by omega), s + 5 + t, by rw [cl_nI (by omega), F1.r]; exact (k1 t (by omega)).1, F1.kd (k1 t (by omega)).2, hQ _ (F1.tr (FrI.sI _ _ (Or.inr ⟨rfl, rfl⟩))) ?_ (hI_eq _ _ _ _)⟩
  rw [hI_ne _ _ (Or.inr (by omega))]
  exact hI_eq _ _ _ _
/-- slot 30 apart -/
theorem CoSt.fr30 {h h2 : HP} {s : Nat} {S : Nat → Int32} (ei : ∀ a k, s ≤ a → a < s + 42 → a ≠ s + 35 → hI h2 a k = hI h a k) (c30 : hI h2 (s + 35) 0 = 0) (C : CoSt h s S) : CoSt h2 s S := by
  obtain ⟨c1, c2, c3, c4, c5, c6⟩ := C
  have et : ∀ t k, t < 30 → tg h2 s t k = tg h s t k := fun t k ht => ei _ _ (by omega) (by omega) (by omega)
  refine ⟨fun j hj => (ei _ _ (by omega) (by omega) (by omega)).trans (c1 j hj), fun j hj => (ei _ _ (by omega) (by omega) (by omega)).trans (c2 j hj), fun j hj => (ei _ _ (by omega) (by omega) (by omega)).trans (c3 j hj), fun t ht => ?_, c30, fun e he => ?_⟩
  · unfold CoTh
    simp only [et t _ ht]
    exact c4 t ht
  · rw [ei _ _ (by omega) (by omega) (by omega)]
    refine ⟨(c6 e he).1, fun q j h1 h2 => ?_⟩
    rw [ei _ _ (by omega) (by omega) (by omega)]
    exact (c6 e he).2 q j h1 h2
theorem firF_step {p : Nat → Bool} {i n : Nat} : firF p i (n + 1) = if p i then some i else firF p (i + 1) n := rfl
theorem s_widens {A f tc ta : Nat} {C : List Cla} {jn : Prop} (hd : 6 ≤ d) (V : VwC G h b s S n) (K : PlW G h (b + 29)) (hpl : hR h b 8 = some (b + 29)) (hs : b + 34 < s ∧ s + 42 ≤ b + 140 ∧ b + 140 ≤ A) (Sc : ScrC G h A C) (hC : C.length ≤ 12) (hcl : ∀ q ∈ C, ClaP q) (hj : hI h A 0 = 0 ↔ ¬ jn) (hf : f < 12) (e : ixN n tc ta) (wa : tS S ta 0 = 1) (sup : supN S f = n)
    (h0 : moG C jn f S ta = none → ∀ h2, FrS (fun a _ => a = b + 29) (DwL b A) h h2 → Q (some (.int 0)) h2) (h1 : ∀ g, moG C jn f S ta = some g → ∀ h2, FrS (fun a _ => a = b + 29) (DwL b A) h h2 → PlI h2 (b + 29) f (tS S ta 1 - nI g) (tS S ta 2 - nI g) (tS S ta 3 + nI g) (tS S ta 4 + nI g) tc none → Q (some (.int 1)) h2) : Cal G d mX11_widens [.ref b, .ref A, .int (nI f), .int (nI tc), .int (nI n)] h Q := by
  have Co := V.2.2.2.2.2.1
  have il := ix_lt (ixN_ix e) Co.2.2.2.2.2.1
  have n24 := Co.2.2.2.2.2.1
  refine e_X11_widens (by omega) ⟨V.1, b + 29, hpl, s_aim (ob := none) (by omega) K.1 V.1 V.2.1 V.2.2.2.2.1 (by omega) il.1 (fun u q => by cases q) (fun h1' F1 v1 w1 => ⟨rfl, b + 29, (F1.r _ _).trans hpl, F1.kd K.1, ?_⟩)⟩
  have F2 : FrS (fun a _ => a = b + 29) (DwL b A) h (sI h1' (b + 29) 7 (nI n)) := ((F1.s _).weak (fun a k q => q.1) (fun _ _ q => q)).tr (frS_sI _ _ rfl)
  have at2 : ∀ j, 1 ≤ j → j ≤ 4 → hI (sI h1' (b + 29) 7 (nI n)) (b + 29) (8 + j) = tS S ta j := fun j h1 h4 => by
    rw [hI_ne _ _ (Or.inr (by omega)), w1 j h1 h4]
    exact (Co.at_ (ixN_ix e) wa).2.1 j h1 (by omega)
  have pf2 : hI (sI h1' (b + 29) 7 (nI n)) (b + 29) 0 = nI f ∧ hI (sI h1' (b + 29) 7 (nI n)) (b + 29) 5 = nI tc ∧ hI (sI h1' (b + 29) 7 (nI n)) (b + 29) 6 = onI none ∧ hI (sI h1' (b + 29) 7 (nI n)) (b + 29) 7 = nI n := by
    rw [hI_ne _ _ (Or.inr (by omega)), hI_ne _ _ (Or.inr (by omega)), hI_ne _ _ (Or.inr (by omega)), hI_eq]
    exact ⟨v1.1, v1.2.1, v1.2.2.1, rfl⟩
  generalize sI h1' (b + 29) 7 (nI n) = h2 at *
  clear v1 w1 F1
  have loop : ∀ (m g : Nat) (h3 : HP), g + m = 10 → 1 ≤ g → FrS (fun a _ => a = b + 29) (DwL b A) h h3 → (∀ j, 1 ≤ j → j ≤ 4 → hI h3 (b + 29) (8 + j) = tS S ta j) → (hI h3 (b + 29) 0 = nI f ∧ hI h3 (b + 29) 5 = nI tc ∧ hI h3 (b + 29) 6 = onI none ∧ hI h3 (b + 29) 7 = nI n) → firF (cgB S C jn f ta) 1 9 = firF (cgB S C jn f ta) g m → Ex G d mX11_widens 23 [(0, .ref b), (1, .ref A), (2, .int (nI f)), (3, .int (nI tc)), (4, .int (nI n)), (5, .int (nI g))] [] h3 Q := by
    intro m
    induction m with
    | zero =>
      intro g h3 hg g1 F3 at3 pf3 ef
      obtain rfl : g = 10 := by omega
      refine t_X11_widens_23 (by omega) ⟨fun _ => h0 ?_ h3 F3, fun q => absurd (by decide) q⟩
      unfold moG
      rw [ef]
      rfl
    | succ m ih =>
      intro g h3 hg g1 F3 at3 pf3 ef
      have V3 := V.fs F3 (fun a k q => by omega)
      have K3 := K.fs F3
      refine t_X11_widens_23 (by omega) ⟨fun q => ?_, fun _ => ⟨V3.1, b + 29, (F3.r _ _).trans hpl, K3.1, s_spread K3.1 (fun h4 F4 v4 _ => ⟨rfl, b + 29, (F4.r _ _).trans ((F3.r _ _).trans hpl), ?_⟩)⟩⟩
      · have := (nI_lt_iff (a := 9) (by omega) (by omega)).mp q
        omega
      have F4' : FrS (fun a _ => a = b + 29) (DwL b A) h3 h4 := (F4.s _).weak (fun a k q => q.1) (fun _ _ q => q)
      have V4 := V3.fs F4' (fun a k q => by omega)
      have PL : PlI h4 (b + 29) f (tS S ta 1 - nI g) (tS S ta 2 - nI g) (tS S ta 3 + nI g) (tS S ta 4 + nI g) tc none := by
        have e1 := at3 1 (by omega) (by omega)
        have e2 := at3 2 (by omega) (by omega)
        have e3 := at3 3 (by omega) (by omega)
        have e4 := at3 4 (by omega) (by omega)
        simp only [Nat.reduceAdd] at e1 e2 e3 e4
        refine ⟨⟨v4.1.trans (by rw [e1]), v4.2.1.trans (by rw [e2]), v4.2.2.1.trans (by rw [e3]), v4.2.2.2.trans (by rw [e4])⟩, (F4.i (by omega)).trans pf3.2.1, (F4.i (by omega)).trans pf3.2.2.1, (F4.i (by omega)).trans pf3.1⟩
      refine s_mayCome (jn := jn) (by omega) V4 (K3.fs F4') (by omega) PL (by rw [F4.i (by omega), pf3.2.2.2, sup]) hf (ixN_ix e) wa (fun c q => by cases q) (fun q => absurd rfl q) (Sc.fs (F3.tr F4') (fun x k z => by omega)) hC hcl ?_ (by omega) (fun h5 v F5 b01 ev _ => ⟨_, rfl, ?_⟩)
      · rw [(F3.tr F4').i (by omega)]
        exact hj
      have F5' : FrS (fun a _ => a = b + 29) (DwL b A) h4 h5 := F5.weak (fun a k q => by unfold McI at q; exact q.1) (fun a k q => by unfold McL at q; exact q)
      rw [firF_step (i := g) (n := m)] at ef
      refine ⟨fun z => ?_, fun z => ?_⟩
      · have nb : ¬ cgB S C jn f ta g = true := fun q => by
          have := ev.mpr (cgB_iff.mp q)
          rw [z] at this
          exact absurd this (by decide)
        rw [if_neg nb] at ef
        rw [nI_S]
        refine ih (g + 1) h5 (by omega) (by omega) ((F3.tr F4').tr F5') (fun j h1 h4 => (F5.i (by unfold McI; omega)).trans ((F4.i (by omega)).trans (at3 j h1 h4))) ?_ ef
        have p5 : ∀ k, k = 0 ∨ (5 ≤ k ∧ k ≤ 7) → hI h5 (b + 29) k = hI h3 (b + 29) k := fun k hk => (F5.i (by unfold McI; omega)).trans (F4.i (by omega))
        rw [p5 0 (by omega), p5 5 (by omega), p5 6 (by omega), p5 7 (by omega)]
        exact pf3
      · have ct := cgB_iff.mpr (ev.mp (b01.resolve_left z))
        rw [if_pos ct] at ef
        exact h1 g ef h5 ((F3.tr F4').tr F5') (PL.fs F5 (fun k hk q => by unfold McI at q; omega))
  exact loop 9 1 h2 rfl (by omega) F2 at2 pf2 rfl
end SU
