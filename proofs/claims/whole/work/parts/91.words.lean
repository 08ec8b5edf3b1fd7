/-! ===== the class: words ===== -/
section WC
variable {G : GG} {d : Nat} {h : HP} {b s n P : Nat} {S : Nat → Int32} {Q : Option Value → HP → Prop}
theorem f4_rng {S : Nat → Int32} (W : WfR S) (m : Nat) {i j : Nat} (hi : i < 40) (hj : j < 40) : 0 ≤ f4 S m i j ∧ f4 S m i j ≤ 127 := by
  obtain ⟨k, hk, ek⟩ := W.cell (c := 40 * j + i) (by omega)
  obtain ⟨w1, w2, w3⟩ := wrt_n hk ek
  match m with
  | 0 => simp [f4]
  | 1 => simp only [f4]; omega
  | 2 => simp only [f4]; omega
  | m + 3 => simp only [f4]; omega
theorem outG_rng {S : Nat → Int32} (W : WfR S) (a : Nat) (ob : Option Nat) (m x0 z0 x1 z1 : Nat) : 0 ≤ box (outG S a ob m) x0 z0 x1 z1 ∧ box (outG S a ob m) x0 z0 x1 z1 ≤ 203200 := by
  have := box_le (f := outG S a ob m) (c := 127) (by omega) (fun i j hi hj => by
    unfold outG
    split
    · omega
    · exact f4_rng W m hi hj) x0 z0 x1 z1
  omega
theorem CoV.co {h : HP} {s n tc ta : Nat} {S : Nat → Int32} (C : CoV h s S n) (W : WfR S) (e : ix n tc ta) (w : tS S ta 0 = 1) : (tg h s tc 1 = nI (cN (tS S) ta 1) ∧ tg h s tc 2 = nI (cN (tS S) ta 2) ∧ tg h s tc 3 = nI (cN (tS S) ta 3) ∧ tg h s tc 4 = nI (cN (tS S) ta 4)) ∧ (cN (tS S) ta 1 < cN (tS S) ta 3 ∧ cN (tS S) ta 3 ≤ 40) ∧ (cN (tS S) ta 2 < cN (tS S) ta 4 ∧ cN (tS S) ta 4 ≤ 40) ∧ (cN (tS S) ta 3 : Int) ≤ (S 0).toInt ∧ (cN (tS S) ta 4 : Int) ≤ (S 1).toInt := by
  have l := ix_lt e C.2.2.2.2.2.1
  have g := W.2.2.2.1.1 ta l.2 w
  obtain ⟨⟨e1, e2, e3, e4⟩, h1, h2⟩ := g.n W.1.1.2 W.1.2.2
  have ak := (C.at_ e w).2.1
  unfold geo at g
  refine ⟨⟨(ak 1 (by omega) (by omega)).trans e1, (ak 2 (by omega) (by omega)).trans e2, (ak 3 (by omega) (by omega)).trans e3, (ak 4 (by omega) (by omega)).trans e4⟩, h1, h2, ?_, ?_⟩
  · unfold cN; omega
  · unfold cN; omega
theorem s_areaV (V : VwC G h b s S n) {tc ta : Nat} (e : ix n tc ta) (w : tS S ta 0 = 1) (hQ : Q (some (.int (iI (bxT (fun _ _ => 1) (tS S) ta)))) h) : Cal G d mX9_area [.ref (s + 5 + tc)] h Q := by
  have C := V.2.2.2.2.2.1
  have l := ix_lt e C.2.2.2.2.2.1
  obtain ⟨⟨e1, e2, e3, e4⟩, h1, h2, -⟩ := C.co V.2.2.2.2.2.2.1 e w
  refine s_area (V.2.2.2.2.1.2.2.2.2.2.2.1 tc l.1).2 ?_
  rw [areaI_n e1 e2 e3 e4 (by omega) h1.2 (by omega) h2.2]
  exact hQ
theorem s_onGround (hd : 2 ≤ d) (V : VwC G h b s S n) (kP : Kd G h P 3) {f x0 z0 x1 z1 tc ta : Nat} {ob : Option Nat} (L : PlI h P f (nI x0) (nI z0) (nI x1) (nI z1) tc ob) (e : ix n tc ta) (w : tS S ta 0 = 1) (wb : ∀ c, ob = some c → c < 30 ∧ tS S c 0 = 1) (hx0 : x0 < x1) (hz0 : z0 < z1) (hc : (x1 : Int) ≤ (S 0).toInt) (hr : (z1 : Int) ≤ (S 1).toInt) {T : Nat} (hT : b + 16 ≤ T ∧ T ≤ b + 20) {g : Nat → Nat → Int} (tab : TabOK h T (S 0).toInt (S 1).toInt g) (hQ : Q (some (.int (iI (box g x0 z0 x1 z1 - bxT g (tS S) ta - optI (bxT g (tS S)) ob)))) h) : Cal G d mX7_onGround [.ref (b + 15), .ref T, .ref P, .ref (s + 5 + tc), va_rf (ob.map (fun c => s + 5 + c))] h Q := by
  have C := V.2.2.2.2.2.1
  have W := V.2.2.2.2.2.2.1
  have dd := W.1
  unfold rng at dd
  have l := ix_lt e C.2.2.2.2.2.1
  obtain ⟨⟨p1, p2, p3, p4⟩, -⟩ := L
  have Tb := V.2.2.2.1
  obtain ⟨kT, nT⟩ := Tb.2.2 T hT.1 hT.2
  have th : ∀ {tc ta : Nat}, ix n tc ta → tS S ta 0 = 1 → ∀ {Q' : Option Value → HP → Prop}, Q' (some (.int (iI (bxT g (tS S) ta)))) h → Cal G (d - 1) mX7_inThing [.ref (b + 15), .ref T, .ref (s + 5 + tc)] h Q' := by
    intro tc ta e w Q' q
    obtain ⟨⟨e1, e2, e3, e4⟩, h1, h2, h3, h4⟩ := C.co W e w
    exact s_inThing (by omega) Tb.1 (V.2.2.2.2.1.2.2.2.2.2.2.1 tc (ix_lt e C.2.2.2.2.2.1).1).2 kT nT tab e1 e2 e3 e4 (by omega) h1.2 (by omega) h2.2 h3 h4 q
  refine e_X7_onGround (by omega) ⟨kP, Tb.1, ?_⟩
  rw [p1, p2, p3, p4]
  refine s_inRect kT nT tab (by omega) (by omega) (by omega) (by omega) hc hr ⟨_, rfl, th e w ⟨_, rfl, ?_⟩⟩
  cases ob with
  | none =>
    refine ⟨fun _ => ?_, fun q z => by cases z⟩
    rw [← iI_sub]
    have : box g x0 z0 x1 z1 - bxT g (tS S) ta - optI (bxT g (tS S)) none = box g x0 z0 x1 z1 - bxT g (tS S) ta := by
      simp only [optI]; omega
    rw [this] at hQ
    exact hQ
  | some c =>
    refine ⟨fun z => (by cases z), fun q z => ?_⟩
    obtain rfl : s + 5 + c = q := Option.some.inj z
    refine th (Or.inl ⟨(wb c rfl).1, rfl⟩) (wb c rfl).2 ⟨_, rfl, ?_⟩
    rw [← iI_sub, ← iI_sub]
    exact hQ
theorem s_deepV (V : VwC G h b s S n) {tc ta : Nat} (e : ix n tc ta) (w : tS S ta 0 = 1) (hQ : Q (some (.int (iI (deepI S ta)))) h) : Cal G d mX6_deepRound [.ref s, .int (nI tc)] h Q := by
  have C := V.2.2.2.2.2.1
  have W := V.2.2.2.2.2.2.1
  have l := ix_lt e C.2.2.2.2.2.1
  refine s_deepRound V.2.2.2.2.1 (fun c => ?_) (by rw [ti_nI (by omega)]; omega) (fun t et h6 ht => ?_)
  · rw [ti_nI (by omega)] at c
    have : deepI S ta = 0 := by
      have : ta = tc := by unfold ix at e; omega
      unfold deepI
      rw [deep_house W (by omega), if_neg (by omega)]
      rfl
    rw [this] at hQ
    exact hQ
  · obtain rfl : tc = t := (nI_eq_iff (by omega) (by omega)).mp et
    rw [(C.at_ e w).2.2]
    have : deepI S ta = (1 : Int) + (deepN (tS S) 31 (nI ta) : Int) := by
      unfold deepI
      rw [if_pos (by unfold ix at e; omega)]
      omega
    rw [this, iI_add] at hQ
    exact hQ
theorem s_likeV (V : VwC G h b s S n) {f tc ta : Nat} (hf : f < 12) (e : ix n tc ta) (w : tS S ta 0 = 1) (hQ : Q (some (.int (iI (likeI S f ta)))) h) : Cal G d mX6_likeTo [.ref s, .int (nI f), .ref (s + 5 + tc)] h Q := by
  have C := V.2.2.2.2.2.1
  have W := V.2.2.2.2.2.2.1
  have St := V.2.2.2.2.1
  have l := ix_lt e C.2.2.2.2.2.1
  have o : hI h (s + 5 + tc) 5 = tS S ta 5 := (C.at_ e w).2.1 5 (by omega) (by omega)
  refine e_X6_likeTo (o2 := some (s + 5 + tc)) ⟨fun z => (by cases z), fun q z => ?_⟩
  obtain rfl : s + 5 + tc = q := Option.some.inj z
  refine ⟨(St.2.2.2.2.2.2.1 tc l.1).2, ?_⟩
  rw [o]
  by_cases t6 : ta < 6
  · have own := W.2.2.2.2.2.2.2.2 ta t6 w
    rw [own]
    refine ⟨fun c => absurd rfl c, fun _ => ?_⟩
    unfold likeI at hQ
    rw [if_pos (Or.inl t6)] at hQ
    exact hQ
  · have ro := W.2.2.2.2.1 ta (by omega) l.2 w
    unfold rng at ro
    obtain ⟨u, hu, eu⟩ := of_in (n := 12) (x := tS S ta 5) ro.1 (by omega)
    rw [eu]
    have ei : nI f * 12 + nI u = nI (12 * f + u) := by
      show nI f * nI 12 + nI u = _
      rw [nM, nA, Nat.mul_comm]
    refine ⟨fun _ => ⟨St.1, s + 2, St.2.1.2.1, St.2.2.2.1.1, by rw [ei, St.2.2.2.1.2]; exact vin_nI (by omega) (by omega), ?_⟩, fun c => absurd c (nI_ne_neg (by omega))⟩
    rw [ei, cl_nI (by omega), C.2.2.1 _ (by omega)]
    unfold likeI at hQ
    rw [eu] at hQ
    by_cases fu : u = f
    · subst fu
      rw [if_pos (Or.inr rfl)] at hQ
      have := W.2.2.2.2.2.2.1 u hu
      rw [show 2256 + (12 * u + u) = 2256 + 13 * u by omega, this]
      exact hQ
    · rw [if_neg (fun q => q.elim t6 (fun q => fu ((nI_eq_iff (by omega) (by omega)).mp q))), ti_nI (by omega), iI_ti] at hQ
      rw [show 2256 + (12 * f + u) = 2256 + 12 * f + u by omega]
      exact hQ
end WC
