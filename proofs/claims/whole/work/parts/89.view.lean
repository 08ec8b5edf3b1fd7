/-! ===== the class: a State with walls only supposed ===== -/
def CoV (h : HP) (s : Nat) (S : Nat → Int32) (n : Nat) : Prop :=
  (∀ j, j < 5 → hI h s j = S j) ∧ (∀ c, c < 1600 → hI h (s + 1) c = S (8 + c)) ∧ (∀ j, j < 144 → hI h (s + 2) j = S (2256 + j)) ∧ (∀ t, t < 30 → CoTh h s S t) ∧
  ((n = 0 ∧ tg h s 30 0 = 0) ∨ (1 ≤ n ∧ tg h s 30 0 = 1 ∧ (∀ k, 1 ≤ k → k ≤ 6 → tg h s 30 k = tS S (29 + n) k) ∧ tg h s 30 7 = nI (deepN (tS S) 31 (nI (29 + n))))) ∧
  (n ≤ 24 ∧ (∀ t, 30 ≤ t → t < 54 → (tS S t 0 = 1 ↔ t < 30 + n)) ∧ (∀ t, 30 ≤ t → t + 1 < 30 + n → tS S t 6 = nI (t + 1)) ∧ (1 ≤ n → tS S (29 + n) 6 = -1))
def ix (n tc ta : Nat) : Prop := (tc < 30 ∧ ta = tc) ∨ (tc = 30 ∧ 1 ≤ n ∧ ta = 29 + n)
theorem CoV.at_ {h : HP} {s n tc ta : Nat} {S : Nat → Int32} (C : CoV h s S n) (e : ix n tc ta) (w : tS S ta 0 = 1) : tg h s tc 0 = 1 ∧ (∀ k, 1 ≤ k → k ≤ 6 → tg h s tc k = tS S ta k) ∧ tg h s tc 7 = nI (deepN (tS S) 31 (nI ta)) := by
  rcases e with ⟨h1, rfl⟩ | ⟨rfl, h1, rfl⟩
  · obtain ⟨c1, c2⟩ := C.2.2.2.1 ta h1
    obtain ⟨d1, d2, -⟩ := c2 w
    exact ⟨c1.trans w, d1, d2⟩
  · rcases C.2.2.2.2.1 with z | z
    · omega
    · exact z.2
theorem CoSt.v {h : HP} {s : Nat} {S : Nat → Int32} (C : CoSt h s S) (W : WF S) : CoV h s S 0 := ⟨C.1, C.2.1, C.2.2.1, C.2.2.2.1, Or.inl ⟨rfl, C.2.2.2.2.1⟩, by omega, fun t h1 h2 => ⟨fun q => (by rw [W.2.2.2.1 t h1 h2] at q; exact absurd q (by decide)), fun q => by omega⟩, fun t h1 h2 => by omega, fun q => by omega⟩
theorem WF.r {S : Nat → Int32} (W : WF S) (hy : (S 3).toInt ≤ 20000) : WfR S := by
  obtain ⟨⟨⟨a1, a2, a3, a4, a5⟩, a6, a7, a8, a9, a10, a11⟩, b, c, d, w1, w2, w3⟩ := W
  have l30 : ∀ t, t < 54 → tS S t 0 = 1 → t < 30 := fun t ht q => by
    by_cases z : t < 30
    · exact z
    · rw [d t (by omega) ht] at q
      exact absurd q (by decide)
  refine ⟨⟨a1, a2⟩, a6, c, ⟨fun t ht q => w1 t (l30 t ht q) q, fun t ht q => ?_, fun t u ht hu hne q1 q2 q3 => w3 t u (l30 t ht q1) (l30 u hu q2) hne q1 q2 q3⟩, fun t h6 ht q => (a10 t (l30 t ht q) q).2.1 h6, a7, a8, ⟨a4, hy⟩, fun t ht q => ((a10 t (by omega) q).1 ht).1⟩
  rcases w2 t (l30 t ht q) q with z | ⟨u, h1, h2, h3⟩
  · exact Or.inl z
  · exact Or.inr ⟨u, h1, by omega, h3⟩
/-- what the class needs to ask about a plan -/
def VwC (G : GG) (h : HP) (b s : Nat) (S : Nat → Int32) (n : Nat) : Prop := Kd G h b 11 ∧ hR h b 12 = some s ∧ hR h b 6 = some (b + 15) ∧ TbSh G h b ∧ StSh G h s ∧ CoV h s S n ∧ WfR S ∧ SumsOK h b S
def PlI (h : HP) (P f : Nat) (x z tx tz : Int32) (tc : Nat) (ob : Option Nat) : Prop := (hI h P 1 = x ∧ hI h P 2 = z ∧ hI h P 3 = tx ∧ hI h P 4 = tz) ∧ hI h P 5 = nI tc ∧ hI h P 6 = onI ob ∧ hI h P 0 = nI f
theorem CoV.fr {h h2 : HP} {s n : Nat} {S : Nat → Int32} (e : ∀ a k, s ≤ a → a < s + 42 → hI h2 a k = hI h a k) (C : CoV h s S n) : CoV h2 s S n := by
  obtain ⟨c1, c2, c3, c4, c5, c6⟩ := C
  have et : ∀ t k, t < 31 → tg h2 s t k = tg h s t k := fun t k ht => e _ _ (by omega) (by omega)
  refine ⟨fun j hj => (e _ _ (by omega) (by omega)).trans (c1 j hj), fun j hj => (e _ _ (by omega) (by omega)).trans (c2 j hj), fun j hj => (e _ _ (by omega) (by omega)).trans (c3 j hj), fun t ht => ?_, ?_, c6⟩
  · unfold CoTh
    simp only [et t _ (show t < 31 by omega)]
    exact c4 t ht
  · rw [et 30 0 (by omega), et 30 7 (by omega)]
    rcases c5 with z | ⟨z1, z2, z3, z4⟩
    · exact Or.inl z
    · exact Or.inr ⟨z1, z2, fun k h1 h6 => (et 30 k (by omega)).trans (z3 k h1 h6), z4⟩
theorem StSh.fs {PI PL : Nat → Nat → Prop} {G : GG} {h h2 : HP} {s : Nat} (F : FrS PI PL h h2) (S : StSh G h s) : StSh G h2 s := S.kp F.1 (fun a k _ _ => F.r a k)
theorem TbSh.fs {PI PL : Nat → Nat → Prop} {G : GG} {h h2 : HP} {b : Nat} (F : FrS PI PL h h2) (T : TbSh G h b) : TbSh G h2 b := ⟨F.kd T.1, ⟨(F.r _ _).trans T.2.1.1, (F.r _ _).trans T.2.1.2.1, (F.r _ _).trans T.2.1.2.2.1, (F.r _ _).trans T.2.1.2.2.2.1, (F.r _ _).trans T.2.1.2.2.2.2⟩, fun a h1 h2 => ⟨F.kd (T.2.2 a h1 h2).1, (F.n (T.2.2 a h1 h2).1).trans (T.2.2 a h1 h2).2⟩⟩
theorem VwC.fs {PI PL : Nat → Nat → Prop} {G : GG} {h h2 : HP} {b s n : Nat} {S : Nat → Int32} (F : FrS PI PL h h2) (hp : ∀ a k, PI a k → ¬ (s ≤ a ∧ a < s + 42) ∧ ¬ (b + 16 ≤ a ∧ a ≤ b + 20)) (V : VwC G h b s S n) : VwC G h2 b s S n := by
  obtain ⟨v1, v2, v3, v4, v5, v6, v7, v8⟩ := V
  exact ⟨F.kd v1, (F.r _ _).trans v2, (F.r _ _).trans v3, v4.fs F, v5.fs F, v6.fr (fun a k h1 h2 => F.i (fun z => (hp a k z).1 ⟨h1, h2⟩)), v7, v8.fr (fun a k h1 h2 => F.i (fun z => (hp a k z).2 ⟨h1, h2⟩))⟩
theorem ix_lt {n tc ta : Nat} (e : ix n tc ta) (hn : n ≤ 24) : tc < 31 ∧ ta < 54 := by
  unfold ix at e
  omega
section VC
variable {G : GG} {d : Nat} {h : HP} {b s n P : Nat} {S : Nat → Int32} {Q : Option Value → HP → Prop}
theorem s_outm (V : VwC G h b s S n) {tc ta : Nat} (e : ix n tc ta) (w : tS S ta 0 = 1) (h0 : ¬ tS S ta 6 = -1 → Q (some (.int 0)) h) (h1 : tS S ta 6 = -1 → Q (some (.int 1)) h) : Cal G d mX6_isOutermost [.ref s, .int (nI tc)] h Q := by
  have C := V.2.2.2.2.2.1
  obtain ⟨l1, l2⟩ := ix_lt e C.2.2.2.2.2.1
  obtain ⟨a0, ak, -⟩ := C.at_ e w
  refine s_isOutermost V.2.2.2.2.1 (fun q => absurd ⟨by rw [ti_nI (by omega)]; omega, by rw [ti_nI (by omega)]; omega⟩ q) (fun t et ht => ?_)
  obtain rfl : tc = t := (nI_eq_iff (by omega) (by omega)).mp et
  have key : outB (tg h s) tc = true ↔ tS S ta 6 = -1 := by
    unfold outB
    rw [a0, ak 6 (by omega) (by omega)]
    simp
  by_cases c : tS S ta 6 = -1
  · rw [if_pos (key.mpr c)]
    exact h1 c
  · rw [if_neg (fun q => c (key.mp q))]
    exact h0 c
/-- the gap to a thing -/
theorem s_gapTo (hd : 1 ≤ d) (V : VwC G h b s S n) (kP : Kd G h P 3) {f : Nat} {x z tx tz : Int32} {tc0 : Nat} {ob : Option Nat} (L : PlI h P f x z tx tz tc0 ob) (hx : inL x) (hz : inL z) (htx : inL tx) (htz : inL tz) {tc ta : Nat} (e : ix n tc ta) (w : tS S ta 0 = 1) (hQ : Q (some (.int (iI (gapA (tS S) x z tx tz ta)))) h) : Cal G d mX3_gapTo [.ref P, .ref (s + 5 + tc)] h Q := by
  have C := V.2.2.2.2.2.1
  have W := V.2.2.2.2.2.2.1
  obtain ⟨l1, l2⟩ := ix_lt e C.2.2.2.2.2.1
  obtain ⟨a0, ak, -⟩ := C.at_ e w
  have k9 := (V.2.2.2.2.1.2.2.2.2.2.2.1 tc (by omega)).2
  obtain ⟨⟨p1, p2, p3, p4⟩, -⟩ := L
  have g := W.geoL l2 w
  have g1 := g 1 (by omega) (by omega)
  have g2 := g 2 (by omega) (by omega)
  have g3 := g 3 (by omega) (by omega)
  have g4 := g 4 (by omega) (by omega)
  unfold inL at *
  have r1 : hI h (s + 5 + tc) 1 = tS S ta 1 := ak 1 (by omega) (by omega)
  have r2 : hI h (s + 5 + tc) 2 = tS S ta 2 := ak 2 (by omega) (by omega)
  have r3 : hI h (s + 5 + tc) 3 = tS S ta 3 := ak 3 (by omega) (by omega)
  have r4 : hI h (s + 5 + tc) 4 = tS S ta 4 := ak 4 (by omega) (by omega)
  have s1 : (tS S ta 1 - x).toInt = (tS S ta 1).toInt - x.toInt := ti_sub (by omega) (by omega)
  have s2 : (tS S ta 2 - z).toInt = (tS S ta 2).toInt - z.toInt := ti_sub (by omega) (by omega)
  have s3 : (tx - tS S ta 3).toInt = tx.toInt - (tS S ta 3).toInt := ti_sub (by omega) (by omega)
  have s4 : (tz - tS S ta 4).toInt = tz.toInt - (tS S ta 4).toInt := ti_sub (by omega) (by omega)
  refine e_X3_gapTo hd ⟨k9, kP, ?_⟩
  rw [p1, p2, p3, p4, r1, r2, r3, r4]
  have : mnI (mnI (tS S ta 1 - x) (tS S ta 2 - z)) (mnI (tx - tS S ta 3) (tz - tS S ta 4)) = iI (gapA (tS S) x z tx tz ta) := by
    refine iI_of ?_
    rw [ti_mn, ti_mn, ti_mn, s1, s2, s3, s4]
    rfl
  rw [this]
  exact hQ
theorem thV (V : VwC G h b s S n) {tc : Nat} (ht : tc < 31) {P : Nat → Prop} (hP : P (s + 5 + tc)) : vp_in (nI tc) (hN h (s + 3)) ∧ ∃ q2, hR h (s + 3) (nI tc).toNatClampNeg = some q2 ∧ P q2 := by
  have k := th_in (P := P) V.2.2.2.2.1 (x := nI tc) (t := tc) (ti_nI (by omega)) ht hP
  exact ⟨k.1, k.2.choose, k.2.choose_spec.1, k.2.choose_spec.2.2⟩
theorem s_fits (hd : 2 ≤ d) (V : VwC G h b s S n) (kP : Kd G h P 3) (hP : P < s ∧ P < b + 35 ∧ b + 20 < P) {f : Nat} {x z tx tz : Int32} {tc ta : Nat} {ob : Option Nat} (L : PlI h P f x z tx tz tc ob) (e : ix n tc ta) (w : tS S ta 0 = 1) (wb : ∀ c, ob = some c → c < 30 ∧ tS S c 0 = 1) (hob : ob ≠ none → tc < 30)
    (hQ : ∀ h2 v, FrS (fun a k => a = P ∧ k = 8) nop h h2 → (v = 0 ∨ v = 1) → (v = 1 ↔ fitP S x z tx tz ta ob) → (v = 1 → hI h2 P 8 = iI (gap2 (tS S) x z tx tz ta ob)) → Q (some (.int v)) h2) : Cal G d mX11_fits [.ref b, .ref P] h Q := by
  have F0 := frS_rf (fun a k => a = P ∧ k = 8) nop h
  have no : ∀ {h2 : HP}, FrS (fun a k => a = P ∧ k = 8) nop h h2 → ¬ fitP S x z tx tz ta ob → Q (some (.int 0)) h2 := fun F c => hQ _ 0 F (Or.inl rfl) ⟨fun q => absurd q (by decide), fun q => absurd q c⟩ (fun q => absurd q (by decide))
  have V' := V
  obtain ⟨v1, v2, v3, v4, v5, C, W, v8⟩ := V'
  obtain ⟨l1, l2⟩ := ix_lt e C.2.2.2.2.2.1
  have L' := L
  obtain ⟨⟨p1, p2, p3, p4⟩, p5, p6, p0⟩ := L'
  have dd := W.1
  unfold rng at dd
  have z0 : (0 : Int32).toInt = 0 := rfl
  refine e_X11_fits (by omega) ⟨v1, s, v2, v5.1, s_holds kP v5.1 (fun c => ⟨_, rfl, fun _ => no F0 (fun q => c ?_), fun q => absurd rfl q⟩) (fun hl => ⟨_, rfl, fun q => absurd q (by decide), fun _ => ⟨s, v2, kP, v5.1, ?_⟩⟩)⟩
  · rw [C.1 0 (by omega), C.1 1 (by omega), p1, p2, p3, p4]
    exact q.1
  rw [C.1 0 (by omega), C.1 1 (by omega), p1, p2, p3, p4] at hl
  have hl' := hl
  unfold hldP at hl'
  have lx : inL x := by unfold inL; omega
  have lz : inL z := by unfold inL; omega
  have ltx : inL tx := by unfold inL; omega
  have ltz : inL tz := by unfold inL; omega
  have gb : ∀ t, t < 54 → tS S t 0 = 1 → -100 ≤ gapA (tS S) x z tx tz t ∧ gapA (tS S) x z tx tz t ≤ 100 := fun t ht wt => by
    have g := W.geoL ht wt
    have g1 := g 1 (by omega) (by omega)
    have g2 := g 2 (by omega) (by omega)
    have g3 := g 3 (by omega) (by omega)
    have g4 := g 4 (by omega) (by omega)
    unfold inL at *
    unfold gapA
    omega
  rw [p5]
  refine s_outm V e w (fun c => ⟨_, rfl, fun q => absurd rfl q, fun _ => no F0 (fun q => c q.2.1)⟩) (fun o1 => ⟨_, rfl, fun _ => ⟨s, v2, v5.1, s + 3, v5.2.1.2.2.1, v5.2.2.2.2.1.1, ?_⟩, fun q => absurd q (by decide)⟩)
  rw [p5]
  refine thV V l1 (s_gapTo (by omega) V kP L lx lz ltx ltz e w ⟨_, rfl, ?_⟩)
  have ga := gb ta l2 w
  generalize g : sI h P 8 (iI (gapA (tS S) x z tx tz ta)) = h1
  have F1 : FrS (fun a k => a = P ∧ k = 8) nop h h1 := by rw [← g]; exact frS_sI _ _ ⟨rfl, rfl⟩
  have e8 : hI h1 P 8 = iI (gapA (tS S) x z tx tz ta) := by rw [← g, hI_eq]
  have e6 : hI h1 P 6 = onI ob := (F1.i (by omega)).trans p6
  have e5 : hI h1 P 5 = nI tc := (F1.i (by omega)).trans p5
  have V1 := V.fs F1 (fun a k q => by omega)
  have L1 : PlI h1 P f x z tx tz tc ob := ⟨⟨(F1.i (by omega)).trans p1, (F1.i (by omega)).trans p2, (F1.i (by omega)).trans p3, (F1.i (by omega)).trans p4⟩, e5, e6, (F1.i (by omega)).trans p0⟩
  rw [e6, e5, e8]
  have lt0 : ∀ gz : Int, -100 ≤ gz → gz ≤ 100 → (iI gz < 0 ↔ gz < 0) := fun gz h1 h2 => by
    rw [ti_lt, ti_iI (by omega) (by omega), z0]
  cases ob with
  | none =>
    refine ⟨fun _ => ?_, fun q => absurd rfl q⟩
    rw [lt0 _ ga.1 ga.2]
    refine ⟨fun c => no F1 (fun q => ?_), fun c => hQ h1 1 F1 (Or.inr rfl) ⟨fun _ => ⟨hl, o1, fun b q => (by cases q), by omega, fun b q => (by cases q)⟩, fun _ => rfl⟩ (fun _ => e8)⟩
    have := q.2.2.2.1
    omega
  | some c =>
    obtain ⟨c30, wc⟩ := wb c rfl
    have t30 := hob (by simp)
    have ta_ : ta = tc := by
      unfold ix at e
      omega
    refine ⟨fun q => absurd q (nI_ne_neg (by omega)), fun _ => ⟨fun q => no F1 (fun z => ?_), fun ne => ⟨s, V1.2.1, V1.2.2.2.2.1.1, s_outm V1 (Or.inl ⟨c30, rfl⟩) wc (fun c' => ⟨_, rfl, fun q => absurd rfl q, fun _ => no F1 (fun q => c' (q.2.2.1 c rfl).2)⟩) (fun o2 => ⟨_, rfl, fun _ => ⟨s, V1.2.1, V1.2.2.2.2.1.1, s + 3, V1.2.2.2.2.1.2.1.2.2.1, V1.2.2.2.2.1.2.2.2.2.1.1, ?_⟩, fun q => absurd q (by decide)⟩)⟩⟩⟩
    · have := (nI_eq_iff (a := c) (b := tc) (by omega) (by omega)).mp q
      exact (z.2.2.1 c rfl).1 (by rw [ta_]; exact this)
    rw [e6, e8]
    refine thV V1 (tc := c) (by omega) (s_gapTo (by omega) V1 (F1.kd kP) L1 lx lz ltx ltz (Or.inl ⟨c30, rfl⟩) wc ⟨_, rfl, ?_⟩)
    have gc := gb c (by omega) wc
    have mn : mnI (iI (gapA (tS S) x z tx tz ta)) (iI (gapA (tS S) x z tx tz c)) = iI (gap2 (tS S) x z tx tz ta (some c)) := by
      refine iI_of ?_
      rw [ti_mn, ti_iI (by omega) (by omega), ti_iI (by omega) (by omega)]
      rfl
    rw [mn, hI_eq]
    have F2 : FrS (fun a k => a = P ∧ k = 8) nop h1 (sI h1 P 8 (iI (gap2 (tS S) x z tx tz ta (some c)))) := frS_sI _ _ ⟨rfl, rfl⟩
    have nec : c ≠ ta := fun q => ne (by rw [q, ta_]; rfl)
    rw [lt0 _ (by simp only [gap2]; omega) (by simp only [gap2]; omega)]
    refine ⟨fun c' => no (F1.tr F2) (fun q => ?_), fun c' => hQ _ 1 (F1.tr F2) (Or.inr rfl) ⟨fun _ => ⟨hl, o1, fun b q => ?_, ?_, fun b q => ?_⟩, fun _ => rfl⟩ (fun _ => hI_eq _ _ _ _)⟩
    · have q1 := q.2.2.2.1
      have q2 := q.2.2.2.2 c rfl
      simp only [gap2] at c'
      omega
    · obtain rfl : c = b := Option.some.inj q
      exact ⟨nec, o2⟩
    · simp only [gap2] at c'
      omega
    · obtain rfl : c = b := Option.some.inj q
      simp only [gap2] at c'
      omega
end VC
