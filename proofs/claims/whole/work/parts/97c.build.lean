/-! ===== building: both sides ===== -/
def bldS (S : Nat → Int32) (w : Nat) (x z tx tz f : Int32) (a : Nat) (ob : Option Nat) (j : Nat) : Int32 := if 1608 ≤ j ∧ j < 2256 then buildA (tS S) w x z tx tz f a ob ((j - 1608) / 12) ((j - 1608) % 12) else S j
theorem tS_bld {S : Nat → Int32} {w : Nat} {x z tx tz f : Int32} {a : Nat} {ob : Option Nat} : BlE (tS S) (tS (bldS S w x z tx tz f a ob)) w x z tx tz f a ob := fun u k hu hk => by
  have e1 : (1608 + 12 * u + k - 1608) / 12 = u := by omega
  have e2 : (1608 + 12 * u + k - 1608) % 12 = k := by omega
  show bldS S w x z tx tz f a ob (1608 + 12 * u + k) = _
  unfold bldS
  rw [if_pos (by omega), e1, e2]
theorem bld_off {S : Nat → Int32} {w : Nat} {x z tx tz f : Int32} {a : Nat} {ob : Option Nat} {j : Nat} (h : ¬ (1608 ≤ j ∧ j < 2256)) : bldS S w x z tx tz f a ob j = S j := by
  unfold bldS
  rw [if_neg h]
theorem S_ext {S S' : Nat → Int32} (e1 : ∀ j, ¬ (1608 ≤ j ∧ j < 2256) → S j = S' j) (e2 : ∀ u k, u < 54 → k < 12 → tS S u k = tS S' u k) : S = S' := funext fun j => by
  by_cases h : 1608 ≤ j ∧ j < 2256
  · have := e2 ((j - 1608) / 12) ((j - 1608) % 12) (by omega) (by omega)
    unfold tS at this
    rw [show 1608 + 12 * ((j - 1608) / 12) + (j - 1608) % 12 = j by omega] at this
    exact this
  · exact e1 j h
theorem farF_pos (w : Nat → Int64) : ∀ D : List Cla, 1 ≤ (farF w D).toInt
  | [] => by
    show 1 ≤ ((1 : Int64)).toInt
    decide
  | q :: r => by
    simp only [farF]
    split
    · unfold claV
      split
      · decide
      · split
        · decide
        · omega
    · exact farF_pos w r
theorem canV_gap {S : Nat → Int32} {C : List Cla} {jn : Prop} {f : Nat} {x z tx tz : Int32} {a : Nat} {ob : Option Nat} (h : canV S C jn f x z tx tz a ob) : 1 ≤ gapA (tS S) x z tx tz a ∧ ∀ b, ob = some b → 1 ≤ gapA (tS S) x z tx tz b := by
  have g := h.2.2.2.2.1
  have p := farF_pos (wdF S f x z tx tz a ob) C
  cases ob with
  | none =>
    simp only [gap2] at g
    exact ⟨by omega, fun b q => by cases q⟩
  | some b =>
    simp only [gap2] at g
    refine ⟨by omega, fun c q => ?_⟩
    obtain rfl := Option.some.inj q
    omega
theorem canV_blh {S : Nat → Int32} {C : List Cla} {jn : Prop} {f : Nat} {x z tx tz : Int32} {a : Nat} {ob : Option Nat} (h : canV S C jn f x z tx tz a ob) {w : Nat} (h6 : 6 ≤ w) (hw : w < 54) (w0 : tS S w 0 = 0) (ha : a < 54) (wa : tS S a 0 = 1) (wb : thereO S ob) : BlH (tS S) w a ob := ⟨⟨h6, hw, w0⟩, ⟨ha, wa, h.1.2.1⟩, fun b q => ⟨(wb b q).1, (h.1.2.2.1 b q).1, (wb b q).2, (h.1.2.2.1 b q).2⟩⟩
theorem WF.bld {S : Nat → Int32} {C : List Cla} {jn : Prop} {f : Nat} {x z tx tz : Int32} {a : Nat} {ob : Option Nat} {w : Nat} (W : WF S) (h : canV S C jn f x z tx tz a ob) (hf : f < 12) (h6 : 6 ≤ w) (hw : w < 30) (w0 : tS S w 0 = 0) (ha : a < 30) (wa : tS S a 0 = 1) (wb : ∀ c, ob = some c → c < 30 ∧ tS S c 0 = 1) : WF (bldS S w x z tx tz (nI f) a ob) := by
  have H := canV_blh h h6 (by omega) w0 (by omega) wa (fun c q => ⟨by have := (wb c q).1; omega, (wb c q).2⟩)
  have E := tS_bld (S := S) (w := w) (x := x) (z := z) (tx := tx) (tz := tz) (f := nI f) (a := a) (ob := ob)
  have g := canV_gap h
  have off : ∀ j, ¬ (1608 ≤ j ∧ j < 2256) → bldS S w x z tx tz (nI f) a ob j = S j := fun j q => bld_off q
  generalize bldS S w x z tx tz (nI f) a ob = S' at *
  refine W.thg off (fun t ht => E.k (by omega) (by omega) (by omega) (by omega)) (fun t ht q => ?_) ?_ (fun t ht => ?_) (fun t h1 h2 => ?_) ?_
  · by_cases tw : t = w
    · subst tw
      have w5 : tS S' t 5 = nI f := E.at_ H (by omega)
      have w7 : tS S' t 7 = -1 := E.at_ H (by omega)
      have w8 : tS S' t 8 = -1 := E.at_ H (by omega)
      have w9 : tS S' t 9 = -1 := E.at_ H (by omega)
      have w10 : tS S' t 10 = 0 := E.at_ H (by omega)
      refine ⟨fun q => by omega, fun _ => ?_, ?_, Or.inl ⟨w7, w8, w9⟩⟩
      · rw [w5]
        unfold rng
        rw [ti_nI (by omega)]
        omega
      · rw [w10]
        exact ⟨by decide, by decide⟩
    · have k : ∀ k, k < 12 → k ≠ 6 → tS S' t k = tS S t k := fun k hk h6 => E.k (by omega) hk tw h6
      rw [k 0 (by omega) (by omega)] at q
      obtain ⟨a1, a2, a3⟩ := W.1.2.2.2.2.2.1 t ht q
      rw [k 5 (by omega) (by omega), k 7 (by omega) (by omega)]
      refine ⟨a1, a2, ?_⟩
      unfold gat at a3 ⊢
      rw [k 10 (by omega) (by omega), k 7 (by omega) (by omega), k 8 (by omega) (by omega), k 9 (by omega) (by omega), k 1 (by omega) (by omega), k 2 (by omega) (by omega), k 3 (by omega) (by omega), k 4 (by omega) (by omega)]
      exact a3
  · intro _
    rw [off 2 (by omega)]
    exact W.2.1 ⟨a, ha, wa⟩
  · by_cases tw : t = w
    · subst tw
      exact Or.inr (E.at_ H (by omega))
    · rw [E.k ht (by omega) tw (by omega)]
      exact W.2.2.1 t ht
  · rw [E.k h2 (by omega) (by omega) (by omega)]
    exact W.2.2.2.1 t h1 h2
  · rw [off 0 (by omega), off 1 (by omega)]
    exact bl_wft (by omega) W.2.2.2.2 H hw ha (fun b q => (wb b q).1) E h.1.1 g.1 g.2 (fun t ht t0 t6 n1 n2 => h.2.2.1 t (by omega) t0 t6 n1 n2)
def rRow (x z tx tz f dp : Int32) : Nat → Int32
  | 0 => 1
  | 1 => x
  | 2 => z
  | 3 => tx
  | 4 => tz
  | 5 => f
  | 6 => -1
  | 7 => dp
  | 8 => -1
  | _ => 0
def drT (h : HP) (s t : Nat) : Int32 := if 6 ≤ t then 1 + tg h s t 7 else 0
def drTO (h : HP) (s : Nat) : Option Nat → Int32
  | none => 0
  | some t => drT h s t
section RA
variable {G : GG} {d : Nat} {h : HP} {s y P : Nat} {Q : Option Value → HP → Prop}
theorem s_drT (S : StSh G h s) {t : Nat} (ht : t < 31) (hQ : Q (some (.int (drT h s t))) h) : Cal G d mX6_deepRound [.ref s, .int (nI t)] h Q := by
  refine s_deepRound S (fun c => ?_) (by rw [ti_nI (by omega)]; omega) (fun u eu h6 hu => ?_)
  · rw [ti_nI (by omega)] at c
    unfold drT at hQ
    rw [if_neg (by omega)] at hQ
    exact hQ
  · obtain rfl : t = u := (nI_eq_iff (by omega) (by omega)).mp eu
    unfold drT at hQ
    rw [if_pos h6] at hQ
    exact hQ
theorem s_drTO (S : StSh G h s) {ob : Option Nat} (ht : ∀ t, ob = some t → t < 31) (hQ : Q (some (.int (drTO h s ob))) h) : Cal G d mX6_deepRound [.ref s, .int (onI ob)] h Q := by
  cases ob with
  | none => exact s_deepRound S (fun _ => hQ) (by decide) (fun u eu h6 hu => absurd eu.symm (nI_ne_neg (by omega)))
  | some t => exact s_drT S (ht t rfl) hQ
theorem s_raise (hd : 1 ≤ d) (S : StSh G h s) (kP : Kd G h P 3) (hP : P < s) {x z tx tz : Int32} {f : Int32} {w tc : Nat} {ob : Option Nat} (L : (hI h P 1 = x ∧ hI h P 2 = z ∧ hI h P 3 = tx ∧ hI h P 4 = tz) ∧ hI h P 5 = nI tc ∧ hI h P 6 = onI ob ∧ hI h P 0 = f) (hw : w < 31) (ht : tc < 31) (hb : ∀ t, ob = some t → t < 31) (hQ : ∀ h2, FrI (fun a k => s + 5 ≤ a ∧ a ≤ s + 35) h h2 → (∀ u k, u < 31 → tg h2 s u k = if k = 6 ∧ (u = tc ∨ ob = some u) then nI w else if u = w ∧ k ≤ 11 then rRow x z tx tz f (drT h s tc + drTO h s ob) k else tg h s u k) → Q none h2) : Cal G d mX6_raise [.ref s, .int (nI w), .ref P] h Q := by
  obtain ⟨⟨p1, p2, p3, p4⟩, p5, p6, p0⟩ := L
  have S' := S
  obtain ⟨a1, ⟨b1, b2, b3, b4⟩, ⟨c1, c2⟩, ⟨d1, d2⟩, ⟨e1, e2⟩, ⟨g1, g2⟩, k1, k2⟩ := S
  refine e_X6_raise hd ⟨kP, a1, ?_⟩
  rw [p5]
  refine s_drT S' ht ⟨_, rfl, ?_⟩
  rw [p6]
  refine s_drTO S' hb ⟨_, rfl, s + 3, b3, e1, by rw [e2]; exact vin_nI (by omega) (by omega), s + 5 + w, by rw [cl_nI (by omega)]; exact (k1 w hw).1, (k1 w hw).2, ?_⟩
  rw [p1, p2, p3, p4, p0]
  refine e_X9_rise ⟨(k1 w hw).2, fun h2 e2' => ⟨rfl, ?_⟩⟩
  generalize hD : drT h s tc + drTO h s ob = D at *
  have FF : ∃ h3, FrI (fun a k => s + 5 ≤ a ∧ a ≤ s + 35) h h3 ∧ (∀ u k, u < 31 → tg h3 s u k = if u = w ∧ k ≤ 11 then rRow x z tx tz f D k else tg h s u k) ∧ sI (sI (sI (sI (sI (sI h2 (s + 5 + w) 7 0) (s + 5 + w) 8 (-1)) (s + 5 + w) 9 0) (s + 5 + w) 10 0) (s + 5 + w) 11 0) (s + 5 + w) 7 D = h3 := by
    refine ⟨_, ?_, ?_, rfl⟩
    · rw [e2']
      have st : ∀ (g : HP) (k : Nat) (v : Int32), FrI (fun a k => s + 5 ≤ a ∧ a ≤ s + 35) g (sI g (s + 5 + w) k v) := fun g k v => FrI.sI _ _ ⟨by omega, by omega⟩
      exact ((((((((((((st _ _ _).tr (st _ _ _)).tr (st _ _ _)).tr (st _ _ _)).tr (st _ _ _)).tr (st _ _ _)).tr (st _ _ _)).tr (st _ _ _)).tr (st _ _ _)).tr (st _ _ _)).tr (st _ _ _)).tr (st _ _ _)).tr (st _ _ _)
    · intro u k hu
      rw [e2']
      simp only [tg_set]
      by_cases c : u = w
      · subst c
        by_cases k12 : k ≤ 11
        · have : k = 0 ∨ k = 1 ∨ k = 2 ∨ k = 3 ∨ k = 4 ∨ k = 5 ∨ k = 6 ∨ k = 7 ∨ k = 8 ∨ k = 9 ∨ k = 10 ∨ k = 11 := by omega
          rcases this with rfl | rfl | rfl | rfl | rfl | rfl | rfl | rfl | rfl | rfl | rfl | rfl <;> simp [rRow]
        · simp [k12, show k ≠ 0 by omega, show k ≠ 1 by omega, show k ≠ 2 by omega, show k ≠ 3 by omega, show k ≠ 4 by omega, show k ≠ 5 by omega, show k ≠ 6 by omega, show k ≠ 7 by omega, show k ≠ 8 by omega, show k ≠ 9 by omega, show k ≠ 10 by omega, show k ≠ 11 by omega]
      · simp [c]
  obtain ⟨h3, F3, v3, e3⟩ := FF
  rw [e3]
  have g5 : hI h3 P 5 = nI tc := (F3.i (by omega)).trans p5
  have g6 : ∀ v, hI (sI h3 (s + 5 + tc) 6 v) P 6 = onI ob := fun v => by
    rw [hI_ne _ _ (Or.inl (by omega))]
    exact (F3.i (by omega)).trans p6
  refine ⟨s + 3, (F3.r _ _).trans b3, F3.kd e1, ?_⟩
  rw [g5]
  refine ⟨by rw [F3.n e1, e2]; exact vin_nI (by omega) (by omega), s + 5 + tc, by rw [cl_nI (by omega), F3.r]; exact (k1 tc ht).1, F3.kd (k1 tc ht).2, ?_⟩
  rw [g6]
  have F4 : FrI (fun a k => s + 5 ≤ a ∧ a ≤ s + 35) h (sI h3 (s + 5 + tc) 6 (nI w)) := F3.tr (FrI.sI _ _ ⟨by omega, by omega⟩)
  refine ⟨fun z => ?_, fun z => ?_⟩
  · have on : ob = none := (onI_neg (fun t q => by have := hb t q; omega)).mp z
    subst on
    refine hQ _ F4 (fun u k hu => ?_)
    rw [tg_set, v3 u k hu]
    by_cases c : u = tc ∧ k = 6
    · rw [if_pos c, if_pos ⟨c.2, Or.inl c.1⟩]
    · rw [if_neg c, if_neg (c := k = 6 ∧ (u = tc ∨ none = some u)) (fun q => by
        rcases q.2 with q2 | q2
        · exact c ⟨q2, q.1⟩
        · cases q2)]
  · cases ob with
    | none => exact absurd rfl z
    | some t =>
      have htb := hb t rfl
      refine ⟨by show vp_in (nI t) _; rw [F4.n e1, e2]; exact vin_nI (by omega) (by omega), s + 5 + t, by show hR _ (s + 3) (nI t).toNatClampNeg = _; rw [cl_nI (by omega), F4.r]; exact (k1 t htb).1, F4.kd (k1 t htb).2, hQ _ (F4.tr (FrI.sI _ _ ⟨by omega, by omega⟩)) (fun u k hu => ?_)⟩
      rw [tg_set, tg_set, v3 u k hu]
      by_cases c2 : u = t ∧ k = 6
      · rw [if_pos c2, if_pos ⟨c2.2, Or.inr (by rw [c2.1])⟩]
      · rw [if_neg c2]
        by_cases c : u = tc ∧ k = 6
        · rw [if_pos c, if_pos ⟨c.2, Or.inl c.1⟩]
        · rw [if_neg c, if_neg (c := k = 6 ∧ (u = tc ∨ some t = some u)) (fun q => by
            rcases q.2 with q2 | q2
            · exact c ⟨q2, q.1⟩
            · exact c2 ⟨(Option.some.inj q2).symm, q.1⟩)]
theorem r_comes (hd : 1 ≤ d) (M : MdSh G h y) {w : Nat} (hw : w < 54) {x z tx tz f : Int32} (hQ : ∀ h2, FrI (fun a k => a = y + 13 ∧ 1608 ≤ k ∧ k < 2256) h h2 → (∀ u k, u < 54 → k < 12 → tS (said h2 y) u k = if u = w then bRow x z tx tz f (tS (said h y) w k) k else tS (said h y) u k) → Q none h2) : Cal G d mX12_comes [.ref y, .int (nI w), .int x, .int z, .int tx, .int tz, .int f] h Q := by
  obtain ⟨m1, m2, m3⟩ := M.sd
  have e : 1608 + 12 * nI w = nI (1608 + 12 * w) := by
    show nI 1608 + nI 12 * nI w = _
    rw [nM, nA]
  have ek : ∀ k, nI (1608 + 12 * w) + nI k = nI (1608 + 12 * w + k) := fun k => by rw [nA]
  have st : ∀ (g : HP) (k : Nat) (v : Int32), k < 12 → FrI (fun a k => a = y + 13 ∧ 1608 ≤ k ∧ k < 2256) g (sI g (y + 13) (1608 + 12 * w + k) v) := fun g k v hk => FrI.sI _ _ ⟨rfl, by omega, by omega⟩
  have iv : ∀ k, k < 12 → vp_in (nI (1608 + 12 * w + k)) 2440 := fun k hk => vin_nI (by omega) (by omega)
  have cl : ∀ k, k < 12 → (nI (1608 + 12 * w + k)).toNatClampNeg = 1608 + 12 * w + k := fun k hk => cl_nI (by omega)
  refine e_X12_comes hd (e_X12_placeOf ⟨_, rfl, M.1, y + 13, m1, m2, ?_⟩)
  rw [e]
  have k1 : nI (1608 + 12 * w) + 1 = nI (1608 + 12 * w + 1) := ek 1
  have k2 : nI (1608 + 12 * w) + 2 = nI (1608 + 12 * w + 2) := ek 2
  have k3 : nI (1608 + 12 * w) + 3 = nI (1608 + 12 * w + 3) := ek 3
  have k4 : nI (1608 + 12 * w) + 4 = nI (1608 + 12 * w + 4) := ek 4
  have k5 : nI (1608 + 12 * w) + 5 = nI (1608 + 12 * w + 5) := ek 5
  have k6 : nI (1608 + 12 * w) + 6 = nI (1608 + 12 * w + 6) := ek 6
  have k7 : nI (1608 + 12 * w) + 7 = nI (1608 + 12 * w + 7) := ek 7
  have k8 : nI (1608 + 12 * w) + 8 = nI (1608 + 12 * w + 8) := ek 8
  have k9 : nI (1608 + 12 * w) + 9 = nI (1608 + 12 * w + 9) := ek 9
  have k10 : nI (1608 + 12 * w) + 10 = nI (1608 + 12 * w + 10) := ek 10
  rw [k1, k2, k3, k4, k5, k6, k7, k8, k9, k10, cl 1 (by omega), cl 2 (by omega), cl 3 (by omega), cl 4 (by omega), cl 5 (by omega), cl 6 (by omega), cl 7 (by omega), cl 8 (by omega), cl 9 (by omega), cl 10 (by omega), show (nI (1608 + 12 * w)).toNatClampNeg = 1608 + 12 * w + 0 from cl_nI (by omega)]
  have N : ∀ {g : HP}, FrI (fun a k => a = y + 13 ∧ 1608 ≤ k ∧ k < 2256) h g → hN g (y + 13) = 2440 := fun F => (F.n m2).trans m3
  refine ⟨by rw [m3]; exact iv 0 (by omega), by rw [N (st _ 0 _ (by omega))]; exact iv 1 (by omega), by rw [N ((st _ 0 _ (by omega)).tr (st _ 1 _ (by omega)))]; exact iv 2 (by omega), fun h12 e12 => ?_⟩
  have F12 : FrI (fun a k => a = y + 13 ∧ 1608 ≤ k ∧ k < 2256) h h12 := by
    rw [e12]
    exact ((st _ 0 _ (by omega)).tr (st _ 1 _ (by omega))).tr (st _ 2 _ (by omega))
  refine ⟨by rw [N F12]; exact iv 3 (by omega), by rw [N (F12.tr (st _ 3 _ (by omega)))]; exact iv 4 (by omega), by rw [N ((F12.tr (st _ 3 _ (by omega))).tr (st _ 4 _ (by omega)))]; exact iv 5 (by omega), fun h18 e18 => ?_⟩
  have F18 : FrI (fun a k => a = y + 13 ∧ 1608 ≤ k ∧ k < 2256) h h18 := by
    rw [e18]
    exact ((F12.tr (st _ 3 _ (by omega))).tr (st _ 4 _ (by omega))).tr (st _ 5 _ (by omega))
  refine ⟨by rw [N F18]; exact iv 6 (by omega), by rw [N (F18.tr (st _ 6 _ (by omega)))]; exact iv 7 (by omega), by rw [N ((F18.tr (st _ 6 _ (by omega))).tr (st _ 7 _ (by omega)))]; exact iv 8 (by omega), fun h24 e24 => ?_⟩
  have F24 : FrI (fun a k => a = y + 13 ∧ 1608 ≤ k ∧ k < 2256) h h24 := by
    rw [e24]
    exact ((F18.tr (st _ 6 _ (by omega))).tr (st _ 7 _ (by omega))).tr (st _ 8 _ (by omega))
  refine ⟨by rw [N F24]; exact iv 9 (by omega), by rw [N (F24.tr (st _ 9 _ (by omega)))]; exact iv 10 (by omega), hQ _ ((F24.tr (st _ 9 _ (by omega))).tr (st _ 10 _ (by omega))) (fun u k hu hk => ?_)⟩
  rw [tS_set _ _ _ _ _ _ _ (by omega) hk, tS_set _ _ _ _ _ _ _ (by omega) hk, e24, tS_set _ _ _ _ _ _ _ (by omega) hk, tS_set _ _ _ _ _ _ _ (by omega) hk, tS_set _ _ _ _ _ _ _ (by omega) hk, e18, tS_set _ _ _ _ _ _ _ (by omega) hk, tS_set _ _ _ _ _ _ _ (by omega) hk, tS_set _ _ _ _ _ _ _ (by omega) hk, e12, tS_set _ _ _ _ _ _ _ (by omega) hk, tS_set _ _ _ _ _ _ _ (by omega) hk, tS_set _ _ _ _ _ _ _ (by omega) hk]
  by_cases c : u = w
  · subst c
    have : k = 0 ∨ k = 1 ∨ k = 2 ∨ k = 3 ∨ k = 4 ∨ k = 5 ∨ k = 6 ∨ k = 7 ∨ k = 8 ∨ k = 9 ∨ k = 10 ∨ k = 11 := by omega
    rcases this with rfl | rfl | rfl | rfl | rfl | rfl | rfl | rfl | rfl | rfl | rfl | rfl <;> simp [bRow]
  · simp [c]
theorem r_builds (hd : 2 ≤ d) (M : MdSh G h y) {x z tx tz f : Int32} {w a : Nat} {ob : Option Nat} (T : ThW h y x z tx tz a ob) (hw : w < 54) (ha : a < 54) (hb : ∀ b, ob = some b → b < 54) (na : a ≠ w) (nb : ob ≠ some w) (hQ : ∀ h2, FrI (fun a k => a = y + 13 ∧ 1608 ≤ k ∧ k < 2256) h h2 → said h2 y = bldS (said h y) w x z tx tz f a ob → Q none h2) : Cal G d mX12_builds [.ref y, .int (nI w), .int f] h Q := by
  obtain ⟨⟨t1, t2, t3, t4⟩, t5, t6⟩ := T
  refine e_X12_builds (by omega) ⟨M.1, ?_⟩
  rw [t1, t2, t3, t4]
  refine r_comes (by omega) M hw (fun h2 F2 v2 => ⟨rfl, ?_⟩)
  obtain ⟨m1, m2, m3⟩ := (M.fr F2).sd
  have pl : ∀ t : Nat, 1608 + 12 * nI t + 6 = nI (1608 + 12 * t + 6) := fun t => by
    show nI 1608 + nI 12 * nI t + nI 6 = _
    rw [nM, nA, nA]
  have g5 : hI h2 y 35 = nI a := (F2.i (by omega)).trans t5
  rw [g5]
  refine ⟨y + 13, m1, e_X12_placeOf ⟨_, rfl, m2, ?_⟩⟩
  rw [pl a, cl_nI (by omega)]
  have g6 : hI (sI h2 (y + 13) (1608 + 12 * a + 6) (nI w)) y 36 = onI ob := by
    rw [hI_ne _ _ (Or.inl (by omega))]
    exact (F2.i (by omega)).trans t6
  rw [g6]
  have F3 : FrI (fun a k => a = y + 13 ∧ 1608 ≤ k ∧ k < 2256) h (sI h2 (y + 13) (1608 + 12 * a + 6) (nI w)) := F2.tr (FrI.sI _ _ ⟨rfl, by omega, by omega⟩)
  refine ⟨by rw [m3]; exact vin_nI (by omega) (by omega), fun q => ?_, fun q => ?_⟩
  · have on : ob = none := (onI_neg (fun t q => by have := hb t q; omega)).mp q
    subst on
    refine hQ _ F3 (S_ext (fun j hj => ?_) (fun u k hu hk => ?_))
    · rw [bld_off hj]
      exact F3.i (by omega)
    · rw [tS_set _ _ _ _ _ _ _ (by omega) hk, v2 u k hu hk, tS_bld u k hu hk]
      unfold buildA
      by_cases c : u = a ∧ k = 6
      · rw [if_pos c, if_neg (by omega), if_pos ⟨c.2, Or.inl c.1⟩]
      · rw [if_neg c]
        by_cases c2 : u = w
        · rw [if_pos c2, if_pos c2]
        · rw [if_neg c2, if_neg c2, if_neg (fun q => by
            rcases q.2 with q2 | q2
            · exact c ⟨q2, q.1⟩
            · cases q2)]
  · cases ob with
    | none => exact absurd rfl q
    | some b =>
      have hb' := hb b rfl
      have bw : b ≠ w := fun q => nb (by rw [q])
      obtain ⟨n1, n2, n3⟩ := (M.fr F3).sd
      refine ⟨y + 13, n1, e_X12_placeOf ⟨_, rfl, n2, ?_⟩⟩
      simp only [onI_some]
      rw [pl b, cl_nI (by omega)]
      have F4 : FrI (fun a k => a = y + 13 ∧ 1608 ≤ k ∧ k < 2256) h (sI (sI h2 (y + 13) (1608 + 12 * a + 6) (nI w)) (y + 13) (1608 + 12 * b + 6) (nI w)) := F3.tr (FrI.sI _ _ ⟨rfl, by omega, by omega⟩)
      refine ⟨by rw [n3]; exact vin_nI (by omega) (by omega), hQ _ F4 (S_ext (fun j hj => ?_) (fun u k hu hk => ?_))⟩
      · rw [bld_off hj]
        exact F4.i (by omega)
      · rw [tS_set _ _ _ _ _ _ _ (by omega) hk, tS_set _ _ _ _ _ _ _ (by omega) hk, v2 u k hu hk, tS_bld u k hu hk]
        unfold buildA
        by_cases c3 : u = b ∧ k = 6
        · rw [if_pos c3, if_neg (by omega), if_pos ⟨c3.2, Or.inr (by rw [c3.1])⟩]
        · rw [if_neg c3]
          by_cases c : u = a ∧ k = 6
          · rw [if_pos c, if_neg (by omega), if_pos ⟨c.2, Or.inl c.1⟩]
          · rw [if_neg c]
            by_cases c2 : u = w
            · rw [if_pos c2, if_pos c2]
            · rw [if_neg c2, if_neg c2, if_neg (fun q => by
                rcases q.2 with q2 | q2
                · exact c ⟨q2, q.1⟩
                · exact c3 ⟨(Option.some.inj q2).symm, q.1⟩)]
end RA
