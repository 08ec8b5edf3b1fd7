/-! ===== the class: describe, mayCome ===== -/
section MC
variable {G : GG} {d : Nat} {h : HP} {b s n P : Nat} {S : Nat → Int32} {Q : Option Value → HP → Prop}
def PlW (G : GG) (h : HP) (P : Nat) : Prop := Kd G h P 3 ∧ hR h P 17 = some (P + 1) ∧ Kd G h (P + 1) 15 ∧ hN h (P + 1) = 12
theorem PlW.fs {PI PL : Nat → Nat → Prop} {h h2 : HP} (F : FrS PI PL h h2) (K : PlW G h P) : PlW G h2 P := ⟨F.kd K.1, (F.r _ _).trans K.2.1, F.kd K.2.2.1, (F.n K.2.2.1).trans K.2.2.2⟩
theorem PlI.fs {PL : Nat → Nat → Prop} {PI : Nat → Nat → Prop} {h h2 : HP} {f : Nat} {x z tx tz : Int32} {tc : Nat} {ob : Option Nat} (F : FrS PI PL h h2) (hp : ∀ k, k ≤ 7 → ¬ PI P k) (L : PlI h P f x z tx tz tc ob) : PlI h2 P f x z tx tz tc ob := ⟨⟨(F.i (hp _ (by omega))).trans L.1.1, (F.i (hp _ (by omega))).trans L.1.2.1, (F.i (hp _ (by omega))).trans L.1.2.2.1, (F.i (hp _ (by omega))).trans L.1.2.2.2⟩, (F.i (hp _ (by omega))).trans L.2.1, (F.i (hp _ (by omega))).trans L.2.2.1, (F.i (hp _ (by omega))).trans L.2.2.2⟩
def supN (S : Nat → Int32) (f : Nat) : Nat := cntF (ownB (tS S) (nI f)) 30 24
theorem own_v {C : CoV h s S n} (W : WfR S) (f : Nat) : cntF (ownB (tg h s) (nI f)) 6 24 + supN S f = cntF (ownB (tS S) (nI f)) 6 48 := by
  have e1 : cntF (ownB (tg h s) (nI f)) 6 24 = cntF (ownB (tS S) (nI f)) 6 24 := by
    refine cntF_congr 24 6 (fun t h1 h2 => ?_)
    obtain ⟨c1, c2⟩ := C.2.2.2.1 t (by omega)
    unfold ownB
    rw [c1]
    rcases W.2.2.1 t (by omega) with z | z
    · rw [z]
      have : ((0 : Int32) != 0) = false := by decide
      rw [this, Bool.false_and, Bool.false_and]
    · rw [(c2 z).1 5 (by omega) (by omega)]
  have e2 := cntF_app (ownB (tS S) (nI f)) 24 24 6
  rw [e1]
  exact e2.symm
theorem s_describe (hd : 3 ≤ d) (V : VwC G h b s S n) (K : PlW G h P) (hP : P + 1 < s ∧ P < b + 35 ∧ b + 20 < P) {f x0 z0 x1 z1 tc ta : Nat} {ob : Option Nat} (L : PlI h P f (nI x0) (nI z0) (nI x1) (nI z1) tc ob) (sup : hI h P 7 = nI (supN S f)) (hf : f < 12) (e : ix n tc ta) (w : tS S ta 0 = 1) (wb : ∀ c, ob = some c → c < 30 ∧ tS S c 0 = 1) (hx0 : x0 < x1) (hz0 : z0 < z1) (hc : (x1 : Int) ≤ (S 0).toInt) (hr : (z1 : Int) ≤ (S 1).toInt) (fit : fitP S (nI x0) (nI z0) (nI x1) (nI z1) ta ob)
    (hQ : ∀ h2, FrS nop (fun x _ => x = P + 1) h h2 → (∀ k, k < 12 → hL h2 (P + 1) k = jI (wI S f x0 z0 x1 z1 ta ob k)) → Q none h2) : Cal G d mX11_describe [.ref b, .ref P] h Q := by
  have C := V.2.2.2.2.2.1
  have W := V.2.2.2.2.2.2.1
  have dd := W.1
  unfold rng at dd
  have l := ix_lt e C.2.2.2.2.2.1
  have wb' : thereO S ob := fun c q => ⟨by have := (wb c q).1; omega, (wb c q).2⟩
  have ob_box : ∀ m, box (outG S ta ob m) x0 z0 x1 z1 = box (f4 S m) x0 z0 x1 z1 - bxT (f4 S m) (tS S) ta - optI (bxT (f4 S m) (tS S)) ob := fun m => out_box W l.2 w wb' fit hx0 (by omega) hz0 (by omega) m
  have j64 : ∀ m, (iI (box (outG S ta ob m) x0 z0 x1 z1)).toInt64 = jI (box (outG S ta ob m) x0 z0 x1 z1) := fun m => by
    have := outG_rng W ta ob m x0 z0 x1 z1
    rw [jI_32, ti_iI (by omega) (by omega)]
  have N : ∀ {h1 : HP}, FrS nop (fun x _ => x = P + 1) h h1 → VwC G h1 b s S n ∧ PlW G h1 P ∧ PlI h1 P f (nI x0) (nI z0) (nI x1) (nI z1) tc ob ∧ hI h1 P 7 = nI (supN S f) := fun F => ⟨V.fs F (fun _ _ q => q.elim), K.fs F, L.fs F (fun _ _ q => q), (F.i (fun z => z)).trans sup⟩
  have vw : ∀ {h1 : HP} (k : Nat), PlW G h1 P → k < 12 → vp_in (nI k) (hN h1 (P + 1)) := fun k K hk => by rw [K.2.2.2]; exact vin_nI hk (by omega)
  have deep_r : ∀ t, 0 ≤ deepI S t ∧ deepI S t ≤ 49 := fun t => by
    have := deepN_le (tS S) 31 (nI t)
    unfold deepI
    split <;> omega
  have like_r : ∀ t, t < 54 → tS S t 0 = 1 → -9 ≤ likeI S f t ∧ likeI S f t ≤ 9 := fun t ht wt => by
    unfold likeI
    split
    · omega
    · rename_i c
      have t6 : ¬ t < 6 := fun q => c (Or.inl q)
      have ro := W.2.2.2.2.1 t (by omega) ht wt
      unfold rng at ro
      have := W.2.2.2.2.2.1 (12 * f + (tS S t 5).toInt.toNat) (by omega)
      unfold rng at this
      rw [show 2256 + (12 * f + (tS S t 5).toInt.toNat) = 2256 + 12 * f + (tS S t 5).toInt.toNat by omega] at this
      exact this
  -- behind the ground
  have tail : ∀ (h4 : HP) (o3 : Option Nat), o3 = ob.map (fun c => s + 5 + c) → FrS nop (fun x _ => x = P + 1) h h4 → (∀ k, k < 3 → hL h4 (P + 1) k = jI (wI S f x0 z0 x1 z1 ta ob k)) → ∀ sx2 sx3 : Int32, sx2 - sx3 = iI (box (outG S ta ob 0) x0 z0 x1 z1) → Ex G d mX11_describe 107 [(0, .ref b), (1, .ref P), (2, .ref (s + 5 + tc)), (3, va_rf o3)] [.int sx3, .int sx2, .int 3, .ref (P + 1)] h4 Q := by
    intro h4 o3 eo F4 V4 sx2 sx3 e3
    obtain ⟨v4, k4, l4, -⟩ := N F4
    refine t_X11_describe_107 (by omega) ⟨k4.2.2.1, vw 3 k4 (by omega), ?_⟩
    rw [e3, show (3 : Int32).toNatClampNeg = 3 from rfl, j64 0]
    generalize g5 : sL h4 (P + 1) 3 (jI (box (outG S ta ob 0) x0 z0 x1 z1)) = h5
    have F5 : FrS nop (fun x _ => x = P + 1) h h5 := F4.tr (by rw [← g5]; exact frS_sL _ _ rfl)
    have L5 : ∀ k, hL h5 (P + 1) k = if k = 3 then jI (box (outG S ta ob 0) x0 z0 x1 z1) else hL h4 (P + 1) k := fun k => by
      rw [← g5, hL_sL]
      by_cases c : k = 3
      · rw [if_pos ⟨rfl, c⟩, if_pos c]
      · rw [if_neg (fun z => c z.2), if_neg c]
    obtain ⟨v5, k5, l5, -⟩ := N F5
    refine ⟨k5.1, P + 1, k5.2.1, v5.1, b + 15, v5.2.2.1, v5.2.2.2.1.1, b + 16, v5.2.2.2.1.2.1.1, ?_⟩
    rw [eo]
    refine s_onGround (by omega) v5 k5.1 l5 e w wb hx0 hz0 hc hr ⟨by omega, by omega⟩ v5.2.2.2.2.2.2.2.w ⟨_, rfl, k5.2.2.1, vw 4 k5 (by omega), ?_⟩
    rw [show box (wrt S) x0 z0 x1 z1 - bxT (wrt S) (tS S) ta - optI (bxT (wrt S) (tS S)) ob = box (outG S ta ob 1) x0 z0 x1 z1 from (ob_box 1).symm, j64 1]
    generalize g6 : sL h5 (P + 1) 4 (jI (box (outG S ta ob 1) x0 z0 x1 z1)) = h6
    have F6 : FrS nop (fun x _ => x = P + 1) h h6 := F5.tr (by rw [← g6]; exact frS_sL _ _ rfl)
    have L6 : ∀ k, hL h6 (P + 1) k = if k = 4 then jI (box (outG S ta ob 1) x0 z0 x1 z1) else hL h5 (P + 1) k := fun k => by
      rw [← g6, hL_sL]
      by_cases c : k = 4
      · rw [if_pos ⟨rfl, c⟩, if_pos c]
      · rw [if_neg (fun z => c z.2), if_neg c]
    obtain ⟨v6, k6, l6, -⟩ := N F6
    refine ⟨P + 1, k6.2.1, b + 15, v6.2.2.1, v6.2.2.2.1.1, b + 17, v6.2.2.2.1.2.1.2.1, ?_⟩
    refine s_onGround (by omega) v6 k6.1 l6 e w wb hx0 hz0 hc hr ⟨by omega, by omega⟩ v6.2.2.2.2.2.2.2.l ⟨_, rfl, k6.2.2.1, vw 5 k6 (by omega), ?_⟩
    rw [show box (wel S) x0 z0 x1 z1 - bxT (wel S) (tS S) ta - optI (bxT (wel S) (tS S)) ob = box (outG S ta ob 2) x0 z0 x1 z1 from (ob_box 2).symm, j64 2]
    generalize g7 : sL h6 (P + 1) 5 (jI (box (outG S ta ob 2) x0 z0 x1 z1)) = h7
    have F7 : FrS nop (fun x _ => x = P + 1) h h7 := F6.tr (by rw [← g7]; exact frS_sL _ _ rfl)
    have L7 : ∀ k, hL h7 (P + 1) k = if k = 5 then jI (box (outG S ta ob 2) x0 z0 x1 z1) else hL h6 (P + 1) k := fun k => by
      rw [← g7, hL_sL]
      by_cases c : k = 5
      · rw [if_pos ⟨rfl, c⟩, if_pos c]
      · rw [if_neg (fun z => c z.2), if_neg c]
    obtain ⟨v7, k7, l7, -⟩ := N F7
    refine ⟨P + 1, k7.2.1, b + 15, v7.2.2.1, v7.2.2.2.1.1, b + 18, v7.2.2.2.1.2.1.2.2.1, ?_⟩
    refine s_onGround (by omega) v7 k7.1 l7 e w wb hx0 hz0 hc hr ⟨by omega, by omega⟩ v7.2.2.2.2.2.2.2.v ⟨_, rfl, k7.2.2.1, vw 6 k7 (by omega), ?_⟩
    rw [show box (riv S) x0 z0 x1 z1 - bxT (riv S) (tS S) ta - optI (bxT (riv S) (tS S)) ob = box (outG S ta ob 3) x0 z0 x1 z1 from (ob_box 3).symm, j64 3]
    generalize g8 : sL h7 (P + 1) 6 (jI (box (outG S ta ob 3) x0 z0 x1 z1)) = h8
    have F8 : FrS nop (fun x _ => x = P + 1) h h8 := F7.tr (by rw [← g8]; exact frS_sL _ _ rfl)
    have L8 : ∀ k, hL h8 (P + 1) k = if k = 6 then jI (box (outG S ta ob 3) x0 z0 x1 z1) else hL h7 (P + 1) k := fun k => by
      rw [← g8, hL_sL]
      by_cases c : k = 6
      · rw [if_pos ⟨rfl, c⟩, if_pos c]
      · rw [if_neg (fun z => c z.2), if_neg c]
    obtain ⟨v8, k8, l8, -⟩ := N F8
    refine ⟨P + 1, k8.2.1, s, v8.2.1, v8.2.2.2.2.1.1, ?_⟩
    rw [l8.2.1]
    refine s_deepV v8 e w ⟨_, rfl, s, v8.2.1, v8.2.2.2.2.1.1, ?_⟩
    rw [l8.2.2.1]
    have other : ∀ {Q' : Option Value → HP → Prop}, Q' (some (.int (iI (optI (deepI S) ob)))) h8 → Cal G (d - 1) mX6_deepRound [.ref s, .int (onI ob)] h8 Q' := by
      intro Q' q
      cases ob with
      | none => exact s_deepRound v8.2.2.2.2.1 (fun _ => q) (by decide) (fun t et h6 _ => absurd et.symm (nI_ne_neg (by omega)))
      | some c => exact s_deepV v8 (Or.inl ⟨(wb c rfl).1, rfl⟩) (wb c rfl).2 q
    refine other ⟨_, rfl, k8.2.2.1, vw 7 k8 (by omega), ?_⟩
    have o_d : 0 ≤ optI (deepI S) ob ∧ optI (deepI S) ob ≤ 49 := by
      cases ob with
      | none => simp [optI]
      | some c => exact deep_r c
    have dsum : (iI (deepI S ta) + iI (optI (deepI S) ob)).toInt64 = jI (deepI S ta + optI (deepI S) ob) := by
      have := deep_r ta
      rw [← iI_add, jI_32, ti_iI (by omega) (by omega)]
    rw [dsum]
    generalize g9 : sL h8 (P + 1) 7 (jI (deepI S ta + optI (deepI S) ob)) = h9
    have F9 : FrS nop (fun x _ => x = P + 1) h h9 := F8.tr (by rw [← g9]; exact frS_sL _ _ rfl)
    have L9 : ∀ k, hL h9 (P + 1) k = if k = 7 then jI (deepI S ta + optI (deepI S) ob) else hL h8 (P + 1) k := fun k => by
      rw [← g9, hL_sL]
      by_cases c : k = 7
      · rw [if_pos ⟨rfl, c⟩, if_pos c]
      · rw [if_neg (fun z => c z.2), if_neg c]
    obtain ⟨v9, k9, l9, -⟩ := N F9
    refine ⟨P + 1, k9.2.1, s, v9.2.1, v9.2.2.2.2.1.1, ?_⟩
    rw [l9.2.2.2]
    refine s_likeV v9 hf e w ⟨_, rfl, s, v9.2.1, v9.2.2.2.2.1.1, ?_⟩
    rw [l9.2.2.2]
    have otherL : ∀ {Q' : Option Value → HP → Prop}, Q' (some (.int (iI (optI (likeI S f) ob)))) h9 → Cal G (d - 1) mX6_likeTo [.ref s, .int (nI f), va_rf (ob.map (fun c => s + 5 + c))] h9 Q' := by
      intro Q' q
      cases ob with
      | none => exact e_X6_likeTo (o2 := none) ⟨fun _ => q, fun _ z => by cases z⟩
      | some c => exact s_likeV v9 hf (Or.inl ⟨(wb c rfl).1, rfl⟩) (wb c rfl).2 q
    refine otherL ⟨_, rfl, k9.2.2.1, vw 8 k9 (by omega), ?_⟩
    have o_l : -9 ≤ optI (likeI S f) ob ∧ optI (likeI S f) ob ≤ 9 := by
      cases ob with
      | none => simp [optI]
      | some c => exact like_r c (by have := (wb c rfl).1; omega) (wb c rfl).2
    have lsum : (iI (likeI S f ta) + iI (optI (likeI S f) ob)).toInt64 = jI (likeI S f ta + optI (likeI S f) ob) := by
      have := like_r ta l.2 w
      rw [← iI_add, jI_32, ti_iI (by omega) (by omega)]
    rw [lsum]
    generalize g10 : sL h9 (P + 1) 8 (jI (likeI S f ta + optI (likeI S f) ob)) = h10
    have F10 : FrS nop (fun x _ => x = P + 1) h h10 := F9.tr (by rw [← g10]; exact frS_sL _ _ rfl)
    have L10 : ∀ k, hL h10 (P + 1) k = if k = 8 then jI (likeI S f ta + optI (likeI S f) ob) else hL h9 (P + 1) k := fun k => by
      rw [← g10, hL_sL]
      by_cases c : k = 8
      · rw [if_pos ⟨rfl, c⟩, if_pos c]
      · rw [if_neg (fun z => c z.2), if_neg c]
    obtain ⟨v10, k10, l10, s10⟩ := N F10
    refine ⟨P + 1, k10.2.1, s, v10.2.1, v10.2.2.2.2.1.1, ?_⟩
    rw [l10.2.2.2]
    refine s_wallsOf v10.2.2.2.2.1 ⟨_, rfl, k10.2.2.1, vw 9 k10 (by omega), ?_⟩
    rw [s10, nA, own_v (C := v10.2.2.2.2.2.1) W f]
    have c48 := cntF_le (ownB (tS S) (nI f)) 48 6
    have wsum : (nI (cntF (ownB (tS S) (nI f)) 6 48)).toInt64 = jI (cntF (ownB (tS S) (nI f)) 6 48 : Int) := by
      rw [jI_32, ti_nI (by omega)]
    rw [wsum]
    generalize g11 : sL h10 (P + 1) 9 (jI (cntF (ownB (tS S) (nI f)) 6 48 : Int)) = h11
    have F11 : FrS nop (fun x _ => x = P + 1) h h11 := F10.tr (by rw [← g11]; exact frS_sL _ _ rfl)
    have L11 : ∀ k, hL h11 (P + 1) k = if k = 9 then jI (cntF (ownB (tS S) (nI f)) 6 48 : Int) else hL h10 (P + 1) k := fun k => by
      rw [← g11, hL_sL]
      by_cases c : k = 9
      · rw [if_pos ⟨rfl, c⟩, if_pos c]
      · rw [if_neg (fun z => c z.2), if_neg c]
    obtain ⟨v11, k11, l11, -⟩ := N F11
    refine ⟨P + 1, k11.2.1, s, v11.2.1, v11.2.2.2.2.1.1, k11.2.2.1, vw 10 k11 (by omega), fun h98 g98 => ?_⟩
    rw [v11.2.2.2.2.2.1.1 3 (by omega), jI_32] at g98
    have F12 : FrS nop (fun x _ => x = P + 1) h h98 := F11.tr (by rw [g98]; exact frS_sL _ _ rfl)
    have L12 : ∀ k, hL h98 (P + 1) k = if k = 10 then jI (S 3).toInt else hL h11 (P + 1) k := fun k => by
      rw [g98, hL_sL]
      by_cases c : k = 10
      · rw [if_pos ⟨rfl, c⟩, if_pos c]
      · rw [if_neg (fun z => c z.2), if_neg c]
    obtain ⟨v12, k12, l12, -⟩ := N F12
    have fin : ∀ z : Int64, z = jI (optI (fun _ => 1) ob) → Q none (sL h98 (P + 1) 11 z) := by
      intro z hz
      refine hQ _ (F12.tr (frS_sL _ _ rfl)) (fun k hk => ?_)
      rw [hL_sL, L12, L11, L10, L9, L8, L7, L6, L5]
      have : k = 0 ∨ k = 1 ∨ k = 2 ∨ k = 3 ∨ k = 4 ∨ k = 5 ∨ k = 6 ∨ k = 7 ∨ k = 8 ∨ k = 9 ∨ k = 10 ∨ k = 11 := by omega
      rcases this with rfl | rfl | rfl | rfl | rfl | rfl | rfl | rfl | rfl | rfl | rfl | rfl
      · simp only [Nat.reduceEqDiff, if_false, and_false]; exact V4 0 (by omega)
      · simp only [Nat.reduceEqDiff, if_false, and_false]; exact V4 1 (by omega)
      · simp only [Nat.reduceEqDiff, if_false, and_false]; exact V4 2 (by omega)
      · simp [wI]
      · simp [wI]
      · simp [wI]
      · simp [wI]
      · simp [wI]
      · simp [wI]
      · simp [wI]
      · simp [wI]
      · simp [wI, hz]
    cases ob with
    | none => exact ⟨fun _ => ⟨vw 11 k12 (by omega), fin 0 rfl⟩, fun _ z => by cases z⟩
    | some c => exact ⟨fun z => (by cases z), fun q z => ⟨vw 11 k12 (by omega), fin 1 rfl⟩⟩
  -- the first words
  have start : ∀ so0 : Option Nat, so0 = ob.map (fun c => s + 5 + c) → Ex G d mX11_describe 37 [(0, .ref b), (1, .ref P), (2, .ref (s + 5 + tc))] [va_rf so0] h Q := by
    intro so0 eo
    refine t_X11_describe_37 (by omega) ⟨K.1, P + 1, K.2.1, e_X3_line ⟨K.1, _, rfl, K.2.2.1, vw 0 K (by omega), ?_⟩⟩
    obtain ⟨⟨p1, p2, p3, p4⟩, -⟩ := L
    have a0 : (2 * (((hI h P 3 - hI h P 1) + hI h P 4) - hI h P 2)).toInt64 = jI (2 * (((x1 : Int) - x0) + ((z1 : Int) - z0))) := by
      rw [p1, p2, p3, p4, nS (by omega), nA, nS (by omega)]
      show (nI 2 * nI _).toInt64 = _
      rw [nM, jI_32, ti_nI (by omega)]
      congr 1
      omega
    rw [a0]
    generalize g1 : sL h (P + 1) 0 (jI (2 * (((x1 : Int) - x0) + ((z1 : Int) - z0)))) = h1
    have F1 : FrS nop (fun x _ => x = P + 1) h h1 := by rw [← g1]; exact frS_sL _ _ rfl
    obtain ⟨v1, k1, l1, -⟩ := N F1
    refine ⟨P + 1, k1.2.1, k1.2.2.1, vw 1 k1 (by omega), fun h14 g14 => ?_⟩
    have a1 : (hI h1 P 3 - hI h1 P 1).toInt64 = jI ((x1 : Int) - x0) := by
      rw [l1.1.2.2.1, l1.1.1, nS (by omega), jI_32, ti_nI (by omega)]
      congr 1
      omega
    rw [a1] at g14
    have F14 : FrS nop (fun x _ => x = P + 1) h h14 := F1.tr (by rw [g14]; exact frS_sL _ _ rfl)
    obtain ⟨v14, k14, l14, -⟩ := N F14
    have a2 : (hI h14 P 4 - hI h14 P 2).toInt64 = jI ((z1 : Int) - z0) := by
      rw [l14.1.2.2.2, l14.1.2.1, nS (by omega), jI_32, ti_nI (by omega)]
      congr 1
      omega
    refine ⟨vw 2 k14 (by omega), ?_⟩
    rw [a2]
    generalize g15 : sL h14 (P + 1) 2 (jI ((z1 : Int) - z0)) = h15
    have F15 : FrS nop (fun x _ => x = P + 1) h h15 := F14.tr (by rw [← g15]; exact frS_sL _ _ rfl)
    obtain ⟨v15, k15, l15, -⟩ := N F15
    have V15 : ∀ k, k < 3 → hL h15 (P + 1) k = jI (wI S f x0 z0 x1 z1 ta ob k) := fun k hk => by
      have : k = 0 ∨ k = 1 ∨ k = 2 := by omega
      rw [← g15, g14, ← g1]
      rcases this with rfl | rfl | rfl <;> simp [hL_sL, wI]
    refine s_parea k15.1 ⟨_, rfl, v15.2.2.2.2.1.2.2.2.2.2.2.1 tc l.1 |>.2, s_areaV v15 e w ⟨_, rfl, ?_⟩⟩
    have pa : (hI h15 P 3 - hI h15 P 1) * (hI h15 P 4 - hI h15 P 2) = iI (box (fun _ _ => 1) x0 z0 x1 z1) := by
      rw [l15.1.1, l15.1.2.1, l15.1.2.2.1, l15.1.2.2.2, nS (by omega), nS (by omega), nM, box_one (by omega) (by omega) (by omega) (by omega), ← Int.natCast_mul, iI_nI]
    rw [pa, ← iI_sub]
    have ob0 := ob_box 0
    refine ⟨fun z => tail h15 none (by rw [← eo, z]) F15 V15 _ _ ?_, fun q z => ⟨?_, ?_⟩⟩
    · cases ob with
      | none =>
        rw [show (0 : Int32) = iI 0 from rfl, ← iI_sub]
        refine congrArg iI ?_
        rw [ob0]
        rfl
      | some c =>
        rw [eo] at z
        cases z
    · cases ob with
      | none =>
        rw [eo] at z
        cases z
      | some c =>
        rw [eo] at z
        obtain rfl : s + 5 + c = q := Option.some.inj z
        exact (v15.2.2.2.2.1.2.2.2.2.2.2.1 c (by have := (wb c rfl).1; omega)).2
    · cases ob with
      | none =>
        rw [eo] at z
        cases z
      | some c =>
        rw [eo] at z
        obtain rfl : s + 5 + c = q := Option.some.inj z
        refine s_areaV v15 (Or.inl ⟨(wb c rfl).1, rfl⟩) (wb c rfl).2 ⟨_, rfl, tail h15 (some (s + 5 + c)) rfl F15 V15 _ _ ?_⟩
        rw [← iI_sub]
        refine congrArg iI ?_
        rw [ob0]
        rfl
  refine e_X11_describe ⟨V.1, s, V.2.1, V.2.2.2.2.1.1, s + 3, V.2.2.2.2.1.2.1.2.2.1, K.1, V.2.2.2.2.1.2.2.2.2.1.1, ?_⟩
  rw [L.2.1, L.2.2.1]
  refine thV V l.1 ?_
  cases hob : ob with
  | none => exact ⟨fun q => absurd rfl q, fun _ => start none (by rw [hob]; rfl)⟩
  | some c =>
    have hc30 := (wb c hob).1
    refine ⟨fun _ => ?_, fun q => absurd q (nI_ne_neg (by omega))⟩
    rw [onI_some]
    exact thV V (tc := c) (by omega) (start (some (s + 5 + c)) (by rw [hob]; rfl))
/-- the frame of mayCome -/
def McI (P a k : Nat) : Prop := a = P ∧ k = 8
def McL (P L a : Nat) (_ : Nat) : Prop := a = P + 1 ∨ a = L + 5
theorem s_mayCome (hd : 4 ≤ d) (V : VwC G h b s S n) (K : PlW G h P) (hP : P + 1 < s ∧ P < b + 35 ∧ b + 20 < P) {f tc ta A : Nat} {x z tx tz : Int32} {ob : Option Nat} {C : List Cla} (L : PlI h P f x z tx tz tc ob) (sup : hI h P 7 = nI (supN S f)) (hf : f < 12) (e : ix n tc ta) (w : tS S ta 0 = 1) (wb : ∀ c, ob = some c → c < 30 ∧ tS S c 0 = 1) (hob : ob ≠ none → tc < 30) (Sc : ScrC G h A C) (hC : C.length ≤ 12) (hcl : ∀ q ∈ C, ClaP q) {jn : Prop} (hj : hI h A 0 = 0 ↔ ¬ jn) (hA : A + 5 ≠ P + 1 ∧ ¬ (A ≤ P ∧ P < A + 6))
    (hQ : ∀ h2 v, FrS (McI P) (McL P A) h h2 → (v = 0 ∨ v = 1) → (v = 1 ↔ canV S C jn f x z tx tz ta ob) → (v = 1 → ∀ k, k < 12 → hL h2 (P + 1) k = wdF S f x z tx tz ta ob k) → Q (some (.int v)) h2) : Cal G d mX11_mayCome [.ref b, .ref A, .ref P] h Q := by
  have no : ∀ {h2 : HP}, FrS (McI P) (McL P A) h h2 → ¬ canV S C jn f x z tx tz ta ob → Q (some (.int 0)) h2 := fun F c => hQ _ 0 F (Or.inl rfl) ⟨fun q => absurd q (by decide), fun q => absurd q c⟩ (fun q => absurd q (by decide))
  have W := V.2.2.2.2.2.2.1
  have dd := W.1
  unfold rng at dd
  have l := ix_lt e V.2.2.2.2.2.1.2.2.2.2.2.1
  refine e_X11_mayCome (by omega) ⟨V.1, s_fits (by omega) V K.1 ⟨by omega, hP.2⟩ L e w wb hob (fun h1 v F1 b01 ev eg => ⟨_, rfl, fun q => ?_, fun q => ⟨F1.kd K.1, ?_⟩⟩)⟩
  · have F1' : FrS (McI P) (McL P A) h h1 := F1.weak (fun _ _ q => q) (fun _ _ q => q.elim)
    exact no F1' (fun z => by
      have := ev.mpr z.1
      rw [q] at this
      exact absurd this (by decide))
  have v1 : v = 1 := b01.resolve_left q
  have F1' : FrS (McI P) (McL P A) h h1 := F1.weak (fun _ _ q => q) (fun _ _ q => q.elim)
  have fit := ev.mp v1
  have g8 := eg v1
  have V1 : VwC G h1 b s S n := V.fs F1 (fun a k q => by omega)
  have K1 : PlW G h1 P := K.fs F1
  have L1 : PlI h1 P f x z tx tz tc ob := L.fs F1 (fun k hk q => by omega)
  have sup1 : hI h1 P 7 = nI (supN S f) := (F1.i (by omega)).trans sup
  have hl := fit.1
  unfold hldP at hl
  have lx : inL x := by unfold inL; omega
  have lz : inL z := by unfold inL; omega
  have ltx : inL tx := by unfold inL; omega
  have ltz : inL tz := by unfold inL; omega
  have ex := nN_of (x := x) hl.1.1
  have ez := nN_of (x := z) hl.2.1
  have etx := nN_of (x := tx) (by omega)
  have etz := nN_of (x := tz) (by omega)
  have tx_ : (tx.toInt) = (nN tx : Int) := by unfold nN; omega
  have tz_ : (tz.toInt) = (nN tz : Int) := by unfold nN; omega
  have x_ : (x.toInt) = (nN x : Int) := by unfold nN; omega
  have z_ : (z.toInt) = (nN z : Int) := by unfold nN; omega
  have LN : PlI h1 P f (nI (nN x)) (nI (nN z)) (nI (nN tx)) (nI (nN tz)) tc ob := by
    rw [← ex, ← ez, ← etx, ← etz]; exact L1
  have fitN : fitP S (nI (nN x)) (nI (nN z)) (nI (nN tx)) (nI (nN tz)) ta ob := by
    rw [← ex, ← ez, ← etx, ← etz]; exact fit
  have gb : 0 ≤ gap2 (tS S) x z tx tz ta ob ∧ gap2 (tS S) x z tx tz ta ob ≤ 100 := by
    have g := W.geoL l.2 w
    have q1 := g 1 (by omega) (by omega)
    have g0 := fit.2.2.2.1
    have g0b := fit.2.2.2.2
    unfold inL at *
    cases ob with
    | none =>
      simp only [gap2]
      unfold gapA at *
      omega
    | some c =>
      have g0c := g0b c rfl
      simp only [gap2]
      unfold gapA at *
      omega
  have tg8 : (hI h1 P 8).toInt = gap2 (tS S) x z tx tz ta ob := by rw [g8, ti_iI (by omega) (by omega)]
  have far_r := farF_rng (wdF S f x z tx tz ta ob) C
  have Sc1 : ScrC G h1 A C := Sc.fr F1.1 (fun y k _ _ => F1.r y k) (fun y k h1 h2 => F1.i (by omega))
  have e0 : hI h1 A 0 = hI h A 0 := F1.i (by omega)
  have go : (ob ≠ none → jn) → ¬ hI h1 P 8 < 1 → Ex G d mX11_mayCome 33 [(0, .ref b), (1, .ref A), (2, .ref P)] [] h1 Q := by
    intro hjn g1
    refine t_X11_mayCome_33 (by omega) ⟨V1.1, s_clear (by omega) V1 K1.1 L1 e (fun c q => (wb c q).1) hob lx lz ltx ltz (fun c => ⟨_, rfl, fun _ => no F1' (fun z => c z.2.2.1), fun q => absurd rfl q⟩) (fun clr => ⟨_, rfl, fun q => absurd q (by decide), fun _ => ⟨b + 15, V1.2.2.1, V1.2.2.2.1.1, s_lines V1 K1.1 LN (by omega) (by omega) (by omega) (by omega) (fun nr => ⟨_, rfl, fun _ => ?_, fun q => absurd rfl q⟩) (fun r => ⟨_, rfl, fun q => absurd q (by decide), fun _ => no F1' (fun z => z.2.2.2.1 r)⟩)⟩⟩)⟩
    refine s_describe (by omega) V1 K1 hP LN sup1 hf e w wb (by omega) (by omega) (by omega) (by omega) fitN (fun h2 F2 W2 => ⟨rfl, (K1.fs F2).1, P + 1, (K1.fs F2).2.1, ?_⟩)
    have F2' : FrS (McI P) (McL P A) h h2 := F1'.tr (F2.weak (fun _ _ q => q.elim) (fun _ _ q => Or.inl q))
    have Sc2 : ScrC G h2 A C := Sc1.fr F2.1 (fun y k _ _ => F2.r y k) (fun y k _ _ => F2.i (fun z => z))
    have SW : ScrW G h2 A (P + 1) (wdF S f x z tx tz ta ob) C := ⟨Sc2, ⟨(K1.fs F2).2.2.1, (K1.fs F2).2.2.2, fun k hk => W2 k hk⟩, fun q => hA.1 q.symm, hcl⟩
    refine ⟨Sc2.1, s_distance (by omega) hC SW (fun h3 F3 => ⟨_, rfl, ?_⟩)⟩
    have F3' : FrS (McI P) (McL P A) h h3 := F2'.tr (F3.weak (fun _ _ q => q.elim) (fun _ _ q => Or.inr q))
    have g83 : hI h2 P 8 = hI h1 P 8 := F2.i (fun z => z)
    have tf : ((farF (wdF S f x z tx tz ta ob) C).toInt32).toInt = (farF (wdF S f x z tx tz ta ob) C).toInt := by
      rw [Int64.toInt_toInt32]
      exact bm32 (by omega) (by omega)
    rw [g83]
    refine ⟨fun c => no F3' (fun z => ?_), fun c => ⟨P + 1, (F3.r _ _).trans (K1.fs F2).2.1, s_allows (by omega) hC (SW.fr F3) (fun h4 F4 => ⟨_, rfl, fun q => no (F3'.tr (F4.weak (fun _ _ q => q.elim) (fun _ _ q => Or.inr q))) (fun z => ?_), fun q => ?_⟩)⟩⟩
    · have := z.2.2.2.2.1
      rw [ti_lt, tf, tg8] at c
      omega
    · have z2 := z.2.2.2.2.2
      rw [bI0.mp q] at z2
      cases z2
    · have mt : mayF (wdF S f x z tx tz ta ob) C false false = true := by
        cases m : mayF (wdF S f x z tx tz ta ob) C false false
        · exact absurd (bI0.mpr m) q
        · rfl
      rw [ti_lt, tf, tg8] at c
      refine hQ h4 1 (F3'.tr (F4.weak (fun _ _ q => q.elim) (fun _ _ q => Or.inr q))) (Or.inr rfl) ⟨fun _ => ⟨fit, hjn, clr, nr, by omega, mt⟩, fun _ => rfl⟩ (fun _ k hk => ?_)
      rw [F4.l (fun z => hA.1 z.symm), F3.l (fun z => hA.1 z.symm)]
      exact W2 k hk
  have o1 : (1 : Int32).toInt = 1 := rfl
  refine ⟨fun c => no F1' (fun z => ?_), fun c => ?_⟩
  · have := z.2.2.2.2.1
    rw [ti_lt, tg8, o1] at c
    omega
  rw [L1.2.2.1, e0]
  cases hob' : ob with
  | none => exact ⟨fun _ => go (fun q => absurd hob' q) c, fun q => absurd rfl q⟩
  | some cc =>
    have hcc := (wb cc hob').1
    refine ⟨fun q => absurd q (nI_ne_neg (by omega)), fun _ => ⟨Sc1.1, fun q => go (fun _ => ?_) c, fun q => no F1' (fun z => hj.mp q (z.2.1 (by rw [hob']; simp)))⟩⟩
    exact Classical.byContradiction (fun n => q (hj.mpr n))
end MC
