/-! ===== the invariant at the start ===== -/
theorem inv_init (G : GG) (h : HP) (hG : G.1 = hZ h) : Cal G 59 mX11_init [.ref G.1] (nw h 11 16) (fun r h7 => r = none ∧ hZ h7 = G.1 + 119 ∧ Cal G 59 mX12_init [.ref (G.1 + 119)] (nw h7 12 51) (fun r2 h15 => r2 = none ∧ Inv G (hU h) h15)) := by
  refine s_X11_init (by omega) (nw_kd hG.symm (Nat.le_refl _)) (by rw [hZ_nw, ← hG]) (fun k => by rw [hI_nw, if_pos hG]) ?_
  intro h7 kp7 z7 u7 S7 i7 t7 r7 n7 p7 s7 q7 N7 w7
  rw [hU_nw] at u7
  refine ⟨rfl, z7, ?_⟩
  generalize hb : G.1 = b at *
  have kb : Kd G h7 b 11 := Kd.up (nw_kd hG.symm (by omega)) kp7
  have X0 : Ext (fun x _ => x = b + 119) h7 (nw h7 12 51) := ⟨KP.nw _ _ _, fun x k hx => ⟨by rw [hI_nw, if_neg (by omega)], by rw [hL_nw, if_neg (by omega)], fun _ => by rw [hR_nw, if_neg (by omega)]⟩⟩
  refine s_X12_init (by omega) (nw_kd z7 (by omega)) (by rw [hZ_nw, z7]) (fun k => by rw [hI_nw, if_pos z7.symm]) ?_
  intro h15 X1 z15 u15 M15 i15 sa15 o15
  rw [hU_nw] at u15
  have X : Ext (fun x _ => x = b + 119) h7 h15 := X0.tr X1
  have eI : ∀ a k, a < b + 119 → hI h15 a k = hI h7 a k := fun a k ha => (X.2 a k (by omega)).1
  have eR : ∀ a k, a < b + 119 → hR h15 a k = hR h7 a k := fun a k ha => (X.2 a k (by omega)).2.2 (by omega)
  have wz : ∀ a k, b + 16 ≤ a → a ≤ b + 20 → hI h15 a k = 0 := fun a k h1 h2 => (eI a k (by omega)).trans (w7 a k h1 h2)
  have N15 : StNew h15 (b + 35) := N7.ext X (by omega)
  obtain ⟨⟨c0, c1, c2, c3, c4⟩, cc, cl, ct, ce⟩ := N15
  have sS : ∀ k, said h15 (b + 119) k = if k < 2 then 20 else if 8 ≤ k ∧ k < 1608 then 1 else 0 := sa15
  have s0 : said h15 (b + 119) 0 = 20 := by rw [sS]; rfl
  have s1 : said h15 (b + 119) 1 = 20 := by rw [sS]; rfl
  have sz : ∀ k, (2 ≤ k ∧ k < 8) ∨ 1608 ≤ k → said h15 (b + 119) k = 0 := fun k hk => by rw [sS, if_neg (by omega), if_neg (by omega)]
  have sc : ∀ c, c < 1600 → said h15 (b + 119) (8 + c) = 1 := fun c hc => by rw [sS, if_neg (by omega), if_pos (by omega)]
  have st : ∀ t k, tS (said h15 (b + 119)) t k = 0 := fun t k => sz _ (by omega)
  have n01 : ¬ (0 : Int32) = 1 := by decide
  have im0 : ∀ k, imd h15 (b + 119) k = false := fun k => by
    unfold imd
    rw [o15 _ k (by omega) (by omega) (by omega)]
    rfl
  have im1 : cntF (imd h15 (b + 119)) 0 4 = 0 := by simp [cntF, im0]
  refine ⟨rfl, b + 35, b + 77, ?_⟩
  rw [hb]
  refine ⟨⟨⟨hb.symm, rfl⟩, kb.up X.1, S7.ext X (fun q hq z => (show ∀ q ∈ clL, q.1 < 119 by decide) q hq |> fun h => by omega), M15, ⟨0, by omega, (eI _ _ (by omega)).trans t7, i15 1, fun k hk => absurd hk (by omega)⟩, 0, 0, fun _ => 0, fun _ => 0, fun _ => 0, ⟨by omega, by omega, (eI _ _ (by omega)).trans (i7 14), (eI _ _ (by omega)).trans (i7 15), o15 _ 0 (by omega) (by omega) (by omega), o15 _ 1 (by omega) (by omega) (by omega), fun i hi => absurd hi (by omega), fun i hi => absurd hi (by omega)⟩, fun k hk => Or.inl ⟨(eR _ _ (by omega)).trans (r7 k), o15 _ k (by omega) (by omega) (by omega)⟩, fun k hk hm => absurd hm (by rw [im0]; simp), ?_⟩, ⟨Or.inl ⟨rfl, rfl⟩, (eR _ _ (by omega)).trans n7, (eR _ _ (by omega)).trans p7, s7.ext X (fun a k h1 h2 => by omega), q7.ext X (fun a k h1 h2 => by omega)⟩, ⟨fun j hj => ?_, fun c hc => ?_, fun j hj => ?_, fun t ht => ⟨?_, fun q => absurd q (by rw [st]; exact n01)⟩, ?_, fun e he => ⟨?_, fun q => absurd q (by rw [sz _ (by omega)]; exact n01)⟩⟩, ⟨⟨⟨?_, ?_, ?_, ?_, ?_⟩, fun c hc => ?_, fun j hj => ?_, fun f hf => ?_, fun t ht => ?_, fun t ht q => absurd q (by rw [st]; exact n01), fun e he => Or.inl (sz _ (by omega))⟩, ?_, fun t ht => Or.inl (st t 0), fun t _ _ => st t 0, ⟨fun t ht q => absurd q (by rw [st]; exact n01), fun t ht q => absurd q (by rw [st]; exact n01), fun t u ht hu hne q => absurd q (by rw [st]; exact n01)⟩⟩, ?_, Or.inl (fun t ht => st t 0), fun i hi => ⟨⟨wz _ _ (by omega) (by omega), wz _ _ (by omega) (by omega), wz _ _ (by omega) (by omega)⟩, ⟨wz _ _ (by omega) (by omega), wz _ _ (by omega) (by omega), wz _ _ (by omega) (by omega)⟩, wz _ _ (by omega) (by omega), wz _ _ (by omega) (by omega)⟩⟩
  · rw [BudX, im1, z15]
    exact ⟨by omega, by omega, by omega⟩
  · rcases (show j = 0 ∨ j = 1 ∨ j = 2 ∨ j = 3 ∨ j = 4 by omega) with rfl | rfl | rfl | rfl | rfl
    · rw [c0, s0]
    · rw [c1, s1]
    · rw [c2, sz _ (by omega)]
    · rw [c3, sz _ (by omega)]
    · rw [c4, sz _ (by omega)]
  · rw [cc c hc, sc c hc]
  · rw [cl j, sz _ (by omega)]
  · rw [ct t (by omega), st]; rfl
  · rw [ct 30 (by omega)]; rfl
  · rw [ce e he, sz _ (by omega)]
  · rw [s0]; unfold rng; decide
  · rw [s1]; unfold rng; decide
  · rw [sz _ (by omega)]; unfold rng; decide
  · rw [sz _ (by omega)]; decide
  · rw [sz _ (by omega)]; decide
  · rw [sc c hc]; unfold rng; decide
  · rw [sz _ (by omega)]; unfold rng; decide
  · rw [sz _ (by omega)]
  · rw [st, sz _ (by omega)]
    constructor
    · intro q; exact absurd q n01
    · intro q
      have : (0 : Int32).toInt = 0 := rfl
      omega
  · rintro ⟨t, ht, q⟩
    rw [st] at q
    exact absurd q n01
  · rw [sz _ (by omega)]; decide
