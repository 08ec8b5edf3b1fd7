/-! ===== the tapes: append, four, feed, end ===== -/
section TP
variable {G : GG} {d : Nat} {h : HP} {Q : Option Value → HP → Prop}
theorem s_hasRoom {T n : Nat} (kT : Kd G h T 8) (hn : hI h T 0 = nI n) (hle : n ≤ 400) (hQ : Q (some (.int (if n + 20 ≤ 400 then 1 else 0))) h) : Cal G d mX8_hasRoom [.ref T] h Q := by
  refine e_X8_hasRoom ?_
  unfold T_X8_hasRoom
  rw [hn]
  have e : (nI n + 20).toInt = n + 20 := by
    rw [ti_add] <;> rw [ti_nI (by omega)] <;> simp <;> omega
  have e4 : (400 : Int32).toInt = 400 := rfl
  refine ⟨kT, fun c => ?_, fun c => ?_⟩ <;> rw [ti_lt, e, e4] at c
  · rw [if_neg (by omega)] at hQ; exact hQ
  · rw [if_pos (by omega)] at hQ; exact hQ
theorem s_append {T B n : Nat} {x : Int32} (kT : Kd G h T 8) (eB : hR h T 5 = some B) (kB : Kd G h B 13) (nB : hN h B = 400) (hne : B ≠ T) (hn : hI h T 0 = nI n) (hlt : n + 4 ≤ 400)
    (hQ : ∀ h2, FrI (fun a k => (a = T ∧ k = 0) ∨ (a = B ∧ n ≤ k ∧ k < n + 4)) h h2 → hI h2 T 0 = nI (n + 4) → (∀ j, j < 4 → hI h2 B (n + j) = bt x j) → Q none h2) : Cal G d mX8_append [.ref T, .int x] h Q := by
  refine e_X8_append ?_
  show Ex G d mX8_append 3 [(0, .ref T), (1, .int x), (2, .int 24)] [] h Q
  have step : ∀ (c c2 : Int32) (h1 : HP) (m : Nat), ¬ c < 0 → c + (-8) = c2 → KP h h1 → hR h1 T 5 = some B → hI h1 T 0 = nI m → m < 400 →
      Ex G d mX8_append 3 [(0, .ref T), (1, .int x), (2, .int c2)] [] (sI (sI h1 B m (btv x c)) T 0 (nI (m + 1))) Q → Ex G d mX8_append 3 [(0, .ref T), (1, .int x), (2, .int c)] [] h1 Q := by
    intro c c2 h1 m hc hc2 hk hr hm hm4 hx
    refine t_X8_append_3 ?_
    unfold T_X8_append_3
    refine ⟨fun q => absurd q hc, fun _ => ⟨kT.up hk, fun q => ?_, fun _ => ⟨B, hr, kB.up hk, ?_, fun h8 e8 => ?_⟩⟩⟩
    · rw [hm, ti_le, ti_nI (by omega)] at q
      have : (400 : Int32).toInt = 400 := rfl
      omega
    · rw [hm, kB.len hk, nB]; exact vin_nI hm4 (by omega)
    · rw [hI_ne h1 _ (Or.inl (Ne.symm hne)), hm, cl_nI (by omega), nI_S] at e8
      rw [e8, hc2]
      exact hx
  refine step 24 16 h n (by decide) (by decide) (KP.rf h) eB hn (by omega) ?_
  refine step 16 8 _ (n + 1) (by decide) (by decide) ((kp_sI _ _ _ _).tr (kp_sI _ _ _ _)) eB (hI_eq _ _ _ _) (by omega) ?_
  refine step 8 0 _ (n + 2) (by decide) (by decide) (((kp_sI _ _ _ _).tr (kp_sI _ _ _ _)).tr ((kp_sI _ _ _ _).tr (kp_sI _ _ _ _))) eB (hI_eq _ _ _ _) (by omega) ?_
  refine step 0 (-8) _ (n + 3) (by decide) (by decide) ((((kp_sI _ _ _ _).tr (kp_sI _ _ _ _)).tr ((kp_sI _ _ _ _).tr (kp_sI _ _ _ _))).tr ((kp_sI _ _ _ _).tr (kp_sI _ _ _ _))) eB (hI_eq _ _ _ _) (by omega) ?_
  refine t_X8_append_3 ?_
  unfold T_X8_append_3
  refine ⟨fun _ => hQ _ ?_ (hI_eq _ _ _ _) ?_, fun q => absurd (by decide) q⟩
  · refine FrI.tr (FrI.tr (FrI.tr (FrI.tr (FrI.tr (FrI.tr (FrI.tr (FrI.sI _ _ (Or.inr ⟨rfl, by omega, by omega⟩)) (FrI.sI _ _ (Or.inl ⟨rfl, rfl⟩))) (FrI.sI _ _ (Or.inr ⟨rfl, by omega, by omega⟩))) (FrI.sI _ _ (Or.inl ⟨rfl, rfl⟩))) (FrI.sI _ _ (Or.inr ⟨rfl, by omega, by omega⟩))) (FrI.sI _ _ (Or.inl ⟨rfl, rfl⟩))) (FrI.sI _ _ (Or.inr ⟨rfl, by omega, by omega⟩))) (FrI.sI _ _ (Or.inl ⟨rfl, rfl⟩))
  · intro j hj
    rcases (show j = 0 ∨ j = 1 ∨ j = 2 ∨ j = 3 by omega) with rfl | rfl | rfl | rfl <;> simp [hI_sI, hne] <;> rfl
/-- the same for the reference -/
theorem s_four {T B n : Nat} {x : Int32} (kT : Kd G h T 12) (eB : hR h T 0 = some B) (kB : Kd G h B 13) (nB : hN h B = 400) (hne : B ≠ T) (hn : hI h T 1 = nI n) (hlt : n + 4 ≤ 400)
    (hQ : ∀ h2, FrI (fun a k => (a = T ∧ k = 1) ∨ (a = B ∧ n ≤ k ∧ k < n + 4)) h h2 → hI h2 T 1 = nI (n + 4) → (∀ j, j < 4 → hI h2 B (n + j) = bt x j) → Q none h2) : Cal G d mX12_four [.ref T, .int x] h Q := by
  refine e_X12_four ?_
  show Ex G d mX12_four 3 [(0, .ref T), (1, .int x), (2, .int 24)] [] h Q
  have step : ∀ (c c2 : Int32) (h1 : HP) (m : Nat), ¬ c < 0 → c + (-8) = c2 → KP h h1 → hR h1 T 0 = some B → hI h1 T 1 = nI m → m < 400 →
      Ex G d mX12_four 3 [(0, .ref T), (1, .int x), (2, .int c2)] [] (sI (sI h1 B m (btv x c)) T 1 (nI (m + 1))) Q → Ex G d mX12_four 3 [(0, .ref T), (1, .int x), (2, .int c)] [] h1 Q := by
    intro c c2 h1 m hc hc2 hk hr hm hm4 hx
    refine t_X12_four_3 ?_
    unfold T_X12_four_3
    refine ⟨fun q => absurd q hc, fun _ => ⟨kT.up hk, B, hr, kB.up hk, ?_, fun h8 e8 => ?_⟩⟩
    · rw [hm, kB.len hk, nB]; exact vin_nI hm4 (by omega)
    · rw [hI_ne h1 _ (Or.inl (Ne.symm hne)), hm, cl_nI (by omega), nI_S] at e8
      rw [e8, hc2]
      exact hx
  refine step 24 16 h n (by decide) (by decide) (KP.rf h) eB hn (by omega) ?_
  refine step 16 8 _ (n + 1) (by decide) (by decide) ((kp_sI _ _ _ _).tr (kp_sI _ _ _ _)) eB (hI_eq _ _ _ _) (by omega) ?_
  refine step 8 0 _ (n + 2) (by decide) (by decide) (((kp_sI _ _ _ _).tr (kp_sI _ _ _ _)).tr ((kp_sI _ _ _ _).tr (kp_sI _ _ _ _))) eB (hI_eq _ _ _ _) (by omega) ?_
  refine step 0 (-8) _ (n + 3) (by decide) (by decide) ((((kp_sI _ _ _ _).tr (kp_sI _ _ _ _)).tr ((kp_sI _ _ _ _).tr (kp_sI _ _ _ _))).tr ((kp_sI _ _ _ _).tr (kp_sI _ _ _ _))) eB (hI_eq _ _ _ _) (by omega) ?_
  refine t_X12_four_3 ?_
  unfold T_X12_four_3
  refine ⟨fun _ => hQ _ ?_ (hI_eq _ _ _ _) ?_, fun q => absurd (by decide) q⟩
  · refine FrI.tr (FrI.tr (FrI.tr (FrI.tr (FrI.tr (FrI.tr (FrI.tr (FrI.sI _ _ (Or.inr ⟨rfl, by omega, by omega⟩)) (FrI.sI _ _ (Or.inl ⟨rfl, rfl⟩))) (FrI.sI _ _ (Or.inr ⟨rfl, by omega, by omega⟩))) (FrI.sI _ _ (Or.inl ⟨rfl, rfl⟩))) (FrI.sI _ _ (Or.inr ⟨rfl, by omega, by omega⟩))) (FrI.sI _ _ (Or.inl ⟨rfl, rfl⟩))) (FrI.sI _ _ (Or.inr ⟨rfl, by omega, by omega⟩))) (FrI.sI _ _ (Or.inl ⟨rfl, rfl⟩))
  · intro j hj
    rcases (show j = 0 ∨ j = 1 ∨ j = 2 ∨ j = 3 by omega) with rfl | rfl | rfl | rfl <;> simp [hI_sI, hne] <;> rfl
/-- byte k of five ints -/
def b5 (x1 x2 x3 x4 x5 : Int32) (k : Nat) : Int32 := bt (if k < 4 then x1 else if k < 8 then x2 else if k < 12 then x3 else if k < 16 then x4 else x5) (k % 4)
theorem s_feed {X T B n : Nat} {x1 x2 x3 x4 x5 : Int32} (hd : 1 ≤ d) (kX : Kd G h X 11) (eT : hR h X 0 = some T) (kT : Kd G h T 8) (eB : hR h T 5 = some B) (kB : Kd G h B 13) (nB : hN h B = 400) (hne : B ≠ T) (hn : hI h T 0 = nI n) (hle : n ≤ 400)
    (hQ0 : ¬ n + 20 ≤ 400 → Q (some (.int (-1))) h)
    (hQ : n + 20 ≤ 400 → ∀ h2, FrI (fun a k => (a = T ∧ k = 0) ∨ (a = B ∧ n ≤ k ∧ k < n + 20)) h h2 → hI h2 T 0 = nI (n + 20) → (∀ j, j < 20 → hI h2 B (n + j) = b5 x1 x2 x3 x4 x5 j) → Q (some (.int (nI (n + 20)))) h2) : Cal G d mX11_feed [.ref X, .int x1, .int x2, .int x3, .int x4, .int x5] h Q := by
  refine e_X11_feed hd ?_
  unfold T_X11_feed
  refine ⟨kX, T, eT, kT, s_hasRoom kT hn hle ?_⟩
  by_cases hr : n + 20 ≤ 400
  · rw [if_pos hr]
    refine ⟨1, rfl, fun _ => ?_, fun q => absurd q (by decide)⟩
    have P5 : ∀ {a k m}, (a = T ∧ k = 0) ∨ (a = B ∧ m ≤ k ∧ k < m + 4) → n ≤ m → m + 4 ≤ n + 20 → (a = T ∧ k = 0) ∨ (a = B ∧ n ≤ k ∧ k < n + 20) := by
      intro a k m q q1 q2
      rcases q with q | ⟨q, q3, q4⟩
      · exact Or.inl q
      · exact Or.inr ⟨q, by omega, by omega⟩
    refine ⟨T, eT, kT, s_append kT eB kB nB hne hn (by omega) fun h1 f1 l1 v1 => ⟨rfl, T, (f1.r _ _).trans eT, f1.kd kT, ?_⟩⟩
    refine s_append (f1.kd kT) ((f1.r _ _).trans eB) (f1.kd kB) ((f1.n kB).trans nB) hne l1 (by omega) fun h2 f2 l2 v2 => ⟨rfl, T, (f2.r _ _).trans ((f1.r _ _).trans eT), f2.kd (f1.kd kT), ?_⟩
    refine s_append (f2.kd (f1.kd kT)) ((f2.r _ _).trans ((f1.r _ _).trans eB)) (f2.kd (f1.kd kB)) ((f2.n (f1.kd kB)).trans ((f1.n kB).trans nB)) hne l2 (by omega) fun h3 f3 l3 v3 => ⟨rfl, T, (f3.r _ _).trans ((f2.r _ _).trans ((f1.r _ _).trans eT)), f3.kd (f2.kd (f1.kd kT)), ?_⟩
    refine s_append (f3.kd (f2.kd (f1.kd kT))) ((f3.r _ _).trans ((f2.r _ _).trans ((f1.r _ _).trans eB))) (f3.kd (f2.kd (f1.kd kB))) ((f3.n (f2.kd (f1.kd kB))).trans ((f2.n (f1.kd kB)).trans ((f1.n kB).trans nB))) hne l3 (by omega) fun h4 f4 l4 v4 => ⟨rfl, T, (f4.r _ _).trans ((f3.r _ _).trans ((f2.r _ _).trans ((f1.r _ _).trans eT))), f4.kd (f3.kd (f2.kd (f1.kd kT))), ?_⟩
    refine s_append (f4.kd (f3.kd (f2.kd (f1.kd kT)))) ((f4.r _ _).trans ((f3.r _ _).trans ((f2.r _ _).trans ((f1.r _ _).trans eB)))) (f4.kd (f3.kd (f2.kd (f1.kd kB)))) ((f4.n (f3.kd (f2.kd (f1.kd kB)))).trans ((f3.n (f2.kd (f1.kd kB))).trans ((f2.n (f1.kd kB)).trans ((f1.n kB).trans nB)))) hne l4 (by omega) fun h5 f5 l5 v5 => ⟨rfl, T, (f5.r _ _).trans ((f4.r _ _).trans ((f3.r _ _).trans ((f2.r _ _).trans ((f1.r _ _).trans eT)))), f5.kd (f4.kd (f3.kd (f2.kd (f1.kd kT)))), ?_⟩
    rw [l5]
    refine hQ hr h5 ?_ l5 ?_
    · exact (f1.weak fun a k q => P5 q (by omega) (by omega)).tr ((f2.weak fun a k q => P5 q (by omega) (by omega)).tr ((f3.weak fun a k q => P5 q (by omega) (by omega)).tr ((f4.weak fun a k q => P5 q (by omega) (by omega)).tr (f5.weak fun a k q => P5 q (by omega) (by omega)))))
    · intro j hj
      have no : ∀ m, ¬ (m ≤ n + j ∧ n + j < m + 4) → ¬ ((B = T ∧ n + j = 0) ∨ (B = B ∧ m ≤ n + j ∧ n + j < m + 4)) := by
        intro m hm q
        rcases q with q | q
        · exact hne q.1
        · exact hm q.2
      unfold b5
      by_cases j1 : j < 4
      · rw [if_pos j1, f5.i (no _ (by omega)), f4.i (no _ (by omega)), f3.i (no _ (by omega)), f2.i (no _ (by omega)), v1 j j1, Nat.mod_eq_of_lt j1]
      · rw [if_neg j1]
        by_cases j2 : j < 8
        · rw [if_pos j2, f5.i (no _ (by omega)), f4.i (no _ (by omega)), f3.i (no _ (by omega)), show n + j = n + 4 + (j - 4) by omega, v2 (j - 4) (by omega), show j % 4 = j - 4 by omega]
        · rw [if_neg j2]
          by_cases j3 : j < 12
          · rw [if_pos j3, f5.i (no _ (by omega)), f4.i (no _ (by omega)), show n + j = n + 4 + 4 + (j - 8) by omega, v3 (j - 8) (by omega), show j % 4 = j - 8 by omega]
          · rw [if_neg j3]
            by_cases j4 : j < 16
            · rw [if_pos j4, f5.i (no _ (by omega)), show n + j = n + 4 + 4 + 4 + (j - 12) by omega, v4 (j - 12) (by omega), show j % 4 = j - 12 by omega]
            · rw [if_neg j4, show n + j = n + 4 + 4 + 4 + 4 + (j - 16) by omega, v5 (j - 16) (by omega), show j % 4 = j - 16 by omega]
  · rw [if_neg hr]
    exact ⟨0, rfl, fun q => absurd rfl q, fun _ => hQ0 hr⟩
end TP
