/-! ===== making the reference ===== -/
section CT3
variable {G : GG} {d : Nat} {h : HP} {Q : Option Value → HP → Prop} {y : Nat}
theorem s_X12_init (hd : 1 ≤ d) (k : Kd G h y 12) (hz : hZ h = y + 1) (i0 : ∀ k, hI h y k = 0)
    (hQ : ∀ h2, Ext (fun x _ => x = y) h h2 → hZ h2 = y + 21 → hU h2 ≤ hU h + 40000 → MdSh G h2 y → (∀ k, hI h2 y k = 0) → (∀ k, hI h2 (y + 13) k = if k < 2 then 20 else if 8 ≤ k ∧ k < 1608 then 1 else 0) → (∀ a k, y < a → a < y + 21 → a ≠ y + 13 → hI h2 a k = 0) → Q none h2) : Cal G d mX12_init [.ref y] h Q := by
  have hg := k.2.1
  refine e_X12_init hd ?_
  intro q1 h2 e1 e2
  refine ⟨by subst e2; exact k.up (KP.nw _ _ _), ?_⟩
  intro q7 h8 a1 a2 q12 h13 a3 a4 q17 h18 a5 a6 q22 h23 a7 a8 q27 h28 a9 a10 q32 h33 a11 a12 q37 h38 a13 a14 q42 h43 a15 a16 q47 h48 a17 a18 q52 h53 a19 a20 q57 h58 a21 a22 q62 h63 a23 a24 q67 h68 a25 a26 q72 h73 a27 a28 q77 h78 a29 a30 q82 h83 a31 a32 q87 h88 a33 a34 q92 h93 a35 a36 q97 h98 a37 a38
  subst e1 e2 a1 a2 a3 a4 a5 a6 a7 a8 a9 a10 a11 a12 a13 a14 a15 a16 a17 a18 a19 a20 a21 a22 a23 a24 a25 a26 a27 a28 a29 a30 a31 a32 a33 a34 a35 a36 a37 a38
  have M := mk_F G y moL h (by omega) k.2.2 (by decide)
  generalize hg1 : mkL h y moL = g1 at M
  show ∃ q102, hR (mkL h y moL) y 29 = some q102 ∧ Kd G (mkL h y moL) q102 14 ∧ vp_in 0 (hN (mkL h y moL) q102) ∧ vp_in 1 (hN (sI (mkL h y moL) q102 0 20) q102) ∧ Ex G d mX12_init 192 [(0, .ref y), (1, .int 0)] [] (sI (sI (mkL h y moL) q102 0 20) q102 1 20) Q
  rw [hg1]
  obtain ⟨m1, m2, m3, m4, m5, m6⟩ := M
  rw [hz] at m2 m4 m5 m6
  obtain ⟨b1, b2, b3⟩ := m6 12 (29, 14, 2440) rfl
  replace b1 : Kd G g1 (y + 13) 14 := b1
  replace b2 : hN g1 (y + 13) = 2440 := b2
  replace b3 : hR g1 y 29 = some (y + 13) := b3
  refine ⟨y + 13, b3, b1, by rw [b2]; exact vin_nI (k := 0) (by omega) (by omega), by rw [hN_sI, b2]; exact vin_nI (k := 1) (by omega) (by omega), ?_⟩
  have loop : ∀ m i h1, i + m = 1600 → FrI (fun a k => a = y + 13 ∧ 8 ≤ k ∧ k < 1608) (sI (sI g1 (y + 13) 0 20) (y + 13) 1 20) h1 → (∀ c, c < i → hI h1 (y + 13) (8 + c) = 1) → Ex G d mX12_init 192 [(0, .ref y), (1, .int (nI i))] [] h1 Q := by
    intro m
    induction m with
    | zero =>
      intro i h1 hi F hc
      obtain rfl : i = 1600 := by omega
      refine t_X12_init_192 ⟨fun _ => ?_, fun q => absurd (show (1600 : Int32) ≤ nI 1600 by decide) q⟩
      have kp : KP g1 h1 := ((kp_sI _ _ _ _).tr (kp_sI _ _ _ _)).tr F.1
      have ei : ∀ a k, (a ≠ y + 13 ∨ (2 ≤ k ∧ ¬ (8 ≤ k ∧ k < 1608))) → hI h1 a k = hI g1 a k := fun a k ha => by
        rw [F.i (by omega), hI_sI, if_neg (by omega), hI_sI, if_neg (by omega)]
      refine hQ h1 ⟨m1.tr kp, fun b k hb => ?_⟩ (F.2.1.trans m2) ?_ ⟨(k.up m1).up kp, fun q hq => ?_⟩ (fun k => ?_) (fun k => ?_) (fun a k h1 h2 h3 => ?_)
      · obtain ⟨n1, n2, n3⟩ := m4 b k (by omega)
        exact ⟨by rw [ei b k (by omega), n1], by rw [F.l, hL_sI, hL_sI, n2], fun hb' => by rw [F.r, hR_sI, hR_sI, n3 (Or.inl hb')]⟩
      · rw [F.2.2.1, hU_sI, hU_sI, m3]
        have : sumL moL = 29103 := rfl
        omega
      · have key : ∀ q ∈ mdL, ∃ i, moL[i]? = some (q.1, q.2.2.1, q.2.2.2) ∧ q.2.1 = 1 + i := by
          intro q hq
          have : ∀ q ∈ mdL, moL[q.2.1 - 1]? = some (q.1, q.2.2.1, q.2.2.2) ∧ q.2.1 = 1 + (q.2.1 - 1) := by decide
          exact ⟨_, this q hq⟩
        obtain ⟨i, e1, e2⟩ := key q hq
        obtain ⟨n1, n2, n3⟩ := m6 i _ e1
        rw [show y + 1 + i = y + q.2.1 by omega] at n1 n2 n3
        exact ⟨by rw [F.r, hR_sI, hR_sI]; exact n3, n1.up kp, (n1.len kp).trans n2⟩
      · rw [ei y k (by omega), (m4 y k (by omega)).1, i0]
      · by_cases h2 : k < 2
        · rw [if_pos h2, F.i (by omega), hI_sI, hI_sI]
          rcases (show k = 0 ∨ k = 1 by omega) with rfl | rfl <;> simp
        · rw [if_neg h2]
          by_cases h8 : 8 ≤ k ∧ k < 1608
          · rw [if_pos h8]
            have := hc (k - 8) (by omega)
            rw [show 8 + (k - 8) = k by omega] at this
            exact this
          · rw [if_neg h8, ei _ _ (by omega)]
            exact (m5 (y + 13) k (by omega) (by simp [moL])).1
      · rw [ei _ _ (by omega)]
        exact (m5 a k (by omega) (by simp [moL]; omega)).1
    | succ m ih =>
      intro i h1 hi F hc
      have kp : KP g1 h1 := ((kp_sI _ _ _ _).tr (kp_sI _ _ _ _)).tr F.1
      have e8 : (8 + nI i : Int32) = nI (8 + i) := by
        rw [ti_eq, ti_add] <;> rw [show (8 : Int32).toInt = 8 from rfl, ti_nI (by omega)] <;> first | omega | rw [ti_nI (by omega)]; omega
      refine t_X12_init_192 ⟨fun q => absurd ((nI_le_iff (a := 1600) (b := i) (by omega) (by omega)).mp q) (by omega), fun _ => ⟨(k.up m1).up kp, y + 13, by rw [F.r, hR_sI, hR_sI, b3], b1.up kp, ?_, ?_⟩⟩
      · rw [b1.len kp, b2, e8]; exact vin_nI (by omega) (by omega)
      · rw [nI_S, e8, cl_nI (by omega)]
        refine ih (i + 1) _ (by omega) (F.tr (FrI.sI _ _ ⟨rfl, by omega, by omega⟩)) (fun c hc2 => ?_)
        rw [hI_sI]
        by_cases hci : c = i
        · subst hci; simp
        · rw [if_neg (by omega)]; exact hc c (by omega)
  exact loop 1600 0 _ rfl (FrI.rf _ _) (fun c hc => absurd hc (by omega))
end CT3
