/-! ===== a text ===== -/
def TqF (b y t a k : Nat) : Prop := (a = b ∧ (k = 14 ∨ k = 15)) ∨ a = b + 1 ∨ (b + 3 ≤ a ∧ a ≤ b + 11) ∨ a = y ∨ a = y + 2 ∨ (a = y + 3 ∧ 400 * t ≤ k ∧ k < 400 * t + 400) ∨ a = y + 4 ∨ (a = y + 5 ∧ 60 * t ≤ k ∧ k < 60 * t + 60) ∨ ((a = y + 6 ∨ a = y + 7) ∧ k = t) ∨ a = y + 10
def TtR (b o N a k : Nat) : Prop := (a = b + 7 ∧ k = 4) ∨ (a = b + o ∧ k = N)
theorem InvB.txf {G : GG} {u0 : Nat} {h h2 : HP} {b y s p nl nw t o N : Nat} {La Wi Im : Nat → Nat} (I : InvB G u0 h b y s p) (T : TextX G h b y nl nw La Wi) (X : ImgX G h b y Im) (B3 : y + 21 ≤ hZ h) (F : FrK (TqF b y t) (TtR b o N) h h2) (ho : (o = 12 ∧ N = nl ∧ t = nl ∧ nl < 6) ∨ (o = 13 ∧ N = nw ∧ t = 6 + nw)) :
    (Kd G h2 b 11 ∧ ShL G h2 b clL ∧ MdSh G h2 y) ∧ ((∀ i, i < nl → hR h2 (b + 12) i = some (La i) ∧ y + 21 ≤ La i ∧ La i + 6 ≤ hZ h2 ∧ ScrX G h2 y (La i) i) ∧ (∀ i, i < nw → hR h2 (b + 13) i = some (Wi i) ∧ y + 21 ≤ Wi i ∧ Wi i + 6 ≤ hZ h2 ∧ ScrX G h2 y (Wi i) (6 + i))) ∧ ImgX G h2 b y Im ∧ imd h2 y = imd h y ∧ NowX G h2 b s p ∧ Core h2 b y s := by
  obtain ⟨⟨⟨g1, g2⟩, kb, Sh, M, -, -⟩, N', C⟩ := I
  have ns := N'.1
  obtain ⟨x1, x2, x3, x4, x5, x6, x7, x8⟩ := T
  have zz := F.1.1
  have ei : ∀ a k, a < hZ h → ¬ TqF b y t a k → hI h2 a k = hI h a k := fun a k ha n => F.2.1 a k ha n
  have er : ∀ a k, a < hZ h → ¬ TtR b o N a k → hR h2 a k = hR h a k := fun a k ha n => F.2.2 a k ha n
  have hi : ∀ a k, y + 11 ≤ a → a < hZ h → hI h2 a k = hI h a k := fun a k h1 h3 => ei a k h3 (by unfold TqF; omega)
  have hr : ∀ a k, b + 14 ≤ a → a < hZ h → hR h2 a k = hR h a k := fun a k h1 h3 => er a k h3 (by unfold TtR; omega)
  have em : imd h2 y = imd h y := funext fun k => by
    unfold imd
    rw [hi _ _ (by omega) (by omega)]
  have es : ∀ k, imS h2 y k = imS h y k := fun k => funext fun j => hi _ _ (by omega) (by omega)
  have scr : ∀ a i, y + 21 ≤ a → a + 6 ≤ hZ h → i ≠ t → ScrX G h y a i → ScrX G h2 y a i := fun a i h1 h3 h4 S => S.fr F.1 (fun x k _ _ => hr _ _ (by omega) (by omega)) (fun x k _ _ => hi _ _ (by omega) (by omega)) (fun k _ _ => ei _ _ (by omega) (by unfold TqF; omega)) (fun k _ _ => ei _ _ (by omega) (by unfold TqF; omega)) (ei _ _ (by omega) (by unfold TqF; omega)) (ei _ _ (by omega) (by unfold TqF; omega))
  refine ⟨⟨kb.up F.1, ?_, ⟨M.1.up F.1, fun z hz => ⟨(hr _ _ (by omega) (by omega)).trans (M.2 z hz).1, (M.2 z hz).2.1.up F.1, ((M.2 z hz).2.1.len F.1).trans (M.2 z hz).2.2⟩⟩⟩, ⟨fun i hi' => ?_, fun i hi' => ?_⟩, fun j hj => ?_, em, ?_, ?_⟩
  · intro z hz
    obtain ⟨a1, a2, a3, a4⟩ := Sh z hz
    have key : ∀ z ∈ clL, z.1 ≤ 31 ∧ ¬ z.1 = 12 ∧ ¬ z.1 = 13 ∧ ¬ (z.1 = 7 ∧ z.2.1 = 4) := by decide
    obtain ⟨k1, k2, k3, k4⟩ := key z hz
    exact ⟨by omega, (er _ _ (by omega) (by unfold TtR; omega)).trans a2, a3.up F.1, (a3.len F.1).trans a4⟩
  · obtain ⟨z1, z2, z3, z4⟩ := x7 i hi'
    exact ⟨(er _ _ (by omega) (by unfold TtR; omega)).trans z1, z2, by omega, scr _ _ z2 z3 (by omega) z4⟩
  · obtain ⟨z1, z2, z3, z4⟩ := x8 i hi'
    exact ⟨(er _ _ (by omega) (by unfold TtR; omega)).trans z1, z2, by omega, scr _ _ z2 z3 (by omega) z4⟩
  · rcases X j hj with ⟨z1, z2⟩ | ⟨z1, z2, z3, z4, z5, z6, z7, z8⟩
    · exact Or.inl ⟨(hr _ _ (by omega) (by omega)).trans z1, (hi _ _ (by omega) (by omega)).trans z2⟩
    · rw [es]
      exact Or.inr ⟨(hr _ _ (by omega) (by omega)).trans z1, (hi _ _ (by omega) (by omega)).trans z2, z3, by omega, z5.kp F.1 (fun a i _ _ => hr _ _ (by omega) (by omega)), z6.fr (fun a i _ _ => hi _ _ (by omega) (by omega)), z7, z8⟩
  · obtain ⟨n1, n2, n3, n4, n5⟩ := N'
    exact ⟨n1, (er _ _ (by omega) (by unfold TtR; omega)).trans n2, (er _ _ (by omega) (by unfold TtR; omega)).trans n3, n4.kp F.1 (fun a i _ _ => hr _ _ (by omega) (by omega)), n5.kp F.1 (fun a i _ _ => hr _ _ (by omega) (by omega))⟩
  · exact C.fr (fun j => hi _ _ (by omega) (by omega)) (fun a j _ _ => ei _ _ (by omega) (by unfold TqF; omega)) (fun a j _ _ => ei _ _ (by omega) (by unfold TqF; omega))
def TwF (y w t a k : Nat) : Prop := TxF y t a k ∨ (a = y ∧ (k = 1 ∨ k = 16)) ∨ (a = y + 2 ∧ k = w)
section TP
variable {G : GG} {d : Nat} {y : Nat} {B : Nat → Int32} {n k : Nat} {Q : Option Value → HP → Prop}
theorem r_textW {h : HP} {w N : Nat} (hd : 19 ≤ d) (hk : n < k) (hw : w < 2) (M : MdSh G h y) (E : RtB h y B n) (e2 : hI h (y + 2) w = nI N) (hN6 : N < 6)
    (h0 : ∀ e, txF B n k (decide (6 ≤ 6 * w + N)) 13 (TS0 B n) = .inl e → ∀ h2, FrI (TwF y w (6 * w + N)) h h2 → hI h2 y 1 = 0 → hI h2 (y + 2) w = nI N → Q (some (.int (-2 - nI e))) h2)
    (h1 : ∀ s, txF B n k (decide (6 ≤ 6 * w + N)) 13 (TS0 B n) = .inr s → ∀ h2, FrI (TwF y w (6 * w + N)) h h2 → hI h2 y 1 = 0 → hI h2 (y + 2) w = nI (N + 1) → ScrR h2 y (6 * w + N) (cl15 s.2.2.1) → hI h2 (y + 7) (6 * w + N) = jnI s.2.2.2 → Q (some (.int (nI N))) h2) : Cal G d mX12_text [.ref y, .int (nI w)] h Q := by
  obtain ⟨m1, m2, m3⟩ : hR h y 2 = some (y + 2) ∧ Kd G h (y + 2) 14 ∧ hN h (y + 2) = 2 := M.2 (2, 2, 14, 2) (by decide)
  obtain ⟨-, ⟨d1, d2, d3⟩, ⟨f1, f2, f3⟩⟩ := M.cla
  refine e_X12_text (by omega) (r_inN (lo := 0) (hi := 1) (by omega) (by simp) (by simp) (fun no => absurd ⟨w, by omega, by omega, rfl⟩ no) (fun _ _ _ _ => ⟨_, rfl, fun z => absurd z (by decide), fun _ => ⟨M.1, y + 2, m1, m2, by rw [m3]; exact vin_nI (by omega) (by omega), ?_⟩⟩))
  rw [cl_nI (by omega), e2]
  refine ⟨fun _ => ⟨by rw [m3]; exact vin_nI (by omega) (by omega), ?_⟩, fun z => ?_⟩
  rotate_left
  · have := (nI_eq_iff (b := 6) (by omega) (by omega)).mp z
    omega
  have et : (6 : Int32) * nI w + nI N = nI (6 * w + N) := by
    show nI 6 * nI w + nI N = _
    rw [nM, nA]
  rw [et]
  generalize ht : 6 * w + N = t at *
  have t12 : t < 12 := by omega
  refine ⟨y + 6, by rw [hR_sI]; exact d1, d2.sI, ?_⟩
  rw [hI_eq, cl_nI (by omega), hN_sI, d3]
  refine ⟨vin_nI (by omega) (by omega), fun h17 g17 => ?_⟩
  have F17 : FrI (TwF y w t) h h17 := by
    rw [g17]
    exact (FrI.sI (P := TwF y w t) h _ (Or.inr (Or.inl ⟨rfl, by omega⟩))).tr (FrI.sI _ _ (Or.inl (Or.inr (Or.inr (Or.inr (Or.inr (Or.inl ⟨rfl, rfl⟩)))))))
  have q16 : hI h17 y 16 = nI t := by rw [g17, hI_ne _ _ (Or.inl (by omega)), hI_eq]
  have q6 : hI h17 (y + 6) t = 0 := by rw [g17, hI_eq]
  refine ⟨y + 7, (F17.r _ _).trans f1, F17.kd f2, ?_⟩
  rw [q16, cl_nI (by omega), F17.n f2, f3]
  refine ⟨vin_nI (by omega) (by omega), ?_⟩
  generalize g18 : sI h17 (y + 7) t (-1) = h18
  have F18 : FrI (fun a k => a = y + 7 ∧ k = t) h17 h18 := by
    rw [← g18]
    exact FrI.sI h17 _ ⟨rfl, rfl⟩
  have FF : FrI (TwF y w t) h h18 := F17.tr (F18.weak (fun a k z => Or.inl (Or.inr (Or.inr (Or.inr (Or.inr (Or.inr (Or.inl z))))))))
  have E18 : RtB h18 y B n := by
    have i8 : ∀ a k, (a = y ∧ k = 1) ∨ a = y + 1 → hI h18 a k = hI h a k := fun a k ha => by
      rw [F18.i (by omega), g17, hI_ne _ _ (by omega), hI_ne _ _ (by omega)]
    obtain ⟨q1, q2, q3, q4⟩ := E
    exact ⟨(i8 _ _ (Or.inl ⟨rfl, rfl⟩)).trans q1, q2, fun k hk => (i8 _ _ (Or.inr rfl)).trans (q3 k hk), q4⟩
  have q2 : hI h18 (y + 2) w = nI N := by
    rw [F18.i (by omega), g17, hI_ne _ _ (Or.inl (by omega)), hI_ne _ _ (Or.inl (by omega))]
    exact e2
  have fin : ∀ h25, FrI (TxF y t) h18 h25 → FrI (TwF y w t) h (sI h25 y 1 0) ∧ hI (sI h25 y 1 0) (y + 2) w = nI N ∧ hI (sI h25 y 1 0) y 1 = 0 := fun h25 F25 => ⟨(FF.tr (F25.weak (fun a k z => Or.inl z))).tr (FrI.sI h25 _ (Or.inr (Or.inl ⟨rfl, by omega⟩))), by rw [hI_ne _ _ (Or.inl (by omega)), F25.i (by unfold TxF; omega)]; exact q2, hI_eq _ _ _ _⟩
  refine r_readsAllT (k := k) (t := t) (by omega) hk rfl t12 (M.fr FF) E18 ((F18.i (by omega)).trans q16) ((F18.i (by omega)).trans q6) (by rw [← g18, hI_eq]) (fun e he h25 F25 f25 => ⟨_, rfl, fun z => absurd rfl z, fun _ => ?_⟩) (fun s hs h25 F25 L25 => ⟨_, rfl, fun _ => ?_, fun z => absurd z (by decide)⟩)
  · rw [hI_ne _ _ (Or.inr (by omega)), f25]
    obtain ⟨u1, u2, u3⟩ := fin h25 F25
    exact h0 e he _ u1 u3 u2
  · obtain ⟨u1, u2, u3⟩ := fin h25 F25
    have SP := txF_inr hk (ts0_p B n _) hs
    have sr := L25.scr SP
    generalize g26 : sI h25 y 1 0 = h26 at *
    have mm : hR h26 y 2 = some (y + 2) ∧ Kd G h26 (y + 2) 14 ∧ hN h26 (y + 2) = 2 := ⟨(u1.r _ _).trans m1, u1.kd m2, (u1.n m2).trans m3⟩
    refine ⟨y + 2, mm.1, mm.2.1, by rw [mm.2.2]; exact vin_nI (by omega) (by omega), by rw [mm.2.2]; exact vin_nI (by omega) (by omega), by rw [hN_sI, mm.2.2]; exact vin_nI (by omega) (by omega), ?_⟩
    rw [u2, nI_S, hI_eq, show nI (N + 1) - 1 = nI N from by show nI _ - nI 1 = _; rw [nS (by omega), Nat.add_sub_cancel]]
    have i26 : ∀ a k, a ≠ y → a ≠ y + 2 → hI (sI h26 (y + 2) w (nI (N + 1))) a k = hI h25 a k := fun a k h1 h3 => by
      rw [hI_ne _ _ (Or.inl h3), ← g26, hI_ne _ _ (Or.inl h1)]
    refine h1 s hs _ (u1.tr (FrI.sI (P := TwF y w t) h26 _ (Or.inr (Or.inr ⟨rfl, rfl⟩)))) ((hI_ne _ _ (Or.inl (by omega))).trans u3) (hI_eq _ _ _ _) (sr.fr (Nat.le_trans (cl15_len _) SP.2.2.1) (fun k _ _ => i26 _ _ (by omega) (by omega)) (fun k _ _ => i26 _ _ (by omega) (by omega)) (i26 _ _ (by omega) (by omega))) ((i26 _ _ (by omega) (by omega)).trans L25.2.2.2.2)
end TP
