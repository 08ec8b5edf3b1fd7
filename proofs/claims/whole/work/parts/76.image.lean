/-! ===== images ===== -/
/-- cells that were there keep what they hold, but for P -/
def FrK (P RP : Nat → Nat → Prop) (h h2 : HP) : Prop := KP h h2 ∧ (∀ a k, a < hZ h → ¬ P a k → hI h2 a k = hI h a k) ∧ ∀ a k, a < hZ h → ¬ RP a k → hR h2 a k = hR h a k
theorem FrK.tr {P RP : Nat → Nat → Prop} {h h1 h2 : HP} (p : FrK P RP h h1) (q : FrK P RP h1 h2) : FrK P RP h h2 :=
  ⟨p.1.tr q.1, fun a k ha n => (q.2.1 a k (Nat.lt_of_lt_of_le ha p.1.1) n).trans (p.2.1 a k ha n), fun a k ha n => (q.2.2 a k (Nat.lt_of_lt_of_le ha p.1.1) n).trans (p.2.2 a k ha n)⟩
theorem FrI.k {P : Nat → Nat → Prop} {h h2 : HP} (F : FrI P h h2) {P' RP : Nat → Nat → Prop} (hp : ∀ a k, P a k → P' a k) : FrK P' RP h h2 := ⟨F.1, fun a k _ n => F.i (fun z => n (hp a k z)), fun a k _ _ => F.r a k⟩
theorem InvB.setImg {G : GG} {u0 : Nat} {h h2 : HP} {b y s p nl nw : Nat} {La Wi Im : Nat → Nat} {P RP : Nat → Nat → Prop} (I : InvB G u0 h b y s p) (T : TextX G h b y nl nw La Wi) (X : ImgX G h b y Im) (D : DisX h y nl nw La Wi Im) (B : BudX u0 h y nl nw) {k q : Nat} (hk : k < 4) (F : FrK P RP h h2)
    (hP : ∀ a j, P a j → (a = y + 19 ∧ 2440 * k ≤ j ∧ j < 2440 * k + 2440) ∨ (a = y + 20 ∧ j = k) ∨ (q ≤ a ∧ a < q + 42)) (hRP : ∀ a j, RP a j → a = b + 14 ∧ j = k) (hq : y + 21 ≤ q ∧ q + 42 ≤ hZ h2)
    (hqd : (imd h y k = true ∧ q = Im k ∧ hZ h2 = hZ h ∧ hU h2 = hU h) ∨ (imd h y k = false ∧ q = hZ h ∧ hZ h2 = hZ h + 42 ∧ hU h2 ≤ hU h + 3000)) (r2 : hR h2 (b + 14) k = some q) (m2 : hI h2 (y + 20) k = 1) (st : StSh G h2 q) (co : CoSt h2 q (imS h2 y k)) (wf : WF (imS h2 y k)) (yr : (imS h2 y k 3).toInt ≤ 9999) : InvB G u0 h2 b y s p := by
  obtain ⟨⟨⟨g1, g2⟩, kb, Sh, M, tp, -⟩, N, C⟩ := I
  obtain ⟨B1, B2, B3⟩ := B
  have ns := N.1
  have ei : ∀ a j, a < hZ h → ¬ ((a = y + 19 ∧ 2440 * k ≤ j ∧ j < 2440 * k + 2440) ∨ (a = y + 20 ∧ j = k) ∨ (q ≤ a ∧ a < q + 42)) → hI h2 a j = hI h a j := fun a j ha n => F.2.1 a j ha (fun z => n (hP a j z))
  have er : ∀ a j, a < hZ h → ¬ (a = b + 14 ∧ j = k) → hR h2 a j = hR h a j := fun a j ha n => F.2.2 a j ha (fun z => n (hRP a j z))
  have elow : ∀ a j, a < y + 19 → hI h2 a j = hI h a j := fun a j ha => ei a j (by omega) (by omega)
  have em : ∀ j, j ≠ k → imd h2 y j = imd h y j := fun j hj => by
    unfold imd
    rw [ei _ _ (by omega) (by omega)]
  have emk : imd h2 y k = true := by
    unfold imd
    rw [m2]; rfl
  have es : ∀ j, j ≠ k → ∀ i, i < 2440 → imS h2 y j i = imS h y j i := fun j hj i hi => ei _ _ (by omega) (by omega)
  -- what lies apart from q
  have apart : ∀ a n, a + n ≤ hZ h → (imd h y k = true → a + n ≤ Im k ∨ Im k + 42 ≤ a) → a + n ≤ q ∨ q + 42 ≤ a := fun a n h1 h3 => by
    rcases hqd with ⟨z, e, -, -⟩ | ⟨-, e, -, -⟩
    · rw [e]; exact h3 z
    · left; omega
  have scr : ∀ a t, y + 21 ≤ a → a + 6 ≤ hZ h → (a + 6 ≤ q ∨ q + 42 ≤ a) → ScrX G h y a t → ScrX G h2 y a t := fun a t h1 h3 h4 S => S.fr F.1 (fun x j _ _ => er _ _ (by omega) (by omega)) (fun x j _ _ => ei _ _ (by omega) (by omega)) (fun j _ _ => elow _ _ (by omega)) (fun j _ _ => elow _ _ (by omega)) (elow _ _ (by omega)) (elow _ _ (by omega))
  obtain ⟨x1, x2, x3, x4, x5, x6, x7, x8⟩ := T
  have cnt : cntF (imd h2 y) 0 4 = cntF (imd h y) 0 4 + (if imd h y k = true then 0 else 1) := by
    have := cntF_rm (p := imd h2 y) (q := fun j => if j = k then false else imd h2 y j) (w := k) 4 0 (by omega) (by omega) (fun j hj => if_neg hj) (if_pos rfl)
    rw [emk, if_pos rfl] at this
    have this2 := cntF_rm (p := imd h y) (q := fun j => if j = k then false else imd h2 y j) (w := k) 4 0 (by omega) (by omega) (fun j hj => (if_neg hj).trans (em j hj)) (if_pos rfl)
    by_cases c : imd h y k = true
    · rw [if_pos c] at this2 ⊢
      omega
    · rw [if_neg c] at this2 ⊢
      omega
  obtain ⟨Im', hIk, hIo⟩ : ∃ Im' : Nat → Nat, Im' k = q ∧ ∀ j, j ≠ k → Im' j = Im j := ⟨fun j => if j = k then q else Im j, if_pos rfl, fun j hj => if_neg hj⟩
  refine ⟨⟨⟨g1, g2⟩, kb.up F.1, ?_, ⟨M.1.up F.1, fun z hz => ⟨(er _ _ (by omega) (by omega)).trans (M.2 z hz).1, (M.2 z hz).2.1.up F.1, ((M.2 z hz).2.1.len F.1).trans (M.2 z hz).2.2⟩⟩, ?_, nl, nw, La, Wi, Im', ⟨x1, x2, (elow _ _ (by omega)).trans x3, (elow _ _ (by omega)).trans x4, (elow _ _ (by omega)).trans x5, (elow _ _ (by omega)).trans x6, fun i hi => ?_, fun i hi => ?_⟩, fun j hj => ?_, fun j hj mj => ?_, ?_⟩, ?_, ?_⟩
  · intro z hz
    obtain ⟨a1, a2, a3, a4⟩ := Sh z hz
    have key : ∀ z ∈ clL, z.1 ≤ 31 ∧ ¬ z.1 = 14 := by decide
    obtain ⟨k1, k2⟩ := key z hz
    exact ⟨by have := F.1.1; omega, (er _ _ (by omega) (by omega)).trans a2, a3.up F.1, (a3.len F.1).trans a4⟩
  · obtain ⟨n, t1, t2, t3, t4⟩ := tp
    refine ⟨n, t1, (elow _ _ (by omega)).trans t2, (elow _ _ (by omega)).trans t3, fun j hj => ?_⟩
    rw [elow _ _ (by omega), elow (y + 1) _ (by omega)]
    exact t4 j hj
  · obtain ⟨z1, z2, z3, z4⟩ := x7 i hi
    refine ⟨(er _ _ (by omega) (by omega)).trans z1, z2, by have := F.1.1; omega, scr _ _ z2 z3 (apart _ 6 z3 (fun m => ?_)) z4⟩
    exact (D k hk m).1 i hi
  · obtain ⟨z1, z2, z3, z4⟩ := x8 i hi
    refine ⟨(er _ _ (by omega) (by omega)).trans z1, z2, by have := F.1.1; omega, scr _ _ z2 z3 (apart _ 6 z3 (fun m => ?_)) z4⟩
    exact (D k hk m).2.1 i hi
  · by_cases c : j = k
    · subst c
      right
      rw [hIk]
      exact ⟨r2, m2, hq.1, hq.2, st, co, wf, yr⟩
    · rw [hIo j c]
      rcases X j hj with ⟨z1, z2⟩ | ⟨z1, z2, z3, z4, z5, z6, z7, z8⟩
      · exact Or.inl ⟨(er _ _ (by omega) (by omega)).trans z1, (ei _ _ (by omega) (by omega)).trans z2⟩
      · have mj : imd h y j = true := by
          unfold imd
          rw [z2]; rfl
        have ap := apart (Im j) 42 z4 (fun m => (D k hk m).2.2 j hj c mj)
        have e2 : ∀ i, i < 2440 → imS h2 y j i = imS h y j i := es j c
        refine Or.inr ⟨(er _ _ (by omega) (by omega)).trans z1, (ei _ _ (by omega) (by omega)).trans z2, z3, by have := F.1.1; omega, z5.kp F.1 (fun a i _ _ => er _ _ (by omega) (by omega)), ?_, z7.ext e2, by rw [e2 3 (by omega)]; exact z8⟩
        exact CoSt.ext z7 (z6.fr (fun a i _ _ => ei _ _ (by omega) (by omega))) e2
  · by_cases c : j = k
    · subst c
      rw [hIk]
      refine ⟨fun i hi => apart _ 6 (x7 i hi).2.2.1 (fun m => (D j hk m).1 i hi), fun i hi => apart _ 6 (x8 i hi).2.2.1 (fun m => (D j hk m).2.1 i hi), fun i hi hne mi => ?_⟩
      rw [hIo i hne]
      rw [em i hne] at mi
      have z4 : Im i + 42 ≤ hZ h := by
        rcases X i hi with ⟨-, z2⟩ | z
        · unfold imd at mi
          rw [z2] at mi
          exact absurd mi (by decide)
        · exact z.2.2.2.1
      exact apart _ 42 z4 (fun m => (D j hk m).2.2 i hi hne mi)
    · rw [em j c] at mj
      rw [hIo j c]
      obtain ⟨d1, d2, d3⟩ := D j hj mj
      refine ⟨d1, d2, fun i hi hne mi => ?_⟩
      by_cases ci : i = k
      · subst ci
        rw [hIk]
        have z4 : Im j + 42 ≤ hZ h := by
          rcases X j hj with ⟨-, z2⟩ | z
          · unfold imd at mj
            rw [z2] at mj
            exact absurd mj (by decide)
          · exact z.2.2.2.1
        have := apart _ 42 z4 (fun m => (D i hk m).2.2 j hj c mj)
        omega
      · rw [hIo i ci]
        rw [em i ci] at mi
        exact d3 i hi hne mi
  · unfold BudX
    rw [cnt]
    generalize cntF (imd h y) 0 4 = n4 at *
    rcases hqd with ⟨z, e, z1, z2⟩ | ⟨z, e, z1, z2⟩
    · rw [if_pos z, z1, z2]
      exact ⟨by omega, by omega, by omega⟩
    · rw [if_neg (by rw [z]; simp), z1]
      refine ⟨by omega, ?_, by omega⟩
      rw [Nat.mul_add 3000 n4 1, Nat.mul_one, ← Nat.add_assoc]
      exact Nat.le_trans z2 (Nat.add_le_add_right B2 3000)
  · obtain ⟨n1, n2, n3, n4, n5⟩ := N
    exact ⟨n1, (er _ _ (by omega) (by omega)).trans n2, (er _ _ (by omega) (by omega)).trans n3, n4.kp F.1 (fun a i _ _ => er _ _ (by omega) (by omega)), n5.kp F.1 (fun a i _ _ => er _ _ (by omega) (by omega))⟩
  · exact C.fr (fun j => elow _ _ (by omega)) (fun a j _ _ => elow _ _ (by omega)) (fun a j _ _ => elow _ _ (by omega))
section IM
variable {G : GG} {d : Nat} {Q : Option Value → HP → Prop}
theorem n2440_not {i : Nat} (h : i < 2440) : ¬ (2440 : Int32) ≤ nI i := fun q => by
  have := (nI_le_iff (a := 2440) (b := i) (by omega) (by omega)).mp q
  omega
theorem r_image23 {h : HP} {y k : Nat} (hd : 4 ≤ d) (hk : k < 4) (M : MdSh G h y) (W : WF (said h y)) (hQ : ∀ h2, FrI (fun a j => a = y + 19 ∧ 2440 * k ≤ j ∧ j < 2440 * k + 2440) h h2 → (∀ j, j < 2440 → imS h2 y k j = said h y j) → Q (some (.int (nI (cntF (wallB (tS (said h y))) 6 24)))) h2) : Ex G d mX12_image 23 [(0, .ref y), (1, .int (nI k)), (2, .int 0)] [] h Q := by
  have loop : ∀ n i h1, i + n = 2440 → FrI (fun a j => a = y + 19 ∧ 2440 * k ≤ j ∧ j < 2440 * k + 2440) h h1 → (∀ j, j < i → imS h1 y k j = said h y j) → Ex G d mX12_image 23 [(0, .ref y), (1, .int (nI k)), (2, .int (nI i))] [] h1 Q := by
    intro n
    induction n with
    | zero =>
      intro i h1 hi F V
      obtain rfl : i = 2440 := by omega
      have M1 := M.fr F
      have eS : said h1 y = said h y := funext fun j => F.i (by omega)
      refine t_X12_image_23 (by omega) ⟨fun _ => ⟨M1.1, r_wallMany (by omega) M1 (by rw [sd_tS, eS]; exact W.2.2.1) ⟨_, rfl, ?_⟩⟩, fun q => absurd (show (2440 : Int32) ≤ nI 2440 by decide) q⟩
      rw [sd_tS, eS]
      exact hQ h1 F V
    | succ n ih =>
      intro i h1 hi F V
      have M1 := M.fr F
      obtain ⟨m1, m2, m3⟩ := M1.sd
      obtain ⟨p1, p2, p3⟩ : hR h1 y 49 = some (y + 19) ∧ Kd G h1 (y + 19) 14 ∧ hN h1 (y + 19) = 9760 := M1.2 (49, 19, 14, 9760) (by decide)
      have e : 2440 * nI k + nI i = nI (2440 * k + i) := by
        show nI 2440 * nI k + nI i = _
        rw [nM, nA]
      refine t_X12_image_23 (by omega) ⟨fun q => absurd q (n2440_not (by omega)), fun _ => ⟨M1.1, y + 19, p1, y + 13, m1, m2, by rw [m3]; exact vin_nI (by omega) (by omega), p2, by rw [e, p3]; exact vin_nI (by omega) (by omega), ?_⟩⟩
      rw [e, cl_nI (by omega), cl_nI (by omega), nI_S]
      refine ih (i + 1) _ (by omega) (F.tr (FrI.sI _ _ ⟨rfl, by omega, by omega⟩)) (fun j hj => ?_)
      unfold imS
      by_cases c : j = i
      · subst c
        rw [hI_eq]
        exact F.i (by omega)
      · rw [hI_ne _ _ (Or.inr (by omega))]
        exact V j (by omega)
  exact loop 2440 0 h (by omega) (FrI.rf _ h) (fun j hj => by omega)
theorem r_back25 {h : HP} {y k : Nat} (hd : 4 ≤ d) (hk : k < 4) (M : MdSh G h y) (W : WF (imS h y k)) (hQ : ∀ h2, FrI (fun a _ => a = y + 13) h h2 → (∀ j, j < 2440 → said h2 y j = imS h y k j) → Q (some (.int (nI (cntF (wallB (tS (said h2 y))) 6 24)))) h2) : Ex G d mX12_back 25 [(0, .ref y), (1, .int (nI k)), (2, .int 0)] [] h Q := by
  have loop : ∀ n i h1, i + n = 2440 → FrI (fun a _ => a = y + 13) h h1 → (∀ j, j < i → said h1 y j = imS h y k j) → Ex G d mX12_back 25 [(0, .ref y), (1, .int (nI k)), (2, .int (nI i))] [] h1 Q := by
    intro n
    induction n with
    | zero =>
      intro i h1 hi F V
      obtain rfl : i = 2440 := by omega
      have M1 := M.fr F
      have W1 : WF (said h1 y) := W.ext V
      exact t_X12_back_25 (by omega) ⟨fun _ => ⟨M1.1, r_wallMany (by omega) M1 W1.2.2.1 ⟨_, rfl, hQ h1 F V⟩⟩, fun q => absurd (show (2440 : Int32) ≤ nI 2440 by decide) q⟩
    | succ n ih =>
      intro i h1 hi F V
      have M1 := M.fr F
      obtain ⟨m1, m2, m3⟩ := M1.sd
      obtain ⟨p1, p2, p3⟩ : hR h1 y 49 = some (y + 19) ∧ Kd G h1 (y + 19) 14 ∧ hN h1 (y + 19) = 9760 := M1.2 (49, 19, 14, 9760) (by decide)
      have e : 2440 * nI k + nI i = nI (2440 * k + i) := by
        show nI 2440 * nI k + nI i = _
        rw [nM, nA]
      refine t_X12_back_25 (by omega) ⟨fun q => absurd q (n2440_not (by omega)), fun _ => ⟨M1.1, y + 13, m1, y + 19, p1, p2, by rw [e, p3]; exact vin_nI (by omega) (by omega), m2, by rw [m3]; exact vin_nI (by omega) (by omega), ?_⟩⟩
      rw [e, cl_nI (by omega), cl_nI (by omega), nI_S]
      refine ih (i + 1) _ (by omega) (F.tr (FrI.sI _ _ rfl)) (fun j hj => ?_)
      unfold said
      by_cases c : j = i
      · subst c
        rw [hI_eq]
        exact F.i (by omega)
      · rw [hI_ne _ _ (Or.inr c)]
        exact V j (by omega)
  exact loop 2440 0 h (by omega) (FrI.rf _ h) (fun j hj => by omega)
end IM
theorem TbSh.of {G : GG} {u0 : Nat} {h : HP} {b y s p : Nat} (I : InvB G u0 h b y s p) : hR h b 6 = some (b + 15) ∧ TbSh G h b := by
  have S := I.1.2.2.1
  obtain ⟨-, a1, a2, -⟩ : _ ∧ hR h b 6 = some (b + 15) ∧ Kd G h (b + 15) 7 ∧ hN h (b + 15) = 5 := S (0, 6, 15, 7, 5) (by decide)
  obtain ⟨-, c1, c2, c3⟩ : _ ∧ hR h (b + 15) 0 = some (b + 16) ∧ Kd G h (b + 16) 14 ∧ hN h (b + 16) = 1681 := S (15, 0, 16, 14, 1681) (by decide)
  obtain ⟨-, d1, d2, d3⟩ : _ ∧ hR h (b + 15) 1 = some (b + 17) ∧ Kd G h (b + 17) 14 ∧ hN h (b + 17) = 1681 := S (15, 1, 17, 14, 1681) (by decide)
  obtain ⟨-, e1, e2, e3⟩ : _ ∧ hR h (b + 15) 2 = some (b + 18) ∧ Kd G h (b + 18) 14 ∧ hN h (b + 18) = 1681 := S (15, 2, 18, 14, 1681) (by decide)
  obtain ⟨-, f1, f2, f3⟩ : _ ∧ hR h (b + 15) 3 = some (b + 19) ∧ Kd G h (b + 19) 14 ∧ hN h (b + 19) = 1681 := S (15, 3, 19, 14, 1681) (by decide)
  obtain ⟨-, g1, g2, g3⟩ : _ ∧ hR h (b + 15) 4 = some (b + 20) ∧ Kd G h (b + 20) 14 ∧ hN h (b + 20) = 1681 := S (15, 4, 20, 14, 1681) (by decide)
  refine ⟨a1, a2, ⟨c1, d1, e1, f1, g1⟩, fun a h1 h2 => ?_⟩
  have : a = b + 16 ∨ a = b + 17 ∨ a = b + 18 ∨ a = b + 19 ∨ a = b + 20 := by omega
  rcases this with rfl | rfl | rfl | rfl | rfl
  · exact ⟨c2, c3⟩
  · exact ⟨d2, d3⟩
  · exact ⟨e2, e3⟩
  · exact ⟨f2, f3⟩
  · exact ⟨g2, g3⟩
theorem LandS.of {h : HP} {s : Nat} {S : Nat → Int32} (C : CoSt h s S) (W : WF S) : LandS h s S := ⟨⟨C.1 0 (by omega), C.1 1 (by omega)⟩, C.2.1, ⟨W.1.1.1, W.1.1.2.1⟩, W.1.2.1⟩
