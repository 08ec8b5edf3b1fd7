theorem p_after (G : GG) (u0 : Nat) (h : HP) (I : Inv G u0 h) (x1 x2 x3 : Int32) : Pr (Inv G u0) G G.1 (G.1 + 119) mX11_after mX12_after [.int x1, .int x2, .int x3] h := by
  obtain ⟨s, p, I⟩ := I
  unfold Pr Inv
  generalize G.1 = b at *
  generalize hy : b + 119 = y at *
  have B := I.bd
  have M := B.2.1
  have W := B.2.2.2
  have ns := I.2.1.1
  obtain ⟨nl, nw', La, Wi, Im, T, X, D0, Bu⟩ := I.1.2.2.2.2.2
  have nl6 := T.1
  have t0 : (0 : Int32).toInt = 0 := rfl
  have t60 : (60 : Int32).toInt = 60 := rfl
  have t3 : (3 : Int32).toInt = 3 := rfl
  have ok : some (Value.int (-1)) = some (Value.int (-1)) ∧ ∃ s p, InvB G u0 h b y s p := ⟨rfl, s, p, I⟩
  have y0 := W.1.1.2.2.2.1
  have y9 := I.2.2.2.2.1
  have R : ∀ {h1 : HP} {Q : Option Value → HP → Prop}, MdSh G h1 y → hI h1 (y + 2) 0 = nI nl → ((¬ ((0 ≤ x1.toInt ∧ x1.toInt < nl) ∧ (0 ≤ x2.toInt ∧ x2.toInt ≤ 60) ∧ (0 ≤ x3.toInt ∧ x3.toInt ≤ 3))) → Q (some (.int (-1))) h1) → (((0 ≤ x1.toInt ∧ x1.toInt < nl) ∧ (0 ≤ x2.toInt ∧ x2.toInt ≤ 60) ∧ (0 ≤ x3.toInt ∧ x3.toInt ≤ 3)) → Cal G 58 mX12_keeps [.ref y] h1 (fun r17 h18 => r17 = none ∧ Ex G 59 mX12_after 42 [(0, .ref y), (1, .int x1), (2, .int x2), (3, .int x3), (4, .int 0)] [] h18 Q)) → Cal G 59 mX12_after [.ref y, .int x1, .int x2, .int x3] h1 Q := by
    intro h1 Q M1 T0 q0 q1
    refine e_X12_after (by omega) ⟨M1.1, r_isText (k := 0) M1 (by omega) T0 nl6 (fun c => ⟨_, rfl, fun _ => q0 (fun z => c z.1), fun q => absurd rfl q⟩) (fun l hl el => ⟨_, rfl, fun q => absurd q (by decide), fun _ => r_inN (lo := 0) (hi := 60) (by omega) rfl rfl (fun c => ⟨_, rfl, fun _ => q0 (fun z => c ?_), fun q => absurd rfl q⟩) (fun m m1' m2' em => ⟨_, rfl, fun q => absurd q (by decide), fun _ => r_inN (lo := 0) (hi := 3) (by omega) rfl rfl (fun c => ⟨_, rfl, fun q => absurd rfl q, fun _ => q0 (fun z => c ?_)⟩) (fun k k1 k2 ek => ⟨_, rfl, fun _ => q1 ⟨?_, ?_, ?_⟩, fun q => absurd q (by decide)⟩)⟩)⟩)⟩
    · obtain ⟨m, hm, e⟩ := of_in (n := 61) (x := x2) (by omega) (by omega)
      exact ⟨m, by omega, by omega, e⟩
    · obtain ⟨m, hm, e⟩ := of_in (n := 4) (x := x3) (by omega) (by omega)
      exact ⟨m, by omega, by omega, e⟩
    · rw [el, ti_nI (by omega)]; omega
    · rw [em, ti_nI (by omega)]; omega
    · rw [ek, ti_nI (by omega)]; omega
  have no : (¬ ((0 ≤ x1.toInt ∧ x1.toInt < nl) ∧ (0 ≤ x2.toInt ∧ x2.toInt ≤ 60) ∧ (0 ≤ x3.toInt ∧ x3.toInt ≤ 3))) → ∃ v, some (Value.int (-1)) = some (.int v) ∧ Cal G 59 mX12_after [.ref y, .int x1, .int x2, .int x3] h (fun r2 h2 => r2 = some (.int v) ∧ ∃ s p, InvB G u0 h2 b y s p) := fun c => ⟨_, rfl, R M T.2.2.2.2.1 (fun _ => ok) (fun q => absurd q c)⟩
  have hRp : hR h b 13 = some p := I.2.1.2.2.1
  have stp : StSh G h p := I.2.1.2.2.2.2
  obtain ⟨bt, be⟩ := I.2.2.1.bits W
  refine e_X11_after (by omega) ⟨I.kb, s_lawAt I T (fun c => ⟨_, rfl, fun _ => no (fun z => c z.1), fun _ q => by cases q⟩) (fun l hl el => ⟨_, rfl, fun q => (by cases q), fun q7 eq7 => ⟨fun c => no (fun z => ?_), fun c1 => ⟨fun c => no (fun z => ?_), fun c2 => ⟨fun c => no (fun z => ?_), fun c3 => ⟨fun c4 => ⟨s, I.now, p, hRp, stp.1, ?_⟩, fun c => no (fun z => ?_)⟩⟩⟩⟩⟩)⟩
  · rw [ti_lt] at c; omega
  · rw [ti_lt] at c; omega
  · rw [ti_lt] at c; omega
  rotate_left
  · rw [ti_le] at c; omega
  obtain rfl : La l = q7 := Option.some.inj eq7
  rw [ti_lt] at c1 c2 c3
  rw [ti_le] at c4
  have good : (0 ≤ x1.toInt ∧ x1.toInt < nl) ∧ (0 ≤ x2.toInt ∧ x2.toInt ≤ 60) ∧ (0 ≤ x3.toInt ∧ x3.toInt ≤ 3) := ⟨by rw [el, ti_nI (by omega)]; omega, by omega, by omega⟩
  obtain ⟨n, hn, en⟩ := of_in (n := 61) (x := x2) (by omega) (by omega)
  obtain ⟨k, hk, ek⟩ := of_in (n := 4) (x := x3) (by omega) (by omega)
  clear no
  subst el en ek
  obtain ⟨C, LX, k16⟩ := I.law T hl
  have lx6 := LX.2.2.2.2.2
  have D : LvS b p (La l) C := ⟨⟨by omega, by omega, by omega⟩, LX.1, LX.2.1⟩
  refine s_copyFrom (by omega) stp I.st (by omega) bt be (fun h1 F1 v1 => ⟨rfl, p, (F1.r _ _).trans hRp, ?_⟩)
  have I1 : InvB G u0 h1 b y s p := I.scr ((F1.j _).weak (fun a k q => by unfold Scr; omega) (fun _ _ q => q))
  have C1 : CoSt h1 p (said h y) := I.2.2.1.copy v1
  have eS1 : said h1 y = said h y := funext fun j => F1.i (by omega)
  have LX1 := LX.fs (F1.s nop) (fun a k q => by omega)
  have J1 := FrJ.sR (P := fun _ _ => False) (RP := fun a k => a = b ∧ k = 12) h1 (some p) (a := b) (k := 12) ⟨rfl, rfl⟩
  obtain ⟨⟨l1, l2, l3, l4, l5, l6⟩, l7, l8, l9, l10, l11, l12⟩ := I1.lv LX1
  have ri : ∀ a k, hI (sR h1 b 12 (some p)) a k = hI h1 a k := fun a k => hI_sR ..
  have rr : ∀ a k, ¬ (a = b ∧ k = 12) → hR (sR h1 b 12 (some p)) a k = hR h1 a k := fun a k q => by rw [hR_sR, if_neg q]
  have rq : hR (sR h1 b 12 (some p)) b 12 = some p := by rw [hR_sR, if_pos ⟨rfl, rfl⟩]
  generalize e2 : sR h1 b 12 (some p) = h2 at *
  have X2 : LvX G h2 b p (said h y) (La l) C (hI h1 (y + 7) l = 1) := by
    have K : ∀ {a κ : Nat}, Kd G h1 a κ → Kd G h2 a κ := fun k => J1.kd k
    refine ⟨⟨K l1, rq, (rr _ _ (by omega)).trans l3, ⟨K l4.1, (rr _ _ (by omega)).trans l4.2.1, K l4.2.2.1, (J1.n l4.2.2.1).trans l4.2.2.2⟩, (rr _ _ (by omega)).trans l5, ⟨K l6.1, ⟨(rr _ _ (by omega)).trans l6.2.1.1, (rr _ _ (by omega)).trans l6.2.1.2.1, (rr _ _ (by omega)).trans l6.2.1.2.2.1, (rr _ _ (by omega)).trans l6.2.1.2.2.2.1, (rr _ _ (by omega)).trans l6.2.1.2.2.2.2⟩, fun a h1 h2 => ⟨K (l6.2.2 a h1 h2).1, (J1.n (l6.2.2 a h1 h2).1).trans (l6.2.2 a h1 h2).2⟩⟩⟩, (stp.fr F1).kp J1.1 (fun a k h1 h2 => rr _ _ (by omega)), C1.fr (fun a k _ _ => ri a k), W, ?_, l11.fr J1.1 (fun x k h1 h2 => rr _ _ (by omega)) (fun x k _ _ => ri x k), ?_⟩
    · rw [eS1] at l10
      rcases l10 with q | q
      · exact Or.inl q
      · exact Or.inr (q.fr (fun a k _ _ => ri a k))
    · rw [ri]
      exact l12
  refine e_X11_live (s_live (by omega) D (N := n) (by omega) n 0 0 (said h y) h2 (by omega) (by omega) X2 (by omega) (fun h3 S' c' YN F3 X3 => ⟨_, rfl, ?_⟩))
  obtain ⟨WS', y3⟩ := YN.wf W (by omega)
  refine s_outlook (by omega) X3.1.1 X3.1.2.1 X3.2.1 X3.2.2.1 WS' hk ⟨_, rfl, _, rfl, ?_⟩
  have J3 := FrJ.sR (P := fun _ _ => False) (RP := fun a k => a = b ∧ k = 12) h3 (some s) (a := b) (k := 12) ⟨rfl, rfl⟩
  have si : ∀ a k, hI (sR h3 b 12 (some s)) a k = hI h3 a k := fun a k => hI_sR ..
  have sr : ∀ a k, ¬ (a = b ∧ k = 12) → hR (sR h3 b 12 (some s)) a k = hR h3 a k := fun a k q => by rw [hR_sR, if_neg q]
  have sq : hR (sR h3 b 12 (some s)) b 12 = some s := by rw [hR_sR, if_pos ⟨rfl, rfl⟩]
  generalize e4 : sR h3 b 12 (some s) = h4 at *
  have F14 : FrJ (DwI b p) (fun _ _ => False) h1 h4 := by
    have J := (J1.weak (P' := DwI b p) (fun _ _ q => q.elim) (fun _ _ q => q)).tr (((F3.j (fun a k => a = b ∧ k = 12)).tr (J3.weak (fun _ _ q => q.elim) (fun _ _ q => q))))
    refine ⟨J.1, J.2.1, J.2.2.1, fun a k _ => ?_, J.2.2.2.2⟩
    by_cases c : a = b ∧ k = 12
    · obtain ⟨rfl, rfl⟩ := c
      rw [sq, I1.now]
    · exact J.r c
  have M4 : MdSh G h4 y := ⟨F14.kd I1.md.1, fun q hq => ⟨(F14.r (fun z => z)).trans (I1.md.2 q hq).1, F14.kd (I1.md.2 q hq).2.1, (F14.n (I1.md.2 q hq).2.1).trans (I1.md.2 q hq).2.2⟩⟩
  have LX4 := LX1.fr F14 (fun a k q => by unfold DwI at q; omega) (fun _ _ q => q.elim)
  have eS4 : said h4 y = said h y := (funext fun j => F14.i (by unfold DwI; omega)).trans eS1
  have T4 : hI h4 (y + 2) 0 = nI nl := (F14.i (by unfold DwI; omega)).trans ((F1.i (by omega)).trans T.2.2.2.2.1)
  refine R M4 T4 (fun c => absurd good c) (fun _ => r_keeps M4 (fun h5 F5 v5 => ⟨rfl, ?_⟩))
  have M5 := M4.fr F5
  have eS5 : said h5 y = said h y := (funext fun j => F5.i (by omega)).trans eS4
  have LX5 := LX4.fs (F5.s nop) (fun a k q => by omega)
  refine r_after42 (N := n) (by omega) (by omega) k16 (by omega) n 0 (said h y) h5 S' c' (by omega) M5 eS5 W (by omega) LX5.2.2.2.1 ?_ YN (fun h6 F6 e6 => ?_)
  · rw [F5.i (by omega), F14.i (by unfold DwI; omega)]
  refine r_afterE (by omega) (M5.fs F6) e6 WS' hk (fun h7 F7 v7 => ⟨rfl, s, p, ?_⟩)
  have back : ∀ j, hI h7 (y + 13) j = hI h (y + 13) j := fun j => by
    by_cases c : j < 2440
    · have e1 := v7 j c
      rw [F6.i (by unfold YrI; omega), v5 j c, eS4] at e1
      exact e1
    · rw [F7.i (by omega), F6.i (by unfold YrI; omega), F5.i (by omega), F14.i (by unfold DwI; omega), F1.i (by omega)]
  refine I1.scr (FrJ.weak (P := fun a k => DwI b p a k ∨ a = y + 14 ∨ (a = y ∧ (k = 27 ∨ (31 ≤ k ∧ k ≤ 36)))) (RP := fun _ _ => False) ?_ (fun a k q => by unfold DwI at q; unfold Scr; omega) (fun _ _ q => q.elim))
  have J : FrJ (fun a k => DwI b p a k ∨ a = y + 14 ∨ (a = y ∧ (k = 27 ∨ (31 ≤ k ∧ k ≤ 36))) ∨ a = y + 13) (fun _ _ => False) h1 h7 := (((F14.weak (fun a k q => Or.inl q) (fun _ _ q => q)).tr ((F5.j _).weak (fun a k q => Or.inr (Or.inl q)) (fun _ _ q => q))).tr ((F6.j _).weak (fun a k q => by unfold YrI at q; omega) (fun _ _ q => q))).tr ((F7.j _).weak (fun a k q => Or.inr (Or.inr (Or.inr q.1))) (fun _ _ q => q))
  refine ⟨J.1, J.2.1, J.2.2.1, J.2.2.2.1, fun a k q => ?_⟩
  by_cases c : a = y + 13
  · rw [c, back k, F1.i (by omega)]
  · exact J.i (fun z => by
      rcases z with z | z | z | z
      · exact q (Or.inl z)
      · exact q (Or.inr (Or.inl z))
      · exact q (Or.inr (Or.inr z))
      · exact c z)
