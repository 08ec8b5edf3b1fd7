theorem InvB.plw2 {G : GG} {u0 : Nat} {h : HP} {b y s p : Nat} (I : InvB G u0 h b y s p) : hR h b 9 = some (b + 31) ∧ PlW G h (b + 31) ∧ hR h b 11 = some (b + 34) ∧ Kd G h (b + 34) 0 := by
  obtain ⟨-, a1, a2, -⟩ : _ ∧ hR h b 9 = some (b + 31) ∧ Kd G h (b + 31) 3 ∧ hN h (b + 31) = 18 := I.1.2.2.1 (0, 9, 31, 3, 18) (by decide)
  obtain ⟨-, c1, c2, c3⟩ : _ ∧ hR h (b + 31) 17 = some (b + 32) ∧ Kd G h (b + 32) 15 ∧ hN h (b + 32) = 12 := I.1.2.2.1 (31, 17, 32, 15, 12) (by decide)
  obtain ⟨-, d1, d2, -⟩ : _ ∧ hR h b 11 = some (b + 34) ∧ Kd G h (b + 34) 0 ∧ hN h (b + 34) = 7 := I.1.2.2.1 (0, 11, 34, 0, 7) (by decide)
  exact ⟨a1, ⟨a2, c1, c2, c3⟩, d1, d2⟩
theorem rvS_f (S1 : Nat → Int32) (C : List Cla) (jn : Prop) (D : List Cla) (g m : Nat) : rvS S1 (C.filter (fun q => q.1 != 15)) jn (D.filter (fun q => q.1 != 15)) g m = rvS S1 C jn D g m := by
  unfold rvS
  rw [canB_f, valO_f]
theorem ahV_f (S : Nat → Int32) (C : List Cla) (jn : Prop) (D : List Cla) (f g a m : Nat) : ahV S (C.filter (fun q => q.1 != 15)) jn (D.filter (fun q => q.1 != 15)) f g a m = ahV S C jn D f g a m := funext fun i => by
  unfold ahV
  rw [valO_f, rvS_f]
theorem p_ahead (G : GG) (u0 : Nat) (h : HP) (I : Inv G u0 h) (x1 x2 x3 x4 x5 x6 x7 : Int32) : Pr (Inv G u0) G G.1 (G.1 + 119) mX11_ahead mX12_ahead [.int x1, .int x2, .int x3, .int x4, .int x5, .int x6, .int x7] h := by
  obtain ⟨s, p, I⟩ := I
  unfold Pr Inv
  generalize G.1 = b at *
  generalize hy : b + 119 = y at *
  have B := I.bd
  have M := B.2.1
  have ns := I.2.1.1
  obtain ⟨nl, nw', La, Wi, Im, T, X, D0, Bu⟩ := I.1.2.2.2.2.2
  have nl6 := T.1
  have nw6 := T.2.1
  have z0 : (0 : Int32).toInt = 0 := rfl
  have t1 : (1 : Int32).toInt = 1 := rfl
  have t2 : (2 : Int32).toInt = 2 := rfl
  have t3 : (3 : Int32).toInt = 3 := rfl
  have ok : some (Value.int (-1)) = some (Value.int (-1)) ∧ ∃ s p, InvB G u0 h b y s p := ⟨rfl, s, p, I⟩
  generalize hgd : ((0 ≤ x1.toInt ∧ x1.toInt < nl) ∧ (0 ≤ x2.toInt ∧ x2.toInt < nw') ∧ askd (said h y) x3 x5 (-1) ∧ famI x4 ∧ ¬ x4 = x3 ∧ (1 ≤ x6.toInt ∧ x6.toInt ≤ 2) ∧ 0 ≤ x7.toInt ∧ x7.toInt ≤ 3) = good
  have R : ∀ {h1 : HP} {Q : Option Value → HP → Prop}, MdSh G h1 y → said h1 y = said h y → hI h1 (y + 2) 0 = nI nl → hI h1 (y + 2) 1 = nI nw' → (¬ good → Q (some (.int (-1))) h1) → (good → Ex G 59 mX12_ahead 83 [(0, .ref y), (1, .int x1), (2, .int x2), (3, .int x3), (4, .int x4), (5, .int x5), (6, .int x6), (7, .int x7), (8, .int (-1)), (9, .int 0), (10, .long 0), (12, .int 0)] [] h1 Q) → Cal G 59 mX12_ahead [.ref y, .int x1, .int x2, .int x3, .int x4, .int x5, .int x6, .int x7] h1 Q := by
    intro h1 Q M1 eS T0 T1 q0 q1
    subst hgd
    have W1 : WF (said h1 y) := by rw [eS]; exact I.wf
    refine e_X12_ahead (by omega) ⟨M1.1, r_isText (k := 0) M1 (by omega) T0 nl6 (fun c => ⟨_, rfl, fun _ => q0 (fun z => c z.1), fun q => absurd rfl q⟩) (fun l hl el => ⟨_, rfl, fun q => absurd q (by decide), fun _ => r_isText (k := 1) M1 (by omega) T1 nw6 (fun c => ⟨_, rfl, fun _ => q0 (fun z => c z.2.1), fun q => absurd rfl q⟩) (fun w hw ew => ⟨_, rfl, fun q => absurd q (by decide), fun _ => r_areAsked (by omega) M1 W1 (fun c => ⟨_, rfl, fun _ => q0 (fun z => c (by rw [eS]; exact z.2.2.1)), fun q => absurd rfl q⟩) (fun ak => ⟨_, rfl, fun q => absurd q (by decide), fun _ => r_isFamily (fun c => ⟨_, rfl, fun _ => q0 (fun z => c z.2.2.2.1), fun q => absurd rfl q⟩) (fun fam => ⟨_, rfl, fun q => absurd q (by decide), fun _ => ⟨fun c => q0 (fun z => z.2.2.2.2.1 c), fun cne => r_inN (lo := 1) (hi := 2) (by omega) rfl rfl (fun c => ⟨_, rfl, fun _ => q0 (fun z => c ?_), fun q => absurd rfl q⟩) (fun m m1 m2 em => ⟨_, rfl, fun q => absurd q (by decide), fun _ => r_inN (lo := 0) (hi := 3) (by omega) rfl rfl (fun c => ⟨_, rfl, fun q => absurd rfl q, fun _ => q0 (fun z => c ?_)⟩) (fun k k1 k2 ek => ⟨_, rfl, fun _ => q1 ⟨?_, ?_, by rw [← eS]; exact ak, fam, cne, ?_, ?_⟩, fun q => absurd q (by decide)⟩)⟩)⟩⟩)⟩)⟩)⟩)⟩
    · obtain ⟨m, hm, e⟩ := of_in (n := 3) (x := x6) (by omega) (by omega)
      have := z.2.2.2.2.2.1
      rw [e, ti_nI (by omega)] at this
      exact ⟨m, by omega, by omega, e⟩
    · obtain ⟨m, hm, e⟩ := of_in (n := 4) (x := x7) (by omega) (by omega)
      exact ⟨m, by omega, by omega, e⟩
    · rw [el, ti_nI (by omega)]; omega
    · rw [ew, ti_nI (by omega)]; omega
    · rw [em, ti_nI (by omega)]; omega
    · rw [ek, ti_nI (by omega)]; omega
  have no : ¬ good → ∃ v, some (Value.int (-1)) = some (.int v) ∧ Cal G 59 mX12_ahead [.ref y, .int x1, .int x2, .int x3, .int x4, .int x5, .int x6, .int x7] h (fun r2 h2 => r2 = some (.int v) ∧ ∃ s p, InvB G u0 h2 b y s p) := fun c => ⟨_, rfl, R M rfl T.2.2.2.2.1 T.2.2.2.2.2.1 (fun _ => ok) (fun q => absurd q c)⟩
  subst hgd
  refine e_X11_ahead (by omega) ⟨I.kb, s_lawAt I T (fun c => ⟨_, rfl, ?_⟩) (fun l hl el => ⟨_, rfl, s_wishAt I T (fun c => ⟨_, rfl, fun q => (by cases q), fun _ _ => ⟨fun _ => no (fun z => c z.2.1), fun _ q => by cases q⟩⟩) (fun w hw ew => ⟨_, rfl, fun q => (by cases q), fun q11 eq11 => ⟨fun q => (by cases q), fun q13 eq13 => ?_⟩⟩)⟩)⟩
  · exact s_wishAt I T (fun _ => ⟨_, rfl, fun _ => no (fun z => c z.1), fun _ q => by cases q⟩) (fun _ _ _ => ⟨_, rfl, fun _ => no (fun z => c z.1), fun _ q => by cases q⟩)
  obtain rfl : La l = q11 := Option.some.inj eq11
  obtain rfl : Wi w = q13 := Option.some.inj eq13
  refine s_areThere (by omega) B I.kb I.now (fun c => ⟨_, rfl, fun _ => no (fun z => c z.2.2.1), fun q => absurd rfl q⟩) (fun f t ob hf ef ht et wt eo wo => ⟨_, rfl, fun q => absurd q (by decide), fun _ => s_isFamily (fun c => ⟨_, rfl, fun _ => no (fun z => c z.2.2.2.1), fun q => absurd rfl q⟩) (fun fam => ⟨_, rfl, fun q => absurd q (by decide), fun _ => ⟨fun c => no (fun z => z.2.2.2.2.1 c), fun cne => ⟨fun c => no (fun z => ?_), fun c1 => ⟨fun c => no (fun z => ?_), fun c2 => ⟨fun c => no (fun z => ?_), fun c3 => ⟨fun c4 => ?_, fun c => no (fun z => ?_)⟩⟩⟩⟩⟩⟩)⟩)
  · rw [ti_lt] at c; omega
  · rw [ti_lt] at c; omega
  · rw [ti_lt] at c; omega
  rotate_left
  · rw [ti_le] at c; omega
  rw [ti_lt] at c1 c2 c3
  rw [ti_le] at c4
  obtain ⟨m, hm, em⟩ := of_in (n := 3) (x := x6) (by omega) (by omega)
  obtain ⟨k, hk, ek⟩ := of_in (n := 4) (x := x7) (by omega) (by omega)
  obtain ⟨g, hg, eg⟩ := of_in (n := 12) (x := x4) fam.1 fam.2
  have m1 : 1 ≤ m := by rw [em, ti_nI (by omega)] at c1; omega
  have gd : (0 ≤ x1.toInt ∧ x1.toInt < nl) ∧ (0 ≤ x2.toInt ∧ x2.toInt < nw') ∧ askd (said h y) x3 x5 (-1) ∧ famI x4 ∧ ¬ x4 = x3 ∧ (1 ≤ x6.toInt ∧ x6.toInt ≤ 2) ∧ 0 ≤ x7.toInt ∧ x7.toInt ≤ 3 := ⟨by rw [el, ti_nI (by omega)]; omega, by rw [ew, ti_nI (by omega)]; omega, ⟨f, t, ob, hf, ef, ht, et, wt, eo, wo⟩, fam, cne, by omega, by omega, by omega⟩
  clear no
  have hne : f ≠ g := fun q => cne (by rw [eg, ef, q])
  clear eo wo
  subst el ew em ek ef et eg
  obtain ⟨C, LX, k16⟩ := I.law T hl
  obtain ⟨D, LW, w16⟩ := I.wsh T hw
  have lx6 := LX.2.2.2.2.2
  have lw6 := LW.2.2.2.2.2
  have V := I.vw ht wt
  obtain ⟨q1, q2, q3, q4⟩ := I.plw2
  refine ⟨b + 29, I.plan.1, s_aim (ob := none) (by omega) I.plan.2 I.kb I.now I.st (by omega) (by omega) (fun u q => by cases q) (fun h1 F1 v1 w1 => ⟨rfl, b + 33, (F1.r _ _).trans I.cho.1, F1.kd I.cho.2, e_X0_clear ⟨F1.kd I.cho.2, rfl, ?_⟩⟩)⟩
  have F2 : FrS (AhI b s) (AhL b (La l) (Wi w)) h (sI h1 (b + 33) 0 0) := ((F1.s _).weak (fun a k q => by unfold AhI; omega) (fun _ _ q => q)).tr (frS_sI _ _ (by unfold AhI; omega))
  have XA : AhX G b s (La l) (Wi w) f t m (said h y) h (sI h1 (b + 33) 0 0) (0, none) := by
    refine ⟨F2, ?_, ?_, fun j h1' h4 => ?_, by rw [hI_eq]; rfl, ⟨fun _ => rfl, fun _ => rfl⟩, fun r er => by cases er⟩
    · rw [hI_ne _ _ (Or.inl (by omega)), F1.i (by omega)]
      exact I.2.2.1.2.2.2.2.1
    · rw [hI_ne _ _ (Or.inl (by omega)), hI_ne _ _ (Or.inl (by omega)), hI_ne _ _ (Or.inl (by omega)), hI_ne _ _ (Or.inl (by omega))]
      exact v1
    · rw [hI_ne _ _ (Or.inl (by omega)), w1 j h1' h4]
      exact (V.2.2.2.2.2.1.at_ (Or.inl ⟨ht, rfl⟩) wt).2.1 j h1' (by omega)
  obtain ⟨e4, l4⟩ := m4 (m := m) (by omega)
  rw [e4]
  refine s_ahead109 (jn := hI h (y + 7) l = 1) (by omega) V (by omega) ⟨I.plan.1, q1, I.cho.1, q3⟩ I.plw q2 q4 I.cho.2 ht wt hf hg hne (sup0 I.wf f) (sup0 I.wf g) m1 (by omega) hk LX.2.2.1 LX.1 LX.2.1 LX.2.2.2.2.1 LW.2.2.1 LW.1 LW.2.1 XA (fun h3 F3 z3 => ⟨_, rfl, ?_⟩)
  have hp3 : ∀ a k, AhI b s a k → ¬ (y + 2 ≤ a ∧ a ≤ y + 7) ∧ ¬ (y + 21 ≤ a) := fun a k q => by unfold AhI at q; omega
  have eS3 : said h3 y = said h y := said_fs F3 (fun a k q => by unfold AhI at q; omega)
  have M3 := M.fs F3
  have LX3 := LX.fs F3 hp3
  have LW3 := LW.fs F3 hp3
  have i3 : ∀ k j, k ≤ 7 → hI h3 (y + k) j = hI h (y + k) j := fun k j hk => F3.i (fun q => by unfold AhI at q; omega)
  refine R M3 eS3 ((i3 2 0 (by omega)).trans T.2.2.2.2.1) ((i3 2 1 (by omega)).trans T.2.2.2.2.2.1) (fun c => absurd gd c) (fun _ => ?_)
  refine r_ahead83 (S := said h y) (jn := hI h (y + 7) l = 1) (by omega) M3 I.wf (by have := I.2.2.2.2.1; omega) (by rw [eS3]; exact JnkS.rf I.wf) m1 (by omega) hk hf hg ht wt (by omega) (by omega) LX3.2.2.2.1 (by rw [i3 7 l (by omega)]) (fun q hq => k16 q (mem_f hq).1) LW3.2.2.2.1 (fun q hq => w16 q (mem_f hq).1) (fun h4 F4 J4 => ⟨?_, s, p, ?_⟩)
  · rw [canB_f, ahV_f]
    generalize (seF (canB (said h y) C (hI h (y + 7) l = 1) f t none m) (ahV (said h y) C (hI h (y + 7) l = 1) D f g t m) (lnF (said h y) t none m) m).2 = q
    cases q <;> rfl
  · exact I.jnk (A := 0) (F3.weak (fun a k q => by unfold AhI at q; exact q) (fun _ _ q => q)) z3 F4 (fun a k q => by unfold MaI at q; omega) J4 rfl
