theorem InvB.jnk {G : GG} {u0 : Nat} {h h2 h3 : HP} {b y s p A : Nat} (I : InvB G u0 h b y s p) {PL : Nat → Nat → Prop} (F2 : FrS (fun a k => (b + 29 ≤ a ∧ a ≤ b + 34) ∨ a = s + 35) PL h h2) (z2 : hI h2 (s + 35) 0 = 0) {P3 PL3 : Nat → Nat → Prop} (F3 : FrS P3 PL3 h2 h3) (hp3 : ∀ a k, P3 a k → (a = y ∧ k ≠ 1) ∨ (a = y + 13 ∧ 1608 ≤ k ∧ k < 2256)) (J : JnkS 30 (said h y) (said h3 y)) (_ : A = A) : InvB G u0 h3 b y s p := by
  have g := I.1.1
  have ns := I.2.1.1
  have FJ : FrJ (fun a k => (b + 29 ≤ a ∧ a ≤ b + 34) ∨ a = s + 35 ∨ (a = y ∧ k ≠ 1) ∨ (a = y + 13 ∧ 1608 ≤ k ∧ k < 2256)) (fun _ _ => False) h h3 := ((F2.j _).weak (fun a k q => by omega) (fun _ _ q => q)).tr ((F3.j _).weak (fun a k q => by have := hp3 a k q; omega) (fun _ _ q => q))
  refine I.core FJ (fun a k q => by unfold Tight; omega) (fun _ _ q => q.elim) ⟨?_, J.wf I.wf, ?_, ?_, I.2.2.2.2.2.2.fr (fun a k h1 h2 => FJ.i (fun q => by omega))⟩
  · refine J.co I.wf (CoSt.fr30 (fun a k h1 h2 h3 => FJ.i (fun q => by omega)) ?_ I.2.2.1)
    rw [F3.i (fun q => by have := hp3 _ _ q; omega)]
    exact z2
  · rw [J.1 3 (by omega)]
    exact I.2.2.2.2.1
  · rcases I.2.2.2.2.2.1 with q | q
    · refine Or.inl (fun t ht => ?_)
      rw [J.t ht (by omega)]
      exact q t ht
    · exact Or.inr ((q.fr (fun a k h1 h2 => FJ.i (fun q => by omega))).congr (J.1 0 (by omega)) (J.1 1 (by omega)) I.wf.1.1.1.2 I.wf.1.1.2.1.2 (fun c hc => J.1 _ (by omega)))
theorem p_most (G : GG) (u0 : Nat) (h : HP) (I : Inv G u0 h) (x1 x2 x3 : Int32) : Pr (Inv G u0) G G.1 (G.1 + 119) mX11_most mX12_most [.int x1, .int x2, .int x3] h := by
  obtain ⟨s, p, I⟩ := I
  unfold Pr Inv
  generalize G.1 = b at *
  generalize hy : b + 119 = y at *
  have B := I.bd
  have M := B.2.1
  have ns := I.2.1.1
  obtain ⟨nl, nw', La, Wi, Im, T, X, D0, Bu⟩ := I.1.2.2.2.2.2
  have nl6 := T.1
  have ok : some (Value.int (-1)) = some (Value.int (-1)) ∧ ∃ s p, InvB G u0 h b y s p := ⟨rfl, s, p, I⟩
  have R : ∀ {h1 : HP} {Q : Option Value → HP → Prop}, MdSh G h1 y → WF (said h1 y) → hI h1 (y + 2) 0 = nI nl → ((¬ ((0 ≤ x1.toInt ∧ x1.toInt < nl) ∧ askd (said h1 y) x2 x3 (-1))) → Q (some (.int (-1))) h1) → (((0 ≤ x1.toInt ∧ x1.toInt < nl) ∧ askd (said h1 y) x2 x3 (-1)) → Ex G 59 mX12_most 30 [(0, .ref y), (1, .int x1), (2, .int x2), (3, .int x3), (4, .int 0), (5, .int x3), (6, .int 1)] [] h1 Q) → Cal G 59 mX12_most [.ref y, .int x1, .int x2, .int x3] h1 Q := by
    intro h1 Q M1 W1 T0 q0 q1
    refine e_X12_most (by omega) ⟨M1.1, r_isText (k := 0) M1 (by omega) T0 nl6 (fun c => ⟨_, rfl, fun _ => q0 (fun z => c z.1), fun q => absurd rfl q⟩) (fun l hl el => ⟨_, rfl, fun q => absurd q (by decide), fun _ => r_areAsked (by omega) M1 W1 (fun c => ⟨_, rfl, fun q => absurd rfl q, fun _ => q0 (fun z => c z.2)⟩) (fun ak => ⟨_, rfl, fun _ => q1 ⟨?_, ak⟩, fun q => absurd q (by decide)⟩)⟩)⟩
    rw [el, ti_nI (by omega)]; omega
  have no : (¬ ((0 ≤ x1.toInt ∧ x1.toInt < nl) ∧ askd (said h y) x2 x3 (-1))) → ∃ v, some (Value.int (-1)) = some (.int v) ∧ Cal G 59 mX12_most [.ref y, .int x1, .int x2, .int x3] h (fun r2 h2 => r2 = some (.int v) ∧ ∃ s p, InvB G u0 h2 b y s p) := fun c => ⟨_, rfl, R M I.wf T.2.2.2.2.1 (fun _ => ok) (fun q => absurd q c)⟩
  refine e_X11_most (by omega) ⟨I.kb, s_lawAt I T (fun c => ⟨_, rfl, fun _ => no (fun z => c z.1), fun _ q => by cases q⟩) (fun l hl el => ⟨_, rfl, fun q => (by cases q), fun q11 eq11 => ?_⟩)⟩
  obtain rfl : La l = q11 := Option.some.inj eq11
  refine s_areThere (by omega) B I.kb I.now (fun c => ⟨_, rfl, fun q => absurd rfl q, fun _ => no (fun z => c z.2)⟩) (fun f t ob hf ef ht et wt eo wo => ⟨_, rfl, fun _ => ?_, fun q => absurd q (by decide)⟩)
  have good : (0 ≤ x1.toInt ∧ x1.toInt < nl) ∧ askd (said h y) x2 x3 (-1) := ⟨by rw [el, ti_nI (by omega)]; omega, ⟨f, t, ob, hf, ef, ht, et, wt, eo, wo⟩⟩
  clear no eo wo
  subst el ef et
  obtain ⟨C, LX, k16⟩ := I.law T hl
  have lx6 := LX.2.2.2.2.2
  have V := I.vw ht wt
  refine s_most27 (h0 := h) (jn := hI h (y + 7) l = 1) (by omega) I.plw I.plan.1 (by omega) LX.2.2.1 LX.1 LX.2.1 LX.2.2.2.2.1 hf ht 24 0 (said h y) t h rfl V (Or.inl ⟨rfl, ht, rfl⟩) wt (sup0 I.wf f) (frS_rf _ _ _) (fun _ => ⟨rfl, I.2.2.1.2.2.2.2.1⟩) (fun q => by omega) (fun m S' h2 mt F2 z2 => ⟨_, rfl, ?_⟩)
  have hp2 : ∀ a (k : Nat), (a = b + 29 ∨ a = s + 35) → ¬ (y + 2 ≤ a ∧ a ≤ y + 7) ∧ ¬ (y + 21 ≤ a) := fun a k q => by omega
  have eS2 : said h2 y = said h y := said_fs F2 (fun a k q => by omega)
  have M2 := M.fs F2
  have LX2 := LX.fs F2 hp2
  have WR : WfR (said h y) := V.2.2.2.2.2.2.1
  have Z0 : ∀ t, 30 + 0 ≤ t → t < 54 → tS (said h y) t 0 = 0 := fun t h1 h2 => I.wf.2.2.2.1 t h1 h2
  obtain ⟨m24, ZS⟩ := mt.zr hf WR wt (by omega) Z0 (by omega)
  rw [Nat.zero_add] at m24 ZS ⊢
  refine R M2 (by rw [eS2]; exact I.wf) ((F2.i (by omega)).trans T.2.2.2.2.1) (fun c => absurd (by rw [eS2]; exact good) c) (fun _ => ?_)
  refine r_mostUp (l := l) (by omega) (by omega) hf k16 m 0 (said h y) t S' h2 mt (by omega) M2 eS2 WR wt (by omega) Z0 LX2.2.2.2.1 (by rw [F2.i (by omega)]) (fun h3 x5 x6 e3 F3 => ?_)
  have M3 := M2.fs F3
  rw [Nat.zero_add]
  have dn := r_mostDn (G := G) (d := 59) (y := y) (Q := fun r2 h2 => r2 = some (.int (nI m)) ∧ ∃ s p, InvB G u0 h2 b y s p) (l := l) (f := f) (x3 := nI t) (x4 := nI m) (x5 := x5) (x6 := x6) (C := C) (jn := hI h (y + 7) l = 1) (by omega) hf m 0 (said h y) t S' h3 mt (by omega) M3 WR wt (by omega) Z0 (by rw [e3]; exact ⟨fun _ _ => rfl, fun t h1 h2 => ZS t (by omega) h2⟩) (fun h4 F4 J4 => ?_)
  · rw [Nat.zero_add] at dn
    exact dn
  refine t_X12_most_158 (by omega) ⟨fun _ => ⟨rfl, s, p, ?_⟩, fun q => absurd (by decide) q⟩
  exact I.jnk (A := 0) (F2.weak (fun a k q => by omega) (fun _ _ q => q)) z2 (P3 := MuI y) (PL3 := CnL y) (F3.tr ((F4.s _).weak (fun a k q => Or.inr q) (fun _ _ q => q))) (fun a k q => by unfold MuI at q; omega) J4 rfl
