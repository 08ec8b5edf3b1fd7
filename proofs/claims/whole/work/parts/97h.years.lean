/-! ===== the pair years ===== -/
theorem YrN.wf {C : List Cla} {jn : Prop} : ∀ {n : Nat} {S S' : Nat → Int32} {c : Nat}, WF S → (S 3).toInt + n ≤ 20000 → YrN C jn n S S' c → WF S' ∧ (S' 3).toInt = (S 3).toInt + n
  | 0, S, S', c, W, _, h => by
    obtain ⟨rfl, -⟩ := h
    exact ⟨W, by omega⟩
  | n + 1, S, S', c, W, hy, h => by
    obtain ⟨S1, c1, c2, ⟨S0, Y, rfl⟩, h2, -⟩ := h
    have W0 := Y.wf W
    have e3 : S0 3 = S 3 := Y.off (by omega) (by omega)
    have y0 := W.1.1.2.2.2.1
    have one : (1 : Int32).toInt = 1 := rfl
    have t3 : (S0 3 + 1).toInt = (S 3).toInt + 1 := by
      rw [e3, ti_add (by rw [one]; omega) (by rw [one]; omega), one]
    obtain ⟨a, b⟩ := YrN.wf (W0.set (Or.inl rfl) (by rw [t3]; omega)) (by rw [setS_eq, t3]; omega) h2
    refine ⟨a, ?_⟩
    rw [b, setS_eq, t3]
    omega
section YP
variable {G : GG} {d : Nat} {y l : Nat} {C : List Cla} {jn : Prop} {Q : Option Value → HP → Prop}
/-- so many years of the reference, by what they come to -/
theorem r_yearN (hd : 8 ≤ d) (hl : l < 6) (k16 : ∀ q ∈ C, q.1 ≠ 16) {S S1 : Nat → Int32} {c1 : Nat} {h : HP} (M : MdSh G h y) (eS : said h y = S) (W : WF S) (hy : (S 3).toInt + 1 ≤ 20000) (L : LawR h y l (C.filter (fun q => q.1 != 15))) (hj : hI h (y + 7) l = 1 ↔ jn) (Y : Yr C jn S S1 c1) (hQ : ∀ h2, MdSh G h2 y → said h2 y = S1 → WF S1 → (S1 3).toInt = (S 3).toInt + 1 → LawR h2 y l (C.filter (fun q => q.1 != 15)) → (hI h2 (y + 7) l = 1 ↔ jn) → FrS (YrI y) (CnL y) h h2 → Q (some (.int (nI c1))) h2) : Cal G d mX12_year [.ref y, .int (nI l)] h Q := by
  refine r_year hd M eS W (by omega) hl L hj k16 Y (fun h2 F e2 => ?_)
  have w := YrN.wf (n := 1) W (by omega) (C := C) (jn := jn) (S' := S1) (c := c1) ⟨S1, c1, 0, Y, ⟨rfl, rfl⟩, rfl⟩
  refine hQ h2 (M.fs F) e2 w.1 w.2 (L.fs F (fun a k q => by unfold YrI at q; omega)) ?_ F
  rw [F.i (by unfold YrI; omega)]
  exact hj
theorem r_years42 (hd : 9 ≤ d) (hl : l < 6) (k16 : ∀ q ∈ C, q.1 ≠ 16) {N : Nat} (hN : N ≤ 60) : ∀ (n i c : Nat) (S : Nat → Int32) (h : HP) (S' : Nat → Int32) (c' : Nat), i + n = N → c ≤ i → MdSh G h y → said h y = S → WF S → (S 3).toInt + n ≤ 20000 → LawR h y l (C.filter (fun q => q.1 != 15)) → (hI h (y + 7) l = 1 ↔ jn) → YrN C jn n S S' c' → (∀ h2, FrS (YrI y) (CnL y) h h2 → said h2 y = S' → Q (some (.int (nI (c + c')))) h2) → Ex G d mX12_years 42 [(0, .ref y), (1, .int (nI l)), (2, .int (nI N)), (3, .int (nI c)), (4, .int (nI i))] [] h Q := by
  intro n
  induction n with
  | zero =>
    intro i c S h S' c' hi hc M eS W hy L hj Y hQ
    obtain ⟨rfl, rfl⟩ := Y
    obtain rfl : i = N := by omega
    exact t_X12_years_42 (by omega) ⟨fun _ => hQ h (frS_rf _ _ _) eS, fun q => absurd ((nI_le_iff (by omega) (by omega)).mpr (Nat.le_refl _)) q⟩
  | succ n ih =>
    intro i c S h S' c' hi hc M eS W hy L hj Y hQ
    obtain ⟨S1, c1, c2, Y1, Y2, rfl⟩ := Y
    have le1 : c1 ≤ 1 := by
      obtain ⟨S0, Y0, -⟩ := Y1
      exact Y0.le
    refine t_X12_years_42 (by omega) ⟨fun q => ?_, fun _ => ⟨M.1, r_yearN (by omega) hl k16 M eS W (by omega) L hj Y1 (fun h2 M2 e2 W2 y2 L2 j2 F2 => ⟨_, rfl, ?_⟩)⟩⟩
    · have := (nI_le_iff (by omega) (by omega)).mp q
      omega
    · rw [nI_S, nA]
      refine ih (i + 1) (c + c1) S1 h2 S' c2 (by omega) (by omega) M2 e2 W2 (by omega) L2 j2 Y2 (fun h3 F3 e3 => ?_)
      rw [Nat.add_assoc]
      exact hQ h3 (F2.tr F3) e3
end YP
theorem InvB.lv {G : GG} {u0 : Nat} {h : HP} {b y s p A l : Nat} {C : List Cla} (I : InvB G u0 h b y s p) (LX : LawX G h y A l C) : LvX G h b s (said h y) A C (hI h (y + 7) l = 1) := by
  obtain ⟨t1, Tb⟩ := TbSh.of I
  exact ⟨⟨I.kb, I.now, I.plan.1, I.plw, t1, Tb⟩, I.st, I.2.2.1, I.wf, I.2.2.2.2.2.1, LX.2.2.1, LX.2.2.2.2.1⟩
theorem p_years (G : GG) (u0 : Nat) (h : HP) (I : Inv G u0 h) (x1 x2 : Int32) : Pr (Inv G u0) G G.1 (G.1 + 119) mX11_years mX12_years [.int x1, .int x2] h := by
  obtain ⟨s, p, I⟩ := I
  unfold Pr Inv
  generalize G.1 = b at *
  generalize hy : b + 119 = y at *
  have B := I.bd
  have M := B.2.1
  have W := B.2.2.2
  have ns := I.2.1.1
  obtain ⟨nl, nw', La, Wi, Im, T, X, D0, Bu⟩ := I.1.2.2.2.2.2
  have nl6 := T.1
  have t1 : (1 : Int32).toInt = 1 := rfl
  have t60 : (60 : Int32).toInt = 60 := rfl
  have t99 : (9999 : Int32).toInt = 9999 := rfl
  have ok : some (Value.int (-1)) = some (Value.int (-1)) ∧ ∃ s p, InvB G u0 h b y s p := ⟨rfl, s, p, I⟩
  have y0 := W.1.1.2.2.2.1
  have y9 := I.2.2.2.2.1
  have R : ∀ {h1 : HP} {Q : Option Value → HP → Prop}, MdSh G h1 y → said h1 y = said h y → hI h1 (y + 2) 0 = nI nl → ((¬ ((0 ≤ x1.toInt ∧ x1.toInt < nl) ∧ (1 ≤ x2.toInt ∧ x2.toInt ≤ 60) ∧ said h y 3 + x2 ≤ 9999)) → Q (some (.int (-1))) h1) → (((0 ≤ x1.toInt ∧ x1.toInt < nl) ∧ (1 ≤ x2.toInt ∧ x2.toInt ≤ 60) ∧ said h y 3 + x2 ≤ 9999) → Ex G 59 mX12_years 42 [(0, .ref y), (1, .int x1), (2, .int x2), (3, .int 0), (4, .int 0)] [] h1 Q) → Cal G 59 mX12_years [.ref y, .int x1, .int x2] h1 Q := by
    intro h1 Q M1 e1 T0 q0 q1
    obtain ⟨m1, m2, m3⟩ := M1.sd
    have e3 : hI h1 (y + 13) 3 = said h y 3 := by rw [← e1]; rfl
    refine e_X12_years (by omega) ⟨M1.1, r_isText (k := 0) M1 (by omega) T0 nl6 (fun c => ⟨_, rfl, fun _ => q0 (fun z => c z.1), fun q => absurd rfl q⟩) (fun l hl el => ⟨_, rfl, fun q => absurd q (by decide), fun _ => r_inN (lo := 1) (hi := 60) (by omega) rfl rfl (fun c => ⟨_, rfl, fun _ => q0 (fun z => c ?_), fun q => absurd rfl q⟩) (fun m m1' m2' em => ⟨_, rfl, fun q => absurd q (by decide), fun _ => ⟨y + 13, m1, m2, by rw [m3]; exact vin_nI (k := 3) (by omega) (by omega), fun z => ?_, fun z => ?_⟩⟩)⟩)⟩
    · obtain ⟨m, hm, e⟩ := of_in (n := 61) (x := x2) (by omega) (by omega)
      have := z.2.1.1
      rw [e, ti_nI (by omega)] at this
      exact ⟨m, by omega, by omega, e⟩
    · rw [e3] at z
      exact q1 ⟨by rw [el, ti_nI (by omega)]; omega, by rw [em, ti_nI (by omega)]; omega, z⟩
    · rw [e3] at z
      exact q0 (fun q => z q.2.2)
  have no : (¬ ((0 ≤ x1.toInt ∧ x1.toInt < nl) ∧ (1 ≤ x2.toInt ∧ x2.toInt ≤ 60) ∧ said h y 3 + x2 ≤ 9999)) → ∃ v, some (Value.int (-1)) = some (.int v) ∧ Cal G 59 mX12_years [.ref y, .int x1, .int x2] h (fun r2 h2 => r2 = some (.int v) ∧ ∃ s p, InvB G u0 h2 b y s p) := fun c => ⟨_, rfl, R M rfl T.2.2.2.2.1 (fun _ => ok) (fun q => absurd q c)⟩
  have s3 : hI h s 3 = said h y 3 := I.2.2.1.1 3 (by omega)
  refine e_X11_years (by omega) ⟨I.kb, s_lawAt I T (fun c => ⟨_, rfl, fun _ => no (fun z => c z.1), fun _ q => by cases q⟩) (fun l hl el => ⟨_, rfl, fun q => (by cases q), fun q7 eq7 => ⟨fun c => no (fun z => ?_), fun c1 => ⟨fun c => no (fun z => ?_), fun c2 => ⟨s, I.now, I.st.1, fun c3 => ?_, fun c => no (fun z => ?_)⟩⟩⟩⟩)⟩
  · rw [ti_lt] at c; omega
  · rw [ti_lt] at c; omega
  rotate_left
  · rw [s3] at c
    exact c z.2.2
  obtain rfl : La l = q7 := Option.some.inj eq7
  rw [ti_lt] at c1 c2
  rw [s3] at c3
  have good : (0 ≤ x1.toInt ∧ x1.toInt < nl) ∧ (1 ≤ x2.toInt ∧ x2.toInt ≤ 60) ∧ said h y 3 + x2 ≤ 9999 := ⟨by rw [el, ti_nI (by omega)]; omega, by omega, c3⟩
  obtain ⟨n, hn, en⟩ := of_in (n := 61) (x := x2) (by omega) (by omega)
  have yn : (said h y 3).toInt + n ≤ 9999 := by
    rw [ti_le, ti_add (by omega) (by omega), t99, en, ti_nI (by omega)] at c3
    exact c3
  clear no
  subst el en
  obtain ⟨C, LX, k16⟩ := I.law T hl
  have lx6 := LX.2.2.2.2.2
  have D : LvS b s (La l) C := ⟨⟨by omega, by omega, by omega⟩, LX.1, LX.2.1⟩
  refine e_X11_live (s_live (by omega) D (N := n) (by omega) n 0 0 (said h y) h (by omega) (by omega) (I.lv LX) (by omega) (fun h2 S' c' YN F2 X2 => ⟨_, rfl, ?_⟩))
  have hp2 : ∀ a k, DwI b s a k → ¬ (y + 2 ≤ a ∧ a ≤ y + 7) ∧ ¬ (y + 21 ≤ a) := fun a k q => by unfold DwI at q; omega
  have eS2 : said h2 y = said h y := said_fs F2 (fun a k q => by unfold DwI at q; omega)
  have M2 := M.fs F2
  have LX2 := LX.fs F2 hp2
  refine ⟨_, rfl, R M2 eS2 ((F2.i (by unfold DwI; omega)).trans T.2.2.2.2.1) (fun c => absurd good c) (fun _ => ?_)⟩
  refine r_years42 (N := n) (by omega) (by omega) k16 (by omega) n 0 0 (said h y) h2 S' c' (by omega) (by omega) M2 eS2 W (by omega) LX2.2.2.2.1 (by rw [F2.i (by unfold DwI; omega)]) YN (fun h3 F3 e3 => ⟨rfl, s, p, ?_⟩)
  obtain ⟨off, -⟩ := YN.off
  obtain ⟨WS', y3⟩ := YN.wf W (by omega)
  have FJ : FrJ (fun a k => DwI b s a k ∨ YrI y a k) (fun _ _ => False) h h3 := ((F2.j _).weak (fun a k q => Or.inl q) (fun _ _ q => q)).tr ((F3.j _).weak (fun a k q => Or.inr q) (fun _ _ q => q))
  refine I.core FJ (fun a k q => by unfold DwI YrI at q; unfold Tight; omega) (fun _ _ q => q.elim) ⟨?_, by rw [e3]; exact WS', by rw [e3, y3]; omega, ?_, I.2.2.2.2.2.2.fr (fun a k h1 h2 => FJ.i (fun q => by unfold DwI YrI at q; omega))⟩
  · rw [e3]
    exact X2.2.2.1.fr (fun a k h1 h2 => F3.i (by unfold YrI; omega))
  · rw [e3]
    rcases X2.2.2.2.2.1 with q | q
    · exact Or.inl q
    · exact Or.inr (q.fr (fun a k h1 h2 => F3.i (by unfold YrI; omega)))
